def wq_X7_begin_79 : Nat → (Int32 → HS → Prop) → (Nat → Nat) → HS → Nat → Int32 → Prop
  | 0, _, _, _, _, _ => False
  | n + 1, post, R, S, b0, x2 => (((13 : Int32) ≤ x2 → post (1 : Int32) S) ∧ (¬ (13 : Int32) ≤ x2 → vp_in x2 13 ∧ (wq_X7_begin_79 n post R (sai S (R 17) x2.toNatClampNeg (0 : Int32)) b0 (x2 + (1 : Int32)))))
def wq_X7_begin_58 : Nat → (Int32 → HS → Prop) → (Nat → Nat) → HS → Nat → Int32 → Prop
  | 0, _, _, _, _, _ => False
  | n + 1, post, R, S, b0, x2 => (((64 : Int32) ≤ x2 → ∃ n9, wq_X7_begin_79 n9 post R S b0 (0 : Int32)) ∧ (¬ (64 : Int32) ≤ x2 → vp_in x2 64 ∧ (wq_X7_begin_58 n post R (sai S (R 6) x2.toNatClampNeg (0 : Int32)) b0 (x2 + (1 : Int32)))))
def wq_X7_begin_30 : Nat → (Int32 → HS → Prop) → (Nat → Nat) → HS → Nat → Int32 → Prop
  | 0, _, _, _, _, _ => False
  | n + 1, post, R, S, b0, x2 => (((8 : Int32) ≤ x2 → ∃ n9, wq_X7_begin_58 n9 post R S b0 (0 : Int32)) ∧ (¬ (8 : Int32) ≤ x2 → vp_in x2 8 ∧ (vp_in x2 8 ∧ (wq_X7_begin_30 n post R (sai (sai S (R 8) x2.toNatClampNeg (0 : Int32)) (R 7) x2.toNatClampNeg (0 : Int32)) b0 (x2 + (1 : Int32))))))
theorem wl_X7_begin_79 {post postq : Int32 → HS → Prop} {R : Nat → Nat} {o : Nat} (hp : ∀ r S', RM S' o R → postq r S' → post r S') : ∀ (n : Nat), ∀ (S : HS) (x2 : Int32), RM S o R → wq_X7_begin_79 n postq R S o x2 → wp_X7_begin_79 n post S o x2 := by
  intro n
  induction n with
  | zero => intro S x2 hM hq; exact hq.elim
  | succ n ih =>
    intro S x2 hM hq
    refine ⟨fun c5 => ?_, fun c5 => ?_⟩
    · have hq := hq.1 c5
      exact hp _ _ hM hq
    · have hq := hq.2 c5
      refine ⟨hM.1, ?_⟩
      refine ⟨R 17, hM.f 17 (by decide), ?_⟩
      refine ⟨hM.t 17 (by decide), ?_⟩
      obtain ⟨i7, hq⟩ := hq
      refine ⟨hM.i 17 (by decide) i7, ?_⟩
      have hM : RM (sai S (R 17) x2.toNatClampNeg (0 : Int32)) o R := hM.wai
      exact ih (sai S (R 17) x2.toNatClampNeg (0 : Int32)) (x2 + (1 : Int32)) hM hq
theorem wl_X7_begin_58 {post postq : Int32 → HS → Prop} {R : Nat → Nat} {o : Nat} (hp : ∀ r S', RM S' o R → postq r S' → post r S') : ∀ (n : Nat), ∀ (S : HS) (x2 : Int32), RM S o R → wq_X7_begin_58 n postq R S o x2 → wp_X7_begin_58 n post S o x2 := by
  intro n
  induction n with
  | zero => intro S x2 hM hq; exact hq.elim
  | succ n ih =>
    intro S x2 hM hq
    refine ⟨fun c4 => ?_, fun c4 => ?_⟩
    · have hq := hq.1 c4
      obtain ⟨n9, hq⟩ := hq
      exact ⟨n9, wl_X7_begin_79 hp n9 S (0 : Int32) hM hq⟩
    · have hq := hq.2 c4
      refine ⟨hM.1, ?_⟩
      refine ⟨R 6, hM.f 6 (by decide), ?_⟩
      refine ⟨hM.t 6 (by decide), ?_⟩
      obtain ⟨i9, hq⟩ := hq
      refine ⟨hM.i 6 (by decide) i9, ?_⟩
      have hM : RM (sai S (R 6) x2.toNatClampNeg (0 : Int32)) o R := hM.wai
      exact ih (sai S (R 6) x2.toNatClampNeg (0 : Int32)) (x2 + (1 : Int32)) hM hq
theorem wl_X7_begin_30 {post postq : Int32 → HS → Prop} {R : Nat → Nat} {o : Nat} (hp : ∀ r S', RM S' o R → postq r S' → post r S') : ∀ (n : Nat), ∀ (S : HS) (x2 : Int32), RM S o R → wq_X7_begin_30 n postq R S o x2 → wp_X7_begin_30 n post S o x2 := by
  intro n
  induction n with
  | zero => intro S x2 hM hq; exact hq.elim
  | succ n ih =>
    intro S x2 hM hq
    refine ⟨fun c3 => ?_, fun c3 => ?_⟩
    · have hq := hq.1 c3
      obtain ⟨n9, hq⟩ := hq
      exact ⟨n9, wl_X7_begin_58 hp n9 S (0 : Int32) hM hq⟩
    · have hq := hq.2 c3
      refine ⟨hM.1, ?_⟩
      refine ⟨R 8, hM.f 8 (by decide), ?_⟩
      refine ⟨hM.t 8 (by decide), ?_⟩
      obtain ⟨i11, hq⟩ := hq
      refine ⟨hM.i 8 (by decide) i11, ?_⟩
      have hM : RM (sai S (R 8) x2.toNatClampNeg (0 : Int32)) o R := hM.wai
      refine ⟨R 7, hM.f 7 (by decide), ?_⟩
      refine ⟨hM.t 7 (by decide), ?_⟩
      obtain ⟨i13, hq⟩ := hq
      refine ⟨hM.i 7 (by decide) i13, ?_⟩
      have hM : RM (sai (sai S (R 8) x2.toNatClampNeg (0 : Int32)) (R 7) x2.toNatClampNeg (0 : Int32)) o R := hM.wai
      exact ih (sai (sai S (R 8) x2.toNatClampNeg (0 : Int32)) (R 7) x2.toNatClampNeg (0 : Int32)) (x2 + (1 : Int32)) hM hq
def wq_X7_begin (post : Int32 → HS → Prop) (R : Nat → Nat) (S : HS) (a0 : Nat) (v1 : Int32) : Prop := ((v1 < (2 : Int32) → post (0 : Int32) S) ∧ (¬ v1 < (2 : Int32) → ((v1 ≤ (8 : Int32) → ∃ n9, wq_X7_begin_30 n9 post R (sfi (sfi (sfi S 27 a0 v1) 28 a0 (0 : Int32)) 47 a0 (0 : Int32)) a0 (0 : Int32)) ∧ (¬ v1 ≤ (8 : Int32) → post (0 : Int32) S))))
theorem wr_X7_begin {post postq : Int32 → HS → Prop} {R : Nat → Nat} {S : HS} {o : Nat} {v1 : Int32} (hM : RM S o R) (hq : wq_X7_begin postq R S o v1) (hp : ∀ r S', RM S' o R → postq r S' → post r S') : wp_X7_begin post S o v1 := by
  refine ⟨fun c1 => ?_, fun c1 => ?_⟩
  · have hq := hq.1 c1
    exact hp _ _ hM hq
  · have hq := hq.2 c1
    refine ⟨fun c2 => ?_, fun c2 => ?_⟩
    · have hq := hq.1 c2
      refine ⟨hM.1, ?_⟩
      have hM : RM (sfi S 27 o v1) o R := hM.wfi
      have hM : RM (sfi (sfi S 27 o v1) 28 o (0 : Int32)) o R := hM.wfi
      have hM : RM (sfi (sfi (sfi S 27 o v1) 28 o (0 : Int32)) 47 o (0 : Int32)) o R := hM.wfi
      obtain ⟨n9, hq⟩ := hq
      exact ⟨n9, wl_X7_begin_30 hp n9 (sfi (sfi (sfi S 27 o v1) 28 o (0 : Int32)) 47 o (0 : Int32)) (0 : Int32) hM hq⟩
    · have hq := hq.2 c2
      exact hp _ _ hM hq
def wq_X7_isEndpoint (post : Int32 → HS → Prop) (R : Nat → Nat) (S : HS) (a0 : Nat) (v1 : Int32) : Prop := ((v1 < 0 → post (0 : Int32) S) ∧ (¬ v1 < 0 → (((fi S 27 a0) ≤ v1 → post (0 : Int32) S) ∧ (¬ (fi S 27 a0) ≤ v1 → post (1 : Int32) S))))
theorem wr_X7_isEndpoint {post postq : Int32 → HS → Prop} {R : Nat → Nat} {S : HS} {o : Nat} {v1 : Int32} (hM : RM S o R) (hq : wq_X7_isEndpoint postq R S o v1) (hp : ∀ r S', RM S' o R → postq r S' → post r S') : wp_X7_isEndpoint post S o v1 := by
  refine ⟨fun c1 => ?_, fun c1 => ?_⟩
  · have hq := hq.1 c1
    exact hp _ _ hM hq
  · have hq := hq.2 c1
    refine ⟨hM.1, ?_⟩
    refine ⟨fun c2 => ?_, fun c2 => ?_⟩
    · have hq := hq.1 c2
      exact hp _ _ hM hq
    · have hq := hq.2 c2
      exact hp _ _ hM hq
def wq_X7_isStation (post : Int32 → HS → Prop) (R : Nat → Nat) (S : HS) (a0 : Nat) (v1 : Int32) : Prop := ((v1 < 0 → post (0 : Int32) S) ∧ (¬ v1 < 0 → (((fi S 28 a0) ≤ v1 → post (0 : Int32) S) ∧ (¬ (fi S 28 a0) ≤ v1 → post (1 : Int32) S))))
theorem wr_X7_isStation {post postq : Int32 → HS → Prop} {R : Nat → Nat} {S : HS} {o : Nat} {v1 : Int32} (hM : RM S o R) (hq : wq_X7_isStation postq R S o v1) (hp : ∀ r S', RM S' o R → postq r S' → post r S') : wp_X7_isStation post S o v1 := by
  refine ⟨fun c1 => ?_, fun c1 => ?_⟩
  · have hq := hq.1 c1
    exact hp _ _ hM hq
  · have hq := hq.2 c1
    refine ⟨hM.1, ?_⟩
    refine ⟨fun c2 => ?_, fun c2 => ?_⟩
    · have hq := hq.1 c2
      exact hp _ _ hM hq
    · have hq := hq.2 c2
      exact hp _ _ hM hq
def wq_X7_station (post : Int32 → HS → Prop) (R : Nat → Nat) (S : HS) (a0 : Nat) (v1 : Int32) (v2 : Int32) (v3 : Int32) : Prop := wq_X7_isEndpoint (fun r2 S1 => ((r2 = 0 → post (-1 : Int32) S1) ∧ (¬ r2 = 0 → ((v2 < 0 → post (-1 : Int32) S1) ∧ (¬ v2 < 0 → (((16777215 : Int32) < v2 → post (-1 : Int32) S1) ∧ (¬ (16777215 : Int32) < v2 → ((¬ (fi S1 28 a0) = (32 : Int32) → vp_in (fi S1 28 a0) 32 ∧ (vp_in (fi S1 28 a0) 32 ∧ (vp_in (fi S1 28 a0) 32 ∧ (vp_in (fi S1 28 a0) 32 ∧ (post (fi S1 28 a0) (sai (sai (sai (sai (sfi S1 28 a0 ((fi S1 28 a0) + (1 : Int32))) (R 0) (fi S1 28 a0).toNatClampNeg v1) (R 1) (fi S1 28 a0).toNatClampNeg v2) (R 2) (fi S1 28 a0).toNatClampNeg v3) (R 3) (fi S1 28 a0).toNatClampNeg (0 : Int32))))))) ∧ ((fi S1 28 a0) = (32 : Int32) → post (-1 : Int32) S1))))))))) R S a0 v1
theorem wr_X7_station {post postq : Int32 → HS → Prop} {R : Nat → Nat} {S : HS} {o : Nat} {v1 : Int32} {v2 : Int32} {v3 : Int32} (hM : RM S o R) (hq : wq_X7_station postq R S o v1 v2 v3) (hp : ∀ r S', RM S' o R → postq r S' → post r S') : wp_X7_station post S o v1 v2 v3 := by
  refine ⟨hM.1, ?_⟩
  refine wr_X7_isEndpoint hM hq (fun r2 S1 hM hq => ?_)
  refine ⟨fun c3 => ?_, fun c3 => ?_⟩
  · have hq := hq.1 c3
    exact hp _ _ hM hq
  · have hq := hq.2 c3
    refine ⟨fun c4 => ?_, fun c4 => ?_⟩
    · have hq := hq.1 c4
      exact hp _ _ hM hq
    · have hq := hq.2 c4
      refine ⟨fun c5 => ?_, fun c5 => ?_⟩
      · have hq := hq.1 c5
        exact hp _ _ hM hq
      · have hq := hq.2 c5
        refine ⟨fun c6 => ?_, fun c6 => ?_⟩
        · have hq := hq.1 c6
          have hM : RM (sfi S1 28 o ((fi S1 28 o) + (1 : Int32))) o R := hM.wfi
          refine ⟨R 0, hM.f 0 (by decide), ?_⟩
          refine ⟨hM.t 0 (by decide), ?_⟩
          obtain ⟨i8, hq⟩ := hq
          refine ⟨hM.i 0 (by decide) i8, ?_⟩
          have hM : RM (sai (sfi S1 28 o ((fi S1 28 o) + (1 : Int32))) (R 0) (fi S1 28 o).toNatClampNeg v1) o R := hM.wai
          refine ⟨R 1, hM.f 1 (by decide), ?_⟩
          refine ⟨hM.t 1 (by decide), ?_⟩
          obtain ⟨i10, hq⟩ := hq
          refine ⟨hM.i 1 (by decide) i10, ?_⟩
          have hM : RM (sai (sai (sfi S1 28 o ((fi S1 28 o) + (1 : Int32))) (R 0) (fi S1 28 o).toNatClampNeg v1) (R 1) (fi S1 28 o).toNatClampNeg v2) o R := hM.wai
          refine ⟨R 2, hM.f 2 (by decide), ?_⟩
          refine ⟨hM.t 2 (by decide), ?_⟩
          obtain ⟨i12, hq⟩ := hq
          refine ⟨hM.i 2 (by decide) i12, ?_⟩
          have hM : RM (sai (sai (sai (sfi S1 28 o ((fi S1 28 o) + (1 : Int32))) (R 0) (fi S1 28 o).toNatClampNeg v1) (R 1) (fi S1 28 o).toNatClampNeg v2) (R 2) (fi S1 28 o).toNatClampNeg v3) o R := hM.wai
          refine ⟨R 3, hM.f 3 (by decide), ?_⟩
          refine ⟨hM.t 3 (by decide), ?_⟩
          obtain ⟨i14, hq⟩ := hq
          refine ⟨hM.i 3 (by decide) i14, ?_⟩
          have hM : RM (sai (sai (sai (sai (sfi S1 28 o ((fi S1 28 o) + (1 : Int32))) (R 0) (fi S1 28 o).toNatClampNeg v1) (R 1) (fi S1 28 o).toNatClampNeg v2) (R 2) (fi S1 28 o).toNatClampNeg v3) (R 3) (fi S1 28 o).toNatClampNeg (0 : Int32)) o R := hM.wai
          exact hp _ _ hM hq
        · have hq := hq.2 c6
          exact hp _ _ hM hq
def wq_X7_move (post : Int32 → HS → Prop) (R : Nat → Nat) (S : HS) (a0 : Nat) (v1 : Int32) (v2 : Int32) : Prop := wq_X7_isStation (fun r2 S1 => ((r2 = 0 → post (0 : Int32) S1) ∧ (¬ r2 = 0 → wq_X7_isEndpoint (fun r5 S4 => ((¬ r5 = 0 → vp_in v1 32 ∧ (post (1 : Int32) (sai S4 (R 0) v1.toNatClampNeg v2))) ∧ (r5 = 0 → post (0 : Int32) S4))) R S1 a0 v2))) R S a0 v1
theorem wr_X7_move {post postq : Int32 → HS → Prop} {R : Nat → Nat} {S : HS} {o : Nat} {v1 : Int32} {v2 : Int32} (hM : RM S o R) (hq : wq_X7_move postq R S o v1 v2) (hp : ∀ r S', RM S' o R → postq r S' → post r S') : wp_X7_move post S o v1 v2 := by
  refine ⟨hM.1, ?_⟩
  refine wr_X7_isStation hM hq (fun r2 S1 hM hq => ?_)
  refine ⟨fun c3 => ?_, fun c3 => ?_⟩
  · have hq := hq.1 c3
    exact hp _ _ hM hq
  · have hq := hq.2 c3
    refine wr_X7_isEndpoint hM hq (fun r5 S4 hM hq => ?_)
    refine ⟨fun c6 => ?_, fun c6 => ?_⟩
    · have hq := hq.1 c6
      refine ⟨R 0, hM.f 0 (by decide), ?_⟩
      refine ⟨hM.t 0 (by decide), ?_⟩
      obtain ⟨i8, hq⟩ := hq
      refine ⟨hM.i 0 (by decide) i8, ?_⟩
      have hM : RM (sai S4 (R 0) v1.toNatClampNeg v2) o R := hM.wai
      exact hp _ _ hM hq
    · have hq := hq.2 c6
      exact hp _ _ hM hq
def wq_X7_way (post : Int32 → HS → Prop) (R : Nat → Nat) (S : HS) (a0 : Nat) (v1 : Int32) (v2 : Int32) (v3 : Int32) : Prop := wq_X7_isEndpoint (fun r2 S1 => ((r2 = 0 → post (0 : Int32) S1) ∧ (¬ r2 = 0 → wq_X7_isEndpoint (fun r5 S4 => ((r5 = 0 → post (0 : Int32) S4) ∧ (¬ r5 = 0 → ((v1 = v2 → post (0 : Int32) S4) ∧ (¬ v1 = v2 → ((v3 < 0 → post (0 : Int32) S4) ∧ (¬ v3 < 0 → ((v3 ≤ (2 : Int32) → vp_in (((8 : Int32) * v1) + v2) 64 ∧ (post (1 : Int32) (sai S4 (R 6) (((8 : Int32) * v1) + v2).toNatClampNeg v3))) ∧ (¬ v3 ≤ (2 : Int32) → post (0 : Int32) S4))))))))) R S1 a0 v2))) R S a0 v1
theorem wr_X7_way {post postq : Int32 → HS → Prop} {R : Nat → Nat} {S : HS} {o : Nat} {v1 : Int32} {v2 : Int32} {v3 : Int32} (hM : RM S o R) (hq : wq_X7_way postq R S o v1 v2 v3) (hp : ∀ r S', RM S' o R → postq r S' → post r S') : wp_X7_way post S o v1 v2 v3 := by
  refine ⟨hM.1, ?_⟩
  refine wr_X7_isEndpoint hM hq (fun r2 S1 hM hq => ?_)
  refine ⟨fun c3 => ?_, fun c3 => ?_⟩
  · have hq := hq.1 c3
    exact hp _ _ hM hq
  · have hq := hq.2 c3
    refine wr_X7_isEndpoint hM hq (fun r5 S4 hM hq => ?_)
    refine ⟨fun c6 => ?_, fun c6 => ?_⟩
    · have hq := hq.1 c6
      exact hp _ _ hM hq
    · have hq := hq.2 c6
      refine ⟨fun c7 => ?_, fun c7 => ?_⟩
      · have hq := hq.1 c7
        exact hp _ _ hM hq
      · have hq := hq.2 c7
        refine ⟨fun c8 => ?_, fun c8 => ?_⟩
        · have hq := hq.1 c8
          exact hp _ _ hM hq
        · have hq := hq.2 c8
          refine ⟨fun c9 => ?_, fun c9 => ?_⟩
          · have hq := hq.1 c9
            refine ⟨R 6, hM.f 6 (by decide), ?_⟩
            refine ⟨hM.t 6 (by decide), ?_⟩
            obtain ⟨i11, hq⟩ := hq
            refine ⟨hM.i 6 (by decide) i11, ?_⟩
            have hM : RM (sai S4 (R 6) (((8 : Int32) * v1) + v2).toNatClampNeg v3) o R := hM.wai
            exact hp _ _ hM hq
          · have hq := hq.2 c9
            exact hp _ _ hM hq
def wq_X7_feed (post : Int32 → HS → Prop) (R : Nat → Nat) (S : HS) (a0 : Nat) (v1 : Int32) : Prop := ((v1 < 0 → post (0 : Int32) S) ∧ (¬ v1 < 0 → (((255 : Int32) < v1 → post (0 : Int32) S) ∧ (¬ (255 : Int32) < v1 → ((¬ (fi S 43 a0) = (120 : Int32) → vp_in (fi S 43 a0) 120 ∧ (post (1 : Int32) (sfi (sai S (R 13) (fi S 43 a0).toNatClampNeg ((v1.toInt8.toInt32).toInt8.toInt32)) 43 a0 ((fi (sai S (R 13) (fi S 43 a0).toNatClampNeg ((v1.toInt8.toInt32).toInt8.toInt32)) 43 a0) + (1 : Int32))))) ∧ ((fi S 43 a0) = (120 : Int32) → post (0 : Int32) S))))))
theorem wr_X7_feed {post postq : Int32 → HS → Prop} {R : Nat → Nat} {S : HS} {o : Nat} {v1 : Int32} (hM : RM S o R) (hq : wq_X7_feed postq R S o v1) (hp : ∀ r S', RM S' o R → postq r S' → post r S') : wp_X7_feed post S o v1 := by
  refine ⟨fun c1 => ?_, fun c1 => ?_⟩
  · have hq := hq.1 c1
    exact hp _ _ hM hq
  · have hq := hq.2 c1
    refine ⟨fun c2 => ?_, fun c2 => ?_⟩
    · have hq := hq.1 c2
      exact hp _ _ hM hq
    · have hq := hq.2 c2
      refine ⟨hM.1, ?_⟩
      refine ⟨fun c3 => ?_, fun c3 => ?_⟩
      · have hq := hq.1 c3
        refine ⟨R 13, hM.f 13 (by decide), ?_⟩
        refine ⟨hM.t 13 (by decide), ?_⟩
        obtain ⟨i5, hq⟩ := hq
        refine ⟨hM.i 13 (by decide) i5, ?_⟩
        have hM : RM (sai S (R 13) (fi S 43 o).toNatClampNeg ((v1.toInt8.toInt32).toInt8.toInt32)) o R := hM.wai
        have hM : RM (sfi (sai S (R 13) (fi S 43 o).toNatClampNeg ((v1.toInt8.toInt32).toInt8.toInt32)) 43 o ((fi (sai S (R 13) (fi S 43 o).toNatClampNeg ((v1.toInt8.toInt32).toInt8.toInt32)) 43 o) + (1 : Int32))) o R := hM.wfi
        exact hp _ _ hM hq
      · have hq := hq.2 c3
        exact hp _ _ hM hq
def wq_X7_has_5 : Nat → (Int32 → HS → Prop) → (Nat → Nat) → HS → Nat → Int32 → Int32 → Int32 → Int32 → Prop
  | 0, _, _, _, _, _, _, _, _ => False
  | n + 1, post, R, S, b0, x1, x2, x3, x4 => (((fi S 28 b0) ≤ x4 → narrow .boolean (.int x3) = .int x3 ∧ post x3 S) ∧ (¬ (fi S 28 b0) ≤ x4 → vp_in x4 32 ∧ (((¬ (ai S (R 0) x4.toNatClampNeg) = x1 → wq_X7_has_5 n post R S b0 x1 x2 (x3 ||| (0 : Int32)) (x4 + (1 : Int32))) ∧ ((ai S (R 0) x4.toNatClampNeg) = x1 → vp_in x4 32 ∧ (((¬ (ai S (R 1) x4.toNatClampNeg) = x2 → wq_X7_has_5 n post R S b0 x1 x2 (x3 ||| (0 : Int32)) (x4 + (1 : Int32))) ∧ ((ai S (R 1) x4.toNatClampNeg) = x2 → wq_X7_has_5 n post R S b0 x1 x2 (x3 ||| (1 : Int32)) (x4 + (1 : Int32))))))))))
theorem wl_X7_has_5 {post postq : Int32 → HS → Prop} {R : Nat → Nat} {o : Nat} (hp : ∀ r S', RM S' o R → postq r S' → post r S') : ∀ (n : Nat), ∀ (S : HS) (x1 : Int32) (x2 : Int32) (x3 : Int32) (x4 : Int32), RM S o R → wq_X7_has_5 n postq R S o x1 x2 x3 x4 → wp_X7_has_5 n post S o x1 x2 x3 x4 := by
  intro n
  induction n with
  | zero => intro S x1 x2 x3 x4 hM hq; exact hq.elim
  | succ n ih =>
    intro S x1 x2 x3 x4 hM hq
    refine ⟨hM.1, ?_⟩
    refine ⟨fun c1 => ?_, fun c1 => ?_⟩
    · have hq := hq.1 c1
      exact ⟨hq.1, hp _ _ hM hq.2⟩
    · have hq := hq.2 c1
      refine ⟨R 0, hM.f 0 (by decide), ?_⟩
      refine ⟨hM.t 0 (by decide), ?_⟩
      obtain ⟨i3, hq⟩ := hq
      refine ⟨hM.i 0 (by decide) i3, ?_⟩
      refine ⟨fun c4 => ?_, fun c4 => ?_⟩
      · have hq := hq.1 c4
        exact ih S x1 x2 (x3 ||| (0 : Int32)) (x4 + (1 : Int32)) hM hq
      · have hq := hq.2 c4
        refine ⟨R 1, hM.f 1 (by decide), ?_⟩
        refine ⟨hM.t 1 (by decide), ?_⟩
        obtain ⟨i6, hq⟩ := hq
        refine ⟨hM.i 1 (by decide) i6, ?_⟩
        refine ⟨fun c7 => ?_, fun c7 => ?_⟩
        · have hq := hq.1 c7
          exact ih S x1 x2 (x3 ||| (0 : Int32)) (x4 + (1 : Int32)) hM hq
        · have hq := hq.2 c7
          exact ih S x1 x2 (x3 ||| (1 : Int32)) (x4 + (1 : Int32)) hM hq
def wq_X7_has (post : Int32 → HS → Prop) (R : Nat → Nat) (S : HS) (a0 : Nat) (v1 : Int32) (v2 : Int32) : Prop := ∃ n9, wq_X7_has_5 n9 post R S a0 v1 v2 (0 : Int32) (0 : Int32)
theorem wr_X7_has {post postq : Int32 → HS → Prop} {R : Nat → Nat} {S : HS} {o : Nat} {v1 : Int32} {v2 : Int32} (hM : RM S o R) (hq : wq_X7_has postq R S o v1 v2) (hp : ∀ r S', RM S' o R → postq r S' → post r S') : wp_X7_has post S o v1 v2 := by
  obtain ⟨n9, hq⟩ := hq
  exact ⟨n9, wl_X7_has_5 hp n9 S v1 v2 (0 : Int32) (0 : Int32) hM hq⟩
def wq_X7_find_6 : Nat → (Int32 → HS → Prop) → (Nat → Nat) → HS → Nat → Int32 → Int32 → Int64 → Int32 → Prop
  | 0, _, _, _, _, _, _, _, _ => False
  | n + 1, post, R, S, b0, x1, x2, y3, x5 => vp_in x1 8 ∧ ((((((24 : Int32) * x1) + (ai S (R 8) x1.toNatClampNeg)) ≤ x5 → post (-1 : Int32) S) ∧ (¬ (((24 : Int32) * x1) + (ai S (R 8) x1.toNatClampNeg)) ≤ x5 → vp_in x5 192 ∧ (((¬ (ai S (R 9) x5.toNatClampNeg) = x2 → wq_X7_find_6 n post R S b0 x1 x2 y3 (x5 + (1 : Int32))) ∧ ((ai S (R 9) x5.toNatClampNeg) = x2 → vp_in x5 192 ∧ (((¬ (lg_cmp (al S (R 10) x5.toNatClampNeg) y3) = 0 → wq_X7_find_6 n post R S b0 x1 x2 y3 (x5 + (1 : Int32))) ∧ ((lg_cmp (al S (R 10) x5.toNatClampNeg) y3) = 0 → post x5 S)))))))))
theorem wl_X7_find_6 {post postq : Int32 → HS → Prop} {R : Nat → Nat} {o : Nat} (hp : ∀ r S', RM S' o R → postq r S' → post r S') : ∀ (n : Nat), ∀ (S : HS) (x1 : Int32) (x2 : Int32) (y3 : Int64) (x5 : Int32), RM S o R → wq_X7_find_6 n postq R S o x1 x2 y3 x5 → wp_X7_find_6 n post S o x1 x2 y3 x5 := by
  intro n
  induction n with
  | zero => intro S x1 x2 y3 x5 hM hq; exact hq.elim
  | succ n ih =>
    intro S x1 x2 y3 x5 hM hq
    refine ⟨hM.1, ?_⟩
    refine ⟨R 8, hM.f 8 (by decide), ?_⟩
    refine ⟨hM.t 8 (by decide), ?_⟩
    obtain ⟨i2, hq⟩ := hq
    refine ⟨hM.i 8 (by decide) i2, ?_⟩
    refine ⟨fun c3 => ?_, fun c3 => ?_⟩
    · have hq := hq.1 c3
      exact hp _ _ hM hq
    · have hq := hq.2 c3
      refine ⟨R 9, hM.f 9 (by decide), ?_⟩
      refine ⟨hM.t 9 (by decide), ?_⟩
      obtain ⟨i5, hq⟩ := hq
      refine ⟨hM.i 9 (by decide) i5, ?_⟩
      refine ⟨fun c6 => ?_, fun c6 => ?_⟩
      · have hq := hq.1 c6
        exact ih S x1 x2 y3 (x5 + (1 : Int32)) hM hq
      · have hq := hq.2 c6
        refine ⟨R 10, hM.f 10 (by decide), ?_⟩
        refine ⟨hM.t 10 (by decide), ?_⟩
        obtain ⟨i8, hq⟩ := hq
        refine ⟨hM.i 10 (by decide) i8, ?_⟩
        refine ⟨fun c9 => ?_, fun c9 => ?_⟩
        · have hq := hq.1 c9
          exact ih S x1 x2 y3 (x5 + (1 : Int32)) hM hq
        · have hq := hq.2 c9
          exact hp _ _ hM hq
def wq_X7_find (post : Int32 → HS → Prop) (R : Nat → Nat) (S : HS) (a0 : Nat) (v1 : Int32) (v2 : Int32) (w3 : Int64) : Prop := ∃ n9, wq_X7_find_6 n9 post R S a0 v1 v2 w3 ((24 : Int32) * v1)
theorem wr_X7_find {post postq : Int32 → HS → Prop} {R : Nat → Nat} {S : HS} {o : Nat} {v1 : Int32} {v2 : Int32} {w3 : Int64} (hM : RM S o R) (hq : wq_X7_find postq R S o v1 v2 w3) (hp : ∀ r S', RM S' o R → postq r S' → post r S') : wp_X7_find post S o v1 v2 w3 := by
  obtain ⟨n9, hq⟩ := hq
  exact ⟨n9, wl_X7_find_6 hp n9 S v1 v2 w3 ((24 : Int32) * v1) hM hq⟩
def wq_X7_remove_12 : Nat → (Unit → HS → Prop) → (Nat → Nat) → HS → Nat → Int32 → Int32 → Prop
  | 0, _, _, _, _, _, _ => False
  | n + 1, post, R, S, b0, x1, x3 => vp_in x1 8 ∧ ((((((24 : Int32) * x1) + (ai S (R 8) x1.toNatClampNeg)) ≤ x3 → post () S) ∧ (¬ (((24 : Int32) * x1) + (ai S (R 8) x1.toNatClampNeg)) ≤ x3 → vp_in (x3 + (1 : Int32)) 192 ∧ (vp_in x3 192 ∧ (vp_in (x3 + (1 : Int32)) 192 ∧ (vp_in x3 192 ∧ (vp_in (x3 + (1 : Int32)) 192 ∧ (vp_in x3 192 ∧ (vp_in (x3 + (1 : Int32)) 192 ∧ (vp_in x3 192 ∧ (wq_X7_remove_12 n post R (sal (sai (sal (sai S (R 9) x3.toNatClampNeg (ai S (R 9) (x3 + (1 : Int32)).toNatClampNeg)) (R 10) x3.toNatClampNeg (al (sai S (R 9) x3.toNatClampNeg (ai S (R 9) (x3 + (1 : Int32)).toNatClampNeg)) (R 10) (x3 + (1 : Int32)).toNatClampNeg)) (R 11) x3.toNatClampNeg (ai (sal (sai S (R 9) x3.toNatClampNeg (ai S (R 9) (x3 + (1 : Int32)).toNatClampNeg)) (R 10) x3.toNatClampNeg (al (sai S (R 9) x3.toNatClampNeg (ai S (R 9) (x3 + (1 : Int32)).toNatClampNeg)) (R 10) (x3 + (1 : Int32)).toNatClampNeg)) (R 11) (x3 + (1 : Int32)).toNatClampNeg)) (R 12) x3.toNatClampNeg (al (sai (sal (sai S (R 9) x3.toNatClampNeg (ai S (R 9) (x3 + (1 : Int32)).toNatClampNeg)) (R 10) x3.toNatClampNeg (al (sai S (R 9) x3.toNatClampNeg (ai S (R 9) (x3 + (1 : Int32)).toNatClampNeg)) (R 10) (x3 + (1 : Int32)).toNatClampNeg)) (R 11) x3.toNatClampNeg (ai (sal (sai S (R 9) x3.toNatClampNeg (ai S (R 9) (x3 + (1 : Int32)).toNatClampNeg)) (R 10) x3.toNatClampNeg (al (sai S (R 9) x3.toNatClampNeg (ai S (R 9) (x3 + (1 : Int32)).toNatClampNeg)) (R 10) (x3 + (1 : Int32)).toNatClampNeg)) (R 11) (x3 + (1 : Int32)).toNatClampNeg)) (R 12) (x3 + (1 : Int32)).toNatClampNeg)) b0 x1 (x3 + (1 : Int32)))))))))))))
theorem wl_X7_remove_12 {post postq : Unit → HS → Prop} {R : Nat → Nat} {o : Nat} (hp : ∀ r S', RM S' o R → postq r S' → post r S') : ∀ (n : Nat), ∀ (S : HS) (x1 : Int32) (x3 : Int32), RM S o R → wq_X7_remove_12 n postq R S o x1 x3 → wp_X7_remove_12 n post S o x1 x3 := by
  intro n
  induction n with
  | zero => intro S x1 x3 hM hq; exact hq.elim
  | succ n ih =>
    intro S x1 x3 hM hq
    refine ⟨hM.1, ?_⟩
    refine ⟨R 8, hM.f 8 (by decide), ?_⟩
    refine ⟨hM.t 8 (by decide), ?_⟩
    obtain ⟨i5, hq⟩ := hq
    refine ⟨hM.i 8 (by decide) i5, ?_⟩
    refine ⟨fun c6 => ?_, fun c6 => ?_⟩
    · have hq := hq.1 c6
      exact hp _ _ hM hq
    · have hq := hq.2 c6
      refine ⟨R 9, hM.f 9 (by decide), ?_⟩
      refine ⟨R 9, hM.f 9 (by decide), ?_⟩
      refine ⟨hM.t 9 (by decide), ?_⟩
      obtain ⟨i9, hq⟩ := hq
      refine ⟨hM.i 9 (by decide) i9, ?_⟩
      refine ⟨hM.t 9 (by decide), ?_⟩
      obtain ⟨i10, hq⟩ := hq
      refine ⟨hM.i 9 (by decide) i10, ?_⟩
      have hM : RM (sai S (R 9) x3.toNatClampNeg (ai S (R 9) (x3 + (1 : Int32)).toNatClampNeg)) o R := hM.wai
      refine ⟨R 10, hM.f 10 (by decide), ?_⟩
      refine ⟨R 10, hM.f 10 (by decide), ?_⟩
      refine ⟨hM.t 10 (by decide), ?_⟩
      obtain ⟨i13, hq⟩ := hq
      refine ⟨hM.i 10 (by decide) i13, ?_⟩
      refine ⟨hM.t 10 (by decide), ?_⟩
      obtain ⟨i14, hq⟩ := hq
      refine ⟨hM.i 10 (by decide) i14, ?_⟩
      have hM : RM (sal (sai S (R 9) x3.toNatClampNeg (ai S (R 9) (x3 + (1 : Int32)).toNatClampNeg)) (R 10) x3.toNatClampNeg (al (sai S (R 9) x3.toNatClampNeg (ai S (R 9) (x3 + (1 : Int32)).toNatClampNeg)) (R 10) (x3 + (1 : Int32)).toNatClampNeg)) o R := hM.wal
      refine ⟨R 11, hM.f 11 (by decide), ?_⟩
      refine ⟨R 11, hM.f 11 (by decide), ?_⟩
      refine ⟨hM.t 11 (by decide), ?_⟩
      obtain ⟨i17, hq⟩ := hq
      refine ⟨hM.i 11 (by decide) i17, ?_⟩
      refine ⟨hM.t 11 (by decide), ?_⟩
      obtain ⟨i18, hq⟩ := hq
      refine ⟨hM.i 11 (by decide) i18, ?_⟩
      have hM : RM (sai (sal (sai S (R 9) x3.toNatClampNeg (ai S (R 9) (x3 + (1 : Int32)).toNatClampNeg)) (R 10) x3.toNatClampNeg (al (sai S (R 9) x3.toNatClampNeg (ai S (R 9) (x3 + (1 : Int32)).toNatClampNeg)) (R 10) (x3 + (1 : Int32)).toNatClampNeg)) (R 11) x3.toNatClampNeg (ai (sal (sai S (R 9) x3.toNatClampNeg (ai S (R 9) (x3 + (1 : Int32)).toNatClampNeg)) (R 10) x3.toNatClampNeg (al (sai S (R 9) x3.toNatClampNeg (ai S (R 9) (x3 + (1 : Int32)).toNatClampNeg)) (R 10) (x3 + (1 : Int32)).toNatClampNeg)) (R 11) (x3 + (1 : Int32)).toNatClampNeg)) o R := hM.wai
      refine ⟨R 12, hM.f 12 (by decide), ?_⟩
      refine ⟨R 12, hM.f 12 (by decide), ?_⟩
      refine ⟨hM.t 12 (by decide), ?_⟩
      obtain ⟨i21, hq⟩ := hq
      refine ⟨hM.i 12 (by decide) i21, ?_⟩
      refine ⟨hM.t 12 (by decide), ?_⟩
      obtain ⟨i22, hq⟩ := hq
      refine ⟨hM.i 12 (by decide) i22, ?_⟩
      have hM : RM (sal (sai (sal (sai S (R 9) x3.toNatClampNeg (ai S (R 9) (x3 + (1 : Int32)).toNatClampNeg)) (R 10) x3.toNatClampNeg (al (sai S (R 9) x3.toNatClampNeg (ai S (R 9) (x3 + (1 : Int32)).toNatClampNeg)) (R 10) (x3 + (1 : Int32)).toNatClampNeg)) (R 11) x3.toNatClampNeg (ai (sal (sai S (R 9) x3.toNatClampNeg (ai S (R 9) (x3 + (1 : Int32)).toNatClampNeg)) (R 10) x3.toNatClampNeg (al (sai S (R 9) x3.toNatClampNeg (ai S (R 9) (x3 + (1 : Int32)).toNatClampNeg)) (R 10) (x3 + (1 : Int32)).toNatClampNeg)) (R 11) (x3 + (1 : Int32)).toNatClampNeg)) (R 12) x3.toNatClampNeg (al (sai (sal (sai S (R 9) x3.toNatClampNeg (ai S (R 9) (x3 + (1 : Int32)).toNatClampNeg)) (R 10) x3.toNatClampNeg (al (sai S (R 9) x3.toNatClampNeg (ai S (R 9) (x3 + (1 : Int32)).toNatClampNeg)) (R 10) (x3 + (1 : Int32)).toNatClampNeg)) (R 11) x3.toNatClampNeg (ai (sal (sai S (R 9) x3.toNatClampNeg (ai S (R 9) (x3 + (1 : Int32)).toNatClampNeg)) (R 10) x3.toNatClampNeg (al (sai S (R 9) x3.toNatClampNeg (ai S (R 9) (x3 + (1 : Int32)).toNatClampNeg)) (R 10) (x3 + (1 : Int32)).toNatClampNeg)) (R 11) (x3 + (1 : Int32)).toNatClampNeg)) (R 12) (x3 + (1 : Int32)).toNatClampNeg)) o R := hM.wal
      exact ih (sal (sai (sal (sai S (R 9) x3.toNatClampNeg (ai S (R 9) (x3 + (1 : Int32)).toNatClampNeg)) (R 10) x3.toNatClampNeg (al (sai S (R 9) x3.toNatClampNeg (ai S (R 9) (x3 + (1 : Int32)).toNatClampNeg)) (R 10) (x3 + (1 : Int32)).toNatClampNeg)) (R 11) x3.toNatClampNeg (ai (sal (sai S (R 9) x3.toNatClampNeg (ai S (R 9) (x3 + (1 : Int32)).toNatClampNeg)) (R 10) x3.toNatClampNeg (al (sai S (R 9) x3.toNatClampNeg (ai S (R 9) (x3 + (1 : Int32)).toNatClampNeg)) (R 10) (x3 + (1 : Int32)).toNatClampNeg)) (R 11) (x3 + (1 : Int32)).toNatClampNeg)) (R 12) x3.toNatClampNeg (al (sai (sal (sai S (R 9) x3.toNatClampNeg (ai S (R 9) (x3 + (1 : Int32)).toNatClampNeg)) (R 10) x3.toNatClampNeg (al (sai S (R 9) x3.toNatClampNeg (ai S (R 9) (x3 + (1 : Int32)).toNatClampNeg)) (R 10) (x3 + (1 : Int32)).toNatClampNeg)) (R 11) x3.toNatClampNeg (ai (sal (sai S (R 9) x3.toNatClampNeg (ai S (R 9) (x3 + (1 : Int32)).toNatClampNeg)) (R 10) x3.toNatClampNeg (al (sai S (R 9) x3.toNatClampNeg (ai S (R 9) (x3 + (1 : Int32)).toNatClampNeg)) (R 10) (x3 + (1 : Int32)).toNatClampNeg)) (R 11) (x3 + (1 : Int32)).toNatClampNeg)) (R 12) (x3 + (1 : Int32)).toNatClampNeg)) x1 (x3 + (1 : Int32)) hM hq
def wq_X7_remove (post : Unit → HS → Prop) (R : Nat → Nat) (S : HS) (a0 : Nat) (v1 : Int32) (v2 : Int32) : Prop := vp_in v1 8 ∧ (vp_in v1 8 ∧ (∃ n9, wq_X7_remove_12 n9 post R (sai S (R 8) v1.toNatClampNeg ((ai S (R 8) v1.toNatClampNeg) - (1 : Int32))) a0 v1 v2))
theorem wr_X7_remove {post postq : Unit → HS → Prop} {R : Nat → Nat} {S : HS} {o : Nat} {v1 : Int32} {v2 : Int32} (hM : RM S o R) (hq : wq_X7_remove postq R S o v1 v2) (hp : ∀ r S', RM S' o R → postq r S' → post r S') : wp_X7_remove post S o v1 v2 := by
  refine ⟨hM.1, ?_⟩
  refine ⟨R 8, hM.f 8 (by decide), ?_⟩
  refine ⟨hM.t 8 (by decide), ?_⟩
  obtain ⟨i2, hq⟩ := hq
  refine ⟨hM.i 8 (by decide) i2, ?_⟩
  obtain ⟨i3, hq⟩ := hq
  refine ⟨hM.i 8 (by decide) i3, ?_⟩
  have hM : RM (sai S (R 8) v1.toNatClampNeg ((ai S (R 8) v1.toNatClampNeg) - (1 : Int32))) o R := hM.wai
  obtain ⟨n9, hq⟩ := hq
  exact ⟨n9, wl_X7_remove_12 hp n9 (sai S (R 8) v1.toNatClampNeg ((ai S (R 8) v1.toNatClampNeg) - (1 : Int32))) v1 v2 hM hq⟩
def wq_X7_learn_133a (post : Unit → HS → Prop) (R : Nat → Nat) (S : HS) (b0 : Nat) (x1 : Int32) (x2 : Int32) (y3 : Int64) (x5 : Int32) : Prop := vp_in x1 8 ∧ (vp_in (((24 : Int32) * x1) + (ai S (R 8) x1.toNatClampNeg)) 192 ∧ (vp_in (((24 : Int32) * x1) + (ai S (R 8) x1.toNatClampNeg)) 192 ∧ (vp_in (((24 : Int32) * x1) + (ai S (R 8) x1.toNatClampNeg)) 192 ∧ (vp_in (((24 : Int32) * x1) + (ai S (R 8) x1.toNatClampNeg)) 192 ∧ (vp_in x1 8 ∧ (vp_in x1 8 ∧ (vp_in (11 : Int32) 13 ∧ (vp_in (11 : Int32) 13 ∧ (post () (sai (sai (sal (sai (sal (sai S (R 9) (((24 : Int32) * x1) + (ai S (R 8) x1.toNatClampNeg)).toNatClampNeg x2) (R 10) (((24 : Int32) * x1) + (ai S (R 8) x1.toNatClampNeg)).toNatClampNeg y3) (R 11) (((24 : Int32) * x1) + (ai S (R 8) x1.toNatClampNeg)).toNatClampNeg x5) (R 12) (((24 : Int32) * x1) + (ai S (R 8) x1.toNatClampNeg)).toNatClampNeg (0 : Int64)) (R 8) x1.toNatClampNeg ((ai (sal (sai (sal (sai S (R 9) (((24 : Int32) * x1) + (ai S (R 8) x1.toNatClampNeg)).toNatClampNeg x2) (R 10) (((24 : Int32) * x1) + (ai S (R 8) x1.toNatClampNeg)).toNatClampNeg y3) (R 11) (((24 : Int32) * x1) + (ai S (R 8) x1.toNatClampNeg)).toNatClampNeg x5) (R 12) (((24 : Int32) * x1) + (ai S (R 8) x1.toNatClampNeg)).toNatClampNeg (0 : Int64)) (R 8) x1.toNatClampNeg) + (1 : Int32))) (R 17) (11 : Int32).toNatClampNeg ((ai (sai (sal (sai (sal (sai S (R 9) (((24 : Int32) * x1) + (ai S (R 8) x1.toNatClampNeg)).toNatClampNeg x2) (R 10) (((24 : Int32) * x1) + (ai S (R 8) x1.toNatClampNeg)).toNatClampNeg y3) (R 11) (((24 : Int32) * x1) + (ai S (R 8) x1.toNatClampNeg)).toNatClampNeg x5) (R 12) (((24 : Int32) * x1) + (ai S (R 8) x1.toNatClampNeg)).toNatClampNeg (0 : Int64)) (R 8) x1.toNatClampNeg ((ai (sal (sai (sal (sai S (R 9) (((24 : Int32) * x1) + (ai S (R 8) x1.toNatClampNeg)).toNatClampNeg x2) (R 10) (((24 : Int32) * x1) + (ai S (R 8) x1.toNatClampNeg)).toNatClampNeg y3) (R 11) (((24 : Int32) * x1) + (ai S (R 8) x1.toNatClampNeg)).toNatClampNeg x5) (R 12) (((24 : Int32) * x1) + (ai S (R 8) x1.toNatClampNeg)).toNatClampNeg (0 : Int64)) (R 8) x1.toNatClampNeg) + (1 : Int32))) (R 17) (11 : Int32).toNatClampNeg) + (1 : Int32))))))))))))
def wq_X7_learn_70 : Nat → (Unit → HS → Prop) → (Nat → Nat) → HS → Nat → Int32 → Int32 → Int64 → Int32 → Int32 → Int32 → Prop
  | 0, _, _, _, _, _, _, _, _, _, _ => False
  | n + 1, post, R, S, b0, x1, x2, y3, x5, x7, x8 => (((((24 : Int32) * x1) + (24 : Int32)) ≤ x8 → wq_X7_remove (fun _ S25 => vp_in (12 : Int32) 13 ∧ (vp_in (12 : Int32) 13 ∧ (wq_X7_learn_133a post R (sai S25 (R 17) (12 : Int32).toNatClampNeg ((ai S25 (R 17) (12 : Int32).toNatClampNeg) + (1 : Int32))) b0 x1 x2 y3 x5))) R S b0 x1 x7) ∧ (¬ (((24 : Int32) * x1) + (24 : Int32)) ≤ x8 → vp_in x8 192 ∧ (vp_in x7 192 ∧ ((((lg_cmp (al S (R 12) x8.toNatClampNeg) (al S (R 12) x7.toNatClampNeg)) ≤ 0 → wq_X7_learn_70 n post R S b0 x1 x2 y3 x5 x7 (x8 + (1 : Int32))) ∧ (¬ (lg_cmp (al S (R 12) x8.toNatClampNeg) (al S (R 12) x7.toNatClampNeg)) ≤ 0 → wq_X7_learn_70 n post R S b0 x1 x2 y3 x5 x8 (x8 + (1 : Int32))))))))
def wq_X7_learn_47a (post : Unit → HS → Prop) (R : Nat → Nat) (S : HS) (b0 : Nat) (x1 : Int32) (x2 : Int32) (y3 : Int64) (x5 : Int32) : Prop := vp_in x1 8 ∧ (((¬ (ai S (R 8) x1.toNatClampNeg) = (24 : Int32) → wq_X7_learn_133a post R S b0 x1 x2 y3 x5) ∧ ((ai S (R 8) x1.toNatClampNeg) = (24 : Int32) → ∃ n9, wq_X7_learn_70 n9 post R S b0 x1 x2 y3 x5 ((24 : Int32) * x1) ((24 : Int32) * x1))))
def wq_X7_learn_35a (post : Unit → HS → Prop) (R : Nat → Nat) (S : HS) (b0 : Nat) (x1 : Int32) (x2 : Int32) (y3 : Int64) (x5 : Int32) (x6 : Int32) : Prop := ((x6 < 0 → wq_X7_learn_47a post R S b0 x1 x2 y3 x5) ∧ (¬ x6 < 0 → wq_X7_remove (fun _ S35 => wq_X7_learn_47a post R S35 b0 x1 x2 y3 x5) R S b0 x1 x6))
theorem wl_X7_learn_133a {post postq : Unit → HS → Prop} {R : Nat → Nat} {o : Nat} (hp : ∀ r S', RM S' o R → postq r S' → post r S') : ∀ (S : HS) (x1 : Int32) (x2 : Int32) (y3 : Int64) (x5 : Int32), RM S o R → wq_X7_learn_133a postq R S o x1 x2 y3 x5 → wp_X7_learn_133a post S o x1 x2 y3 x5 := by
  intro S x1 x2 y3 x5 hM hq
  refine ⟨hM.1, ?_⟩
  refine ⟨R 8, hM.f 8 (by decide), ?_⟩
  refine ⟨hM.t 8 (by decide), ?_⟩
  obtain ⟨i9, hq⟩ := hq
  refine ⟨hM.i 8 (by decide) i9, ?_⟩
  refine ⟨R 9, hM.f 9 (by decide), ?_⟩
  refine ⟨hM.t 9 (by decide), ?_⟩
  obtain ⟨i11, hq⟩ := hq
  refine ⟨hM.i 9 (by decide) i11, ?_⟩
  have hM : RM (sai S (R 9) (((24 : Int32) * x1) + (ai S (R 8) x1.toNatClampNeg)).toNatClampNeg x2) o R := hM.wai
  refine ⟨R 10, hM.f 10 (by decide), ?_⟩
  refine ⟨hM.t 10 (by decide), ?_⟩
  obtain ⟨i13, hq⟩ := hq
  refine ⟨hM.i 10 (by decide) i13, ?_⟩
  have hM : RM (sal (sai S (R 9) (((24 : Int32) * x1) + (ai S (R 8) x1.toNatClampNeg)).toNatClampNeg x2) (R 10) (((24 : Int32) * x1) + (ai S (R 8) x1.toNatClampNeg)).toNatClampNeg y3) o R := hM.wal
  refine ⟨R 11, hM.f 11 (by decide), ?_⟩
  refine ⟨hM.t 11 (by decide), ?_⟩
  obtain ⟨i15, hq⟩ := hq
  refine ⟨hM.i 11 (by decide) i15, ?_⟩
  have hM : RM (sai (sal (sai S (R 9) (((24 : Int32) * x1) + (ai S (R 8) x1.toNatClampNeg)).toNatClampNeg x2) (R 10) (((24 : Int32) * x1) + (ai S (R 8) x1.toNatClampNeg)).toNatClampNeg y3) (R 11) (((24 : Int32) * x1) + (ai S (R 8) x1.toNatClampNeg)).toNatClampNeg x5) o R := hM.wai
  refine ⟨R 12, hM.f 12 (by decide), ?_⟩
  refine ⟨hM.t 12 (by decide), ?_⟩
  obtain ⟨i17, hq⟩ := hq
  refine ⟨hM.i 12 (by decide) i17, ?_⟩
  have hM : RM (sal (sai (sal (sai S (R 9) (((24 : Int32) * x1) + (ai S (R 8) x1.toNatClampNeg)).toNatClampNeg x2) (R 10) (((24 : Int32) * x1) + (ai S (R 8) x1.toNatClampNeg)).toNatClampNeg y3) (R 11) (((24 : Int32) * x1) + (ai S (R 8) x1.toNatClampNeg)).toNatClampNeg x5) (R 12) (((24 : Int32) * x1) + (ai S (R 8) x1.toNatClampNeg)).toNatClampNeg (0 : Int64)) o R := hM.wal
  refine ⟨R 8, hM.f 8 (by decide), ?_⟩
  refine ⟨hM.t 8 (by decide), ?_⟩
  obtain ⟨i19, hq⟩ := hq
  refine ⟨hM.i 8 (by decide) i19, ?_⟩
  obtain ⟨i20, hq⟩ := hq
  refine ⟨hM.i 8 (by decide) i20, ?_⟩
  have hM : RM (sai (sal (sai (sal (sai S (R 9) (((24 : Int32) * x1) + (ai S (R 8) x1.toNatClampNeg)).toNatClampNeg x2) (R 10) (((24 : Int32) * x1) + (ai S (R 8) x1.toNatClampNeg)).toNatClampNeg y3) (R 11) (((24 : Int32) * x1) + (ai S (R 8) x1.toNatClampNeg)).toNatClampNeg x5) (R 12) (((24 : Int32) * x1) + (ai S (R 8) x1.toNatClampNeg)).toNatClampNeg (0 : Int64)) (R 8) x1.toNatClampNeg ((ai (sal (sai (sal (sai S (R 9) (((24 : Int32) * x1) + (ai S (R 8) x1.toNatClampNeg)).toNatClampNeg x2) (R 10) (((24 : Int32) * x1) + (ai S (R 8) x1.toNatClampNeg)).toNatClampNeg y3) (R 11) (((24 : Int32) * x1) + (ai S (R 8) x1.toNatClampNeg)).toNatClampNeg x5) (R 12) (((24 : Int32) * x1) + (ai S (R 8) x1.toNatClampNeg)).toNatClampNeg (0 : Int64)) (R 8) x1.toNatClampNeg) + (1 : Int32))) o R := hM.wai
  refine ⟨R 17, hM.f 17 (by decide), ?_⟩
  refine ⟨hM.t 17 (by decide), ?_⟩
  obtain ⟨i22, hq⟩ := hq
  refine ⟨hM.i 17 (by decide) i22, ?_⟩
  obtain ⟨i23, hq⟩ := hq
  refine ⟨hM.i 17 (by decide) i23, ?_⟩
  have hM : RM (sai (sai (sal (sai (sal (sai S (R 9) (((24 : Int32) * x1) + (ai S (R 8) x1.toNatClampNeg)).toNatClampNeg x2) (R 10) (((24 : Int32) * x1) + (ai S (R 8) x1.toNatClampNeg)).toNatClampNeg y3) (R 11) (((24 : Int32) * x1) + (ai S (R 8) x1.toNatClampNeg)).toNatClampNeg x5) (R 12) (((24 : Int32) * x1) + (ai S (R 8) x1.toNatClampNeg)).toNatClampNeg (0 : Int64)) (R 8) x1.toNatClampNeg ((ai (sal (sai (sal (sai S (R 9) (((24 : Int32) * x1) + (ai S (R 8) x1.toNatClampNeg)).toNatClampNeg x2) (R 10) (((24 : Int32) * x1) + (ai S (R 8) x1.toNatClampNeg)).toNatClampNeg y3) (R 11) (((24 : Int32) * x1) + (ai S (R 8) x1.toNatClampNeg)).toNatClampNeg x5) (R 12) (((24 : Int32) * x1) + (ai S (R 8) x1.toNatClampNeg)).toNatClampNeg (0 : Int64)) (R 8) x1.toNatClampNeg) + (1 : Int32))) (R 17) (11 : Int32).toNatClampNeg ((ai (sai (sal (sai (sal (sai S (R 9) (((24 : Int32) * x1) + (ai S (R 8) x1.toNatClampNeg)).toNatClampNeg x2) (R 10) (((24 : Int32) * x1) + (ai S (R 8) x1.toNatClampNeg)).toNatClampNeg y3) (R 11) (((24 : Int32) * x1) + (ai S (R 8) x1.toNatClampNeg)).toNatClampNeg x5) (R 12) (((24 : Int32) * x1) + (ai S (R 8) x1.toNatClampNeg)).toNatClampNeg (0 : Int64)) (R 8) x1.toNatClampNeg ((ai (sal (sai (sal (sai S (R 9) (((24 : Int32) * x1) + (ai S (R 8) x1.toNatClampNeg)).toNatClampNeg x2) (R 10) (((24 : Int32) * x1) + (ai S (R 8) x1.toNatClampNeg)).toNatClampNeg y3) (R 11) (((24 : Int32) * x1) + (ai S (R 8) x1.toNatClampNeg)).toNatClampNeg x5) (R 12) (((24 : Int32) * x1) + (ai S (R 8) x1.toNatClampNeg)).toNatClampNeg (0 : Int64)) (R 8) x1.toNatClampNeg) + (1 : Int32))) (R 17) (11 : Int32).toNatClampNeg) + (1 : Int32))) o R := hM.wai
  exact hp _ _ hM hq
theorem wl_X7_learn_70 {post postq : Unit → HS → Prop} {R : Nat → Nat} {o : Nat} (hp : ∀ r S', RM S' o R → postq r S' → post r S') : ∀ (n : Nat), ∀ (S : HS) (x1 : Int32) (x2 : Int32) (y3 : Int64) (x5 : Int32) (x7 : Int32) (x8 : Int32), RM S o R → wq_X7_learn_70 n postq R S o x1 x2 y3 x5 x7 x8 → wp_X7_learn_70 n post S o x1 x2 y3 x5 x7 x8 := by
  intro n
  induction n with
  | zero => intro S x1 x2 y3 x5 x7 x8 hM hq; exact hq.elim
  | succ n ih =>
    intro S x1 x2 y3 x5 x7 x8 hM hq
    refine ⟨fun c24 => ?_, fun c24 => ?_⟩
    · have hq := hq.1 c24
      refine ⟨hM.1, ?_⟩
      refine wr_X7_remove hM hq (fun r26 S25 hM hq => ?_)
      refine ⟨R 17, hM.f 17 (by decide), ?_⟩
      refine ⟨hM.t 17 (by decide), ?_⟩
      obtain ⟨i28, hq⟩ := hq
      refine ⟨hM.i 17 (by decide) i28, ?_⟩
      obtain ⟨i29, hq⟩ := hq
      refine ⟨hM.i 17 (by decide) i29, ?_⟩
      have hM : RM (sai S25 (R 17) (12 : Int32).toNatClampNeg ((ai S25 (R 17) (12 : Int32).toNatClampNeg) + (1 : Int32))) o R := hM.wai
      exact wl_X7_learn_133a hp (sai S25 (R 17) (12 : Int32).toNatClampNeg ((ai S25 (R 17) (12 : Int32).toNatClampNeg) + (1 : Int32))) x1 x2 y3 x5 hM hq
    · have hq := hq.2 c24
      refine ⟨hM.1, ?_⟩
      refine ⟨R 12, hM.f 12 (by decide), ?_⟩
      refine ⟨hM.t 12 (by decide), ?_⟩
      obtain ⟨i31, hq⟩ := hq
      refine ⟨hM.i 12 (by decide) i31, ?_⟩
      refine ⟨R 12, hM.f 12 (by decide), ?_⟩
      refine ⟨hM.t 12 (by decide), ?_⟩
      obtain ⟨i33, hq⟩ := hq
      refine ⟨hM.i 12 (by decide) i33, ?_⟩
      refine ⟨fun c34 => ?_, fun c34 => ?_⟩
      · have hq := hq.1 c34
        exact ih S x1 x2 y3 x5 x7 (x8 + (1 : Int32)) hM hq
      · have hq := hq.2 c34
        exact ih S x1 x2 y3 x5 x8 (x8 + (1 : Int32)) hM hq
theorem wl_X7_learn_47a {post postq : Unit → HS → Prop} {R : Nat → Nat} {o : Nat} (hp : ∀ r S', RM S' o R → postq r S' → post r S') : ∀ (S : HS) (x1 : Int32) (x2 : Int32) (y3 : Int64) (x5 : Int32), RM S o R → wq_X7_learn_47a postq R S o x1 x2 y3 x5 → wp_X7_learn_47a post S o x1 x2 y3 x5 := by
  intro S x1 x2 y3 x5 hM hq
  refine ⟨hM.1, ?_⟩
  refine ⟨R 8, hM.f 8 (by decide), ?_⟩
  refine ⟨hM.t 8 (by decide), ?_⟩
  obtain ⟨i6, hq⟩ := hq
  refine ⟨hM.i 8 (by decide) i6, ?_⟩
  refine ⟨fun c7 => ?_, fun c7 => ?_⟩
  · have hq := hq.1 c7
    exact wl_X7_learn_133a hp S x1 x2 y3 x5 hM hq
  · have hq := hq.2 c7
    obtain ⟨n9, hq⟩ := hq
    exact ⟨n9, wl_X7_learn_70 hp n9 S x1 x2 y3 x5 ((24 : Int32) * x1) ((24 : Int32) * x1) hM hq⟩
theorem wl_X7_learn_35a {post postq : Unit → HS → Prop} {R : Nat → Nat} {o : Nat} (hp : ∀ r S', RM S' o R → postq r S' → post r S') : ∀ (S : HS) (x1 : Int32) (x2 : Int32) (y3 : Int64) (x5 : Int32) (x6 : Int32), RM S o R → wq_X7_learn_35a postq R S o x1 x2 y3 x5 x6 → wp_X7_learn_35a post S o x1 x2 y3 x5 x6 := by
  intro S x1 x2 y3 x5 x6 hM hq
  refine ⟨fun c4 => ?_, fun c4 => ?_⟩
  · have hq := hq.1 c4
    exact wl_X7_learn_47a hp S x1 x2 y3 x5 hM hq
  · have hq := hq.2 c4
    refine ⟨hM.1, ?_⟩
    refine wr_X7_remove hM hq (fun r36 S35 hM hq => ?_)
    exact wl_X7_learn_47a hp S35 x1 x2 y3 x5 hM hq
def wq_X7_learn (post : Unit → HS → Prop) (R : Nat → Nat) (S : HS) (a0 : Nat) (v1 : Int32) (v2 : Int32) (w3 : Int64) (v5 : Int32) : Prop := wq_X7_find (fun r2 S1 => ((r2 < 0 → wq_X7_learn_35a post R S1 a0 v1 v2 w3 v5 r2) ∧ (¬ r2 < 0 → vp_in r2 192 ∧ (((¬ (ai S1 (R 11) r2.toNatClampNeg) = v5 → wq_X7_learn_35a post R S1 a0 v1 v2 w3 v5 r2) ∧ ((ai S1 (R 11) r2.toNatClampNeg) = v5 → vp_in r2 192 ∧ (post () (sal S1 (R 12) r2.toNatClampNeg (0 : Int64))))))))) R S a0 v1 v2 w3
theorem wr_X7_learn {post postq : Unit → HS → Prop} {R : Nat → Nat} {S : HS} {o : Nat} {v1 : Int32} {v2 : Int32} {w3 : Int64} {v5 : Int32} (hM : RM S o R) (hq : wq_X7_learn postq R S o v1 v2 w3 v5) (hp : ∀ r S', RM S' o R → postq r S' → post r S') : wp_X7_learn post S o v1 v2 w3 v5 := by
  refine ⟨hM.1, ?_⟩
  refine wr_X7_find hM hq (fun r2 S1 hM hq => ?_)
  refine ⟨fun c3 => ?_, fun c3 => ?_⟩
  · have hq := hq.1 c3
    exact wl_X7_learn_35a hp S1 v1 v2 w3 v5 r2 hM hq
  · have hq := hq.2 c3
    refine ⟨R 11, hM.f 11 (by decide), ?_⟩
    refine ⟨hM.t 11 (by decide), ?_⟩
    obtain ⟨i38, hq⟩ := hq
    refine ⟨hM.i 11 (by decide) i38, ?_⟩
    refine ⟨fun c39 => ?_, fun c39 => ?_⟩
    · have hq := hq.1 c39
      exact wl_X7_learn_35a hp S1 v1 v2 w3 v5 r2 hM hq
    · have hq := hq.2 c39
      refine ⟨R 12, hM.f 12 (by decide), ?_⟩
      refine ⟨hM.t 12 (by decide), ?_⟩
      obtain ⟨i41, hq⟩ := hq
      refine ⟨hM.i 12 (by decide) i41, ?_⟩
      have hM : RM (sal S1 (R 12) r2.toNatClampNeg (0 : Int64)) o R := hM.wal
      exact hp _ _ hM hq
def wq_X7_comesTo_100 : Nat → (Unit → HS → Prop) → (Nat → Nat) → HS → Nat → Int32 → Int32 → Prop
  | 0, _, _, _, _, _, _ => False
  | n + 1, post, R, S, b0, x1, x2 => (((fi S 52 b0) ≤ x2 → post () S) ∧ (¬ (fi S 52 b0) ≤ x2 → vp_in x2 120 ∧ (vp_in (((720 : Int32) * x1) + x2) 23040 ∧ (wq_X7_comesTo_100 n post R (sai S (R 4) (((720 : Int32) * x1) + x2).toNatClampNeg ((ai S (R 19) x2.toNatClampNeg).toInt8.toInt32)) b0 x1 (x2 + (1 : Int32))))))
def wq_X7_comesTo_40 : Nat → (Unit → HS → Prop) → (Nat → Nat) → (HS → Nat → Int32 → Int32 → Prop) → HS → Nat → Int32 → Int32 → Int32 → Int32 → Prop
  | 0, _, _, _, _, _, _, _, _, _ => False
  | n + 1, post, R, K12, S, b0, x1, x2, x3, x4 => (((120 : Int32) ≤ x4 → K12 S b0 x1 (x2 + (-1 : Int32))) ∧ (¬ (120 : Int32) ≤ x4 → vp_in (((120 : Int32) * (x3 - (1 : Int32))) + x4) 23040 ∧ (vp_in (((120 : Int32) * x3) + x4) 23040 ∧ (wq_X7_comesTo_40 n post R K12 (sai S (R 4) (((120 : Int32) * x3) + x4).toNatClampNeg ((ai S (R 4) (((120 : Int32) * (x3 - (1 : Int32))) + x4).toNatClampNeg).toInt8.toInt32)) b0 x1 x2 x3 (x4 + (1 : Int32))))))
def wq_X7_comesTo_12 : Nat → (Unit → HS → Prop) → (Nat → Nat) → HS → Nat → Int32 → Int32 → Prop
  | 0, _, _, _, _, _, _ => False
  | n + 1, post, R, S, b0, x1, x2 => ((x2 ≤ 0 → vp_in ((6 : Int32) * x1) 192 ∧ (∃ n9, wq_X7_comesTo_100 n9 post R (sai S (R 5) ((6 : Int32) * x1).toNatClampNeg (fi S 52 b0)) b0 x1 (0 : Int32))) ∧ (¬ x2 ≤ 0 → vp_in ((((6 : Int32) * x1) + x2) - (1 : Int32)) 192 ∧ (vp_in (((6 : Int32) * x1) + x2) 192 ∧ (∃ n9, wq_X7_comesTo_40 n9 post R (fun Sk b0k x1k x2k => wq_X7_comesTo_12 n post R Sk b0k x1k x2k) (sai S (R 5) (((6 : Int32) * x1) + x2).toNatClampNeg (ai S (R 5) ((((6 : Int32) * x1) + x2) - (1 : Int32)).toNatClampNeg)) b0 x1 x2 (((6 : Int32) * x1) + x2) (0 : Int32)))))
theorem wl_X7_comesTo_100 {post postq : Unit → HS → Prop} {R : Nat → Nat} {o : Nat} (hp : ∀ r S', RM S' o R → postq r S' → post r S') : ∀ (n : Nat), ∀ (S : HS) (x1 : Int32) (x2 : Int32), RM S o R → wq_X7_comesTo_100 n postq R S o x1 x2 → wp_X7_comesTo_100 n post S o x1 x2 := by
  intro n
  induction n with
  | zero => intro S x1 x2 hM hq; exact hq.elim
  | succ n ih =>
    intro S x1 x2 hM hq
    refine ⟨hM.1, ?_⟩
    refine ⟨fun c7 => ?_, fun c7 => ?_⟩
    · have hq := hq.1 c7
      exact hp _ _ hM hq
    · have hq := hq.2 c7
      refine ⟨R 4, hM.f 4 (by decide), ?_⟩
      refine ⟨R 19, hM.f 19 (by decide), ?_⟩
      refine ⟨hM.t 19 (by decide), ?_⟩
      obtain ⟨i10, hq⟩ := hq
      refine ⟨hM.i 19 (by decide) i10, ?_⟩
      refine ⟨hM.t 4 (by decide), ?_⟩
      obtain ⟨i11, hq⟩ := hq
      refine ⟨hM.i 4 (by decide) i11, ?_⟩
      have hM : RM (sai S (R 4) (((720 : Int32) * x1) + x2).toNatClampNeg ((ai S (R 19) x2.toNatClampNeg).toInt8.toInt32)) o R := hM.wai
      exact ih (sai S (R 4) (((720 : Int32) * x1) + x2).toNatClampNeg ((ai S (R 19) x2.toNatClampNeg).toInt8.toInt32)) x1 (x2 + (1 : Int32)) hM hq
theorem wl_X7_comesTo_40 {post postq : Unit → HS → Prop} {R : Nat → Nat} {o : Nat} (hp : ∀ r S', RM S' o R → postq r S' → post r S') {K12 K12q : HS → Nat → Int32 → Int32 → Prop} (hK12 : ∀ (S : HS) (x1 : Int32) (x2 : Int32), RM S o R → K12q S o x1 x2 → K12 S o x1 x2) : ∀ (n : Nat), ∀ (S : HS) (x1 : Int32) (x2 : Int32) (x3 : Int32) (x4 : Int32), RM S o R → wq_X7_comesTo_40 n postq R K12q S o x1 x2 x3 x4 → wp_X7_comesTo_40 n post K12 S o x1 x2 x3 x4 := by
  intro n
  induction n with
  | zero => intro S x1 x2 x3 x4 hM hq; exact hq.elim
  | succ n ih =>
    intro S x1 x2 x3 x4 hM hq
    refine ⟨fun c16 => ?_, fun c16 => ?_⟩
    · have hq := hq.1 c16
      exact hK12 S x1 (x2 + (-1 : Int32)) hM hq
    · have hq := hq.2 c16
      refine ⟨hM.1, ?_⟩
      refine ⟨R 4, hM.f 4 (by decide), ?_⟩
      refine ⟨R 4, hM.f 4 (by decide), ?_⟩
      refine ⟨hM.t 4 (by decide), ?_⟩
      obtain ⟨i19, hq⟩ := hq
      refine ⟨hM.i 4 (by decide) i19, ?_⟩
      refine ⟨hM.t 4 (by decide), ?_⟩
      obtain ⟨i20, hq⟩ := hq
      refine ⟨hM.i 4 (by decide) i20, ?_⟩
      have hM : RM (sai S (R 4) (((120 : Int32) * x3) + x4).toNatClampNeg ((ai S (R 4) (((120 : Int32) * (x3 - (1 : Int32))) + x4).toNatClampNeg).toInt8.toInt32)) o R := hM.wai
      exact ih (sai S (R 4) (((120 : Int32) * x3) + x4).toNatClampNeg ((ai S (R 4) (((120 : Int32) * (x3 - (1 : Int32))) + x4).toNatClampNeg).toInt8.toInt32)) x1 x2 x3 (x4 + (1 : Int32)) hM hq
theorem wl_X7_comesTo_12 {post postq : Unit → HS → Prop} {R : Nat → Nat} {o : Nat} (hp : ∀ r S', RM S' o R → postq r S' → post r S') : ∀ (n : Nat), ∀ (S : HS) (x1 : Int32) (x2 : Int32), RM S o R → wq_X7_comesTo_12 n postq R S o x1 x2 → wp_X7_comesTo_12 n post S o x1 x2 := by
  intro n
  induction n with
  | zero => intro S x1 x2 hM hq; exact hq.elim
  | succ n ih =>
    intro S x1 x2 hM hq
    refine ⟨fun c4 => ?_, fun c4 => ?_⟩
    · have hq := hq.1 c4
      refine ⟨hM.1, ?_⟩
      refine ⟨R 5, hM.f 5 (by decide), ?_⟩
      refine ⟨hM.t 5 (by decide), ?_⟩
      obtain ⟨i6, hq⟩ := hq
      refine ⟨hM.i 5 (by decide) i6, ?_⟩
      have hM : RM (sai S (R 5) ((6 : Int32) * x1).toNatClampNeg (fi S 52 o)) o R := hM.wai
      obtain ⟨n9, hq⟩ := hq
      exact ⟨n9, wl_X7_comesTo_100 hp n9 (sai S (R 5) ((6 : Int32) * x1).toNatClampNeg (fi S 52 o)) x1 (0 : Int32) hM hq⟩
    · have hq := hq.2 c4
      refine ⟨hM.1, ?_⟩
      refine ⟨R 5, hM.f 5 (by decide), ?_⟩
      refine ⟨R 5, hM.f 5 (by decide), ?_⟩
      refine ⟨hM.t 5 (by decide), ?_⟩
      obtain ⟨i14, hq⟩ := hq
      refine ⟨hM.i 5 (by decide) i14, ?_⟩
      refine ⟨hM.t 5 (by decide), ?_⟩
      obtain ⟨i15, hq⟩ := hq
      refine ⟨hM.i 5 (by decide) i15, ?_⟩
      have hM : RM (sai S (R 5) (((6 : Int32) * x1) + x2).toNatClampNeg (ai S (R 5) ((((6 : Int32) * x1) + x2) - (1 : Int32)).toNatClampNeg)) o R := hM.wai
      obtain ⟨n9, hq⟩ := hq
      exact ⟨n9, wl_X7_comesTo_40 hp ih n9 (sai S (R 5) (((6 : Int32) * x1) + x2).toNatClampNeg (ai S (R 5) ((((6 : Int32) * x1) + x2) - (1 : Int32)).toNatClampNeg)) x1 x2 (((6 : Int32) * x1) + x2) (0 : Int32) hM hq⟩
def wq_X7_comesTo (post : Unit → HS → Prop) (R : Nat → Nat) (S : HS) (a0 : Nat) (v1 : Int32) : Prop := vp_in v1 32 ∧ (vp_in v1 32 ∧ (∃ n9, wq_X7_comesTo_12 n9 post R (sai S (R 3) v1.toNatClampNeg ((ai S (R 3) v1.toNatClampNeg) + (1 : Int32))) a0 v1 (5 : Int32)))
theorem wr_X7_comesTo {post postq : Unit → HS → Prop} {R : Nat → Nat} {S : HS} {o : Nat} {v1 : Int32} (hM : RM S o R) (hq : wq_X7_comesTo postq R S o v1) (hp : ∀ r S', RM S' o R → postq r S' → post r S') : wp_X7_comesTo post S o v1 := by
  refine ⟨hM.1, ?_⟩
  refine ⟨R 3, hM.f 3 (by decide), ?_⟩
  refine ⟨hM.t 3 (by decide), ?_⟩
  obtain ⟨i2, hq⟩ := hq
  refine ⟨hM.i 3 (by decide) i2, ?_⟩
  obtain ⟨i3, hq⟩ := hq
  refine ⟨hM.i 3 (by decide) i3, ?_⟩
  have hM : RM (sai S (R 3) v1.toNatClampNeg ((ai S (R 3) v1.toNatClampNeg) + (1 : Int32))) o R := hM.wai
  obtain ⟨n9, hq⟩ := hq
  exact ⟨n9, wl_X7_comesTo_12 hp n9 (sai S (R 3) v1.toNatClampNeg ((ai S (R 3) v1.toNatClampNeg) + (1 : Int32))) v1 (5 : Int32) hM hq⟩
def wq_X7_comesToAll_3 : Nat → (Unit → HS → Prop) → (Nat → Nat) → HS → Nat → Int32 → Int32 → Int32 → Int32 → Prop
  | 0, _, _, _, _, _, _, _, _ => False
  | n + 1, post, R, S, b0, x1, x2, x3, x4 => (((fi S 28 b0) ≤ x4 → post () S) ∧ (¬ (fi S 28 b0) ≤ x4 → ((x4 = x3 → wq_X7_comesToAll_3 n post R S b0 x1 x2 x3 (x4 + (1 : Int32))) ∧ (¬ x4 = x3 → vp_in x4 32 ∧ (((¬ (ai S (R 0) x4.toNatClampNeg) = x1 → wq_X7_comesToAll_3 n post R S b0 x1 x2 x3 (x4 + (1 : Int32))) ∧ ((ai S (R 0) x4.toNatClampNeg) = x1 → vp_in x4 32 ∧ (((¬ (ai S (R 1) x4.toNatClampNeg) = x2 → wq_X7_comesToAll_3 n post R S b0 x1 x2 x3 (x4 + (1 : Int32))) ∧ ((ai S (R 1) x4.toNatClampNeg) = x2 → wq_X7_comesTo (fun _ S9 => wq_X7_comesToAll_3 n post R S9 b0 x1 x2 x3 (x4 + (1 : Int32))) R S b0 x4))))))))))
theorem wl_X7_comesToAll_3 {post postq : Unit → HS → Prop} {R : Nat → Nat} {o : Nat} (hp : ∀ r S', RM S' o R → postq r S' → post r S') : ∀ (n : Nat), ∀ (S : HS) (x1 : Int32) (x2 : Int32) (x3 : Int32) (x4 : Int32), RM S o R → wq_X7_comesToAll_3 n postq R S o x1 x2 x3 x4 → wp_X7_comesToAll_3 n post S o x1 x2 x3 x4 := by
  intro n
  induction n with
  | zero => intro S x1 x2 x3 x4 hM hq; exact hq.elim
  | succ n ih =>
    intro S x1 x2 x3 x4 hM hq
    refine ⟨hM.1, ?_⟩
    refine ⟨fun c1 => ?_, fun c1 => ?_⟩
    · have hq := hq.1 c1
      exact hp _ _ hM hq
    · have hq := hq.2 c1
      refine ⟨fun c2 => ?_, fun c2 => ?_⟩
      · have hq := hq.1 c2
        exact ih S x1 x2 x3 (x4 + (1 : Int32)) hM hq
      · have hq := hq.2 c2
        refine ⟨R 0, hM.f 0 (by decide), ?_⟩
        refine ⟨hM.t 0 (by decide), ?_⟩
        obtain ⟨i4, hq⟩ := hq
        refine ⟨hM.i 0 (by decide) i4, ?_⟩
        refine ⟨fun c5 => ?_, fun c5 => ?_⟩
        · have hq := hq.1 c5
          exact ih S x1 x2 x3 (x4 + (1 : Int32)) hM hq
        · have hq := hq.2 c5
          refine ⟨R 1, hM.f 1 (by decide), ?_⟩
          refine ⟨hM.t 1 (by decide), ?_⟩
          obtain ⟨i7, hq⟩ := hq
          refine ⟨hM.i 1 (by decide) i7, ?_⟩
          refine ⟨fun c8 => ?_, fun c8 => ?_⟩
          · have hq := hq.1 c8
            exact ih S x1 x2 x3 (x4 + (1 : Int32)) hM hq
          · have hq := hq.2 c8
            refine wr_X7_comesTo hM hq (fun r10 S9 hM hq => ?_)
            exact ih S9 x1 x2 x3 (x4 + (1 : Int32)) hM hq
def wq_X7_comesToAll (post : Unit → HS → Prop) (R : Nat → Nat) (S : HS) (a0 : Nat) (v1 : Int32) (v2 : Int32) (v3 : Int32) : Prop := ∃ n9, wq_X7_comesToAll_3 n9 post R S a0 v1 v2 v3 (0 : Int32)
theorem wr_X7_comesToAll {post postq : Unit → HS → Prop} {R : Nat → Nat} {S : HS} {o : Nat} {v1 : Int32} {v2 : Int32} {v3 : Int32} (hM : RM S o R) (hq : wq_X7_comesToAll postq R S o v1 v2 v3) (hp : ∀ r S', RM S' o R → postq r S' → post r S') : wp_X7_comesToAll post S o v1 v2 v3 := by
  obtain ⟨n9, hq⟩ := hq
  exact ⟨n9, wl_X7_comesToAll_3 hp n9 S v1 v2 v3 (0 : Int32) hM hq⟩
def wq_X7_put_7 : Nat → (Unit → HS → Prop) → (Nat → Nat) → HS → Nat → Int32 → Int32 → Prop
  | 0, _, _, _, _, _, _ => False
  | n + 1, post, R, S, b0, x1, x3 => ((x3 < 0 → post () S) ∧ (¬ x3 < 0 → vp_in (fi S 50 b0) 120 ∧ (wq_X7_put_7 n post R (sfi (sai S (R 18) (fi S 50 b0).toNatClampNeg (((x1 >>> (x3 &&& 31)).toInt8.toInt32).toInt8.toInt32)) 50 b0 ((fi (sai S (R 18) (fi S 50 b0).toNatClampNeg (((x1 >>> (x3 &&& 31)).toInt8.toInt32).toInt8.toInt32)) 50 b0) + (1 : Int32))) b0 x1 (x3 + (-8 : Int32)))))
theorem wl_X7_put_7 {post postq : Unit → HS → Prop} {R : Nat → Nat} {o : Nat} (hp : ∀ r S', RM S' o R → postq r S' → post r S') : ∀ (n : Nat), ∀ (S : HS) (x1 : Int32) (x3 : Int32), RM S o R → wq_X7_put_7 n postq R S o x1 x3 → wp_X7_put_7 n post S o x1 x3 := by
  intro n
  induction n with
  | zero => intro S x1 x3 hM hq; exact hq.elim
  | succ n ih =>
    intro S x1 x3 hM hq
    refine ⟨fun c1 => ?_, fun c1 => ?_⟩
    · have hq := hq.1 c1
      exact hp _ _ hM hq
    · have hq := hq.2 c1
      refine ⟨hM.1, ?_⟩
      refine ⟨R 18, hM.f 18 (by decide), ?_⟩
      refine ⟨hM.t 18 (by decide), ?_⟩
      obtain ⟨i3, hq⟩ := hq
      refine ⟨hM.i 18 (by decide) i3, ?_⟩
      have hM : RM (sai S (R 18) (fi S 50 o).toNatClampNeg (((x1 >>> (x3 &&& 31)).toInt8.toInt32).toInt8.toInt32)) o R := hM.wai
      have hM : RM (sfi (sai S (R 18) (fi S 50 o).toNatClampNeg (((x1 >>> (x3 &&& 31)).toInt8.toInt32).toInt8.toInt32)) 50 o ((fi (sai S (R 18) (fi S 50 o).toNatClampNeg (((x1 >>> (x3 &&& 31)).toInt8.toInt32).toInt8.toInt32)) 50 o) + (1 : Int32))) o R := hM.wfi
      exact ih (sfi (sai S (R 18) (fi S 50 o).toNatClampNeg (((x1 >>> (x3 &&& 31)).toInt8.toInt32).toInt8.toInt32)) 50 o ((fi (sai S (R 18) (fi S 50 o).toNatClampNeg (((x1 >>> (x3 &&& 31)).toInt8.toInt32).toInt8.toInt32)) 50 o) + (1 : Int32))) x1 (x3 + (-8 : Int32)) hM hq
def wq_X7_put (post : Unit → HS → Prop) (R : Nat → Nat) (S : HS) (a0 : Nat) (v1 : Int32) (v2 : Int32) : Prop := ∃ n9, wq_X7_put_7 n9 post R S a0 v1 ((8 : Int32) * (v2 - (1 : Int32)))
theorem wr_X7_put {post postq : Unit → HS → Prop} {R : Nat → Nat} {S : HS} {o : Nat} {v1 : Int32} {v2 : Int32} (hM : RM S o R) (hq : wq_X7_put postq R S o v1 v2) (hp : ∀ r S', RM S' o R → postq r S' → post r S') : wp_X7_put post S o v1 v2 := by
  obtain ⟨n9, hq⟩ := hq
  exact ⟨n9, wl_X7_put_7 hp n9 S v1 ((8 : Int32) * (v2 - (1 : Int32))) hM hq⟩
def wq_X7_set (post : Unit → HS → Prop) (R : Nat → Nat) (S : HS) (a0 : Nat) (v1 : Int32) (v2 : Int32) : Prop := vp_in v1 120 ∧ (vp_in (v1 + (1 : Int32)) 120 ∧ (post () (sai (sai S (R 18) v1.toNatClampNeg (((v2 >>> ((8 : Int32) &&& 31)).toInt8.toInt32).toInt8.toInt32)) (R 18) (v1 + (1 : Int32)).toNatClampNeg ((v2.toInt8.toInt32).toInt8.toInt32))))
theorem wr_X7_set {post postq : Unit → HS → Prop} {R : Nat → Nat} {S : HS} {o : Nat} {v1 : Int32} {v2 : Int32} (hM : RM S o R) (hq : wq_X7_set postq R S o v1 v2) (hp : ∀ r S', RM S' o R → postq r S' → post r S') : wp_X7_set post S o v1 v2 := by
  refine ⟨hM.1, ?_⟩
  refine ⟨R 18, hM.f 18 (by decide), ?_⟩
  refine ⟨hM.t 18 (by decide), ?_⟩
  obtain ⟨i2, hq⟩ := hq
  refine ⟨hM.i 18 (by decide) i2, ?_⟩
  have hM : RM (sai S (R 18) v1.toNatClampNeg (((v2 >>> ((8 : Int32) &&& 31)).toInt8.toInt32).toInt8.toInt32)) o R := hM.wai
  refine ⟨R 18, hM.f 18 (by decide), ?_⟩
  refine ⟨hM.t 18 (by decide), ?_⟩
  obtain ⟨i4, hq⟩ := hq
  refine ⟨hM.i 18 (by decide) i4, ?_⟩
  have hM : RM (sai (sai S (R 18) v1.toNatClampNeg (((v2 >>> ((8 : Int32) &&& 31)).toInt8.toInt32).toInt8.toInt32)) (R 18) (v1 + (1 : Int32)).toNatClampNeg ((v2.toInt8.toInt32).toInt8.toInt32)) o R := hM.wai
  exact hp _ _ hM hq
def wq_X7_drop_50 : Nat → (Unit → HS → Prop) → (Nat → Nat) → (HS → Nat → Int32 → Prop) → HS → Nat → Int32 → Int32 → Prop
  | 0, _, _, _, _, _, _, _ => False
  | n + 1, post, R, K12, S, b0, x2, x3 => (((120 : Int32) ≤ x3 → K12 S b0 (x2 + (1 : Int32))) ∧ (¬ (120 : Int32) ≤ x3 → vp_in (((120 : Int32) * (x2 + (1 : Int32))) + x3) 6000 ∧ (vp_in (((120 : Int32) * x2) + x3) 6000 ∧ (wq_X7_drop_50 n post R K12 (sai S (R 14) (((120 : Int32) * x2) + x3).toNatClampNeg ((ai S (R 14) (((120 : Int32) * (x2 + (1 : Int32))) + x3).toNatClampNeg).toInt8.toInt32)) b0 x2 (x3 + (1 : Int32))))))
def wq_X7_drop_12 : Nat → (Unit → HS → Prop) → (Nat → Nat) → HS → Nat → Int32 → Prop
  | 0, _, _, _, _, _ => False
  | n + 1, post, R, S, b0, x2 => (((fi S 47 b0) ≤ x2 → post () S) ∧ (¬ (fi S 47 b0) ≤ x2 → vp_in (x2 + (1 : Int32)) 50 ∧ (vp_in x2 50 ∧ (vp_in (x2 + (1 : Int32)) 50 ∧ (vp_in x2 50 ∧ (∃ n9, wq_X7_drop_50 n9 post R (fun Sk b0k x2k => wq_X7_drop_12 n post R Sk b0k x2k) (sai (sai S (R 15) x2.toNatClampNeg (ai S (R 15) (x2 + (1 : Int32)).toNatClampNeg)) (R 16) x2.toNatClampNeg (ai (sai S (R 15) x2.toNatClampNeg (ai S (R 15) (x2 + (1 : Int32)).toNatClampNeg)) (R 16) (x2 + (1 : Int32)).toNatClampNeg)) b0 x2 (0 : Int32)))))))
theorem wl_X7_drop_50 {post postq : Unit → HS → Prop} {R : Nat → Nat} {o : Nat} (hp : ∀ r S', RM S' o R → postq r S' → post r S') {K12 K12q : HS → Nat → Int32 → Prop} (hK12 : ∀ (S : HS) (x2 : Int32), RM S o R → K12q S o x2 → K12 S o x2) : ∀ (n : Nat), ∀ (S : HS) (x2 : Int32) (x3 : Int32), RM S o R → wq_X7_drop_50 n postq R K12q S o x2 x3 → wp_X7_drop_50 n post K12 S o x2 x3 := by
  intro n
  induction n with
  | zero => intro S x2 x3 hM hq; exact hq.elim
  | succ n ih =>
    intro S x2 x3 hM hq
    refine ⟨fun c10 => ?_, fun c10 => ?_⟩
    · have hq := hq.1 c10
      exact hK12 S (x2 + (1 : Int32)) hM hq
    · have hq := hq.2 c10
      refine ⟨hM.1, ?_⟩
      refine ⟨R 14, hM.f 14 (by decide), ?_⟩
      refine ⟨R 14, hM.f 14 (by decide), ?_⟩
      refine ⟨hM.t 14 (by decide), ?_⟩
      obtain ⟨i13, hq⟩ := hq
      refine ⟨hM.i 14 (by decide) i13, ?_⟩
      refine ⟨hM.t 14 (by decide), ?_⟩
      obtain ⟨i14, hq⟩ := hq
      refine ⟨hM.i 14 (by decide) i14, ?_⟩
      have hM : RM (sai S (R 14) (((120 : Int32) * x2) + x3).toNatClampNeg ((ai S (R 14) (((120 : Int32) * (x2 + (1 : Int32))) + x3).toNatClampNeg).toInt8.toInt32)) o R := hM.wai
      exact ih (sai S (R 14) (((120 : Int32) * x2) + x3).toNatClampNeg ((ai S (R 14) (((120 : Int32) * (x2 + (1 : Int32))) + x3).toNatClampNeg).toInt8.toInt32)) x2 (x3 + (1 : Int32)) hM hq
theorem wl_X7_drop_12 {post postq : Unit → HS → Prop} {R : Nat → Nat} {o : Nat} (hp : ∀ r S', RM S' o R → postq r S' → post r S') : ∀ (n : Nat), ∀ (S : HS) (x2 : Int32), RM S o R → wq_X7_drop_12 n postq R S o x2 → wp_X7_drop_12 n post S o x2 := by
  intro n
  induction n with
  | zero => intro S x2 hM hq; exact hq.elim
  | succ n ih =>
    intro S x2 hM hq
    refine ⟨hM.1, ?_⟩
    refine ⟨fun c1 => ?_, fun c1 => ?_⟩
    · have hq := hq.1 c1
      exact hp _ _ hM hq
    · have hq := hq.2 c1
      refine ⟨R 15, hM.f 15 (by decide), ?_⟩
      refine ⟨R 15, hM.f 15 (by decide), ?_⟩
      refine ⟨hM.t 15 (by decide), ?_⟩
      obtain ⟨i4, hq⟩ := hq
      refine ⟨hM.i 15 (by decide) i4, ?_⟩
      refine ⟨hM.t 15 (by decide), ?_⟩
      obtain ⟨i5, hq⟩ := hq
      refine ⟨hM.i 15 (by decide) i5, ?_⟩
      have hM : RM (sai S (R 15) x2.toNatClampNeg (ai S (R 15) (x2 + (1 : Int32)).toNatClampNeg)) o R := hM.wai
      refine ⟨R 16, hM.f 16 (by decide), ?_⟩
      refine ⟨R 16, hM.f 16 (by decide), ?_⟩
      refine ⟨hM.t 16 (by decide), ?_⟩
      obtain ⟨i8, hq⟩ := hq
      refine ⟨hM.i 16 (by decide) i8, ?_⟩
      refine ⟨hM.t 16 (by decide), ?_⟩
      obtain ⟨i9, hq⟩ := hq
      refine ⟨hM.i 16 (by decide) i9, ?_⟩
      have hM : RM (sai (sai S (R 15) x2.toNatClampNeg (ai S (R 15) (x2 + (1 : Int32)).toNatClampNeg)) (R 16) x2.toNatClampNeg (ai (sai S (R 15) x2.toNatClampNeg (ai S (R 15) (x2 + (1 : Int32)).toNatClampNeg)) (R 16) (x2 + (1 : Int32)).toNatClampNeg)) o R := hM.wai
      obtain ⟨n9, hq⟩ := hq
      exact ⟨n9, wl_X7_drop_50 hp ih n9 (sai (sai S (R 15) x2.toNatClampNeg (ai S (R 15) (x2 + (1 : Int32)).toNatClampNeg)) (R 16) x2.toNatClampNeg (ai (sai S (R 15) x2.toNatClampNeg (ai S (R 15) (x2 + (1 : Int32)).toNatClampNeg)) (R 16) (x2 + (1 : Int32)).toNatClampNeg)) x2 (0 : Int32) hM hq⟩
def wq_X7_drop (post : Unit → HS → Prop) (R : Nat → Nat) (S : HS) (a0 : Nat) (v1 : Int32) : Prop := ∃ n9, wq_X7_drop_12 n9 post R (sfi S 47 a0 ((fi S 47 a0) - (1 : Int32))) a0 v1
theorem wr_X7_drop {post postq : Unit → HS → Prop} {R : Nat → Nat} {S : HS} {o : Nat} {v1 : Int32} (hM : RM S o R) (hq : wq_X7_drop postq R S o v1) (hp : ∀ r S', RM S' o R → postq r S' → post r S') : wp_X7_drop post S o v1 := by
  refine ⟨hM.1, ?_⟩
  have hM : RM (sfi S 47 o ((fi S 47 o) - (1 : Int32))) o R := hM.wfi
  obtain ⟨n9, hq⟩ := hq
  exact ⟨n9, wl_X7_drop_12 hp n9 (sfi S 47 o ((fi S 47 o) - (1 : Int32))) v1 hM hq⟩
def wq_X7_goes_423 : Nat → (Unit → HS → Prop) → (Nat → Nat) → HS → Nat → Int32 → Prop
  | 0, _, _, _, _, _ => False
  | n + 1, post, R, S, b0, x6 => (((fi S 50 b0) ≤ x6 → post () (sfi S 47 b0 ((fi S 47 b0) + (1 : Int32)))) ∧ (¬ (fi S 50 b0) ≤ x6 → vp_in x6 120 ∧ (vp_in (((120 : Int32) * (fi S 47 b0)) + x6) 6000 ∧ (wq_X7_goes_423 n post R (sai S (R 14) (((120 : Int32) * (fi S 47 b0)) + x6).toNatClampNeg ((ai S (R 18) x6.toNatClampNeg).toInt8.toInt32)) b0 (x6 + (1 : Int32))))))
def wq_X7_goes_397a (post : Unit → HS → Prop) (R : Nat → Nat) (S : HS) (b0 : Nat) (x2 : Int32) : Prop := vp_in (fi S 47 b0) 50 ∧ (vp_in (fi (sai S (R 15) (fi S 47 b0).toNatClampNeg (fi S 50 b0)) 47 b0) 50 ∧ (∃ n9, wq_X7_goes_423 n9 post R (sai (sai S (R 15) (fi S 47 b0).toNatClampNeg (fi S 50 b0)) (R 16) (fi (sai S (R 15) (fi S 47 b0).toNatClampNeg (fi S 50 b0)) 47 b0).toNatClampNeg x2) b0 (0 : Int32)))
def wq_X7_goes_352a (post : Unit → HS → Prop) (R : Nat → Nat) (S : HS) (b0 : Nat) (x1 : Int32) (x2 : Int32) : Prop := vp_in x1 8 ∧ (vp_in x1 8 ∧ (vp_in (0 : Int32) 13 ∧ (vp_in (0 : Int32) 13 ∧ (((¬ (fi (sai (sai S (R 7) x1.toNatClampNeg ((ai S (R 7) x1.toNatClampNeg) + (1 : Int32))) (R 17) (0 : Int32).toNatClampNeg ((ai (sai S (R 7) x1.toNatClampNeg ((ai S (R 7) x1.toNatClampNeg) + (1 : Int32))) (R 17) (0 : Int32).toNatClampNeg) + (1 : Int32))) 47 b0) = (50 : Int32) → wq_X7_goes_397a post R (sai (sai S (R 7) x1.toNatClampNeg ((ai S (R 7) x1.toNatClampNeg) + (1 : Int32))) (R 17) (0 : Int32).toNatClampNeg ((ai (sai S (R 7) x1.toNatClampNeg ((ai S (R 7) x1.toNatClampNeg) + (1 : Int32))) (R 17) (0 : Int32).toNatClampNeg) + (1 : Int32))) b0 x2) ∧ ((fi (sai (sai S (R 7) x1.toNatClampNeg ((ai S (R 7) x1.toNatClampNeg) + (1 : Int32))) (R 17) (0 : Int32).toNatClampNeg ((ai (sai S (R 7) x1.toNatClampNeg ((ai S (R 7) x1.toNatClampNeg) + (1 : Int32))) (R 17) (0 : Int32).toNatClampNeg) + (1 : Int32))) 47 b0) = (50 : Int32) → wq_X7_drop (fun _ S65 => vp_in (10 : Int32) 13 ∧ (vp_in (10 : Int32) 13 ∧ (wq_X7_goes_397a post R (sai S65 (R 17) (10 : Int32).toNatClampNeg ((ai S65 (R 17) (10 : Int32).toNatClampNeg) + (1 : Int32))) b0 x2))) R (sai (sai S (R 7) x1.toNatClampNeg ((ai S (R 7) x1.toNatClampNeg) + (1 : Int32))) (R 17) (0 : Int32).toNatClampNeg ((ai (sai S (R 7) x1.toNatClampNeg ((ai S (R 7) x1.toNatClampNeg) + (1 : Int32))) (R 17) (0 : Int32).toNatClampNeg) + (1 : Int32))) b0 (0 : Int32)))))))
def wq_X7_goes_275 : Nat → (Unit → HS → Prop) → (Nat → Nat) → HS → Nat → Int32 → Int32 → Int32 → Int32 → Prop
  | 0, _, _, _, _, _, _, _, _ => False
  | n + 1, post, R, S, b0, x1, x2, x4, x6 => (((fi S 52 b0) ≤ x6 → wq_X7_set (fun _ S41 => wp_X7_sum (fun r45 S44 => RM S44 b0 R ∧ (wq_X7_set (fun _ S46 => ((¬ x4 = (2 : Int32) → wq_X7_goes_352a post R S46 b0 x1 x2) ∧ (x4 = (2 : Int32) → wp_X7_sum (fun r72 S71 => RM S71 b0 R ∧ (wq_X7_set (fun _ S73 => wq_X7_goes_352a post R S73 b0 x1 x2) R S71 b0 (24 : Int32) r72)) S46 (R 18) (20 : Int32) (fi S46 50 b0)))) R S44 b0 (10 : Int32) r45)) S41 (R 18) (0 : Int32) (20 : Int32)) R S b0 (2 : Int32) (fi S 50 b0)) ∧ (¬ (fi S 52 b0) ≤ x6 → vp_in x6 120 ∧ (wq_X7_put (fun _ S77 => wq_X7_goes_275 n post R S77 b0 x1 x2 x4 (x6 + (1 : Int32))) R S b0 (ai S (R 19) x6.toNatClampNeg) (1 : Int32))))
def wq_X7_goes_235a (post : Unit → HS → Prop) (R : Nat → Nat) (S : HS) (b0 : Nat) (x1 : Int32) (x2 : Int32) (x3 : Int32) (x4 : Int32) (x5 : Int32) (p0 : Int32) (d1 : Nat) : Prop := wq_X7_put (fun _ S31 => wq_X7_put (fun _ S33 => ((¬ x4 = (2 : Int32) → wq_X7_put (fun _ S36 => wq_X7_put (fun _ S38 => ∃ n9, wq_X7_goes_275 n9 post R S38 b0 x1 x2 x4 (0 : Int32)) R S36 b0 x5 (1 : Int32)) R S33 b0 x3 (3 : Int32)) ∧ (x4 = (2 : Int32) → wq_X7_put (fun _ S79 => wq_X7_put (fun _ S81 => wq_X7_put (fun _ S83 => ∃ n9, wq_X7_goes_275 n9 post R S83 b0 x1 x2 x4 (0 : Int32)) R S81 b0 x5 (1 : Int32)) R S79 b0 x3 (3 : Int32)) R S33 b0 (0 : Int32) (4 : Int32)))) R S31 b0 (25944 : Int32) (2 : Int32)) R S b0 p0 (2 : Int32)
def wq_X7_goes_119a (post : Unit → HS → Prop) (R : Nat → Nat) (S : HS) (b0 : Nat) (x1 : Int32) (x2 : Int32) (x3 : Int32) (x4 : Int32) (x5 : Int32) (p0 : Int32) (d1 : Nat) : Prop := wq_X7_put (fun _ S21 => wq_X7_put (fun _ S23 => wq_X7_put (fun _ S25 => wq_X7_put (fun _ S27 => ((¬ x4 = 0 → ((¬ x4 = (1 : Int32) → wq_X7_goes_235a post R S27 b0 x1 x2 x3 x4 x5 (40960 : Int32) b0) ∧ (x4 = (1 : Int32) → wq_X7_goes_235a post R S27 b0 x1 x2 x3 x4 x5 (8192 : Int32) b0))) ∧ (x4 = 0 → wq_X7_put (fun _ S85 => wq_X7_put (fun _ S87 => wq_X7_put (fun _ S89 => wq_X7_put (fun _ S91 => wq_X7_put (fun _ S93 => wq_X7_put (fun _ S95 => wq_X7_put (fun _ S97 => wq_X7_put (fun _ S99 => ∃ n9, wq_X7_goes_275 n9 post R S99 b0 x1 x2 x4 (0 : Int32)) R S97 b0 (0 : Int32) (1 : Int32)) R S95 b0 x3 (3 : Int32)) R S93 b0 (0 : Int32) (3 : Int32)) R S91 b0 (8 : Int32) (1 : Int32)) R S89 b0 (0 : Int32) (2 : Int32)) R S87 b0 ((16 : Int32) + (fi S87 52 b0)) (2 : Int32)) R S85 b0 (4789 : Int32) (2 : Int32)) R S27 b0 ((49152 : Int32) + (x5 &&& (16383 : Int32))) (2 : Int32)))) R S25 b0 ((167772161 : Int32) + x2) (4 : Int32)) R S23 b0 ((167772161 : Int32) + x1) (4 : Int32)) R S21 b0 (0 : Int32) (2 : Int32)) R S b0 p0 (1 : Int32)
def wq_X7_goes_19 : Nat → (Unit → HS → Prop) → (Nat → Nat) → HS → Nat → Int32 → Int32 → Int32 → Int32 → Int32 → Int32 → Prop
  | 0, _, _, _, _, _, _, _, _, _, _ => False
  | n + 1, post, R, S, b0, x1, x2, x3, x4, x5, x6 => (((12 : Int32) ≤ x6 → wq_X7_put (fun _ S4 => wq_X7_put (fun _ S6 => wq_X7_put (fun _ S8 => vp_in x1 8 ∧ (wq_X7_put (fun _ S12 => wq_X7_put (fun _ S14 => wq_X7_put (fun _ S16 => wq_X7_put (fun _ S18 => ((¬ x4 = 0 → wq_X7_goes_119a post R S18 b0 x1 x2 x3 x4 x5 (47 : Int32) b0) ∧ (x4 = 0 → wq_X7_goes_119a post R S18 b0 x1 x2 x3 x4 x5 (17 : Int32) b0))) R S16 b0 (64 : Int32) (1 : Int32)) R S14 b0 (0 : Int32) (1 : Int32)) R S12 b0 (64 : Int32) (1 : Int32)) R S8 b0 (ai S8 (R 7) x1.toNatClampNeg) (2 : Int32))) R S6 b0 (0 : Int32) (2 : Int32)) R S4 b0 (0 : Int32) (1 : Int32)) R (sfi S 50 b0 (0 : Int32)) b0 (69 : Int32) (1 : Int32)) ∧ (¬ (12 : Int32) ≤ x6 → vp_in x6 120 ∧ (wq_X7_goes_19 n post R S b0 x1 x2 x3 x4 (((31 : Int32) * x5) + ((ai S (R 19) x6.toNatClampNeg) &&& (255 : Int32))) (x6 + (1 : Int32)))))
theorem wl_X7_goes_423 {post postq : Unit → HS → Prop} {R : Nat → Nat} {o : Nat} (hp : ∀ r S', RM S' o R → postq r S' → post r S') : ∀ (n : Nat), ∀ (S : HS) (x6 : Int32), RM S o R → wq_X7_goes_423 n postq R S o x6 → wp_X7_goes_423 n post S o x6 := by
  intro n
  induction n with
  | zero => intro S x6 hM hq; exact hq.elim
  | succ n ih =>
    intro S x6 hM hq
    refine ⟨hM.1, ?_⟩
    refine ⟨fun c60 => ?_, fun c60 => ?_⟩
    · have hq := hq.1 c60
      have hM : RM (sfi S 47 o ((fi S 47 o) + (1 : Int32))) o R := hM.wfi
      exact hp _ _ hM hq
    · have hq := hq.2 c60
      refine ⟨R 14, hM.f 14 (by decide), ?_⟩
      refine ⟨R 18, hM.f 18 (by decide), ?_⟩
      refine ⟨hM.t 18 (by decide), ?_⟩
      obtain ⟨i63, hq⟩ := hq
      refine ⟨hM.i 18 (by decide) i63, ?_⟩
      refine ⟨hM.t 14 (by decide), ?_⟩
      obtain ⟨i64, hq⟩ := hq
      refine ⟨hM.i 14 (by decide) i64, ?_⟩
      have hM : RM (sai S (R 14) (((120 : Int32) * (fi S 47 o)) + x6).toNatClampNeg ((ai S (R 18) x6.toNatClampNeg).toInt8.toInt32)) o R := hM.wai
      exact ih (sai S (R 14) (((120 : Int32) * (fi S 47 o)) + x6).toNatClampNeg ((ai S (R 18) x6.toNatClampNeg).toInt8.toInt32)) (x6 + (1 : Int32)) hM hq
theorem wl_X7_goes_397a {post postq : Unit → HS → Prop} {R : Nat → Nat} {o : Nat} (hp : ∀ r S', RM S' o R → postq r S' → post r S') : ∀ (S : HS) (x2 : Int32), RM S o R → wq_X7_goes_397a postq R S o x2 → wp_X7_goes_397a post S o x2 := by
  intro S x2 hM hq
  refine ⟨hM.1, ?_⟩
  refine ⟨R 15, hM.f 15 (by decide), ?_⟩
  refine ⟨hM.t 15 (by decide), ?_⟩
  obtain ⟨i57, hq⟩ := hq
  refine ⟨hM.i 15 (by decide) i57, ?_⟩
  have hM : RM (sai S (R 15) (fi S 47 o).toNatClampNeg (fi S 50 o)) o R := hM.wai
  refine ⟨R 16, hM.f 16 (by decide), ?_⟩
  refine ⟨hM.t 16 (by decide), ?_⟩
  obtain ⟨i59, hq⟩ := hq
  refine ⟨hM.i 16 (by decide) i59, ?_⟩
  have hM : RM (sai (sai S (R 15) (fi S 47 o).toNatClampNeg (fi S 50 o)) (R 16) (fi (sai S (R 15) (fi S 47 o).toNatClampNeg (fi S 50 o)) 47 o).toNatClampNeg x2) o R := hM.wai
  obtain ⟨n9, hq⟩ := hq
  exact ⟨n9, wl_X7_goes_423 hp n9 (sai (sai S (R 15) (fi S 47 o).toNatClampNeg (fi S 50 o)) (R 16) (fi (sai S (R 15) (fi S 47 o).toNatClampNeg (fi S 50 o)) 47 o).toNatClampNeg x2) (0 : Int32) hM hq⟩
theorem wl_X7_goes_352a {post postq : Unit → HS → Prop} {R : Nat → Nat} {o : Nat} (hp : ∀ r S', RM S' o R → postq r S' → post r S') : ∀ (S : HS) (x1 : Int32) (x2 : Int32), RM S o R → wq_X7_goes_352a postq R S o x1 x2 → wp_X7_goes_352a post S o x1 x2 := by
  intro S x1 x2 hM hq
  refine ⟨hM.1, ?_⟩
  refine ⟨R 7, hM.f 7 (by decide), ?_⟩
  refine ⟨hM.t 7 (by decide), ?_⟩
  obtain ⟨i50, hq⟩ := hq
  refine ⟨hM.i 7 (by decide) i50, ?_⟩
  obtain ⟨i51, hq⟩ := hq
  refine ⟨hM.i 7 (by decide) i51, ?_⟩
  have hM : RM (sai S (R 7) x1.toNatClampNeg ((ai S (R 7) x1.toNatClampNeg) + (1 : Int32))) o R := hM.wai
  refine ⟨R 17, hM.f 17 (by decide), ?_⟩
  refine ⟨hM.t 17 (by decide), ?_⟩
  obtain ⟨i53, hq⟩ := hq
  refine ⟨hM.i 17 (by decide) i53, ?_⟩
  obtain ⟨i54, hq⟩ := hq
  refine ⟨hM.i 17 (by decide) i54, ?_⟩
  have hM : RM (sai (sai S (R 7) x1.toNatClampNeg ((ai S (R 7) x1.toNatClampNeg) + (1 : Int32))) (R 17) (0 : Int32).toNatClampNeg ((ai (sai S (R 7) x1.toNatClampNeg ((ai S (R 7) x1.toNatClampNeg) + (1 : Int32))) (R 17) (0 : Int32).toNatClampNeg) + (1 : Int32))) o R := hM.wai
  refine ⟨fun c55 => ?_, fun c55 => ?_⟩
  · have hq := hq.1 c55
    exact wl_X7_goes_397a hp (sai (sai S (R 7) x1.toNatClampNeg ((ai S (R 7) x1.toNatClampNeg) + (1 : Int32))) (R 17) (0 : Int32).toNatClampNeg ((ai (sai S (R 7) x1.toNatClampNeg ((ai S (R 7) x1.toNatClampNeg) + (1 : Int32))) (R 17) (0 : Int32).toNatClampNeg) + (1 : Int32))) x2 hM hq
  · have hq := hq.2 c55
    refine wr_X7_drop hM hq (fun r66 S65 hM hq => ?_)
    refine ⟨R 17, hM.f 17 (by decide), ?_⟩
    refine ⟨hM.t 17 (by decide), ?_⟩
    obtain ⟨i68, hq⟩ := hq
    refine ⟨hM.i 17 (by decide) i68, ?_⟩
    obtain ⟨i69, hq⟩ := hq
    refine ⟨hM.i 17 (by decide) i69, ?_⟩
    have hM : RM (sai S65 (R 17) (10 : Int32).toNatClampNeg ((ai S65 (R 17) (10 : Int32).toNatClampNeg) + (1 : Int32))) o R := hM.wai
    exact wl_X7_goes_397a hp (sai S65 (R 17) (10 : Int32).toNatClampNeg ((ai S65 (R 17) (10 : Int32).toNatClampNeg) + (1 : Int32))) x2 hM hq
theorem wl_X7_goes_275 {post postq : Unit → HS → Prop} {R : Nat → Nat} {o : Nat} (hp : ∀ r S', RM S' o R → postq r S' → post r S') : ∀ (n : Nat), ∀ (S : HS) (x1 : Int32) (x2 : Int32) (x4 : Int32) (x6 : Int32), RM S o R → wq_X7_goes_275 n postq R S o x1 x2 x4 x6 → wp_X7_goes_275 n post S o x1 x2 x4 x6 := by
  intro n
  induction n with
  | zero => intro S x1 x2 x4 x6 hM hq; exact hq.elim
  | succ n ih =>
    intro S x1 x2 x4 x6 hM hq
    refine ⟨hM.1, ?_⟩
    refine ⟨fun c40 => ?_, fun c40 => ?_⟩
    · have hq := hq.1 c40
      refine wr_X7_set hM hq (fun r42 S41 hM hq => ?_)
      refine ⟨R 18, hM.f 18 (by decide), ?_⟩
      refine mo_X7_sum hq (fun r45 S44 hq => ?_)
      obtain ⟨hM, hq⟩ := hq
      refine wr_X7_set hM hq (fun r47 S46 hM hq => ?_)
      refine ⟨fun c48 => ?_, fun c48 => ?_⟩
      · have hq := hq.1 c48
        exact wl_X7_goes_352a hp S46 x1 x2 hM hq
      · have hq := hq.2 c48
        refine ⟨R 18, hM.f 18 (by decide), ?_⟩
        refine mo_X7_sum hq (fun r72 S71 hq => ?_)
        obtain ⟨hM, hq⟩ := hq
        refine wr_X7_set hM hq (fun r74 S73 hM hq => ?_)
        exact wl_X7_goes_352a hp S73 x1 x2 hM hq
    · have hq := hq.2 c40
      refine ⟨R 19, hM.f 19 (by decide), ?_⟩
      refine ⟨hM.t 19 (by decide), ?_⟩
      obtain ⟨i76, hq⟩ := hq
      refine ⟨hM.i 19 (by decide) i76, ?_⟩
      refine wr_X7_put hM hq (fun r78 S77 hM hq => ?_)
      exact ih S77 x1 x2 x4 (x6 + (1 : Int32)) hM hq
theorem wl_X7_goes_235a {post postq : Unit → HS → Prop} {R : Nat → Nat} {o : Nat} (hp : ∀ r S', RM S' o R → postq r S' → post r S') : ∀ (S : HS) (x1 : Int32) (x2 : Int32) (x3 : Int32) (x4 : Int32) (x5 : Int32) (p0 : Int32), RM S o R → wq_X7_goes_235a postq R S o x1 x2 x3 x4 x5 p0 o → wp_X7_goes_235a post S o x1 x2 x3 x4 x5 p0 o := by
  intro S x1 x2 x3 x4 x5 p0 hM hq
  refine ⟨hM.1, ?_⟩
  refine wr_X7_put hM hq (fun r32 S31 hM hq => ?_)
  refine ⟨hM.1, ?_⟩
  refine wr_X7_put hM hq (fun r34 S33 hM hq => ?_)
  refine ⟨fun c35 => ?_, fun c35 => ?_⟩
  · have hq := hq.1 c35
    refine wr_X7_put hM hq (fun r37 S36 hM hq => ?_)
    refine wr_X7_put hM hq (fun r39 S38 hM hq => ?_)
    obtain ⟨n9, hq⟩ := hq
    exact ⟨n9, wl_X7_goes_275 hp n9 S38 x1 x2 x4 (0 : Int32) hM hq⟩
  · have hq := hq.2 c35
    refine wr_X7_put hM hq (fun r80 S79 hM hq => ?_)
    refine wr_X7_put hM hq (fun r82 S81 hM hq => ?_)
    refine wr_X7_put hM hq (fun r84 S83 hM hq => ?_)
    obtain ⟨n9, hq⟩ := hq
    exact ⟨n9, wl_X7_goes_275 hp n9 S83 x1 x2 x4 (0 : Int32) hM hq⟩
theorem wl_X7_goes_119a {post postq : Unit → HS → Prop} {R : Nat → Nat} {o : Nat} (hp : ∀ r S', RM S' o R → postq r S' → post r S') : ∀ (S : HS) (x1 : Int32) (x2 : Int32) (x3 : Int32) (x4 : Int32) (x5 : Int32) (p0 : Int32), RM S o R → wq_X7_goes_119a postq R S o x1 x2 x3 x4 x5 p0 o → wp_X7_goes_119a post S o x1 x2 x3 x4 x5 p0 o := by
  intro S x1 x2 x3 x4 x5 p0 hM hq
  refine ⟨hM.1, ?_⟩
  refine wr_X7_put hM hq (fun r22 S21 hM hq => ?_)
  refine ⟨hM.1, ?_⟩
  refine wr_X7_put hM hq (fun r24 S23 hM hq => ?_)
  refine wr_X7_put hM hq (fun r26 S25 hM hq => ?_)
  refine wr_X7_put hM hq (fun r28 S27 hM hq => ?_)
  refine ⟨fun c29 => ?_, fun c29 => ?_⟩
  · have hq := hq.1 c29
    refine ⟨fun c30 => ?_, fun c30 => ?_⟩
    · have hq := hq.1 c30
      exact wl_X7_goes_235a hp S27 x1 x2 x3 x4 x5 (40960 : Int32) hM hq
    · have hq := hq.2 c30
      exact wl_X7_goes_235a hp S27 x1 x2 x3 x4 x5 (8192 : Int32) hM hq
  · have hq := hq.2 c29
    refine wr_X7_put hM hq (fun r86 S85 hM hq => ?_)
    refine wr_X7_put hM hq (fun r88 S87 hM hq => ?_)
    refine wr_X7_put hM hq (fun r90 S89 hM hq => ?_)
    refine wr_X7_put hM hq (fun r92 S91 hM hq => ?_)
    refine wr_X7_put hM hq (fun r94 S93 hM hq => ?_)
    refine wr_X7_put hM hq (fun r96 S95 hM hq => ?_)
    refine wr_X7_put hM hq (fun r98 S97 hM hq => ?_)
    refine wr_X7_put hM hq (fun r100 S99 hM hq => ?_)
    obtain ⟨n9, hq⟩ := hq
    exact ⟨n9, wl_X7_goes_275 hp n9 S99 x1 x2 x4 (0 : Int32) hM hq⟩
theorem wl_X7_goes_19 {post postq : Unit → HS → Prop} {R : Nat → Nat} {o : Nat} (hp : ∀ r S', RM S' o R → postq r S' → post r S') : ∀ (n : Nat), ∀ (S : HS) (x1 : Int32) (x2 : Int32) (x3 : Int32) (x4 : Int32) (x5 : Int32) (x6 : Int32), RM S o R → wq_X7_goes_19 n postq R S o x1 x2 x3 x4 x5 x6 → wp_X7_goes_19 n post S o x1 x2 x3 x4 x5 x6 := by
  intro n
  induction n with
  | zero => intro S x1 x2 x3 x4 x5 x6 hM hq; exact hq.elim
  | succ n ih =>
    intro S x1 x2 x3 x4 x5 x6 hM hq
    refine ⟨fun c3 => ?_, fun c3 => ?_⟩
    · have hq := hq.1 c3
      refine ⟨hM.1, ?_⟩
      have hM : RM (sfi S 50 o (0 : Int32)) o R := hM.wfi
      refine wr_X7_put hM hq (fun r5 S4 hM hq => ?_)
      refine wr_X7_put hM hq (fun r7 S6 hM hq => ?_)
      refine wr_X7_put hM hq (fun r9 S8 hM hq => ?_)
      refine ⟨R 7, hM.f 7 (by decide), ?_⟩
      refine ⟨hM.t 7 (by decide), ?_⟩
      obtain ⟨i11, hq⟩ := hq
      refine ⟨hM.i 7 (by decide) i11, ?_⟩
      refine wr_X7_put hM hq (fun r13 S12 hM hq => ?_)
      refine wr_X7_put hM hq (fun r15 S14 hM hq => ?_)
      refine wr_X7_put hM hq (fun r17 S16 hM hq => ?_)
      refine wr_X7_put hM hq (fun r19 S18 hM hq => ?_)
      refine ⟨fun c20 => ?_, fun c20 => ?_⟩
      · have hq := hq.1 c20
        exact wl_X7_goes_119a hp S18 x1 x2 x3 x4 x5 (47 : Int32) hM hq
      · have hq := hq.2 c20
        exact wl_X7_goes_119a hp S18 x1 x2 x3 x4 x5 (17 : Int32) hM hq
    · have hq := hq.2 c3
      refine ⟨hM.1, ?_⟩
      refine ⟨R 19, hM.f 19 (by decide), ?_⟩
      refine ⟨hM.t 19 (by decide), ?_⟩
      obtain ⟨i102, hq⟩ := hq
      refine ⟨hM.i 19 (by decide) i102, ?_⟩
      exact ih S x1 x2 x3 x4 (((31 : Int32) * x5) + ((ai S (R 19) x6.toNatClampNeg) &&& (255 : Int32))) (x6 + (1 : Int32)) hM hq
def wq_X7_goes (post : Unit → HS → Prop) (R : Nat → Nat) (S : HS) (a0 : Nat) (v1 : Int32) (v2 : Int32) (v3 : Int32) : Prop := vp_in (((8 : Int32) * v1) + v2) 64 ∧ (∃ n9, wq_X7_goes_19 n9 post R S a0 v1 v2 v3 (ai S (R 6) (((8 : Int32) * v1) + v2).toNatClampNeg) (0 : Int32) (0 : Int32))
theorem wr_X7_goes {post postq : Unit → HS → Prop} {R : Nat → Nat} {S : HS} {o : Nat} {v1 : Int32} {v2 : Int32} {v3 : Int32} (hM : RM S o R) (hq : wq_X7_goes postq R S o v1 v2 v3) (hp : ∀ r S', RM S' o R → postq r S' → post r S') : wp_X7_goes post S o v1 v2 v3 := by
  refine ⟨hM.1, ?_⟩
  refine ⟨R 6, hM.f 6 (by decide), ?_⟩
  refine ⟨hM.t 6 (by decide), ?_⟩
  obtain ⟨i2, hq⟩ := hq
  refine ⟨hM.i 6 (by decide) i2, ?_⟩
  obtain ⟨n9, hq⟩ := hq
  exact ⟨n9, wl_X7_goes_19 hp n9 S v1 v2 v3 (ai S (R 6) (((8 : Int32) * v1) + v2).toNatClampNeg) (0 : Int32) (0 : Int32) hM hq⟩
def wq_X7_numberAt_5 : Nat → (Int32 → HS → Prop) → (Nat → Nat) → HS → Nat → Int32 → Int32 → Int32 → Int32 → Prop
  | 0, _, _, _, _, _, _, _, _ => False
  | n + 1, post, R, S, b0, x1, x2, x3, x4 => (((x1 + x2) ≤ x4 → post x3 S) ∧ (¬ (x1 + x2) ≤ x4 → vp_in x4 120 ∧ (wq_X7_numberAt_5 n post R S b0 x1 x2 ((x3 <<< ((8 : Int32) &&& 31)) ||| ((ai S (R 18) x4.toNatClampNeg) &&& (255 : Int32))) (x4 + (1 : Int32)))))
theorem wl_X7_numberAt_5 {post postq : Int32 → HS → Prop} {R : Nat → Nat} {o : Nat} (hp : ∀ r S', RM S' o R → postq r S' → post r S') : ∀ (n : Nat), ∀ (S : HS) (x1 : Int32) (x2 : Int32) (x3 : Int32) (x4 : Int32), RM S o R → wq_X7_numberAt_5 n postq R S o x1 x2 x3 x4 → wp_X7_numberAt_5 n post S o x1 x2 x3 x4 := by
  intro n
  induction n with
  | zero => intro S x1 x2 x3 x4 hM hq; exact hq.elim
  | succ n ih =>
    intro S x1 x2 x3 x4 hM hq
    refine ⟨fun c1 => ?_, fun c1 => ?_⟩
    · have hq := hq.1 c1
      exact hp _ _ hM hq
    · have hq := hq.2 c1
      refine ⟨hM.1, ?_⟩
      refine ⟨R 18, hM.f 18 (by decide), ?_⟩
      refine ⟨hM.t 18 (by decide), ?_⟩
      obtain ⟨i3, hq⟩ := hq
      refine ⟨hM.i 18 (by decide) i3, ?_⟩
      exact ih S x1 x2 ((x3 <<< ((8 : Int32) &&& 31)) ||| ((ai S (R 18) x4.toNatClampNeg) &&& (255 : Int32))) (x4 + (1 : Int32)) hM hq
def wq_X7_numberAt (post : Int32 → HS → Prop) (R : Nat → Nat) (S : HS) (a0 : Nat) (v1 : Int32) (v2 : Int32) : Prop := ∃ n9, wq_X7_numberAt_5 n9 post R S a0 v1 v2 (0 : Int32) v1
theorem wr_X7_numberAt {post postq : Int32 → HS → Prop} {R : Nat → Nat} {S : HS} {o : Nat} {v1 : Int32} {v2 : Int32} (hM : RM S o R) (hq : wq_X7_numberAt postq R S o v1 v2) (hp : ∀ r S', RM S' o R → postq r S' → post r S') : wp_X7_numberAt post S o v1 v2 := by
  obtain ⟨n9, hq⟩ := hq
  exact ⟨n9, wl_X7_numberAt_5 hp n9 S v1 v2 (0 : Int32) v1 hM hq⟩
def wq_X7_netPlace_145a (post : Int32 → HS → Prop) (R : Nat → Nat) (S : HS) (b0 : Nat) (x1 : Int32) (x2 : Int32) : Prop := wq_X7_numberAt (fun r13 S12 => ((r13 = (25944 : Int32) → ((x2 = 0 → post (24 : Int32) S12) ∧ (¬ x2 = 0 → ((x1 < (26 : Int32) → post (-1 : Int32) S12) ∧ (¬ x1 < (26 : Int32) → wp_X7_sum (fun r19 S18 => RM S18 b0 R ∧ (((¬ r19 = 0 → post (-1 : Int32) S18) ∧ (r19 = 0 → post (28 : Int32) S18)))) S12 (R 18) (20 : Int32) (fi S12 50 b0)))))) ∧ (¬ r13 = (25944 : Int32) → post (-1 : Int32) S12))) R S b0 (22 : Int32) (2 : Int32)
def wq_X7_netPlace_127a (post : Int32 → HS → Prop) (R : Nat → Nat) (S : HS) (b0 : Nat) (x1 : Int32) (p0 : Int32) : Prop := ((¬ p0 = 0 → wq_X7_netPlace_145a post R S b0 x1 p0) ∧ (p0 = 0 → wq_X7_numberAt (fun r22 S21 => ((¬ r22 = (8192 : Int32) → post (-1 : Int32) S21) ∧ (r22 = (8192 : Int32) → wq_X7_netPlace_145a post R S21 b0 x1 p0))) R S b0 (20 : Int32) (2 : Int32)))
theorem wl_X7_netPlace_145a {post postq : Int32 → HS → Prop} {R : Nat → Nat} {o : Nat} (hp : ∀ r S', RM S' o R → postq r S' → post r S') : ∀ (S : HS) (x1 : Int32) (x2 : Int32), RM S o R → wq_X7_netPlace_145a postq R S o x1 x2 → wp_X7_netPlace_145a post S o x1 x2 := by
  intro S x1 x2 hM hq
  refine ⟨hM.1, ?_⟩
  refine wr_X7_numberAt hM hq (fun r13 S12 hM hq => ?_)
  refine ⟨fun c14 => ?_, fun c14 => ?_⟩
  · have hq := hq.1 c14
    refine ⟨fun c15 => ?_, fun c15 => ?_⟩
    · have hq := hq.1 c15
      exact hp _ _ hM hq
    · have hq := hq.2 c15
      refine ⟨fun c16 => ?_, fun c16 => ?_⟩
      · have hq := hq.1 c16
        exact hp _ _ hM hq
      · have hq := hq.2 c16
        refine ⟨R 18, hM.f 18 (by decide), ?_⟩
        refine mo_X7_sum hq (fun r19 S18 hq => ?_)
        obtain ⟨hM, hq⟩ := hq
        refine ⟨fun c20 => ?_, fun c20 => ?_⟩
        · have hq := hq.1 c20
          exact hp _ _ hM hq
        · have hq := hq.2 c20
          exact hp _ _ hM hq
  · have hq := hq.2 c14
    exact hp _ _ hM hq
theorem wl_X7_netPlace_127a {post postq : Int32 → HS → Prop} {R : Nat → Nat} {o : Nat} (hp : ∀ r S', RM S' o R → postq r S' → post r S') : ∀ (S : HS) (x1 : Int32) (p0 : Int32), RM S o R → wq_X7_netPlace_127a postq R S o x1 p0 → wp_X7_netPlace_127a post S o x1 p0 := by
  intro S x1 p0 hM hq
  refine ⟨fun c11 => ?_, fun c11 => ?_⟩
  · have hq := hq.1 c11
    exact wl_X7_netPlace_145a hp S x1 p0 hM hq
  · have hq := hq.2 c11
    refine ⟨hM.1, ?_⟩
    refine wr_X7_numberAt hM hq (fun r22 S21 hM hq => ?_)
    refine ⟨fun c23 => ?_, fun c23 => ?_⟩
    · have hq := hq.1 c23
      exact hp _ _ hM hq
    · have hq := hq.2 c23
      exact wl_X7_netPlace_145a hp S21 x1 p0 hM hq
def wq_X7_netPlace (post : Int32 → HS → Prop) (R : Nat → Nat) (S : HS) (a0 : Nat) : Prop := vp_in (9 : Int32) 120 ∧ (((¬ (ai S (R 18) (9 : Int32).toNatClampNeg) = (17 : Int32) → vp_in (9 : Int32) 120 ∧ (((¬ (ai S (R 18) (9 : Int32).toNatClampNeg) = (47 : Int32) → post (-1 : Int32) S) ∧ ((ai S (R 18) (9 : Int32).toNatClampNeg) = (47 : Int32) → (((22 : Int32) ≤ ((fi S 50 a0) - (20 : Int32)) → wq_X7_numberAt (fun r9 S8 => ((¬ r9 = (40960 : Int32) → wq_X7_netPlace_127a post R S8 a0 ((fi S 50 a0) - (20 : Int32)) (0 : Int32)) ∧ (r9 = (40960 : Int32) → wq_X7_netPlace_127a post R S8 a0 ((fi S 50 a0) - (20 : Int32)) (1 : Int32)))) R S a0 (20 : Int32) (2 : Int32)) ∧ (¬ (22 : Int32) ≤ ((fi S 50 a0) - (20 : Int32)) → post (-1 : Int32) S)))))) ∧ ((ai S (R 18) (9 : Int32).toNatClampNeg) = (17 : Int32) → ((((fi S 50 a0) - (20 : Int32)) < (30 : Int32) → (((0 : Int32) = 0 → post (-1 : Int32) S) ∧ (¬ (0 : Int32) = 0 → post (32 : Int32) S))) ∧ (¬ ((fi S 50 a0) - (20 : Int32)) < (30 : Int32) → wq_X7_numberAt (fun r27 S26 => ((¬ r27 = ((fi S 50 a0) - (20 : Int32)) → (((0 : Int32) = 0 → post (-1 : Int32) S26) ∧ (¬ (0 : Int32) = 0 → post (32 : Int32) S26))) ∧ (r27 = ((fi S 50 a0) - (20 : Int32)) → wq_X7_numberAt (fun r31 S30 => ((¬ r31 = (4789 : Int32) → (((0 : Int32) = 0 → post (-1 : Int32) S30) ∧ (¬ (0 : Int32) = 0 → post (32 : Int32) S30))) ∧ (r31 = (4789 : Int32) → wq_X7_numberAt (fun r35 S34 => ((¬ r35 = 0 → (((0 : Int32) = 0 → post (-1 : Int32) S34) ∧ (¬ (0 : Int32) = 0 → post (32 : Int32) S34))) ∧ (r35 = 0 → vp_in (28 : Int32) 120 ∧ (((((ai S34 (R 18) (28 : Int32).toNatClampNeg) &&& (8 : Int32)) = 0 → (((0 : Int32) = 0 → post (-1 : Int32) S34) ∧ (¬ (0 : Int32) = 0 → post (32 : Int32) S34))) ∧ (¬ ((ai S34 (R 18) (28 : Int32).toNatClampNeg) &&& (8 : Int32)) = 0 → (((1 : Int32) = 0 → post (-1 : Int32) S34) ∧ (¬ (1 : Int32) = 0 → post (32 : Int32) S34)))))))) R S30 a0 (26 : Int32) (2 : Int32)))) R S26 a0 (22 : Int32) (2 : Int32)))) R S a0 (24 : Int32) (2 : Int32))))))
theorem wr_X7_netPlace {post postq : Int32 → HS → Prop} {R : Nat → Nat} {S : HS} {o : Nat} (hM : RM S o R) (hq : wq_X7_netPlace postq R S o) (hp : ∀ r S', RM S' o R → postq r S' → post r S') : wp_X7_netPlace post S o := by
  refine ⟨hM.1, ?_⟩
  refine ⟨R 18, hM.f 18 (by decide), ?_⟩
  refine ⟨hM.t 18 (by decide), ?_⟩
  obtain ⟨i2, hq⟩ := hq
  refine ⟨hM.i 18 (by decide) i2, ?_⟩
  refine ⟨fun c3 => ?_, fun c3 => ?_⟩
  · have hq := hq.1 c3
    refine ⟨R 18, hM.f 18 (by decide), ?_⟩
    refine ⟨hM.t 18 (by decide), ?_⟩
    obtain ⟨i5, hq⟩ := hq
    refine ⟨hM.i 18 (by decide) i5, ?_⟩
    refine ⟨fun c6 => ?_, fun c6 => ?_⟩
    · have hq := hq.1 c6
      exact hp _ _ hM hq
    · have hq := hq.2 c6
      refine ⟨fun c7 => ?_, fun c7 => ?_⟩
      · have hq := hq.1 c7
        refine wr_X7_numberAt hM hq (fun r9 S8 hM hq => ?_)
        refine ⟨fun c10 => ?_, fun c10 => ?_⟩
        · have hq := hq.1 c10
          exact wl_X7_netPlace_127a hp S8 ((fi S 50 o) - (20 : Int32)) (0 : Int32) hM hq
        · have hq := hq.2 c10
          exact wl_X7_netPlace_127a hp S8 ((fi S 50 o) - (20 : Int32)) (1 : Int32) hM hq
      · have hq := hq.2 c7
        exact hp _ _ hM hq
  · have hq := hq.2 c3
    refine ⟨fun c24 => ?_, fun c24 => ?_⟩
    · have hq := hq.1 c24
      refine ⟨fun c25 => ?_, fun c25 => ?_⟩
      · have hq := hq.1 c25
        exact hp _ _ hM hq
      · have hq := hq.2 c25
        exact hp _ _ hM hq
    · have hq := hq.2 c24
      refine wr_X7_numberAt hM hq (fun r27 S26 hM hq => ?_)
      refine ⟨fun c28 => ?_, fun c28 => ?_⟩
      · have hq := hq.1 c28
        refine ⟨fun c29 => ?_, fun c29 => ?_⟩
        · have hq := hq.1 c29
          exact hp _ _ hM hq
        · have hq := hq.2 c29
          exact hp _ _ hM hq
      · have hq := hq.2 c28
        refine wr_X7_numberAt hM hq (fun r31 S30 hM hq => ?_)
        refine ⟨fun c32 => ?_, fun c32 => ?_⟩
        · have hq := hq.1 c32
          refine ⟨fun c33 => ?_, fun c33 => ?_⟩
          · have hq := hq.1 c33
            exact hp _ _ hM hq
          · have hq := hq.2 c33
            exact hp _ _ hM hq
        · have hq := hq.2 c32
          refine wr_X7_numberAt hM hq (fun r35 S34 hM hq => ?_)
          refine ⟨fun c36 => ?_, fun c36 => ?_⟩
          · have hq := hq.1 c36
            refine ⟨fun c37 => ?_, fun c37 => ?_⟩
            · have hq := hq.1 c37
              exact hp _ _ hM hq
            · have hq := hq.2 c37
              exact hp _ _ hM hq
          · have hq := hq.2 c36
            refine ⟨R 18, hM.f 18 (by decide), ?_⟩
            refine ⟨hM.t 18 (by decide), ?_⟩
            obtain ⟨i39, hq⟩ := hq
            refine ⟨hM.i 18 (by decide) i39, ?_⟩
            refine ⟨fun c40 => ?_, fun c40 => ?_⟩
            · have hq := hq.1 c40
              refine ⟨fun c41 => ?_, fun c41 => ?_⟩
              · have hq := hq.1 c41
                exact hp _ _ hM hq
              · have hq := hq.2 c41
                exact hp _ _ hM hq
            · have hq := hq.2 c40
              refine ⟨fun c42 => ?_, fun c42 => ?_⟩
              · have hq := hq.1 c42
                exact hp _ _ hM hq
              · have hq := hq.2 c42
                exact hp _ _ hM hq
def wq_X7_send_280 : Nat → (Int32 → HS → Prop) → (Nat → Nat) → HS → Nat → Int32 → Int32 → Int32 → Int32 → Prop
  | 0, _, _, _, _, _, _, _, _ => False
  | n + 1, post, R, S, b0, x5, x6, x10, x11 => (((fi S 27 b0) ≤ x11 → vp_in (0 : Int32) 13 ∧ (post ((ai S (R 17) (0 : Int32).toNatClampNeg) - x10) S)) ∧ (¬ (fi S 27 b0) ≤ x11 → ((x11 = x5 → wq_X7_send_280 n post R S b0 x5 x6 x10 (x11 + (1 : Int32))) ∧ (¬ x11 = x5 → wq_X7_has (fun r37 S36 => ((r37 = 0 → wq_X7_send_280 n post R S36 b0 x5 x6 x10 (x11 + (1 : Int32))) ∧ (¬ r37 = 0 → wq_X7_goes (fun _ S39 => wq_X7_send_280 n post R S39 b0 x5 x6 x10 (x11 + (1 : Int32))) R S36 b0 x5 x11 x6))) R S b0 x11 x6))))
def wq_X7_send_174 : Nat → (Int32 → HS → Prop) → (Nat → Nat) → HS → Nat → Int32 → Int64 → Int32 → Int32 → Int64 → Int32 → Prop
  | 0, _, _, _, _, _, _, _, _, _, _ => False
  | n + 1, post, R, S, b0, x1, y2, x5, x6, y7, x9 => (((fi S 43 b0) ≤ x9 → wq_X7_learn (fun _ S21 => wq_X7_find (fun r24 S23 => vp_in (0 : Int32) 13 ∧ (vp_in (0 : Int32) 120 ∧ (((((ai S23 (R 19) (0 : Int32).toNatClampNeg) &&& (1 : Int32)) = (1 : Int32) → wq_X7_comesToAll (fun _ S30 => ∃ n9, wq_X7_send_280 n9 post R S30 b0 x5 x6 (ai S23 (R 17) (0 : Int32).toNatClampNeg) (0 : Int32)) R S23 b0 x5 x6 x1) ∧ (¬ ((ai S23 (R 19) (0 : Int32).toNatClampNeg) &&& (1 : Int32)) = (1 : Int32) → ((¬ r24 = (-1 : Int32) → vp_in r24 192 ∧ ((((ai S23 (R 11) r24.toNatClampNeg) < 0 → vp_in r24 192 ∧ (wq_X7_goes (fun _ S47 => vp_in (0 : Int32) 13 ∧ (post ((ai S47 (R 17) (0 : Int32).toNatClampNeg) - (ai S23 (R 17) (0 : Int32).toNatClampNeg)) S47)) R S23 b0 x5 ((-1 : Int32) - (ai S23 (R 11) r24.toNatClampNeg)) x6)) ∧ (¬ (ai S23 (R 11) r24.toNatClampNeg) < 0 → vp_in r24 192 ∧ ((((ai S23 (R 11) r24.toNatClampNeg) = x1 → vp_in (0 : Int32) 13 ∧ (post ((ai S23 (R 17) (0 : Int32).toNatClampNeg) - (ai S23 (R 17) (0 : Int32).toNatClampNeg)) S23)) ∧ (¬ (ai S23 (R 11) r24.toNatClampNeg) = x1 → vp_in r24 192 ∧ (vp_in (ai S23 (R 11) r24.toNatClampNeg) 32 ∧ (((¬ (ai S23 (R 0) (ai S23 (R 11) r24.toNatClampNeg).toNatClampNeg) = x5 → vp_in (0 : Int32) 13 ∧ (post ((ai S23 (R 17) (0 : Int32).toNatClampNeg) - (ai S23 (R 17) (0 : Int32).toNatClampNeg)) S23)) ∧ ((ai S23 (R 0) (ai S23 (R 11) r24.toNatClampNeg).toNatClampNeg) = x5 → vp_in r24 192 ∧ (wq_X7_comesTo (fun _ S65 => vp_in (0 : Int32) 13 ∧ (post ((ai S65 (R 17) (0 : Int32).toNatClampNeg) - (ai S23 (R 17) (0 : Int32).toNatClampNeg)) S65)) R S23 b0 (ai S23 (R 11) r24.toNatClampNeg))))))))))))) ∧ (r24 = (-1 : Int32) → wq_X7_comesToAll (fun _ S69 => ∃ n9, wq_X7_send_280 n9 post R S69 b0 x5 x6 (ai S23 (R 17) (0 : Int32).toNatClampNeg) (0 : Int32)) R S23 b0 x5 x6 x1))))))) R S21 b0 x5 x6 y2) R (sfi S 43 b0 (0 : Int32)) b0 x5 x6 y7 x1) ∧ (¬ (fi S 43 b0) ≤ x9 → vp_in x9 120 ∧ (vp_in (fi S 52 b0) 120 ∧ (wq_X7_send_174 n post R (sfi (sai S (R 19) (fi S 52 b0).toNatClampNeg ((ai S (R 13) x9.toNatClampNeg).toInt8.toInt32)) 52 b0 ((fi (sai S (R 19) (fi S 52 b0).toNatClampNeg ((ai S (R 13) x9.toNatClampNeg).toInt8.toInt32)) 52 b0) + (1 : Int32))) b0 x1 y2 x5 x6 y7 (x9 + (1 : Int32))))))
def wq_X7_send_87 : Nat → (Int32 → HS → Prop) → (Nat → Nat) → HS → Nat → Int32 → Int64 → Int32 → Int32 → Int32 → Int64 → Int32 → Prop
  | 0, _, _, _, _, _, _, _, _, _, _, _ => False
  | n + 1, post, R, S, b0, x1, y2, x4, x5, x6, y7, x9 => ((x9 < 0 → vp_in (12 : Int32) 120 ∧ (vp_in (13 : Int32) 120 ∧ (∃ n9, wq_X7_send_174 n9 post R (sai (sai (sfi S 52 b0 (14 : Int32)) (R 19) (12 : Int32).toNatClampNeg (((x4 >>> ((8 : Int32) &&& 31)).toInt8.toInt32).toInt8.toInt32)) (R 19) (13 : Int32).toNatClampNeg ((x4.toInt8.toInt32).toInt8.toInt32)) b0 x1 y2 x5 x6 y7 (0 : Int32)))) ∧ (¬ x9 < 0 → vp_in (fi S 52 b0) 120 ∧ (vp_in ((fi (sai S (R 19) (fi S 52 b0).toNatClampNeg ((((y2 >>> (x9.toInt64 &&& 63)).toInt32).toInt8.toInt32).toInt8.toInt32)) 52 b0) + (6 : Int32)) 120 ∧ (wq_X7_send_87 n post R (sfi (sai (sai S (R 19) (fi S 52 b0).toNatClampNeg ((((y2 >>> (x9.toInt64 &&& 63)).toInt32).toInt8.toInt32).toInt8.toInt32)) (R 19) ((fi (sai S (R 19) (fi S 52 b0).toNatClampNeg ((((y2 >>> (x9.toInt64 &&& 63)).toInt32).toInt8.toInt32).toInt8.toInt32)) 52 b0) + (6 : Int32)).toNatClampNeg ((((y7 >>> (x9.toInt64 &&& 63)).toInt32).toInt8.toInt32).toInt8.toInt32)) 52 b0 ((fi (sai (sai S (R 19) (fi S 52 b0).toNatClampNeg ((((y2 >>> (x9.toInt64 &&& 63)).toInt32).toInt8.toInt32).toInt8.toInt32)) (R 19) ((fi (sai S (R 19) (fi S 52 b0).toNatClampNeg ((((y2 >>> (x9.toInt64 &&& 63)).toInt32).toInt8.toInt32).toInt8.toInt32)) 52 b0) + (6 : Int32)).toNatClampNeg ((((y7 >>> (x9.toInt64 &&& 63)).toInt32).toInt8.toInt32).toInt8.toInt32)) 52 b0) + (1 : Int32))) b0 x1 y2 x4 x5 x6 y7 (x9 + (-8 : Int32))))))
theorem wl_X7_send_280 {post postq : Int32 → HS → Prop} {R : Nat → Nat} {o : Nat} (hp : ∀ r S', RM S' o R → postq r S' → post r S') : ∀ (n : Nat), ∀ (S : HS) (x5 : Int32) (x6 : Int32) (x10 : Int32) (x11 : Int32), RM S o R → wq_X7_send_280 n postq R S o x5 x6 x10 x11 → wp_X7_send_280 n post S o x5 x6 x10 x11 := by
  intro n
  induction n with
  | zero => intro S x5 x6 x10 x11 hM hq; exact hq.elim
  | succ n ih =>
    intro S x5 x6 x10 x11 hM hq
    refine ⟨hM.1, ?_⟩
    refine ⟨fun c32 => ?_, fun c32 => ?_⟩
    · have hq := hq.1 c32
      refine ⟨R 17, hM.f 17 (by decide), ?_⟩
      refine ⟨hM.t 17 (by decide), ?_⟩
      obtain ⟨i34, hq⟩ := hq
      refine ⟨hM.i 17 (by decide) i34, ?_⟩
      exact hp _ _ hM hq
    · have hq := hq.2 c32
      refine ⟨fun c35 => ?_, fun c35 => ?_⟩
      · have hq := hq.1 c35
        exact ih S x5 x6 x10 (x11 + (1 : Int32)) hM hq
      · have hq := hq.2 c35
        refine wr_X7_has hM hq (fun r37 S36 hM hq => ?_)
        refine ⟨fun c38 => ?_, fun c38 => ?_⟩
        · have hq := hq.1 c38
          exact ih S36 x5 x6 x10 (x11 + (1 : Int32)) hM hq
        · have hq := hq.2 c38
          refine wr_X7_goes hM hq (fun r40 S39 hM hq => ?_)
          exact ih S39 x5 x6 x10 (x11 + (1 : Int32)) hM hq
theorem wl_X7_send_174 {post postq : Int32 → HS → Prop} {R : Nat → Nat} {o : Nat} (hp : ∀ r S', RM S' o R → postq r S' → post r S') : ∀ (n : Nat), ∀ (S : HS) (x1 : Int32) (y2 : Int64) (x5 : Int32) (x6 : Int32) (y7 : Int64) (x9 : Int32), RM S o R → wq_X7_send_174 n postq R S o x1 y2 x5 x6 y7 x9 → wp_X7_send_174 n post S o x1 y2 x5 x6 y7 x9 := by
  intro n
  induction n with
  | zero => intro S x1 y2 x5 x6 y7 x9 hM hq; exact hq.elim
  | succ n ih =>
    intro S x1 y2 x5 x6 y7 x9 hM hq
    refine ⟨hM.1, ?_⟩
    refine ⟨fun c20 => ?_, fun c20 => ?_⟩
    · have hq := hq.1 c20
      have hM : RM (sfi S 43 o (0 : Int32)) o R := hM.wfi
      refine wr_X7_learn hM hq (fun r22 S21 hM hq => ?_)
      refine wr_X7_find hM hq (fun r24 S23 hM hq => ?_)
      refine ⟨R 17, hM.f 17 (by decide), ?_⟩
      refine ⟨hM.t 17 (by decide), ?_⟩
      obtain ⟨i26, hq⟩ := hq
      refine ⟨hM.i 17 (by decide) i26, ?_⟩
      refine ⟨R 19, hM.f 19 (by decide), ?_⟩
      refine ⟨hM.t 19 (by decide), ?_⟩
      obtain ⟨i28, hq⟩ := hq
      refine ⟨hM.i 19 (by decide) i28, ?_⟩
      refine ⟨fun c29 => ?_, fun c29 => ?_⟩
      · have hq := hq.1 c29
        refine wr_X7_comesToAll hM hq (fun r31 S30 hM hq => ?_)
        obtain ⟨n9, hq⟩ := hq
        exact ⟨n9, wl_X7_send_280 hp n9 S30 x5 x6 (ai S23 (R 17) (0 : Int32).toNatClampNeg) (0 : Int32) hM hq⟩
      · have hq := hq.2 c29
        refine ⟨fun c41 => ?_, fun c41 => ?_⟩
        · have hq := hq.1 c41
          refine ⟨R 11, hM.f 11 (by decide), ?_⟩
          refine ⟨hM.t 11 (by decide), ?_⟩
          obtain ⟨i43, hq⟩ := hq
          refine ⟨hM.i 11 (by decide) i43, ?_⟩
          refine ⟨fun c44 => ?_, fun c44 => ?_⟩
          · have hq := hq.1 c44
            refine ⟨R 11, hM.f 11 (by decide), ?_⟩
            refine ⟨hM.t 11 (by decide), ?_⟩
            obtain ⟨i46, hq⟩ := hq
            refine ⟨hM.i 11 (by decide) i46, ?_⟩
            refine wr_X7_goes hM hq (fun r48 S47 hM hq => ?_)
            refine ⟨R 17, hM.f 17 (by decide), ?_⟩
            refine ⟨hM.t 17 (by decide), ?_⟩
            obtain ⟨i50, hq⟩ := hq
            refine ⟨hM.i 17 (by decide) i50, ?_⟩
            exact hp _ _ hM hq
          · have hq := hq.2 c44
            refine ⟨R 11, hM.f 11 (by decide), ?_⟩
            refine ⟨hM.t 11 (by decide), ?_⟩
            obtain ⟨i52, hq⟩ := hq
            refine ⟨hM.i 11 (by decide) i52, ?_⟩
            refine ⟨fun c53 => ?_, fun c53 => ?_⟩
            · have hq := hq.1 c53
              refine ⟨R 17, hM.f 17 (by decide), ?_⟩
              refine ⟨hM.t 17 (by decide), ?_⟩
              obtain ⟨i55, hq⟩ := hq
              refine ⟨hM.i 17 (by decide) i55, ?_⟩
              exact hp _ _ hM hq
            · have hq := hq.2 c53
              refine ⟨R 0, hM.f 0 (by decide), ?_⟩
              refine ⟨R 11, hM.f 11 (by decide), ?_⟩
              refine ⟨hM.t 11 (by decide), ?_⟩
              obtain ⟨i58, hq⟩ := hq
              refine ⟨hM.i 11 (by decide) i58, ?_⟩
              refine ⟨hM.t 0 (by decide), ?_⟩
              obtain ⟨i59, hq⟩ := hq
              refine ⟨hM.i 0 (by decide) i59, ?_⟩
              refine ⟨fun c60 => ?_, fun c60 => ?_⟩
              · have hq := hq.1 c60
                refine ⟨R 17, hM.f 17 (by decide), ?_⟩
                refine ⟨hM.t 17 (by decide), ?_⟩
                obtain ⟨i62, hq⟩ := hq
                refine ⟨hM.i 17 (by decide) i62, ?_⟩
                exact hp _ _ hM hq
              · have hq := hq.2 c60
                refine ⟨R 11, hM.f 11 (by decide), ?_⟩
                refine ⟨hM.t 11 (by decide), ?_⟩
                obtain ⟨i64, hq⟩ := hq
                refine ⟨hM.i 11 (by decide) i64, ?_⟩
                refine wr_X7_comesTo hM hq (fun r66 S65 hM hq => ?_)
                refine ⟨R 17, hM.f 17 (by decide), ?_⟩
                refine ⟨hM.t 17 (by decide), ?_⟩
                obtain ⟨i68, hq⟩ := hq
                refine ⟨hM.i 17 (by decide) i68, ?_⟩
                exact hp _ _ hM hq
        · have hq := hq.2 c41
          refine wr_X7_comesToAll hM hq (fun r70 S69 hM hq => ?_)
          obtain ⟨n9, hq⟩ := hq
          exact ⟨n9, wl_X7_send_280 hp n9 S69 x5 x6 (ai S23 (R 17) (0 : Int32).toNatClampNeg) (0 : Int32) hM hq⟩
    · have hq := hq.2 c20
      refine ⟨R 19, hM.f 19 (by decide), ?_⟩
      refine ⟨R 13, hM.f 13 (by decide), ?_⟩
      refine ⟨hM.t 13 (by decide), ?_⟩
      obtain ⟨i73, hq⟩ := hq
      refine ⟨hM.i 13 (by decide) i73, ?_⟩
      refine ⟨hM.t 19 (by decide), ?_⟩
      obtain ⟨i74, hq⟩ := hq
      refine ⟨hM.i 19 (by decide) i74, ?_⟩
      have hM : RM (sai S (R 19) (fi S 52 o).toNatClampNeg ((ai S (R 13) x9.toNatClampNeg).toInt8.toInt32)) o R := hM.wai
      have hM : RM (sfi (sai S (R 19) (fi S 52 o).toNatClampNeg ((ai S (R 13) x9.toNatClampNeg).toInt8.toInt32)) 52 o ((fi (sai S (R 19) (fi S 52 o).toNatClampNeg ((ai S (R 13) x9.toNatClampNeg).toInt8.toInt32)) 52 o) + (1 : Int32))) o R := hM.wfi
      exact ih (sfi (sai S (R 19) (fi S 52 o).toNatClampNeg ((ai S (R 13) x9.toNatClampNeg).toInt8.toInt32)) 52 o ((fi (sai S (R 19) (fi S 52 o).toNatClampNeg ((ai S (R 13) x9.toNatClampNeg).toInt8.toInt32)) 52 o) + (1 : Int32))) x1 y2 x5 x6 y7 (x9 + (1 : Int32)) hM hq
theorem wl_X7_send_87 {post postq : Int32 → HS → Prop} {R : Nat → Nat} {o : Nat} (hp : ∀ r S', RM S' o R → postq r S' → post r S') : ∀ (n : Nat), ∀ (S : HS) (x1 : Int32) (y2 : Int64) (x4 : Int32) (x5 : Int32) (x6 : Int32) (y7 : Int64) (x9 : Int32), RM S o R → wq_X7_send_87 n postq R S o x1 y2 x4 x5 x6 y7 x9 → wp_X7_send_87 n post S o x1 y2 x4 x5 x6 y7 x9 := by
  intro n
  induction n with
  | zero => intro S x1 y2 x4 x5 x6 y7 x9 hM hq; exact hq.elim
  | succ n ih =>
    intro S x1 y2 x4 x5 x6 y7 x9 hM hq
    refine ⟨fun c15 => ?_, fun c15 => ?_⟩
    · have hq := hq.1 c15
      refine ⟨hM.1, ?_⟩
      have hM : RM (sfi S 52 o (14 : Int32)) o R := hM.wfi
      refine ⟨R 19, hM.f 19 (by decide), ?_⟩
      refine ⟨hM.t 19 (by decide), ?_⟩
      obtain ⟨i17, hq⟩ := hq
      refine ⟨hM.i 19 (by decide) i17, ?_⟩
      have hM : RM (sai (sfi S 52 o (14 : Int32)) (R 19) (12 : Int32).toNatClampNeg (((x4 >>> ((8 : Int32) &&& 31)).toInt8.toInt32).toInt8.toInt32)) o R := hM.wai
      refine ⟨R 19, hM.f 19 (by decide), ?_⟩
      refine ⟨hM.t 19 (by decide), ?_⟩
      obtain ⟨i19, hq⟩ := hq
      refine ⟨hM.i 19 (by decide) i19, ?_⟩
      have hM : RM (sai (sai (sfi S 52 o (14 : Int32)) (R 19) (12 : Int32).toNatClampNeg (((x4 >>> ((8 : Int32) &&& 31)).toInt8.toInt32).toInt8.toInt32)) (R 19) (13 : Int32).toNatClampNeg ((x4.toInt8.toInt32).toInt8.toInt32)) o R := hM.wai
      obtain ⟨n9, hq⟩ := hq
      exact ⟨n9, wl_X7_send_174 hp n9 (sai (sai (sfi S 52 o (14 : Int32)) (R 19) (12 : Int32).toNatClampNeg (((x4 >>> ((8 : Int32) &&& 31)).toInt8.toInt32).toInt8.toInt32)) (R 19) (13 : Int32).toNatClampNeg ((x4.toInt8.toInt32).toInt8.toInt32)) x1 y2 x5 x6 y7 (0 : Int32) hM hq⟩
    · have hq := hq.2 c15
      refine ⟨hM.1, ?_⟩
      refine ⟨R 19, hM.f 19 (by decide), ?_⟩
      refine ⟨hM.t 19 (by decide), ?_⟩
      obtain ⟨i76, hq⟩ := hq
      refine ⟨hM.i 19 (by decide) i76, ?_⟩
      have hM : RM (sai S (R 19) (fi S 52 o).toNatClampNeg ((((y2 >>> (x9.toInt64 &&& 63)).toInt32).toInt8.toInt32).toInt8.toInt32)) o R := hM.wai
      refine ⟨R 19, hM.f 19 (by decide), ?_⟩
      refine ⟨hM.t 19 (by decide), ?_⟩
      obtain ⟨i78, hq⟩ := hq
      refine ⟨hM.i 19 (by decide) i78, ?_⟩
      have hM : RM (sai (sai S (R 19) (fi S 52 o).toNatClampNeg ((((y2 >>> (x9.toInt64 &&& 63)).toInt32).toInt8.toInt32).toInt8.toInt32)) (R 19) ((fi (sai S (R 19) (fi S 52 o).toNatClampNeg ((((y2 >>> (x9.toInt64 &&& 63)).toInt32).toInt8.toInt32).toInt8.toInt32)) 52 o) + (6 : Int32)).toNatClampNeg ((((y7 >>> (x9.toInt64 &&& 63)).toInt32).toInt8.toInt32).toInt8.toInt32)) o R := hM.wai
      have hM : RM (sfi (sai (sai S (R 19) (fi S 52 o).toNatClampNeg ((((y2 >>> (x9.toInt64 &&& 63)).toInt32).toInt8.toInt32).toInt8.toInt32)) (R 19) ((fi (sai S (R 19) (fi S 52 o).toNatClampNeg ((((y2 >>> (x9.toInt64 &&& 63)).toInt32).toInt8.toInt32).toInt8.toInt32)) 52 o) + (6 : Int32)).toNatClampNeg ((((y7 >>> (x9.toInt64 &&& 63)).toInt32).toInt8.toInt32).toInt8.toInt32)) 52 o ((fi (sai (sai S (R 19) (fi S 52 o).toNatClampNeg ((((y2 >>> (x9.toInt64 &&& 63)).toInt32).toInt8.toInt32).toInt8.toInt32)) (R 19) ((fi (sai S (R 19) (fi S 52 o).toNatClampNeg ((((y2 >>> (x9.toInt64 &&& 63)).toInt32).toInt8.toInt32).toInt8.toInt32)) 52 o) + (6 : Int32)).toNatClampNeg ((((y7 >>> (x9.toInt64 &&& 63)).toInt32).toInt8.toInt32).toInt8.toInt32)) 52 o) + (1 : Int32))) o R := hM.wfi
      exact ih (sfi (sai (sai S (R 19) (fi S 52 o).toNatClampNeg ((((y2 >>> (x9.toInt64 &&& 63)).toInt32).toInt8.toInt32).toInt8.toInt32)) (R 19) ((fi (sai S (R 19) (fi S 52 o).toNatClampNeg ((((y2 >>> (x9.toInt64 &&& 63)).toInt32).toInt8.toInt32).toInt8.toInt32)) 52 o) + (6 : Int32)).toNatClampNeg ((((y7 >>> (x9.toInt64 &&& 63)).toInt32).toInt8.toInt32).toInt8.toInt32)) 52 o ((fi (sai (sai S (R 19) (fi S 52 o).toNatClampNeg ((((y2 >>> (x9.toInt64 &&& 63)).toInt32).toInt8.toInt32).toInt8.toInt32)) (R 19) ((fi (sai S (R 19) (fi S 52 o).toNatClampNeg ((((y2 >>> (x9.toInt64 &&& 63)).toInt32).toInt8.toInt32).toInt8.toInt32)) 52 o) + (6 : Int32)).toNatClampNeg ((((y7 >>> (x9.toInt64 &&& 63)).toInt32).toInt8.toInt32).toInt8.toInt32)) 52 o) + (1 : Int32))) x1 y2 x4 x5 x6 y7 (x9 + (-8 : Int32)) hM hq
def wq_X7_send (post : Int32 → HS → Prop) (R : Nat → Nat) (S : HS) (a0 : Nat) (v1 : Int32) (w2 : Int64) (v4 : Int32) : Prop := wq_X7_isStation (fun r2 S1 => ((r2 = 0 → post (-1 : Int32) S1) ∧ (¬ r2 = 0 → (((lg_cmp w2 (0 : Int64)) < 0 → post (-1 : Int32) S1) ∧ (¬ (lg_cmp w2 (0 : Int64)) < 0 → ((0 ≤ (lg_cmp w2 (281474976710656 : Int64)) → post (-1 : Int32) S1) ∧ (¬ 0 ≤ (lg_cmp w2 (281474976710656 : Int64)) → ((v4 < 0 → post (-1 : Int32) S1) ∧ (¬ v4 < 0 → (((65535 : Int32) < v4 → post (-1 : Int32) S1) ∧ (¬ (65535 : Int32) < v4 → (((fi S1 43 a0) ≤ (40 : Int32) → vp_in v1 32 ∧ (vp_in v1 32 ∧ (vp_in v1 32 ∧ (∃ n9, wq_X7_send_87 n9 post R (sfi S1 52 a0 (0 : Int32)) a0 v1 w2 v4 (ai S1 (R 0) v1.toNatClampNeg) (ai S1 (R 1) v1.toNatClampNeg) ((2199023255552 : Int64) ||| ((ai S1 (R 2) v1.toNatClampNeg).toInt64 &&& (4294967295 : Int64))) (40 : Int32))))) ∧ (¬ (fi S1 43 a0) ≤ (40 : Int32) → post (-1 : Int32) S1))))))))))))) R S a0 v1
theorem wr_X7_send {post postq : Int32 → HS → Prop} {R : Nat → Nat} {S : HS} {o : Nat} {v1 : Int32} {w2 : Int64} {v4 : Int32} (hM : RM S o R) (hq : wq_X7_send postq R S o v1 w2 v4) (hp : ∀ r S', RM S' o R → postq r S' → post r S') : wp_X7_send post S o v1 w2 v4 := by
  refine ⟨hM.1, ?_⟩
  refine wr_X7_isStation hM hq (fun r2 S1 hM hq => ?_)
  refine ⟨fun c3 => ?_, fun c3 => ?_⟩
  · have hq := hq.1 c3
    exact hp _ _ hM hq
  · have hq := hq.2 c3
    refine ⟨fun c4 => ?_, fun c4 => ?_⟩
    · have hq := hq.1 c4
      exact hp _ _ hM hq
    · have hq := hq.2 c4
      refine ⟨fun c5 => ?_, fun c5 => ?_⟩
      · have hq := hq.1 c5
        exact hp _ _ hM hq
      · have hq := hq.2 c5
        refine ⟨fun c6 => ?_, fun c6 => ?_⟩
        · have hq := hq.1 c6
          exact hp _ _ hM hq
        · have hq := hq.2 c6
          refine ⟨fun c7 => ?_, fun c7 => ?_⟩
          · have hq := hq.1 c7
            exact hp _ _ hM hq
          · have hq := hq.2 c7
            refine ⟨fun c8 => ?_, fun c8 => ?_⟩
            · have hq := hq.1 c8
              refine ⟨R 0, hM.f 0 (by decide), ?_⟩
              refine ⟨hM.t 0 (by decide), ?_⟩
              obtain ⟨i10, hq⟩ := hq
              refine ⟨hM.i 0 (by decide) i10, ?_⟩
              refine ⟨R 1, hM.f 1 (by decide), ?_⟩
              refine ⟨hM.t 1 (by decide), ?_⟩
              obtain ⟨i12, hq⟩ := hq
              refine ⟨hM.i 1 (by decide) i12, ?_⟩
              refine ⟨R 2, hM.f 2 (by decide), ?_⟩
              refine ⟨hM.t 2 (by decide), ?_⟩
              obtain ⟨i14, hq⟩ := hq
              refine ⟨hM.i 2 (by decide) i14, ?_⟩
              have hM : RM (sfi S1 52 o (0 : Int32)) o R := hM.wfi
              obtain ⟨n9, hq⟩ := hq
              exact ⟨n9, wl_X7_send_87 hp n9 (sfi S1 52 o (0 : Int32)) v1 w2 v4 (ai S1 (R 0) v1.toNatClampNeg) (ai S1 (R 1) v1.toNatClampNeg) ((2199023255552 : Int64) ||| ((ai S1 (R 2) v1.toNatClampNeg).toInt64 &&& (4294967295 : Int64))) (40 : Int32) hM hq⟩
            · have hq := hq.2 c8
              exact hp _ _ hM hq
def wq_X7_look_177 : Nat → (Int32 → HS → Prop) → (Nat → Nat) → HS → Nat → Int32 → Int32 → Int32 → Int32 → Int32 → Prop
  | 0, _, _, _, _, _, _, _, _, _ => False
  | n + 1, post, R, S, b0, x1, x2, x3, x4, x5 => (((fi S 52 b0) ≤ x5 → vp_in (6 : Int32) 120 ∧ (((¬ ((ai S (R 19) (6 : Int32).toNatClampNeg) &&& (1 : Int32)) = (1 : Int32) → wp_X7_macAt (fun r41 S40 => RM S40 b0 R ∧ (wq_X7_learn (fun _ S42 => wp_X7_macAt (fun r46 S45 => RM S45 b0 R ∧ (wq_X7_find (fun r48 S47 => vp_in (0 : Int32) 120 ∧ (((((ai S47 (R 19) (0 : Int32).toNatClampNeg) &&& (1 : Int32)) = (1 : Int32) → wq_X7_comesToAll (fun _ S52 => post (0 : Int32) S52) R S47 b0 x1 x3 (-1 : Int32)) ∧ (¬ ((ai S47 (R 19) (0 : Int32).toNatClampNeg) &&& (1 : Int32)) = (1 : Int32) → ((¬ r48 = (-1 : Int32) → vp_in r48 192 ∧ (((0 ≤ (ai S47 (R 11) r48.toNatClampNeg) → vp_in r48 192 ∧ (vp_in (ai S47 (R 11) r48.toNatClampNeg) 32 ∧ (((¬ (ai S47 (R 0) (ai S47 (R 11) r48.toNatClampNeg).toNatClampNeg) = x1 → post (0 : Int32) S47) ∧ ((ai S47 (R 0) (ai S47 (R 11) r48.toNatClampNeg).toNatClampNeg) = x1 → vp_in r48 192 ∧ (wq_X7_comesTo (fun _ S65 => post (0 : Int32) S65) R S47 b0 (ai S47 (R 11) r48.toNatClampNeg))))))) ∧ (¬ 0 ≤ (ai S47 (R 11) r48.toNatClampNeg) → post (9 : Int32) S47)))) ∧ (r48 = (-1 : Int32) → wq_X7_comesToAll (fun _ S67 => post (0 : Int32) S67) R S47 b0 x1 x3 (-1 : Int32))))))) R S45 b0 x1 x3 r46)) S42 b0 (R 19) (0 : Int32)) R S40 b0 x1 x3 r41 ((-1 : Int32) - x4))) S b0 (R 19) (6 : Int32)) ∧ (((ai S (R 19) (6 : Int32).toNatClampNeg) &&& (1 : Int32)) = (1 : Int32) → post (8 : Int32) S)))) ∧ (¬ (fi S 52 b0) ≤ x5 → vp_in ((x2 + (4 : Int32)) + x5) 120 ∧ (vp_in x5 120 ∧ (wq_X7_look_177 n post R (sai S (R 19) x5.toNatClampNeg ((ai S (R 18) ((x2 + (4 : Int32)) + x5).toNatClampNeg).toInt8.toInt32)) b0 x1 x2 x3 x4 (x5 + (1 : Int32))))))
def wq_X7_look_91a (post : Int32 → HS → Prop) (R : Nat → Nat) (S : HS) (b0 : Nat) (x1 : Int32) : Prop := wq_X7_netPlace (fun r19 S18 => ((¬ r19 = (-1 : Int32) → wq_X7_numberAt (fun r22 S21 => wq_X7_has (fun r24 S23 => ((¬ r24 = 0 → wq_X7_numberAt (fun r27 S26 => wq_X7_isEndpoint (fun r29 S28 => ((r29 = 0 → post (7 : Int32) S28) ∧ (¬ r29 = 0 → (((r27 - (167772161 : Int32)) = x1 → post (7 : Int32) S28) ∧ (¬ (r27 - (167772161 : Int32)) = x1 → wq_X7_has (fun r33 S32 => ((¬ r33 = 0 → ∃ n9, wq_X7_look_177 n9 post R (sfi S32 52 b0 (((fi S32 50 b0) - r19) - (4 : Int32))) b0 x1 r19 r22 (r27 - (167772161 : Int32)) (0 : Int32)) ∧ (r33 = 0 → post (7 : Int32) S32))) R S28 b0 (r27 - (167772161 : Int32)) r22))))) R S26 b0 (r27 - (167772161 : Int32))) R S23 b0 (12 : Int32) (4 : Int32)) ∧ (r24 = 0 → post (6 : Int32) S23))) R S21 b0 x1 r22) R S18 b0 r19 (3 : Int32)) ∧ (r19 = (-1 : Int32) → post (5 : Int32) S18))) R S b0 
theorem wl_X7_look_177 {post postq : Int32 → HS → Prop} {R : Nat → Nat} {o : Nat} (hp : ∀ r S', RM S' o R → postq r S' → post r S') : ∀ (n : Nat), ∀ (S : HS) (x1 : Int32) (x2 : Int32) (x3 : Int32) (x4 : Int32) (x5 : Int32), RM S o R → wq_X7_look_177 n postq R S o x1 x2 x3 x4 x5 → wp_X7_look_177 n post S o x1 x2 x3 x4 x5 := by
  intro n
  induction n with
  | zero => intro S x1 x2 x3 x4 x5 hM hq; exact hq.elim
  | succ n ih =>
    intro S x1 x2 x3 x4 x5 hM hq
    refine ⟨hM.1, ?_⟩
    refine ⟨fun c35 => ?_, fun c35 => ?_⟩
    · have hq := hq.1 c35
      refine ⟨R 19, hM.f 19 (by decide), ?_⟩
      refine ⟨hM.t 19 (by decide), ?_⟩
      obtain ⟨i37, hq⟩ := hq
      refine ⟨hM.i 19 (by decide) i37, ?_⟩
      refine ⟨fun c38 => ?_, fun c38 => ?_⟩
      · have hq := hq.1 c38
        refine ⟨R 19, hM.f 19 (by decide), ?_⟩
        refine mo_X7_macAt hq (fun r41 S40 hq => ?_)
        obtain ⟨hM, hq⟩ := hq
        refine wr_X7_learn hM hq (fun r43 S42 hM hq => ?_)
        refine ⟨R 19, hM.f 19 (by decide), ?_⟩
        refine mo_X7_macAt hq (fun r46 S45 hq => ?_)
        obtain ⟨hM, hq⟩ := hq
        refine wr_X7_find hM hq (fun r48 S47 hM hq => ?_)
        refine ⟨R 19, hM.f 19 (by decide), ?_⟩
        refine ⟨hM.t 19 (by decide), ?_⟩
        obtain ⟨i50, hq⟩ := hq
        refine ⟨hM.i 19 (by decide) i50, ?_⟩
        refine ⟨fun c51 => ?_, fun c51 => ?_⟩
        · have hq := hq.1 c51
          refine wr_X7_comesToAll hM hq (fun r53 S52 hM hq => ?_)
          exact hp _ _ hM hq
        · have hq := hq.2 c51
          refine ⟨fun c54 => ?_, fun c54 => ?_⟩
          · have hq := hq.1 c54
            refine ⟨R 11, hM.f 11 (by decide), ?_⟩
            refine ⟨hM.t 11 (by decide), ?_⟩
            obtain ⟨i56, hq⟩ := hq
            refine ⟨hM.i 11 (by decide) i56, ?_⟩
            refine ⟨fun c57 => ?_, fun c57 => ?_⟩
            · have hq := hq.1 c57
              refine ⟨R 0, hM.f 0 (by decide), ?_⟩
              refine ⟨R 11, hM.f 11 (by decide), ?_⟩
              refine ⟨hM.t 11 (by decide), ?_⟩
              obtain ⟨i60, hq⟩ := hq
              refine ⟨hM.i 11 (by decide) i60, ?_⟩
              refine ⟨hM.t 0 (by decide), ?_⟩
              obtain ⟨i61, hq⟩ := hq
              refine ⟨hM.i 0 (by decide) i61, ?_⟩
              refine ⟨fun c62 => ?_, fun c62 => ?_⟩
              · have hq := hq.1 c62
                exact hp _ _ hM hq
              · have hq := hq.2 c62
                refine ⟨R 11, hM.f 11 (by decide), ?_⟩
                refine ⟨hM.t 11 (by decide), ?_⟩
                obtain ⟨i64, hq⟩ := hq
                refine ⟨hM.i 11 (by decide) i64, ?_⟩
                refine wr_X7_comesTo hM hq (fun r66 S65 hM hq => ?_)
                exact hp _ _ hM hq
            · have hq := hq.2 c57
              exact hp _ _ hM hq
          · have hq := hq.2 c54
            refine wr_X7_comesToAll hM hq (fun r68 S67 hM hq => ?_)
            exact hp _ _ hM hq
      · have hq := hq.2 c38
        exact hp _ _ hM hq
    · have hq := hq.2 c35
      refine ⟨R 19, hM.f 19 (by decide), ?_⟩
      refine ⟨R 18, hM.f 18 (by decide), ?_⟩
      refine ⟨hM.t 18 (by decide), ?_⟩
      obtain ⟨i71, hq⟩ := hq
      refine ⟨hM.i 18 (by decide) i71, ?_⟩
      refine ⟨hM.t 19 (by decide), ?_⟩
      obtain ⟨i72, hq⟩ := hq
      refine ⟨hM.i 19 (by decide) i72, ?_⟩
      have hM : RM (sai S (R 19) x5.toNatClampNeg ((ai S (R 18) ((x2 + (4 : Int32)) + x5).toNatClampNeg).toInt8.toInt32)) o R := hM.wai
      exact ih (sai S (R 19) x5.toNatClampNeg ((ai S (R 18) ((x2 + (4 : Int32)) + x5).toNatClampNeg).toInt8.toInt32)) x1 x2 x3 x4 (x5 + (1 : Int32)) hM hq
theorem wl_X7_look_91a {post postq : Int32 → HS → Prop} {R : Nat → Nat} {o : Nat} (hp : ∀ r S', RM S' o R → postq r S' → post r S') : ∀ (S : HS) (x1 : Int32), RM S o R → wq_X7_look_91a postq R S o x1 → wp_X7_look_91a post S o x1 := by
  intro S x1 hM hq
  refine ⟨hM.1, ?_⟩
  refine wr_X7_netPlace hM hq (fun r19 S18 hM hq => ?_)
  refine ⟨fun c20 => ?_, fun c20 => ?_⟩
  · have hq := hq.1 c20
    refine wr_X7_numberAt hM hq (fun r22 S21 hM hq => ?_)
    refine wr_X7_has hM hq (fun r24 S23 hM hq => ?_)
    refine ⟨fun c25 => ?_, fun c25 => ?_⟩
    · have hq := hq.1 c25
      refine wr_X7_numberAt hM hq (fun r27 S26 hM hq => ?_)
      refine wr_X7_isEndpoint hM hq (fun r29 S28 hM hq => ?_)
      refine ⟨fun c30 => ?_, fun c30 => ?_⟩
      · have hq := hq.1 c30
        exact hp _ _ hM hq
      · have hq := hq.2 c30
        refine ⟨fun c31 => ?_, fun c31 => ?_⟩
        · have hq := hq.1 c31
          exact hp _ _ hM hq
        · have hq := hq.2 c31
          refine wr_X7_has hM hq (fun r33 S32 hM hq => ?_)
          refine ⟨fun c34 => ?_, fun c34 => ?_⟩
          · have hq := hq.1 c34
            have hM : RM (sfi S32 52 o (((fi S32 50 o) - r19) - (4 : Int32))) o R := hM.wfi
            obtain ⟨n9, hq⟩ := hq
            exact ⟨n9, wl_X7_look_177 hp n9 (sfi S32 52 o (((fi S32 50 o) - r19) - (4 : Int32))) x1 r19 r22 (r27 - (167772161 : Int32)) (0 : Int32) hM hq⟩
          · have hq := hq.2 c34
            exact hp _ _ hM hq
    · have hq := hq.2 c25
      exact hp _ _ hM hq
  · have hq := hq.2 c20
    exact hp _ _ hM hq
def wq_X7_look (post : Int32 → HS → Prop) (R : Nat → Nat) (S : HS) (a0 : Nat) (v1 : Int32) : Prop := (((fi S 50 a0) < (20 : Int32) → post (1 : Int32) S) ∧ (¬ (fi S 50 a0) < (20 : Int32) → vp_in (0 : Int32) 120 ∧ (((¬ (ai S (R 18) (0 : Int32).toNatClampNeg) = (69 : Int32) → post (1 : Int32) S) ∧ ((ai S (R 18) (0 : Int32).toNatClampNeg) = (69 : Int32) → wq_X7_numberAt (fun r6 S5 => ((r6 = (fi S5 50 a0) → wp_X7_sum (fun r10 S9 => RM S9 a0 R ∧ (((r10 = 0 → wq_X7_numberAt (fun r13 S12 => ((r13 = ((167772161 : Int32) + v1) → wq_X7_numberAt (fun r16 S15 => ((r16 = 0 → wq_X7_look_91a post R S15 a0 v1) ∧ (¬ r16 = 0 → wq_X7_numberAt (fun r74 S73 => ((r74 = (16384 : Int32) → wq_X7_look_91a post R S73 a0 v1) ∧ (¬ r74 = (16384 : Int32) → post (4 : Int32) S73))) R S15 a0 (6 : Int32) (2 : Int32)))) R S12 a0 (6 : Int32) (2 : Int32)) ∧ (¬ r13 = ((167772161 : Int32) + v1) → post (3 : Int32) S12))) R S9 a0 (16 : Int32) (4 : Int32)) ∧ (¬ r10 = 0 → post (2 : Int32) S9)))) S5 (R 18) (0 : Int32) (20 : Int32)) ∧ (¬ r6 = (fi S5 50 a0) → post (1 : Int32) S5))) R S a0 (2 : Int32) (2 : Int32))))))
theorem wr_X7_look {post postq : Int32 → HS → Prop} {R : Nat → Nat} {S : HS} {o : Nat} {v1 : Int32} (hM : RM S o R) (hq : wq_X7_look postq R S o v1) (hp : ∀ r S', RM S' o R → postq r S' → post r S') : wp_X7_look post S o v1 := by
  refine ⟨hM.1, ?_⟩
  refine ⟨fun c1 => ?_, fun c1 => ?_⟩
  · have hq := hq.1 c1
    exact hp _ _ hM hq
  · have hq := hq.2 c1
    refine ⟨R 18, hM.f 18 (by decide), ?_⟩
    refine ⟨hM.t 18 (by decide), ?_⟩
    obtain ⟨i3, hq⟩ := hq
    refine ⟨hM.i 18 (by decide) i3, ?_⟩
    refine ⟨fun c4 => ?_, fun c4 => ?_⟩
    · have hq := hq.1 c4
      exact hp _ _ hM hq
    · have hq := hq.2 c4
      refine wr_X7_numberAt hM hq (fun r6 S5 hM hq => ?_)
      refine ⟨fun c7 => ?_, fun c7 => ?_⟩
      · have hq := hq.1 c7
        refine ⟨R 18, hM.f 18 (by decide), ?_⟩
        refine mo_X7_sum hq (fun r10 S9 hq => ?_)
        obtain ⟨hM, hq⟩ := hq
        refine ⟨fun c11 => ?_, fun c11 => ?_⟩
        · have hq := hq.1 c11
          refine wr_X7_numberAt hM hq (fun r13 S12 hM hq => ?_)
          refine ⟨fun c14 => ?_, fun c14 => ?_⟩
          · have hq := hq.1 c14
            refine wr_X7_numberAt hM hq (fun r16 S15 hM hq => ?_)
            refine ⟨fun c17 => ?_, fun c17 => ?_⟩
            · have hq := hq.1 c17
              exact wl_X7_look_91a hp S15 v1 hM hq
            · have hq := hq.2 c17
              refine wr_X7_numberAt hM hq (fun r74 S73 hM hq => ?_)
              refine ⟨fun c75 => ?_, fun c75 => ?_⟩
              · have hq := hq.1 c75
                exact wl_X7_look_91a hp S73 v1 hM hq
              · have hq := hq.2 c75
                exact hp _ _ hM hq
          · have hq := hq.2 c14
            exact hp _ _ hM hq
        · have hq := hq.2 c11
          exact hp _ _ hM hq
      · have hq := hq.2 c7
        exact hp _ _ hM hq
def wq_X7_comes (post : Int32 → HS → Prop) (R : Nat → Nat) (S : HS) (a0 : Nat) (v1 : Int32) : Prop := wq_X7_look (fun r2 S1 => ((r2 ≤ 0 → post r2 S1) ∧ (¬ r2 ≤ 0 → vp_in r2 13 ∧ (vp_in r2 13 ∧ (post r2 (sai S1 (R 17) r2.toNatClampNeg ((ai S1 (R 17) r2.toNatClampNeg) + (1 : Int32)))))))) R S a0 v1
theorem wr_X7_comes {post postq : Int32 → HS → Prop} {R : Nat → Nat} {S : HS} {o : Nat} {v1 : Int32} (hM : RM S o R) (hq : wq_X7_comes postq R S o v1) (hp : ∀ r S', RM S' o R → postq r S' → post r S') : wp_X7_comes post S o v1 := by
  refine ⟨hM.1, ?_⟩
  refine wr_X7_look hM hq (fun r2 S1 hM hq => ?_)
  refine ⟨fun c3 => ?_, fun c3 => ?_⟩
  · have hq := hq.1 c3
    exact hp _ _ hM hq
  · have hq := hq.2 c3
    refine ⟨R 17, hM.f 17 (by decide), ?_⟩
    refine ⟨hM.t 17 (by decide), ?_⟩
    obtain ⟨i5, hq⟩ := hq
    refine ⟨hM.i 17 (by decide) i5, ?_⟩
    obtain ⟨i6, hq⟩ := hq
    refine ⟨hM.i 17 (by decide) i6, ?_⟩
    have hM : RM (sai S1 (R 17) r2.toNatClampNeg ((ai S1 (R 17) r2.toNatClampNeg) + (1 : Int32))) o R := hM.wai
    exact hp _ _ hM hq
def wq_X7_isPacket (post : Int32 → HS → Prop) (R : Nat → Nat) (S : HS) (a0 : Nat) (v1 : Int32) : Prop := ((v1 < 0 → post (0 : Int32) S) ∧ (¬ v1 < 0 → (((fi S 47 a0) ≤ v1 → post (0 : Int32) S) ∧ (¬ (fi S 47 a0) ≤ v1 → post (1 : Int32) S))))
theorem wr_X7_isPacket {post postq : Int32 → HS → Prop} {R : Nat → Nat} {S : HS} {o : Nat} {v1 : Int32} (hM : RM S o R) (hq : wq_X7_isPacket postq R S o v1) (hp : ∀ r S', RM S' o R → postq r S' → post r S') : wp_X7_isPacket post S o v1 := by
  refine ⟨fun c1 => ?_, fun c1 => ?_⟩
  · have hq := hq.1 c1
    exact hp _ _ hM hq
  · have hq := hq.2 c1
    refine ⟨hM.1, ?_⟩
    refine ⟨fun c2 => ?_, fun c2 => ?_⟩
    · have hq := hq.1 c2
      exact hp _ _ hM hq
    · have hq := hq.2 c2
      exact hp _ _ hM hq
def wq_X7_take_12 : Nat → (Int32 → HS → Prop) → (Nat → Nat) → HS → Nat → Int32 → Int32 → Int32 → Prop
  | 0, _, _, _, _, _, _, _ => False
  | n + 1, post, R, S, b0, x1, x2, x3 => (((fi S 50 b0) ≤ x3 → vp_in x1 50 ∧ (((¬ x2 = 0 → wq_X7_comes (fun r8 S7 => post r8 S7) R S b0 (ai S (R 16) x1.toNatClampNeg)) ∧ (x2 = 0 → wq_X7_drop (fun _ S9 => wq_X7_comes (fun r12 S11 => post r12 S11) R S9 b0 (ai S (R 16) x1.toNatClampNeg)) R S b0 x1)))) ∧ (¬ (fi S 50 b0) ≤ x3 → vp_in (((120 : Int32) * x1) + x3) 6000 ∧ (vp_in x3 120 ∧ (wq_X7_take_12 n post R (sai S (R 18) x3.toNatClampNeg ((ai S (R 14) (((120 : Int32) * x1) + x3).toNatClampNeg).toInt8.toInt32)) b0 x1 x2 (x3 + (1 : Int32))))))
theorem wl_X7_take_12 {post postq : Int32 → HS → Prop} {R : Nat → Nat} {o : Nat} (hp : ∀ r S', RM S' o R → postq r S' → post r S') : ∀ (n : Nat), ∀ (S : HS) (x1 : Int32) (x2 : Int32) (x3 : Int32), RM S o R → wq_X7_take_12 n postq R S o x1 x2 x3 → wp_X7_take_12 n post S o x1 x2 x3 := by
  intro n
  induction n with
  | zero => intro S x1 x2 x3 hM hq; exact hq.elim
  | succ n ih =>
    intro S x1 x2 x3 hM hq
    refine ⟨hM.1, ?_⟩
    refine ⟨fun c3 => ?_, fun c3 => ?_⟩
    · have hq := hq.1 c3
      refine ⟨R 16, hM.f 16 (by decide), ?_⟩
      refine ⟨hM.t 16 (by decide), ?_⟩
      obtain ⟨i5, hq⟩ := hq
      refine ⟨hM.i 16 (by decide) i5, ?_⟩
      refine ⟨fun c6 => ?_, fun c6 => ?_⟩
      · have hq := hq.1 c6
        refine wr_X7_comes hM hq (fun r8 S7 hM hq => ?_)
        exact hp _ _ hM hq
      · have hq := hq.2 c6
        refine wr_X7_drop hM hq (fun r10 S9 hM hq => ?_)
        refine wr_X7_comes hM hq (fun r12 S11 hM hq => ?_)
        exact hp _ _ hM hq
    · have hq := hq.2 c3
      refine ⟨R 18, hM.f 18 (by decide), ?_⟩
      refine ⟨R 14, hM.f 14 (by decide), ?_⟩
      refine ⟨hM.t 14 (by decide), ?_⟩
      obtain ⟨i15, hq⟩ := hq
      refine ⟨hM.i 14 (by decide) i15, ?_⟩
      refine ⟨hM.t 18 (by decide), ?_⟩
      obtain ⟨i16, hq⟩ := hq
      refine ⟨hM.i 18 (by decide) i16, ?_⟩
      have hM : RM (sai S (R 18) x3.toNatClampNeg ((ai S (R 14) (((120 : Int32) * x1) + x3).toNatClampNeg).toInt8.toInt32)) o R := hM.wai
      exact ih (sai S (R 18) x3.toNatClampNeg ((ai S (R 14) (((120 : Int32) * x1) + x3).toNatClampNeg).toInt8.toInt32)) x1 x2 (x3 + (1 : Int32)) hM hq
def wq_X7_take (post : Int32 → HS → Prop) (R : Nat → Nat) (S : HS) (a0 : Nat) (v1 : Int32) (v2 : Int32) : Prop := vp_in v1 50 ∧ (∃ n9, wq_X7_take_12 n9 post R (sfi S 50 a0 (ai S (R 15) v1.toNatClampNeg)) a0 v1 v2 (0 : Int32))
theorem wr_X7_take {post postq : Int32 → HS → Prop} {R : Nat → Nat} {S : HS} {o : Nat} {v1 : Int32} {v2 : Int32} (hM : RM S o R) (hq : wq_X7_take postq R S o v1 v2) (hp : ∀ r S', RM S' o R → postq r S' → post r S') : wp_X7_take post S o v1 v2 := by
  refine ⟨hM.1, ?_⟩
  refine ⟨R 15, hM.f 15 (by decide), ?_⟩
  refine ⟨hM.t 15 (by decide), ?_⟩
  obtain ⟨i2, hq⟩ := hq
  refine ⟨hM.i 15 (by decide) i2, ?_⟩
  have hM : RM (sfi S 50 o (ai S (R 15) v1.toNatClampNeg)) o R := hM.wfi
  obtain ⟨n9, hq⟩ := hq
  exact ⟨n9, wl_X7_take_12 hp n9 (sfi S 50 o (ai S (R 15) v1.toNatClampNeg)) v1 v2 (0 : Int32) hM hq⟩
def wq_X7_deliver (post : Int32 → HS → Prop) (R : Nat → Nat) (S : HS) (a0 : Nat) (v1 : Int32) : Prop := wq_X7_isPacket (fun r2 S1 => ((r2 = 0 → post (-1 : Int32) S1) ∧ (¬ r2 = 0 → wq_X7_take (fun r5 S4 => post r5 S4) R S1 a0 v1 (0 : Int32)))) R S a0 v1
theorem wr_X7_deliver {post postq : Int32 → HS → Prop} {R : Nat → Nat} {S : HS} {o : Nat} {v1 : Int32} (hM : RM S o R) (hq : wq_X7_deliver postq R S o v1) (hp : ∀ r S', RM S' o R → postq r S' → post r S') : wp_X7_deliver post S o v1 := by
  refine ⟨hM.1, ?_⟩
  refine wr_X7_isPacket hM hq (fun r2 S1 hM hq => ?_)
  refine ⟨fun c3 => ?_, fun c3 => ?_⟩
  · have hq := hq.1 c3
    exact hp _ _ hM hq
  · have hq := hq.2 c3
    refine wr_X7_take hM hq (fun r5 S4 hM hq => ?_)
    exact hp _ _ hM hq
def wq_X7_twice (post : Int32 → HS → Prop) (R : Nat → Nat) (S : HS) (a0 : Nat) (v1 : Int32) : Prop := wq_X7_isPacket (fun r2 S1 => ((r2 = 0 → post (-1 : Int32) S1) ∧ (¬ r2 = 0 → wq_X7_take (fun r5 S4 => post r5 S4) R S1 a0 v1 (1 : Int32)))) R S a0 v1
theorem wr_X7_twice {post postq : Int32 → HS → Prop} {R : Nat → Nat} {S : HS} {o : Nat} {v1 : Int32} (hM : RM S o R) (hq : wq_X7_twice postq R S o v1) (hp : ∀ r S', RM S' o R → postq r S' → post r S') : wp_X7_twice post S o v1 := by
  refine ⟨hM.1, ?_⟩
  refine wr_X7_isPacket hM hq (fun r2 S1 hM hq => ?_)
  refine ⟨fun c3 => ?_, fun c3 => ?_⟩
  · have hq := hq.1 c3
    exact hp _ _ hM hq
  · have hq := hq.2 c3
    refine wr_X7_take hM hq (fun r5 S4 hM hq => ?_)
    exact hp _ _ hM hq
def wq_X7_lose (post : Int32 → HS → Prop) (R : Nat → Nat) (S : HS) (a0 : Nat) (v1 : Int32) : Prop := wq_X7_isPacket (fun r2 S1 => ((¬ r2 = 0 → wq_X7_drop (fun _ S4 => post (1 : Int32) S4) R S1 a0 v1) ∧ (r2 = 0 → post (0 : Int32) S1))) R S a0 v1
theorem wr_X7_lose {post postq : Int32 → HS → Prop} {R : Nat → Nat} {S : HS} {o : Nat} {v1 : Int32} (hM : RM S o R) (hq : wq_X7_lose postq R S o v1) (hp : ∀ r S', RM S' o R → postq r S' → post r S') : wp_X7_lose post S o v1 := by
  refine ⟨hM.1, ?_⟩
  refine wr_X7_isPacket hM hq (fun r2 S1 hM hq => ?_)
  refine ⟨fun c3 => ?_, fun c3 => ?_⟩
  · have hq := hq.1 c3
    refine wr_X7_drop hM hq (fun r5 S4 hM hq => ?_)
    exact hp _ _ hM hq
  · have hq := hq.2 c3
    exact hp _ _ hM hq
def wq_X7_inject_20 : Nat → (Int32 → HS → Prop) → (Nat → Nat) → HS → Nat → Int32 → Int32 → Prop
  | 0, _, _, _, _, _, _ => False
  | n + 1, post, R, S, b0, x1, x2 => (((fi S 43 b0) ≤ x2 → wq_X7_comes (fun r6 S5 => post r6 S5) R (sfi S 43 b0 (0 : Int32)) b0 x1) ∧ (¬ (fi S 43 b0) ≤ x2 → vp_in x2 120 ∧ (vp_in x2 120 ∧ (wq_X7_inject_20 n post R (sai S (R 18) x2.toNatClampNeg ((ai S (R 13) x2.toNatClampNeg).toInt8.toInt32)) b0 x1 (x2 + (1 : Int32))))))
theorem wl_X7_inject_20 {post postq : Int32 → HS → Prop} {R : Nat → Nat} {o : Nat} (hp : ∀ r S', RM S' o R → postq r S' → post r S') : ∀ (n : Nat), ∀ (S : HS) (x1 : Int32) (x2 : Int32), RM S o R → wq_X7_inject_20 n postq R S o x1 x2 → wp_X7_inject_20 n post S o x1 x2 := by
  intro n
  induction n with
  | zero => intro S x1 x2 hM hq; exact hq.elim
  | succ n ih =>
    intro S x1 x2 hM hq
    refine ⟨hM.1, ?_⟩
    refine ⟨fun c4 => ?_, fun c4 => ?_⟩
    · have hq := hq.1 c4
      have hM : RM (sfi S 43 o (0 : Int32)) o R := hM.wfi
      refine wr_X7_comes hM hq (fun r6 S5 hM hq => ?_)
      exact hp _ _ hM hq
    · have hq := hq.2 c4
      refine ⟨R 18, hM.f 18 (by decide), ?_⟩
      refine ⟨R 13, hM.f 13 (by decide), ?_⟩
      refine ⟨hM.t 13 (by decide), ?_⟩
      obtain ⟨i9, hq⟩ := hq
      refine ⟨hM.i 13 (by decide) i9, ?_⟩
      refine ⟨hM.t 18 (by decide), ?_⟩
      obtain ⟨i10, hq⟩ := hq
      refine ⟨hM.i 18 (by decide) i10, ?_⟩
      have hM : RM (sai S (R 18) x2.toNatClampNeg ((ai S (R 13) x2.toNatClampNeg).toInt8.toInt32)) o R := hM.wai
      exact ih (sai S (R 18) x2.toNatClampNeg ((ai S (R 13) x2.toNatClampNeg).toInt8.toInt32)) x1 (x2 + (1 : Int32)) hM hq
def wq_X7_inject (post : Int32 → HS → Prop) (R : Nat → Nat) (S : HS) (a0 : Nat) (v1 : Int32) : Prop := wq_X7_isEndpoint (fun r2 S1 => ((¬ r2 = 0 → ∃ n9, wq_X7_inject_20 n9 post R (sfi S1 50 a0 (fi S1 43 a0)) a0 v1 (0 : Int32)) ∧ (r2 = 0 → post (-1 : Int32) S1))) R S a0 v1
theorem wr_X7_inject {post postq : Int32 → HS → Prop} {R : Nat → Nat} {S : HS} {o : Nat} {v1 : Int32} (hM : RM S o R) (hq : wq_X7_inject postq R S o v1) (hp : ∀ r S', RM S' o R → postq r S' → post r S') : wp_X7_inject post S o v1 := by
  refine ⟨hM.1, ?_⟩
  refine wr_X7_isEndpoint hM hq (fun r2 S1 hM hq => ?_)
  refine ⟨fun c3 => ?_, fun c3 => ?_⟩
  · have hq := hq.1 c3
    have hM : RM (sfi S1 50 o (fi S1 43 o)) o R := hM.wfi
    obtain ⟨n9, hq⟩ := hq
    exact ⟨n9, wl_X7_inject_20 hp n9 (sfi S1 50 o (fi S1 43 o)) v1 (0 : Int32) hM hq⟩
  · have hq := hq.2 c3
    exact hp _ _ hM hq
def wq_X7_poke (post : Int32 → HS → Prop) (R : Nat → Nat) (S : HS) (a0 : Nat) (v1 : Int32) (v2 : Int32) (v3 : Int32) : Prop := wq_X7_isPacket (fun r2 S1 => ((r2 = 0 → post (0 : Int32) S1) ∧ (¬ r2 = 0 → ((v2 < 0 → post (0 : Int32) S1) ∧ (¬ v2 < 0 → vp_in v1 50 ∧ ((((ai S1 (R 15) v1.toNatClampNeg) ≤ v2 → post (0 : Int32) S1) ∧ (¬ (ai S1 (R 15) v1.toNatClampNeg) ≤ v2 → ((v3 < (1 : Int32) → post (0 : Int32) S1) ∧ (¬ v3 < (1 : Int32) → ((v3 ≤ (255 : Int32) → vp_in (((120 : Int32) * v1) + v2) 6000 ∧ (vp_in (((120 : Int32) * v1) + v2) 6000 ∧ (post (1 : Int32) (sai S1 (R 14) (((120 : Int32) * v1) + v2).toNatClampNeg ((((ai S1 (R 14) (((120 : Int32) * v1) + v2).toNatClampNeg) ^^^ v3).toInt8.toInt32).toInt8.toInt32))))) ∧ (¬ v3 ≤ (255 : Int32) → post (0 : Int32) S1)))))))))))) R S a0 v1
theorem wr_X7_poke {post postq : Int32 → HS → Prop} {R : Nat → Nat} {S : HS} {o : Nat} {v1 : Int32} {v2 : Int32} {v3 : Int32} (hM : RM S o R) (hq : wq_X7_poke postq R S o v1 v2 v3) (hp : ∀ r S', RM S' o R → postq r S' → post r S') : wp_X7_poke post S o v1 v2 v3 := by
  refine ⟨hM.1, ?_⟩
  refine wr_X7_isPacket hM hq (fun r2 S1 hM hq => ?_)
  refine ⟨fun c3 => ?_, fun c3 => ?_⟩
  · have hq := hq.1 c3
    exact hp _ _ hM hq
  · have hq := hq.2 c3
    refine ⟨fun c4 => ?_, fun c4 => ?_⟩
    · have hq := hq.1 c4
      exact hp _ _ hM hq
    · have hq := hq.2 c4
      refine ⟨R 15, hM.f 15 (by decide), ?_⟩
      refine ⟨hM.t 15 (by decide), ?_⟩
      obtain ⟨i6, hq⟩ := hq
      refine ⟨hM.i 15 (by decide) i6, ?_⟩
      refine ⟨fun c7 => ?_, fun c7 => ?_⟩
      · have hq := hq.1 c7
        exact hp _ _ hM hq
      · have hq := hq.2 c7
        refine ⟨fun c8 => ?_, fun c8 => ?_⟩
        · have hq := hq.1 c8
          exact hp _ _ hM hq
        · have hq := hq.2 c8
          refine ⟨fun c9 => ?_, fun c9 => ?_⟩
          · have hq := hq.1 c9
            refine ⟨R 14, hM.f 14 (by decide), ?_⟩
            refine ⟨hM.t 14 (by decide), ?_⟩
            obtain ⟨i11, hq⟩ := hq
            refine ⟨hM.i 14 (by decide) i11, ?_⟩
            obtain ⟨i12, hq⟩ := hq
            refine ⟨hM.i 14 (by decide) i12, ?_⟩
            have hM : RM (sai S1 (R 14) (((120 : Int32) * v1) + v2).toNatClampNeg ((((ai S1 (R 14) (((120 : Int32) * v1) + v2).toNatClampNeg) ^^^ v3).toInt8.toInt32).toInt8.toInt32)) o R := hM.wai
            exact hp _ _ hM hq
          · have hq := hq.2 c9
            exact hp _ _ hM hq
def wq_X7_flying (post : Int32 → HS → Prop) (R : Nat → Nat) (S : HS) (a0 : Nat) : Prop := post (fi S 47 a0) S
theorem wr_X7_flying {post postq : Int32 → HS → Prop} {R : Nat → Nat} {S : HS} {o : Nat} (hM : RM S o R) (hq : wq_X7_flying postq R S o) (hp : ∀ r S', RM S' o R → postq r S' → post r S') : wp_X7_flying post S o := by
  refine ⟨hM.1, ?_⟩
  exact hp _ _ hM hq
def wq_X7_packet (post : Int32 → HS → Prop) (R : Nat → Nat) (S : HS) (a0 : Nat) (v1 : Int32) (v2 : Int32) : Prop := wq_X7_isPacket (fun r2 S1 => ((r2 = 0 → post (-1 : Int32) S1) ∧ (¬ r2 = 0 → ((v2 < 0 → post (-1 : Int32) S1) ∧ (¬ v2 < 0 → vp_in v1 50 ∧ ((((ai S1 (R 15) v1.toNatClampNeg) ≤ v2 → post (-1 : Int32) S1) ∧ (¬ (ai S1 (R 15) v1.toNatClampNeg) ≤ v2 → vp_in (((120 : Int32) * v1) + v2) 6000 ∧ (post ((ai S1 (R 14) (((120 : Int32) * v1) + v2).toNatClampNeg) &&& (255 : Int32)) S1))))))))) R S a0 v1
theorem wr_X7_packet {post postq : Int32 → HS → Prop} {R : Nat → Nat} {S : HS} {o : Nat} {v1 : Int32} {v2 : Int32} (hM : RM S o R) (hq : wq_X7_packet postq R S o v1 v2) (hp : ∀ r S', RM S' o R → postq r S' → post r S') : wp_X7_packet post S o v1 v2 := by
  refine ⟨hM.1, ?_⟩
  refine wr_X7_isPacket hM hq (fun r2 S1 hM hq => ?_)
  refine ⟨fun c3 => ?_, fun c3 => ?_⟩
  · have hq := hq.1 c3
    exact hp _ _ hM hq
  · have hq := hq.2 c3
    refine ⟨fun c4 => ?_, fun c4 => ?_⟩
    · have hq := hq.1 c4
      exact hp _ _ hM hq
    · have hq := hq.2 c4
      refine ⟨R 15, hM.f 15 (by decide), ?_⟩
      refine ⟨hM.t 15 (by decide), ?_⟩
      obtain ⟨i6, hq⟩ := hq
      refine ⟨hM.i 15 (by decide) i6, ?_⟩
      refine ⟨fun c7 => ?_, fun c7 => ?_⟩
      · have hq := hq.1 c7
        exact hp _ _ hM hq
      · have hq := hq.2 c7
        refine ⟨R 14, hM.f 14 (by decide), ?_⟩
        refine ⟨hM.t 14 (by decide), ?_⟩
        obtain ⟨i9, hq⟩ := hq
        refine ⟨hM.i 14 (by decide) i9, ?_⟩
        exact hp _ _ hM hq
def wq_X7_size (post : Int32 → HS → Prop) (R : Nat → Nat) (S : HS) (a0 : Nat) (v1 : Int32) : Prop := wq_X7_isPacket (fun r2 S1 => ((r2 = 0 → post (-1 : Int32) S1) ∧ (¬ r2 = 0 → vp_in v1 50 ∧ (post (ai S1 (R 15) v1.toNatClampNeg) S1)))) R S a0 v1
theorem wr_X7_size {post postq : Int32 → HS → Prop} {R : Nat → Nat} {S : HS} {o : Nat} {v1 : Int32} (hM : RM S o R) (hq : wq_X7_size postq R S o v1) (hp : ∀ r S', RM S' o R → postq r S' → post r S') : wp_X7_size post S o v1 := by
  refine ⟨hM.1, ?_⟩
  refine wr_X7_isPacket hM hq (fun r2 S1 hM hq => ?_)
  refine ⟨fun c3 => ?_, fun c3 => ?_⟩
  · have hq := hq.1 c3
    exact hp _ _ hM hq
  · have hq := hq.2 c3
    refine ⟨R 15, hM.f 15 (by decide), ?_⟩
    refine ⟨hM.t 15 (by decide), ?_⟩
    obtain ⟨i5, hq⟩ := hq
    refine ⟨hM.i 15 (by decide) i5, ?_⟩
    exact hp _ _ hM hq
def wq_X7_tick_32 : Nat → (Int32 → HS → Prop) → (Nat → Nat) → (HS → Nat → Int32 → Int32 → Int32 → Prop) → HS → Nat → Int32 → Int32 → Int32 → Int32 → Prop
  | 0, _, _, _, _, _, _, _, _, _ => False
  | n + 1, post, R, K18, S, b0, x1, x2, x3, x4 => vp_in x3 8 ∧ ((((((24 : Int32) * x3) + (ai S (R 8) x3.toNatClampNeg)) ≤ x4 → K18 S b0 x1 x2 (x3 + (1 : Int32))) ∧ (¬ (((24 : Int32) * x3) + (ai S (R 8) x3.toNatClampNeg)) ≤ x4 → vp_in x4 192 ∧ (vp_in x4 192 ∧ (vp_in x4 192 ∧ ((((lg_cmp (al (sal S (R 12) x4.toNatClampNeg ((al S (R 12) x4.toNatClampNeg) + x1.toInt64)) (R 12) x4.toNatClampNeg) (300 : Int64)) ≤ 0 → wq_X7_tick_32 n post R K18 (sal S (R 12) x4.toNatClampNeg ((al S (R 12) x4.toNatClampNeg) + x1.toInt64)) b0 x1 x2 x3 (x4 + (1 : Int32))) ∧ (¬ (lg_cmp (al (sal S (R 12) x4.toNatClampNeg ((al S (R 12) x4.toNatClampNeg) + x1.toInt64)) (R 12) x4.toNatClampNeg) (300 : Int64)) ≤ 0 → wq_X7_remove (fun _ S13 => wq_X7_tick_32 n post R K18 S13 b0 x1 (x2 + (1 : Int32)) x3 x4) R (sal S (R 12) x4.toNatClampNeg ((al S (R 12) x4.toNatClampNeg) + x1.toInt64)) b0 x3 x4))))))))
def wq_X7_tick_18 : Nat → (Int32 → HS → Prop) → (Nat → Nat) → HS → Nat → Int32 → Int32 → Int32 → Prop
  | 0, _, _, _, _, _, _, _ => False
  | n + 1, post, R, S, b0, x1, x2, x3 => (((fi S 27 b0) ≤ x3 → post x2 S) ∧ (¬ (fi S 27 b0) ≤ x3 → ∃ n9, wq_X7_tick_32 n9 post R (fun Sk b0k x1k x2k x3k => wq_X7_tick_18 n post R Sk b0k x1k x2k x3k) S b0 x1 x2 x3 ((24 : Int32) * x3)))
theorem wl_X7_tick_32 {post postq : Int32 → HS → Prop} {R : Nat → Nat} {o : Nat} (hp : ∀ r S', RM S' o R → postq r S' → post r S') {K18 K18q : HS → Nat → Int32 → Int32 → Int32 → Prop} (hK18 : ∀ (S : HS) (x1 : Int32) (x2 : Int32) (x3 : Int32), RM S o R → K18q S o x1 x2 x3 → K18 S o x1 x2 x3) : ∀ (n : Nat), ∀ (S : HS) (x1 : Int32) (x2 : Int32) (x3 : Int32) (x4 : Int32), RM S o R → wq_X7_tick_32 n postq R K18q S o x1 x2 x3 x4 → wp_X7_tick_32 n post K18 S o x1 x2 x3 x4 := by
  intro n
  induction n with
  | zero => intro S x1 x2 x3 x4 hM hq; exact hq.elim
  | succ n ih =>
    intro S x1 x2 x3 x4 hM hq
    refine ⟨hM.1, ?_⟩
    refine ⟨R 8, hM.f 8 (by decide), ?_⟩
    refine ⟨hM.t 8 (by decide), ?_⟩
    obtain ⟨i5, hq⟩ := hq
    refine ⟨hM.i 8 (by decide) i5, ?_⟩
    refine ⟨fun c6 => ?_, fun c6 => ?_⟩
    · have hq := hq.1 c6
      exact hK18 S x1 x2 (x3 + (1 : Int32)) hM hq
    · have hq := hq.2 c6
      refine ⟨R 12, hM.f 12 (by decide), ?_⟩
      refine ⟨hM.t 12 (by decide), ?_⟩
      obtain ⟨i8, hq⟩ := hq
      refine ⟨hM.i 12 (by decide) i8, ?_⟩
      obtain ⟨i9, hq⟩ := hq
      refine ⟨hM.i 12 (by decide) i9, ?_⟩
      have hM : RM (sal S (R 12) x4.toNatClampNeg ((al S (R 12) x4.toNatClampNeg) + x1.toInt64)) o R := hM.wal
      refine ⟨R 12, hM.f 12 (by decide), ?_⟩
      refine ⟨hM.t 12 (by decide), ?_⟩
      obtain ⟨i11, hq⟩ := hq
      refine ⟨hM.i 12 (by decide) i11, ?_⟩
      refine ⟨fun c12 => ?_, fun c12 => ?_⟩
      · have hq := hq.1 c12
        exact ih (sal S (R 12) x4.toNatClampNeg ((al S (R 12) x4.toNatClampNeg) + x1.toInt64)) x1 x2 x3 (x4 + (1 : Int32)) hM hq
      · have hq := hq.2 c12
        refine wr_X7_remove hM hq (fun r14 S13 hM hq => ?_)
        exact ih S13 x1 (x2 + (1 : Int32)) x3 x4 hM hq
theorem wl_X7_tick_18 {post postq : Int32 → HS → Prop} {R : Nat → Nat} {o : Nat} (hp : ∀ r S', RM S' o R → postq r S' → post r S') : ∀ (n : Nat), ∀ (S : HS) (x1 : Int32) (x2 : Int32) (x3 : Int32), RM S o R → wq_X7_tick_18 n postq R S o x1 x2 x3 → wp_X7_tick_18 n post S o x1 x2 x3 := by
  intro n
  induction n with
  | zero => intro S x1 x2 x3 hM hq; exact hq.elim
  | succ n ih =>
    intro S x1 x2 x3 hM hq
    refine ⟨hM.1, ?_⟩
    refine ⟨fun c3 => ?_, fun c3 => ?_⟩
    · have hq := hq.1 c3
      exact hp _ _ hM hq
    · have hq := hq.2 c3
      obtain ⟨n9, hq⟩ := hq
      exact ⟨n9, wl_X7_tick_32 hp ih n9 S x1 x2 x3 ((24 : Int32) * x3) hM hq⟩
def wq_X7_tick (post : Int32 → HS → Prop) (R : Nat → Nat) (S : HS) (a0 : Nat) (v1 : Int32) : Prop := ((v1 < (1 : Int32) → post (-1 : Int32) S) ∧ (¬ v1 < (1 : Int32) → ((v1 ≤ (1000 : Int32) → ∃ n9, wq_X7_tick_18 n9 post R S a0 v1 (0 : Int32) (0 : Int32)) ∧ (¬ v1 ≤ (1000 : Int32) → post (-1 : Int32) S))))
theorem wr_X7_tick {post postq : Int32 → HS → Prop} {R : Nat → Nat} {S : HS} {o : Nat} {v1 : Int32} (hM : RM S o R) (hq : wq_X7_tick postq R S o v1) (hp : ∀ r S', RM S' o R → postq r S' → post r S') : wp_X7_tick post S o v1 := by
  refine ⟨fun c1 => ?_, fun c1 => ?_⟩
  · have hq := hq.1 c1
    exact hp _ _ hM hq
  · have hq := hq.2 c1
    refine ⟨fun c2 => ?_, fun c2 => ?_⟩
    · have hq := hq.1 c2
      obtain ⟨n9, hq⟩ := hq
      exact ⟨n9, wl_X7_tick_18 hp n9 S v1 (0 : Int32) (0 : Int32) hM hq⟩
    · have hq := hq.2 c2
      exact hp _ _ hM hq
def wq_X7_forget (post : Int32 → HS → Prop) (R : Nat → Nat) (S : HS) (a0 : Nat) (v1 : Int32) : Prop := wq_X7_isEndpoint (fun r2 S1 => ((¬ r2 = 0 → vp_in v1 8 ∧ (vp_in v1 8 ∧ (post (ai S1 (R 8) v1.toNatClampNeg) (sai S1 (R 8) v1.toNatClampNeg (0 : Int32))))) ∧ (r2 = 0 → post (-1 : Int32) S1))) R S a0 v1
theorem wr_X7_forget {post postq : Int32 → HS → Prop} {R : Nat → Nat} {S : HS} {o : Nat} {v1 : Int32} (hM : RM S o R) (hq : wq_X7_forget postq R S o v1) (hp : ∀ r S', RM S' o R → postq r S' → post r S') : wp_X7_forget post S o v1 := by
  refine ⟨hM.1, ?_⟩
  refine wr_X7_isEndpoint hM hq (fun r2 S1 hM hq => ?_)
  refine ⟨fun c3 => ?_, fun c3 => ?_⟩
  · have hq := hq.1 c3
    refine ⟨R 8, hM.f 8 (by decide), ?_⟩
    refine ⟨hM.t 8 (by decide), ?_⟩
    obtain ⟨i5, hq⟩ := hq
    refine ⟨hM.i 8 (by decide) i5, ?_⟩
    refine ⟨R 8, hM.f 8 (by decide), ?_⟩
    refine ⟨hM.t 8 (by decide), ?_⟩
    obtain ⟨i7, hq⟩ := hq
    refine ⟨hM.i 8 (by decide) i7, ?_⟩
    have hM : RM (sai S1 (R 8) v1.toNatClampNeg (0 : Int32)) o R := hM.wai
    exact hp _ _ hM hq
  · have hq := hq.2 c3
    exact hp _ _ hM hq
def wq_X7_known (post : Int32 → HS → Prop) (R : Nat → Nat) (S : HS) (a0 : Nat) (v1 : Int32) : Prop := wq_X7_isEndpoint (fun r2 S1 => ((r2 = 0 → post (-1 : Int32) S1) ∧ (¬ r2 = 0 → vp_in v1 8 ∧ (post (ai S1 (R 8) v1.toNatClampNeg) S1)))) R S a0 v1
theorem wr_X7_known {post postq : Int32 → HS → Prop} {R : Nat → Nat} {S : HS} {o : Nat} {v1 : Int32} (hM : RM S o R) (hq : wq_X7_known postq R S o v1) (hp : ∀ r S', RM S' o R → postq r S' → post r S') : wp_X7_known post S o v1 := by
  refine ⟨hM.1, ?_⟩
  refine wr_X7_isEndpoint hM hq (fun r2 S1 hM hq => ?_)
  refine ⟨fun c3 => ?_, fun c3 => ?_⟩
  · have hq := hq.1 c3
    exact hp _ _ hM hq
  · have hq := hq.2 c3
    refine ⟨R 8, hM.f 8 (by decide), ?_⟩
    refine ⟨hM.t 8 (by decide), ?_⟩
    obtain ⟨i5, hq⟩ := hq
    refine ⟨hM.i 8 (by decide) i5, ?_⟩
    exact hp _ _ hM hq
def wq_X7_knows (post : Int64 → HS → Prop) (R : Nat → Nat) (S : HS) (a0 : Nat) (v1 : Int32) (v2 : Int32) (v3 : Int32) : Prop := wq_X7_isEndpoint (fun r2 S1 => ((r2 = 0 → post (-1 : Int64) S1) ∧ (¬ r2 = 0 → ((v2 < 0 → post (-1 : Int64) S1) ∧ (¬ v2 < 0 → vp_in v1 8 ∧ (((v2 < (ai S1 (R 8) v1.toNatClampNeg) → ((v3 = (0 : Int32) → vp_in (((24 : Int32) * v1) + v2) 192 ∧ (post ((ai S1 (R 9) (((24 : Int32) * v1) + v2).toNatClampNeg).toInt64) S1)) ∧ (v3 = (1 : Int32) → vp_in (((24 : Int32) * v1) + v2) 192 ∧ (post (al S1 (R 10) (((24 : Int32) * v1) + v2).toNatClampNeg) S1)) ∧ (v3 = (2 : Int32) → vp_in (((24 : Int32) * v1) + v2) 192 ∧ (((0 ≤ (ai S1 (R 11) (((24 : Int32) * v1) + v2).toNatClampNeg) → post (-1 : Int64) S1) ∧ (¬ 0 ≤ (ai S1 (R 11) (((24 : Int32) * v1) + v2).toNatClampNeg) → vp_in (((24 : Int32) * v1) + v2) 192 ∧ (post (((-1 : Int32) - (ai S1 (R 11) (((24 : Int32) * v1) + v2).toNatClampNeg)).toInt64) S1))))) ∧ (v3 = (3 : Int32) → vp_in (((24 : Int32) * v1) + v2) 192 ∧ (((0 ≤ (ai S1 (R 11) (((24 : Int32) * v1) + v2).toNatClampNeg) → vp_in (((24 : Int32) * v1) + v2) 192 ∧ (post ((ai S1 (R 11) (((24 : Int32) * v1) + v2).toNatClampNeg).toInt64) S1)) ∧ (¬ 0 ≤ (ai S1 (R 11) (((24 : Int32) * v1) + v2).toNatClampNeg) → post (-1 : Int64) S1)))) ∧ (v3 = (4 : Int32) → vp_in (((24 : Int32) * v1) + v2) 192 ∧ (post (al S1 (R 12) (((24 : Int32) * v1) + v2).toNatClampNeg) S1)) ∧ (¬ v3 = (0 : Int32) → ¬ v3 = (1 : Int32) → ¬ v3 = (2 : Int32) → ¬ v3 = (3 : Int32) → ¬ v3 = (4 : Int32) → post (-1 : Int64) S1))) ∧ (¬ v2 < (ai S1 (R 8) v1.toNatClampNeg) → post (-1 : Int64) S1)))))))) R S a0 v1
theorem wr_X7_knows {post postq : Int64 → HS → Prop} {R : Nat → Nat} {S : HS} {o : Nat} {v1 : Int32} {v2 : Int32} {v3 : Int32} (hM : RM S o R) (hq : wq_X7_knows postq R S o v1 v2 v3) (hp : ∀ r S', RM S' o R → postq r S' → post r S') : wp_X7_knows post S o v1 v2 v3 := by
  refine ⟨hM.1, ?_⟩
  refine wr_X7_isEndpoint hM hq (fun r2 S1 hM hq => ?_)
  refine ⟨fun c3 => ?_, fun c3 => ?_⟩
  · have hq := hq.1 c3
    exact hp _ _ hM hq
  · have hq := hq.2 c3
    refine ⟨fun c4 => ?_, fun c4 => ?_⟩
    · have hq := hq.1 c4
      exact hp _ _ hM hq
    · have hq := hq.2 c4
      refine ⟨R 8, hM.f 8 (by decide), ?_⟩
      refine ⟨hM.t 8 (by decide), ?_⟩
      obtain ⟨i6, hq⟩ := hq
      refine ⟨hM.i 8 (by decide) i6, ?_⟩
      refine ⟨fun c7 => ?_, fun c7 => ?_⟩
      · have hq := hq.1 c7
        refine ⟨fun c8 => ?_, fun c8 => ?_, fun c8 => ?_, fun c8 => ?_, fun c8 => ?_, fun c8_0 c8_1 c8_2 c8_3 c8_4 => ?_⟩
        · have hq := (hq).1 c8
          refine ⟨R 9, hM.f 9 (by decide), ?_⟩
          refine ⟨hM.t 9 (by decide), ?_⟩
          obtain ⟨i10, hq⟩ := hq
          refine ⟨hM.i 9 (by decide) i10, ?_⟩
          exact hp _ _ hM hq
        · have hq := (hq.2).1 c8
          refine ⟨R 10, hM.f 10 (by decide), ?_⟩
          refine ⟨hM.t 10 (by decide), ?_⟩
          obtain ⟨i12, hq⟩ := hq
          refine ⟨hM.i 10 (by decide) i12, ?_⟩
          exact hp _ _ hM hq
        · have hq := (hq.2.2).1 c8
          refine ⟨R 11, hM.f 11 (by decide), ?_⟩
          refine ⟨hM.t 11 (by decide), ?_⟩
          obtain ⟨i14, hq⟩ := hq
          refine ⟨hM.i 11 (by decide) i14, ?_⟩
          refine ⟨fun c15 => ?_, fun c15 => ?_⟩
          · have hq := hq.1 c15
            exact hp _ _ hM hq
          · have hq := hq.2 c15
            refine ⟨R 11, hM.f 11 (by decide), ?_⟩
            refine ⟨hM.t 11 (by decide), ?_⟩
            obtain ⟨i17, hq⟩ := hq
            refine ⟨hM.i 11 (by decide) i17, ?_⟩
            exact hp _ _ hM hq
        · have hq := (hq.2.2.2).1 c8
          refine ⟨R 11, hM.f 11 (by decide), ?_⟩
          refine ⟨hM.t 11 (by decide), ?_⟩
          obtain ⟨i19, hq⟩ := hq
          refine ⟨hM.i 11 (by decide) i19, ?_⟩
          refine ⟨fun c20 => ?_, fun c20 => ?_⟩
          · have hq := hq.1 c20
            refine ⟨R 11, hM.f 11 (by decide), ?_⟩
            refine ⟨hM.t 11 (by decide), ?_⟩
            obtain ⟨i22, hq⟩ := hq
            refine ⟨hM.i 11 (by decide) i22, ?_⟩
            exact hp _ _ hM hq
          · have hq := hq.2 c20
            exact hp _ _ hM hq
        · have hq := (hq.2.2.2.2).1 c8
          refine ⟨R 12, hM.f 12 (by decide), ?_⟩
          refine ⟨hM.t 12 (by decide), ?_⟩
          obtain ⟨i24, hq⟩ := hq
          refine ⟨hM.i 12 (by decide) i24, ?_⟩
          exact hp _ _ hM hq
        · have hq := (hq.2.2.2.2.2) c8_0 c8_1 c8_2 c8_3 c8_4
          exact hp _ _ hM hq
      · have hq := hq.2 c7
        exact hp _ _ hM hq
def wq_X7_got (post : Int32 → HS → Prop) (R : Nat → Nat) (S : HS) (a0 : Nat) (v1 : Int32) : Prop := wq_X7_isStation (fun r2 S1 => ((r2 = 0 → post (-1 : Int32) S1) ∧ (¬ r2 = 0 → vp_in v1 32 ∧ (post (ai S1 (R 3) v1.toNatClampNeg) S1)))) R S a0 v1
theorem wr_X7_got {post postq : Int32 → HS → Prop} {R : Nat → Nat} {S : HS} {o : Nat} {v1 : Int32} (hM : RM S o R) (hq : wq_X7_got postq R S o v1) (hp : ∀ r S', RM S' o R → postq r S' → post r S') : wp_X7_got post S o v1 := by
  refine ⟨hM.1, ?_⟩
  refine wr_X7_isStation hM hq (fun r2 S1 hM hq => ?_)
  refine ⟨fun c3 => ?_, fun c3 => ?_⟩
  · have hq := hq.1 c3
    exact hp _ _ hM hq
  · have hq := hq.2 c3
    refine ⟨R 3, hM.f 3 (by decide), ?_⟩
    refine ⟨hM.t 3 (by decide), ?_⟩
    obtain ⟨i5, hq⟩ := hq
    refine ⟨hM.i 3 (by decide) i5, ?_⟩
    exact hp _ _ hM hq
def wq_X7_isFrame (post : Int32 → HS → Prop) (R : Nat → Nat) (S : HS) (a0 : Nat) (v1 : Int32) (v2 : Int32) : Prop := wq_X7_isStation (fun r2 S1 => ((r2 = 0 → post (0 : Int32) S1) ∧ (¬ r2 = 0 → ((v2 < 0 → post (0 : Int32) S1) ∧ (¬ v2 < 0 → (((6 : Int32) ≤ v2 → post (0 : Int32) S1) ∧ (¬ (6 : Int32) ≤ v2 → vp_in v1 32 ∧ ((((ai S1 (R 3) v1.toNatClampNeg) ≤ v2 → post (0 : Int32) S1) ∧ (¬ (ai S1 (R 3) v1.toNatClampNeg) ≤ v2 → post (1 : Int32) S1)))))))))) R S a0 v1
theorem wr_X7_isFrame {post postq : Int32 → HS → Prop} {R : Nat → Nat} {S : HS} {o : Nat} {v1 : Int32} {v2 : Int32} (hM : RM S o R) (hq : wq_X7_isFrame postq R S o v1 v2) (hp : ∀ r S', RM S' o R → postq r S' → post r S') : wp_X7_isFrame post S o v1 v2 := by
  refine ⟨hM.1, ?_⟩
  refine wr_X7_isStation hM hq (fun r2 S1 hM hq => ?_)
  refine ⟨fun c3 => ?_, fun c3 => ?_⟩
  · have hq := hq.1 c3
    exact hp _ _ hM hq
  · have hq := hq.2 c3
    refine ⟨fun c4 => ?_, fun c4 => ?_⟩
    · have hq := hq.1 c4
      exact hp _ _ hM hq
    · have hq := hq.2 c4
      refine ⟨fun c5 => ?_, fun c5 => ?_⟩
      · have hq := hq.1 c5
        exact hp _ _ hM hq
      · have hq := hq.2 c5
        refine ⟨R 3, hM.f 3 (by decide), ?_⟩
        refine ⟨hM.t 3 (by decide), ?_⟩
        obtain ⟨i7, hq⟩ := hq
        refine ⟨hM.i 3 (by decide) i7, ?_⟩
        refine ⟨fun c8 => ?_, fun c8 => ?_⟩
        · have hq := hq.1 c8
          exact hp _ _ hM hq
        · have hq := hq.2 c8
          exact hp _ _ hM hq
def wq_X7_length (post : Int32 → HS → Prop) (R : Nat → Nat) (S : HS) (a0 : Nat) (v1 : Int32) (v2 : Int32) : Prop := wq_X7_isFrame (fun r2 S1 => ((r2 = 0 → post (-1 : Int32) S1) ∧ (¬ r2 = 0 → vp_in (((6 : Int32) * v1) + v2) 192 ∧ (post (ai S1 (R 5) (((6 : Int32) * v1) + v2).toNatClampNeg) S1)))) R S a0 v1 v2
theorem wr_X7_length {post postq : Int32 → HS → Prop} {R : Nat → Nat} {S : HS} {o : Nat} {v1 : Int32} {v2 : Int32} (hM : RM S o R) (hq : wq_X7_length postq R S o v1 v2) (hp : ∀ r S', RM S' o R → postq r S' → post r S') : wp_X7_length post S o v1 v2 := by
  refine ⟨hM.1, ?_⟩
  refine wr_X7_isFrame hM hq (fun r2 S1 hM hq => ?_)
  refine ⟨fun c3 => ?_, fun c3 => ?_⟩
  · have hq := hq.1 c3
    exact hp _ _ hM hq
  · have hq := hq.2 c3
    refine ⟨R 5, hM.f 5 (by decide), ?_⟩
    refine ⟨hM.t 5 (by decide), ?_⟩
    obtain ⟨i5, hq⟩ := hq
    refine ⟨hM.i 5 (by decide) i5, ?_⟩
    exact hp _ _ hM hq
def wq_X7_frame (post : Int32 → HS → Prop) (R : Nat → Nat) (S : HS) (a0 : Nat) (v1 : Int32) (v2 : Int32) (v3 : Int32) : Prop := ((v3 < 0 → post (-1 : Int32) S) ∧ (¬ v3 < 0 → wq_X7_length (fun r3 S2 => ((r3 ≤ v3 → post (-1 : Int32) S2) ∧ (¬ r3 ≤ v3 → vp_in (((120 : Int32) * (((6 : Int32) * v1) + v2)) + v3) 23040 ∧ (post ((ai S2 (R 4) (((120 : Int32) * (((6 : Int32) * v1) + v2)) + v3).toNatClampNeg) &&& (255 : Int32)) S2)))) R S a0 v1 v2))
theorem wr_X7_frame {post postq : Int32 → HS → Prop} {R : Nat → Nat} {S : HS} {o : Nat} {v1 : Int32} {v2 : Int32} {v3 : Int32} (hM : RM S o R) (hq : wq_X7_frame postq R S o v1 v2 v3) (hp : ∀ r S', RM S' o R → postq r S' → post r S') : wp_X7_frame post S o v1 v2 v3 := by
  refine ⟨fun c1 => ?_, fun c1 => ?_⟩
  · have hq := hq.1 c1
    exact hp _ _ hM hq
  · have hq := hq.2 c1
    refine ⟨hM.1, ?_⟩
    refine wr_X7_length hM hq (fun r3 S2 hM hq => ?_)
    refine ⟨fun c4 => ?_, fun c4 => ?_⟩
    · have hq := hq.1 c4
      exact hp _ _ hM hq
    · have hq := hq.2 c4
      refine ⟨R 4, hM.f 4 (by decide), ?_⟩
      refine ⟨hM.t 4 (by decide), ?_⟩
      obtain ⟨i6, hq⟩ := hq
      refine ⟨hM.i 4 (by decide) i6, ?_⟩
      exact hp _ _ hM hq
def wq_X7_count (post : Int32 → HS → Prop) (R : Nat → Nat) (S : HS) (a0 : Nat) (v1 : Int32) : Prop := ((v1 < 0 → post (-1 : Int32) S) ∧ (¬ v1 < 0 → (((12 : Int32) < v1 → post (-1 : Int32) S) ∧ (¬ (12 : Int32) < v1 → vp_in v1 13 ∧ (post (ai S (R 17) v1.toNatClampNeg) S)))))
theorem wr_X7_count {post postq : Int32 → HS → Prop} {R : Nat → Nat} {S : HS} {o : Nat} {v1 : Int32} (hM : RM S o R) (hq : wq_X7_count postq R S o v1) (hp : ∀ r S', RM S' o R → postq r S' → post r S') : wp_X7_count post S o v1 := by
  refine ⟨fun c1 => ?_, fun c1 => ?_⟩
  · have hq := hq.1 c1
    exact hp _ _ hM hq
  · have hq := hq.2 c1
    refine ⟨fun c2 => ?_, fun c2 => ?_⟩
    · have hq := hq.1 c2
      exact hp _ _ hM hq
    · have hq := hq.2 c2
      refine ⟨hM.1, ?_⟩
      refine ⟨R 17, hM.f 17 (by decide), ?_⟩
      refine ⟨hM.t 17 (by decide), ?_⟩
      obtain ⟨i4, hq⟩ := hq
      refine ⟨hM.i 17 (by decide) i4, ?_⟩
      exact hp _ _ hM hq
