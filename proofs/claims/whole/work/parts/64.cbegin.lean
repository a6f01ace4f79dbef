/-! ===== the class: begin, station, tick ===== -/
theorem RepC.ext {S : HS} {g : Nat} {G w : Nat → Nat} {A : Nat → List Nat} {T T' : TS} (h : RepC S g G w A T) (e1 : tN T' = tN T) (e2 : tS T' = tS T) (e3 : ∀ e, e < 8 → tK T' e = tK T e) (e4 : ∀ e d, e < 8 → d < 8 → tW T' e d = tW T e d) (e5 : ∀ e, e < 8 → tQ T' e = tQ T e) (e6 : tT T' = tT T) (e7 : tF T' = tF T) (e8 : ∀ k, k < 13 → tC T' k = tC T k) : RepC S g G w A T' := by
  obtain ⟨h1, h2, h3, h4, h5, h6, h7, h8, h9, h10, h11⟩ := h
  refine ⟨by rw [e1]; exact h1, h2, fun e d he hd => by rw [e4 e d he hd]; exact h3 e d he hd, fun e he => by rw [e5 e he]; exact h4 e he, ⟨h5.1, h5.2.1, fun k hk => by rw [e8 k hk]; exact h5.2.2 k hk⟩, by rw [e6]; exact h6, h7, fun e he => by rw [e3 e he]; exact h8 e he, by rw [e2]; exact h9, by rw [e7]; exact h10, h11⟩
def uQv (T : TS) (e v : Nat) : TS := mkT (tN T) (tS T) (tK T) (tW T) (va_up (tQ T) e v) (tT T) (tF T) (tC T)
def uCv (T : TS) (k v : Nat) : TS := mkT (tN T) (tS T) (tK T) (tW T) (tQ T) (tT T) (tF T) (va_up (tC T) k v)
theorem RepC.cnt {S : HS} {g : Nat} {G w : Nat → Nat} {A : Nat → List Nat} {T : TS} (h : RepC S g G w A T) {k v : Nat} (hk : k < 13) : RepC (sai S (G 3) k (nI v)) g G w A (uCv T k v) := by
  obtain ⟨h1, h2, h3, h4, h5, h6, h7, h8, h9, h10, h11⟩ := h
  have k34 := h5.1
  have f : frm S (sai S (G 3) k (nI v)) no2 no2 (fun x => x = G 3) no1 := frm.wai rfl
  refine ⟨h1.fr f (by intros; first | exact id | (rintro rfl; omega) | (rintro ⟨rfl, -⟩; omega) | (rintro ⟨-, rfl⟩; omega) | (rintro ⟨rfl, rfl⟩; omega) | (intro q; omega) | (rintro ⟨q, -⟩; omega) | (rintro ⟨-, q⟩; rw [q] at *; omega) | (intro q; rw [q] at *; omega)) (by intros; first | exact id | (rintro rfl; omega) | (rintro ⟨rfl, -⟩; omega) | (rintro ⟨-, rfl⟩; omega) | (rintro ⟨rfl, rfl⟩; omega) | (intro q; omega) | (rintro ⟨q, -⟩; omega) | (rintro ⟨-, q⟩; rw [q] at *; omega) | (intro q; rw [q] at *; omega)), h2.fr f (by intros; first | exact id | (rintro rfl; omega) | (rintro ⟨rfl, -⟩; omega) | (rintro ⟨-, rfl⟩; omega) | (rintro ⟨rfl, rfl⟩; omega) | (intro q; omega) | (rintro ⟨q, -⟩; omega) | (rintro ⟨-, q⟩; rw [q] at *; omega) | (intro q; rw [q] at *; omega)) (by intros; first | exact id | (rintro rfl; omega) | (rintro ⟨rfl, -⟩; omega) | (rintro ⟨-, rfl⟩; omega) | (rintro ⟨rfl, rfl⟩; omega) | (intro q; omega) | (rintro ⟨q, -⟩; omega) | (rintro ⟨-, q⟩; rw [q] at *; omega) | (intro q; rw [q] at *; omega)) (by intros; first | exact id | (rintro rfl; omega) | (rintro ⟨rfl, -⟩; omega) | (rintro ⟨-, rfl⟩; omega) | (rintro ⟨rfl, rfl⟩; omega) | (intro q; omega) | (rintro ⟨q, -⟩; omega) | (rintro ⟨-, q⟩; rw [q] at *; omega) | (intro q; rw [q] at *; omega)), h3.fr f (by intros; first | exact id | (rintro rfl; omega) | (rintro ⟨rfl, -⟩; omega) | (rintro ⟨-, rfl⟩; omega) | (rintro ⟨rfl, rfl⟩; omega) | (intro q; omega) | (rintro ⟨q, -⟩; omega) | (rintro ⟨-, q⟩; rw [q] at *; omega) | (intro q; rw [q] at *; omega)), h4.fr f (by intros; first | exact id | (rintro rfl; omega) | (rintro ⟨rfl, -⟩; omega) | (rintro ⟨-, rfl⟩; omega) | (rintro ⟨rfl, rfl⟩; omega) | (intro q; omega) | (rintro ⟨q, -⟩; omega) | (rintro ⟨-, q⟩; rw [q] at *; omega) | (intro q; rw [q] at *; omega)), ⟨h5.1, h5.2.1, fun j hj => ?_⟩, h6.fr f sam.rf (by intros; first | exact id | (rintro rfl; omega) | (rintro ⟨rfl, -⟩; omega) | (rintro ⟨-, rfl⟩; omega) | (rintro ⟨rfl, rfl⟩; omega) | (intro q; omega) | (rintro ⟨q, -⟩; omega) | (rintro ⟨-, q⟩; rw [q] at *; omega) | (intro q; rw [q] at *; omega)) (by intros; first | exact id | (rintro rfl; omega) | (rintro ⟨rfl, -⟩; omega) | (rintro ⟨-, rfl⟩; omega) | (rintro ⟨rfl, rfl⟩; omega) | (intro q; omega) | (rintro ⟨q, -⟩; omega) | (rintro ⟨-, q⟩; rw [q] at *; omega) | (intro q; rw [q] at *; omega)) (by intros; first | exact id | (rintro rfl; omega) | (rintro ⟨rfl, -⟩; omega) | (rintro ⟨-, rfl⟩; omega) | (rintro ⟨rfl, rfl⟩; omega) | (intro q; omega) | (rintro ⟨q, -⟩; omega) | (rintro ⟨-, q⟩; rw [q] at *; omega) | (intro q; rw [q] at *; omega)), (fun i hi10 => (h7 i hi10).fr f sam.rf (by intros; first | exact id | (rintro rfl; omega) | (rintro ⟨rfl, -⟩; omega) | (rintro ⟨-, rfl⟩; omega) | (rintro ⟨rfl, rfl⟩; omega) | (intro q; omega) | (rintro ⟨q, -⟩; omega) | (rintro ⟨-, q⟩; rw [q] at *; omega) | (intro q; rw [q] at *; omega)) (by intros; first | exact id | (rintro rfl; omega) | (rintro ⟨rfl, -⟩; omega) | (rintro ⟨-, rfl⟩; omega) | (rintro ⟨rfl, rfl⟩; omega) | (intro q; omega) | (rintro ⟨q, -⟩; omega) | (rintro ⟨-, q⟩; rw [q] at *; omega) | (intro q; rw [q] at *; omega)) (by intros; first | exact id | (rintro rfl; omega) | (rintro ⟨rfl, -⟩; omega) | (rintro ⟨-, rfl⟩; omega) | (rintro ⟨rfl, rfl⟩; omega) | (intro q; omega) | (rintro ⟨q, -⟩; omega) | (rintro ⟨-, q⟩; rw [q] at *; omega) | (intro q; rw [q] at *; omega))), h8.fr f sam.rf (by intros; first | exact id | (rintro rfl; omega) | (rintro ⟨rfl, -⟩; omega) | (rintro ⟨-, rfl⟩; omega) | (rintro ⟨rfl, rfl⟩; omega) | (intro q; omega) | (rintro ⟨q, -⟩; omega) | (rintro ⟨-, q⟩; rw [q] at *; omega) | (intro q; rw [q] at *; omega)), h9.fr f sam.rf (by intros; first | exact id | (rintro rfl; omega) | (rintro ⟨rfl, -⟩; omega) | (rintro ⟨-, rfl⟩; omega) | (rintro ⟨rfl, rfl⟩; omega) | (intro q; omega) | (rintro ⟨q, -⟩; omega) | (rintro ⟨-, q⟩; rw [q] at *; omega) | (intro q; rw [q] at *; omega)) (by intros; first | exact id | (rintro rfl; omega) | (rintro ⟨rfl, -⟩; omega) | (rintro ⟨-, rfl⟩; omega) | (rintro ⟨rfl, rfl⟩; omega) | (intro q; omega) | (rintro ⟨q, -⟩; omega) | (rintro ⟨-, q⟩; rw [q] at *; omega) | (intro q; rw [q] at *; omega)) (by intros; first | exact id | (rintro rfl; omega) | (rintro ⟨rfl, -⟩; omega) | (rintro ⟨-, rfl⟩; omega) | (rintro ⟨rfl, rfl⟩; omega) | (intro q; omega) | (rintro ⟨q, -⟩; omega) | (rintro ⟨-, q⟩; rw [q] at *; omega) | (intro q; rw [q] at *; omega)) (by intros; first | exact id | (rintro rfl; omega) | (rintro ⟨rfl, -⟩; omega) | (rintro ⟨-, rfl⟩; omega) | (rintro ⟨rfl, rfl⟩; omega) | (intro q; omega) | (rintro ⟨q, -⟩; omega) | (rintro ⟨-, q⟩; rw [q] at *; omega) | (intro q; rw [q] at *; omega)) (by intros; first | exact id | (rintro rfl; omega) | (rintro ⟨rfl, -⟩; omega) | (rintro ⟨-, rfl⟩; omega) | (rintro ⟨rfl, rfl⟩; omega) | (intro q; omega) | (rintro ⟨q, -⟩; omega) | (rintro ⟨-, q⟩; rw [q] at *; omega) | (intro q; rw [q] at *; omega)) (by intros; first | exact id | (rintro rfl; omega) | (rintro ⟨rfl, -⟩; omega) | (rintro ⟨-, rfl⟩; omega) | (rintro ⟨rfl, rfl⟩; omega) | (intro q; omega) | (rintro ⟨q, -⟩; omega) | (rintro ⟨-, q⟩; rw [q] at *; omega) | (intro q; rw [q] at *; omega)), h10.fr f sam.rf (by intros; first | exact id | (rintro rfl; omega) | (rintro ⟨rfl, -⟩; omega) | (rintro ⟨-, rfl⟩; omega) | (rintro ⟨rfl, rfl⟩; omega) | (intro q; omega) | (rintro ⟨q, -⟩; omega) | (rintro ⟨-, q⟩; rw [q] at *; omega) | (intro q; rw [q] at *; omega)) (by intros; first | exact id | (rintro rfl; omega) | (rintro ⟨rfl, -⟩; omega) | (rintro ⟨-, rfl⟩; omega) | (rintro ⟨rfl, rfl⟩; omega) | (intro q; omega) | (rintro ⟨q, -⟩; omega) | (rintro ⟨-, q⟩; rw [q] at *; omega) | (intro q; rw [q] at *; omega)) (by intros; first | exact id | (rintro rfl; omega) | (rintro ⟨rfl, -⟩; omega) | (rintro ⟨-, rfl⟩; omega) | (rintro ⟨rfl, rfl⟩; omega) | (intro q; omega) | (rintro ⟨q, -⟩; omega) | (rintro ⟨-, q⟩; rw [q] at *; omega) | (intro q; rw [q] at *; omega)) (by intros; first | exact id | (rintro rfl; omega) | (rintro ⟨rfl, -⟩; omega) | (rintro ⟨-, rfl⟩; omega) | (rintro ⟨rfl, rfl⟩; omega) | (intro q; omega) | (rintro ⟨q, -⟩; omega) | (rintro ⟨-, q⟩; rw [q] at *; omega) | (intro q; rw [q] at *; omega)) (by intros; first | exact id | (rintro rfl; omega) | (rintro ⟨rfl, -⟩; omega) | (rintro ⟨-, rfl⟩; omega) | (rintro ⟨rfl, rfl⟩; omega) | (intro q; omega) | (rintro ⟨q, -⟩; omega) | (rintro ⟨-, q⟩; rw [q] at *; omega) | (intro q; rw [q] at *; omega)), h11⟩
  rw [ai_self]
  show _ = nI (va_up (tC T) k v j)
  unfold va_up
  by_cases e : j = k
  · rw [if_pos e, if_pos e]
  · rw [if_neg e, if_neg e]; exact h5.2.2 j hj
theorem RepC.lauv {S : HS} {g : Nat} {G w : Nat → Nat} {A : Nat → List Nat} {T : TS} (h : RepC S g G w A T) {e v : Nat} (he : e < 8) : RepC (sfi S 6 (G (10 + e)) (nI v)) g G w A (uQv T e v) := by
  obtain ⟨h1, h2, h3, h4, h5, h6, h7, h8, h9, h10, h11⟩ := h
  have k2 := (h2.2 e he).2.1
  have f : frm S (sfi S 6 (G (10 + e)) (nI v)) (fun f x => f = 6 ∧ x = G (10 + e)) no2 no1 no1 := frm.wfi (Or.inr ⟨rfl, rfl⟩)
  refine ⟨h1.fr f (by intros; first | exact id | (rintro rfl; omega) | (rintro ⟨rfl, -⟩; omega) | (rintro ⟨-, rfl⟩; omega) | (rintro ⟨rfl, rfl⟩; omega) | (intro q; omega) | (rintro ⟨q, -⟩; omega) | (rintro ⟨-, q⟩; rw [q] at *; omega) | (intro q; rw [q] at *; omega)) (by intros; first | exact id | (rintro rfl; omega) | (rintro ⟨rfl, -⟩; omega) | (rintro ⟨-, rfl⟩; omega) | (rintro ⟨rfl, rfl⟩; omega) | (intro q; omega) | (rintro ⟨q, -⟩; omega) | (rintro ⟨-, q⟩; rw [q] at *; omega) | (intro q; rw [q] at *; omega)), h2.fr f (by intros; first | exact id | (rintro rfl; omega) | (rintro ⟨rfl, -⟩; omega) | (rintro ⟨-, rfl⟩; omega) | (rintro ⟨rfl, rfl⟩; omega) | (intro q; omega) | (rintro ⟨q, -⟩; omega) | (rintro ⟨-, q⟩; rw [q] at *; omega) | (intro q; rw [q] at *; omega)) (by intros; first | exact id | (rintro rfl; omega) | (rintro ⟨rfl, -⟩; omega) | (rintro ⟨-, rfl⟩; omega) | (rintro ⟨rfl, rfl⟩; omega) | (intro q; omega) | (rintro ⟨q, -⟩; omega) | (rintro ⟨-, q⟩; rw [q] at *; omega) | (intro q; rw [q] at *; omega)) (by intros; first | exact id | (rintro rfl; omega) | (rintro ⟨rfl, -⟩; omega) | (rintro ⟨-, rfl⟩; omega) | (rintro ⟨rfl, rfl⟩; omega) | (intro q; omega) | (rintro ⟨q, -⟩; omega) | (rintro ⟨-, q⟩; rw [q] at *; omega) | (intro q; rw [q] at *; omega)), h3.fr f (by intros; first | exact id | (rintro rfl; omega) | (rintro ⟨rfl, -⟩; omega) | (rintro ⟨-, rfl⟩; omega) | (rintro ⟨rfl, rfl⟩; omega) | (intro q; omega) | (rintro ⟨q, -⟩; omega) | (rintro ⟨-, q⟩; rw [q] at *; omega) | (intro q; rw [q] at *; omega)), (fun d hd => ⟨(h2.2 d hd).2.1, ?_⟩), h5.fr f (by intros; first | exact id | (rintro rfl; omega) | (rintro ⟨rfl, -⟩; omega) | (rintro ⟨-, rfl⟩; omega) | (rintro ⟨rfl, rfl⟩; omega) | (intro q; omega) | (rintro ⟨q, -⟩; omega) | (rintro ⟨-, q⟩; rw [q] at *; omega) | (intro q; rw [q] at *; omega)), h6.fr f sam.rf (by intros; first | exact id | (rintro rfl; omega) | (rintro ⟨rfl, -⟩; omega) | (rintro ⟨-, rfl⟩; omega) | (rintro ⟨rfl, rfl⟩; omega) | (intro q; omega) | (rintro ⟨q, -⟩; omega) | (rintro ⟨-, q⟩; rw [q] at *; omega) | (intro q; rw [q] at *; omega)) (by intros; first | exact id | (rintro rfl; omega) | (rintro ⟨rfl, -⟩; omega) | (rintro ⟨-, rfl⟩; omega) | (rintro ⟨rfl, rfl⟩; omega) | (intro q; omega) | (rintro ⟨q, -⟩; omega) | (rintro ⟨-, q⟩; rw [q] at *; omega) | (intro q; rw [q] at *; omega)) (by intros; first | exact id | (rintro rfl; omega) | (rintro ⟨rfl, -⟩; omega) | (rintro ⟨-, rfl⟩; omega) | (rintro ⟨rfl, rfl⟩; omega) | (intro q; omega) | (rintro ⟨q, -⟩; omega) | (rintro ⟨-, q⟩; rw [q] at *; omega) | (intro q; rw [q] at *; omega)), (fun i hi10 => (h7 i hi10).fr f sam.rf (by intros; first | exact id | (rintro rfl; omega) | (rintro ⟨rfl, -⟩; omega) | (rintro ⟨-, rfl⟩; omega) | (rintro ⟨rfl, rfl⟩; omega) | (intro q; omega) | (rintro ⟨q, -⟩; omega) | (rintro ⟨-, q⟩; rw [q] at *; omega) | (intro q; rw [q] at *; omega)) (by intros; first | exact id | (rintro rfl; omega) | (rintro ⟨rfl, -⟩; omega) | (rintro ⟨-, rfl⟩; omega) | (rintro ⟨rfl, rfl⟩; omega) | (intro q; omega) | (rintro ⟨q, -⟩; omega) | (rintro ⟨-, q⟩; rw [q] at *; omega) | (intro q; rw [q] at *; omega)) (by intros; first | exact id | (rintro rfl; omega) | (rintro ⟨rfl, -⟩; omega) | (rintro ⟨-, rfl⟩; omega) | (rintro ⟨rfl, rfl⟩; omega) | (intro q; omega) | (rintro ⟨q, -⟩; omega) | (rintro ⟨-, q⟩; rw [q] at *; omega) | (intro q; rw [q] at *; omega))), h8.fr f sam.rf (by intros; first | exact id | (rintro rfl; omega) | (rintro ⟨rfl, -⟩; omega) | (rintro ⟨-, rfl⟩; omega) | (rintro ⟨rfl, rfl⟩; omega) | (intro q; omega) | (rintro ⟨q, -⟩; omega) | (rintro ⟨-, q⟩; rw [q] at *; omega) | (intro q; rw [q] at *; omega)), h9.fr f sam.rf (by intros; first | exact id | (rintro rfl; omega) | (rintro ⟨rfl, -⟩; omega) | (rintro ⟨-, rfl⟩; omega) | (rintro ⟨rfl, rfl⟩; omega) | (intro q; omega) | (rintro ⟨q, -⟩; omega) | (rintro ⟨-, q⟩; rw [q] at *; omega) | (intro q; rw [q] at *; omega)) (by intros; first | exact id | (rintro rfl; omega) | (rintro ⟨rfl, -⟩; omega) | (rintro ⟨-, rfl⟩; omega) | (rintro ⟨rfl, rfl⟩; omega) | (intro q; omega) | (rintro ⟨q, -⟩; omega) | (rintro ⟨-, q⟩; rw [q] at *; omega) | (intro q; rw [q] at *; omega)) (by intros; first | exact id | (rintro rfl; omega) | (rintro ⟨rfl, -⟩; omega) | (rintro ⟨-, rfl⟩; omega) | (rintro ⟨rfl, rfl⟩; omega) | (intro q; omega) | (rintro ⟨q, -⟩; omega) | (rintro ⟨-, q⟩; rw [q] at *; omega) | (intro q; rw [q] at *; omega)) (by intros; first | exact id | (rintro rfl; omega) | (rintro ⟨rfl, -⟩; omega) | (rintro ⟨-, rfl⟩; omega) | (rintro ⟨rfl, rfl⟩; omega) | (intro q; omega) | (rintro ⟨q, -⟩; omega) | (rintro ⟨-, q⟩; rw [q] at *; omega) | (intro q; rw [q] at *; omega)) (by intros; first | exact id | (rintro rfl; omega) | (rintro ⟨rfl, -⟩; omega) | (rintro ⟨-, rfl⟩; omega) | (rintro ⟨rfl, rfl⟩; omega) | (intro q; omega) | (rintro ⟨q, -⟩; omega) | (rintro ⟨-, q⟩; rw [q] at *; omega) | (intro q; rw [q] at *; omega)) (by intros; first | exact id | (rintro rfl; omega) | (rintro ⟨rfl, -⟩; omega) | (rintro ⟨-, rfl⟩; omega) | (rintro ⟨rfl, rfl⟩; omega) | (intro q; omega) | (rintro ⟨q, -⟩; omega) | (rintro ⟨-, q⟩; rw [q] at *; omega) | (intro q; rw [q] at *; omega)), h10.fr f sam.rf (by intros; first | exact id | (rintro rfl; omega) | (rintro ⟨rfl, -⟩; omega) | (rintro ⟨-, rfl⟩; omega) | (rintro ⟨rfl, rfl⟩; omega) | (intro q; omega) | (rintro ⟨q, -⟩; omega) | (rintro ⟨-, q⟩; rw [q] at *; omega) | (intro q; rw [q] at *; omega)) (by intros; first | exact id | (rintro rfl; omega) | (rintro ⟨rfl, -⟩; omega) | (rintro ⟨-, rfl⟩; omega) | (rintro ⟨rfl, rfl⟩; omega) | (intro q; omega) | (rintro ⟨q, -⟩; omega) | (rintro ⟨-, q⟩; rw [q] at *; omega) | (intro q; rw [q] at *; omega)) (by intros; first | exact id | (rintro rfl; omega) | (rintro ⟨rfl, -⟩; omega) | (rintro ⟨-, rfl⟩; omega) | (rintro ⟨rfl, rfl⟩; omega) | (intro q; omega) | (rintro ⟨q, -⟩; omega) | (rintro ⟨-, q⟩; rw [q] at *; omega) | (intro q; rw [q] at *; omega)) (by intros; first | exact id | (rintro rfl; omega) | (rintro ⟨rfl, -⟩; omega) | (rintro ⟨-, rfl⟩; omega) | (rintro ⟨rfl, rfl⟩; omega) | (intro q; omega) | (rintro ⟨q, -⟩; omega) | (rintro ⟨-, q⟩; rw [q] at *; omega) | (intro q; rw [q] at *; omega)) (by intros; first | exact id | (rintro rfl; omega) | (rintro ⟨rfl, -⟩; omega) | (rintro ⟨-, rfl⟩; omega) | (rintro ⟨rfl, rfl⟩; omega) | (intro q; omega) | (rintro ⟨q, -⟩; omega) | (rintro ⟨-, q⟩; rw [q] at *; omega) | (intro q; rw [q] at *; omega)), h11⟩
  show _ = nI (va_up (tQ T) e v d)
  unfold va_up
  by_cases z : d = e
  · rw [z, fi_self, if_pos rfl]
  · rw [if_neg z, fi_ne _ _ _ _ (Or.inr (fun q => z ?_))]
    · exact (h4 d hd).2
    · have a1 := (h2.2 d hd).2.2.1
      have a2 := (h2.2 e he).2.2.1
      rw [q, a2] at a1
      exact ((nI_eq (by omega) (by omega)).mp a1).symm
def tz (T : TS) (e k : Nat) : TS := mkT (tN T) (tS T) (tK T) (fun a b => if a = e ∧ b < k then 0 else tW T a b) (tQ T) (tT T) (tF T) (tC T)
theorem c_rs14 {post : Unit → HS → Prop} {g : Nat} {G w : Nat → Nat} {A : Nat → List Nat} {T : TS} {e : Nat} (he : e < 8) (hp : ∀ S', RepC S' g G w A (tz T e 8) → post () S') : ∀ (n k : Nat) (S : HS), k + n = 8 → RepC S g G w A (tz T e k) → wp_X0_reset_14 (n + 1) post S (G (10 + e)) (nI k) := by
  intro n
  induction n with
  | zero =>
    intro k S hk h
    have : k = 8 := by omega
    subst this
    exact ⟨fun _ => hp S h, fun c => absurd (by decide) c⟩
  | succ n ih =>
    intro k S hk h
    obtain ⟨b1, b2, b3, b4, b5, b6, b7⟩ := h.E.2 e he
    refine ⟨fun c => absurd ((nI_leI (a := 8) (by omega) (by omega)).mp c) (by omega), fun _ => ⟨b2, G (30 + e), b5, by rw [b6], by rw [b7]; exact vp_in_nI (by omega) (by decide), ?_⟩⟩
    rw [nI_clamp (by omega), nI_1]
    refine ih (k + 1) _ (by omega) ((h.way (d := k) (v := 0) he).ext rfl rfl (fun _ _ => rfl) (fun a b ha hb => ?_) (fun _ _ => rfl) rfl rfl (fun _ _ => rfl))
    show (if a = e ∧ b < k + 1 then 0 else tW T a b) = va_up (fun a b => if a = e ∧ b < k then 0 else tW T a b) e (va_up (fun b => if e = e ∧ b < k then 0 else tW T e b) k 0) a b
    dsimp only [va_up]
    by_cases z : a = e
    · subst z
      rw [if_pos rfl]
      dsimp only [va_up]
      by_cases z2 : b = k
      · rw [if_pos ⟨rfl, by omega⟩, if_pos z2]
      · rw [if_neg z2]
        by_cases z3 : b < k
        · rw [if_pos ⟨rfl, by omega⟩, if_pos ⟨rfl, z3⟩]
        · rw [if_neg (by omega), if_neg (by omega)]
    · rw [if_neg (show ¬ (a = e ∧ b < k + 1) from fun q => z q.1), if_neg z, if_neg (show ¬ (a = e ∧ b < k) from fun q => z q.1)]
theorem c_reset {post : Unit → HS → Prop} {S : HS} {g : Nat} {G w : Nat → Nat} {A : Nat → List Nat} {T : TS} {e : Nat} (he : e < 8) (h : RepC S g G w A T) (hp : ∀ S' A', RepC S' g G w A' (tz (uQv (uK T e []) e 0) e 8) → post () S') : wp_X0_reset post S (G (10 + e)) := by
  obtain ⟨b1, b2, b3, b4, b5, b6, b7⟩ := h.E.2 e he
  obtain ⟨hn, d, hL, hd⟩ := h.L (i := e) (by omega)
  refine ⟨b2, G (20 + e), b4, hL.1, sp_clr hL (fun S' f hL' hk => ⟨9, ?_⟩)⟩
  have h1 := h.lk (l := []) he hL hd f hL' List.nodup_nil (fun q => hd (by rw [← hk]; exact q)) sam.rf (fun _ => Al.nil)
  have h2 := h1.lauv (v := 0) he
  refine c_rs14 he (fun S'' q => hp S'' _ q) 8 0 _ rfl (h2.ext rfl rfl (fun _ _ => rfl) (fun a b _ _ => ?_) (fun _ _ => rfl) rfl rfl (fun _ _ => rfl))
  show (if a = e ∧ b < 0 then 0 else _) = _
  rw [if_neg (by omega)]
def tcz (T : TS) (k : Nat) : TS := mkT (tN T) (tS T) (tK T) (tW T) (tQ T) (tT T) (tF T) (fun j => if j < k then 0 else tC T j)
theorem c_b63 {post : Int32 → HS → Prop} {g : Nat} {G w : Nat → Nat} {A : Nat → List Nat} {T : TS} (hp : ∀ S', RepC S' g G w A (tcz T 13) → post 1 S') : ∀ (n k : Nat) (S : HS), k + n = 13 → RepC S g G w A (tcz T k) → wp_X6_begin_63 (n + 1) post S g (nI k) := by
  intro n
  induction n with
  | zero =>
    intro k S hk h
    have : k = 13 := by omega
    subst this
    exact ⟨fun _ => hp S h, fun c => absurd (by decide) c⟩
  | succ n ih =>
    intro k S hk h
    obtain ⟨a1, a2, a3⟩ := h.C
    refine ⟨fun c => absurd ((nI_leI (a := 13) (by omega) (by omega)).mp c) (by omega), fun _ => ⟨h.F.1, G 3, h.F.2.2.2.2.2.1, by rw [a1], by rw [a2]; exact vp_in_nI (by omega) (by decide), ?_⟩⟩
    rw [nI_clamp (by omega), nI_1]
    refine ih (k + 1) _ (by omega) ((h.cnt (k := k) (v := 0) (by omega)).ext rfl rfl (fun _ _ => rfl) (fun _ _ _ _ => rfl) (fun _ _ => rfl) rfl rfl (fun j hj => ?_))
    show (if j < k + 1 then 0 else tC T j) = va_up (fun j => if j < k then 0 else tC T j) k 0 j
    dsimp only [va_up]
    by_cases z : j = k
    · rw [if_pos z, if_pos (by omega)]
    · rw [if_neg z]
      by_cases z2 : j < k
      · rw [if_pos z2, if_pos (by omega)]
      · rw [if_neg z2, if_neg (by omega)]
def tbz (T : TS) (j : Nat) : TS := mkT (tN T) (tS T) (fun e => if e < j then [] else tK T e) (fun a b => if a < j then 0 else tW T a b) (fun a => if a < j then 0 else tQ T a) (tT T) (tF T) (tC T)
theorem c_b20 {post : Int32 → HS → Prop} {g : Nat} {G w : Nat → Nat} {T : TS} (hp : ∀ S' A', RepC S' g G w A' (tbz T 8) → wp_X6_begin_20 1 post S' g (nI 8)) : ∀ (n k : Nat) (S : HS) (A : Nat → List Nat), k + n = 8 → RepC S g G w A (tbz T k) → wp_X6_begin_20 (n + 1) post S g (nI k) := by
  intro n
  induction n with
  | zero =>
    intro k S A hk h
    have : k = 8 := by omega
    subst this
    exact hp S A h
  | succ n ih =>
    intro k S A hk h
    obtain ⟨⟨a1, a2⟩, a3⟩ := h.E
    obtain ⟨b1, b2, -⟩ := a3 k (by omega)
    refine ⟨fun c => absurd ((nI_leI (a := 8) (by omega) (by omega)).mp c) (by omega), fun _ => ⟨h.F.1, G 0, h.F.2.1, by rw [a1], by rw [a2]; exact vp_in_nI (by omega) (by decide), G (10 + k), by rw [nI_clamp (by omega)]; exact b1, b2, ?_⟩⟩
    refine c_reset (by omega) h (fun S' A' h' => ?_)
    rw [nI_1]
    refine ih (k + 1) S' A' (by omega) (h'.ext rfl rfl (fun e he => ?_) (fun a b ha hb => ?_) (fun e he => ?_) rfl rfl (fun _ _ => rfl))
    · show (if e < k + 1 then [] else tK T e) = va_up (fun e => if e < k then [] else tK T e) k [] e
      dsimp only [va_up]
      by_cases z : e = k
      · rw [if_pos z, if_pos (by omega)]
      · rw [if_neg z]
        by_cases z2 : e < k
        · rw [if_pos z2, if_pos (by omega)]
        · rw [if_neg z2, if_neg (by omega)]
    · show (if a < k + 1 then 0 else tW T a b) = if a = k ∧ b < 8 then 0 else if a < k then 0 else tW T a b
      by_cases z : a = k
      · rw [if_pos (by omega), if_pos ⟨z, hb⟩]
      · rw [if_neg (show ¬ (a = k ∧ b < 8) from fun q => z q.1)]
        by_cases z2 : a < k
        · rw [if_pos z2, if_pos (by omega)]
        · rw [if_neg z2, if_neg (by omega)]
    · show (if e < k + 1 then 0 else tQ T e) = va_up (fun a => if a < k then 0 else tQ T a) k 0 e
      dsimp only [va_up]
      by_cases z : e = k
      · rw [if_pos z, if_pos (by omega)]
      · rw [if_neg z]
        by_cases z2 : e < k
        · rw [if_pos z2, if_pos (by omega)]
        · rw [if_neg z2, if_neg (by omega)]
theorem c_begin {post : Int32 → HS → Prop} {S : HS} {g : Nat} {G : Nat → Nat} {T : TS} (h : RC S g G T) {x : Int32} (hp : ∀ S', RC S' g G (s_begin T x).2 → post (s_begin T x).1 S') : wp_X6_begin post S g x := by
  obtain ⟨w, A, h⟩ := h
  cases hx : rg x 9 with
  | none =>
    simp only [s_begin, hx] at hp
    have hn := rg_no hx (by omega)
    refine ⟨fun _ => hp S ⟨w, A, h⟩, fun c => ⟨fun c2 => ?_, fun _ => hp S ⟨w, A, h⟩⟩⟩
    have a1 := le_tI.mp (Int32.not_lt.mp c)
    have a2 := le_tI.mp c2
    have e2 : (2 : Int32).toInt = 2 := rfl
    have e8 : (8 : Int32).toInt = 8 := rfl
    exfalso
    refine hn x.toInt.toNat (by omega) ?_
    apply Int32.toInt_inj.mp
    rw [nI_tI (by omega)]; omega
  | some n =>
    obtain ⟨h9, rfl⟩ := rg_lt hx
    have e2 : (2 : Int32).toInt = 2 := rfl
    by_cases h2 : 2 ≤ n
    · simp only [s_begin, hx, h2, if_true] at hp
      refine ⟨fun c => absurd (lt_tI.mp c) (by rw [nI_tI (by omega)]; omega), fun _ => ⟨fun _ => ⟨h.F.1, 9, ?_⟩, fun c => absurd ((nI_leI (b := 8) (by omega) (by omega)).mpr (by omega)) c⟩⟩
      have h1 := h.num (n := n)
      refine c_b20 (T := mkT n (tS T) (tK T) (tW T) (tQ T) (tT T) (tF T) (tC T)) (fun S1 A1 q1 => ?_) 8 0 _ A rfl (h1.ext rfl rfl (fun _ _ => rfl) (fun _ _ _ _ => rfl) (fun _ _ => rfl) rfl rfl (fun _ _ => rfl))
      obtain ⟨n8, d8, hL8, hd8⟩ := q1.L (i := 8) (by omega)
      refine ⟨fun _ => ⟨q1.F.1, G 28, q1.F.2.2.1, hL8.1, ?_⟩, fun c => absurd (by decide) c⟩
      refine sp_clr hL8 (fun S2 f2 hL2 hk2 => ?_)
      have q2 := q1.ls (l := []) hL8 hd8 f2 hL2 List.nodup_nil (fun q => hd8 (by rw [← hk2]; exact q)) sam.rf (fun _ => Al.nil)
      obtain ⟨n9, d9, hL9, hd9⟩ := q2.L (i := 9) (by omega)
      refine ⟨G 29, q2.F.2.2.2.1, hL9.1, sp_clr hL9 (fun S3 f3 hL3 hk3 => ⟨14, ?_⟩)⟩
      have q3 := q2.lp (l := []) hL9 hd9 f3 hL3 List.nodup_nil (fun q => hd9 (by rw [← hk3]; exact q)) sam.rf (fun _ => Al.nil)
      refine c_b63 (T := uF (uS (tbz (mkT n (tS T) (tK T) (tW T) (tQ T) (tT T) (tF T) (tC T)) 8) []) []) (fun S4 q4 => hp S4 ⟨w, va_up (va_up A1 8 []) 9 [], ?_⟩) 13 0 S3 rfl (q3.ext rfl rfl (fun _ _ => rfl) (fun _ _ _ _ => rfl) (fun _ _ => rfl) rfl rfl (fun _ _ => rfl))
      refine q4.ext rfl rfl (fun e he => ?_) (fun a b ha hb => ?_) (fun e he => ?_) rfl rfl (fun k hk => ?_)
      · show [] = if e < 8 then [] else _
        rw [if_pos he]
      · show 0 = if a < 8 then 0 else _
        rw [if_pos ha]
      · show 0 = if e < 8 then 0 else _
        rw [if_pos he]
      · show 0 = if k < 13 then 0 else _
        rw [if_pos hk]
    · simp only [s_begin, hx, h2, if_false] at hp
      refine ⟨fun _ => hp S ⟨w, A, h⟩, fun c => absurd (lt_tI.mpr ?_) c⟩
      rw [nI_tI (by omega)]
      omega
