/-! ===== the heap as the proof sees it: kinds, lengths, fields by number, arrays by address ===== -/
abbrev HS : Type := Nat × (Nat → Nat) × (Nat → Nat) × (Nat → Nat → Int32) × (Nat → Nat → Int64) × (Nat → Nat → Option Nat) × (Nat → Nat → Int32) × (Nat → Nat → Int64) × (Nat → Nat → Option Nat)
def es (S : HS) : Nat := S.1
def kd (S : HS) : Nat → Nat := S.2.1
def ln (S : HS) : Nat → Nat := S.2.2.1
def fi (S : HS) : Nat → Nat → Int32 := S.2.2.2.1
def fl (S : HS) : Nat → Nat → Int64 := S.2.2.2.2.1
def fr (S : HS) : Nat → Nat → Option Nat := S.2.2.2.2.2.1
def ai (S : HS) : Nat → Nat → Int32 := S.2.2.2.2.2.2.1
def al (S : HS) : Nat → Nat → Int64 := S.2.2.2.2.2.2.2.1
def ar (S : HS) : Nat → Nat → Option Nat := S.2.2.2.2.2.2.2.2
def sfi (S : HS) (f a : Nat) (v : Int32) : HS := (es S, kd S, ln S, va_up (fi S) f (va_up (fi S f) a v), fl S, fr S, ai S, al S, ar S)
def sfl (S : HS) (f a : Nat) (v : Int64) : HS := (es S, kd S, ln S, fi S, va_up (fl S) f (va_up (fl S f) a v), fr S, ai S, al S, ar S)
def sfr (S : HS) (f a : Nat) (v : Option Nat) : HS := (es S, kd S, ln S, fi S, fl S, va_up (fr S) f (va_up (fr S f) a v), ai S, al S, ar S)
def sai (S : HS) (a i : Nat) (v : Int32) : HS := (es S, kd S, ln S, fi S, fl S, fr S, va_up (ai S) a (upd (ai S a) i v), al S, ar S)
def sal (S : HS) (a i : Nat) (v : Int64) : HS := (es S, kd S, ln S, fi S, fl S, fr S, ai S, va_up (al S) a (vp_updL (al S a) i v), ar S)
def sar (S : HS) (a i : Nat) (v : Option Nat) : HS := (es S, kd S, ln S, fi S, fl S, fr S, ai S, al S, va_up (ar S) a (va_up (ar S a) i v))
def scp (S : HS) (a : Nat) (g : Nat → Option Nat) : HS := (es S, kd S, ln S, fi S, fl S, fr S, ai S, al S, va_up (ar S) a g)
/-- a new cell: its kind, its length, all that it holds is 0 or null -/
def snw (S : HS) (a k n : Nat) : HS := (es S, va_up (kd S) a k, va_up (ln S) a n, (fun f => va_up (fi S f) a 0), (fun f => va_up (fl S f) a 0), (fun f => va_up (fr S f) a none), va_up (ai S) a (fun _ => 0), va_up (al S) a (fun _ => 0), va_up (ar S) a (fun _ => none))
/-- what the cell at a is -/
def wF (ka : Nat → ClassId) (S : HS) (a : Nat) : va_E :=
  if kd S a = 1 then .inr (0, [.int (fi S 0 a), va_rf (fr S 1 a), .int (fi S 2 a)])
  else if kd S a = 2 then .inr (1, [.int (fi S 3 a), va_rf (fr S 4 a), va_rf (fr S 5 a), .int (fi S 6 a)])
  else if kd S a = 3 then .inr (2, [.int (fi S 7 a), .long (fl S 8 a), .int (fi S 9 a), .int (fi S 10 a), .int (fi S 11 a)])
  else if kd S a = 4 then .inr (3, [va_rf (fr S 12 a), .int (fi S 13 a)])
  else if kd S a = 5 then .inr (4, [va_rf (fr S 14 a), .int (fi S 15 a)])
  else if kd S a = 6 then .inr (5, [.int (fi S 16 a), .long (fl S 17 a), va_rf (fr S 18 a), .int (fi S 19 a), .int (fi S 20 a)])
  else if kd S a = 7 then .inr (6, [va_rf (fr S 21 a), va_rf (fr S 22 a), va_rf (fr S 23 a), va_rf (fr S 24 a), va_rf (fr S 25 a), .int (fi S 26 a)])
  else if kd S a = 8 then .inr (7, [.int (fi S 27 a), .int (fi S 28 a), va_rf (fr S 29 a), va_rf (fr S 30 a), va_rf (fr S 31 a), va_rf (fr S 32 a), va_rf (fr S 33 a), va_rf (fr S 34 a), va_rf (fr S 35 a), va_rf (fr S 36 a), va_rf (fr S 37 a), va_rf (fr S 38 a), va_rf (fr S 39 a), va_rf (fr S 40 a), va_rf (fr S 41 a), va_rf (fr S 42 a), .int (fi S 43 a), va_rf (fr S 44 a), va_rf (fr S 45 a), va_rf (fr S 46 a), .int (fi S 47 a), va_rf (fr S 48 a), va_rf (fr S 49 a), .int (fi S 50 a), va_rf (fr S 51 a), .int (fi S 52 a)])
  else if kd S a / 32 = 1 then .inl (ka 1, ln S a, .inl (ai S a))
  else if kd S a / 32 = 2 then .inl (ka 2, ln S a, .inl (ai S a))
  else if kd S a / 32 = 3 then .inl (ka 3, ln S a, .inr (.inl (al S a)))
  else if kd S a / 32 = 4 then .inl (ka 4, ln S a, .inr (.inr (.inr (.inr (ar S a)))))
  else if kd S a / 32 = 5 then .inl (ka 5, ln S a, .inr (.inr (.inr (.inr (ar S a)))))
  else .inl (ka 6, ln S a, .inr (.inr (.inr (.inr (ar S a)))))
theorem wF_1 {ka : Nat → ClassId} {S : HS} {a : Nat} (h : kd S a = 1) : wF ka S a = .inr (0, [.int (fi S 0 a), va_rf (fr S 1 a), .int (fi S 2 a)]) := by simp [wF, h]
theorem wF_2 {ka : Nat → ClassId} {S : HS} {a : Nat} (h : kd S a = 2) : wF ka S a = .inr (1, [.int (fi S 3 a), va_rf (fr S 4 a), va_rf (fr S 5 a), .int (fi S 6 a)]) := by simp [wF, h]
theorem wF_3 {ka : Nat → ClassId} {S : HS} {a : Nat} (h : kd S a = 3) : wF ka S a = .inr (2, [.int (fi S 7 a), .long (fl S 8 a), .int (fi S 9 a), .int (fi S 10 a), .int (fi S 11 a)]) := by simp [wF, h]
theorem wF_4 {ka : Nat → ClassId} {S : HS} {a : Nat} (h : kd S a = 4) : wF ka S a = .inr (3, [va_rf (fr S 12 a), .int (fi S 13 a)]) := by simp [wF, h]
theorem wF_5 {ka : Nat → ClassId} {S : HS} {a : Nat} (h : kd S a = 5) : wF ka S a = .inr (4, [va_rf (fr S 14 a), .int (fi S 15 a)]) := by simp [wF, h]
theorem wF_6 {ka : Nat → ClassId} {S : HS} {a : Nat} (h : kd S a = 6) : wF ka S a = .inr (5, [.int (fi S 16 a), .long (fl S 17 a), va_rf (fr S 18 a), .int (fi S 19 a), .int (fi S 20 a)]) := by simp [wF, h]
theorem wF_7 {ka : Nat → ClassId} {S : HS} {a : Nat} (h : kd S a = 7) : wF ka S a = .inr (6, [va_rf (fr S 21 a), va_rf (fr S 22 a), va_rf (fr S 23 a), va_rf (fr S 24 a), va_rf (fr S 25 a), .int (fi S 26 a)]) := by simp [wF, h]
theorem wF_8 {ka : Nat → ClassId} {S : HS} {a : Nat} (h : kd S a = 8) : wF ka S a = .inr (7, [.int (fi S 27 a), .int (fi S 28 a), va_rf (fr S 29 a), va_rf (fr S 30 a), va_rf (fr S 31 a), va_rf (fr S 32 a), va_rf (fr S 33 a), va_rf (fr S 34 a), va_rf (fr S 35 a), va_rf (fr S 36 a), va_rf (fr S 37 a), va_rf (fr S 38 a), va_rf (fr S 39 a), va_rf (fr S 40 a), va_rf (fr S 41 a), va_rf (fr S 42 a), .int (fi S 43 a), va_rf (fr S 44 a), va_rf (fr S 45 a), va_rf (fr S 46 a), .int (fi S 47 a), va_rf (fr S 48 a), va_rf (fr S 49 a), .int (fi S 50 a), va_rf (fr S 51 a), .int (fi S 52 a)]) := by simp [wF, h]
theorem wF_no {k t : Nat} (h : k / 32 = t) (ht : 0 < t) : ¬ k = 1 ∧ ¬ k = 2 ∧ ¬ k = 3 ∧ ¬ k = 4 ∧ ¬ k = 5 ∧ ¬ k = 6 ∧ ¬ k = 7 ∧ ¬ k = 8 := by
  refine ⟨?_, ?_, ?_, ?_, ?_, ?_, ?_, ?_⟩ <;> (intro e; subst e; omega)
theorem wF_aI {ka : Nat → ClassId} {S : HS} {a : Nat} (h : kd S a / 32 = 1) : wF ka S a = .inl (ka 1, ln S a, .inl (ai S a)) := by
  obtain ⟨h1, h2, h3, h4, h5, h6, h7, h8⟩ := wF_no h (by decide)
  simp [wF, h, h1, h2, h3, h4, h5, h6, h7, h8]
theorem wF_aB {ka : Nat → ClassId} {S : HS} {a : Nat} (h : kd S a / 32 = 2) : wF ka S a = .inl (ka 2, ln S a, .inl (ai S a)) := by
  obtain ⟨h1, h2, h3, h4, h5, h6, h7, h8⟩ := wF_no h (by decide)
  simp [wF, h, h1, h2, h3, h4, h5, h6, h7, h8]
theorem wF_aJ {ka : Nat → ClassId} {S : HS} {a : Nat} (h : kd S a / 32 = 3) : wF ka S a = .inl (ka 3, ln S a, .inr (.inl (al S a))) := by
  obtain ⟨h1, h2, h3, h4, h5, h6, h7, h8⟩ := wF_no h (by decide)
  simp [wF, h, h1, h2, h3, h4, h5, h6, h7, h8]
theorem wF_aE {ka : Nat → ClassId} {S : HS} {a : Nat} (h : kd S a / 32 = 4) : wF ka S a = .inl (ka 4, ln S a, .inr (.inr (.inr (.inr (ar S a))))) := by
  obtain ⟨h1, h2, h3, h4, h5, h6, h7, h8⟩ := wF_no h (by decide)
  simp [wF, h, h1, h2, h3, h4, h5, h6, h7, h8]
theorem wF_aR {ka : Nat → ClassId} {S : HS} {a : Nat} (h : kd S a / 32 = 5) : wF ka S a = .inl (ka 5, ln S a, .inr (.inr (.inr (.inr (ar S a))))) := by
  obtain ⟨h1, h2, h3, h4, h5, h6, h7, h8⟩ := wF_no h (by decide)
  simp [wF, h, h1, h2, h3, h4, h5, h6, h7, h8]
theorem wF_aO {ka : Nat → ClassId} {S : HS} {a : Nat} (h : kd S a / 32 = 6) : wF ka S a = .inl (ka 6, ln S a, .inr (.inr (.inr (.inr (ar S a))))) := by
  obtain ⟨h1, h2, h3, h4, h5, h6, h7, h8⟩ := wF_no h (by decide)
  simp [wF, h, h1, h2, h3, h4, h5, h6, h7, h8]
/-- two views that agree at b have the same cell there -/
theorem wF_eq {ka : Nat → ClassId} {S S' : HS} {b : Nat} (h1 : kd S' b = kd S b) (h2 : ln S' b = ln S b) (h3 : ∀ f, fi S' f b = fi S f b) (h4 : ∀ f, fl S' f b = fl S f b) (h5 : ∀ f, fr S' f b = fr S f b) (h6 : ai S' b = ai S b) (h7 : al S' b = al S b) (h8 : ar S' b = ar S b) : wF ka S' b = wF ka S b := by
  unfold wF
  simp only [h1, h2, h3, h4, h5, h6, h7, h8]
theorem up2_ne {α : Type} (g : Nat → Nat → α) (f a : Nat) (v : α) {b : Nat} (hb : b ≠ a) (k : Nat) : va_up g f (va_up (g f) a v) k b = g k b := by
  by_cases hk : k = f
  · subst hk; rw [va_up_self, va_up_ne _ _ hb]
  · rw [va_up_ne _ _ hk]
theorem up2_self {α : Type} (g : Nat → Nat → α) (f a : Nat) (v : α) : va_up g f (va_up (g f) a v) f a = v := by rw [va_up_self, va_up_self]
theorem up2_oth {α : Type} (g : Nat → Nat → α) (f a : Nat) (v : α) {k : Nat} (hk : k ≠ f) (b : Nat) : va_up g f (va_up (g f) a v) k b = g k b := by rw [va_up_ne _ _ hk]
theorem wF_sfi {ka : Nat → ClassId} {S : HS} {f a : Nat} {v : Int32} {b : Nat} (hb : b ≠ a) : wF ka (sfi S f a v) b = wF ka S b := wF_eq rfl rfl (fun k => up2_ne (fi S) f a v hb k) (fun _ => rfl) (fun _ => rfl) rfl rfl rfl
theorem wF_sfl {ka : Nat → ClassId} {S : HS} {f a : Nat} {v : Int64} {b : Nat} (hb : b ≠ a) : wF ka (sfl S f a v) b = wF ka S b := wF_eq rfl rfl (fun _ => rfl) (fun k => up2_ne (fl S) f a v hb k) (fun _ => rfl) rfl rfl rfl
theorem wF_sfr {ka : Nat → ClassId} {S : HS} {f a : Nat} {v : Option Nat} {b : Nat} (hb : b ≠ a) : wF ka (sfr S f a v) b = wF ka S b := wF_eq rfl rfl (fun _ => rfl) (fun _ => rfl) (fun k => up2_ne (fr S) f a v hb k) rfl rfl rfl
theorem wF_sai {ka : Nat → ClassId} {S : HS} {a i : Nat} {v : Int32} {b : Nat} (hb : b ≠ a) : wF ka (sai S a i v) b = wF ka S b := wF_eq rfl rfl (fun _ => rfl) (fun _ => rfl) (fun _ => rfl) (va_up_ne _ _ hb) rfl rfl
theorem wF_sal {ka : Nat → ClassId} {S : HS} {a i : Nat} {v : Int64} {b : Nat} (hb : b ≠ a) : wF ka (sal S a i v) b = wF ka S b := wF_eq rfl rfl (fun _ => rfl) (fun _ => rfl) (fun _ => rfl) rfl (va_up_ne _ _ hb) rfl
theorem wF_sar {ka : Nat → ClassId} {S : HS} {a i : Nat} {v : Option Nat} {b : Nat} (hb : b ≠ a) : wF ka (sar S a i v) b = wF ka S b := wF_eq rfl rfl (fun _ => rfl) (fun _ => rfl) (fun _ => rfl) rfl rfl (va_up_ne _ _ hb)
theorem wF_scp {ka : Nat → ClassId} {S : HS} {a : Nat} {g : Nat → Option Nat} {b : Nat} (hb : b ≠ a) : wF ka (scp S a g) b = wF ka S b := wF_eq rfl rfl (fun _ => rfl) (fun _ => rfl) (fun _ => rfl) rfl rfl (va_up_ne _ _ hb)
theorem wF_snw {ka : Nat → ClassId} {S : HS} {a k n : Nat} {b : Nat} (hb : b ≠ a) : wF ka (snw S a k n) b = wF ka S b := wF_eq (va_up_ne _ _ hb) (va_up_ne _ _ hb) (fun _ => va_up_ne _ _ hb) (fun _ => va_up_ne _ _ hb) (fun _ => va_up_ne _ _ hb) (va_up_ne _ _ hb) (va_up_ne _ _ hb) (va_up_ne _ _ hb)
/-- the cells after one of them changed -/
theorem wF_up {ka : Nat → ClassId} {S S' : HS} {a : Nat} {x : va_E} (hn : ∀ b, b ≠ a → wF ka S' b = wF ka S b) (ha : wF ka S' a = x) (b : Nat) : va_up (wF ka S) a x b = wF ka S' b := by
  by_cases hb : b = a
  · subst hb; rw [va_up_self, ha]
  · rw [va_up_ne _ _ hb, hn b hb]
/-! ===== the tables' words, for all arguments ===== -/
def okW (w : Cond) : Bool := match w with
  | .fieldLinkNest _ _ _ _ _ _ => true
  | .castable _ _ => true
  | .declares _ => true
  | .arrayOver (.object _) => true
  | w => goodWord w
def tb (U : State) : Prop := ∀ w ∈ lw_tbl, okW w = true → ∀ a : Array Value, w.before a U = true
theorem tb.warm {s U : State} (hW : s.WarmedH U.vm) (h : tb s) : tb U := by
  intro w hw ho a
  have h0 := h w hw ho
  unfold okW at ho
  split at ho
  · exact va_Nw.use rfl (va_Nw.warmF hW (h0 #[]))
  · exact va_Nw.use rfl (va_Nw.warmC hW (h0 #[]))
  · exact va_Nw.use rfl (va_Nw.warmD hW (h0 #[]))
  · exact va_AO.use (va_AO.moved hW.alike (va_AO.of (h0 #[])))
  · exact word_at hW (good_of_word ho) (h0 #[])
theorem tb.of {s : State} {b : Array Value} (h : ∀ w ∈ lw_tbl, w.before b s = true) : tb s := by
  intro w hw ho a
  have h0 := h w hw
  unfold okW at ho
  split at ho
  · exact va_Nw.use rfl (va_Nw.of rfl h0)
  · exact va_Nw.use rfl (va_Nw.of rfl h0)
  · exact va_Nw.use rfl (va_Nw.of rfl h0)
  · exact va_AO.use (va_AO.of h0)
  · exact word_at (State.WarmedH.refl s) (good_of_word ho) h0
