/-! ===== the class's objects hold the state =====
G: the objects that stay (0 the endpoints' row, 1 the tape, 2 its cells, 3 the counters, 10 .. the endpoints, 20 .. the lists, 30 .. the ways);
w: whose each object is (0: nobody's; a list's cells i + 1; a known of e: e + 1; a station, a packet: 1; a station's row of frames: a + 1; a row's cells: r + 1; a row: 1 the tape, 2 a frame, a + 3 of the packet a);
A: the lists' contents -/
def kE (p : Nat ⊕ Nat) : Int32 := match p with | Sum.inr d => nI d | Sum.inl _ => -1
def kS (p : Nat ⊕ Nat) : Int32 := match p with | Sum.inl s => nI s | Sum.inr _ => -1
def KnAt (S : HS) (a : Nat) (κ : Kn) : Prop := kd S a = 3 ∧ fi S 7 a = nI κ.1 ∧ fl S 8 a = lN κ.2.1 ∧ fi S 9 a = kE κ.2.2.1 ∧ fi S 10 a = kS κ.2.2.1 ∧ fi S 11 a = nI κ.2.2.2
def FrAt (S : HS) (w : Nat → Nat) (fa : Nat) (bs : List (List Nat)) : Prop := kd S fa = 160 ∧ ln S fa = 6 ∧ ∀ k, k < 6 → (∀ b, bs[k]? = some b → ∃ r c n, ar S fa k = some r ∧ w r = 2 ∧ w c = r + 1 ∧ RowAt S r c n b) ∧ (bs[k]? = none → ar S fa k = none)
def StAt (S : HS) (w : Nat → Nat) (a : Nat) (s : Sta) : Prop := kd S a = 6 ∧ fi S 16 a = nI s.2.1 ∧ fl S 17 a = lN s.2.2.1 ∧ fi S 19 a = nI s.1 ∧ fi S 20 a = nI s.2.2.2.1 ∧ ∃ fa, fr S 18 a = some fa ∧ w fa = a + 1 ∧ FrAt S w fa s.2.2.2.2
def PkAt (S : HS) (w : Nat → Nat) (a : Nat) (f : List Nat × Nat) : Prop := kd S a = 4 ∧ fi S 13 a = nI f.2 ∧ ∃ r c n, fr S 12 a = some r ∧ w r = a + 3 ∧ w c = r + 1 ∧ RowAt S r c n f.1
def Al {α : Type} (P : Nat → α → Prop) (A : List Nat) (X : List α) : Prop := A.length = X.length ∧ ∀ (i a : Nat) (x : α), A[i]? = some a → X[i]? = some x → P a x
def CF (S : HS) (g : Nat) (G : Nat → Nat) (n : Nat) : Prop := kd S g = 7 ∧ fr S 21 g = some (G 0) ∧ fr S 22 g = some (G 28) ∧ fr S 23 g = some (G 29) ∧ fr S 24 g = some (G 1) ∧ fr S 25 g = some (G 3) ∧ fi S 26 g = nI n
def CE (S : HS) (G : Nat → Nat) : Prop := (kd S (G 0) = 128 ∧ ln S (G 0) = 8) ∧ ∀ e, e < 8 → ar S (G 0) e = some (G (10 + e)) ∧ kd S (G (10 + e)) = 2 ∧ fi S 3 (G (10 + e)) = nI e ∧ fr S 4 (G (10 + e)) = some (G (20 + e)) ∧ fr S 5 (G (10 + e)) = some (G (30 + e)) ∧ kd S (G (30 + e)) = 35 ∧ ln S (G (30 + e)) = 8
def CW (S : HS) (G : Nat → Nat) (W : Nat → Nat → Nat) : Prop := ∀ e d, e < 8 → d < 8 → kd S (G (30 + e)) = 35 ∧ ai S (G (30 + e)) d = nI (W e d)
def CQ (S : HS) (G : Nat → Nat) (Q : Nat → Nat) : Prop := ∀ e, e < 8 → kd S (G (10 + e)) = 2 ∧ fi S 6 (G (10 + e)) = nI (Q e)
def CC (S : HS) (G : Nat → Nat) (C : Nat → Nat) : Prop := kd S (G 3) = 34 ∧ ln S (G 3) = 13 ∧ ∀ k, k < 13 → ai S (G 3) k = nI (C k)
def CT (S : HS) (G w : Nat → Nat) (t : List Nat) : Prop := w (G 1) = 1 ∧ w (G 2) = G 1 + 1 ∧ RowAt S (G 1) (G 2) 120 t
def CL (S : HS) (G w : Nat → Nat) (i : Nat) (A : List Nat) : Prop := A.Nodup ∧ ∃ d, Lst S (G (20 + i)) d A ∧ (kd S d = 192 → w d = i + 1)
def GI (G : Nat → Nat) : Prop := (∀ i j, i < 10 → j < 10 → G (20 + i) = G (20 + j) → i = j) ∧ (∀ i j, i < 8 → j < 8 → G (30 + i) = G (30 + j) → i = j)
def OK (S : HS) (w : Nat → Nat) (A : Nat → List Nat) (K : Nat → List Kn) : Prop := ∀ e, e < 8 → Al (fun a κ => w a = e + 1 ∧ KnAt S a κ) (A e) (K e)
def OS (S : HS) (w : Nat → Nat) (A : List Nat) (s : List Sta) : Prop := Al (fun a s => w a = 1 ∧ StAt S w a s) A s
def OP (S : HS) (w : Nat → Nat) (A : List Nat) (f : List (List Nat × Nat)) : Prop := Al (fun a f => w a = 1 ∧ PkAt S w a f) A f
def RepC (S : HS) (g : Nat) (G w : Nat → Nat) (A : Nat → List Nat) (T : TS) : Prop := CF S g G (tN T) ∧ CE S G ∧ CW S G (tW T) ∧ CQ S G (tQ T) ∧ CC S G (tC T) ∧ CT S G w (tT T) ∧ (∀ i, i < 10 → CL S G w i (A i)) ∧ OK S w A (tK T) ∧ OS S w (A 8) (tS T) ∧ OP S w (A 9) (tF T) ∧ GI G
/-- the owners stay -/
def sam (S : HS) (w w' : Nat → Nat) : Prop := ∀ x, kd S x ≠ 0 → w x ≠ 0 → w' x = w x
theorem sam.rf {S : HS} {w : Nat → Nat} : sam S w w := fun _ _ _ => rfl
theorem Al.mono {α : Type} {P Q : Nat → α → Prop} {A : List Nat} {X : List α} (h : Al P A X) (hq : ∀ (i a : Nat) (x : α), A[i]? = some a → X[i]? = some x → P a x → Q a x) : Al Q A X := ⟨h.1, fun i a x ha hx => hq i a x ha hx (h.2 i a x ha hx)⟩
theorem Al.at {α : Type} {P : Nat → α → Prop} {A : List Nat} {X : List α} (h : Al P A X) {i : Nat} {x : α} (hx : X[i]? = some x) : ∃ a, A[i]? = some a ∧ P a x := by
  have hl := (List.getElem?_eq_some_iff.mp hx).1
  obtain ⟨a, ha⟩ := get_lt (l := A) (i := i) (by rw [h.1]; exact hl)
  exact ⟨a, ha, h.2 i a x ha hx⟩
theorem Al.of {α : Type} {P : Nat → α → Prop} {A : List Nat} {X : List α} (h : Al P A X) {i a : Nat} (ha : A[i]? = some a) : ∃ x, X[i]? = some x ∧ P a x := by
  have hl := (List.getElem?_eq_some_iff.mp ha).1
  obtain ⟨x, hx⟩ := get_lt (l := X) (i := i) (by rw [← h.1]; exact hl)
  exact ⟨x, hx, h.2 i a x ha hx⟩
theorem nod_inj {A : List Nat} (h : A.Nodup) {i j : Nat} (hi : i < A.length) (hj : j < A.length) (e : A[i] = A[j]) : i = j := by
  have h' := List.pairwise_iff_getElem.mp h
  rcases Nat.lt_trichotomy i j with q | q | q
  · exact absurd e (h' i j hi hj q)
  · exact q
  · exact absurd e.symm (h' j i hj hi q)
theorem Al.set {α : Type} {P : Nat → α → Prop} {A : List Nat} {X : List α} (h : Al P A X) (hn : A.Nodup) {i a : Nat} {y : α} (ha : A[i]? = some a) {Q : Nat → α → Prop} (hq : ∀ b x, b ≠ a → P b x → Q b x) (hy : Q a y) : Al Q A (X.set i y) := by
  refine ⟨by rw [List.length_set]; exact h.1, fun j b x hb hx => ?_⟩
  have hai := (List.getElem?_eq_some_iff.mp ha)
  have hbj := (List.getElem?_eq_some_iff.mp hb)
  by_cases e : i = j
  · subst e
    rw [ha] at hb; cases hb
    rw [List.getElem?_set_self (by rw [← h.1]; exact hai.1)] at hx
    cases hx; exact hy
  · rw [List.getElem?_set_ne e] at hx
    refine hq b x (fun q => e ?_) (h.2 j b x hb hx)
    have : A[i]'hai.1 = A[j]'hbj.1 := by rw [hai.2, hbj.2, q]
    exact nod_inj hn hai.1 hbj.1 this
theorem Al.app {α : Type} {P : Nat → α → Prop} {A : List Nat} {X : List α} (h : Al P A X) {a : Nat} {y : α} (hy : P a y) : Al P (A ++ [a]) (X ++ [y]) := by
  refine ⟨by simp [h.1], fun j b x hb hx => ?_⟩
  by_cases e : j < A.length
  · rw [List.getElem?_append_left e] at hb
    rw [List.getElem?_append_left (by rw [← h.1]; exact e)] at hx
    exact h.2 j b x hb hx
  · rw [List.getElem?_append_right (by omega)] at hb
    rw [List.getElem?_append_right (by rw [← h.1]; omega)] at hx
    have h0 : j - A.length = 0 := by
      have := (List.getElem?_eq_some_iff.mp hb).1
      simp at this; omega
    rw [h0] at hb
    rw [← h.1, h0] at hx
    cases hb; cases hx; exact hy
theorem Al.era {α : Type} {P : Nat → α → Prop} {A : List Nat} {X : List α} (h : Al P A X) (i : Nat) : Al P (A.eraseIdx i) (X.eraseIdx i) := by
  refine ⟨by rw [List.length_eraseIdx, List.length_eraseIdx, h.1], fun j b x hb hx => ?_⟩
  rw [List.getElem?_eraseIdx] at hb hx
  by_cases c : j < i
  · rw [if_pos c] at hb hx; exact h.2 j b x hb hx
  · rw [if_neg c] at hb hx; exact h.2 (j + 1) b x hb hx
theorem Al.nil {α : Type} {P : Nat → α → Prop} : Al P [] ([] : List α) := ⟨rfl, fun i a x h => by simp at h⟩
/-! what stays, piece by piece -/
theorem KnAt.fr {S S' : HS} {a : Nat} {κ : Kn} {wi wr : Nat → Nat → Prop} {wa wq : Nat → Prop} (h : KnAt S a κ) (g : frm S S' wi wr wa wq) (h1 : ∀ f, ¬ wi f a) : KnAt S' a κ := by
  obtain ⟨a1, a2, a3, a4, a5, a6⟩ := h
  obtain ⟨b1, b2, b3, b4, b5, b6, b7, b8⟩ := g.2 a (by rw [a1]; decide)
  exact ⟨b1.trans a1, (b3 7 (h1 _)).trans a2, (b4 8).trans a3, (b3 9 (h1 _)).trans a4, (b3 10 (h1 _)).trans a5, (b3 11 (h1 _)).trans a6⟩
theorem FrAt.fr {S S' : HS} {w w' : Nat → Nat} {fa : Nat} {bs : List (List Nat)} {wi wr : Nat → Nat → Prop} {wa wq : Nat → Prop} (h : FrAt S w fa bs) (g : frm S S' wi wr wa wq) (hw : sam S w w') (h1 : ¬ wq fa) (h2 : ∀ r, kd S r = 5 → w r = 2 → ¬ wi 15 r) (h3 : ∀ r, kd S r = 5 → w r = 2 → ¬ wr 14 r) (h4 : ∀ c r, kd S c = 33 → w c = r + 1 → w r = 2 → ¬ wa c) : FrAt S' w' fa bs := by
  obtain ⟨a1, a2, a3⟩ := h
  obtain ⟨b1, b2, b3, b4, b5, b6, b7, b8⟩ := g.2 fa (by rw [a1]; decide)
  refine ⟨b1.trans a1, b2.trans a2, fun k hk => ⟨fun b hb => ?_, fun hb => ?_⟩⟩
  · obtain ⟨r, c, n, q1, q2, q3, q4⟩ := (a3 k hk).1 b hb
    have k1 := q4.1.1
    have k2 := q4.1.2.2.1
    exact ⟨r, c, n, by rw [b8 h1]; exact q1, (hw r (by rw [k1]; decide) (by omega)).trans q2, (hw c (by rw [k2]; decide) (by omega)).trans q3, q4.fr g (h2 r k1 q2) (h3 r k1 q2) (h4 c r k2 q3 q2)⟩
  · rw [b8 h1]; exact (a3 k hk).2 hb
theorem StAt.fr {S S' : HS} {w w' : Nat → Nat} {a : Nat} {s : Sta} {wi wr : Nat → Nat → Prop} {wa wq : Nat → Prop} (h : StAt S w a s) (g : frm S S' wi wr wa wq) (hw : sam S w w') (h0 : ∀ f, ¬ wi f a) (h0' : ¬ wr 18 a) (h1 : ∀ x, kd S x = 160 → w x = a + 1 → ¬ wq x) (h2 : ∀ r, kd S r = 5 → w r = 2 → ¬ wi 15 r) (h3 : ∀ r, kd S r = 5 → w r = 2 → ¬ wr 14 r) (h4 : ∀ c r, kd S c = 33 → w c = r + 1 → w r = 2 → ¬ wa c) : StAt S' w' a s := by
  obtain ⟨a1, a2, a3, a4, a5, fa, a6, a7, a8⟩ := h
  obtain ⟨b1, b2, b3, b4, b5, b6, b7, b8⟩ := g.2 a (by rw [a1]; decide)
  exact ⟨b1.trans a1, (b3 16 (h0 _)).trans a2, (b4 17).trans a3, (b3 19 (h0 _)).trans a4, (b3 20 (h0 _)).trans a5, fa, (b5 18 h0').trans a6, (hw fa (by rw [a8.1]; decide) (by omega)).trans a7, a8.fr g hw (h1 fa a8.1 a7) h2 h3 h4⟩
theorem PkAt.fr {S S' : HS} {w w' : Nat → Nat} {a : Nat} {f : List Nat × Nat} {wi wr : Nat → Nat → Prop} {wa wq : Nat → Prop} (h : PkAt S w a f) (g : frm S S' wi wr wa wq) (hw : sam S w w') (h0 : ¬ wi 13 a) (h0' : ¬ wr 12 a) (h2 : ∀ r, kd S r = 5 → w r = a + 3 → ¬ wi 15 r) (h3 : ∀ r, kd S r = 5 → w r = a + 3 → ¬ wr 14 r) (h4 : ∀ c r, kd S c = 33 → w c = r + 1 → w r = a + 3 → ¬ wa c) : PkAt S' w' a f := by
  obtain ⟨a1, a2, r, c, n, q1, q2, q3, q4⟩ := h
  obtain ⟨b1, b2, b3, b4, b5, b6, b7, b8⟩ := g.2 a (by rw [a1]; decide)
  have k1 := q4.1.1
  have k2 := q4.1.2.2.1
  exact ⟨b1.trans a1, (b3 13 h0).trans a2, r, c, n, (b5 12 h0').trans q1, (hw r (by rw [k1]; decide) (by omega)).trans q2, (hw c (by rw [k2]; decide) (by omega)).trans q3, q4.fr g (h2 r k1 q2) (h3 r k1 q2) (h4 c r k2 q3 q2)⟩
theorem Lst.fr' {S S' : HS} {L d : Nat} {A : List Nat} {wi wr : Nat → Nat → Prop} {wa wq : Nat → Prop} (h : Lst S L d A) (g : frm S S' wi wr wa wq) (h1 : ¬ wi 2 L) (h2 : ¬ wr 1 L) (h3 : kd S d = 192 → ¬ wq d) : Lst S' L d A := by
  obtain ⟨a1, a2, a3, a4, a5, a6⟩ := h
  obtain ⟨b1, b2, b3, b4, b5, b6, b7, b8⟩ := g.2 L (by rw [a1]; decide)
  refine ⟨b1.trans a1, (b5 1 h2).trans a2, (b3 2 h1).trans a3, a4, fun a ha => ?_, ?_⟩
  · have := a5 a ha
    rw [(g.2 a (by omega)).1]; exact this
  · rcases a6 with ⟨c1, c2, c3, c0, c4⟩ | ⟨c1, c2, c3, c4⟩
    · obtain ⟨e1, e2, e3, e4, e5, e6, e7, e8⟩ := g.2 d (by rw [c1]; decide)
      exact Or.inl ⟨e1.trans c1, by rw [e2]; exact c2, by rw [e2]; exact c3, by rw [e2]; exact c0, fun i a hi => by rw [e8 (h3 c1)]; exact c4 i a hi⟩
    · obtain ⟨e1, e2, -⟩ := g.2 d (by rw [c1]; decide)
      exact Or.inr ⟨e1.trans c1, by rw [g.1]; exact c2, e2.trans c3, c4⟩
theorem Lst.kd {S : HS} {L d : Nat} {A : List Nat} (h : Lst S L d A) : kd S d = 192 ∨ kd S d = 224 := by
  rcases h.2.2.2.2.2 with ⟨c1, -⟩ | ⟨c1, -⟩
  · exact Or.inl c1
  · exact Or.inr c1
theorem CL.fr {S S' : HS} {G w w' : Nat → Nat} {i : Nat} {A : List Nat} {wi wr : Nat → Nat → Prop} {wa wq : Nat → Prop} (h : CL S G w i A) (g : frm S S' wi wr wa wq) (hw : sam S w w') (h1 : kd S (G (20 + i)) = 1 → ¬ wi 2 (G (20 + i))) (h2 : kd S (G (20 + i)) = 1 → ¬ wr 1 (G (20 + i))) (h3 : ∀ d, kd S d = 192 → w d = i + 1 → ¬ wq d) : CL S' G w' i A := by
  obtain ⟨n, d, hL, hd⟩ := h
  refine ⟨n, d, hL.fr' g (h1 hL.1) (h2 hL.1) (fun q => h3 d q (hd q)), fun q => ?_⟩
  have hk : kd S d ≠ 0 := by rcases hL.kd with z | z <;> omega
  rw [(g.2 d hk).1] at q
  have := hd q
  rw [hw d hk (by omega)]; exact this
theorem CF.fr {S S' : HS} {g0 n : Nat} {G : Nat → Nat} {wi wr : Nat → Nat → Prop} {wa wq : Nat → Prop} (h : CF S g0 G n) (g : frm S S' wi wr wa wq) (h1 : kd S g0 = 7 → ¬ wi 26 g0) (h2 : ∀ f, kd S g0 = 7 → ¬ wr f g0) : CF S' g0 G n := by
  obtain ⟨a1, a2, a3, a4, a5, a6, a7⟩ := h
  obtain ⟨b1, b2, b3, b4, b5, b6, b7, b8⟩ := g.2 g0 (by rw [a1]; decide)
  exact ⟨b1.trans a1, (b5 _ (h2 _ a1)).trans a2, (b5 _ (h2 _ a1)).trans a3, (b5 _ (h2 _ a1)).trans a4, (b5 _ (h2 _ a1)).trans a5, (b5 _ (h2 _ a1)).trans a6, (b3 _ (h1 a1)).trans a7⟩
theorem CE.fr {S S' : HS} {G : Nat → Nat} {wi wr : Nat → Nat → Prop} {wa wq : Nat → Prop} (h : CE S G) (g : frm S S' wi wr wa wq) (h1 : ∀ x, kd S x = 2 → ¬ wi 3 x) (h2 : ∀ f x, kd S x = 2 → ¬ wr f x) (h3 : ∀ x, kd S x = 128 → ¬ wq x) : CE S' G := by
  obtain ⟨⟨a1, a2⟩, a3⟩ := h
  obtain ⟨b1, b2, b3, b4, b5, b6, b7, b8⟩ := g.2 (G 0) (by rw [a1]; decide)
  refine ⟨⟨b1.trans a1, b2.trans a2⟩, fun e he => ?_⟩
  obtain ⟨c1, c2, c3, c4, c5, c6, c7⟩ := a3 e he
  obtain ⟨d1, d2, d3, d4, d5, d6, d7, d8⟩ := g.2 (G (10 + e)) (by rw [c2]; decide)
  obtain ⟨e1, e2, -⟩ := g.2 (G (30 + e)) (by rw [c6]; decide)
  exact ⟨by rw [b8 (h3 _ a1)]; exact c1, d1.trans c2, (d3 _ (h1 _ c2)).trans c3, (d5 _ (h2 _ _ c2)).trans c4, (d5 _ (h2 _ _ c2)).trans c5, e1.trans c6, e2.trans c7⟩
theorem CW.fr {S S' : HS} {G : Nat → Nat} {W : Nat → Nat → Nat} {wi wr : Nat → Nat → Prop} {wa wq : Nat → Prop} (h : CW S G W) (g : frm S S' wi wr wa wq) (h1 : ∀ x, kd S x = 35 → ¬ wa x) : CW S' G W := fun e d he hd => by
  obtain ⟨a1, a2⟩ := h e d he hd
  obtain ⟨b1, b2, b3, b4, b5, b6, b7, b8⟩ := g.2 (G (30 + e)) (by rw [a1]; decide)
  exact ⟨b1.trans a1, by rw [b6 (h1 _ a1)]; exact a2⟩
theorem CQ.fr {S S' : HS} {G : Nat → Nat} {Q : Nat → Nat} {wi wr : Nat → Nat → Prop} {wa wq : Nat → Prop} (h : CQ S G Q) (g : frm S S' wi wr wa wq) (h1 : ∀ x, kd S x = 2 → ¬ wi 6 x) : CQ S' G Q := fun e he => by
  obtain ⟨a1, a2⟩ := h e he
  obtain ⟨b1, b2, b3, b4, b5, b6, b7, b8⟩ := g.2 (G (10 + e)) (by rw [a1]; decide)
  exact ⟨b1.trans a1, (b3 _ (h1 _ a1)).trans a2⟩
theorem CC.fr {S S' : HS} {G : Nat → Nat} {C : Nat → Nat} {wi wr : Nat → Nat → Prop} {wa wq : Nat → Prop} (h : CC S G C) (g : frm S S' wi wr wa wq) (h1 : ∀ x, kd S x = 34 → ¬ wa x) : CC S' G C := by
  obtain ⟨a1, a2, a3⟩ := h
  obtain ⟨b1, b2, b3, b4, b5, b6, b7, b8⟩ := g.2 (G 3) (by rw [a1]; decide)
  exact ⟨b1.trans a1, b2.trans a2, fun k hk => by rw [b6 (h1 _ a1)]; exact a3 k hk⟩
theorem CT.fr {S S' : HS} {G w w' : Nat → Nat} {t : List Nat} {wi wr : Nat → Nat → Prop} {wa wq : Nat → Prop} (h : CT S G w t) (g : frm S S' wi wr wa wq) (hw : sam S w w') (h1 : ∀ r, kd S r = 5 → w r = 1 → ¬ wi 15 r) (h2 : ∀ r, kd S r = 5 → w r = 1 → ¬ wr 14 r) (h3 : ∀ c r, kd S c = 33 → w c = r + 1 → w r = 1 → ¬ wa c) : CT S' G w' t := by
  obtain ⟨a1, a2, a3⟩ := h
  have k1 := a3.1.1
  have k2 := a3.1.2.2.1
  exact ⟨(hw _ (by rw [k1]; decide) (by omega)).trans a1, (hw _ (by rw [k2]; decide) (by omega)).trans a2, a3.fr g (h1 _ k1 a1) (h2 _ k1 a1) (h3 _ _ k2 a2 a1)⟩
theorem OK.fr {S S' : HS} {w w' : Nat → Nat} {A : Nat → List Nat} {K : Nat → List Kn} {wi wr : Nat → Nat → Prop} {wa wq : Nat → Prop} (h : OK S w A K) (g : frm S S' wi wr wa wq) (hw : sam S w w') (h1 : ∀ f x e, kd S x = 3 → w x = e + 1 → ¬ wi f x) : OK S' w' A K := fun e he => (h e he).mono (fun i a x _ _ q => ⟨(hw a (by rw [q.2.1]; decide) (by have := q.1; omega)).trans q.1, q.2.fr g (fun f => h1 f a e q.2.1 q.1)⟩)
theorem OS.fr {S S' : HS} {w w' : Nat → Nat} {A : List Nat} {s : List Sta} {wi wr : Nat → Nat → Prop} {wa wq : Nat → Prop} (h : OS S w A s) (g : frm S S' wi wr wa wq) (hw : sam S w w') (h0 : ∀ f x, kd S x = 6 → w x = 1 → ¬ wi f x) (h0' : ∀ x, kd S x = 6 → w x = 1 → ¬ wr 18 x) (h1 : ∀ x a, kd S x = 160 → w x = a + 1 → ¬ wq x) (h2 : ∀ r, kd S r = 5 → w r = 2 → ¬ wi 15 r) (h3 : ∀ r, kd S r = 5 → w r = 2 → ¬ wr 14 r) (h4 : ∀ c r, kd S c = 33 → w c = r + 1 → w r = 2 → ¬ wa c) : OS S' w' A s := Al.mono h (fun i a x _ _ q => ⟨(hw a (by rw [q.2.1]; decide) (by have := q.1; omega)).trans q.1, q.2.fr g hw (fun f => h0 f a q.2.1 q.1) (h0' a q.2.1 q.1) (fun x => h1 x a) h2 h3 h4⟩)
theorem OP.fr {S S' : HS} {w w' : Nat → Nat} {A : List Nat} {f : List (List Nat × Nat)} {wi wr : Nat → Nat → Prop} {wa wq : Nat → Prop} (h : OP S w A f) (g : frm S S' wi wr wa wq) (hw : sam S w w') (h0 : ∀ x, kd S x = 4 → w x = 1 → ¬ wi 13 x) (h0' : ∀ x, kd S x = 4 → w x = 1 → ¬ wr 12 x) (h2 : ∀ r a, kd S r = 5 → w r = a + 3 → ¬ wi 15 r) (h3 : ∀ r a, kd S r = 5 → w r = a + 3 → ¬ wr 14 r) (h4 : ∀ c r a, kd S c = 33 → w c = r + 1 → w r = a + 3 → ¬ wa c) : OP S' w' A f := Al.mono h (fun i a x _ _ q => ⟨(hw a (by rw [q.2.1]; decide) (by have := q.1; omega)).trans q.1, q.2.fr g hw (h0 a q.2.1 q.1) (h0' a q.2.1 q.1) (fun r => h2 r a) (fun r => h3 r a) (fun c r => h4 c r a)⟩)
