/-! ===== the frame: what of the old cells may have changed ===== -/
def frm (S S' : HS) (wi wr : Nat → Nat → Prop) (wa wq : Nat → Prop) : Prop := es S' = es S ∧ ∀ a, kd S a ≠ 0 → kd S' a = kd S a ∧ ln S' a = ln S a ∧ (∀ f, ¬ wi f a → fi S' f a = fi S f a) ∧ (∀ f, fl S' f a = fl S f a) ∧ (∀ f, ¬ wr f a → fr S' f a = fr S f a) ∧ (¬ wa a → ai S' a = ai S a) ∧ al S' a = al S a ∧ (¬ wq a → ar S' a = ar S a)
theorem frm.rf {S : HS} {wi wr : Nat → Nat → Prop} {wa wq : Nat → Prop} : frm S S wi wr wa wq := ⟨rfl, fun _ _ => ⟨rfl, rfl, fun _ _ => rfl, fun _ => rfl, fun _ _ => rfl, fun _ => rfl, rfl, fun _ => rfl⟩⟩
theorem frm.tr {S S' S'' : HS} {wi wr : Nat → Nat → Prop} {wa wq : Nat → Prop} (h : frm S S' wi wr wa wq) (g : frm S' S'' wi wr wa wq) : frm S S'' wi wr wa wq := by
  refine ⟨g.1.trans h.1, fun a ha => ?_⟩
  obtain ⟨a1, a2, a3, a4, a5, a6, a7, a8⟩ := h.2 a ha
  obtain ⟨b1, b2, b3, b4, b5, b6, b7, b8⟩ := g.2 a (by rw [a1]; exact ha)
  exact ⟨b1.trans a1, b2.trans a2, fun f q => (b3 f q).trans (a3 f q), fun f => (b4 f).trans (a4 f), fun f q => (b5 f q).trans (a5 f q), fun q => (b6 q).trans (a6 q), b7.trans a7, fun q => (b8 q).trans (a8 q)⟩
theorem frm.mono {S S' : HS} {wi wr wi' wr' : Nat → Nat → Prop} {wa wq wa' wq' : Nat → Prop} (h : frm S S' wi wr wa wq) (h1 : ∀ f a, wi f a → wi' f a) (h2 : ∀ f a, wr f a → wr' f a) (h3 : ∀ a, wa a → wa' a) (h4 : ∀ a, wq a → wq' a) : frm S S' wi' wr' wa' wq' := by
  refine ⟨h.1, fun a ha => ?_⟩
  obtain ⟨a1, a2, a3, a4, a5, a6, a7, a8⟩ := h.2 a ha
  exact ⟨a1, a2, fun f q => a3 f (fun z => q (h1 f a z)), a4, fun f q => a5 f (fun z => q (h2 f a z)), fun q => a6 (fun z => q (h3 a z)), a7, fun q => a8 (fun z => q (h4 a z))⟩
theorem ron.frm {S S' : HS} {r c : Nat} (h : ron S S' r c) {wi wr : Nat → Nat → Prop} {wa wq : Nat → Prop} (h1 : wi 15 r) (h2 : wa c) : frm S S' wi wr wa wq := by
  obtain ⟨b0, b1, b2, b3, b4, b5, b6, b7, b8⟩ := h
  refine ⟨b0, fun a _ => ⟨by rw [b1], by rw [b2], fun f q => b3 f a ?_, fun f => by rw [b4], fun f _ => by rw [b5], fun q => b6 a (fun e => q (by rw [e]; exact h2)), by rw [b7], fun _ => by rw [b8]⟩⟩
  by_cases hf : f = 15
  · exact Or.inr (fun e => q (by rw [hf, e]; exact h1))
  · exact Or.inl hf
theorem frm.wnw {S : HS} {q k n : Nat} (hq : kd S q = 0) {wi wr : Nat → Nat → Prop} {wa wq : Nat → Prop} : frm S (snw S q k n) wi wr wa wq := by
  refine ⟨rfl, fun a ha => ?_⟩
  have h : a ≠ q := fun e => ha (by rw [e]; exact hq)
  exact ⟨va_up_ne _ _ h, va_up_ne _ _ h, fun _ _ => va_up_ne _ _ h, fun _ => va_up_ne _ _ h, fun _ _ => va_up_ne _ _ h, fun _ => va_up_ne _ _ h, va_up_ne _ _ h, fun _ => va_up_ne _ _ h⟩
theorem frm.wfi {S : HS} {f a : Nat} {v : Int32} {wi wr : Nat → Nat → Prop} {wa wq : Nat → Prop} (h : kd S a = 0 ∨ wi f a) : frm S (sfi S f a v) wi wr wa wq := by
  refine ⟨rfl, fun b hb => ⟨rfl, rfl, fun g q => fi_ne S f a v ?_, fun _ => rfl, fun _ _ => rfl, fun _ => rfl, rfl, fun _ => rfl⟩⟩
  by_cases hg : g = f
  · refine Or.inr (fun e => ?_)
    rcases h with h | h
    · exact hb (by rw [e]; exact h)
    · exact q (by rw [hg, e]; exact h)
  · exact Or.inl hg
theorem frm.wfr {S : HS} {f a : Nat} {v : Option Nat} {wi wr : Nat → Nat → Prop} {wa wq : Nat → Prop} (h : kd S a = 0 ∨ wr f a) : frm S (sfr S f a v) wi wr wa wq := by
  refine ⟨rfl, fun b hb => ⟨rfl, rfl, fun _ _ => rfl, fun _ => rfl, fun g q => fr_ne S f a v ?_, fun _ => rfl, rfl, fun _ => rfl⟩⟩
  by_cases hg : g = f
  · refine Or.inr (fun e => ?_)
    rcases h with h | h
    · exact hb (by rw [e]; exact h)
    · exact q (by rw [hg, e]; exact h)
  · exact Or.inl hg
theorem frm.wai {S : HS} {a i : Nat} {v : Int32} {wi wr : Nat → Nat → Prop} {wa wq : Nat → Prop} (h : wa a) : frm S (sai S a i v) wi wr wa wq :=
  ⟨rfl, fun b _ => ⟨rfl, rfl, fun _ _ => rfl, fun _ => rfl, fun _ _ => rfl, fun q => ai_ne S a i v (fun e => q (by rw [e]; exact h)), rfl, fun _ => rfl⟩⟩
theorem frm.war {S : HS} {a i : Nat} {v : Option Nat} {wi wr : Nat → Nat → Prop} {wa wq : Nat → Prop} (h : kd S a = 0 ∨ wq a) : frm S (sar S a i v) wi wr wa wq :=
  ⟨rfl, fun b hb => ⟨rfl, rfl, fun _ _ => rfl, fun _ => rfl, fun _ _ => rfl, fun _ => rfl, rfl, fun q => va_up_ne _ _ (fun e => by
    rcases h with h | h
    · exact hb (by rw [e]; exact h)
    · exact q (by rw [e]; exact h))⟩⟩
theorem frm.wcp {S : HS} {a : Nat} {g : Nat → Option Nat} {wi wr : Nat → Nat → Prop} {wa wq : Nat → Prop} (h : kd S a = 0 ∨ wq a) : frm S (scp S a g) wi wr wa wq :=
  ⟨rfl, fun b hb => ⟨rfl, rfl, fun _ _ => rfl, fun _ => rfl, fun _ _ => rfl, fun _ => rfl, rfl, fun q => va_up_ne _ _ (fun e => by
    rcases h with h | h
    · exact hb (by rw [e]; exact h)
    · exact q (by rw [e]; exact h))⟩⟩
theorem RowAt.fr {S S' : HS} {r c n : Nat} {b : List Nat} {wi wr : Nat → Nat → Prop} {wa wq : Nat → Prop} (h : RowAt S r c n b) (g : frm S S' wi wr wa wq) (h1 : ¬ wi 15 r) (h2 : ¬ wr 14 r) (h3 : ¬ wa c) : RowAt S' r c n b := by
  obtain ⟨⟨a1, a2, a3, a4, a5⟩, a6, a7, a8⟩ := h
  obtain ⟨b1, b2, b3, b4, b5, b6, b7, b8⟩ := g.2 r (by rw [a1]; decide)
  obtain ⟨c1, c2, c3, c4, c5, c6, c7, c8⟩ := g.2 c (by rw [a3]; decide)
  exact ⟨⟨b1.trans a1, (b5 14 h2).trans a2, c1.trans a3, c2.trans a4, a5⟩, (b3 15 h1).trans a6, a7, fun i hi => by rw [c6 h3]; exact a8 i hi⟩
/-! ===== a list of objects: ArrayList ===== -/
def Lst (S : HS) (L d : Nat) (A : List Nat) : Prop := kd S L = 1 ∧ fr S 1 L = some d ∧ fi S 2 L = nI A.length ∧ A.length ≤ 51 ∧ (∀ a ∈ A, 2 ≤ kd S a ∧ kd S a ≤ 8) ∧ ((kd S d = 192 ∧ A.length ≤ ln S d ∧ ln S d ≤ 80 ∧ 1 ≤ ln S d ∧ ∀ i a, A[i]? = some a → ar S d i = some a) ∨ (kd S d = 224 ∧ d = es S ∧ ln S d = 0 ∧ A = []))
abbrev wiL (L : Nat) : Nat → Nat → Prop := fun f a => a = L ∧ (f = 0 ∨ f = 2)
abbrev wrL (L : Nat) : Nat → Nat → Prop := fun f a => a = L ∧ f = 1
abbrev no1 : Nat → Prop := fun _ => False
abbrev no2 : Nat → Nat → Prop := fun _ _ => False
theorem Lst.fr {S S' : HS} {L d : Nat} {A : List Nat} {wi wr : Nat → Nat → Prop} {wa wq : Nat → Prop} (h : Lst S L d A) (g : frm S S' wi wr wa wq) (h1 : ¬ wi 2 L) (h2 : ¬ wr 1 L) (h3 : ¬ wq d) : Lst S' L d A := by
  obtain ⟨a1, a2, a3, a4, a5, a6⟩ := h
  obtain ⟨b1, b2, b3, b4, b5, b6, b7, b8⟩ := g.2 L (by rw [a1]; decide)
  refine ⟨b1.trans a1, (b5 1 h2).trans a2, (b3 2 h1).trans a3, a4, fun a ha => ?_, ?_⟩
  · have := a5 a ha
    rw [(g.2 a (by omega)).1]; exact this
  · rcases a6 with ⟨c1, c2, c3, c0, c4⟩ | ⟨c1, c2, c3, c4⟩
    · obtain ⟨e1, e2, e3, e4, e5, e6, e7, e8⟩ := g.2 d (by rw [c1]; decide)
      exact Or.inl ⟨e1.trans c1, by rw [e2]; exact c2, by rw [e2]; exact c3, by rw [e2]; exact c0, fun i a hi => by rw [e8 h3]; exact c4 i a hi⟩
    · obtain ⟨e1, e2, -⟩ := g.2 d (by rw [c1]; decide)
      exact Or.inr ⟨e1.trans c1, by rw [g.1]; exact c2, e2.trans c3, c4⟩
theorem sp_size {post : Int32 → HS → Prop} {S : HS} {L d : Nat} {A : List Nat} (h : Lst S L d A) (hp : post (nI A.length) S) : wp_Jx4a65c_size_8abf5 post S L := ⟨h.1, by rw [h.2.2.1]; exact hp⟩
theorem Lst.row {S : HS} {L d : Nat} {A : List Nat} (h : Lst S L d A) {i a : Nat} (hi : A[i]? = some a) : kd S d = 192 ∧ i < A.length ∧ A.length ≤ ln S d ∧ ln S d ≤ 80 ∧ ar S d i = some a := by
  have hl := (List.getElem?_eq_some_iff.mp hi).1
  rcases h.2.2.2.2.2 with ⟨c1, c2, c3, c0, c4⟩ | ⟨c1, c2, c3, c4⟩
  · exact ⟨c1, hl, c2, c3, c4 i a hi⟩
  · subst c4; exact absurd hl (by simp)
theorem sp_get {post : Option Nat → HS → Prop} {S : HS} {L d : Nat} {A : List Nat} (h : Lst S L d A) {i a : Nat} (hi : A[i]? = some a) (hp : post (some a) S) : wp_Jx4a65c_get_915e3 post S L (nI i) := by
  obtain ⟨c1, hl, c2, c3, c4⟩ := h.row hi
  have h51 := h.2.2.2.1
  refine ⟨h.1, fun c => absurd c (nI_pos (by omega)), fun _ => ⟨fun _ => ?_, fun c => absurd ?_ c⟩⟩
  · refine ⟨h.1, d, h.2.1, by rw [c1], vp_in_nI (by omega) (by omega), a, by rw [nI_clamp (by omega)]; exact c4, a, rfl, hp⟩
  · rw [h.2.2.1]; exact (nI_ltI (by omega) (by omega)).mpr hl
theorem sp_linit {post : Unit → HS → Prop} {S : HS} {L : Nat} (hk : kd S L = 1) (hp : post () (sfr (sfi S 0 L 0) 1 L (some (es S)))) : wp_Jx4a65c_init_da8c8 post S L := ⟨hk, hk, hp⟩
theorem sp_clr_loop {post : Unit → HS → Prop} {d c : Nat} : ∀ (k i : Nat) (S : HS), i + k = c → c < 2 ^ 31 → (0 < k → kd S d = 192 ∧ c ≤ ln S d ∧ ln S d < 2 ^ 31) → (∀ S', frm S S' no2 no2 no1 (fun a => a = d) → kd S' = kd S → ln S' = ln S → (∀ f a, fi S' f a = fi S f a) → (∀ f a, fr S' f a = fr S f a) → post () S') → wp_Jx4a65c_clear_da8c8_27 (k + 1) post S d (nI c) (nI i) := by
  intro k
  induction k with
  | zero =>
    intro i S hi hc _ hp
    exact ⟨fun _ => hp S frm.rf rfl rfl (fun _ _ => rfl) (fun _ _ => rfl), fun q => absurd ((nI_leI (by omega) (by omega)).mpr (by omega)) q⟩
  | succ k ih =>
    intro i S hi hc hk hp
    obtain ⟨h1, h2, h3⟩ := hk (by omega)
    refine ⟨fun q => absurd ((nI_leI (by omega) (by omega)).mp q) (by omega), fun _ => ⟨by rw [h1], vp_in_nI (by omega) h3, ?_⟩⟩
    rw [nI_1]
    exact ih (i + 1) _ (by omega) hc (fun _ => ⟨h1, h2, h3⟩) (fun S' g e1 e2 e3 e4 => hp S' ((frm.war (wq := fun a => a = d) (Or.inr rfl)).tr g) e1 e2 e3 e4)
theorem sp_clr {post : Unit → HS → Prop} {S : HS} {L d : Nat} {A : List Nat} (h : Lst S L d A) (hp : ∀ S', frm S S' (wiL L) (wrL L) no1 (fun a => a = d) → Lst S' L d [] → kd S' = kd S → post () S') : wp_Jx4a65c_clear_da8c8 post S L := by
  obtain ⟨a1, a2, a3, a4, a5, a6⟩ := id h
  refine ⟨a1, d, a2, A.length + 1, ?_⟩
  have e0 : fi (sfi S 0 L (fi S 0 L + 1)) 2 L = nI A.length := (fi_ne _ _ _ _ (Or.inl (by decide))).trans a3
  rw [e0]
  refine sp_clr_loop A.length 0 _ (by omega) (by omega) (fun hk => ?_) (fun S' g e1 e2 e3 e4 => ?_)
  · rcases a6 with ⟨c1, c2, c3, c0, c4⟩ | ⟨c1, c2, c3, c4⟩
    · exact ⟨c1, c2, show ln S d < 2 ^ 31 by omega⟩
    · subst c4; simp at hk
  · have g0 : frm S S' (wiL L) (wrL L) no1 (fun a => a = d) := ((frm.wfi (Or.inr ⟨rfl, Or.inl rfl⟩)).tr (frm.wfi (Or.inr ⟨rfl, Or.inr rfl⟩))).tr (g.mono (fun _ _ h => h.elim) (fun _ _ h => h.elim) (fun _ h => h) (fun _ h => h))
    refine hp S' g0 ⟨by rw [e1]; exact a1, (e4 1 L).trans a2, (e3 2 L).trans (fi_self _ _ _ _), by simp, fun a ha => absurd ha List.not_mem_nil, ?_⟩ e1
    rcases a6 with ⟨c1, c2, c3, c0, c4⟩ | ⟨c1, c2, c3, c4⟩
    · exact Or.inl ⟨by rw [e1]; exact c1, Nat.zero_le _, by rw [e2]; exact c3, by rw [e2]; exact c0, fun i a hi => by simp at hi⟩
    · exact Or.inr ⟨by rw [e1]; exact c1, c2.trans g0.1.symm, by rw [e2]; exact c3, rfl⟩
