/-! ===== the frame goes on over a write to a cell that is new since S ===== -/
theorem frm.tsfi {S S' : HS} {wi wr : Nat → Nat → Prop} {wa wq : Nat → Prop} (h : frm S S' wi wr wa wq) {f a : Nat} {v : Int32} (c : kd S a = 0 ∨ wi f a) : frm S (sfi S' f a v) wi wr wa wq := by
  refine ⟨h.1, fun b hb => ?_⟩
  obtain ⟨a1, a2, a3, a4, a5, a6, a7, a8⟩ := h.2 b hb
  refine ⟨a1, a2, fun g q => (fi_ne S' f a v ?_).trans (a3 g q), a4, a5, a6, a7, a8⟩
  by_cases hg : g = f
  · refine Or.inr (fun e => ?_)
    rcases c with c | c
    · exact hb (by rw [e]; exact c)
    · exact q (by rw [hg, e]; exact c)
  · exact Or.inl hg
theorem frm.tsfr {S S' : HS} {wi wr : Nat → Nat → Prop} {wa wq : Nat → Prop} (h : frm S S' wi wr wa wq) {f a : Nat} {v : Option Nat} (c : kd S a = 0 ∨ wr f a) : frm S (sfr S' f a v) wi wr wa wq := by
  refine ⟨h.1, fun b hb => ?_⟩
  obtain ⟨a1, a2, a3, a4, a5, a6, a7, a8⟩ := h.2 b hb
  refine ⟨a1, a2, a3, a4, fun g q => (fr_ne S' f a v ?_).trans (a5 g q), a6, a7, a8⟩
  by_cases hg : g = f
  · refine Or.inr (fun e => ?_)
    rcases c with c | c
    · exact hb (by rw [e]; exact c)
    · exact q (by rw [hg, e]; exact c)
  · exact Or.inl hg
theorem frm.tsfl {S S' : HS} {wi wr : Nat → Nat → Prop} {wa wq : Nat → Prop} (h : frm S S' wi wr wa wq) {f a : Nat} {v : Int64} (c : kd S a = 0) : frm S (sfl S' f a v) wi wr wa wq := by
  refine ⟨h.1, fun b hb => ?_⟩
  obtain ⟨a1, a2, a3, a4, a5, a6, a7, a8⟩ := h.2 b hb
  exact ⟨a1, a2, a3, fun g => (fl_ne S' f a v (Or.inr (fun e => hb (by rw [e]; exact c)))).trans (a4 g), a5, a6, a7, a8⟩
theorem frm.tsai {S S' : HS} {wi wr : Nat → Nat → Prop} {wa wq : Nat → Prop} (h : frm S S' wi wr wa wq) {a i : Nat} {v : Int32} (c : kd S a = 0 ∨ wa a) : frm S (sai S' a i v) wi wr wa wq := by
  refine ⟨h.1, fun b hb => ?_⟩
  obtain ⟨a1, a2, a3, a4, a5, a6, a7, a8⟩ := h.2 b hb
  exact ⟨a1, a2, a3, a4, a5, fun q => (ai_ne S' a i v (fun e => by
    rcases c with c | c
    · exact hb (by rw [e]; exact c)
    · exact q (by rw [e]; exact c))).trans (a6 q), a7, a8⟩
theorem frm.tscp {S S' : HS} {wi wr : Nat → Nat → Prop} {wa wq : Nat → Prop} (h : frm S S' wi wr wa wq) {a : Nat} {g : Nat → Option Nat} (c : kd S a = 0 ∨ wq a) : frm S (scp S' a g) wi wr wa wq := by
  refine ⟨h.1, fun b hb => ?_⟩
  obtain ⟨a1, a2, a3, a4, a5, a6, a7, a8⟩ := h.2 b hb
  exact ⟨a1, a2, a3, a4, a5, a6, a7, fun q => (va_up_ne _ _ (fun e => by
    rcases c with c | c
    · exact hb (by rw [e]; exact c)
    · exact q (by rw [e]; exact c))).trans (a8 q)⟩
theorem frm.tsar {S S' : HS} {wi wr : Nat → Nat → Prop} {wa wq : Nat → Prop} (h : frm S S' wi wr wa wq) {a i : Nat} {v : Option Nat} (c : kd S a = 0 ∨ wq a) : frm S (sar S' a i v) wi wr wa wq := frm.tscp (g := va_up (ar S' a) i v) h c
theorem frm.tsnw {S S' : HS} {wi wr : Nat → Nat → Prop} {wa wq : Nat → Prop} (h : frm S S' wi wr wa wq) {q k n : Nat} (hq : kd S' q = 0) : frm S (snw S' q k n) wi wr wa wq := by
  refine ⟨h.1, fun b hb => ?_⟩
  obtain ⟨a1, a2, a3, a4, a5, a6, a7, a8⟩ := h.2 b hb
  have e : b ≠ q := fun e => hb (by rw [← a1, e]; exact hq)
  exact ⟨(va_up_ne _ _ e).trans a1, (va_up_ne _ _ e).trans a2, fun g z => (va_up_ne _ _ e).trans (a3 g z), fun g => (va_up_ne _ _ e).trans (a4 g), fun g z => (va_up_ne _ _ e).trans (a5 g z), fun z => (va_up_ne _ _ e).trans (a6 z), (va_up_ne _ _ e).trans a7, fun z => (va_up_ne _ _ e).trans (a8 z)⟩
/-- a cell that is free behind is free before -/
theorem frm.free {S S' : HS} {wi wr : Nat → Nat → Prop} {wa wq : Nat → Prop} (h : frm S S' wi wr wa wq) {q : Nat} (hq : kd S' q = 0) : kd S q = 0 := by
  by_cases e : kd S q = 0
  · exact e
  · rw [(h.2 q e).1] at hq; exact hq
/-- the last step of add -/
theorem add_end {S S3 : HS} {L d q x : Nat} {A : List Nat} (h : Lst S L d A) (h50 : A.length ≤ 50) (hx : 2 ≤ kd S x ∧ kd S x ≤ 8) (g : frm S S3 (wiL L) (wrL L) no1 (fun a => a = d)) (h2 : fr S3 1 L = some q) (h3 : kd S3 q = 192) (h4 : A.length < ln S3 q) (h5 : ln S3 q ≤ 80) (h6 : ∀ i a, A[i]? = some a → ar S3 q i = some a) (hq : q = d ∨ kd S q = 0) :
    frm S (sfi (sar S3 q A.length (some x)) 2 L (nI A.length + 1)) (wiL L) (wrL L) no1 (fun a => a = d) ∧ Lst (sfi (sar S3 q A.length (some x)) 2 L (nI A.length + 1)) L q (A ++ [x]) := by
  have k1 : ∀ a, kd S a ≠ 0 → kd S3 a = kd S a := fun a ha => (g.2 a ha).1
  refine ⟨(g.tsar (hq.elim (fun e => Or.inr e) Or.inl)).tsfi (Or.inr ⟨rfl, Or.inr rfl⟩), ?_⟩
  refine ⟨(k1 L (by rw [h.1]; decide)).trans h.1, h2, ?_, by simp; omega, fun a ha => ?_, Or.inl ⟨h3, by simp; exact h4, h5, show 1 ≤ ln S3 q by omega, fun i a hi => ?_⟩⟩
  · rw [fi_self, nI_1]; simp
  · rcases List.mem_append.mp ha with ha | ha
    · have := h.2.2.2.2.1 a ha
      show 2 ≤ kd S3 a ∧ kd S3 a ≤ 8
      rw [k1 a (by omega)]; exact this
    · rw [List.mem_singleton.mp ha]
      show 2 ≤ kd S3 x ∧ kd S3 x ≤ 8
      rw [k1 x (by omega)]; exact hx
  · show ar (sar S3 q A.length (some x)) q i = some a
    rw [ar_self]
    by_cases e : i = A.length
    · subst e
      rw [if_pos rfl]
      rw [List.getElem?_append_right (Nat.le_refl _), Nat.sub_self] at hi
      exact hi
    · rw [if_neg e]
      have hl := (List.getElem?_eq_some_iff.mp hi).1
      simp at hl
      rw [List.getElem?_append_left (by omega)] at hi
      exact h6 i a hi
theorem sp_add {post : Int32 → HS → Prop} {S : HS} {L d x : Nat} {A : List Nat} (h : Lst S L d A) (h50 : A.length ≤ 50) (hx : 2 ≤ kd S x ∧ kd S x ≤ 8) (hp : ∀ S' q, frm S S' (wiL L) (wrL L) no1 (fun a => a = d) → Lst S' L q (A ++ [x]) → (q = d ∨ kd S q = 0) → post 1 S') : wp_Jx4a65c_add_9ea2d post S L x := by
  obtain ⟨a1, a2, a3, a4, a5, a6⟩ := id h
  have e0 : fi (sfi S 0 L (fi S 0 L + 1)) 2 L = nI A.length := (fi_ne _ _ _ _ (Or.inl (by decide))).trans a3
  have g1 : frm S (sfi S 0 L (fi S 0 L + 1)) (wiL L) (wrL L) no1 (fun a => a = d) := frm.wfi (Or.inr ⟨rfl, Or.inl rfl⟩)
  refine ⟨a1, d, a2, ?_⟩
  rw [e0]
  generalize hS1 : sfi S 0 L (fi S 0 L + 1) = S1 at g1 ⊢
  have b1 : kd S1 = kd S := by rw [← hS1]; rfl
  have b2 : ln S1 = ln S := by rw [← hS1]; rfl
  have b3 : fr S1 = fr S := by rw [← hS1]; rfl
  have b4 : ar S1 = ar S := by rw [← hS1]; rfl
  have b5 : es S1 = es S := by rw [← hS1]; rfl
  have b6 : fi S1 2 L = nI A.length := by rw [← hS1]; exact e0
  have hkd : 1 ≤ kd S1 d / 32 ∧ kd S1 d ≤ 224 := by
    rw [b1]
    rcases a6 with ⟨c1, -⟩ | ⟨c1, -⟩ <;> rw [c1] <;> decide
  have hln : ln S d ≤ 80 := by rcases a6 with ⟨-, -, c3, -⟩ | ⟨-, -, c3, -⟩ <;> omega
  refine ⟨hkd, fun c => ?_, fun c => ?_⟩
  · rcases a6 with ⟨c1, c2, c3, c0, c4⟩ | ⟨c1, c2, c3, c4⟩
    · have hlt : A.length < ln S1 d := by
        rw [b2]
        rcases Nat.lt_or_ge A.length (ln S d) with q | q
        · exact q
        · exact absurd (by rw [b2, show A.length = ln S d by omega]; rfl) c
      refine ⟨by rw [b1, c1], by rw [b1]; exact hx, vp_in_nI hlt (by rw [b2]; omega), by show kd S1 L = 1; rw [b1]; exact a1, ?_⟩
      rw [nI_clamp (by omega)]
      obtain ⟨f1, f2⟩ := add_end (q := d) h h50 hx g1 (by rw [b3]; exact a2) (by rw [b1]; exact c1) hlt (by rw [b2]; exact c3) (fun i a hi => by rw [b4]; exact c4 i a hi) (Or.inl rfl)
      exact hp _ d f1 f2 (Or.inl rfl)
    · subst c4
      exact absurd (by rw [b2, c3]; rfl) c
  · have hlen : A.length = ln S d := by
      have : nI A.length = nI (ln S d) := by rw [b2] at c; exact c
      exact (nI_eq (by omega) (by omega)).mp this
    refine ⟨by rw [b1]; exact a1, by rw [b1]; exact a1, ?_⟩
    rw [b6, nI_1]
    refine ⟨by rw [b1]; exact a1, d, by rw [b3]; exact a2, hkd, fun c5 => ?_, fun c5 => ?_⟩
    · rcases a6 with ⟨c1, c2, c3, c0, c4⟩ | ⟨c1, c2, c3, c4⟩
      · rw [b2]
        have e1 : nI (A.length + 1) - Int32.ofNat (ln S d) = nI 1 := by
          have := pk_sub (a := A.length + 1) (b := ln S d) (by omega)
          rw [show A.length + 1 - ln S d = 1 by omega] at this
          exact this
        have e2 : Int32.ofNat (ln S d) >>> ((1 : Int32) &&& 31) = nI (ln S d / 2) := by
          have k := pk_shrN (n := ln S d) (by omega) ((1 : Int32) &&& 31) 1 (by decide)
          rw [Nat.pow_one] at k
          exact k
        obtain ⟨M, hM1, hM2, hM3⟩ : ∃ M : Nat, ln S d < M ∧ M ≤ 80 ∧ Int32.ofNat (ln S d) + (if nI 1 < nI (ln S d / 2) then nI (ln S d / 2) else nI 1) = nI M := by
          by_cases z : 1 < ln S d / 2
          · exact ⟨ln S d + ln S d / 2, by omega, by omega, by rw [if_pos (nI_lt z (by omega))]; exact nI_add _ _⟩
          · exact ⟨ln S d + 1, by omega, by omega, by rw [if_neg (nI_nlt (by omega) (by decide))]; exact nI_add _ _⟩
        unfold wp_Jx4a65c_grow_92f84_20a wp_J8_newLength_cabcc
        rw [e1, e2, hM3]
        refine ⟨fun c6 => absurd c6 (nI_nle (by omega) (by omega)), fun _ => ⟨fun c6 => absurd c6 (show ¬ nI 2147483639 < nI M from nI_nlt (by omega) (by decide)), fun _ => ⟨by rw [b1]; exact a1, d, by rw [b3]; exact a2, by rw [b1, c1], fun mi => ⟨fun z => absurd rfl z, fun _ => ⟨⟨nI_pos (by omega), by rw [nI_clamp (by omega)]; exact hM2⟩, fun q hq => ?_⟩⟩⟩⟩⟩
        rw [nI_clamp (by omega)]
        have hqS : kd S q = 0 := by rw [← b1]; exact hq
        have hdq : d ≠ q := fun z => by rw [z, hqS] at c1; cases c1
        have n1 : kd (snw S1 q 192 M) d = 192 := (va_up_ne _ _ hdq).trans (by rw [b1]; exact c1)
        have n2 : ln (snw S1 q 192 M) d = ln S d := (va_up_ne _ _ hdq).trans (by rw [b2])
        have n3 : ln (snw S1 q 192 M) q = M := va_up_self _ _ _
        have n4 : ar (snw S1 q 192 M) d = ar S d := (va_up_ne _ _ hdq).trans (by rw [b4])
        have n5 : kd (snw S1 q 192 M) q = 192 := va_up_self _ _ _
        have emin : (if nI M < Int32.ofNat (ln S d) then nI M else Int32.ofNat (ln S d)) = nI (ln S d) := if_neg (nI_nlt (by omega) (by omega))
        rw [n1, n2, n3, n4, emin, nI_clamp (by omega)]
        have z0 : (0 : Int32).toNatClampNeg = 0 := by decide
        rw [z0]
        refine ⟨by decide, by decide, ⟨by decide, by decide, nI_pos (by omega), by omega, by omega, fun i hi y hy => ?_⟩, ?_⟩
        · have hil : i < A.length := by omega
          have h8 := c4 i A[i] (List.getElem?_eq_getElem hil)
          rw [Nat.zero_add, h8] at hy
          cases hy
          have h9 := a5 _ (List.getElem_mem hil)
          have hyq : A[i] ≠ q := fun z => by rw [z, hqS] at h9; omega
          rw [show kd (snw S1 q 192 M) A[i] = kd S A[i] from (va_up_ne _ _ hyq).trans (by rw [b1])]
          exact h9
        · refine ⟨q, rfl, q, rfl, q, rfl, ?_⟩
          have gq : frm S (sfr (scp (snw S1 q 192 M) q (va_cpy (ar S d) (ar (snw S1 q 192 M) q) 0 0 (ln S d))) 1 L (some q)) (wiL L) (wrL L) no1 (fun a => a = d) := ((g1.tsnw hq).tscp (Or.inl hqS)).tsfr (Or.inr ⟨rfl, rfl⟩)
          have kx : kd (snw S1 q 192 M) x = kd S x := (va_up_ne _ _ (fun z => by rw [z, hqS] at hx; omega)).trans (by rw [b1])
          refine ⟨by show kd (snw S1 q 192 M) q / 32 = 6; rw [n5], by show 2 ≤ kd (snw S1 q 192 M) x ∧ kd (snw S1 q 192 M) x ≤ 8; rw [kx]; exact hx, ?_, ?_⟩
          · exact vp_in_nI (show A.length < ln (snw S1 q 192 M) q by rw [n3]; omega) (show ln (snw S1 q 192 M) q < 2 ^ 31 by rw [n3]; omega)
          · rw [nI_clamp (by omega)]
            obtain ⟨f1, f2⟩ := add_end (q := q) h h50 hx gq (fr_self _ _ _ _) n5 (show A.length < ln (snw S1 q 192 M) q by rw [n3]; omega) (show ln (snw S1 q 192 M) q ≤ 80 by rw [n3]; exact hM2) (fun i a hi => by
              have hil := (List.getElem?_eq_some_iff.mp hi).1
              show ar (scp (snw S1 q 192 M) q _) q i = some a
              rw [ar_scp, pk_cpy_in (Nat.zero_le _) (by omega), Nat.zero_add, Nat.sub_zero]
              exact c4 i a hi) (Or.inr hqS)
            rw [nI_1] at f1 f2
            exact hp _ q f1 f2 (Or.inr hqS)
      · exact absurd c5 (by rw [b2, c3]; decide)
    · rcases a6 with ⟨c1, c2, c3, c0, c4⟩ | ⟨c1, c2, c3, c4⟩
      · exact absurd (show nI 0 < nI (ln S1 d) from nI_lt (by rw [b2]; omega) (by rw [b2]; omega)) c5
      · subst c4
        refine ⟨d, by rw [b3]; exact a2, fun _ => ?_, fun z => absurd (by rw [b5, c2]) z⟩
        have em : (if (10 : Int32) < nI (([] : List Nat).length + 1) then nI (([] : List Nat).length + 1) else (10 : Int32)) = nI 10 := by decide
        rw [em]
        refine ⟨⟨by decide, by decide⟩, fun q hq => ?_⟩
        rw [nI_clamp (by decide)]
        have hqS : kd S q = 0 := by rw [← b1]; exact hq
        have n3 : ln (snw S1 q 192 10) q = 10 := va_up_self _ _ _
        have n5 : kd (snw S1 q 192 10) q = 192 := va_up_self _ _ _
        have kx : kd (snw S1 q 192 10) x = kd S x := (va_up_ne _ _ (fun z => by rw [z, hqS] at hx; omega)).trans (by rw [b1])
        refine ⟨q, rfl, q, rfl, by show kd (snw S1 q 192 10) q / 32 = 6; rw [n5], by show 2 ≤ kd (snw S1 q 192 10) x ∧ kd (snw S1 q 192 10) x ≤ 8; rw [kx]; exact hx, ?_, ?_⟩
        · exact vp_in_nI (show ([] : List Nat).length < ln (snw S1 q 192 10) q by rw [n3]; decide) (show ln (snw S1 q 192 10) q < 2 ^ 31 by rw [n3]; decide)
        · rw [nI_clamp (by decide)]
          obtain ⟨f1, f2⟩ := add_end (q := q) (S3 := sfr (snw S1 q 192 10) 1 L (some q)) h h50 hx ((g1.tsnw hq).tsfr (Or.inr ⟨rfl, rfl⟩)) (fr_self _ _ _ _) n5 (show ([] : List Nat).length < ln (snw S1 q 192 10) q by rw [n3]; decide) (show ln (snw S1 q 192 10) q ≤ 80 by rw [n3]; decide) (fun i a hi => by simp at hi) (Or.inr hqS)
          exact hp _ q f1 f2 (Or.inr hqS)
