/-! ===== the class's constructor ===== -/
abbrev wG (g k : Nat) : Nat → Nat → Prop := fun f a => k ≤ f ∧ a = g
theorem c_iL {S S' : HS} {g L k : Nat} (hk : k ≠ 1) (hL : kd S L = 0) (hg : kd S g = 7) (he : kd S (es S) = 224 ∧ ln S (es S) = 0) (h : S' = sfr (sfr (sfi (snw S L 1 0) 0 L 0) 1 L (some (es (snw S L 1 0)))) k g (some L)) : frm S S' (wG g 26) (wG g k) no1 no1 ∧ Lst S' L (es S') [] ∧ fr S' k g = some L ∧ kd S' g = 7 ∧ kd S' (es S') = 224 ∧ ln S' (es S') = 0 := by
  have n1 : g ≠ L := fun q => by rw [← q, hg] at hL; cases hL
  have n1' : L ≠ g := fun q => n1 q.symm
  have f : frm S S' (wG g 26) (wG g k) no1 no1 := by
    rw [h]
    exact (((frm.wnw hL).tsfi (Or.inl hL)).tsfr (Or.inl hL)).tsfr (Or.inr ⟨Nat.le_refl _, rfl⟩)
  have fe := f.2 (es S) (by rw [he.1]; decide)
  have fg := f.2 g (by rw [hg]; decide)
  have e0 : es S' = es S := f.1
  have k1 : kd S' L = 1 := by rw [h]; simp [kd_fr, kd_fi, kd_nw]
  have r1 : fr S' 1 L = some (es S) := by
    rw [h]
    simp [fr_fr, n1', es_nw]
  have i1 : fi S' 2 L = 0 := by rw [h]; simp [fi_fi, fi_fr, fi_nw]
  have a1 : fr S' k g = some L := by rw [h]; simp [fr_fr]
  have z1 : kd S' (es S') = 224 := by rw [e0, fe.1]; exact he.1
  have z2 : ln S' (es S') = 0 := by rw [e0, fe.2.1]; exact he.2
  exact ⟨f, ⟨k1, by rw [r1, e0], i1, Nat.zero_le _, fun a ha => (List.not_mem_nil ha).elim, Or.inr ⟨z1, rfl, z2, rfl⟩⟩, a1, fg.1.trans hg, z1, z2⟩
def gI (o1 o5 o11 o17 c o23 : Nat) : Nat → Nat := fun x => if x = 0 then o1 else if x = 1 then o17 else if x = 2 then c else if x = 3 then o23 else if x = 28 then o5 else o11
theorem c_init {post : Unit → HS → Prop} {S : HS} {g : Nat} (hg : kd S g = 7) (he : kd S (es S) = 224 ∧ ln S (es S) = 0) (hp : ∀ S' G, RC S' g G T0 → post () S') : wp_X6_init post S g := by
  intro o1 ho1
  have n1 : g ≠ o1 := fun q => by rw [← q, hg] at ho1; cases ho1
  obtain ⟨S1, e1⟩ : ∃ S1, S1 = sfr (snw S o1 128 8) 21 g (some o1) := ⟨_, rfl⟩
  refine ⟨by rw [kd_nw, if_neg n1]; exact hg, fun o5 ho5 => ?_⟩
  rw [← e1] at ho5 ⊢
  have f1 : frm S S1 (wG g 26) (wG g 21) no1 no1 := by rw [e1]; exact (frm.wnw ho1).tsfr (Or.inr ⟨Nat.le_refl _, rfl⟩)
  have k1 : kd S1 o1 = 128 := by rw [e1]; simp [kd_fr, kd_nw]
  have l1 : ln S1 o1 = 8 := by rw [e1]; simp [ln_fr, ln_nw]
  have a1 : fr S1 21 g = some o1 := by rw [e1]; simp [fr_fr]
  have hg1 : kd S1 g = 7 := (f1.2 g (by rw [hg]; decide)).1.trans hg
  have he1 : kd S1 (es S1) = 224 ∧ ln S1 (es S1) = 0 := by
    have := f1.2 (es S) (by rw [he.1]; decide)
    rw [f1.1, this.1, this.2.1]; exact he
  clear e1
  refine sp_linit (by rw [kd_nw, if_pos rfl]) (fun o11 ho11 => ?_)
  obtain ⟨S2, e2⟩ : ∃ S2, S2 = sfr (sfr (sfi (snw S1 o5 1 0) 0 o5 0) 1 o5 (some (es (snw S1 o5 1 0)))) 22 g (some o5) := ⟨_, rfl⟩
  rw [← e2] at ho11 ⊢
  obtain ⟨f2, L2, a2, hg2, he2⟩ := c_iL (by decide) ho5 hg1 he1 e2
  clear e2
  refine sp_linit (by rw [kd_nw, if_pos rfl]) (fun o17 ho17 => ?_)
  obtain ⟨S3, e3⟩ : ∃ S3, S3 = sfr (sfr (sfi (snw S2 o11 1 0) 0 o11 0) 1 o11 (some (es (snw S2 o11 1 0)))) 23 g (some o11) := ⟨_, rfl⟩
  rw [← e3] at ho17 ⊢
  obtain ⟨f3, L3, a3, hg3, he3⟩ := c_iL (by decide) ho11 hg2 he2 e3
  clear e3
  have n5 : o5 ≠ o11 := fun q => by have := L2.1; rw [q, ho11] at this; cases this
  rw [show (120 : Int32) = nI 120 by decide]
  refine sp_new ho17 (Nat.le_refl _) (fun c S20 hc hoc f20 r20 o23 ho23 => ?_)
  obtain ⟨S4, e4⟩ : ∃ S4, S4 = sfr S20 24 g (some o17) := ⟨_, rfl⟩
  rw [← e4] at ho23 ⊢
  have f4 : frm S3 S4 (wG g 26) (wG g 24) no1 no1 := by
    rw [e4]
    exact (f20.mono (fun _ _ q => q.elim) (fun _ _ q => q.elim) (fun _ q => q) (fun _ q => q)).tsfr (Or.inr ⟨Nat.le_refl _, rfl⟩)
  have kg20 : kd S20 g = 7 := (f20.2 g (by rw [hg3]; decide)).1.trans hg3
  have r4 : RowAt S4 o17 c 120 [] := by
    rw [e4]
    exact r20.fr (wi := wG g 26) (wr := wG g 24) (wa := no1) (wq := no1) (frm.wfr (Or.inr ⟨Nat.le_refl _, rfl⟩)) (fun q => by have := q.1; omega) (fun q => by have := q.1; omega) id
  have a4 : fr S4 24 g = some o17 := by rw [e4]; simp [fr_fr]
  clear e4
  have hg4 : kd S4 g = 7 := (f4.2 g (by rw [hg3]; decide)).1.trans hg3
  have n23 : g ≠ o23 := fun q => by rw [← q, hg4] at ho23; cases ho23
  have n23' : o23 ≠ g := fun q => n23 q.symm
  obtain ⟨S5, e5⟩ : ∃ S5, S5 = sfi (sfr (snw S4 o23 34 13) 25 g (some o23)) 26 g (4 : Int32) := ⟨_, rfl⟩
  rw [← e5]
  have f5 : frm S4 S5 (wG g 26) (wG g 25) no1 no1 := by
    rw [e5]
    exact ((frm.wnw ho23).tsfr (Or.inr ⟨Nat.le_refl _, rfl⟩)).tsfi (Or.inr ⟨Nat.le_refl _, rfl⟩)
  have a5 : fr S5 25 g = some o23 := by rw [e5]; simp [fr_fi, fr_fr]
  have a6 : fi S5 26 g = nI 4 := by rw [e5]; simp [fi_fi]; rfl
  have k5 : kd S5 o23 = 34 := by rw [e5]; simp [kd_fi, kd_fr, kd_nw]
  have l5 : ln S5 o23 = 13 := by rw [e5]; simp [ln_fi, ln_fr, ln_nw]
  have z5 : ∀ k, ai S5 o23 k = 0 := fun k => by rw [e5]; simp [ai_fi, ai_fr, ai_nw]
  clear e5
  have g3 : frm S3 S5 (wG g 26) (wG g 24) no1 no1 := f4.tr (f5.mono (fun _ _ q => q) (fun f a q => ⟨by have := q.1; omega, q.2⟩) (fun _ q => q) (fun _ q => q))
  have g2 : frm S2 S5 (wG g 26) (wG g 23) no1 no1 := f3.tr (g3.mono (fun _ _ q => q) (fun f a q => ⟨by have := q.1; omega, q.2⟩) (fun _ q => q) (fun _ q => q))
  have g1 : frm S1 S5 (wG g 26) (wG g 22) no1 no1 := f2.tr (g2.mono (fun _ _ q => q) (fun f a q => ⟨by have := q.1; omega, q.2⟩) (fun _ q => q) (fun _ q => q))
  have x1 := g1.2 g (by rw [hg1]; decide)
  have x2 := g2.2 g (by rw [hg2]; decide)
  have x3 := g3.2 g (by rw [hg3]; decide)
  have x4 := f5.2 g (by rw [hg4]; decide)
  have xo := g1.2 o1 (by rw [k1]; decide)
  have xe := g1.2 (es S1) (by rw [he1.1]; decide)
  have hes : es S5 = es S1 := g1.1
  have hes2 : es S5 = es S2 := g2.1
  have hes3 : es S5 = es S3 := g3.1
  have y1 : fr S5 21 g = some o1 := (x1.2.2.2.2.1 21 (fun q => by have := q.1; omega)).trans a1
  have y2 : fr S5 22 g = some o5 := (x2.2.2.2.2.1 22 (fun q => by have := q.1; omega)).trans a2
  have y3 : fr S5 23 g = some o11 := (x3.2.2.2.2.1 23 (fun q => by have := q.1; omega)).trans a3
  have y4 : fr S5 24 g = some o17 := (x4.2.2.2.2.1 24 (fun q => by have := q.1; omega)).trans a4
  have b2 : Lst S5 o5 (es S5) [] := by
    have := L2.fr' g2 (fun q => by have := q.1; omega) (fun q => by have := q.1; omega) (fun q => by rw [he2.1] at q; cases q)
    rw [hes2]; exact this
  have b3 : Lst S5 o11 (es S5) [] := by
    have := L3.fr' g3 (fun q => by have := q.1; omega) (fun q => by have := q.1; omega) (fun q => by rw [he3.1] at q; cases q)
    rw [hes3]; exact this
  have r5 : RowAt S5 o17 c 120 [] := r4.fr f5 (fun q => by have := q.1; omega) (fun q => by have := q.1; omega) id
  have H : RepP S5 g (gI o1 o5 o11 o17 c o23) 0 := by
    refine ⟨⟨by rw [hes, xe.1]; exact he1.1, by rw [hes, xe.2.1]; exact he1.2⟩, ⟨x1.1.trans hg1, y1, y2, y3, y4, a5, a6⟩, ⟨xo.1.trans k1, xo.2.1.trans l1⟩, fun e q => (Nat.not_lt_zero e q).elim, ⟨k5, l5, z5⟩, r5, fun i hi => ?_, fun i i' hi hi' e => ?_, fun i i' q => (Nat.not_lt_zero i q).elim⟩
    · rcases hi with hi | hi | hi
      · exact (Nat.not_lt_zero i hi).elim
      · subst hi; exact b2
      · subst hi; exact b3
    · rcases hi with hi | hi | hi
      · exact (Nat.not_lt_zero i hi).elim
      · rcases hi' with hi' | hi' | hi'
        · exact (Nat.not_lt_zero i' hi').elim
        · rw [hi, hi']
        · subst hi; subst hi'; exact (n5 e).elim
      · rcases hi' with hi' | hi' | hi'
        · exact (Nat.not_lt_zero i' hi').elim
        · subst hi; subst hi'; exact (n5 e.symm).elim
        · rw [hi, hi']
  refine ⟨9, Nat.le_refl 9, ?_⟩
  have := c_i63 hp 8 0 S5 _ rfl H
  rw [nI_0] at this
  exact this
