/-! ===== the class: what a packet's bytes tell ===== -/
theorem sp_pair_any {post : Int32 → HS → Prop} {S : HS} {r c n : Nat} {b : List Nat} (h : RowAt S r c n b) {x : Int32} (hp : ∀ v, post v S) : wp_X3_pair post S r x :=
  ⟨h.1.1, by
    refine sp_at h (fun _ _ _ => ?_) (fun _ => ?_)
    · exact sp_at h (fun _ _ _ => hp _) (fun _ => hp _)
    · exact sp_at h (fun _ _ _ => hp _) (fun _ => hp _)⟩
theorem c_fst {post : Int32 → HS → Prop} {S : HS} {r c n : Nat} {p : List Nat} (h : RowAt S r c n p) (hb : By p) (h22 : 22 ≤ p.length) (hp : post (nI (fst p)) S) : wp_X5_frameStart post S r := by
  have hl := h.1.2.2.2.2
  have hl2 := h.2.2.1
  refine ⟨h.1.1, sp_atN h (j := 9) rfl (by omega) ⟨fun c1 => ?_, fun c1 => ?_⟩⟩
  · have n17 : ¬ gb p 9 = 17 := fun q => c1 (by rw [q]; rfl)
    refine sp_pr h hb (j := 20) (by omega) ⟨fun c2 => ?_, fun c2 => ?_⟩
    · have n2 : ¬ pr2 p 20 = 40960 := fun q => c2 (by rw [q]; rfl)
      have : fst p = 28 := by unfold fst; rw [if_neg n17, if_neg n2]
      rw [this] at hp; exact hp
    · have n2 : pr2 p 20 = 40960 := (nI_eq (b := 40960) (by have := pr2_lt hb 20; omega) (by omega)).mp c2
      have : fst p = 32 := by unfold fst; rw [if_neg n17, if_pos n2]
      rw [this] at hp; exact hp
  · have n17 : gb p 9 = 17 := (nI_eq (b := 17) (by have := hb 9; omega) (by omega)).mp c1
    have : fst p = 36 := by unfold fst; rw [if_pos n17]
    rw [this] at hp; exact hp
theorem c_fst' {post : Int32 → HS → Prop} {S : HS} {r c n : Nat} {p : List Nat} (h : RowAt S r c n p) (h20 : 20 ≤ p.length) (hp : ∀ k, 28 ≤ k → k ≤ 36 → post (nI k) S) : wp_X5_frameStart post S r :=
  ⟨h.1.1, sp_atN h (j := 9) rfl (by omega) ⟨fun _ => sp_pair_any h (fun _ => ⟨fun _ => hp 28 (by omega) (by omega), fun _ => hp 32 (by omega) (by omega)⟩), fun _ => hp 36 (by omega) (by omega)⟩⟩
theorem c_udp {post : Int32 → HS → Prop} {S : HS} {r c n : Nat} {p : List Nat} (h : RowAt S r c n p) (hb : By p) (h50 : 50 ≤ p.length) (hp : post (if okUdp p then 1 else 0) S) : wp_X5_isGoodUdp post S r := by
  have hl := h.1.2.2.2.2
  have hl2 := h.2.2.1
  have L := pr2_lt hb
  have e20 : fi S 15 r - 20 = nI (p.length - 20) := by rw [h.2.1]; exact nI_sub (b := 20) (by omega)
  have no : okUdp p = false → post 0 S := fun q => by rw [q] at hp; exact hp
  refine ⟨h.1.1, sp_pr h hb (j := 24) (by omega) ?_⟩
  rw [e20]
  refine ⟨fun c3 => no ?_, fun c3 => sp_pr h hb (j := 22) (by omega) ⟨fun c4 => no ?_, fun c4 => sp_pr h hb (j := 26) (by omega) ⟨fun c5 => no ?_, fun c5 => sp_atN h (j := 28) rfl (by omega) ⟨fun c6 => no ?_, fun c6 => ?_⟩⟩⟩⟩
  · have : ¬ pr2 p 24 = p.length - 20 := fun q => c3 (by rw [q])
    simp [okUdp, this]
  · have : ¬ pr2 p 22 = 4789 := fun q => c4 (by rw [q]; rfl)
    simp [okUdp, this]
  · have : ¬ pr2 p 26 = 0 := fun q => c5 (by rw [q]; rfl)
    simp [okUdp, this]
  · have := (and8 (hb 28) (nI_b (hb 28))).mp c6
    simp [okUdp, this]
  · have e1 : pr2 p 24 = p.length - 20 := (nI_eq (by have := L 24; omega) (by omega)).mp c3
    have e2 : pr2 p 22 = 4789 := (nI_eq (b := 4789) (by have := L 22; omega) (by omega)).mp c4
    have e3 : pr2 p 26 = 0 := (nI_eq (b := 0) (by have := L 26; omega) (by omega)).mp c5
    have e4 : gb p 28 / 8 % 2 = 1 := by
      have : ¬ gb p 28 / 8 % 2 = 0 := fun q => c6 ((and8 (hb 28) (nI_b (hb 28))).mpr q)
      omega
    have : okUdp p = true := by simp [okUdp, e1, e2, e3, e4]
    rw [this] at hp; exact hp
theorem c_gre {post : Int32 → HS → Prop} {S : HS} {r c n : Nat} {p : List Nat} (h : RowAt S r c n p) (hb : By p) (h42 : 42 ≤ p.length) (hp : post (if okGre p then 1 else 0) S) : wp_X5_isGoodGre post S r := by
  have hl := h.1.2.2.2.2
  have hl2 := h.2.2.1
  have L := pr2_lt hb
  have no : okGre p = false → post 0 S := fun q => by rw [q] at hp; exact hp
  have yes : okGre p = true → post 1 S := fun q => by rw [q] at hp; exact hp
  refine ⟨h.1.1, sp_pr h hb (j := 22) (by omega) ⟨fun c1 => sp_pr h hb (j := 20) (by omega) ⟨fun c2 => yes ?_, fun c2 => ⟨fun c3 => no ?_, fun c3 => ?_⟩⟩, fun c1 => no ?_⟩⟩
  · have e1 : pr2 p 22 = 25944 := (nI_eq (b := 25944) (by have := L 22; omega) (by omega)).mp c1
    have e2 : pr2 p 20 = 8192 := (nI_eq (b := 8192) (by have := L 20; omega) (by omega)).mp c2
    simp [okGre, e1, e2]
  · have e2 : ¬ pr2 p 20 = 8192 := fun q => c2 (by rw [q]; rfl)
    have e3 : ¬ pr2 p 20 = 40960 := fun q => c3 (by rw [q]; rfl)
    simp [okGre, e2, e3]
  · have e1 : pr2 p 22 = 25944 := (nI_eq (b := 25944) (by have := L 22; omega) (by omega)).mp c1
    have e2 : ¬ pr2 p 20 = 8192 := fun q => c2 (by rw [q]; rfl)
    have e3 : pr2 p 20 = 40960 := (nI_eq (b := 40960) (by have := L 20; omega) (by omega)).mp c3
    rw [h.2.1]
    refine sp_sum h hb (f := 20) (t := p.length) (by omega) (Nat.le_refl _) ?_
    rw [List.take_length]
    have hs16 : csum (sl (p.drop 20)) < 65536 := csum_by (hb.drop 20) (by rw [List.length_drop]; omega)
    refine ⟨fun c6 => no ?_, fun c6 => yes ?_⟩
    · have : ¬ csum (sl (p.drop 20)) = 0 := fun q => c6 (by rw [q]; rfl)
      simp [okGre, e2, this]
    · have : csum (sl (p.drop 20)) = 0 := (nI_eq (b := 0) (by omega) (by omega)).mp c6
      simp [okGre, e1, e3, this]
  · have e1 : ¬ pr2 p 22 = 25944 := fun q => c1 (by rw [q]; rfl)
    simp [okGre, e1]
theorem c_car {post : Int32 → HS → Prop} {S : HS} {r c n : Nat} {p : List Nat} (h : RowAt S r c n p) (hb : By p) (h20 : 20 ≤ p.length) (hp : post (if carries p then 1 else 0) S) : wp_X5_carriesFrame post S r := by
  have hl := h.1.2.2.2.2
  have hl2 := h.2.2.1
  have no : carries p = false → post 0 S := fun q => by rw [q] at hp; exact hp
  have yes : carries p = true → post 1 S := fun q => by rw [q] at hp; exact hp
  have g28 := fst_ge p
  refine ⟨h.1.1, ?_⟩
  by_cases h22 : 22 ≤ p.length
  · refine c_fst h hb h22 ?_
    have f36 : fst p ≤ 36 := by
      unfold fst
      split
      · omega
      · split <;> omega
    rw [h.2.1, show (nI (fst p) : Int32) + 14 = nI (fst p + 14) from nI_add _ _, nI_leI (by omega) (by omega)]
    refine ⟨fun c1 => sp_atN h (j := 9) rfl (by omega) ⟨fun c2 => ⟨fun c3 => no ?_, fun c3 => c_gre h hb (by omega) ?_⟩, fun c2 => c_udp h hb ?_ ?_⟩, fun c1 => no ?_⟩
    · have n17 : ¬ gb p 9 = 17 := fun q => c2 (by rw [q]; rfl)
      have n47 : ¬ gb p 9 = 47 := fun q => c3 (by rw [q]; rfl)
      simp [carries, n17, n47]
    · have n17 : ¬ gb p 9 = 17 := fun q => c2 (by rw [q]; rfl)
      have n47 : gb p 9 = 47 := (nI_eq (b := 47) (by have := hb 9; omega) (by omega)).mp c3
      cases hg : okGre p with
      | true => exact ⟨fun c => absurd c n01, fun _ => yes (by simp [carries, n47, hg, c1])⟩
      | false => exact ⟨fun _ => no (by simp [carries, n47, hg]), fun c => absurd rfl c⟩
    · have n17 : gb p 9 = 17 := (nI_eq (b := 17) (by have := hb 9; omega) (by omega)).mp c2
      have : fst p = 36 := by unfold fst; rw [if_pos n17]
      omega
    · have n17 : gb p 9 = 17 := (nI_eq (b := 17) (by have := hb 9; omega) (by omega)).mp c2
      cases hg : okUdp p with
      | true => exact ⟨by decide, yes (by simp [carries, n17, hg, c1])⟩
      | false => exact ⟨by decide, no (by simp [carries, n17, hg])⟩
    · simp [carries, c1]
  · refine c_fst' h h20 (fun k k1 k2 => ?_)
    rw [h.2.1, show (nI k : Int32) + 14 = nI (k + 14) from nI_add _ _, nI_leI (by omega) (by omega)]
    refine ⟨fun c1 => absurd c1 (by omega), fun _ => no ?_⟩
    have : ¬ fst p + 14 ≤ p.length := by omega
    simp [carries, this]
theorem c_fault {post : Int32 → HS → Prop} {S : HS} {r c n : Nat} {p : List Nat} {e : Nat} (h : RowAt S r c n p) (hb : By p) (he : e < 8) (hp : post (nI (fault p e)) S) : wp_X5_faultOf post S r (nI e) := by
  have hl := h.1.2.2.2.2
  have hl2 := h.2.2.1
  have L := pr2_lt hb
  have n4 : ∀ f, nb p f 4 < 2 ^ 32 := fun f => by have := nb_lt hb f 4; omega
  have no : ∀ k, fault p e = k → post (nI k) S := fun k q => by rw [q] at hp; exact hp
  refine ⟨h.1.1, ?_⟩
  rw [h.2.1]
  refine ⟨fun c1 => no 1 ?_, fun c1 => ?_⟩
  · have := (nI_ltI (a := p.length) (b := 20) (by omega) (by omega)).mp c1
    unfold fault; rw [if_pos (Or.inl this)]
  · have h20 : ¬ p.length < 20 := fun q => c1 ((nI_ltI (a := p.length) (b := 20) (by omega) (by omega)).mpr q)
    refine sp_atN h (j := 0) rfl (by omega) ⟨fun c2 => no 1 ?_, fun c2 => sp_pr h hb (j := 2) (by omega) ?_⟩
    · have : gb p 0 ≠ 69 := fun q => c2 (by rw [q]; rfl)
      unfold fault; rw [if_pos (Or.inr (Or.inl this))]
    · have e0 : gb p 0 = 69 := (nI_eq (b := 69) (by have := hb 0; omega) (by omega)).mp c2
      rw [h.2.1]
      refine ⟨fun c3 => ?_, fun c3 => no 1 ?_⟩
      · have e2 : pr2 p 2 = p.length := (nI_eq (by have := L 2; omega) (by omega)).mp c3
        have f1 : ¬ (p.length < 20 ∨ gb p 0 ≠ 69 ∨ pr2 p 2 ≠ p.length) := by
          rintro (q | q | q)
          · exact h20 q
          · exact q e0
          · exact q e2
        refine sp_sum h hb (f := 0) (t := 20) (by omega) (by omega) ?_
        rw [List.drop_zero]
        have hs16 : csum (sl (p.take 20)) < 65536 := csum_by (hb.take 20) (by rw [List.length_take]; omega)
        refine ⟨fun c4 => ?_, fun c4 => no 2 ?_⟩
        · have e4 : csum (sl (p.take 20)) = 0 := (nI_eq (b := 0) (by omega) (by omega)).mp c4
          have f2 : ¬ csum (sl (p.take 20)) ≠ 0 := fun q => q e4
          refine sp_nb h hb (f := 16) (t := 4) (by omega) (by omega) ?_
          have eae : ((167772161 : Int32) + nI e).toInt64 = lN (167772161 + e) := by
            rw [show (167772161 : Int32) + nI e = nI (167772161 + e) from nI_add 167772161 e]
            exact nI_64 (by omega)
          rw [eae, lg_cmp_eq, pk_lEQ (by have := n4 16; omega) (by omega)]
          refine ⟨fun c5 => ?_, fun c5 => no 3 ?_⟩
          · have f3 : ¬ nb p 16 4 ≠ 167772161 + e := fun q => q c5
            have go : (pr2 p 6 = 16384 ∨ pr2 p 6 = 0) → wp_X5_carriesFrame (fun r24 S23 => ((r24 = 0 → post (5 : Int32) S23) ∧ (¬ r24 = 0 → post (0 : Int32) S23))) S r := fun q6 => by
              have f4 : ¬ (pr2 p 6 ≠ 16384 ∧ pr2 p 6 ≠ 0) := by omega
              have hfa : fault p e = if carries p then 0 else 5 := by unfold fault; rw [if_neg f1, if_neg f2, if_neg f3, if_neg f4]
              refine c_car h hb (by omega) ?_
              cases hc : carries p with
              | true => exact ⟨fun c => absurd c n01, fun _ => no 0 (by rw [hfa, hc]; rfl)⟩
              | false => exact ⟨fun _ => no 5 (by rw [hfa, hc]; rfl), fun c => absurd rfl c⟩
            refine sp_pr h hb (j := 6) (by omega) ⟨fun c6 => go (Or.inl ?_), fun c6 => ⟨fun c7 => go (Or.inr ?_), fun c7 => no 4 ?_⟩⟩
            · exact (nI_eq (b := 16384) (by have := L 6; omega) (by omega)).mp c6
            · exact (nI_eq (b := 0) (by have := L 6; omega) (by omega)).mp c7
            · have z1 : ¬ pr2 p 6 = 16384 := fun q => c6 (by rw [q]; rfl)
              have z2 : ¬ pr2 p 6 = 0 := fun q => c7 (by rw [q]; rfl)
              unfold fault; rw [if_neg f1, if_neg f2, if_neg f3, if_pos ⟨z1, z2⟩]
          · unfold fault; rw [if_neg f1, if_neg f2, if_pos c5]
        · have : csum (sl (p.take 20)) ≠ 0 := fun q => c4 (by rw [q]; rfl)
          unfold fault; rw [if_neg f1, if_pos this]
      · have : pr2 p 2 ≠ p.length := fun q => c3 (by rw [q])
        unfold fault; rw [if_pos (Or.inr (Or.inr this))]
theorem c_net {post : Int32 → HS → Prop} {S : HS} {r c n : Nat} {p : List Nat} (h : RowAt S r c n p) (hb : By p) (hc : carries p = true) (hp : post (nI (netP p)) S) : wp_X5_netOf post S r := by
  have l14 := fst_le hc
  have g28 := fst_ge p
  refine c_fst h hb (by omega) ⟨h.1.1, ?_⟩
  rw [show (nI (fst p) : Int32) - 4 = nI (fst p - 4) from nI_sub (b := 4) (by omega)]
  refine sp_nb h hb (f := fst p - 4) (t := 3) (by omega) (by omega) ?_
  rw [lN_i]; exact hp
theorem c_snd {post : Int32 → HS → Prop} {S : HS} {r c n : Nat} {p : List Nat} (h : RowAt S r c n p) (hb : By p) (hc : carries p = true) (hp : post (nI (srcP p) - 167772161) S) : wp_X5_senderOf post S r := by
  have l14 := fst_le hc
  have g28 := fst_ge p
  refine ⟨h.1.1, sp_nb h hb (f := 12) (t := 4) (by omega) (by omega) ?_⟩
  rw [lN_i]; exact hp
theorem c_mto {post : Int64 → HS → Prop} {S : HS} {r c n : Nat} {p : List Nat} (h : RowAt S r c n p) (hb : By p) (hc : carries p = true) (hp : post (lN (dstM p)) S) : wp_X5_macTo post S r := by
  have l14 := fst_le hc
  have g28 := fst_ge p
  exact c_fst h hb (by omega) ⟨h.1.1, sp_nb h hb (f := fst p) (t := 6) (by omega) (by omega) hp⟩
theorem c_mfr {post : Int64 → HS → Prop} {S : HS} {r c n : Nat} {p : List Nat} (h : RowAt S r c n p) (hb : By p) (hc : carries p = true) (hp : post (lN (srcM p)) S) : wp_X5_macFrom post S r := by
  have l14 := fst_le hc
  have g28 := fst_ge p
  refine c_fst h hb (by omega) ⟨h.1.1, ?_⟩
  rw [show (nI (fst p) : Int32) + 6 = nI (fst p + 6) from nI_add _ _]
  exact sp_nb h hb (f := fst p + 6) (t := 6) (by omega) (by omega) hp
/-! a new row -/
theorem frm.ron {S S' S'' : HS} {wi wr : Nat → Nat → Prop} {wa wq : Nat → Prop} (f : frm S S' wi wr wa wq) {o c : Nat} (r : ron S' S'' o c) (ho : kd S o = 0) (hc : kd S c = 0) : frm S S'' wi wr wa wq := by
  obtain ⟨b0, b1, b2, b3, b4, b5, b6, b7, b8⟩ := r
  refine ⟨b0.trans f.1, fun a ha => ?_⟩
  obtain ⟨a1, a2, a3, a4, a5, a6, a7, a8⟩ := f.2 a ha
  have hao : a ≠ o := fun e => ha (by rw [e]; exact ho)
  have hac : a ≠ c := fun e => ha (by rw [e]; exact hc)
  exact ⟨by rw [b1]; exact a1, by rw [b2]; exact a2, fun f q => (b3 f a (Or.inr hao)).trans (a3 f q), fun f => by rw [b4]; exact a4 f, fun f q => by rw [b5]; exact a5 f q, fun q => (b6 a hac).trans (a6 q), by rw [b7]; exact a7, fun q => by rw [b8]; exact a8 q⟩
abbrev frn (S S' : HS) : Prop := frm S S' no2 no2 no1 no1
theorem sp_new {post : Unit → HS → Prop} {S : HS} {o n : Nat} (ho : kd S o = 0) (hn : n ≤ 120) (hp : ∀ c S', kd S c = 0 → o ≠ c → frn S S' → RowAt S' o c n [] → post () S') : wp_X3_init post (snw S o 5 0) o (nI n) := by
  have f0 : frn S (snw S o 5 0) := frm.wnw ho
  refine sp_rinit (va_up_self _ _ _) (by show va_up (fi S 15) o 0 o = 0; rw [va_up_self]) hn (fun c hc hr => ?_)
  refine hp c _ (f0.free hc) (fun e => ?_) ((f0.tsnw hc).tsfr (Or.inl ho)) hr
  rw [← e] at hc
  exact absurd hc (by show ¬ va_up (kd S) o 5 o = 0; rw [va_up_self]; decide)
theorem c_unw {post : Option Nat → HS → Prop} {S : HS} {r c n : Nat} {p : List Nat} (h : RowAt S r c n p) (hb : By p) (hc : carries p = true) (hp : ∀ o c' n' S', kd S o = 0 → kd S c' = 0 → o ≠ c' → frn S S' → RowAt S' o c' n' (p.drop (fst p)) → post (some o) S') : wp_X5_unwrap post S r := by
  have l14 := fst_le hc
  have g28 := fst_ge p
  have hl := h.1.2.2.2.2
  have hl2 := h.2.2.1
  refine c_fst h hb (by omega) (fun o ho => ?_)
  have hro : r ≠ o := fun e => by have := h.1.1; rw [e, ho] at this; cases this
  refine ⟨(va_up_ne _ _ hro).trans h.1.1, ?_⟩
  rw [show fi (snw S o 5 0) 15 r = fi S 15 r from va_up_ne _ _ hro, h.2.1, nI_sub (by omega)]
  refine sp_new ho (by omega) (fun c' S1 hc' hoc f1 r1 => ?_)
  have h1 : RowAt S1 r c n p := h.fr f1 id id id
  have hcc : c ≠ c' := fun e => by have := h.1.2.2.1; rw [e, hc'] at this; cases this
  refine sp_ar r1 h1 hb hro hcc (by omega) (by simp) (fun S2 ro r2 => ?_)
  rw [List.nil_append] at r2
  exact hp o c' _ S2 ho hc' hoc (f1.ron ro ho hc') r2
