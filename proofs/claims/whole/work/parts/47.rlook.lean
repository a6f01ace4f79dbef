/-! ===== what comes is looked at, in the reference ===== -/
theorem nI_sub {a b : Nat} (h : b ≤ a) : nI a - nI b = nI (a - b) := by
  have e : nI a = nI (a - b) + nI b := by rw [nI_add]; congr 1; omega
  rw [e, Int32.add_sub_cancel]
theorem nI_inj {a b : Nat} (ha : a < 2 ^ 32) (hb : b < 2 ^ 32) : nI a = nI b ↔ a = b := by
  refine ⟨fun h => ?_, fun h => by rw [h]⟩
  have h2 : BitVec.ofNat 32 a = BitVec.ofNat 32 b := congrArg Int32.toBitVec h
  have h3 := congrArg BitVec.toNat h2
  rw [BitVec.toNat_ofNat, BitVec.toNat_ofNat, Nat.mod_eq_of_lt ha, Nat.mod_eq_of_lt hb] at h3
  exact h3
theorem bfit0 : ∀ k, k < 256 → (Int8.ofBitVec (BitVec.ofNat 8 k)).toInt32 &&& 255 = nI k ∧ (k < 128 → (Int8.ofBitVec (BitVec.ofNat 8 k)).toInt32 = nI k) := by decide +kernel
theorem bfit {x : Int32} {g m : Nat} (hg : g < 256) (hm : m < 128) (h : x.toInt8.toInt32 &&& 255 = nI g) : x.toInt8.toInt32 = nI m ↔ g = m := by
  have hk : x.toInt8 = Int8.ofBitVec (BitVec.ofNat 8 x.toInt8.toBitVec.toNat) := by
    rw [BitVec.ofNat_toNat, BitVec.setWidth_eq]; rfl
  obtain ⟨b1, b2⟩ := bfit0 x.toInt8.toBitVec.toNat x.toInt8.toBitVec.isLt
  rw [← hk] at b1 b2
  have e : g = x.toInt8.toBitVec.toNat := (nI_inj (by omega) (by have := x.toInt8.toBitVec.isLt; omega)).mp (h.symm.trans b1)
  refine ⟨fun q => ?_, fun q => ?_⟩
  · rw [q, nI_b (by omega)] at h
    exact ((nI_inj (by omega) (by omega)).mp h).symm
  · rw [b2 (by omega), ← e, q]
/-- the packet's cells are bytes -/
def Pf (S : HS) (R : Nat → Nat) (p : List Nat) : Prop := ∀ j m, j < p.length → m < 128 → (ai S (R 18) j = nI m ↔ gb p j = m)
theorem and8 {x : Int32} {g : Nat} (hg : g < 256) (h : x &&& 255 = nI g) : x &&& 8 = 0 ↔ g / 8 % 2 = 0 := by
  have e : x &&& 8 = (x &&& 255) &&& 8 := b_ext (fun i hi => by
    rw [b_and, b_and, b_and, b_255]
    have : ∀ i, i < 32 → bt 8 i = (decide (i < 8) && bt 8 i) := by decide +kernel
    rw [this i hi]
    cases bt x i <;> cases bt 8 i <;> cases decide (i < 8) <;> rfl)
  have q : ∀ g, g < 256 → ((nI g &&& 8 = 0) ↔ g / 8 % 2 = 0) := by decide +kernel
  rw [e, h]; exact q g hg
theorem and1 {x : Int32} {g : Nat} (hg : g < 256) (h : x &&& 255 = nI g) : x &&& 1 = 1 ↔ g % 2 = 1 := by
  have e : x &&& 1 = (x &&& 255) &&& 1 := b_ext (fun i hi => by
    rw [b_and, b_and, b_and, b_255]
    have : ∀ i, i < 32 → bt 1 i = (decide (i < 8) && bt 1 i) := by decide +kernel
    rw [this i hi]
    cases bt x i <;> cases bt 1 i <;> cases decide (i < 8) <;> rfl)
  have q : ∀ g, g < 256 → ((nI g &&& 1 = 1) ↔ g % 2 = 1) := by decide +kernel
  rw [e, h]; exact q g hg
theorem nb_top {p : List Nat} (h : By p) (f : Nat) : nb p f 6 / 1099511627776 = gb p f := by
  have h0 := h f; have h1 := h (f + 1); have h2 := h (f + 2); have h3 := h (f + 3); have h4 := h (f + 4); have h5 := h (f + 5)
  simp only [nb, Nat.add_zero]
  omega
theorem grp_top {p : List Nat} (h : By p) (f : Nat) : isGrp (nb p f 6) = decide (gb p f % 2 = 1) := by unfold isGrp; rw [nb_top h]
theorem nb_drop (p : List Nat) (d j : Nat) : ∀ k, nb (p.drop d) j k = nb p (d + j) k
  | 0 => rfl
  | k + 1 => by simp only [nb]; rw [nb_drop p d j k, gb_drop, Nat.add_assoc]
theorem q_np {post : Int32 → HS → Prop} {S : HS} {o : Nat} {R : Nat → Nat} {p : List Nat} (hM : RM S o R) (hP : Pb S o R p) (hf : Pf S R p) (hb : By p) (h20 : 20 ≤ p.length) (hp : post (if carries p then nI (fst p - 4) else -1) S) : wq_X7_netPlace post R S o := by
  obtain ⟨f50, hB, h120⟩ := hP
  have hk : kd S (R 18) / 32 = 2 := hM.t 18 (by decide)
  have hl : ln S (R 18) = 120 := (hM.2 18 (by decide)).2.2
  have e20 : fi S 50 o - 20 = nI (p.length - 20) := by rw [f50]; exact nI_sub (b := 20) h20
  have i9 : vp_in (9 : Int32) 120 := vp_in_nI (n := 9) (by omega) (by decide)
  have c9 : (9 : Int32).toNatClampNeg = 9 := by decide
  have no : carries p = false → post (-1) S := fun q => by rw [q] at hp; exact hp
  have yes : ∀ k, carries p = true → fst p = k + 4 → post (nI k) S := fun k q e => by
    rw [q, e] at hp; exact hp
  have g9 : ∀ m, m < 128 → (ai S (R 18) 9 = nI m ↔ gb p 9 = m) := fun m hm => hf 9 m (by omega) hm
  unfold wq_X7_netPlace
  rw [c9, e20]
  refine ⟨i9, fun c1 => ⟨i9, fun c2 => no ?_, fun c2 => ⟨fun c3 => ?_, fun c3 => no ?_⟩⟩, fun c1 => ⟨fun c2 => ⟨fun _ => no ?_, fun c => absurd rfl c⟩, fun c2 => ?_⟩⟩
  · have n17 : ¬ gb p 9 = 17 := fun q => c1 ((g9 17 (by omega)).mpr q)
    have n47 : ¬ gb p 9 = 47 := fun q => c2 ((g9 47 (by omega)).mpr q)
    simp [carries, n17, n47]
  · have n17 : ¬ gb p 9 = 17 := fun q => c1 ((g9 17 (by omega)).mpr q)
    have n47 : gb p 9 = 47 := (g9 47 (by omega)).mp c2
    have h42 : 42 ≤ p.length := by
      have := (nI_leI (a := 22) (b := p.length - 20) (by omega) (by omega)).mp c3
      omega
    have L := pr2_lt hb
    -- behind the first two
    have tail : ∀ s : Bool, (decide (pr2 p 20 = 40960)) = s → (s = false → pr2 p 20 = 8192) → wq_X7_netPlace_145a post R S o (nI (p.length - 20)) (if s then 1 else 0) := fun s hs h8 => by
      refine q_num hB hb h120 (f := 22) (t := 2) (by omega) (by omega) ?_
      rw [nb2]
      refine ⟨fun c4 => ?_, fun c4 => no ?_⟩
      · have e22 : pr2 p 22 = 25944 := (nI_eq (b := 25944) (by have := L 22; omega) (by omega)).mp c4
        cases s with
        | false =>
          refine ⟨fun _ => yes 24 ?_ ?_, fun c => absurd rfl c⟩
          · have hs' : ¬ pr2 p 20 = 40960 := by simpa using hs
            have := h8 rfl
            simp [carries, fst, okGre, n17, n47, hs', e22, this]; omega
          · have hs' : ¬ pr2 p 20 = 40960 := by simpa using hs
            simp [fst, n17, hs']
        | true =>
          have hs' : pr2 p 20 = 40960 := by simpa using hs
          refine ⟨fun c => absurd c n01, fun _ => ⟨fun c5 => no ?_, fun c5 => ?_⟩⟩
          · have := (nI_ltI (a := p.length - 20) (b := 26) (by omega) (by omega)).mp c5
            have : ¬ 46 ≤ p.length := by omega
            simp [carries, fst, n17, hs', this]
          · have h46 : 46 ≤ p.length := by
              have : ¬ p.length - 20 < 26 := fun q => c5 ((nI_ltI (a := p.length - 20) (b := 26) (by omega) (by omega)).mpr q)
              omega
            rw [f50]
            refine q_sum hk hl hB hb h120 (f := 20) (t := p.length) h20 (Nat.le_refl _) ⟨hM, ?_⟩
            rw [List.take_length]
            have hs16 : csum (sl (p.drop 20)) < 65536 := csum_by (hb.drop 20) (by rw [List.length_drop]; omega)
            refine ⟨fun c6 => no ?_, fun c6 => yes 28 ?_ ?_⟩
            · have : ¬ csum (sl (p.drop 20)) = 0 := fun q => c6 (by rw [q]; rfl)
              simp [carries, fst, okGre, n17, n47, hs', e22, this]
            · have : csum (sl (p.drop 20)) = 0 := (nI_eq (b := 0) (by omega) (by omega)).mp c6
              simp [carries, fst, okGre, n17, n47, hs', e22, this, h46]
            · simp [fst, n17, hs']
      · have : ¬ pr2 p 22 = 25944 := fun q => c4 (by rw [q]; rfl)
        simp [carries, okGre, n17, this]
    refine q_num hB hb h120 (f := 20) (t := 2) (by omega) (by omega) ?_
    rw [nb2]
    refine ⟨fun c4 => ⟨fun c => absurd rfl c, fun _ => ?_⟩, fun c4 => ⟨fun _ => tail true ?_ (fun q => by cases q), fun c => absurd c n01⟩⟩
    · have n4 : ¬ pr2 p 20 = 40960 := fun q => c4 (by rw [q]; rfl)
      refine q_num hB hb h120 (f := 20) (t := 2) (by omega) (by omega) ?_
      rw [nb2]
      refine ⟨fun c5 => no ?_, fun c5 => tail false ?_ (fun _ => ?_)⟩
      · have n8 : ¬ pr2 p 20 = 8192 := fun q => c5 (by rw [q]; rfl)
        simp [carries, okGre, n17, n8, n4]
      · simp [n4]
      · exact (nI_eq (b := 8192) (by have := L 20; omega) (by omega)).mp c5
    · have n4 : pr2 p 20 = 40960 := (nI_eq (b := 40960) (by have := L 20; omega) (by omega)).mp c4
      simp [n4]
  · have n17 : ¬ gb p 9 = 17 := fun q => c1 ((g9 17 (by omega)).mpr q)
    have : ¬ 22 ≤ p.length - 20 := fun q => c3 ((nI_leI (a := 22) (b := p.length - 20) (by omega) (by omega)).mpr q)
    by_cases q : pr2 p 20 = 40960
    · have z : ¬ 46 ≤ p.length := by omega
      simp [carries, fst, n17, q, z]
    · have z : ¬ 42 ≤ p.length := by omega
      simp [carries, fst, n17, q, z]
  · have n17 : gb p 9 = 17 := (g9 17 (by omega)).mp c1
    have := (nI_ltI (a := p.length - 20) (b := 30) (by omega) (by omega)).mp c2
    have z : ¬ 50 ≤ p.length := by omega
    simp [carries, fst, n17, z]
  · have n17 : gb p 9 = 17 := (g9 17 (by omega)).mp c1
    have h50 : 50 ≤ p.length := by
      have : ¬ p.length - 20 < 30 := fun q => c2 ((nI_ltI (a := p.length - 20) (b := 30) (by omega) (by omega)).mpr q)
      omega
    have L := pr2_lt hb
    refine q_num hB hb h120 (f := 24) (t := 2) (by omega) (by omega) ?_
    rw [nb2]
    refine ⟨fun c3 => ⟨fun _ => no ?_, fun c => absurd rfl c⟩, fun c3 => ?_⟩
    · have : ¬ pr2 p 24 = p.length - 20 := fun q => c3 (by rw [q])
      simp [carries, okUdp, n17, this]
    · have e24 : pr2 p 24 = p.length - 20 := (nI_eq (by have := L 24; omega) (by omega)).mp c3
      refine q_num hB hb h120 (f := 22) (t := 2) (by omega) (by omega) ?_
      rw [nb2]
      refine ⟨fun c4 => ⟨fun _ => no ?_, fun c => absurd rfl c⟩, fun c4 => ?_⟩
      · have : ¬ pr2 p 22 = 4789 := fun q => c4 (by rw [q]; rfl)
        simp [carries, okUdp, n17, this]
      · have e22 : pr2 p 22 = 4789 := (nI_eq (b := 4789) (by have := L 22; omega) (by omega)).mp c4
        refine q_num hB hb h120 (f := 26) (t := 2) (by omega) (by omega) ?_
        rw [nb2]
        refine ⟨fun c5 => ⟨fun _ => no ?_, fun c => absurd rfl c⟩, fun c5 => ⟨vp_in_nI (n := 28) (by omega) (by decide), ?_⟩⟩
        · have : ¬ pr2 p 26 = 0 := fun q => c5 (by rw [q]; rfl)
          simp [carries, okUdp, n17, this]
        · have e26 : pr2 p 26 = 0 := (nI_eq (b := 0) (by have := L 26; omega) (by omega)).mp c5
          have c28 : (28 : Int32).toNatClampNeg = 28 := by decide
          rw [c28]
          have h28 : ai S (R 18) 28 &&& 255 = nI (gb p 28) := by have := hB 28 (by omega); rw [Nat.zero_add] at this; exact this
          have hb8 := and8 (hb 28) h28
          refine ⟨fun c6 => ⟨fun _ => no ?_, fun c => absurd rfl c⟩, fun c6 => ⟨fun c => absurd c n01, fun _ => yes 32 ?_ ?_⟩⟩
          · have : gb p 28 / 8 % 2 = 0 := hb8.mp c6
            simp [carries, okUdp, n17, this]
          · have : gb p 28 / 8 % 2 = 1 := by
              have : ¬ gb p 28 / 8 % 2 = 0 := fun q => c6 (hb8.mpr q)
              omega
            simp [carries, okUdp, fst, n17, this, e24, e22, e26, h50]
          · simp [fst, n17]
