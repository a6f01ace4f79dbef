/-! ===== a packet goes out, in the reference ===== -/
def wfG : Nat → Bool := fun f => f == 47 || f == 50
def wjG : Nat → Bool := fun j => j == 7 || j == 14 || j == 15 || j == 16 || j == 17 || j == 18
theorem wfG50 : ∀ f, wfG f = false → wf50 f = false := fun f q => (Bool.or_eq_false_iff.mp q).2
theorem wjG18 : ∀ j, wjG j = false → wj18 j = false := fun j q => (Bool.or_eq_false_iff.mp q).2
theorem q_pc {post : Unit → HS → Prop} {S0 S : HS} {o : Nat} {R : Nat → Nat} {p : List Nat} {m : Nat} (w k : Nat) (hM : RM S o R) (g : rfm S0 S o R wf50 wj18) (hP : Pb S o R p) (hl : p.length = m) (hk : k ≤ 4) (hm : m + k ≤ 120) (hp : ∀ S', RM S' o R → rfm S0 S' o R wf50 wj18 → Pb S' o R (p ++ be w k) → (p ++ be w k).length = m + k → post () S') : wq_X7_put post R S o (nI w) (nI k) :=
  q_put hM hP hk (by omega) (fun S' M' g' P' => hp S' M' (g.tr g') P' (by rw [List.length_append, be_len, hl]))
theorem be2 {v : Nat} (h : v < 65536) : be v 2 = [v / 256, v % 256] := by
  simp only [be, Nat.pow_one, Nat.pow_zero, Nat.div_one]
  rw [Nat.mod_eq_of_lt (show v / 256 < 256 by omega)]
theorem be1 (v : Nat) : be v 1 = [v % 256] := by simp [be]
def raw0 (num fol src dst : Nat) : List Nat := [] ++ be 69 1 ++ be 0 1 ++ be 0 2 ++ be num 2 ++ be 64 1 ++ be 0 1 ++ be 64 1 ++ be fol 1 ++ be 0 2 ++ be (167772161 + src) 4 ++ be (167772161 + dst) 4
theorem raw0_len (num fol src dst : Nat) : (raw0 num fol src dst).length = 20 := by simp [raw0, be_len]
theorem headIp_len (size num fol src dst : Nat) : (headIp size num fol src dst).length = 20 := by simp [headIp, be_len]
theorem raw_set {size num fol src dst : Nat} {rest : List Nat} (h : size < 65536) (hf : fol < 256) : set2 (raw0 num fol src dst ++ rest) 2 size = headIp size num fol src dst ++ rest := by
  have e1 : be 69 1 = [69] := by decide
  have e2 : be 0 1 = [0] := by decide
  have e3 : be 0 2 = [0, 0] := by decide
  have e4 : be 64 1 = [64] := by decide
  have e5 : be fol 1 = [fol] := by rw [be1, Nat.mod_eq_of_lt hf]
  have e6 : be 16384 2 = [64, 0] := by decide
  unfold raw0 headIp
  rw [e1, e2, e3, e4, e5, e6, be2 h]
  simp [set2]
theorem mix_m (m x : Nat) : (31 : Int32) * nI m + nI x = nI ((31 * m + x) % 4294967296) := by
  rw [show (31 : Int32) * nI m = nI (31 * m) from pk_mul 31 m, nI_add]
  show Int32.ofNat _ = Int32.ofNat _
  apply Int32.toBitVec_inj.mp
  show BitVec.ofNat 32 _ = BitVec.ofNat 32 _
  apply BitVec.eq_of_toNat_eq
  simp
theorem mixB_lt (b : List Nat) : ∀ k, mixB b k < 4294967296
  | 0 => by show 0 < 4294967296; decide
  | k + 1 => Nat.mod_lt _ (by decide)
/-- the frame's bytes behind -/
theorem q_fr_loop {S0 : HS} {o : Nat} {R : Nat → Nat} {b : List Nat} {post : Unit → HS → Prop} {x1 x2 x4 : Int32} (hb : By b) (hl : b.length ≤ 54) {p0 : List Nat} {m : Nat} (hm : p0.length = m) (hm2 : m + b.length ≤ 120) (hf0 : fi S0 52 o = nI b.length) (hB0 : RvB S0 (R 19) 0 b) (hp : ∀ S, RM S o R → rfm S0 S o R wf50 wj18 → Pb S o R (p0 ++ b) → wq_X7_set (fun _ S41 => wp_X7_sum (fun r45 S44 => RM S44 o R ∧ (wq_X7_set (fun _ S46 => ((¬ x4 = (2 : Int32) → wq_X7_goes_352a post R S46 o x1 x2) ∧ (x4 = (2 : Int32) → wp_X7_sum (fun r72 S71 => RM S71 o R ∧ (wq_X7_set (fun _ S73 => wq_X7_goes_352a post R S73 o x1 x2) R S71 o (24 : Int32) r72)) S46 (R 18) (20 : Int32) (fi S46 50 o)))) R S44 o (10 : Int32) r45)) S41 (R 18) (0 : Int32) (20 : Int32)) R S o (2 : Int32) (fi S 50 o)) : ∀ (n k : Nat) (S : HS), k + n = b.length → RM S o R → rfm S0 S o R wf50 wj18 → Pb S o R (p0 ++ b.take k) → wq_X7_goes_275 (n + 1) post R S o x1 x2 x4 (nI k) := by
  intro n
  induction n with
  | zero =>
    intro k S hk hM g hP
    have hf : fi S 52 o = nI b.length := (g.1 52 rfl).trans hf0
    rw [List.take_of_length_le (by omega)] at hP
    refine ⟨fun _ => hp S hM g hP, fun c => absurd ?_ c⟩
    rw [hf]; exact (nI_leI (by omega) (by omega)).mpr (by omega)
  | succ n ih =>
    intro k S hk hM g hP
    have hf : fi S 52 o = nI b.length := (g.1 52 rfl).trans hf0
    refine ⟨fun c => ?_, fun _ => ⟨vp_in_nI (by omega) (by decide), ?_⟩⟩
    · rw [hf] at c
      exact absurd ((nI_leI (by omega) (by omega)).mp c) (by omega)
    · rw [nI_clamp (by omega), nI_1]
      have rd : ai S (R 19) k &&& 255 = nI (gb b k) := by
        rw [(g.2 19 (by decide) rfl).1]
        have := hB0 k (by omega)
        rwa [Nat.zero_add] at this
      obtain ⟨w, hw, ew⟩ := wb_of32 (ai S (R 19) k)
      rw [ew] at rd ⊢
      rw [nI_255] at rd
      have e1 : w % 256 = gb b k := (nI_eq (by omega) (by have := hb k; omega)).mp rd
      have hlt : (b.take k).length = k := by rw [List.length_take]; omega
      refine q_pc (S0 := S0) (m := m + k) w 1 hM g hP (by rw [List.length_append, hlt, hm]) (by decide) (by omega) (fun S' M' g' P' _ => ih (k + 1) S' (by omega) M' g' ?_)
      rw [be1, e1, List.append_assoc] at P'
      have e2 : b.take (k + 1) = b.take k ++ [gb b k] := by
        rw [List.take_add_one, List.getElem?_eq_getElem (by omega : k < b.length)]
        simp [gb, List.getD_eq_getElem?_getD, List.getElem?_eq_getElem (by omega : k < b.length)]
      rw [e2]
      exact P'
/-- the sums; then the packet is put in flight -/
theorem q_sums {S0 S : HS} {o : Nat} {R : Nat → Nat} {post : Unit → HS → Prop} {x1 x2 : Int32} {way num fol src dst : Nat} {rest : List Nat} (hway : way ≤ 2) (hf : fol < 256) (hM : RM S o R) (g : rfm S0 S o R wf50 wj18) (hP : Pb S o R (raw0 num fol src dst ++ rest)) (hb : By rest) (hr : 6 ≤ rest.length) (hl : rest.length ≤ 100) (hp : ∀ S' p, RM S' o R → rfm S0 S' o R wf50 wj18 → Pb S' o R p → p = (if way = 2 then set2 (ipOf (20 + rest.length) num fol src dst ++ rest) 24 (csum (sl ((ipOf (20 + rest.length) num fol src dst ++ rest).drop 20))) else ipOf (20 + rest.length) num fol src dst ++ rest) → wq_X7_goes_352a post R S' o x1 x2) : wq_X7_set (fun _ S41 => wp_X7_sum (fun r45 S44 => RM S44 o R ∧ (wq_X7_set (fun _ S46 => ((¬ nI way = (2 : Int32) → wq_X7_goes_352a post R S46 o x1 x2) ∧ (nI way = (2 : Int32) → wp_X7_sum (fun r72 S71 => RM S71 o R ∧ (wq_X7_set (fun _ S73 => wq_X7_goes_352a post R S73 o x1 x2) R S71 o (24 : Int32) r72)) S46 (R 18) (20 : Int32) (fi S46 50 o)))) R S44 o (10 : Int32) r45)) S41 (R 18) (0 : Int32) (20 : Int32)) R S o (2 : Int32) (fi S 50 o) := by
  have L0 : (raw0 num fol src dst ++ rest).length = 20 + rest.length := by rw [List.length_append, raw0_len]
  have hby0 : By (headIp (20 + rest.length) num fol src dst) := by
    unfold headIp
    exact ((((((((By.one (by decide)).app (By.one (by decide))).app (be_by _ _)).app (be_by _ _)).app (be_by _ _)).app (By.one (by decide))).app (By.one hf)).app (be_by _ _)).app (be_by _ _) |>.app (be_by _ _)
  rw [hP.1, L0]
  refine q_set (j := 2) (v := 20 + rest.length) hM hP (by omega) (by omega) (fun S1 M1 g1 P1 => ?_)
  rw [raw_set (by omega) hf] at P1
  have k18 : ∀ S', RM S' o R → kd S' (R 18) / 32 = 2 ∧ ln S' (R 18) = 120 := fun S' h => ⟨h.t 18 (by decide), (h.2 18 (by decide)).2.2⟩
  have L1 : (headIp (20 + rest.length) num fol src dst ++ rest).length = 20 + rest.length := by rw [List.length_append, headIp_len]
  have tk20 : ((headIp (20 + rest.length) num fol src dst ++ rest).take 20).drop 0 = headIp (20 + rest.length) num fol src dst := by
    rw [List.drop_zero, List.take_append_of_le_length (by rw [headIp_len]; exact Nat.le_refl _), List.take_of_length_le (by rw [headIp_len]; exact Nat.le_refl _)]
  refine q_sum (f := 0) (t := 20) (k18 S1 M1).1 (k18 S1 M1).2 P1.2.1 (hby0.app hb) P1.2.2 (by decide) (by rw [L1]; omega) ⟨M1, ?_⟩
  rw [tk20]
  have hc1 : csum (sl (headIp (20 + rest.length) num fol src dst)) < 65536 := by
    refine csum_lt ?_
    have := sl_le (headIp (20 + rest.length) num fol src dst) (fun x hx => hby0.mem hx)
    rw [headIp_len] at this
    omega
  refine q_set (j := 10) M1 P1 (by rw [L1]; omega) hc1 (fun S2 M2 g2 P2 => ?_)
  have e2 : set2 (headIp (20 + rest.length) num fol src dst ++ rest) 10 (csum (sl (headIp (20 + rest.length) num fol src dst))) = ipOf (20 + rest.length) num fol src dst ++ rest := by
    unfold ipOf set2
    rw [List.set_append_left _ _ (by rw [headIp_len]; decide), List.set_append_left _ _ (by rw [List.length_set, headIp_len]; decide)]
  rw [e2] at P2
  have G2 : rfm S0 S2 o R wf50 wj18 := (g.tr g1).tr g2
  have L2 : (ipOf (20 + rest.length) num fol src dst ++ rest).length = 20 + rest.length := by
    rw [List.length_append]; unfold ipOf; rw [set2_len, headIp_len]
  have hby2 : By (ipOf (20 + rest.length) num fol src dst ++ rest) := by
    refine By.app ?_ hb
    unfold ipOf set2
    exact (hby0.set (by omega)).set (by omega)
  refine ⟨fun c => ?_, fun c => ?_⟩
  · have hw : ¬ way = 2 := fun q => c (by rw [q]; rfl)
    exact hp S2 _ M2 G2 P2 (by rw [if_neg hw])
  · have hw : way = 2 := (nI_eq (b := 2) (by omega) (by decide)).mp c
    have e50 : fi S2 50 o = nI (20 + rest.length) := by rw [P2.1, L2]
    rw [e50]
    have tk : ((ipOf (20 + rest.length) num fol src dst ++ rest).take (20 + rest.length)).drop 20 = (ipOf (20 + rest.length) num fol src dst ++ rest).drop 20 := by rw [List.take_of_length_le (by rw [L2]; exact Nat.le_refl _)]
    refine q_sum (f := 20) (t := 20 + rest.length) (k18 S2 M2).1 (k18 S2 M2).2 P2.2.1 hby2 P2.2.2 (by omega) (by rw [L2]; exact Nat.le_refl _) ⟨M2, ?_⟩
    rw [tk]
    have hc2 : csum (sl ((ipOf (20 + rest.length) num fol src dst ++ rest).drop 20)) < 65536 := by
      refine csum_lt ?_
      have h1 := sl_le ((ipOf (20 + rest.length) num fol src dst ++ rest).drop 20) (fun x hx => hby2.mem (List.mem_of_mem_drop hx))
      have h2 : ((ipOf (20 + rest.length) num fol src dst ++ rest).drop 20).length ≤ 100 := by rw [List.length_drop, L2]; omega
      omega
    refine q_set (j := 24) M2 P2 (by rw [L2]; omega) hc2 (fun S3 M3 g3 P3 => hp S3 _ M3 (G2.tr g3) P3 (by rw [if_pos hw]))
