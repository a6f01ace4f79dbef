/-! ===== the class: a frame, a packet is made ===== -/
theorem c_an {post : Unit → HS → Prop} {S0 S : HS} {o c n : Nat} {p : List Nat} {m : Nat} {x : Int64} (w k : Nat) (g : ron S0 S o c) (hR : RowAt S o c n p) (hl : p.length = m) (hx : x = lN w) (hw : w < 2 ^ 64) (hk : k ≤ 8) (hm : m + k ≤ n) (hp : ∀ S', ron S0 S' o c → RowAt S' o c n (p ++ be w k) → (p ++ be w k).length = m + k → post () S') : wp_X3_appendNumber post S o x (nI k) := by
  rw [hx]
  exact sp_an hR hw hk (by omega) (fun S' r R => hp S' (g.tr r) R (by rw [List.length_append, be_len, hl]))
theorem c_ap {post : Unit → HS → Prop} {S0 S : HS} {o c n : Nat} {p : List Nat} {m : Nat} {x : Int32} (y : Nat) (g : ron S0 S o c) (hR : RowAt S o c n p) (hl : p.length = m) (hx : x &&& 255 = nI y) (hm : m + 1 ≤ n) (hp : ∀ S', ron S0 S' o c → RowAt S' o c n (p ++ [y]) → (p ++ [y]).length = m + 1 → post () S') : wp_X3_append post S o x :=
  sp_append hR (by omega) hx (fun S' r R => hp S' (g.tr r) R (by rw [List.length_append, hl]; rfl))
theorem c_frm {post : Option Nat → HS → Prop} {S : HS} {r c n : Nat} {t : List Nat} {dst src ty : Nat} (h : RowAt S r c n t) (hb : By t) (h40 : t.length ≤ 40) (hd : dst < 281474976710656) (hs : src < 281474976710656) (hty : ty < 65536) (hp : ∀ o c' n' S', kd S o = 0 → kd S c' = 0 → o ≠ c' → frn S S' → RowAt S' o c' n' (frmOf dst src ty t) → post (some o) S') : wp_X5_frameOf post S (lN dst) (lN src) (nI ty) r := by
  intro o ho
  have hro : r ≠ o := fun e => by have := h.1.1; rw [e, ho] at this; cases this
  refine ⟨(va_up_ne _ _ hro).trans h.1.1, ?_⟩
  rw [show fi (snw S o 5 0) 15 r = fi S 15 r from va_up_ne _ _ hro, h.2.1, show (14 : Int32) + nI t.length = nI (14 + t.length) from nI_add 14 _]
  refine sp_new ho (by omega) (fun c' S1 hc' hoc f1 r1 => ?_)
  have h1 : RowAt S1 r c n t := h.fr f1 id id id
  have hcc : c ≠ c' := fun e => by have := h.1.2.2.1; rw [e, hc'] at this; cases this
  refine c_an dst 6 (S0 := S1) (m := 0) ron.rf r1 rfl rfl (by omega) (by omega) (by omega) (fun S2 g2 r2 l2 => ?_)
  refine c_an src 6 g2 r2 l2 rfl (by omega) (by omega) (by omega) (fun S3 g3 r3 l3 => ?_)
  refine c_an ty 2 g3 r3 l3 (nI_64 (by omega)) (by omega) (by omega) (by omega) (fun S4 g4 r4 l4 => ?_)
  refine sp_ar r4 (h1.keep g4 hro hcc) hb hro hcc (f := 0) (by omega) (by omega) (fun S5 ro r5 => ?_)
  rw [List.drop_zero, List.nil_append] at r5
  exact hp o c' _ S5 ho hc' hoc (f1.ron (g4.tr ro) ho hc') r5
theorem num16 (m : Nat) : ∃ W, W < 2 ^ 64 ∧ (nI m).toInt64 = lN W ∧ be W 2 = be m 2 := by
  refine ⟨(nI m).toInt64.toBitVec.toNat, (nI m).toInt64.toBitVec.isLt, wb_inj (by rw [wb_tb]; simp), ?_⟩
  have e : (nI m).toInt64.toBitVec.toNat % 65536 = m % 65536 := by
    rw [Int32.toBitVec_toInt64, BitVec.toNat_signExtend, BitVec.toNat_setWidth]
    have e2 : (nI m).toBitVec.toNat = m % 4294967296 := by
      show (BitVec.ofNat 32 m).toNat = _
      rw [BitVec.toNat_ofNat]
    rw [e2]
    split <;> omega
  generalize (nI m).toInt64.toBitVec.toNat = W at *
  have z : ∀ v, be v 2 = [v / 256 % 256, v % 256] := fun v => by simp [be]
  rw [z, z]
  have h1 : W / 256 % 256 = m / 256 % 256 := by omega
  have h2 : W % 256 = m % 256 := by omega
  rw [h1, h2]
theorem c_ip {post : Unit → HS → Prop} {S : HS} {o c n size num fol e d : Nat} (hR : RowAt S o c n []) (hn : 20 ≤ n) (hsz : size < 65536) (hf : fol < 256) (he : e < 8) (hd : d < 8) (hp : ∀ S', ron S S' o c → RowAt S' o c n (ipOf size num fol e d) → post () S') : wp_X5_appendIp post S o (nI size) (nI num) (nI fol) (nI e) (nI d) := by
  obtain ⟨W, w1, w2, w3⟩ := num16 num
  have ae : ∀ e, e < 8 → ((167772161 : Int32) + nI e).toInt64 = lN (167772161 + e) := fun e he => by
    rw [show (167772161 : Int32) + nI e = nI (167772161 + e) from nI_add 167772161 e]
    exact nI_64 (by omega)
  refine ⟨hR.1.1, ?_⟩
  refine c_ap 69 (S0 := S) (m := 0) ron.rf hR rfl (by decide) (by omega) (fun S1 g1 r1 l1 => ?_)
  refine c_ap 0 g1 r1 l1 (by decide) (by omega) (fun S2 g2 r2 l2 => ?_)
  refine c_an size 2 g2 r2 l2 (nI_64 (by omega)) (by omega) (by omega) (by omega) (fun S3 g3 r3 l3 => ?_)
  refine c_an W 2 g3 r3 l3 w2 w1 (by omega) (by omega) (fun S4 g4 r4 l4 => ?_)
  refine c_an 16384 2 g4 r4 l4 rfl (by omega) (by omega) (by omega) (fun S5 g5 r5 l5 => ?_)
  refine c_ap 64 g5 r5 l5 (by decide) (by omega) (fun S6 g6 r6 l6 => ?_)
  refine c_ap fol g6 r6 l6 (nI_b hf) (by omega) (fun S7 g7 r7 l7 => ?_)
  refine c_an 0 2 g7 r7 l7 rfl (by omega) (by omega) (by omega) (fun S8 g8 r8 l8 => ?_)
  refine c_an (167772161 + e) 4 g8 r8 l8 (ae e he) (by omega) (by omega) (by omega) (fun S9 g9 r9 l9 => ?_)
  refine c_an (167772161 + d) 4 g9 r9 l9 (ae d hd) (by omega) (by omega) (by omega) (fun S10 g10 r10 l10 => ?_)
  rw [w3, List.nil_append] at r10
  have eH : [69] ++ [0] ++ be size 2 ++ be num 2 ++ be 16384 2 ++ [64] ++ [fol] ++ be 0 2 ++ be (167772161 + e) 4 ++ be (167772161 + d) 4 = headIp size num fol e d := rfl
  rw [eH] at r10
  have hlen := headIp_len size num fol e d
  refine sp_sum r10 (headIp_by hf) (f := 0) (t := 20) (by omega) (by omega) ?_
  rw [List.drop_zero, ← hlen, List.take_length]
  exact sp_putPair r10 (j := 10) (by omega) (csum_by (headIp_by hf) (by omega)) (fun S11 g11 r11 => hp S11 (g10.tr g11) r11)
theorem c_mix_loop {post : Int32 → HS → Prop} {S : HS} {r c n : Nat} {b : List Nat} (h : RowAt S r c n b) (hb : By b) (h12 : 12 ≤ b.length) (hp : post (nI (mixB b 12)) S) : ∀ (k i : Nat), i + k = 12 → wp_X5_mixOf_4 (k + 1) post S r (nI (mixB b i)) (nI i) := by
  intro k
  induction k with
  | zero =>
    intro i hi
    have : i = 12 := by omega
    subst this
    exact ⟨fun _ => hp, fun c => absurd (by decide) c⟩
  | succ k ih =>
    intro i hi
    refine ⟨fun c => absurd ((nI_leI (a := 12) (by omega) (by omega)).mp c) (by omega), fun _ => ⟨h.1.1, sp_atN h (j := i) rfl (by omega) ?_⟩⟩
    rw [mix_m, nI_1]
    exact ih (i + 1) (by omega)
theorem c_mix {post : Int32 → HS → Prop} {S : HS} {r c n : Nat} {b : List Nat} (h : RowAt S r c n b) (hb : By b) (h12 : 12 ≤ b.length) (hp : post (nI (mixB b 12)) S) : wp_X5_mixOf post S r := ⟨13, c_mix_loop h hb h12 hp 12 0 rfl⟩
theorem c_uu {post : Unit → HS → Prop} {S0 S : HS} {o c n m size net mix : Nat} {p : List Nat} (g : ron S0 S o c) (hR : RowAt S o c n p) (hl : p.length = m) (hm : m + 16 ≤ n) (hsz : size < 65536) (hnet : net < 16777216) (hmix : mix < 4294967296) (hp : ∀ S', ron S0 S' o c → RowAt S' o c n (p ++ midUdp size net mix) → post () S') : wp_X5_appendUdp post S o (nI size) (nI net) (nI mix) := by
  refine ⟨hR.1.1, ?_⟩
  rw [nI_mk mix hmix, show (49152 : Int32) + nI (mix % 16384) = nI (49152 + mix % 16384) from nI_add 49152 _]
  refine c_an (49152 + mix % 16384) 2 g hR hl (nI_64 (by omega)) (by omega) (by omega) (by omega) (fun S1 g1 r1 l1 => ?_)
  refine c_an 4789 2 g1 r1 l1 rfl (by omega) (by omega) (by omega) (fun S2 g2 r2 l2 => ?_)
  refine c_an size 2 g2 r2 l2 (nI_64 (by omega)) (by omega) (by omega) (by omega) (fun S3 g3 r3 l3 => ?_)
  refine c_an 0 2 g3 r3 l3 rfl (by omega) (by omega) (by omega) (fun S4 g4 r4 l4 => ?_)
  refine c_ap 8 g4 r4 l4 (by decide) (by omega) (fun S5 g5 r5 l5 => ?_)
  refine c_an 0 3 g5 r5 l5 rfl (by omega) (by omega) (by omega) (fun S6 g6 r6 l6 => ?_)
  refine c_an net 3 g6 r6 l6 (nI_64 (by omega)) (by omega) (by omega) (by omega) (fun S7 g7 r7 l7 => ?_)
  refine c_ap 0 g7 r7 l7 (by decide) (by omega) (fun S8 g8 r8 l8 => hp S8 g8 ?_)
  have : p ++ midUdp size net mix = p ++ be (49152 + mix % 16384) 2 ++ be 4789 2 ++ be size 2 ++ be 0 2 ++ [8] ++ be 0 3 ++ be net 3 ++ [0] := by
    unfold midUdp; simp only [List.append_assoc]
  rw [this]; exact r8
theorem c_gg {post : Unit → HS → Prop} {S0 S : HS} {o c n m net mix : Nat} {p : List Nat} (s : Bool) (g : ron S0 S o c) (hR : RowAt S o c n p) (hl : p.length = m) (hm : m + (if s then 12 else 8) ≤ n) (hnet : net < 16777216) (hp : ∀ S', ron S0 S' o c → RowAt S' o c n (p ++ (if s then midSum net mix else midGre net mix)) → post () S') : wp_X5_appendGre post S o (if s then 1 else 0) (nI net) (nI mix) := by
  cases s with
  | false =>
    have hm' : m + 8 ≤ n := hm
    refine ⟨fun _ => ⟨hR.1.1, ?_⟩, fun c => absurd rfl c⟩
    refine c_an 8192 2 g hR hl rfl (by omega) (by omega) (by omega) (fun S1 g1 r1 l1 => ⟨r1.1.1, ?_⟩)
    refine c_an 25944 2 g1 r1 l1 rfl (by omega) (by omega) (by omega) (fun S2 g2 r2 l2 => ⟨fun _ => ?_, fun c => absurd rfl c⟩)
    refine c_an net 3 g2 r2 l2 (nI_64 (by omega)) (by omega) (by omega) (by omega) (fun S3 g3 r3 l3 => ?_)
    refine c_ap (mix % 256) g3 r3 l3 (nI_255 mix) (by omega) (fun S4 g4 r4 l4 => hp S4 g4 ?_)
    have : p ++ midGre net mix = p ++ be 8192 2 ++ be 25944 2 ++ be net 3 ++ [mix % 256] := by
      unfold midGre; simp only [List.append_assoc]
    show RowAt S4 o c n (p ++ midGre net mix)
    rw [this]; exact r4
  | true =>
    have hm' : m + 12 ≤ n := hm
    refine ⟨fun c => absurd c n01, fun _ => ⟨hR.1.1, ?_⟩⟩
    refine c_an 40960 2 g hR hl rfl (by omega) (by omega) (by omega) (fun S1 g1 r1 l1 => ⟨r1.1.1, ?_⟩)
    refine c_an 25944 2 g1 r1 l1 rfl (by omega) (by omega) (by omega) (fun S2 g2 r2 l2 => ⟨fun c => absurd c n01, fun _ => ?_⟩)
    refine c_an 0 4 g2 r2 l2 rfl (by omega) (by omega) (by omega) (fun S3 g3 r3 l3 => ?_)
    refine c_an net 3 g3 r3 l3 (nI_64 (by omega)) (by omega) (by omega) (by omega) (fun S4 g4 r4 l4 => ?_)
    refine c_ap (mix % 256) g4 r4 l4 (nI_255 mix) (by omega) (fun S5 g5 r5 l5 => hp S5 g5 ?_)
    have : p ++ midSum net mix = p ++ be 40960 2 ++ be 25944 2 ++ be 0 4 ++ be net 3 ++ [mix % 256] := by
      unfold midSum; simp only [List.append_assoc]
    show RowAt S5 o c n (p ++ midSum net mix)
    rw [this]; exact r5
theorem c_111 {post : Option Nat → HS → Prop} {S0 S : HS} {r c n o c' n' way : Nat} {b p : List Nat} (hway : way ≤ 2) (g : ron S0 S o c') (hR : RowAt S o c' n' p) (h : RowAt S r c n b) (hb : By b) (hbp : By p) (hro : r ≠ o) (hcc : c ≠ c') (h26 : way = 2 → 26 ≤ p.length) (hn : p.length + b.length ≤ n') (hn' : n' ≤ 120) (hp : ∀ S', ron S0 S' o c' → RowAt S' o c' n' (if way = 2 then set2 (p ++ b) 24 (csum (sl ((p ++ b).drop 20))) else p ++ b) → post (some o) S') : wp_X5_wrap_111a post S r (nI way) o := by
  refine ⟨hR.1.1, sp_ar hR h hb hro hcc (f := 0) (by omega) (by omega) (fun S1 g1 r1 => ?_)⟩
  rw [List.drop_zero] at r1
  have hbb : By (p ++ b) := hbp.app hb
  have hlen : (p ++ b).length ≤ 120 := by rw [List.length_append]; omega
  refine ⟨fun c2 => ?_, fun c2 => ?_⟩
  · have : ¬ way = 2 := fun q => c2 (by rw [q]; rfl)
    rw [if_neg this] at hp
    exact hp S1 (g.tr g1) r1
  · have w2 : way = 2 := (nI_eq (b := 2) (by omega) (by omega)).mp c2
    have := h26 w2
    rw [if_pos w2] at hp
    rw [r1.2.1]
    refine sp_sum r1 hbb (f := 20) (t := (p ++ b).length) (by rw [List.length_append]; omega) (Nat.le_refl _) ?_
    rw [List.take_length]
    exact sp_putPair r1 (j := 24) (by rw [List.length_append]; omega) (csum_by (hbb.drop 20) (by rw [List.length_drop]; omega)) (fun S2 g2 r2 => hp S2 ((g.tr g1).tr g2) r2)
theorem c_wrap {post : Option Nat → HS → Prop} {S : HS} {r c n way num e d net : Nat} {b : List Nat} (h : RowAt S r c n b) (hb : By b) (h12 : 12 ≤ b.length) (h54 : b.length ≤ 54) (hway : way ≤ 2) (he : e < 8) (hd : d < 8) (hnet : net < 16777216) (hp : ∀ o c' n' S', kd S o = 0 → kd S c' = 0 → o ≠ c' → frn S S' → RowAt S' o c' n' (pkt way num e d net b) → post (some o) S') : wp_X5_wrap post S r (nI net) (nI way) (nI num) (nI e) (nI d) := by
  have key : ∀ (hs fol : Nat) (x2 p0 : Int32), hs = (if way = 0 then 16 else if way = 2 then 12 else 8) → fol = (if way = 0 then 17 else 47) → x2 = nI way → p0 = nI hs → wp_X5_wrap_21a post S r (nI net) x2 (nI num) (nI e) (nI d) p0 := fun hs fol x2 p0 e1 e2 e3 e4 => by
    have hs16 : hs ≤ 16 := by rw [e1]; split <;> (try omega); split <;> omega
    have hs8 : 8 ≤ hs := by rw [e1]; split <;> (try omega); split <;> omega
    have hfol : fol < 256 := by rw [e2]; split <;> omega
    subst e3; subst e4
    refine ⟨h.1.1, fun o ho => ?_⟩
    have hro : r ≠ o := fun e => by have := h.1.1; rw [e, ho] at this; cases this
    rw [h.2.1, show (20 : Int32) + nI hs = nI (20 + hs) from nI_add 20 hs, nI_add]
    refine sp_new ho (by omega) (fun c' S1 hc' hoc f1 r1 => ?_)
    have h1 : RowAt S1 r c n b := h.fr f1 id id id
    have hcc : c ≠ c' := fun e => by have := h.1.2.2.1; rw [e, hc'] at this; cases this
    have go : wp_X5_wrap_62a post S1 r (nI net) (nI way) (nI e) (nI d) (nI (20 + hs + b.length)) o (nI fol) (nI num) (nI (20 + hs + b.length)) o := by
      refine c_ip r1 (by omega) (by omega) hfol he hd (fun S2 g2 r2 => ?_)
      have h2 := h1.keep g2 hro hcc
      have l2 := ipOf_len (20 + hs + b.length) num fol e d
      have by2 := ipOf_by (size := 20 + hs + b.length) (num := num) (src := e) (dst := d) hfol
      have fin : ∀ (s : Bool), (¬ way = 0) → (s = decide (way = 2)) → wp_X5_wrap_103a post S2 r (nI net) (nI way) o (if s then 1 else 0) o := fun s n0 hsx => by
        refine c_mix h2 hb h12 ?_
        have hh : hs = if s then 12 else 8 := by
          rw [e1, if_neg n0, hsx]
          by_cases z : way = 2
          · simp [z]
          · simp [z]
        have ef : fol = 47 := by rw [e2, if_neg n0]
        refine c_gg s g2 r2 l2 (by rw [← hh]; omega) hnet (fun S3 g3 r3 => ?_)
        have hmid : (if s then midSum net (mixB b 12) else midGre net (mixB b 12)).length = hs := by
          rw [hh]
          cases s
          · simp [midGre, be_len]
          · simp [midSum, be_len]
        refine c_111 hway g3 r3 (h1.keep g3 hro hcc) hb (by2.app (by cases s; exact midG_by; exact midS_by)) hro hcc (fun _ => by rw [List.length_append]; omega) (by rw [List.length_append]; omega) (by omega) (fun S4 g4 r4 => hp o c' (20 + hs + b.length) S4 ho hc' hoc (f1.ron g4 ho hc') ?_)
        have epk : (if way = 2 then set2 (ipOf (20 + hs + b.length) num fol e d ++ (if s then midSum net (mixB b 12) else midGre net (mixB b 12)) ++ b) 24 (csum (sl ((ipOf (20 + hs + b.length) num fol e d ++ (if s then midSum net (mixB b 12) else midGre net (mixB b 12)) ++ b).drop 20))) else ipOf (20 + hs + b.length) num fol e d ++ (if s then midSum net (mixB b 12) else midGre net (mixB b 12)) ++ b) = pkt way num e d net b := by
          unfold pkt
          rw [if_neg n0, ef, hh]
          by_cases z : way = 2
          · have : s = true := by rw [hsx]; simp [z]
            subst this
            rw [if_pos z, if_pos z]
            rfl
          · have : s = false := by rw [hsx]; simp [z]
            subst this
            rw [if_neg z, if_neg z]
            rfl
        rw [← epk]; exact r4
      refine ⟨fun c0 => ⟨fun c2 => ?_, fun c2 => ?_⟩, fun c0 => ?_⟩
      · have n0 : ¬ way = 0 := fun q => c0 (by rw [q]; rfl)
        have n2 : ¬ way = 2 := fun q => c2 (by rw [q]; rfl)
        exact fin false n0 (by simp [n2])
      · have n2 : way = 2 := (nI_eq (b := 2) (by omega) (by omega)).mp c2
        exact fin true (by omega) (by simp [n2])
      · have n0 : way = 0 := (nI_eq (b := 0) (by omega) (by omega)).mp c0
        have hh : hs = 16 := by rw [e1, if_pos n0]
        have ef : fol = 17 := by rw [e2, if_pos n0]
        refine c_mix h2 hb h12 ?_
        rw [show (nI (20 + hs + b.length) : Int32) - 20 = nI (16 + b.length) from by
          rw [show (20 : Int32) = nI 20 from rfl, nI_sub (by omega)]; congr 1; omega]
        refine c_uu g2 r2 l2 (by omega) (by omega) hnet (mixB_lt b 12) (fun S3 g3 r3 => ?_)
        have hmid : (midUdp (16 + b.length) net (mixB b 12)).length = 16 := by simp [midUdp, be_len]
        refine c_111 hway g3 r3 (h1.keep g3 hro hcc) hb (by2.app midU_by) hro hcc (fun _ => by rw [List.length_append]; omega) (by rw [List.length_append]; omega) (by omega) (fun S4 g4 r4 => hp o c' (20 + hs + b.length) S4 ho hc' hoc (f1.ron g4 ho hc') ?_)
        have epk : (if way = 2 then set2 (ipOf (20 + hs + b.length) num fol e d ++ midUdp (16 + b.length) net (mixB b 12) ++ b) 24 (csum (sl ((ipOf (20 + hs + b.length) num fol e d ++ midUdp (16 + b.length) net (mixB b 12) ++ b).drop 20))) else ipOf (20 + hs + b.length) num fol e d ++ midUdp (16 + b.length) net (mixB b 12) ++ b) = pkt way num e d net b := by
          unfold pkt
          rw [if_pos n0, if_neg (by omega), ef, hh]
        rw [← epk]; exact r4
    refine ⟨fun c0 => ?_, fun c0 => ?_⟩
    · have : fol = 47 := by rw [e2, if_neg (fun q => c0 (by rw [q]; rfl))]
      rw [this] at go; exact go
    · have : fol = 17 := by rw [e2, if_pos ((nI_eq (b := 0) (by omega) (by omega)).mp c0)]
      rw [this] at go; exact go
  refine ⟨fun c0 => ⟨fun c2 => ?_, fun c2 => ?_⟩, fun c0 => ?_⟩
  · have n0 : ¬ way = 0 := fun q => c0 (by rw [q]; rfl)
    have n2 : ¬ way = 2 := fun q => c2 (by rw [q]; rfl)
    exact key 8 47 _ _ (by rw [if_neg n0, if_neg n2]) (by rw [if_neg n0]) rfl rfl
  · have n2 : way = 2 := (nI_eq (b := 2) (by omega) (by omega)).mp c2
    exact key 12 47 _ _ (by rw [if_neg (by omega), if_pos n2]) (by rw [if_neg (by omega)]) rfl rfl
  · have n0 : way = 0 := (nI_eq (b := 0) (by omega) (by omega)).mp c0
    exact key 16 17 _ _ (by rw [if_pos n0]) (by rw [if_pos n0]) rfl rfl
