/-! ===== goes ===== -/
theorem nI_mk (m : Nat) (h : m < 4294967296) : nI m &&& 16383 = nI (m % 16384) := by
  rw [pk_andN (by omega) 14 (by decide)]
theorem pktU {num e d net : Nat} {b : List Nat} : pkt 0 num e d net b = ipOf (20 + (midUdp (16 + b.length) net (mixB b 12) ++ b).length) num 17 e d ++ (midUdp (16 + b.length) net (mixB b 12) ++ b) := by
  have hl : (midUdp (16 + b.length) net (mixB b 12) ++ b).length = 16 + b.length := by simp [midUdp, be_len]; omega
  unfold pkt
  rw [if_pos rfl, hl, List.append_assoc, show 20 + (16 + b.length) = 36 + b.length by omega]
theorem pktG {num e d net : Nat} {b : List Nat} : pkt 1 num e d net b = ipOf (20 + (midGre net (mixB b 12) ++ b).length) num 47 e d ++ (midGre net (mixB b 12) ++ b) := by
  have hl : (midGre net (mixB b 12) ++ b).length = 8 + b.length := by simp [midGre, be_len]; omega
  unfold pkt
  rw [if_neg (by decide), if_neg (by decide), hl, List.append_assoc, show 20 + (8 + b.length) = 28 + b.length by omega]
theorem pktS {num e d net : Nat} {b : List Nat} : pkt 2 num e d net b = set2 (ipOf (20 + (midSum net (mixB b 12) ++ b).length) num 47 e d ++ (midSum net (mixB b 12) ++ b)) 24 (csum (sl ((ipOf (20 + (midSum net (mixB b 12) ++ b).length) num 47 e d ++ (midSum net (mixB b 12) ++ b)).drop 20))) := by
  have hl : (midSum net (mixB b 12) ++ b).length = 12 + b.length := by simp [midSum, be_len]; omega
  unfold pkt
  rw [if_neg (by decide), if_pos rfl, hl, List.append_assoc, show 20 + (12 + b.length) = 32 + b.length by omega]
theorem midU_by {s net m : Nat} : By (midUdp s net m) := by
  unfold midUdp
  exact (((((((be_by _ _).app (be_by _ _)).app (be_by _ _)).app (be_by _ _)).app (By.one (by decide))).app (be_by _ _)).app (be_by _ _)).app (By.one (by decide))
theorem midG_by {net m : Nat} : By (midGre net m) := by
  unfold midGre
  exact (((be_by _ _).app (be_by _ _)).app (be_by _ _)).app (By.one (Nat.mod_lt _ (by decide)))
theorem midS_by {net m : Nat} : By (midSum net m) := by
  unfold midSum
  exact ((((be_by _ _).app (be_by _ _)).app (be_by _ _)).app (be_by _ _)).app (By.one (Nat.mod_lt _ (by decide)))
theorem q_mix_loop {S : HS} {o : Nat} {R : Nat → Nat} {b : List Nat} {post : Unit → HS → Prop} {x1 x2 x3 x4 : Int32} (hb : By b) (hl : 12 ≤ b.length) (hB : RvB S (R 19) 0 b) (hp : wq_X7_goes_19 1 post R S o x1 x2 x3 x4 (nI (mixB b 12)) 12) : ∀ (n k : Nat), k + n = 12 → wq_X7_goes_19 (n + 1) post R S o x1 x2 x3 x4 (nI (mixB b k)) (nI k) := by
  intro n
  induction n with
  | zero =>
    intro k hk
    have : k = 12 := by omega
    subst this
    exact hp
  | succ n ih =>
    intro k hk
    refine ⟨fun c => ?_, fun _ => ⟨vp_in_nI (by omega) (by decide), ?_⟩⟩
    · rw [show (12 : Int32) = nI 12 from rfl] at c
      exact absurd ((nI_leI (by decide) (by omega)).mp c) (by omega)
    · have rd := hB k (by omega)
      rw [Nat.zero_add] at rd
      rw [nI_clamp (by omega), rd, mix_m, nI_1]
      exact ih (k + 1) (by omega)
def wj_18 : Nat → Bool := fun j => j == 18
theorem q_goes {post : Unit → HS → Prop} {S : HS} {o : Nat} {R : Nat → Nat} {T : TS} {N : Nat} (h : RV S o R T) (hT : OkT T N) {e d net : Nat} {b : List Nat} (he : e < 8) (hd : d < 8) (hnet : net < 16777216) (hb : By b) (hl : b.length ≤ 54) (h12 : 12 ≤ b.length) (hf : fi S 52 o = nI b.length) (hB : RvB S (R 19) 0 b) (hp : ∀ S', RV S' o R (t_go T e d net b) → rfm S S' o R wfG wjG → post () S') : wq_X7_goes post R S o (nI e) (nI d) (nI net) := by
  obtain ⟨hM, -, -, hW, hQ, -, -, hF, hC⟩ := id h
  have h50 : (tF T).length ≤ 50 ∧ ∀ f ∈ tF T, f.1.length ≤ 120 := ⟨hT.2.2.2.2.2.1, fun f hf => (hT.2.2.2.2.2.2 f hf).2.1⟩
  have hway := hT.2.2.2.1 e d
  have e1 : (8 : Int32) * nI e + nI d = nI (8 * e + d) := by rw [nI_8, nI_add]
  have ea : (167772161 : Int32) + nI e = nI (167772161 + e) := nI_add 167772161 e
  have ed : (167772161 : Int32) + nI d = nI (167772161 + d) := nI_add 167772161 d
  unfold wq_X7_goes
  rw [e1]
  refine ⟨vp_in_nI (by omega) (by decide), 13, ?_⟩
  rw [nI_clamp (by omega), hW e d he hd]
  refine q_mix_loop hb h12 hB ?_ 12 0 (by decide)
  have P0 : Pb (sfi S 50 o 0) o R [] := ⟨fi_self _ _ _ _, fun j hj => absurd hj (Nat.not_lt_zero j), by decide⟩
  have g0 : rfm S (sfi S 50 o 0) o R wf50 wj18 := rfm.wfi rfl
  have hm := mixB_lt b 12
  have key : ∀ (S9 : HS) (fol : Nat) (rest : List Nat), fol < 256 → RM S9 o R → rfm S S9 o R wf50 wj18 → Pb S9 o R (raw0 (tQ T e) fol e d ++ rest) → rest.length ≤ 16 → By rest → 6 ≤ rest.length → (if tW T e d = 2 then set2 (ipOf (20 + (rest ++ b).length) (tQ T e) fol e d ++ (rest ++ b)) 24 (csum (sl ((ipOf (20 + (rest ++ b).length) (tQ T e) fol e d ++ (rest ++ b)).drop 20))) else ipOf (20 + (rest ++ b).length) (tQ T e) fol e d ++ (rest ++ b)) = pkt (tW T e d) (tQ T e) e d net b → ∃ n9, wq_X7_goes_275 n9 post R S9 o (nI e) (nI d) (nI (tW T e d)) 0 := by
    intro S9 fol rest hfo M9 g9 P9 hr hby h6 hpk
    refine ⟨b.length + 1, ?_⟩
    refine q_fr_loop (S0 := S9) (p0 := raw0 (tQ T e) fol e d ++ rest) (m := 20 + rest.length) hb hl (by rw [List.length_append, raw0_len]) (by omega) ((g9.1 52 rfl).trans hf) (fun j hj => by rw [(g9.2 19 (by decide) rfl).1]; exact hB j hj) (fun S1 M1 g1 P1 => ?_) b.length 0 S9 (by omega) M9 rfm.rf (by simpa using P9)
    rw [List.append_assoc] at P1
    refine q_sums (S0 := S) hway hfo M1 (g9.tr g1) P1 (hby.app hb) (by rw [List.length_append]; omega) (by rw [List.length_append]; omega) (fun S2 p M2 g2 P2 ep => ?_)
    exact q_352 (net := net) (b := b) h h50 he M2 g2 P2 (ep.trans hpk) hp
  refine ⟨fun _ => ?_, fun c => absurd (by decide) c⟩
  refine q_pc (S0 := S) (m := 0) 69 1 hM.wfi g0 P0 rfl (by decide) (by decide) (fun S1 M1 g1 P1 l1 => ?_)
  refine q_pc (S0 := S) (m := 1) 0 1 M1 g1 P1 l1 (by decide) (by decide) (fun S2 M2 g2 P2 l2 => ?_)
  refine q_pc (S0 := S) (m := 2) 0 2 M2 g2 P2 l2 (by decide) (by decide) (fun S3 M3 g3 P3 l3 => ⟨vp_in_nI he (by decide), ?_⟩)
  rw [nI_clamp (by omega), show ai S3 (R 7) e = nI (tQ T e) by rw [(g3.2 7 (by decide) rfl).1]; exact hQ e he]
  refine q_pc (S0 := S) (m := 4) (tQ T e) 2 M3 g3 P3 l3 (by decide) (by decide) (fun S4 M4 g4 P4 l4 => ?_)
  refine q_pc (S0 := S) (m := 6) 64 1 M4 g4 P4 l4 (by decide) (by decide) (fun S5 M5 g5 P5 l5 => ?_)
  refine q_pc (S0 := S) (m := 7) 0 1 M5 g5 P5 l5 (by decide) (by decide) (fun S6 M6 g6 P6 l6 => ?_)
  refine q_pc (S0 := S) (m := 8) 64 1 M6 g6 P6 l6 (by decide) (by decide) (fun S7 M7 g7 P7 l7 => ?_)
  have k119 : ∀ fol : Nat, fol < 256 → (tW T e d = 0 → fol = 17) → (¬ tW T e d = 0 → fol = 47) → wq_X7_goes_119a post R S7 o (nI e) (nI d) (nI net) (nI (tW T e d)) (nI (mixB b 12)) (nI fol) o := by
    intro fol hfo hu hg
    refine q_pc (S0 := S) (m := 9) fol 1 M7 g7 P7 l7 (by decide) (by decide) (fun S8 M8 g8 P8 l8 => ?_)
    refine q_pc (S0 := S) (m := 10) 0 2 M8 g8 P8 l8 (by decide) (by decide) (fun S9 M9 g9 P9 l9 => ?_)
    rw [ea]
    refine q_pc (S0 := S) (m := 12) (167772161 + e) 4 M9 g9 P9 l9 (by decide) (by decide) (fun S10 M10 g10 P10 l10 => ?_)
    rw [ed]
    refine q_pc (S0 := S) (m := 16) (167772161 + d) 4 M10 g10 P10 l10 (by decide) (by decide) (fun S11 M11 g11 P11 l11 => ?_)
    have P11' : Pb S11 o R (raw0 (tQ T e) fol e d) := P11
    have l11' : (raw0 (tQ T e) fol e d).length = 20 := raw0_len _ _ _ _
    refine ⟨fun c => ?_, fun c => ?_⟩
    · have hne : ¬ tW T e d = 0 := fun q => c (by rw [q]; rfl)
      have hfol := hg hne
      subst hfol
      have k235 : ∀ v : Nat, (tW T e d = 2 → v = 40960) → (¬ tW T e d = 2 → v = 8192) → wq_X7_goes_235a post R S11 o (nI e) (nI d) (nI net) (nI (tW T e d)) (nI (mixB b 12)) (nI v) o := by
        intro v hv2 hv1
        refine q_pc (S0 := S) (m := 20) v 2 M11 g11 P11' l11' (by decide) (by decide) (fun S12 M12 g12 P12 l12 => ?_)
        refine q_pc (S0 := S) (m := 22) 25944 2 M12 g12 P12 l12 (by decide) (by decide) (fun S13 M13 g13 P13 l13 => ⟨fun c2 => ?_, fun c2 => ?_⟩)
        · have hn2 : ¬ tW T e d = 2 := fun q => c2 (by rw [q]; rfl)
          have hw1 : tW T e d = 1 := by omega
          refine q_pc (S0 := S) (m := 24) net 3 M13 g13 P13 l13 (by decide) (by decide) (fun S14 M14 g14 P14 l14 => ?_)
          refine q_pc (S0 := S) (m := 27) (mixB b 12) 1 M14 g14 P14 l14 (by decide) (by decide) (fun S15 M15 g15 P15 l15 => ?_)
          refine key S15 47 (midGre net (mixB b 12)) (by decide) M15 g15 ?_ (by simp [midGre, be_len]) midG_by (by simp [midGre, be_len]) (by rw [if_neg hn2, hw1, pktG])
          rw [hv1 hn2] at P15
          have eq : raw0 (tQ T e) 47 e d ++ midGre net (mixB b 12) = raw0 (tQ T e) 47 e d ++ be 8192 2 ++ be 25944 2 ++ be net 3 ++ be (mixB b 12) 1 := by
            rw [be1]; unfold midGre; simp only [List.append_assoc]
          rw [eq]; exact P15
        · have hw2 : tW T e d = 2 := (nI_eq (b := 2) (by omega) (by decide)).mp c2
          refine q_pc (S0 := S) (m := 24) 0 4 M13 g13 P13 l13 (by decide) (by decide) (fun S14 M14 g14 P14 l14 => ?_)
          refine q_pc (S0 := S) (m := 28) net 3 M14 g14 P14 l14 (by decide) (by decide) (fun S15 M15 g15 P15 l15 => ?_)
          refine q_pc (S0 := S) (m := 31) (mixB b 12) 1 M15 g15 P15 l15 (by decide) (by decide) (fun S16 M16 g16 P16 l16 => ?_)
          refine key S16 47 (midSum net (mixB b 12)) (by decide) M16 g16 ?_ (by simp [midSum, be_len]) midS_by (by simp [midSum, be_len]) (by rw [if_pos hw2, hw2, pktS])
          rw [hv2 hw2] at P16
          have eq : raw0 (tQ T e) 47 e d ++ midSum net (mixB b 12) = raw0 (tQ T e) 47 e d ++ be 40960 2 ++ be 25944 2 ++ be 0 4 ++ be net 3 ++ be (mixB b 12) 1 := by
            rw [be1]; unfold midSum; simp only [List.append_assoc]
          rw [eq]; exact P16
      refine ⟨fun c2 => ?_, fun c2 => ?_⟩
      · have hn1 : ¬ tW T e d = 1 := fun q => c2 (by rw [q]; rfl)
        exact k235 40960 (fun _ => rfl) (fun q => absurd (show tW T e d = 2 by omega) q)
      · have h1 : tW T e d = 1 := (nI_eq (b := 1) (by omega) (by decide)).mp c2
        exact k235 8192 (fun q => by omega) (fun _ => rfl)
    · have hw0 : tW T e d = 0 := (nI_eq (b := 0) (by omega) (by decide)).mp c
      have hfol := hu hw0
      subst hfol
      have em : (49152 : Int32) + (nI (mixB b 12) &&& 16383) = nI (49152 + mixB b 12 % 16384) := by rw [nI_mk _ hm]; exact nI_add 49152 _
      rw [em]
      refine q_pc (S0 := S) (m := 20) (49152 + mixB b 12 % 16384) 2 M11 g11 P11' l11' (by decide) (by decide) (fun S12 M12 g12 P12 l12 => ?_)
      refine q_pc (S0 := S) (m := 22) 4789 2 M12 g12 P12 l12 (by decide) (by decide) (fun S13 M13 g13 P13 l13 => ?_)
      have e16 : (16 : Int32) + fi S13 52 o = nI (16 + b.length) := by rw [(g13.1 52 rfl).trans hf]; exact nI_add 16 _
      rw [e16]
      refine q_pc (S0 := S) (m := 24) (16 + b.length) 2 M13 g13 P13 l13 (by decide) (by decide) (fun S14 M14 g14 P14 l14 => ?_)
      refine q_pc (S0 := S) (m := 26) 0 2 M14 g14 P14 l14 (by decide) (by decide) (fun S15 M15 g15 P15 l15 => ?_)
      refine q_pc (S0 := S) (m := 28) 8 1 M15 g15 P15 l15 (by decide) (by decide) (fun S16 M16 g16 P16 l16 => ?_)
      refine q_pc (S0 := S) (m := 29) 0 3 M16 g16 P16 l16 (by decide) (by decide) (fun S17 M17 g17 P17 l17 => ?_)
      refine q_pc (S0 := S) (m := 32) net 3 M17 g17 P17 l17 (by decide) (by decide) (fun S18 M18 g18 P18 l18 => ?_)
      refine q_pc (S0 := S) (m := 35) 0 1 M18 g18 P18 l18 (by decide) (by decide) (fun S19 M19 g19 P19 l19 => ?_)
      refine key S19 17 (midUdp (16 + b.length) net (mixB b 12)) (by decide) M19 g19 ?_ (by simp [midUdp, be_len]) midU_by (by simp [midUdp, be_len]) (by rw [if_neg (by omega), hw0, pktU])
      have eq : raw0 (tQ T e) 17 e d ++ midUdp (16 + b.length) net (mixB b 12) = raw0 (tQ T e) 17 e d ++ be (49152 + mixB b 12 % 16384) 2 ++ be 4789 2 ++ be (16 + b.length) 2 ++ be 0 2 ++ be 8 1 ++ be 0 3 ++ be net 3 ++ be 0 1 := by
        have e8 : be 8 1 = [8] := by decide
        have e0 : be 0 1 = [0] := by decide
        rw [e8, e0]; unfold midUdp; simp only [List.append_assoc]
      rw [eq]; exact P19
  refine ⟨fun c => ?_, fun c => ?_⟩
  · have hne : ¬ tW T e d = 0 := fun q => c (by rw [q]; rfl)
    exact k119 47 (by decide) (fun q => absurd q hne) (fun _ => rfl)
  · have hw0 : tW T e d = 0 := (nI_eq (b := 0) (by omega) (by decide)).mp c
    exact k119 17 (by decide) (fun _ => rfl) (fun q => absurd hw0 q)
