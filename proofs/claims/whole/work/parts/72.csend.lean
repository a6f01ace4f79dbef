/-! ===== the class: send ===== -/
theorem c_send {post : Int32 → HS → Prop} {S : HS} {g : Nat} {G : Nat → Nat} {T : TS} {N : Nat} (h : RC S g G T) (hT : OkT T N) {x z : Int32} {v : Int64} (hp : ∀ S', RC S' g G (s_send T x v z).2 → post (s_send T x v z).1 S') : wp_X6_send post S g x v z := by
  obtain ⟨w, A, h⟩ := h
  have h32 := hT.2.1.1
  have h8 := hT.1.2
  obtain ⟨t1, t2⟩ := hT.2.2.2.2.1
  refine ⟨h.F.1, c_stat h hT (fun st s a hi hs ha hx hwa q => ⟨som, fun o ho => ?_⟩) (fun hi => ⟨fun _ => ?_, fun o ho => som ho.symm⟩)⟩
  · cases ho
    have hsl := (rg_lt hi).1
    obtain ⟨m1, m2, m3, m4, m5⟩ := hT.2.1.2 s (List.mem_of_getElem? hs)
    have w0 : (0 : Int64).toInt = 0 := rfl
    have w1 : (281474976710655 : Int64).toInt = 281474976710655 := rfl
    have e1 : (65535 : Int32).toInt = 65535 := rfl
    have e2 : (65536 : Int32).toInt = 65536 := rfl
    have now : rl v 281474976710656 = none → post (-1) S := fun u => by
      simp only [s_send, hi, u] at hp
      exact hp S ⟨w, A, h⟩
    rw [lg_cmp_lt, lg_cmp_gt]
    refine ⟨fun c => now ?_, fun c => ⟨fun c2 => now ?_, fun c2 => ?_⟩⟩
    · unfold rl
      rw [if_neg]
      rintro ⟨u, -⟩
      have := Int64.lt_iff_toInt_lt.mp c
      omega
    · unfold rl
      rw [if_neg]
      rintro ⟨-, u⟩
      have := Int64.lt_iff_toInt_lt.mp c2
      omega
    · have hv : ∃ dst, rl v 281474976710656 = some dst := by
        unfold rl
        rw [if_pos]
        · exact ⟨_, rfl⟩
        · have a1 : ¬ v.toInt < (0 : Int64).toInt := fun u => c (Int64.lt_iff_toInt_lt.mpr u)
          have a2 : ¬ (281474976710655 : Int64).toInt < v.toInt := fun u => c2 (Int64.lt_iff_toInt_lt.mpr u)
          omega
      obtain ⟨dst, hdst⟩ := hv
      obtain ⟨hd, rfl⟩ := rl_lt hdst (by omega)
      refine ⟨fun c3 => ?_, fun c3 => ⟨fun c4 => ⟨q.1, ?_⟩, fun c4 => ?_⟩⟩
      · simp only [s_send, hi, hdst, rg_neg c3] at hp
        exact hp S ⟨w, A, h⟩
      · obtain ⟨ty, y1, y2, rfl⟩ := rg_yes (x := z) (n := 65536) (y := 65536) (by omega) c3 (lt_tI.mpr (by have := le_tI.mp c4; omega))
        rw [q.2.2.2.1]
        refine c_endp h hT (fun e he hl hxe => ⟨som, fun o ho => ?_⟩) (fun he => ?_)
        · cases ho
          have ee : e = s.1 := by
            rw [rg_n m1 (by omega)] at he
            exact (Option.some.inj he).symm
          subst ee
          obtain ⟨tw1, tw2, hR⟩ := h.T
          refine ⟨G 1, h.F.2.2.2.2.1, hR.1.1, ?_⟩
          rw [hR.2.1]
          refine ⟨fun c5 => ⟨G 1, h.F.2.2.2.2.1, ?_⟩, fun c5 => ?_⟩
          · have h40 : (tT T).length ≤ 40 := (nI_leI (b := 40) (by omega) (by omega)).mp c5
            simp only [s_send, hi, hdst, y1, if_pos h40, hs] at hp
            rw [q.2.2.1]
            refine c_frm hR t1 h40 hd m3 y2 (fun o c' n' S1 ho hc' hoc f1 r1 => ⟨o, rfl, ?_⟩)
            have sm1 : sam S w (va_up (va_up w o 2) c' (o + 1)) := (sam.rf.up (Or.inl ho)).up (Or.inl hc')
            have h1 := h.frn f1 sm1
            have wo1 : va_up (va_up w o 2) c' (o + 1) o = 2 := (va_up_ne _ _ hoc).trans (va_up_self _ _ _)
            have wc1 : va_up (va_up w o 2) c' (o + 1) c' = o + 1 := va_up_self _ _ _
            generalize va_up (va_up w o 2) c' (o + 1) = w1' at *
            generalize hbb : frmOf dst s.2.2.1 ty (tT T) = b at *
            have hbl : b.length = 14 + (tT T).length := by rw [← hbb, frm_len]
            have hb : By b := by rw [← hbb]; exact frm_by t1
            have ho1 : o ≠ G 1 := fun u => by have := hR.1.1; rw [← u, ho] at this; cases this
            have hc2 : c' ≠ G 2 := fun u => by have := hR.1.2.2.1; rw [← u, hc'] at this; cases this
            refine ⟨G 1, h1.F.2.2.2.2.1, h1.T.2.2.1.1, sp_clear h1.T.2.2 (fun S2 ro rt => ?_)⟩
            have h2 := h1.tape ro rt
            have r2 := r1.keep ro ho1 hc2
            intro a3 ha3
            obtain ⟨u1, q2⟩ := h2.S.2 st a s ha hs
            have hne : a ≠ a3 := fun u => by have := q2.1; rw [u, ha3] at this; cases this
            have hT2 : OkT (uT T []) N := hT.t By.nil (Nat.zero_le _)
            obtain ⟨f3, kn3⟩ := kn_new (net := s.2.1) (mac := s.2.2.1) (pl := Sum.inl st) ha3
            refine ⟨va_up_self _ _ _, ?_⟩
            rw [show fi (snw S2 a3 3 0) 16 a = fi S2 16 a from va_up_ne _ _ hne, show fl (snw S2 a3 3 0) 17 a = fl S2 17 a from va_up_ne _ _ hne, q2.2.1, q2.2.2.1, hx]
            generalize hS3 : sfi (sfi (sfl (sfi (snw S2 a3 3 0) 7 a3 (nI s.2.1)) 8 a3 (lN s.2.2.1)) 9 a3 (kE (Sum.inl st))) 10 a3 (kS (Sum.inl st)) = S3 at *
            have eS3 : sfi (sfi (sfl (sfi (snw S2 a3 3 0) 7 a3 (nI s.2.1)) 8 a3 (lN s.2.2.1)) 9 a3 (-1)) 10 a3 (nI st) = S3 := hS3
            rw [eS3]
            have sm3 : sam S2 w1' (va_up w1' a3 0) := sam.rf.up (Or.inl ha3)
            have h3 := h2.frn f3 sm3
            have r3 : RowAt S3 o c' n' b := r2.fr f3 id id id
            have k5 := r2.1.1
            have k33 := r2.1.2.2.1
            have wo3 : va_up w1' a3 0 o = 2 := (sm3 o (by omega) (by omega)).trans wo1
            have wc3 : va_up w1' a3 0 c' = o + 1 := (sm3 c' (by omega) (by omega)).trans wc1
            refine c_learn (pl := Sum.inl st) h3 hT2 (by omega) m2 m3 (show st < 32 by omega) kn3 (va_up_self _ _ _) (fun S4 w4 A4 h4 k4 sm4 hA4 => ?_)
            have hT4 : OkT (t_learn (uT T []) s.1 s.2.1 s.2.2.1 (Sum.inl st)) N := hT2.learn m1 ⟨m2, m3, Nat.zero_le _, hsl⟩
            obtain ⟨n1, n2, -⟩ := t_learn_N (uT T []) s.1 s.2.1 s.2.2.1 (Sum.inl st)
            have hts : t_send T st dst ty s = (match whr (tK (t_learn (uT T []) s.1 s.2.1 s.2.2.1 (Sum.inl st)) s.1) s.2.1 dst with
                | none => (t_goN (t_learn (uT T []) s.1 s.2.1 s.2.2.1 (Sum.inl st)) s.1 s.2.1 (tN T), t_goAll (t_all (t_learn (uT T []) s.1 s.2.1 s.2.2.1 (Sum.inl st)) s.1 s.2.1 (some st) b) s.1 s.2.1 b (tN T))
                | some (Sum.inr e) => (1, t_go (t_learn (uT T []) s.1 s.2.1 s.2.2.1 (Sum.inl st)) s.1 e s.2.1 b)
                | some (Sum.inl k) => (0, if k = st then (t_learn (uT T []) s.1 s.2.1 s.2.2.1 (Sum.inl st)) else t_one (t_learn (uT T []) s.1 s.2.1 s.2.2.1 (Sum.inl st)) s.1 k b)) := by
              unfold t_send
              rw [hbb]
              rfl
            generalize t_learn (uT T []) s.1 s.2.1 s.2.2.1 (Sum.inl st) = T4 at *
            have k5' : kd S3 o = 5 := r3.1.1
            have k33' : kd S3 c' = 33 := r3.1.2.2.1
            have wo4 : w4 o = 2 := (sm4 o (by omega) (by omega)).trans wo3
            have wc4 : w4 c' = o + 1 := (sm4 c' (by omega) (by omega)).trans wc3
            have r4 := k4.2 _ _ _ _ r3
            have ha4 : (A4 8)[st]? = some a := by rw [hA4 8 (by omega)]; exact ha
            have hs4 : (tS T4)[st]? = some s := by rw [n2]; exact hs
            obtain ⟨u4, q4⟩ := h4.S.2 st a s ha4 hs4
            obtain ⟨-, b24, b34, -⟩ := h4.E.2 s.1 (by omega)
            refine ⟨b24, ?_⟩
            rw [q4.2.1]
            refine c_where h4 hT4 (by omega) m2 hd (fun k κ y hκ hy ky hw => ⟨som, fun o' ho' => ?_⟩) (fun hw => ⟨fun _ => ?_, fun o' ho' => som ho'.symm⟩)
            · cases ho'
              rw [hw] at hts
              have hm := (hT4.2.2.1 s.1 (by omega)).2.1 κ (List.mem_of_getElem? hκ)
              have hpl := hm.pl hT4.1.2 hT4.2.1.1
              refine ⟨ky.1, ?_⟩
              rw [ky.2.2.2.2.1, ky.2.2.2.1, b34, q4.2.1]
              cases hcase : κ.2.2.1 with
              | inr d =>
                rw [hcase] at hts
                have hd8 : d < 8 := by rw [hcase] at hpl; exact hpl
                refine ⟨fun c => absurd rfl c, fun _ => ?_⟩
                rw [hts] at hp
                exact c_launch h4 hT4 (by omega) hd8 m2 r4 hb (by omega) (by omega) (fun S5 w5 A5 h5 _ _ _ => hp S5 ⟨w5, A5, h5⟩)
              | inl k2 =>
                rw [hcase] at hts
                have hk32 : k2 < 32 := by rw [hcase] at hpl; exact hpl
                have hkl : k2 < (tS T4).length := by have := hm.2.2.2; rw [hcase] at this; exact this
                rw [hts] at hp
                refine ⟨fun _ => ⟨fun c6 => ?_, fun c6 => ?_⟩, fun c => absurd c (nI_m1 (by omega))⟩
                · have : k2 = st := (nI_eq (by omega) (by omega)).mp c6
                  have hp' : ∀ S', RC S' g G (if k2 = st then T4 else t_one T4 s.1 k2 b) → post 0 S' := hp
                  rw [if_pos this] at hp'
                  exact hp' S4 ⟨w4, A4, h4⟩
                · have hne2 : ¬ k2 = st := fun u => c6 (by rw [u]; rfl)
                  have hp' : ∀ S', RC S' g G (if k2 = st then T4 else t_one T4 s.1 k2 b) → post 0 S' := hp
                  rw [if_neg hne2] at hp'
                  exact c_one h4 hT4 (by omega) hkl r4 wo4 wc4 (fun S5 h5 _ => hp' S5 ⟨w4, A4, h5⟩)
            · rw [hw] at hts
              rw [hts] at hp
              rw [b34, q4.2.1]
              refine c_all (but := some st) h4 hT4 (by omega) m2 (fun k u => by cases u; omega) r4 wo4 wc4 (fun S5 h5 k5 => ?_)
              have hT5 : OkT (t_all T4 s.1 s.2.1 (some st) b) (N + 1) := hT4.all hb (by omega)
              have hs5 : fi S5 16 a = nI s.2.1 := by
                have hln := h5.S.1
                have hlt := (List.getElem?_eq_some_iff.mp ha4).1
                obtain ⟨s', hs', -, q5⟩ := h5.S.of ha4
                have : s'.2.1 = s.2.1 := by
                  have hs'' : ((tS T4).mapIdx (fun i s => if isTh _ _ _ i s then come b s else s))[st]? = some s' := hs'
                  rw [List.getElem?_mapIdx, hs4] at hs''
                  have := Option.some.inj hs''
                  rw [← this]
                  dsimp only
                  split <;> rfl
                rw [q5.2.1, this]
              rw [hs5]
              have eN : tN (t_all T4 s.1 s.2.1 (some st) b) = tN T := n1
              refine c_goall h5 hT5 (by omega) m2 hb (by omega) (by omega) (k5.2 _ _ _ _ r4) (fun S6 w6 A6 h6 => ?_)
              rw [eN] at h6 ⊢
              rw [t_goN_eq (fun a => t_all_has T4 s.1 s.2.1 (some st) b a s.2.1)]
              exact hp S6 ⟨w6, A6, h6⟩
          · have h40 : ¬ (tT T).length ≤ 40 := fun u => c5 ((nI_leI (b := 40) (by omega) (by omega)).mpr u)
            simp only [s_send, hi, hdst, y1, if_neg h40] at hp
            exact hp S ⟨w, A, h⟩
        · rw [rg_n m1 (by omega)] at he; cases he
      · simp only [s_send, hi, hdst, rg_big (x := z) (n := 65536) (y := 65536) (by omega) (le_tI.mpr (by have := lt_tI.mp (Int32.not_le.mp c4); omega))] at hp
        exact hp S ⟨w, A, h⟩
  · simp only [s_send, hi] at hp
    exact hp S ⟨w, A, h⟩
