/-! ===== ArrayList: remove, add ===== -/
theorem erase_get {A : List Nat} {i j a : Nat} (h : (A.eraseIdx i)[j]? = some a) : (j < i ∧ A[j]? = some a) ∨ (i ≤ j ∧ A[j + 1]? = some a) := by
  rw [List.getElem?_eraseIdx] at h
  by_cases c : j < i
  · rw [if_pos c] at h; exact Or.inl ⟨c, h⟩
  · rw [if_neg c] at h; exact Or.inr ⟨by omega, h⟩
theorem erase_len {A : List Nat} {i : Nat} (h : i < A.length) : (A.eraseIdx i).length = A.length - 1 := by rw [List.length_eraseIdx, if_pos h]
theorem ar_self (S : HS) (a i : Nat) (v : Option Nat) (j : Nat) : ar (sar S a i v) a j = if j = i then v else ar S a j := by
  show va_up (ar S) a (va_up (ar S a) i v) a j = _
  rw [va_up_self]; rfl
theorem ar_scp (S : HS) (a : Nat) (g : Nat → Option Nat) (j : Nat) : ar (scp S a g) a j = g j := by
  show va_up (ar S) a g a j = _
  rw [va_up_self]
theorem sp_rem {post : Option Nat → HS → Prop} {S : HS} {L d : Nat} {A : List Nat} (h : Lst S L d A) {i a : Nat} (hi : A[i]? = some a) (hp : ∀ S', frm S S' (wiL L) (wrL L) no1 (fun a => a = d) → Lst S' L d (A.eraseIdx i) → kd S' = kd S → post (some a) S') : wp_Jx4a65c_remove_915e3 post S L (nI i) := by
  obtain ⟨c1, hl, c2, c3, c4⟩ := h.row hi
  have h51 := h.2.2.2.1
  have h5 := h.2.2.2.2.1
  have hall : ∀ j y, A[j]? = some y → ar S d j = some y := fun j y hj => (h.row hj).2.2.2.2
  refine ⟨h.1, fun c => absurd c (nI_pos (by omega)), fun _ => ⟨fun _ => ?_, fun c => absurd ?_ c⟩⟩
  · refine ⟨d, h.2.1, by rw [c1], vp_in_nI (by omega) (by omega), a, by rw [nI_clamp (by omega)]; exact c4, ?_⟩
    have e0 : fi (sfi S 0 L (fi S 0 L + 1)) 2 L = nI A.length := (fi_ne _ _ _ _ (Or.inl (by decide))).trans h.2.2.1
    have e1 : nI A.length - 1 = nI (A.length - 1) := pk_sub (a := A.length) (b := 1) (by omega)
    have e2 : nI (A.length - 1) - nI i = nI (A.length - 1 - i) := pk_sub (by omega)
    unfold wp_Jx4a65c_fastRemove_b59b0
    rw [e0, e1]
    have key : ∀ g : Nat → Option Nat, (∀ j y, (A.eraseIdx i)[j]? = some y → g j = some y) → ∀ S0, S0 = scp (sfi (sfi S 0 L (fi S 0 L + 1)) 2 L (nI (A.length - 1))) d g → Lst S0 L d (A.eraseIdx i) := by
      intro g hg S0 e
      subst e
      refine ⟨h.1, h.2.1, ?_, by rw [erase_len hl]; omega, fun y hy => h5 y (List.mem_of_mem_eraseIdx hy), Or.inl ⟨c1, by rw [erase_len hl]; show A.length - 1 ≤ ln S d; omega, c3, show 1 ≤ ln S d by omega, fun j y hj => ?_⟩⟩
      · rw [erase_len hl]; exact fi_self (sfi S 0 L (fi S 0 L + 1)) 2 L (nI (A.length - 1))
      · rw [ar_scp]; exact hg j y hj
    refine ⟨h.1, fun q => ⟨by show kd S d / 32 = 6; rw [c1], vp_in_nI (show A.length - 1 < ln S d by omega) (show ln S d < 2 ^ 31 by omega), ?_⟩, fun q => ⟨by show kd S d / 32 = 6; rw [c1], ⟨?_, nI_pos (by omega), ?_, ?_, ?_, ?_⟩, ?_⟩⟩
    · have hie : A.length - 1 ≤ i := (nI_leI (by omega) (by omega)).mp q
      rw [nI_clamp (by omega)]
      have eS : sar (sfi (sfi S 0 L (fi S 0 L + 1)) 2 L (nI (A.length - 1))) d (A.length - 1) none = scp (sfi (sfi S 0 L (fi S 0 L + 1)) 2 L (nI (A.length - 1))) d (va_up (ar S d) (A.length - 1) none) := rfl
      rw [eS]
      refine hp _ (((frm.wfi (wi := wiL L) (Or.inr ⟨rfl, Or.inl rfl⟩)).tr (frm.wfi (Or.inr ⟨rfl, Or.inr rfl⟩))).tr (frm.wcp (wq := fun a => a = d) (Or.inr rfl))) (key _ (fun j y hj => ?_) _ rfl) rfl
      have hjl := (List.getElem?_eq_some_iff.mp hj).1
      rw [erase_len hl] at hjl
      rcases erase_get hj with ⟨_, hj⟩ | ⟨h1, _⟩
      · rw [va_up_ne _ _ (by omega)]; exact hall j y hj
      · omega
    · rw [nI_1]; exact nI_pos (by omega)
    · rw [e2]; exact nI_pos (by omega)
    · rw [e2, nI_1, nI_clamp (by omega), nI_clamp (by omega)]; show i + 1 + (A.length - 1 - i) ≤ ln S d; omega
    · rw [e2, nI_clamp (by omega), nI_clamp (by omega)]; show i + (A.length - 1 - i) ≤ ln S d; omega
    · intro j hj y hy
      rw [e2, nI_clamp (by omega)] at hj
      rw [nI_1, nI_clamp (by omega)] at hy
      have hjl : i + 1 + j < A.length := by omega
      have hq := hall (i + 1 + j) A[i + 1 + j] (List.getElem?_eq_getElem hjl)
      have hy' : ar S d (i + 1 + j) = some y := hy
      rw [hq] at hy'
      cases hy'
      exact h5 _ (List.getElem_mem hjl)
    · have hie : i < A.length - 1 := Nat.not_le.mp fun z => q ((nI_leI (by omega) (by omega)).mpr z)
      rw [e2, nI_1, nI_clamp (by omega), nI_clamp (by omega), nI_clamp (by omega), nI_clamp (by omega)]
      refine ⟨vp_in_nI (show A.length - 1 < ln S d by omega) (show ln S d < 2 ^ 31 by omega), ?_⟩
      have eS : sar (sfi (scp (sfi S 0 L (fi S 0 L + 1)) d (va_cpy (ar (sfi S 0 L (fi S 0 L + 1)) d) (ar (sfi S 0 L (fi S 0 L + 1)) d) (i + 1) i (A.length - 1 - i))) 2 L (nI (A.length - 1))) d (A.length - 1) none = scp (scp (sfi (sfi S 0 L (fi S 0 L + 1)) 2 L (nI (A.length - 1))) d (va_cpy (ar S d) (ar S d) (i + 1) i (A.length - 1 - i))) d (va_up (va_up (ar S) d (va_cpy (ar S d) (ar S d) (i + 1) i (A.length - 1 - i)) d) (A.length - 1) none) := rfl
      rw [eS]
      refine hp _ ((((frm.wfi (wi := wiL L) (Or.inr ⟨rfl, Or.inl rfl⟩)).tr (frm.wfi (Or.inr ⟨rfl, Or.inr rfl⟩))).tr (frm.wcp (wq := fun a => a = d) (Or.inr rfl))).tr (frm.wcp (wq := fun a => a = d) (Or.inr rfl))) ?_ rfl
      refine ⟨h.1, h.2.1, ?_, by rw [erase_len hl]; omega, fun y hy => h5 y (List.mem_of_mem_eraseIdx hy), Or.inl ⟨c1, by rw [erase_len hl]; show A.length - 1 ≤ ln S d; omega, c3, show 1 ≤ ln S d by omega, fun j y hj => ?_⟩⟩
      · rw [erase_len hl]; exact fi_self (sfi S 0 L (fi S 0 L + 1)) 2 L (nI (A.length - 1))
      · have hjl := (List.getElem?_eq_some_iff.mp hj).1
        rw [erase_len hl] at hjl
        rw [ar_scp, va_up_ne _ _ (by omega), va_up_self]
        rcases erase_get hj with ⟨h1, hj⟩ | ⟨h1, hj⟩
        · rw [pk_cpy_out (Or.inl h1)]; exact hall j y hj
        · rw [pk_cpy_in h1 (by omega)]
          rw [show i + 1 + (j - i) = j + 1 by omega]
          exact hall (j + 1) y hj
  · rw [h.2.2.1]; exact (nI_ltI (by omega) (by omega)).mpr hl
