/-! ===== what holds of every state holds behind every call ===== -/
theorem ok_begin {T : TS} {N : Nat} (h : OkT T N) (x : Int32) : OkT (s_begin T x).2 (N + 1) := by
  have hu := h.up (Nat.le_succ N)
  unfold s_begin
  split
  · rename_i n hn
    split
    · exact h.begin (by assumption) (by have := (rg_lt hn).1; omega)
    · exact hu
  · exact hu
theorem ok_station {T : TS} {N : Nat} (h : OkT T N) (x y z : Int32) : OkT (s_station T x y z).2 (N + 1) := by
  have hu := h.up (Nat.le_succ N)
  unfold s_station
  split
  · rename_i e he
    split
    · rename_i net hnet
      split
      · exact hu
      · rename_i q
        have h32 := h.2.1.1
        refine hu.s (by rw [List.length_append]; simp; omega) (by rw [List.length_append]; simp) (fun s hs => ?_)
        rcases List.mem_append.mp hs with m | m
        · exact hu.2.1.2 s m
        · rw [List.mem_singleton.mp m]
          have hz := z.toBitVec.isLt
          exact ⟨(rg_lt he).1, (rg_lt hnet).1, (by show 2199023255552 + z.toBitVec.toNat < 281474976710656; omega), Nat.zero_le _, rfl, fun b hb => (List.not_mem_nil hb).elim⟩
    · exact hu
  · exact hu
theorem ok_move {T : TS} {N : Nat} (h : OkT T N) (x y : Int32) : OkT (s_move T x y).2 (N + 1) := by
  have hu := h.up (Nat.le_succ N)
  unfold s_move
  split
  · rename_i i hi
    split
    · rename_i e he
      refine hu.s (by rw [List.length_modify]; exact h.2.1.1) (by rw [List.length_modify]; exact Nat.le_refl _) (fun s hs => ?_)
      obtain ⟨k, hk⟩ := List.getElem?_of_mem hs
      rw [List.getElem?_modify] at hk
      cases hq : (tS T)[k]? with
      | none => rw [hq] at hk; cases hk
      | some s0 =>
        rw [hq] at hk
        have hk' : some (if i = k then (e, s0.2) else s0) = some s := hk
        have m := hu.2.1.2 s0 (List.mem_of_getElem? hq)
        by_cases z : i = k
        · rw [if_pos z] at hk'
          rw [← Option.some.inj hk']
          exact ⟨(rg_lt he).1, m.2⟩
        · rw [if_neg z] at hk'
          rw [← Option.some.inj hk']
          exact m
    · exact hu
  · exact hu
theorem ok_way {T : TS} {N : Nat} (h : OkT T N) (x y z : Int32) : OkT (s_way T x y z).2 (N + 1) := by
  have hu := h.up (Nat.le_succ N)
  unfold s_way
  split
  · split
    · split
      · rename_i w hw
        split
        · exact hu
        · exact hu.w (by have := (rg_lt hw).1; omega)
      · exact hu
    · exact hu
  · exact hu
theorem ok_feed {T : TS} {N : Nat} (h : OkT T N) (x : Int32) : OkT (s_feed T x).2 (N + 1) := by
  have hu := h.up (Nat.le_succ N)
  unfold s_feed
  split
  · rename_i b hb
    split
    · exact hu
    · obtain ⟨t1, t2⟩ := h.2.2.2.2.1
      exact hu.t (t1.app (By.one (rg_lt hb).1)) (by rw [List.length_append]; simp; omega)
  · exact hu
theorem ok_send {T : TS} {N : Nat} (h : OkT T N) (x : Int32) (w : Int64) (z : Int32) : OkT (s_send T x w z).2 (N + 1) := by
  have hu := h.up (Nat.le_succ N)
  unfold s_send
  split
  · split
    · split
      · split
        · split
          · exact h.send (by assumption) (by assumption)
          · exact hu
        · exact hu
      · exact hu
    · exact hu
  · exact hu
theorem OkT.er {T : TS} {N : Nat} (h : OkT T N) (i : Nat) : OkT (uF T ((tF T).eraseIdx i)) N := h.f (Nat.le_trans (List.length_eraseIdx_le _ _) h.2.2.2.2.2.1) (fun x hx => h.2.2.2.2.2.2 x (List.mem_of_mem_eraseIdx hx))
theorem ok_deliver {T : TS} {N : Nat} (h : OkT T N) (x : Int32) : OkT (s_deliver T x).2 (N + 1) := by
  have hu := h.up (Nat.le_succ N)
  unfold s_deliver
  split
  · split
    · rename_i f hf
      obtain ⟨m1, m2, m3⟩ := h.2.2.2.2.2.2 f (List.mem_of_getElem? hf)
      exact (h.er _).arr m1 m2 m3
    · exact hu
  · exact hu
theorem ok_twice {T : TS} {N : Nat} (h : OkT T N) (x : Int32) : OkT (s_twice T x).2 (N + 1) := by
  have hu := h.up (Nat.le_succ N)
  unfold s_twice
  split
  · split
    · rename_i f hf
      obtain ⟨m1, m2, m3⟩ := h.2.2.2.2.2.2 f (List.mem_of_getElem? hf)
      exact h.arr m1 m2 m3
    · exact hu
  · exact hu
theorem ok_lose {T : TS} {N : Nat} (h : OkT T N) (x : Int32) : OkT (s_lose T x).2 (N + 1) := by
  have hu := h.up (Nat.le_succ N)
  unfold s_lose
  split
  · exact hu.er _
  · exact hu
theorem ok_inject {T : TS} {N : Nat} (h : OkT T N) (x : Int32) : OkT (s_inject T x).2 (N + 1) := by
  have hu := h.up (Nat.le_succ N)
  unfold s_inject
  split
  · rename_i e he
    obtain ⟨t1, t2⟩ := h.2.2.2.2.1
    exact (h.t By.nil (Nat.zero_le _)).arr t1 t2 (rg_lt he).1
  · exact hu
theorem ok_poke {T : TS} {N : Nat} (h : OkT T N) (x y z : Int32) : OkT (s_poke T x y z).2 (N + 1) := by
  have hu := h.up (Nat.le_succ N)
  unfold s_poke
  split
  · split
    · rename_i f hf
      split
      · split
        · rename_i m hm
          split
          · exact hu
          · obtain ⟨m1, m2, m3⟩ := h.2.2.2.2.2.2 f (List.mem_of_getElem? hf)
            refine hu.f (by rw [List.length_set]; exact h.2.2.2.2.2.1) (fun u hu' => ?_)
            rcases List.mem_or_eq_of_mem_set hu' with q | q
            · exact h.2.2.2.2.2.2 u q
            · rw [q]
              exact ⟨m1.set (Nat.xor_lt_two_pow (n := 8) (m1 _) (rg_lt hm).1), by rw [List.length_set]; exact m2, m3⟩
        · exact hu
      · exact hu
    · exact hu
  · exact hu
theorem ok_tick {T : TS} {N : Nat} (h : OkT T N) (x : Int32) : OkT (s_tick T x).2 (N + 1) := by
  have hu := h.up (Nat.le_succ N)
  unfold s_tick
  split
  · split
    · exact hu
    · exact (hu.tick _).1
  · exact hu
theorem ok_forget {T : TS} {N : Nat} (h : OkT T N) (x : Int32) : OkT (s_forget T x).2 (N + 1) := by
  have hu := h.up (Nat.le_succ N)
  unfold s_forget
  split
  · exact hu.k (Nat.zero_le _) (fun k hk => (List.not_mem_nil hk).elim) (fun _ => rfl)
  · exact hu
theorem s_same (T : TS) (x y z : Int32) : (s_flying T).2 = T ∧ (s_packet T x y).2 = T ∧ (s_size T x).2 = T ∧ (s_known T x).2 = T ∧ (s_knows T x y z).2 = T ∧ (s_got T x).2 = T ∧ (s_frame T x y z).2 = T ∧ (s_length T x y).2 = T ∧ (s_count T x).2 = T := by
  refine ⟨rfl, ?_, ?_, ?_, ?_, ?_, ?_, ?_, ?_⟩
  · unfold s_packet; repeat' split
    all_goals rfl
  · unfold s_size; repeat' split
    all_goals rfl
  · unfold s_known; repeat' split
    all_goals rfl
  · unfold s_knows; repeat' split
    all_goals rfl
  · unfold s_got; repeat' split
    all_goals rfl
  · unfold s_frame; repeat' split
    all_goals rfl
  · unfold s_length; repeat' split
    all_goals rfl
  · unfold s_count; repeat' split
    all_goals rfl
