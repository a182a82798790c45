/-! THE CLASS'S READER -/
def CQ (u : am_MU) (key : Nat) (c : Nat → Int32) (n l : Nat) (w : List Int32) (d : Bool) : Prop := u 41 0 = nI key ∧ u 41 1 = nI l ∧ u 41 2 = nI n ∧ (∀ k, k < n → u 42 k = trc (c k)) ∧ u 41 5 = nI w.length ∧ RS (u 43) (w.map sg) ∧ u 41 6 = nI (lvW w) ∧ u 41 7 = nI (nN w) ∧ u 41 8 = (if d = true then 1 else 0)
/-- fields of row 41 written one by one -/
theorem f41 (u : am_MU) {i j : Nat} (v : Int32) (h : j ≠ i) : am_u2 u 41 i v 41 j = u 41 j := u2_nei _ _ (Or.inr h)
theorem s41 (u : am_MU) (i : Nat) (v : Int32) : same [41, 42, 43] u (am_u2 u 41 i v) := same_u2 _ _ _ _ (by simp)
theorem C_put {u : am_MU} {key n l : Nat} {c : Nat → Int32} {w : List Int32} {d : Bool} {x y : Int32} (h : CQ u key c n l w d) (hn : n < 96) (hy : y = trc x) : ∃ u', f_X1_put u y = some u' ∧ same [41, 42, 43] u u' ∧ CQ u' key (upd c n x) (n + 1) l w d := by
  obtain ⟨h0, h1, h2, h3, h4, h5, h6, h7, h8⟩ := h
  refine ⟨am_u2 (am_u2 u 42 n y) 41 2 (nI (n + 1)), ?_, same_tr (same_u2 _ _ _ _ (by simp)) (s41 _ _ _), ?_⟩
  · unfold f_X1_put
    rw [h2, if_neg (show ¬ (96 : Int32) ≤ nI n from nI_ge hn (by decide)), if_pos (p_inT (by omega) hn), nI_clamp (by omega), p_let, p_let, u2_ne _ _ (by decide), h2, nI_1]
  · have q : ∀ j, j ≠ 2 → am_u2 (am_u2 u 42 n y) 41 2 (nI (n + 1)) 41 j = u 41 j := fun j hj => by rw [f41 _ _ hj, u2_ne _ _ (by decide)]
    have q3 : am_u2 (am_u2 u 42 n y) 41 2 (nI (n + 1)) 43 = u 43 := by rw [u2_ne _ _ (by decide), u2_ne _ _ (by decide)]
    refine ⟨by rw [q _ (by decide)]; exact h0, by rw [q _ (by decide)]; exact h1, u2_same _ _ _ _, fun k hk => ?_, by rw [q _ (by decide)]; exact h4, by rw [q3]; exact h5, by rw [q _ (by decide)]; exact h6, by rw [q _ (by decide)]; exact h7, by rw [q _ (by decide)]; exact h8⟩
    rw [u2_ne _ _ (by decide), u2_row]
    by_cases e : k = n
    · rw [e, upd_sm, upd_sm, hy]
    · rw [upd_ne e, upd_ne e]; exact h3 k (by omega)
/-- the top sign goes -/
theorem C_pop {u : am_MU} {key n l : Nat} {c : Nat → Int32} {w : List Int32} {d : Bool} {x : Int32} (h : CQ u key c n l (x :: w) d) (hx : ¬ x = -11 ∧ ¬ x = -10) : CQ (am_u2 u 41 5 (nI w.length)) key c n l w d := by
  obtain ⟨h0, h1, h2, h3, h4, h5, h6, h7, h8⟩ := h
  rw [lvW, if_neg hx.1, Nat.add_zero] at h6
  rw [nN, if_neg hx.2, Nat.add_zero] at h7
  exact ⟨by rw [f41 _ _ (by decide)]; exact h0, by rw [f41 _ _ (by decide)]; exact h1, by rw [f41 _ _ (by decide)]; exact h2, fun k hk => by rw [u2_ne _ _ (by decide)]; exact h3 k hk, u2_same _ _ _ _, by rw [u2_ne _ _ (by decide)]; exact h5.2, by rw [f41 _ _ (by decide)]; exact h6, by rw [f41 _ _ (by decide)]; exact h7, by rw [f41 _ _ (by decide)]; exact h8⟩
theorem C_popN {u : am_MU} {key n l : Nat} {c : Nat → Int32} {w : List Int32} {d : Bool} (h : CQ u key c n l (-10 :: w) d) : CQ (am_u2 (am_u2 u 41 5 (nI w.length)) 41 7 (nI (nN w))) key c n l w d := by
  obtain ⟨h0, h1, h2, h3, h4, h5, h6, h7, h8⟩ := h
  rw [lvW, if_neg (by decide), Nat.add_zero] at h6
  exact ⟨by rw [f41 _ _ (by decide), f41 _ _ (by decide)]; exact h0, by rw [f41 _ _ (by decide), f41 _ _ (by decide)]; exact h1, by rw [f41 _ _ (by decide), f41 _ _ (by decide)]; exact h2, fun k hk => by rw [u2_ne _ _ (by decide), u2_ne _ _ (by decide)]; exact h3 k hk, by rw [f41 _ _ (by decide), u2_same], by rw [u2_ne _ _ (by decide), u2_ne _ _ (by decide)]; exact h5.2, by rw [f41 _ _ (by decide), f41 _ _ (by decide)]; exact h6, u2_same _ _ _ _, by rw [f41 _ _ (by decide), f41 _ _ (by decide)]; exact h8⟩
theorem C_popO {u : am_MU} {key n l : Nat} {c : Nat → Int32} {w : List Int32} {d : Bool} (h : CQ u key c n l (-11 :: w) d) : CQ (am_u2 (am_u2 u 41 5 (nI w.length)) 41 6 (nI (lvW w))) key c n l w d := by
  obtain ⟨h0, h1, h2, h3, h4, h5, h6, h7, h8⟩ := h
  rw [nN, if_neg (by decide), Nat.add_zero] at h7
  exact ⟨by rw [f41 _ _ (by decide), f41 _ _ (by decide)]; exact h0, by rw [f41 _ _ (by decide), f41 _ _ (by decide)]; exact h1, by rw [f41 _ _ (by decide), f41 _ _ (by decide)]; exact h2, fun k hk => by rw [u2_ne _ _ (by decide), u2_ne _ _ (by decide)]; exact h3 k hk, by rw [f41 _ _ (by decide), u2_same], by rw [u2_ne _ _ (by decide), u2_ne _ _ (by decide)]; exact h5.2, u2_same _ _ _ _, by rw [f41 _ _ (by decide), f41 _ _ (by decide)]; exact h7, by rw [f41 _ _ (by decide), f41 _ _ (by decide)]; exact h8⟩
/-- due, or not -/
theorem C_due {u : am_MU} {key n l : Nat} {c : Nat → Int32} {w : List Int32} {d : Bool} (h : CQ u key c n l w d) (d' : Bool) : CQ (am_u2 u 41 8 (if d' = true then 1 else 0)) key c n l w d' := by
  obtain ⟨h0, h1, h2, h3, h4, h5, h6, h7, h8⟩ := h
  exact ⟨by rw [f41 _ _ (by decide)]; exact h0, by rw [f41 _ _ (by decide)]; exact h1, by rw [f41 _ _ (by decide)]; exact h2, fun k hk => by rw [u2_ne _ _ (by decide)]; exact h3 k hk, by rw [f41 _ _ (by decide)]; exact h4, by rw [u2_ne _ _ (by decide)]; exact h5, by rw [f41 _ _ (by decide)]; exact h6, by rw [f41 _ _ (by decide)]; exact h7, u2_same _ _ _ _⟩
theorem C_leaves {u : am_MU} {key n l : Nat} {c : Nat → Int32} {w : List Int32} {d : Bool} (h : CQ u key c n l w d) : CQ (am_u2 u 41 1 (nI (l + 1))) key c n (l + 1) w d := by
  obtain ⟨h0, h1, h2, h3, h4, h5, h6, h7, h8⟩ := h
  exact ⟨by rw [f41 _ _ (by decide)]; exact h0, u2_same _ _ _ _, by rw [f41 _ _ (by decide)]; exact h2, fun k hk => by rw [u2_ne _ _ (by decide)]; exact h3 k hk, by rw [f41 _ _ (by decide)]; exact h4, by rw [u2_ne _ _ (by decide)]; exact h5, by rw [f41 _ _ (by decide)]; exact h6, by rw [f41 _ _ (by decide)]; exact h7, by rw [f41 _ _ (by decide)]; exact h8⟩
theorem map_len (w : List Int32) : (w.map sg).length = w.length := List.length_map _
/-- a sign waits; its own count is written ahead -/
theorem C_waits {u : am_MU} {x y : Int32} {m : Nat} (h4 : u 41 5 = nI m) (hm : m < 96) (hy : y = sg x) : f_X1_waits u y = some (am_u2 (am_u2 u 43 m y) 41 5 (nI (m + 1)), 1) := by
  unfold f_X1_waits
  rw [h4, if_pos (show nI m < 96 from nI_lt hm (by decide)), if_pos (p_inT (by omega) hm), nI_clamp (by omega), p_let, p_let, u2_ne _ _ (by decide), h4, nI_1]
theorem C_push {u : am_MU} {key n l : Nat} {c : Nat → Int32} {w : List Int32} {d : Bool} {x y : Int32} (h0 : u 41 0 = nI key) (h1 : u 41 1 = nI l) (h2 : u 41 2 = nI n) (h3 : ∀ k, k < n → u 42 k = trc (c k)) (h5 : RS (u 43) (w.map sg)) (h6 : u 41 6 = nI (lvW (x :: w))) (h7 : u 41 7 = nI (nN (x :: w))) (h8 : u 41 8 = (if d = true then 1 else 0)) (hy : y = sg x) : CQ (am_u2 (am_u2 u 43 w.length y) 41 5 (nI (w.length + 1))) key c n l (x :: w) d := by
  have q : ∀ j, j ≠ 5 → am_u2 (am_u2 u 43 w.length y) 41 5 (nI (w.length + 1)) 41 j = u 41 j := fun j hj => by rw [f41 _ _ hj, u2_ne _ _ (by decide)]
  refine ⟨by rw [q _ (by decide)]; exact h0, by rw [q _ (by decide)]; exact h1, by rw [q _ (by decide)]; exact h2, fun k hk => by rw [u2_ne _ _ (by decide), u2_ne _ _ (by decide)]; exact h3 k hk, u2_same _ _ _ _, ?_, by rw [q _ (by decide)]; exact h6, by rw [q _ (by decide)]; exact h7, by rw [q _ (by decide)]; exact h8⟩
  rw [u2_ne _ _ (by decide), u2_row, hy]
  have := RS_push (x := sg x) h5
  rw [map_len] at this
  exact this
theorem sg_33 {x : Int32} (h : opB x ∨ x = -11 ∨ x = -10) : sg x = 33 ↔ x = -10 := by
  rcases h with h | h | h
  · rcases h with rfl | rfl | rfl | rfl | rfl | rfl | rfl | rfl | rfl <;> decide
  · subst h; decide
  · subst h; decide
theorem Dw_or {x : Int32} {w : List Int32} (h : Dw (x :: w)) : opB x ∨ x = -11 ∨ x = -10 := h.2.elim (fun q => Or.inl q.1) Or.inr
theorem rk_6 {x : Int32} (h : opB x ∨ x = -11 ∨ x = -10) (hn : ¬ x = -10) : x = -11 ∨ rk x < 6 := by
  rcases h with h | h | h
  · right; have := opB_rk h; omega
  · exact Or.inl h
  · exact absurd h hn
theorem C_endL {key l : Nat} {d : Bool} : ∀ (w : List Int32) (c : Nat → Int32) (n m : Nat) (u : am_MU), w.length < m → n + w.length ≤ 96 → Dw w → CQ u key c n l w d → ∃ u', g_X1_endPiece_5 m u = some u' ∧ same [41, 42, 43] u u' ∧ CQ u' key (stl 6 w c n).2.1 (stl 6 w c n).2.2 l (stl 6 w c n).1 d := by
  intro w
  induction w with
  | nil =>
    intro c n m u hm hn hw h
    obtain ⟨m, rfl⟩ : ∃ k, m = k + 1 := ⟨m - 1, by omega⟩
    rw [g_X1_endPiece_5]
    have h4 : u 41 5 = 0 := h.2.2.2.2.1
    dsimp only
    rw [if_pos (by rw [h4]; decide)]
    exact ⟨u, rfl, same_rf, h⟩
  | cons x w ih =>
    intro c n m u hm hn hw h
    rw [List.length_cons] at hm hn
    obtain ⟨m, rfl⟩ : ∃ k, m = k + 1 := ⟨m - 1, by omega⟩
    have h4 : u 41 5 = nI (w.length + 1) := h.2.2.2.2.1
    have h5 : u 43 w.length = sg x := by have := h.2.2.2.2.2.1.1; rw [map_len] at this; exact this
    rw [g_X1_endPiece_5]
    dsimp only
    rw [if_neg (by rw [h4]; exact nI_nle (by omega) (by omega)), h4, nI_pred, if_pos (p_inT (by omega) (by omega)), nI_clamp (by omega)]
    by_cases z : x = -10
    · subst z
      rw [if_pos (by rw [h5]; decide), p_let, p_let]
      have h7 : u 41 7 = nI (nN w + 1) := by have := h.2.2.2.2.2.2.2.1; rw [nN, if_pos rfl] at this; exact this
      rw [f41 _ _ (by decide), h7, nI_pred]
      obtain ⟨v, a1, a2, a3⟩ := C_put (x := -10) (y := -33) (C_popN h) (by omega) (by decide)
      rw [a1, p_some]
      obtain ⟨u', b1, b2, b3⟩ := ih (upd c n (-10)) (n + 1) m v (by omega) (by omega) hw.1 a3
      refine ⟨u', b1, same_tr (same_tr (same_tr (s41 _ _ _) (s41 _ _ _)) a2) b2, ?_⟩
      rw [stl, if_neg (by decide)]
      exact b3
    · rw [if_neg (by rw [h5]; exact fun q => z ((sg_33 (Dw_or hw)).mp q))]
      refine ⟨u, rfl, same_rf, ?_⟩
      rw [stl, if_pos (rk_6 (Dw_or hw) z)]
      exact h
/-- the class's ranks -/
def rkC (c : Int32) : Nat := if c = 38 then 2 else if c = 42 then 5 else if c = 43 then 4 else if c = 45 then 4 else if c = 47 then 5 else if c = 60 then 3 else if c = 61 then 3 else if c = 62 then 3 else if c = 124 then 1 else 0
theorem p_rkC (u : am_MU) (c : Int32) : f_X1_rankOf u c = some (u, nI (rkC c)) := by
  unfold f_X1_rankOf rkC
  repeat' split
  all_goals first | rfl | contradiction
theorem rkC_sg {x : Int32} (h : opB x) : rkC (sg x) = rk x := by rcases h with rfl | rfl | rfl | rfl | rfl | rfl | rfl | rfl | rfl <;> decide
theorem sg_neg {x : Int32} (h : opB x) : -(sg x) = trc x := by rcases h with rfl | rfl | rfl | rfl | rfl | rfl | rfl | rfl | rfl <;> decide
theorem rkC_op (c : Int32) : (opOf c = 0 → rkC c = 0) ∧ (¬ opOf c = 0 → rkC c = rk (opOf c)) := by
  refine ⟨fun h => ?_, fun h => ?_⟩
  · unfold opOf at h
    unfold rkC
    by_cases h1 : c = 38
    · rw [if_pos h1] at h; exact absurd h (by decide)
    rw [if_neg h1] at h ⊢
    by_cases h2 : c = 42
    · rw [if_pos h2] at h; exact absurd h (by decide)
    rw [if_neg h2] at h ⊢
    by_cases h3 : c = 43
    · rw [if_pos h3] at h; exact absurd h (by decide)
    rw [if_neg h3] at h ⊢
    by_cases h4 : c = 45
    · rw [if_pos h4] at h; exact absurd h (by decide)
    rw [if_neg h4] at h ⊢
    by_cases h5 : c = 47
    · rw [if_pos h5] at h; exact absurd h (by decide)
    rw [if_neg h5] at h ⊢
    by_cases h6 : c = 60
    · rw [if_pos h6] at h; exact absurd h (by decide)
    rw [if_neg h6] at h ⊢
    by_cases h7 : c = 61
    · rw [if_pos h7] at h; exact absurd h (by decide)
    rw [if_neg h7] at h ⊢
    by_cases h8 : c = 62
    · rw [if_pos h8] at h; exact absurd h (by decide)
    rw [if_neg h8] at h ⊢
    by_cases h9 : c = 124
    · rw [if_pos h9] at h; exact absurd h (by decide)
    rw [if_neg h9]
  · obtain ⟨h1, h2⟩ := opOf_B h
    have := rkC_sg h1
    rw [h2] at this
    exact this
theorem C_aboveL {key l r : Nat} {d : Bool} (hr : r ≤ 5) : ∀ (w : List Int32) (c : Nat → Int32) (n m : Nat) (u : am_MU), w.length < m → n + w.length ≤ 96 → Dw w → ¬ hd w = -10 → CQ u key c n l w d → ∃ u', g_X1_putThoseAbove_0 m u (nI r) = some u' ∧ same [41, 42, 43] u u' ∧ CQ u' key (stl (r + 1) w c n).2.1 (stl (r + 1) w c n).2.2 l (stl (r + 1) w c n).1 d := by
  intro w
  induction w with
  | nil =>
    intro c n m u hm hn hw hh h
    obtain ⟨m, rfl⟩ : ∃ k, m = k + 1 := ⟨m - 1, by omega⟩
    rw [g_X1_putThoseAbove_0]
    have h4 : u 41 5 = 0 := h.2.2.2.2.1
    dsimp only
    rw [if_pos (by rw [h4]; decide)]
    exact ⟨u, rfl, same_rf, h⟩
  | cons x w ih =>
    intro c n m u hm hn hw hh h
    rw [List.length_cons] at hm hn
    obtain ⟨m, rfl⟩ : ∃ k, m = k + 1 := ⟨m - 1, by omega⟩
    have h4 : u 41 5 = nI (w.length + 1) := h.2.2.2.2.1
    have h5 : u 43 w.length = sg x := by have := h.2.2.2.2.2.1.1; rw [map_len] at this; exact this
    rw [g_X1_putThoseAbove_0]
    dsimp only
    rw [if_neg (by rw [h4]; exact nI_nle (by omega) (by omega)), h4, nI_pred, if_pos (p_inT (by omega) (by omega)), nI_clamp (by omega), p_rkC, p_some, h5]
    dsimp only
    rw [stl]
    rcases hw.2 with q | q | q
    · have k := opB_rk q.1
      rw [rkC_sg q.1]
      by_cases z : rk x ≤ r
      · rw [if_pos (nI_le z (by omega)), if_pos (Or.inr (by omega))]
        exact ⟨u, rfl, same_rf, h⟩
      · rw [if_neg (nI_ge (by omega) (by omega)), if_neg (fun y => y.elim k.2.2.1 (fun y => z (by omega))), p_let, h4, nI_pred, u2_same, if_pos (p_inT (by omega) (by omega)), nI_clamp (by omega), u2_ne _ _ (show 43 ≠ 41 by decide), h5, sg_neg q.1]
        obtain ⟨v, a1, a2, a3⟩ := C_put (x := x) (y := trc x) (C_pop h ⟨k.2.2.1, k.2.2.2⟩) (by omega) rfl
        rw [a1, p_some]
        obtain ⟨u', b1, b2, b3⟩ := ih (upd c n x) (n + 1) m v (by omega) (by omega) hw.1 q.2.1 a3
        exact ⟨u', b1, same_tr (same_tr (s41 _ _ _) a2) b2, b3⟩
    · subst q
      rw [show rkC (sg (-11)) = 0 from by decide, if_pos (nI_le (Nat.zero_le _) (by omega)), if_pos (Or.inl rfl)]
      exact ⟨u, rfl, same_rf, h⟩
    · exact absurd q hh
theorem stl_01 : ∀ (w : List Int32) (c : Nat → Int32) (n : Nat), stl 1 w c n = stl 0 w c n := by
  intro w
  induction w with
  | nil => intro c n; rfl
  | cons x w ih =>
    intro c n
    have := rk_pos x
    rw [stl, stl]
    by_cases z : x = -11
    · rw [if_pos (Or.inl z), if_pos (Or.inl z)]
    · rw [if_neg (fun y => y.elim z (fun y => by omega)), if_neg (fun y => y.elim z (fun y => by omega)), ih]
def CP (u : am_MU) (key : Nat) (s : PS) : Prop := CQ u key s.c s.n s.l s.w s.d
/-- settling in two steps, as the class does -/
theorem stl_stl {r q : Nat} (h : r ≤ q) : ∀ (w : List Int32) (c : Nat → Int32) (n : Nat), stl r (stl q w c n).1 (stl q w c n).2.1 (stl q w c n).2.2 = stl r w c n := by
  intro w
  induction w with
  | nil => intro c n; rfl
  | cons x w ih =>
    intro c n
    rw [stl]
    by_cases z : x = -11 ∨ rk x < q
    · rw [if_pos z]
    · rw [if_neg z, ih]
      rw [stl, if_neg (fun y => z (y.elim Or.inl (fun y => Or.inr (by omega))))]
theorem stl_len {r : Nat} : ∀ (w : List Int32) (c : Nat → Int32) (n : Nat), (stl r w c n).2.2 + (stl r w c n).1.length = n + w.length := by
  intro w
  induction w with
  | nil => intro c n; rfl
  | cons x w ih =>
    intro c n
    rw [stl]
    by_cases z : x = -11 ∨ rk x < r
    · rw [if_pos z]
    · rw [if_neg z, ih, List.length_cons]; omega
theorem stl_Dw {r : Nat} : ∀ (w : List Int32) (c : Nat → Int32) (n : Nat), Dw w → ¬ hd w = -10 → Dw (stl r w c n).1 ∧ ¬ hd (stl r w c n).1 = -10 := by
  intro w
  induction w with
  | nil => intro c n h1 h2; exact ⟨h1, h2⟩
  | cons x w ih =>
    intro c n h1 h2
    rw [stl]
    by_cases z : x = -11 ∨ rk x < r
    · rw [if_pos z]; exact ⟨h1, h2⟩
    · rw [if_neg z]
      rcases h1.2 with q | q | q
      · exact ih _ _ h1.1 q.2.1
      · exact absurd (Or.inl q) z
      · exact absurd q h2
/-- is a test the first that waits, those that bind more gone? -/
theorem h3_top : ∀ (w : List Int32) (c : Nat → Int32) (n : Nat), Dw w → ¬ hd w = -10 → (h3b w = true ↔ rkC (sg (hd (stl 4 w c n).1)) = 3 ∧ ¬ (stl 4 w c n).1 = []) := by
  intro w
  induction w with
  | nil => intro c n h1 h2; exact ⟨fun q => absurd q (by decide), fun q => absurd rfl q.2⟩
  | cons x w ih =>
    intro c n h1 h2
    rw [stl, h3b]
    rcases h1.2 with q | q | q
    · have k := opB_rk q.1
      rw [if_neg k.2.2.1, if_neg k.2.2.2]
      by_cases z : rk x < 4
      · rw [if_pos (Or.inr z)]
        show _ ↔ rkC (sg x) = 3 ∧ _
        rw [rkC_sg q.1]
        by_cases z3 : rk x = 3
        · rw [if_pos z3]; exact ⟨fun _ => ⟨z3, by simp⟩, fun _ => rfl⟩
        · rw [if_neg z3]
          refine ⟨fun y => ?_, fun y => absurd y.1 z3⟩
          exfalso
          -- below x all bind less
          have low : ∀ (v : List Int32) (b : Nat), Dw v → ¬ hd v = -10 → (opB (hd v) → rk (hd v) < b) → b ≤ 3 → h3b v = true → False := by
            intro v
            induction v with
            | nil => intro b _ _ _ _ y; exact absurd y (by decide)
            | cons x' v ihv =>
              intro b g1 g2 g3 g4 y
              rw [h3b] at y
              rcases g1.2 with p | p | p
              · have k' := opB_rk p.1
                have := g3 p.1
                have this : rk x' < b := this
                rw [if_neg k'.2.2.1, if_neg k'.2.2.2, if_neg (by omega)] at y
                exact ihv (rk x') g1.1 p.2.1 p.2.2 (by omega) y
              · rw [if_pos p] at y; exact absurd y (by decide)
              · exact g2 p
          exact low w (rk x) h1.1 q.2.1 q.2.2 (by omega) y
      · rw [if_neg (show ¬ rk x = 3 by omega), if_neg (fun y => y.elim k.2.2.1 z)]
        exact ih _ _ h1.1 q.2.1
    · subst q
      rw [if_pos rfl, if_pos (Or.inl rfl)]
      refine ⟨fun y => absurd y (by decide), fun y => ?_⟩
      have y1 : rkC (sg (-11)) = 3 := y.1
      exact absurd y1 (by decide)
    · exact absurd q h2
