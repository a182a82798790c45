/-! the reference's reader: code, waiting signs, tests -/
theorem p_rank (u : am_MU) (x : Int32) : f_X7_rank u x = some (u, nI (rk x)) := by
  unfold f_X7_rank rk
  repeat' split
  all_goals first | rfl | contradiction
def b2i (b : Bool) : Int32 := if b = true then 1 else 0
/-- tests by brackets -/
def TT (T : Nat → Int32) : List Int32 → Prop
  | [] => True
  | x :: w => TT T w ∧ (x = -11 → T (lvW w) = b2i (h3b w))
theorem TT_stl {T : Nat → Int32} {r : Nat} : ∀ (w : List Int32) (c : Nat → Int32) (n : Nat), TT T w → TT T (stl r w c n).1 := by
  intro w
  induction w with
  | nil => intro c n h; exact h
  | cons x w ih =>
    intro c n h
    rw [stl]
    split
    · exact h
    · exact ih _ _ h.1
theorem TT_upd {T : Nat → Int32} {k : Nat} {v : Int32} : ∀ (w : List Int32), lvW w ≤ k → TT T w → TT (upd T k v) w := by
  intro w
  induction w with
  | nil => intro _ _; trivial
  | cons x w ih =>
    intro h1 h2
    rw [lvW] at h1
    refine ⟨ih (by omega) h2.1, fun e => ?_⟩
    rw [if_pos e] at h1
    rw [upd_ne (by omega)]
    exact h2.2 e
theorem lv_stl {r : Nat} : ∀ (w : List Int32) (c : Nat → Int32) (n : Nat), lvW (stl r w c n).1 = lvW w := by
  intro w
  induction w with
  | nil => intro c n; rfl
  | cons x w ih =>
    intro c n
    rw [stl]
    by_cases z : x = -11 ∨ rk x < r
    · rw [if_pos z]
    · rw [if_neg z, ih, lvW, if_neg (fun q => z (Or.inl q))]; rfl
theorem h3_stl6 : ∀ (w : List Int32) (c : Nat → Int32) (n : Nat), Dw w → h3b (stl 6 w c n).1 = h3b w := by
  intro w
  induction w with
  | nil => intro c n _; rfl
  | cons x w ih =>
    intro c n h
    rw [stl]
    by_cases z : x = -11 ∨ rk x < 6
    · rw [if_pos z]
    · rw [if_neg z, ih _ _ h.1]
      have hx : x = -10 := by
        rcases Dw_or h with q | q | q
        · have := opB_rk q; exact absurd (Or.inr (by omega)) z
        · exact absurd (Or.inl q) z
        · exact q
      rw [h3b, if_neg (fun q => z (Or.inl q)), if_pos hx]
theorem h3_stlhi {r : Nat} (hr : 3 < r) : ∀ (w : List Int32) (c : Nat → Int32) (n : Nat), Dw w → ¬ hd w = -10 → h3b (stl r w c n).1 = h3b w := by
  intro w
  induction w with
  | nil => intro c n _ _; rfl
  | cons x w ih =>
    intro c n h hh
    rw [stl]
    by_cases z : x = -11 ∨ rk x < r
    · rw [if_pos z]
    · rw [if_neg z]
      rcases h.2 with q | q | q
      · have k := opB_rk q.1
        rw [ih _ _ h.1 q.2.1, h3b, if_neg k.2.2.1, if_neg k.2.2.2, if_neg (fun y => z (Or.inr (by omega)))]
      · exact absurd (Or.inl q) z
      · exact absurd q hh
theorem h3_low : ∀ (v : List Int32) (b : Nat), Dw v → ¬ hd v = -10 → (opB (hd v) → rk (hd v) < b) → b ≤ 3 → h3b v = false := by
  intro v
  induction v with
  | nil => intro b _ _ _ _; rfl
  | cons x v ih =>
    intro b g1 g2 g3 g4
    rw [h3b]
    rcases g1.2 with p | p | p
    · have k' := opB_rk p.1
      have this : rk x < b := g3 p.1
      rw [if_neg k'.2.2.1, if_neg k'.2.2.2, if_neg (by omega)]
      exact ih (rk x) g1.1 p.2.1 p.2.2 (by omega)
    · rw [if_pos p]
    · exact absurd p g2
/-- the tests behind a sign -/
theorem h3_op {x : Int32} {w : List Int32} {c : Nat → Int32} {n : Nat} (hx : opB x) (hw : Dw w) (hh : ¬ hd w = -10) : h3b (x :: (stl (rk x) w c n).1) = (if rk x = 3 then true else if rk x ≤ 3 then false else h3b w) := by
  have k := opB_rk hx
  rw [h3b, if_neg k.2.2.1, if_neg k.2.2.2]
  by_cases z : rk x = 3
  · rw [if_pos z, if_pos z]
  · rw [if_neg z, if_neg z]
    obtain ⟨d1, d2⟩ := stl_Dw (r := rk x) w c n hw hh
    by_cases z2 : rk x ≤ 3
    · rw [if_pos z2]
      refine h3_low _ (rk x) d1 d2 (fun q => ?_) z2
      -- what stands there binds less
      have low : ∀ (v : List Int32) (c : Nat → Int32) (n : Nat), opB (hd (stl (rk x) v c n).1) → rk (hd (stl (rk x) v c n).1) < rk x := by
        intro v
        induction v with
        | nil => intro c n q; exact absurd (show opB 0 from q) (by unfold opB; decide)
        | cons y v ihv =>
          intro c n q
          rw [stl] at q ⊢
          by_cases z : y = -11 ∨ rk y < rk x
          · rw [if_pos z] at q ⊢
            exact z.elim (fun e => absurd e (opB_rk q).2.2.1) id
          · rw [if_neg z] at q ⊢
            exact ihv _ _ q
      exact low w c n q
    · rw [if_neg z2]
      exact h3_stlhi (by omega) w c n hw hh
/-- the reader's state in the reference's rows -/
def MQr (u : am_MU) (c : Nat → Int32) (n l : Nat) (w : List Int32) : Prop := u 110 17 = nI n ∧ u 110 18 = nI l ∧ (∀ k, k < n → u 119 k = c k) ∧ u 110 20 = nI w.length ∧ RS (u 120) w ∧ TT (u 121) w ∧ u 121 (lvW w) = b2i (h3b w)
/-- only the reader's rows and fields change -/
def onR (u u' : am_MU) : Prop := (∀ a, a ≠ 110 → a ≠ 119 → a ≠ 120 → a ≠ 121 → u' a = u a) ∧ ∀ j, j ∉ [8, 9, 10, 11, 12, 17, 18, 20] → u' 110 j = u 110 j
theorem onR_rf {u : am_MU} : onR u u := ⟨fun _ _ _ _ _ => rfl, fun _ _ => rfl⟩
theorem onR_tr {u v w : am_MU} (h1 : onR u v) (h2 : onR v w) : onR u w := ⟨fun a a1 a2 a3 a4 => (h2.1 a a1 a2 a3 a4).trans (h1.1 a a1 a2 a3 a4), fun j hj => (h2.2 j hj).trans (h1.2 j hj)⟩
theorem onR_F {L : List Nat} {u v : am_MU} (h : onF L u v) (hL : ∀ j ∈ L, j ∈ [8, 9, 10, 11, 12, 17, 18, 20]) : onR u v := ⟨fun a a1 _ _ _ => h.1 a a1, fun j hj => h.2 j (fun q => hj (hL j q))⟩
theorem onR_row (u : am_MU) {a i : Nat} (v : Int32) (h : a = 119 ∨ a = 120 ∨ a = 121) : onR u (am_u2 u a i v) := ⟨fun b b1 b2 b3 b4 => u2_ne _ _ (by omega), fun j _ => by rw [u2_ne _ _ (by omega)]⟩
/-- what doesn't touch the code, the signs, their counts -/
theorem MQ_F {L : List Nat} {u v : am_MU} {c : Nat → Int32} {n l : Nat} {w : List Int32} (h : onF L u v) (h17 : 17 ∉ L) (h18 : 18 ∉ L) (h20 : 20 ∉ L) (q : MQr u c n l w) : MQr v c n l w := by
  obtain ⟨q1, q2, q3, q4, q5, q6, q7⟩ := q
  exact ⟨by rw [h.2 _ h17]; exact q1, by rw [h.2 _ h18]; exact q2, fun k hk => by rw [h.1 119 (by decide)]; exact q3 k hk, by rw [h.2 _ h20]; exact q4, by rw [h.1 120 (by decide)]; exact q5, by rw [h.1 121 (by decide)]; exact q6, by rw [h.1 121 (by decide)]; exact q7⟩
/-- code, signs (their tests aside) -/
def MA (u : am_MU) (c : Nat → Int32) (n l : Nat) (w : List Int32) : Prop := u 110 17 = nI n ∧ u 110 18 = nI l ∧ (∀ k, k < n → u 119 k = c k) ∧ u 110 20 = nI w.length ∧ RS (u 120) w
theorem M_settleL {l r : Nat} (hr : r ≤ 6) : ∀ (w : List Int32) (c : Nat → Int32) (n m : Nat) (u : am_MU), w.length < m → n + w.length ≤ 96 → MA u c n l w → ∃ u', g_X7_settle_0 m u (nI r) = some u' ∧ onR u u' ∧ (∀ j, j ∉ [17, 20] → u' 110 j = u 110 j) ∧ u' 121 = u 121 ∧ MA u' (stl r w c n).2.1 (stl r w c n).2.2 l (stl r w c n).1 := by
  intro w
  induction w with
  | nil =>
    intro c n m u hm hn h
    obtain ⟨m, rfl⟩ : ∃ k, m = k + 1 := ⟨m - 1, by omega⟩
    rw [g_X7_settle_0]
    have h4 : u 110 20 = 0 := h.2.2.2.1
    dsimp only
    rw [if_pos (show u 110 20 ≤ 0 by rw [h4]; decide)]
    exact ⟨u, rfl, onR_rf, fun _ _ => rfl, rfl, h⟩
  | cons x w ih =>
    intro c n m u hm hn h
    rw [List.length_cons] at hm hn
    obtain ⟨m, rfl⟩ : ∃ k, m = k + 1 := ⟨m - 1, by omega⟩
    obtain ⟨h1, h2, h3, h4, h5⟩ := id h
    have h4 : u 110 20 = nI (w.length + 1) := h4
    have h5a : u 120 w.length = x := h5.1
    rw [g_X7_settle_0, stl]
    dsimp only
    rw [if_neg (show ¬ u 110 20 ≤ 0 by rw [h4]; exact nI_nle (by omega) (by omega)), h4, nI_pred, if_pos (p_inT (by omega) (by omega)), nI_clamp (by omega)]
    by_cases z1 : x = -11
    · rw [if_pos (show u 120 w.length = -11 by rw [h5a]; exact z1), if_pos (Or.inl z1)]
      exact ⟨u, rfl, onR_rf, fun _ _ => rfl, rfl, h⟩
    · rw [if_neg (show ¬ u 120 w.length = -11 by rw [h5a]; exact z1), p_rank, p_some, h5a]
      dsimp only
      by_cases z2 : rk x < r
      · rw [if_pos (nI_lt z2 (by omega)), if_pos (Or.inr z2)]
        exact ⟨u, rfl, onR_rf, fun _ _ => rfl, rfl, h⟩
      · have rb : rk x ≤ 6 := by
          unfold rk
          repeat' split
          all_goals decide
        rw [if_neg (nI_nlt (by omega) (by omega)), if_neg (fun y => y.elim z1 z2), p_let, h4, nI_pred, u2_same, if_pos (p_inT (by omega) (by omega)), nI_clamp (by omega), f10 _ _ (by decide), h1, if_pos (p_inT (by omega) (by omega)), nI_clamp (by omega), u2_ne _ _ (show 120 ≠ 110 by decide), h5a, p_let, p_let]
        obtain ⟨v, hv⟩ : ∃ v, v = am_u2 (am_u2 u 110 20 (nI w.length)) 119 n x := ⟨_, rfl⟩
        have v110 : ∀ j, j ≠ 20 → v 110 j = u 110 j := fun j hj => by rw [hv, u2_ne _ _ (by decide), f10 _ _ hj]
        rw [← hv, v110 17 (by decide), h1, nI_1]
        obtain ⟨v2, hv2⟩ : ∃ v2, v2 = am_u2 v 110 17 (nI (n + 1)) := ⟨_, rfl⟩
        rw [← hv2]
        have o1 : onR u v2 := by
          rw [hv2, hv]
          exact onR_tr (onR_tr (onR_F (onF_u2 (L := [20]) _ _ _ (by simp)) (by simp)) (onR_row _ _ (Or.inl rfl))) (onR_F (onF_u2 (L := [17]) _ _ _ (by simp)) (by simp))
        have o2 : ∀ j, j ∉ [17, 20] → v2 110 j = u 110 j := fun j hj => by
          simp at hj
          rw [hv2, f10 _ _ hj.1, v110 j hj.2]
        have hA : MA v2 (upd c n x) (n + 1) l w := by
          refine ⟨by rw [hv2]; exact u2_same _ _ _ _, by rw [o2 18 (by decide)]; exact h2, fun k hk => ?_, ?_, ?_⟩
          · rw [hv2, u2_ne _ _ (by decide), hv, u2_row]
            by_cases e : k = n
            · rw [e, upd_sm, upd_sm]
            · rw [upd_ne e, upd_ne e, u2_ne _ _ (by decide)]; exact h3 k (by omega)
          · rw [hv2, f10 _ _ (by decide), hv, u2_ne _ _ (by decide), u2_same]
          · rw [hv2, u2_ne _ _ (by decide), hv, u2_ne _ _ (by decide), u2_ne _ _ (by decide)]; exact h5.2
        obtain ⟨u', a1, a2, a3, a4, a5⟩ := ih (upd c n x) (n + 1) m v2 (by omega) (by omega) hA
        refine ⟨u', a1, onR_tr o1 a2, fun j hj => by rw [a3 j hj, o2 j hj], ?_, a5⟩
        rw [a4, hv2, u2_ne _ _ (by decide), hv, u2_ne _ _ (by decide), u2_ne _ _ (by decide)]
theorem M_settle {l r : Nat} (hr : r ≤ 6) {w : List Int32} {c : Nat → Int32} {n : Nat} {u : am_MU} (hn : n + w.length ≤ 96) (h : MA u c n l w) : ∃ u', f_X7_settle u (nI r) = some u' ∧ onR u u' ∧ (∀ j, j ∉ [17, 20] → u' 110 j = u 110 j) ∧ u' 121 = u 121 ∧ MA u' (stl r w c n).2.1 (stl r w c n).2.2 l (stl r w c n).1 := M_settleL hr w c n 1700 u (by omega) hn h
/-- how many nots wait -/
def cn (row : Nat → Int32) : Nat → Nat
  | 0 => 0
  | k + 1 => cn row k + (if row k = -10 then 1 else 0)
theorem cn_w {row : Nat → Int32} : ∀ w : List Int32, RS row w → cn row w.length = nN w := by
  intro w
  induction w with
  | nil => intro _; rfl
  | cons x w ih =>
    intro h
    rw [List.length_cons, cn, ih h.2, h.1, nN]
theorem M_notsL {u : am_MU} {N : Nat} (hN : u 110 20 = nI N) (hN2 : N ≤ 96) : ∀ (m k fu : Nat), k + m = N → m < fu → g_X7_notsOpen_4 fu u (nI (cn (u 120) k)) (nI k) = some (u, nI (cn (u 120) N)) := by
  intro m
  induction m with
  | zero =>
    intro k fu h1 h2
    obtain ⟨fu, rfl⟩ : ∃ k, fu = k + 1 := ⟨fu - 1, by omega⟩
    rw [g_X7_notsOpen_4]
    dsimp only
    rw [if_pos (show u 110 20 ≤ nI k by rw [hN]; exact nI_le (by omega) (by omega)), show k = N by omega]
  | succ m ih =>
    intro k fu h1 h2
    obtain ⟨fu, rfl⟩ : ∃ k, fu = k + 1 := ⟨fu - 1, by omega⟩
    have ih := ih (k + 1) fu (by omega) (by omega)
    rw [cn] at ih
    rw [g_X7_notsOpen_4]
    dsimp only
    rw [if_neg (show ¬ u 110 20 ≤ nI k by rw [hN]; exact nI_ge (by omega) (by omega)), if_pos (p_inT (by omega) (by omega)), nI_clamp (by omega)]
    by_cases z : u 120 k = -10
    · rw [if_pos z] at ih ⊢
      simp only [g_X7_notsOpen_29, p_let, nI_1]
      exact ih
    · rw [if_neg z] at ih ⊢
      simp only [g_X7_notsOpen_29, p_let, nI_1, Int32.add_zero]
      exact ih
theorem M_nots {u : am_MU} {c : Nat → Int32} {n l : Nat} {w : List Int32} (h : MA u c n l w) (hw : w.length ≤ 96) : f_X7_notsOpen u = some (u, nI (nN w)) := by
  have := M_notsL h.2.2.2.1 hw w.length 0 1700 (by omega) (by omega)
  rw [cn_w w h.2.2.2.2] at this
  exact this
theorem MA_F {L : List Nat} {u v : am_MU} {c : Nat → Int32} {n l : Nat} {w : List Int32} (h : onF L u v) (h17 : 17 ∉ L) (h18 : 18 ∉ L) (h20 : 20 ∉ L) (q : MA u c n l w) : MA v c n l w := by
  obtain ⟨q1, q2, q3, q4, q5⟩ := q
  exact ⟨by rw [h.2 _ h17]; exact q1, by rw [h.2 _ h18]; exact q2, fun k hk => by rw [h.1 119 (by decide)]; exact q3 k hk, by rw [h.2 _ h20]; exact q4, by rw [h.1 120 (by decide)]; exact q5⟩
theorem MA_of {u : am_MU} {c : Nat → Int32} {n l : Nat} {w : List Int32} (q : MQr u c n l w) : MA u c n l w := ⟨q.1, q.2.1, q.2.2.1, q.2.2.2.1, q.2.2.2.2.1⟩
theorem MQ_of {u : am_MU} {c : Nat → Int32} {n l : Nat} {w : List Int32} (q : MA u c n l w) (h1 : TT (u 121) w) (h2 : u 121 (lvW w) = b2i (h3b w)) : MQr u c n l w := ⟨q.1, q.2.1, q.2.2.1, q.2.2.2.1, q.2.2.2.2, h1, h2⟩
/-- a sign waits -/
theorem MA_push {u : am_MU} {c : Nat → Int32} {n l : Nat} {w : List Int32} {x : Int32} (h : MA u c n l w) : MA (am_u2 (am_u2 u 120 w.length x) 110 20 (nI (w.length + 1))) c n l (x :: w) ∧ onR u (am_u2 (am_u2 u 120 w.length x) 110 20 (nI (w.length + 1))) ∧ (∀ j, j ≠ 20 → am_u2 (am_u2 u 120 w.length x) 110 20 (nI (w.length + 1)) 110 j = u 110 j) ∧ am_u2 (am_u2 u 120 w.length x) 110 20 (nI (w.length + 1)) 121 = u 121 := by
  obtain ⟨q1, q2, q3, q4, q5⟩ := h
  have o : ∀ j, j ≠ 20 → am_u2 (am_u2 u 120 w.length x) 110 20 (nI (w.length + 1)) 110 j = u 110 j := fun j hj => by rw [f10 _ _ hj, u2_ne _ _ (by decide)]
  refine ⟨⟨by rw [o _ (by decide)]; exact q1, by rw [o _ (by decide)]; exact q2, fun k hk => by rw [u2_ne _ _ (by decide), u2_ne _ _ (by decide)]; exact q3 k hk, u2_same _ _ _ _, ?_⟩, onR_tr (onR_row _ _ (Or.inr (Or.inl rfl))) (onR_F (onF_u2 (L := [20]) _ _ _ (by simp)) (by simp)), o, by rw [u2_ne _ _ (by decide), u2_ne _ _ (by decide)]⟩
  rw [u2_ne _ _ (by decide), u2_row]
  exact RS_push q5
theorem vb0 : vp_nar .boolean (0 : Int32) = 0 := by decide
theorem vb1 : vp_nar .boolean (1 : Int32) = 1 := by decide
theorem p_sign {u : am_MU} {c : Int32} (h1 : u 110 10 = 3) (h2 : u 110 11 = c) : f_X7_signHere u = some (u, opOf c) := by
  unfold f_X7_signHere opOf
  rw [if_pos h1, h2]
  repeat' split
  all_goals first | rfl | contradiction
theorem p_sign0 {u : am_MU} (h1 : ¬ u 110 10 = 3) : f_X7_signHere u = some (u, 0) := by
  unfold f_X7_signHere
  rw [if_neg h1]
theorem p_name (u : am_MU) {key : Nat} (hk : key < 3) (h : u 110 13 = nI key) (c : Int32) : f_X7_nameOf u c = some (u, nmI key c) := by
  unfold f_X7_nameOf nmI
  rcases (show key = 0 ∨ key = 1 ∨ key = 2 by omega) with rfl | rfl | rfl
  · rw [if_pos (show u 110 13 = 0 from h), if_pos (show (0 : Nat) = 0 from rfl)]
    repeat' split
    all_goals first | rfl | contradiction
  · rw [if_neg (show ¬ u 110 13 = 0 by rw [h]; decide), if_pos (show u 110 13 = 1 from h), if_neg (show ¬ (1 : Nat) = 0 by decide), if_pos (show (1 : Nat) = 1 from rfl)]
    repeat' split
    all_goals first | rfl | contradiction
  · rw [if_neg (show ¬ u 110 13 = 0 by rw [h]; decide), if_neg (show ¬ u 110 13 = 1 by rw [h]; decide), if_neg (show ¬ (2 : Nat) = 0 by decide), if_neg (show ¬ (2 : Nat) = 1 by decide)]
    repeat' split
    all_goals first | rfl | contradiction
