/-! the class's reader: pieces and signs -/
theorem C_end {u : am_MU} {key n l : Nat} {c : Nat → Int32} {w : List Int32} {d : Bool} (h : CQ u key c n l w d) (hn : n + w.length ≤ 96) (hw : Dw w) : ∃ u', f_X1_endPiece u = some u' ∧ same [41, 42, 43] u u' ∧ CQ u' key (stl 6 w c n).2.1 (stl 6 w c n).2.2 l (stl 6 w c n).1 false := by
  obtain ⟨u', a1, a2, a3⟩ := C_endL w c n 1700 (am_u2 u 41 8 0) (by omega) hn hw (C_due h false)
  exact ⟨u', a1, same_tr (s41 _ _ _) a2, a3⟩
theorem C_leaf {u : am_MU} {key n l : Nat} {c : Nat → Int32} {w : List Int32} {d : Bool} {x y : Int32} (h : CQ u key c n l w d) (hn : n + w.length + 1 ≤ 96) (hw : Dw w) (hy : y = trc x) : ∃ u', f_X1_takeLeaf u y = some u' ∧ same [41, 42, 43] u u' ∧ CQ u' key (stl 6 w (upd c n x) (n + 1)).2.1 (stl 6 w (upd c n x) (n + 1)).2.2 (l + 1) (stl 6 w (upd c n x) (n + 1)).1 false := by
  obtain ⟨v, a1, a2, a3⟩ := C_put (x := x) (y := y) (C_leaves h) (by omega) hy
  obtain ⟨u', b1, b2, b3⟩ := C_end a3 (by omega) hw
  refine ⟨u', ?_, same_tr (same_tr (s41 _ _ _) a2) b2, b3⟩
  unfold f_X1_takeLeaf
  rw [h.2.1, nI_1, p_let, a1, p_some, b1, p_some]
theorem C_69 {u : am_MU} {key n l r : Nat} {c : Nat → Int32} {w : List Int32} {d : Bool} {x : Int32} (hx : opB x) (hr : rk x = r) (h : CQ u key c n l w d) (hn : n + w.length < 96) (hw : Dw w) (hh : ¬ hd w = -10) : ∃ u', g_X1_takesSign_69 u (sg x) (nI r) = some (u', 1) ∧ same [41, 42, 43] u u' ∧ CQ u' key (stl r w c n).2.1 (stl r w c n).2.2 l (x :: (stl r w c n).1) true := by
  have k := opB_rk hx
  obtain ⟨r, rfl⟩ : ∃ r', r = r' + 1 := ⟨r - 1, by omega⟩
  obtain ⟨v, a1, a2, a3⟩ := C_aboveL (r := r) (by omega) w c n 1700 u (by omega) (by omega) hw hh h
  have hl := stl_len (r := r + 1) w c n
  have b := C_due a3 true
  generalize hv : am_u2 v 41 8 (if true = true then 1 else 0) = v2 at b
  obtain ⟨b0, b1, b2, b3, b4, b5, b6, b7, b8⟩ := b
  have e := C_waits (x := x) (y := sg x) b4 (by omega) rfl
  refine ⟨_, ?_, ?_, C_push (x := x) (y := sg x) b0 b1 b2 b3 b5 (by rw [lvW, if_neg k.2.2.1, Nat.add_zero]; exact b6) (by rw [nN, if_neg k.2.2.2, Nat.add_zero]; exact b7) b8 rfl⟩
  · unfold g_X1_takesSign_69
    rw [nI_pred]
    have a1 : f_X1_putThoseAbove u (nI r) = some v := a1
    have hv : am_u2 v 41 8 1 = v2 := hv
    rw [a1, p_some, p_let, hv, e, p_some]
    exact if_pos (Or.inr rfl)
  · rw [← hv]
    exact same_tr (same_tr (same_tr a2 (s41 _ _ _)) (same_u2 _ _ _ _ (by simp))) (s41 _ _ _)
theorem lvW_le : ∀ w : List Int32, lvW w ≤ w.length := by
  intro w
  induction w with
  | nil => exact Nat.le_refl _
  | cons x w ih => rw [lvW, List.length_cons]; split <;> omega
theorem C_sign {u : am_MU} {key to : Nat} {s : PS} (ci : Int32) (hP : PI key to s) (ht : to < 97) (hd1 : s.d = false) (h : CP u key s) : ∃ u', same [41, 42, 43] u u' ∧ ((signS ci s = none ∧ f_X1_takesSign u ci = some (u', 0)) ∨ ∃ s', signS ci s = some s' ∧ f_X1_takesSign u ci = some (u', 1) ∧ CP u' key s') := by
  obtain ⟨p1, p2, p3, p4, p5, p6, p7⟩ := hP
  have hh := p3 hd1
  rw [if_neg (by rw [hd1]; decide)] at p4
  obtain ⟨c, n, l, w, d⟩ := s
  have hd1 : d = false := hd1
  subst hd1
  have h : CQ u key c n l w false := h
  have p1 : n + w.length + 4 ≤ to := p1
  have p2 : Dw w := p2
  have hh : ¬ hd w = -10 := hh
  unfold f_X1_takesSign signS
  by_cases z : ci = 41
  · rw [if_pos z, if_pos z]
    obtain ⟨v, a1, a2, a3⟩ := C_aboveL (r := 0) (by decide) w c n 1700 u (by omega) (by omega) p2 hh h
    rw [stl_01] at a3
    have a1 : f_X1_putThoseAbove u 0 = some v := a1
    have hlen := stl_len (r := 0) w c n
    unfold f_X1_closesBracket
    rw [a1, p_some]
    rcases stl0 p2 p4 p5 with ⟨q1, q2⟩ | ⟨q1, w', q2⟩
    · have a6 : v 41 6 = 0 := by have := a3.2.2.2.2.2.2.1; rw [q2] at this; exact this
      rw [if_pos a6, p_some]
      refine ⟨v, a2, Or.inl ⟨if_pos q1, ?_⟩⟩
      exact if_pos (Or.inl rfl)
    · have q2 : (stl 0 w c n).1 = -11 :: w' := q2
      have q1 : ¬ lvW w = 0 := q1
      have p2' : Dw (stl 0 w c n).1 := (stl_Dw w c n p2 hh).1
      rw [q2] at a3 hlen p2'
      have a6 : v 41 6 = nI (lvW w' + 1) := by have := a3.2.2.2.2.2.2.1; rw [lvW, if_pos rfl] at this; exact this
      have a5 : v 41 5 = nI (w'.length + 1) := a3.2.2.2.2.1
      rw [List.length_cons] at hlen
      obtain ⟨v2, b1, b2, b3⟩ := C_end (C_popO a3) (by omega) p2'.1
      have lb := lvW_le w'
      rw [if_neg (show ¬ v 41 6 = 0 by rw [a6]; exact nI_ne0 (by omega) (by omega)), if_neg (show ¬ v 41 5 = 0 by rw [a5]; exact nI_ne0 (by omega) (by omega)), p_let, p_let, a5, nI_pred, f41 _ _ (by decide), a6, nI_pred, b1, p_some, p_some]
      refine ⟨v2, same_tr (same_tr (same_tr a2 (s41 _ _ _)) (s41 _ _ _)) b2, Or.inr ⟨closeS (c, n, l, w, false), if_neg q1, if_pos (Or.inr rfl), ?_⟩⟩
      show CQ v2 key (stl 6 (stl 0 w c n).1.tail (stl 0 w c n).2.1 (stl 0 w c n).2.2).2.1 (stl 6 (stl 0 w c n).1.tail (stl 0 w c n).2.1 (stl 0 w c n).2.2).2.2 l (stl 6 (stl 0 w c n).1.tail (stl 0 w c n).2.1 (stl 0 w c n).2.2).1 false
      rw [q2]
      exact b3
  · rw [if_neg z, if_neg z, p_rkC, p_some]
    obtain ⟨r1, r2⟩ := rkC_op ci
    by_cases z0 : opOf ci = 0
    · rw [r1 z0, if_pos z0]
      exact ⟨u, same_rf, Or.inl ⟨rfl, if_pos rfl⟩⟩
    · obtain ⟨o1, o2⟩ := opOf_B z0
      have k := opB_rk o1
      rw [r2 z0, if_neg z0]
      dsimp only
      obtain ⟨x, hx⟩ : ∃ x, x = opOf ci := ⟨_, rfl⟩
      rw [← hx] at o1 o2 k ⊢
      obtain ⟨v, a1, a2, a3⟩ := C_aboveL (r := rk x) (by omega) w c n 1700 u (by omega) (by omega) p2 hh h
      have a1 : f_X1_putThoseAbove u (nI (rk x)) = some v := a1
      have hlen := stl_len (r := rk x + 1) w c n
      obtain ⟨d1, d2⟩ := stl_Dw (r := rk x + 1) w c n p2 hh
      obtain ⟨v2, b1, b2, b3⟩ := C_69 (r := rk x) o1 rfl a3 (by omega) d1 d2
      rw [stl_stl (by omega)] at b3
      rw [o2] at b1
      have good : f_X1_takesSign u ci = f_X1_takesSign u ci := rfl
      rw [if_neg (nI_ne0 (by omega) (by omega)), a1, p_some]
      have a5 : v 41 5 = nI (stl (rk x + 1) w c n).1.length := a3.2.2.2.2.1
      have fin : ∀ b : Int32, (b = 1 → rk x = 3 → h3b w = true) → (rk x = 3 → h3b w = true → b = 1) → (b = 0 ∨ b = 1) → ∃ u', same [41, 42, 43] u u' ∧ (((if rk x = 3 ∧ h3b w = true then none else some (opS x (c, n, l, w, false))) = none ∧ g_X1_takesSign_57 v ci (nI (rk x)) b = some (u', 0)) ∨ ∃ s', (if rk x = 3 ∧ h3b w = true then none else some (opS x (c, n, l, w, false))) = some s' ∧ g_X1_takesSign_57 v ci (nI (rk x)) b = some (u', 1) ∧ CP u' key s') := by
        intro b g1 g2 g3
        unfold g_X1_takesSign_57
        by_cases y : rk x = 3 ∧ h3b w = true
        · have : b = 1 := g2 y.1 y.2
          rw [if_neg (show ¬ b = 0 by rw [this]; decide), if_pos (show nI (rk x) = 3 by rw [y.1]; rfl)]
          exact ⟨v, a2, Or.inl ⟨if_pos y, rfl⟩⟩
        · refine ⟨v2, same_tr a2 b2, Or.inr ⟨opS x (c, n, l, w, false), if_neg y, ?_, b3⟩⟩
          rcases g3 with g | g
          · rw [if_pos (show b = 0 from g)]; exact b1
          · have hne : ¬ nI (rk x) = 3 := fun q => by
              have : rk x = 3 := (nI_eq (by omega) (by decide)).mp q
              exact y ⟨this, g1 g this⟩
            rw [if_neg (show ¬ b = 0 by rw [g]; decide), if_neg hne]
            exact b1
      -- the first that waits
      have top : rk x = 3 → (h3b w = true ↔ rkC (sg (hd (stl (rk x + 1) w c n).1)) = 3 ∧ ¬ (stl (rk x + 1) w c n).1 = []) := fun e => by rw [e]; exact h3_top w c n p2 hh
      cases hw : (stl (rk x + 1) w c n).1 with
      | nil =>
        rw [hw] at a5 top
        rw [if_pos (show v 41 5 ≤ 0 by rw [a5]; decide)]
        exact fin 0 (fun e => absurd e (by decide)) (fun e1 e2 => absurd rfl ((top e1).mp e2).2) (Or.inl rfl)
      | cons y w' =>
        rw [hw] at a5 top hlen
        rw [List.length_cons] at a5 hlen
        have a43 : v 43 w'.length = sg y := by have := a3.2.2.2.2.2.1; rw [hw] at this; have := this.1; rw [map_len] at this; exact this
        rw [if_neg (show ¬ v 41 5 ≤ 0 by rw [a5]; exact nI_nle (by omega) (by omega)), a5, nI_pred, if_pos (p_inT (by omega) (by omega)), nI_clamp (by omega), p_rkC, p_some, a43]
        dsimp only
        have top : rk x = 3 → (h3b w = true ↔ rkC (sg y) = 3) := fun e => ⟨fun q => ((top e).mp q).1, fun q => (top e).mpr ⟨q, by simp⟩⟩
        have rb : rkC (sg y) < 10 := by
          unfold rkC
          repeat' split
          all_goals decide
        by_cases q : rkC (sg y) = rk x
        · rw [if_pos (show nI (rkC (sg y)) = nI (rk x) by rw [q])]
          exact fin 1 (fun _ e => (top e).mpr (by rw [q, e])) (fun _ _ => rfl) (Or.inr rfl)
        · rw [if_neg (show ¬ nI (rkC (sg y)) = nI (rk x) from fun e => q ((nI_eq (by omega) (by omega)).mp e))]
          exact fin 0 (fun e => absurd e (by decide)) (fun e1 e2 => absurd ((top e1).mp e2) (by rw [← e1]; exact q)) (Or.inl rfl)
theorem trc_num {m : Nat} (h : m < 10000) : trc (nI m) = nI m := by
  have hz : ∀ y : Int32, y < 0 → ¬ nI m = y := fun y hy e => nI_pos (show m < 2 ^ 31 by omega) (by rw [e]; exact hy)
  have hb : ∀ k : Nat, 10000 ≤ k → k < 2 ^ 31 → ¬ nI m = nI k := fun k h1 h2 e => by
    have := (nI_eq (show m < 2 ^ 31 by omega) h2).mp e
    omega
  unfold trc
  rw [if_neg (hz _ (by decide)), if_neg (hz _ (by decide)), if_neg (hz _ (by decide)), if_neg (hz _ (by decide)), if_neg (hz _ (by decide)), if_neg (hz _ (by decide)), if_neg (hz _ (by decide)), if_neg (hz _ (by decide)), if_neg (hz _ (by decide)), if_neg (hz _ (by decide)), if_neg (show ¬ nI m = 10000 from hb 10000 (by omega) (by omega)), if_neg (show ¬ nI m = 10001 from hb 10001 (by omega) (by omega)), if_neg (show ¬ nI m = 10002 from hb 10002 (by omega) (by omega))]
theorem il45 : il 45 = 96 := by decide +kernel
theorem C_num {u v : am_MU} {t : Nat → Int32} {n f e : Nat} (ht : ∀ k, k < n → u 45 k = t k) (he : e ≤ n) (hn : n ≤ 96) {X : Int32} (hX : numv t f (e - f) = X) (hv : f_X1_takeLeaf u X = some v) : ∀ (m j fu : Nat), j + m = e - f → f ≤ e → m < fu → g_X1_takesNumber_15 fu u 45 (nI e) (numv t f j) (nI (f + j)) = some (v, 1) := by
  intro m
  induction m with
  | zero =>
    intro j fu h1 h2 h3
    obtain ⟨fu, rfl⟩ : ∃ k, fu = k + 1 := ⟨fu - 1, by omega⟩
    rw [g_X1_takesNumber_15]
    dsimp only
    rw [if_pos (nI_le (by omega) (by omega)), show j = e - f by omega, hX, hv, p_some]
  | succ m ih =>
    intro j fu h1 h2 h3
    obtain ⟨fu, rfl⟩ : ∃ k, fu = k + 1 := ⟨fu - 1, by omega⟩
    rw [g_X1_takesNumber_15]
    dsimp only
    rw [if_neg (nI_ge (by omega) (by omega)), il45, if_pos (p_inT (by omega) (by omega)), nI_clamp (by omega), ht _ (by omega), p_let, p_let, nI_1]
    exact ih (j + 1) fu (by omega) h2 (by omega)
theorem J_lat (u : am_MU) {l : Nat} (h : 4 ≤ l ∧ l < 10) : f_J0_isLatin1_aae02 u l = some (u, 1) := by
  unfold f_J0_isLatin1_aae02
  rw [if_neg (by decide), if_pos h, if_pos rfl]
theorem J_cod (u : am_MU) {l : Nat} (h : 4 ≤ l ∧ l < 10) : f_J0_coder_7d493 u l = some (u, 0) := by
  unfold f_J0_coder_7d493
  rw [if_neg (by decide), if_pos h, if_pos (by decide)]
def slen (l : Nat) : Int32 := Int32.ofNat (am_kb.getD ((l + 6) - 10) []).length
theorem J_len (u : am_MU) {l : Nat} (h : 4 ≤ l ∧ l < 10) : f_J0_length_8abf5 u l = some (u, slen l) := by
  unfold f_J0_length_8abf5
  rw [if_pos h, if_pos (by omega), J_cod u h, p_some]
  rcases (show l = 4 ∨ l = 5 ∨ l = 6 ∨ l = 7 ∨ l = 8 ∨ l = 9 by omega) with rfl | rfl | rfl | rfl | rfl | rfl
  · rw [show Int32.ofNat (am_kb.getD (4 + 6 - 10) []).length >>> ((u, (0 : Int32)).2 &&& 31) = slen 4 from show Int32.ofNat (am_kb.getD (4 + 6 - 10) []).length >>> ((0 : Int32) &&& 31) = slen 4 by decide]
  · rw [show Int32.ofNat (am_kb.getD (5 + 6 - 10) []).length >>> ((u, (0 : Int32)).2 &&& 31) = slen 5 from show Int32.ofNat (am_kb.getD (5 + 6 - 10) []).length >>> ((0 : Int32) &&& 31) = slen 5 by decide]
  · rw [show Int32.ofNat (am_kb.getD (6 + 6 - 10) []).length >>> ((u, (0 : Int32)).2 &&& 31) = slen 6 from show Int32.ofNat (am_kb.getD (6 + 6 - 10) []).length >>> ((0 : Int32) &&& 31) = slen 6 by decide]
  · rw [show Int32.ofNat (am_kb.getD (7 + 6 - 10) []).length >>> ((u, (0 : Int32)).2 &&& 31) = slen 7 from show Int32.ofNat (am_kb.getD (7 + 6 - 10) []).length >>> ((0 : Int32) &&& 31) = slen 7 by decide]
  · rw [show Int32.ofNat (am_kb.getD (8 + 6 - 10) []).length >>> ((u, (0 : Int32)).2 &&& 31) = slen 8 from show Int32.ofNat (am_kb.getD (8 + 6 - 10) []).length >>> ((0 : Int32) &&& 31) = slen 8 by decide]
  · rw [show Int32.ofNat (am_kb.getD (9 + 6 - 10) []).length >>> ((u, (0 : Int32)).2 &&& 31) = slen 9 from show Int32.ofNat (am_kb.getD (9 + 6 - 10) []).length >>> ((0 : Int32) &&& 31) = slen 9 by decide]
def ixF (L : List Int32) (b : Int32) : Nat → Nat → Int32
  | 0, _ => -1
  | m + 1, j => if L.getD j 0 = b then nI j else ixF L b m (j + 1)
theorem J_ixL (u : am_MU) {l0 N : Nat} {b : Int32} (hl : 10 ≤ l0 ∧ l0 < 16) (hN : (am_kb.getD (l0 - 10) []).length = N) (hN2 : N < 10) : ∀ (m j fu : Nat), j + m = N → m < fu → g_J1_indexOfChar_4cfef_7 fu u l0 (nI N) b (nI j) = some (u, ixF (am_kb.getD (l0 - 10) []) b m j) := by
  intro m
  induction m with
  | zero =>
    intro j fu h1 h2
    obtain ⟨fu, rfl⟩ : ∃ k, fu = k + 1 := ⟨fu - 1, by omega⟩
    rw [g_J1_indexOfChar_4cfef_7]
    dsimp only
    rw [if_pos (nI_le (by omega) (by omega))]
    rfl
  | succ m ih =>
    intro j fu h1 h2
    obtain ⟨fu, rfl⟩ : ∃ k, fu = k + 1 := ⟨fu - 1, by omega⟩
    rw [g_J1_indexOfChar_4cfef_7]
    dsimp only
    rw [if_neg (nI_ge (by omega) (by omega)), if_pos hl, hN, if_pos (p_inT (by omega) (by omega)), nI_clamp (by omega), ixF]
    by_cases z : (am_kb.getD (l0 - 10) []).getD j 0 = b
    · rw [if_pos z, if_pos z]
    · rw [if_neg z, if_neg z, p_let, nI_1]
      exact ih (j + 1) fu (by omega) (by omega)
def nlen (k : Nat) : Nat := if k = 0 then 3 else 2
theorem ix_nm {k : Nat} (hk : k < 3) (b : Int32) : ixF (am_kb.getD (k + 3) []) b (nlen k) 0 = nmI k b := by
  rcases (show k = 0 ∨ k = 1 ∨ k = 2 by omega) with rfl | rfl | rfl
  · show (if (104 : Int32) = b then nI 0 else if (115 : Int32) = b then nI 1 else if (112 : Int32) = b then nI 2 else -1) = (if b = 104 then 0 else if b = 115 then 1 else if b = 112 then 2 else -1)
    by_cases h1 : b = 104
    · rw [if_pos h1.symm, if_pos h1]; rfl
    rw [if_neg (show ¬ 104 = b from fun e => h1 e.symm), if_neg h1]
    by_cases h2 : b = 115
    · rw [if_pos h2.symm, if_pos h2]; rfl
    rw [if_neg (show ¬ 115 = b from fun e => h2 e.symm), if_neg h2]
    by_cases h3 : b = 112
    · rw [if_pos h3.symm, if_pos h3]; rfl
    rw [if_neg (show ¬ 112 = b from fun e => h3 e.symm), if_neg h3]
  · show (if (100 : Int32) = b then nI 0 else if (103 : Int32) = b then nI 1 else -1) = (if b = 100 then 0 else if b = 103 then 1 else -1)
    by_cases h1 : b = 100
    · rw [if_pos h1.symm, if_pos h1]; rfl
    rw [if_neg (show ¬ 100 = b from fun e => h1 e.symm), if_neg h1]
    by_cases h2 : b = 103
    · rw [if_pos h2.symm, if_pos h2]; rfl
    rw [if_neg (show ¬ 103 = b from fun e => h2 e.symm), if_neg h2]
  · show (if (99 : Int32) = b then nI 0 else if (104 : Int32) = b then nI 1 else -1) = (if b = 99 then 0 else if b = 104 then 1 else -1)
    by_cases h1 : b = 99
    · rw [if_pos h1.symm, if_pos h1]; rfl
    rw [if_neg (show ¬ 99 = b from fun e => h1 e.symm), if_neg h1]
    by_cases h2 : b = 104
    · rw [if_pos h2.symm, if_pos h2]; rfl
    rw [if_neg (show ¬ 104 = b from fun e => h2 e.symm), if_neg h2]
theorem lt_ch : ∀ q, q < 26 → ((nI (97 + q)).toUInt32 % 65536).toInt32 = nI (97 + q) ∧ (nI (97 + q)).toInt8.toInt32 = nI (97 + q) := by decide +kernel
theorem sl7 : ∀ k, k < 3 → slen (7 + k) = nI (nlen k) ∧ Int32.ofNat (am_kb.getD ((7 + k + 6) - 10) []).length = nI (nlen k) ∧ (am_kb.getD ((7 + k + 6) - 10) []).length = nlen k := by decide +kernel
theorem p_idx (u : am_MU) {k q : Nat} (hk : k < 3) (hq : q < 26) : f_J0_indexOf_0f7a4 u (7 + k) (((nI (97 + q)).toUInt32 % 65536).toInt32) = some (u, nmI k (nI (97 + q))) := by
  obtain ⟨l1, l2⟩ := lt_ch q hq
  obtain ⟨s1, s2, s3⟩ := sl7 k hk
  have hl : nlen k < 10 ∧ 0 < nlen k := by unfold nlen; split <;> decide
  rw [l1]
  have h4 : 4 ≤ 7 + k ∧ 7 + k < 10 := by omega
  have key : f_J1_indexOf_4cfef u (7 + k + 6) (nI (97 + q)) 0 (slen (7 + k)) = some (u, nmI k (nI (97 + q))) := by
    unfold f_J1_indexOf_4cfef f_J1_canEncode_9a6ad
    rw [if_neg (nI_pos (by omega)), if_neg (show ¬ (255 : Int32) < nI (97 + q) from nI_nlt (show 97 + q ≤ 255 by omega) (by decide)), p_some]
    dsimp only
    rw [if_neg (show ¬ (1 : Int32) = 0 by decide), p_max, p_some]
    dsimp only
    rw [if_pos (by omega), s1, s2, p_min, p_some]
    dsimp only
    rw [if_neg (show ¬ (0 : Int32) < 0 by decide), if_neg (nI_nlt (Nat.le_refl _) (by omega)), if_pos (show (0 : Int32) < nI (nlen k) from nI_lt hl.2 (by omega))]
    unfold f_J1_indexOfChar_4cfef
    have := J_ixL u (l0 := 7 + k + 6) (N := nlen k) (b := nI (97 + q)) (by omega) s3 hl.1 (nlen k) 0 1700 (by omega) (by omega)
    rw [show 7 + k + 6 - 10 = k + 3 by omega, ix_nm hk, nI_0] at this
    rw [l2, this, p_some]
  unfold f_J0_indexOf_0f7a4
  rw [if_pos h4]
  unfold f_J0_indexOf_7cf53
  rw [if_pos h4, J_lat u h4, p_some]
  dsimp only
  rw [if_neg (show ¬ (1 : Int32) = 0 by decide), J_len u h4, p_some]
  dsimp only
  rw [key, p_some, p_some]
theorem lt_nI {c : Int32} (h : isL c) : ∃ q, q < 26 ∧ c = nI (97 + q) := by
  have h0 : ¬ c < 0 := fun q => h.1 (Int32.lt_trans q (by decide))
  obtain ⟨k, hk, e⟩ := nI_of2 (M := 122) (n := 122) (by decide) h0 (Int32.not_lt.mp h.2)
  have h1 := h.1
  rw [e] at h1
  have : 97 ≤ k := Nat.not_lt.mp (fun q => h1 (nI_lt q (by decide)))
  exact ⟨k - 97, by omega, by rw [e, show 97 + (k - 97) = k by omega]⟩
theorem p_names (u : am_MU) {k : Nat} (hk : k < 3) : f_X1_namesOf u (nI k) = some (u, 7 + k) := by
  rcases (show k = 0 ∨ k = 1 ∨ k = 2 by omega) with rfl | rfl | rfl <;> rfl
theorem trc_nm : ∀ j, j < 3 → (-1 : Int32) - nI j = trc (10000 + nI j) := by decide +kernel
theorem p_isLC (u : am_MU) (c : Int32) : f_X1_isLetter u c = some (u, if isL c then 1 else 0) := by
  unfold f_X1_isLetter
  by_cases h1 : c < 97
  · rw [if_pos h1, if_neg (fun q => q.1 h1)]
  · rw [if_neg h1]
    by_cases h2 : 122 < c
    · rw [if_pos h2, if_neg (fun q => q.2 h2)]
    · rw [if_neg h2, if_pos ⟨h1, h2⟩]
theorem p_isDC (u : am_MU) (c : Int32) : f_X1_isDigit u c = some (u, if isD c then 1 else 0) := by
  unfold f_X1_isDigit
  by_cases h1 : c < 48
  · rw [if_pos h1, if_neg (fun q => q.1 h1)]
  · rw [if_neg h1]
    by_cases h2 : 57 < c
    · rw [if_pos h2, if_neg (fun q => q.2 h2)]
    · rw [if_neg h2, if_pos ⟨h1, h2⟩]
theorem isL1 {u : am_MU} {c : Int32} (h : isL c) : f_X1_isLetter u c = some (u, 1) := by rw [p_isLC, if_pos h]
theorem isL0 {u : am_MU} {c : Int32} (h : ¬ isL c) : f_X1_isLetter u c = some (u, 0) := by rw [p_isLC, if_neg h]
theorem isD1 {u : am_MU} {c : Int32} (h : isD c) : f_X1_isDigit u c = some (u, 1) := by rw [p_isDC, if_pos h]
theorem isD0 {u : am_MU} {c : Int32} (h : ¬ isD c) : f_X1_isDigit u c = some (u, 0) := by rw [p_isDC, if_neg h]
theorem inW1 {u : am_MU} {c : Int32} (h : inW c) : f_X1_isInWord u c = some (u, 1) := by
  unfold f_X1_isInWord
  by_cases l : isL c
  · rw [bG1 (isL1 l)]
  · rw [bG0 (isL0 l), bG1 (isD1 (h.resolve_left l))]
theorem inW0 {u : am_MU} {c : Int32} (h : ¬ inW c) : f_X1_isInWord u c = some (u, 0) := by
  unfold f_X1_isInWord
  rw [bG0 (isL0 (fun l => h (Or.inl l))), bG0 (isD0 (fun d => h (Or.inr d)))]
theorem C_piece {u : am_MU} {key to f n : Nat} {t : Nat → Int32} {s : PS} (hk : key < 3) (hP : PI key to s) (ht : to < 97) (hn : n ≤ 96) (htp : ∀ k, k < n → u 45 k = t k) (hf1 : to ≤ f) (hf : f < n) (hd1 : s.d = true) (h : CP u key s) : ∃ u', same [41, 42, 43] u u' ∧ ((pieceS t key f (wend t n f) s = none ∧ f_X1_takesPiece u 45 (nI f) (nI (wend t n f)) = some (u', 0)) ∨ ∃ s', pieceS t key f (wend t n f) s = some s' ∧ f_X1_takesPiece u 45 (nI f) (nI (wend t n f)) = some (u', 1) ∧ CP u' key s') := by
  obtain ⟨p1, p2, p3, p4, p5, p6, p7⟩ := hP
  have hw := wend_gt t n f
  have hwl := wend_le (t := t) hf
  generalize he : wend t n f = e at *
  obtain ⟨c, nn, l, w, d⟩ := s
  have hd1 : d = true := hd1
  subst hd1
  have h : CQ u key c nn l w true := h
  have p1 : nn + w.length + 4 ≤ to := p1
  have p2 : Dw w := p2
  have p6 : lvW w ≤ 8 := p6
  have p7 : nN w ≤ 8 := p7
  have esub : nI e - nI f = nI (e - f) := pk_sub (by omega)
  unfold f_X1_takesPiece pieceS
  rw [il45, if_pos (p_inT (by omega) (by omega)), nI_clamp (by omega), htp f hf, p_let]
  by_cases z1 : isD (t f)
  · rw [bG1 (isD1 z1)]
    unfold f_X1_takesNumber
    dsimp only
    rw [esub, if_pos z1]
    by_cases z2 : e - f ≤ 4
    · obtain ⟨m, m1, m2⟩ := numv_nI (t := t) (f := f) (e - f) z2 (fun i hi => (wend_in (t := t) (n := n) (j := f + i) (by omega) (by omega)).2 z1)
      have m3 : m < 10000 := Nat.lt_of_lt_of_le m1 (Nat.pow_le_pow_right (by decide) z2)
      obtain ⟨v, a1, a2, a3⟩ := C_leaf (x := numv t f (e - f)) (y := numv t f (e - f)) h (by omega) p2 (by rw [m2, trc_num m3])
      have b := C_num htp hwl hn rfl a1 (e - f) 0 1700 (by omega) (by omega) (by omega)
      rw [if_pos (show nI (e - f) ≤ (4 : Int32) from nI_le z2 (by decide)), if_pos z2]
      have b : g_X1_takesNumber_15 1700 u 45 (nI e) 0 (nI f) = some (v, 1) := b
      rw [b, p_some]
      exact ⟨v, a2, Or.inr ⟨_, rfl, if_pos (Or.inr rfl), a3⟩⟩
    · rw [if_neg (show ¬ nI (e - f) ≤ (4 : Int32) from nI_ge (show 4 < e - f by omega) (by omega)), if_neg z2, p_some]
      exact ⟨u, same_rf, Or.inl ⟨rfl, if_pos (Or.inl rfl)⟩⟩
  · rw [bG0 (isD0 z1), if_neg z1]
    dsimp only
    by_cases z2 : isL (t f)
    · rw [bG1 (isL1 z2), if_pos z2]
      dsimp only
      rw [esub]
      by_cases z3 : e - f = 1
      · rw [if_pos (show nI (e - f) = 1 by rw [z3]; rfl), if_pos z3]
        obtain ⟨q, q1, q2⟩ := lt_nI z2
        unfold f_X1_takesName
        have k0 : u 41 0 = nI key := h.1
        rw [k0, p_names u hk, p_some]
        dsimp only
        rw [if_pos (show 4 ≤ 7 + key ∧ 7 + key < 10 by omega), q2, p_idx u hk q1, p_some, ← q2]
        dsimp only
        by_cases z4 : nmI key (t f) < 0
        · rw [if_neg (Int32.not_le.mpr z4), if_pos z4, p_some]
          exact ⟨u, same_rf, Or.inl ⟨rfl, if_pos rfl⟩⟩
        · rw [if_pos (Int32.not_lt.mp z4), if_neg z4]
          obtain ⟨j, j1, j2⟩ := nmI_in hk z4
          have j3 : j < 3 := by unfold nnO at j1; split at j1 <;> omega
          obtain ⟨v, a1, a2, a3⟩ := C_leaf (x := 10000 + nmI key (t f)) (y := -1 - nmI key (t f)) h (by omega) p2 (by rw [j2]; exact trc_nm j j3)
          rw [a1, p_some, p_some]
          exact ⟨v, a2, Or.inr ⟨_, rfl, if_neg (show ¬ (1 : Int32) = 0 by decide), a3⟩⟩
      · rw [if_neg (show ¬ nI (e - f) = (1 : Int32) from nIne z3 (by omega) (by decide)), if_neg z3]
        exact ⟨u, same_rf, Or.inl ⟨rfl, rfl⟩⟩
    · rw [bG0 (isL0 z2), if_neg z2]
      dsimp only
      obtain ⟨h0, h1, h2, h3, h4, h5, h6, h7, h8⟩ := h
      have k84 : ∃ u', same [41, 42, 43] u u' ∧ (((if t f = 40 then (if lvW w < 8 then some (pushS (-11) (c, nn, l, w, true)) else none) else none) = none ∧ g_X1_takesPiece_84 u (t f) = some (u', 0)) ∨ ∃ s', (if t f = 40 then (if lvW w < 8 then some (pushS (-11) (c, nn, l, w, true)) else none) else none) = some s' ∧ g_X1_takesPiece_84 u (t f) = some (u', 1) ∧ CP u' key s') := by
        unfold g_X1_takesPiece_84
        by_cases z4 : t f = 40
        · rw [if_pos z4, if_pos z4, h6]
          by_cases z5 : lvW w < 8
          · rw [if_pos z5, if_neg (show ¬ (8 : Int32) ≤ nI (lvW w) from nI_ge z5 (by decide)), p_let, nI_1]
            have e4 : am_u2 u 41 6 (nI (lvW w + 1)) 41 5 = nI w.length := by rw [f41 _ _ (by decide)]; exact h4
            have hpu := C_push (u := am_u2 u 41 6 (nI (lvW w + 1))) (key := key) (n := nn) (l := l) (c := c) (w := w) (d := true) (x := -11) (y := t f) (by rw [f41 _ _ (by decide)]; exact h0) (by rw [f41 _ _ (by decide)]; exact h1) (by rw [f41 _ _ (by decide)]; exact h2) (fun k hk => by rw [u2_ne _ _ (by decide)]; exact h3 k hk) (by rw [u2_ne _ _ (by decide)]; exact h5) (by rw [lvW, if_pos rfl]; exact u2_same _ _ _ _) (by rw [nN, if_neg (by decide), f41 _ _ (by decide)]; exact h7) (by rw [f41 _ _ (by decide)]; exact h8) (by rw [z4]; decide)
            rw [C_waits (x := -11) (y := t f) e4 (by omega) (by rw [z4]; decide), p_some]
            exact ⟨_, same_tr (same_tr (s41 _ _ _) (same_u2 _ _ _ _ (by simp))) (s41 _ _ _), Or.inr ⟨_, rfl, if_pos (Or.inr rfl), hpu⟩⟩
          · rw [if_neg z5, if_pos (show (8 : Int32) ≤ nI (lvW w) from nI_le (show 8 ≤ lvW w by omega) (by omega))]
            exact ⟨u, same_rf, Or.inl ⟨rfl, rfl⟩⟩
        · rw [if_neg z4, if_neg z4]
          exact ⟨u, same_rf, Or.inl ⟨rfl, rfl⟩⟩
      by_cases z3 : t f = 33
      · rw [if_pos z3, if_pos z3]
        by_cases z5 : nN w < 8
        · rw [if_pos (show nN w < 8 from z5), if_neg (show ¬ (8 : Int32) ≤ u 41 7 by rw [h7]; exact nI_ge z5 (by decide)), h7, p_let, nI_1]
          have e4 : am_u2 u 41 7 (nI (nN w + 1)) 41 5 = nI w.length := by rw [f41 _ _ (by decide)]; exact h4
          have hpu := C_push (u := am_u2 u 41 7 (nI (nN w + 1))) (key := key) (n := nn) (l := l) (c := c) (w := w) (d := true) (x := -10) (y := t f) (by rw [f41 _ _ (by decide)]; exact h0) (by rw [f41 _ _ (by decide)]; exact h1) (by rw [f41 _ _ (by decide)]; exact h2) (fun k hk => by rw [u2_ne _ _ (by decide)]; exact h3 k hk) (by rw [u2_ne _ _ (by decide)]; exact h5) (by rw [lvW, if_neg (by decide), f41 _ _ (by decide)]; exact h6) (by rw [nN, if_pos rfl]; exact u2_same _ _ _ _) (by rw [f41 _ _ (by decide)]; exact h8) (by rw [z3]; decide)
          rw [C_waits (x := -10) (y := t f) e4 (by omega) (by rw [z3]; decide), p_some]
          exact ⟨_, same_tr (same_tr (s41 _ _ _) (same_u2 _ _ _ _ (by simp))) (s41 _ _ _), Or.inr ⟨_, rfl, if_pos (Or.inr rfl), hpu⟩⟩
        · rw [if_neg (show ¬ nN w < 8 from z5), if_pos (show (8 : Int32) ≤ u 41 7 by rw [h7]; exact nI_le (show 8 ≤ nN w by omega) (by omega))]
          unfold g_X1_takesPiece_84
          rw [if_neg (by rw [z3]; decide)]
          exact ⟨u, same_rf, Or.inl ⟨rfl, rfl⟩⟩
      · rw [if_neg z3, if_neg z3]
        exact k84
