/-! text() -/
theorem isK_L {t : Nat → Int32} {f e k : Nat} (hk : k < 3) (h : isK t f e k = true) : isL (t f) := by
  unfold isK at h
  by_cases z : e - f = kl k
  · rw [if_pos z] at h
    have k4 : 4 ≤ kl k := by unfold kl; split <;> decide
    obtain ⟨m, hm⟩ : ∃ m, kl k = m + 1 := ⟨kl k - 1, by omega⟩
    rw [hm, kC] at h
    by_cases y : t (f + 0) = keysL.getD (ko k + 0) 0
    · have y : t f = keysL.getD (ko k + 0) 0 := y
      rw [y]
      rcases (show k = 0 ∨ k = 1 ∨ k = 2 by omega) with rfl | rfl | rfl <;> decide
    · rw [if_neg y] at h; exact absurd h (by decide)
  · rw [if_neg z] at h; exact absurd h (by decide)
theorem runP_ok {t : Nat → Int32} {n key : Nat} (hk : key < 3) (hn : n ≤ 96) {s' : PS} : ∀ (m to : Nat) (s : PS), to ≤ n → PI key to s → (runP t n key m to s).2 = some s' → PVh s'.c s'.n 1 ∧ nmK (nnO key) s'.c s'.n ∧ s'.n ≤ 96 := by
  intro m
  induction m with
  | zero => intro to s _ _ h; exact absurd h (by simp [runP])
  | succ m ih =>
    intro to s hto hP h
    rw [runP] at h
    have g1 := sk_ge (t := t) (n := n) n to
    obtain ⟨f, hf⟩ : ∃ f, f = sk t n n to := ⟨_, rfl⟩
    rw [← hf] at g1 h
    by_cases zn : n ≤ f
    · rw [if_pos zn] at h
      by_cases q : s.d = true ∨ ¬ lvW s.w = 0
      · rw [if_pos q] at h; exact absurd h (by simp)
      · rw [if_neg q] at h
        have h : endS s = s' := by injection h
        obtain ⟨a1, a2, a3, a4, a5, a6, a7⟩ := hP
        have hd1 : ¬ s.d = true := fun y => q (Or.inl y)
        have hl : lvW s.w = 0 := Decidable.not_not.mp (fun y => q (Or.inr y))
        rw [if_neg hd1] at a4
        obtain ⟨b1, b2, b3, b4, b5, b6, b7⟩ := stl_ok (r := 0) s.w s.c s.n a2 a4 a5
        rcases stl0 a2 a4 a5 with ⟨_, y⟩ | ⟨y, _⟩
        · rw [← h]
          rw [y] at b2 b4
          refine ⟨b2, b3, ?_⟩
          show (stl 0 s.w s.c s.n).2.2 ≤ 96
          have b4 : (stl 0 s.w s.c s.n).2.2 + 0 = s.n + s.w.length := b4
          omega
        · exact absurd hl y
    · rw [if_neg zn] at h
      cases hs : stepS t key to f (wend t n f) s with
      | none => rw [hs] at h; exact absurd h (by simp)
      | some s2 =>
        rw [hs] at h
        exact ih (wend t n f) s2 (wend_le (by omega)) (PI_step hk hP g1 (by omega) hs) h
theorem readP_ok {t : Nat → Int32} {n k : Nat} {s : PS} (hn : n ≤ 96) (h : (readP t n).2 = some (k, s)) : k < 3 ∧ PVh s.c s.n 1 ∧ nmK (nnO k) s.c s.n ∧ s.n ≤ 96 := by
  unfold readP at h
  by_cases z : sk t n n 0 < n
  · rw [if_pos z] at h
    cases hq : kyN t (sk t n n 0) (wend t n (sk t n n 0)) 3 0 with
    | none => rw [hq] at h; exact absurd h (by simp)
    | some q =>
      rw [hq] at h
      have h : (runP t n q 97 (wend t n (sk t n n 0)) s00).2.map (fun s => (q, s)) = some (k, s) := h
      cases hr : (runP t n q 97 (wend t n (sk t n n 0)) s00).2 with
      | none => rw [hr] at h; exact absurd h (by simp)
      | some s' =>
        rw [hr] at h
        have h : (q, s') = (k, s) := by injection h
        injection h with h1 h2
        rw [← h1, ← h2]
        obtain ⟨_, k2, k3⟩ := kyN_in 3 0 hq
        have hl := isK_len k3
        have hk3 : q < 3 := by omega
        exact ⟨hk3, runP_ok hk3 hn 97 _ s00 (wend_le z) (PI_s00 (by omega)) hr⟩
  · rw [if_neg z] at h; exact absurd h (by simp)
/-! the reference's keys -/
theorem M_kL {t : Nat → Int32} {n f w : Nat} {K : am_MU → Int32 → Option (am_MU × Int32)} {u : am_MU} (hw : w < 3) (hn : n ≤ 96) (ht : TM u t n) (hf : f + kl w ≤ n) (h9 : u 110 9 = nI f) (hky : ∀ k, k < 13 → u 117 k = keysL.getD k 0) (hka : ∀ k, k < 4 → u 118 k = keyAtL.getD k 0) : ∀ (m j fu : Nat), j + m = kl w → m + 1 < fu → g_X7_takesKey_55 K fu u (nI w) (nI (kl w)) 1 (nI j) = g_X7_takesKey_106 K u (nI w) (if kC t f (ko w) m j = true then 1 else 0) := by
  have hl : kl w ≤ 5 ∧ ko w + kl w ≤ 13 ∧ keyAtL.getD w 0 = nI (ko w) := by
    rcases (show w = 0 ∨ w = 1 ∨ w = 2 by omega) with rfl | rfl | rfl <;> decide
  intro m
  induction m with
  | zero =>
    intro j fu h1 h2
    obtain ⟨fu, rfl⟩ : ∃ k, fu = k + 1 := ⟨fu - 1, by omega⟩
    rw [g_X7_takesKey_55]
    dsimp only
    rw [if_pos (nI_le (by omega) (by omega)), kC, if_pos rfl]
  | succ m ih =>
    intro j fu h1 h2
    obtain ⟨fu, rfl⟩ : ∃ k, fu = k + 1 := ⟨fu - 1, by omega⟩
    rw [g_X7_takesKey_55]
    dsimp only
    rw [if_neg (nI_ge (by omega) (by omega)), if_neg (show ¬ (1 : Int32) = 0 by decide), h9, nI_add, if_pos (p_inT (by omega) (by omega)), if_pos (p_inT (by omega) (by omega)), nI_clamp (show w < 2 ^ 31 by omega), hka w (by omega), hl.2.2, nI_add, if_pos (p_inT (by omega) (by omega)), nI_clamp (show f + j < 2 ^ 31 by omega), nI_clamp (show ko w + j < 2 ^ 31 by omega), hky _ (by omega), kC]
    have e := ht.2 (f + j) (by omega)
    by_cases z : t (f + j) = keysL.getD (ko w + j) 0
    · rw [if_pos (show u 116 (f + j) = keysL.getD (ko w + j) 0 by rw [e]; exact z), if_pos z]
      simp only [g_X7_takesKey_99, p_let, nI_1]
      exact ih (j + 1) fu (by omega) (by omega)
    · rw [if_neg (show ¬ u 116 (f + j) = keysL.getD (ko w + j) 0 by rw [e]; exact z), if_neg z]
      simp only [g_X7_takesKey_99, p_let, nI_1]
      obtain ⟨fu, rfl⟩ : ∃ k, fu = k + 1 := ⟨fu - 1, by omega⟩
      rw [g_X7_takesKey_55]
      dsimp only
      rw [if_pos rfl, if_neg (show ¬ false = true by decide)]
      split <;> rfl
theorem M_keyL {t : Nat → Int32} {n f e : Nat} {u : am_MU} (hn : n ≤ 96) (ht : TM u t n) (hf : f ≤ e) (he : e ≤ n) (h9 : u 110 9 = nI f) (h8 : u 110 8 = nI e) (hE : EB u t e) (hky : ∀ k, k < 13 → u 117 k = keysL.getD k 0) (hka : ∀ k, k < 4 → u 118 k = keyAtL.getD k 0) : ∀ (m w fu : Nat), w + m = 3 → m < fu → (kyN t f e m w = none ∧ g_X7_takesKey_12 fu u (nI w) = some (u, 0)) ∨ ∃ k x, kyN t f e m w = some k ∧ g_X7_takesKey_12 fu u (nI w) = some (x, 1) ∧ onF [8, 9, 10, 11, 12, 13] u x ∧ x 110 13 = nI k ∧ GO x t n e := by
  have hd : ∀ w, w < 3 → keyAtL.getD (w + 1) 0 - keyAtL.getD w 0 = nI (kl w) := by decide +kernel
  intro m
  induction m with
  | zero =>
    intro w fu h1 h2
    obtain ⟨fu, rfl⟩ : ∃ k, fu = k + 1 := ⟨fu - 1, by omega⟩
    obtain rfl : w = 3 := by omega
    left
    rw [g_X7_takesKey_12]
    dsimp only
    rw [if_pos (by decide)]
    exact ⟨rfl, rfl⟩
  | succ m ih =>
    intro w fu h1 h2
    obtain ⟨fu, rfl⟩ : ∃ k, fu = k + 1 := ⟨fu - 1, by omega⟩
    have hw : w < 3 := by omega
    have kl5 : 4 ≤ kl w ∧ kl w ≤ 5 := by unfold kl; split <;> decide
    rw [g_X7_takesKey_12, kyN]
    dsimp only
    rw [if_neg (show ¬ (3 : Int32) ≤ nI w from nI_ge hw (by decide)), nI_1, if_pos (p_inT (by omega) (by omega)), if_pos (p_inT (by omega) (by omega)), nI_clamp (show w + 1 < 2 ^ 31 by omega), nI_clamp (show w < 2 ^ 31 by omega), hka _ (by omega), hka _ (by omega), hd w hw, p_let]
    have esb : u 110 8 - u 110 9 = nI (e - f) := by rw [h8, h9, pk_sub hf]
    have i106 : g_X7_takesKey_106 (g_X7_takesKey_12 fu) u (nI w) 0 = g_X7_takesKey_12 fu u (nI (w + 1)) := by
      unfold g_X7_takesKey_106
      rw [if_pos rfl, p_let, nI_1]
    by_cases z : e - f = kl w
    · rw [if_pos (show nI (kl w) = u 110 8 - u 110 9 by rw [esb, z])]
      unfold g_X7_takesKey_51
      have kk := M_kL (K := g_X7_takesKey_12 fu) hw hn ht (show f + kl w ≤ n by omega) h9 hky hka (kl w) 0 1700 (by omega) (by omega)
      rw [nI_0] at kk
      rw [kk]
      have ei : isK t f e w = kC t f (ko w) (kl w) 0 := by unfold isK; rw [if_pos z]
      rw [ei]
      by_cases y : kC t f (ko w) (kl w) 0 = true
      · rw [if_pos y, if_pos y]
        right
        unfold g_X7_takesKey_106
        rw [if_neg (show ¬ (1 : Int32) = 0 by decide), p_let]
        have o := onF_u2 (L := [8, 9, 10, 11, 12, 13]) u 13 (nI w) (by simp)
        obtain ⟨x, a1, a2, a3⟩ := M_go hn (TM_on o (by decide) ht) he (by rw [f10 _ _ (by decide)]; exact h8) (EB_congr (f10 _ _ (by decide)) hE)
        rw [a1, p_some]
        exact ⟨w, x, rfl, rfl, onF_tr o (onF_mono a2 (by simp)), by rw [a2.2 13 (by decide), u2_same], a3⟩
      · rw [if_neg y, if_neg y, i106]
        exact ih (w + 1) fu (by omega) (by omega)
    · rw [if_neg (show ¬ nI (kl w) = u 110 8 - u 110 9 by rw [esb]; exact nIne (fun y => z y.symm) (by omega) (by omega))]
      unfold g_X7_takesKey_51
      have ei : isK t f e w = false := by unfold isK; rw [if_neg z]
      rw [ei, if_neg (show ¬ false = true by decide)]
      have kk : g_X7_takesKey_55 (g_X7_takesKey_12 fu) 1700 u (nI w) (nI (kl w)) 0 0 = g_X7_takesKey_106 (g_X7_takesKey_12 fu) u (nI w) 0 := by
        rw [show (1700 : Nat) = 1699 + 1 from rfl, g_X7_takesKey_55]
        dsimp only
        rw [if_pos rfl]
        split <;> rfl
      rw [kk, i106]
      exact ih (w + 1) fu (by omega) (by omega)
/-- the reference reads: a fault's place, or code -/
theorem M_read {t : Nat → Int32} {n : Nat} {u : am_MU} (hn : n ≤ 96) (ht : TM u t n) (hky : ∀ k, k < 13 → u 117 k = keysL.getD k 0) (hka : ∀ k, k < 4 → u 118 k = keyAtL.getD k 0) : ∃ u', (∀ a, a ≠ 110 → a ≠ 119 → a ≠ 120 → a ≠ 121 → u' a = u a) ∧ (∀ j, j ∉ [8, 9, 10, 11, 12, 13, 17, 18, 20] → u' 110 j = u 110 j) ∧ (((readP t n).2 = none ∧ u' 110 9 = nI (readP t n).1 ∧ f_X7_text u = g_X7_text_33 u' 0) ∨ ∃ k s, (readP t n).2 = some (k, s) ∧ u' 110 13 = nI k ∧ MA u' s.c s.n s.l s.w ∧ f_X7_text u = g_X7_text_33 u' 1) := by
  obtain ⟨v1, hv1⟩ : ∃ v, v = am_u2 (am_u2 u 110 8 0) 110 12 (-1) := ⟨_, rfl⟩
  have o1 : onF [8, 9, 10, 11, 12] u v1 := by rw [hv1]; exact onF_tr (onF_u2 _ _ _ (by simp)) (onF_u2 _ _ _ (by simp))
  have v12 : v1 110 12 = -1 := by rw [hv1]; exact u2_same _ _ _ _
  have hE0 : EB v1 t 0 := ⟨fun y => absurd y.1 (by decide), fun _ j _ h2 => by rw [v12]; exact fun e => nI_pos (show j < 2 ^ 31 by omega) (by rw [← e]; decide)⟩
  obtain ⟨v2, a1, a2, a3⟩ := M_go hn (TM_on o1 (by decide) ht) (Nat.zero_le _) (by rw [hv1, f10 _ _ (by decide), u2_same]; rfl) hE0
  have o2 := onF_tr o1 a2
  have t2 := TM_on o2 (by decide) ht
  have etext : f_X7_text u = (f_X7_takesKey v2).bind fun q4 => if q4.2 = 0 then (g_X7_text_32 q4.1) else ((f_X7_takesE q4.1).bind fun q6 => if q6.2 = 0 then (g_X7_text_32 q6.1) else (g_X7_text_33 q6.1 (1 : Int32))) := by
    unfold f_X7_text
    rw [p_let, p_let, ← hv1, a1, p_some]
  have r2 : ∀ a, a ≠ 110 → v2 a = u a := o2.1
  have bad : (readP t n) = (sk t n n 0, none) → f_X7_takesKey v2 = some (v2, 0) → ∃ u', (∀ a, a ≠ 110 → a ≠ 119 → a ≠ 120 → a ≠ 121 → u' a = u a) ∧ (∀ j, j ∉ [8, 9, 10, 11, 12, 13, 17, 18, 20] → u' 110 j = u 110 j) ∧ (((readP t n).2 = none ∧ u' 110 9 = nI (readP t n).1 ∧ f_X7_text u = g_X7_text_33 u' 0) ∨ ∃ k s, (readP t n).2 = some (k, s) ∧ u' 110 13 = nI k ∧ MA u' s.c s.n s.l s.w ∧ f_X7_text u = g_X7_text_33 u' 1) := by
    intro h1 h2
    refine ⟨v2, fun a b1 _ _ _ => r2 a b1, fun j hj => o2.2 j (fun y => hj (by simp at y ⊢; omega)), Or.inl ⟨by rw [h1], by rw [h1]; exact a3.1, ?_⟩⟩
    rw [etext, bG0 h2]
    rfl
  unfold GO at a3
  have g2 := sk_le (t := t) (n := n) n 0 (Nat.zero_le _)
  by_cases z : sk t n n 0 < n
  · have w1 := wend_gt t n (sk t n n 0)
    have w2 := wend_le (t := t) z
    rcases a3.2 with ⟨y, _⟩ | ⟨_, u8, hE, hT⟩
    · omega
    · have eR : readP t n = (match kyN t (sk t n n 0) (wend t n (sk t n n 0)) 3 0 with | none => (sk t n n 0, none) | some k => ((runP t n k 97 (wend t n (sk t n n 0)) s00).1, (runP t n k 97 (wend t n (sk t n n 0)) s00).2.map fun s => (k, s))) := by
        unfold readP
        rw [if_pos z]
        cases kyN t (sk t n n 0) (wend t n (sk t n n 0)) 3 0 <;> rfl
      by_cases l : isL (t (sk t n n 0))
      · obtain ⟨u10, u11⟩ : v2 110 10 = 1 ∧ v2 110 11 = t (sk t n n 0) := by
          rcases hT with ⟨_, q1, q2⟩ | ⟨q, _, _⟩ | ⟨q, _, _⟩
          · rw [if_neg (fun y => absurd y.1 (by decide))] at q1
            exact ⟨q1, q2⟩
          · exact absurd q (LD l)
          · exact absurd (Or.inl l) q
        have ek : f_X7_takesKey v2 = g_X7_takesKey_12 1700 v2 (nI 0) := by unfold f_X7_takesKey; rw [if_pos u10]; rfl
        rcases M_keyL hn t2 (show sk t n n 0 ≤ wend t n (sk t n n 0) by omega) w2 a3.1 u8 hE (fun k hk => by rw [r2 117 (by decide)]; exact hky k hk) (fun k hk => by rw [r2 118 (by decide)]; exact hka k hk) 3 0 1700 rfl (by decide) with ⟨b1, b2⟩ | ⟨k, x, b1, b2, b3, b4, b5⟩
        · rw [b1] at eR
          exact bad eR (by rw [ek]; exact b2)
        · rw [b1] at eR
          obtain ⟨_, k2, k3⟩ := kyN_in 3 0 b1
          have hk3 : k < 3 := by omega
          have hl4 := isK_len k3
          -- the rest
          obtain ⟨y, hy⟩ : ∃ y, y = am_u2 (am_u2 (am_u2 (am_u2 x 110 17 0) 110 18 0) 110 20 0) 121 0 0 := ⟨_, rfl⟩
          have y110 : ∀ j, j ≠ 17 → j ≠ 18 → j ≠ 20 → y 110 j = x 110 j := fun j h1 h2 h3 => by rw [hy, u2_ne _ _ (by decide), f10 _ _ h3, f10 _ _ h2, f10 _ _ h1]
          have yr : ∀ a, a ≠ 110 → a ≠ 121 → y a = x a := fun a h1 h2 => by rw [hy, u2_ne _ _ h2, u2_ne _ _ h1, u2_ne _ _ h1, u2_ne _ _ h1]
          have ty : TM y t n := ⟨by rw [y110 7 (by decide) (by decide) (by decide), b3.2 7 (by decide)]; exact t2.1, fun j hj => by rw [yr 116 (by decide) (by decide), b3.1 116 (by decide)]; exact t2.2 j hj⟩
          have gy : GO y t n (wend t n (sk t n n 0)) := by
            unfold GO EB at b5 ⊢
            rw [y110 8 (by decide) (by decide) (by decide), y110 9 (by decide) (by decide) (by decide), y110 10 (by decide) (by decide) (by decide), y110 11 (by decide) (by decide) (by decide), y110 12 (by decide) (by decide) (by decide)]
            exact b5
          have qy : MQr y s00.c s00.n s00.l s00.w := ⟨by rw [hy, u2_ne _ _ (by decide), f10 _ _ (by decide), f10 _ _ (by decide), u2_same]; rfl, by rw [hy, u2_ne _ _ (by decide), f10 _ _ (by decide), u2_same]; rfl, fun j hj => absurd hj (Nat.not_lt_zero _), by rw [hy, u2_ne _ _ (by decide), u2_same]; rfl, trivial, trivial, by rw [hy]; exact u2_same _ _ _ _⟩
          obtain ⟨u', c1, c2, c3, c4⟩ := M_run hk3 hn 97 (wend t n (sk t n n 0)) 1700 y s00 (by omega) w2 (by decide) ty gy (by rw [y110 13 (by decide) (by decide) (by decide)]; exact b4) qy (PI_s00 (by omega))
          have eE : f_X7_takesE x = some (u', if (runP t n k 97 (wend t n (sk t n n 0)) s00).2.isSome = true then 1 else 0) := by
            unfold f_X7_takesE
            rw [p_let, p_let, p_let, p_let, vb0, ← hy]
            exact c1
          have rows : ∀ a, a ≠ 110 → a ≠ 119 → a ≠ 120 → a ≠ 121 → u' a = u a := fun a h1 h2 h3 h4 => by rw [c2.1 a h1 h2 h3 h4, yr a h1 h4, b3.1 a h1, r2 a h1]
          have flds : ∀ j, j ∉ [8, 9, 10, 11, 12, 13, 17, 18, 20] → u' 110 j = u 110 j := fun j hj => by
            simp at hj
            rw [c2.2 j (by simp; omega), y110 j (by omega) (by omega) (by omega), b3.2 j (by simp; omega), o2.2 j (by simp; omega)]
          have u13 : u' 110 13 = nI k := by rw [c2.2 13 (by decide), y110 13 (by decide) (by decide) (by decide)]; exact b4
          refine ⟨u', rows, flds, ?_⟩
          rw [etext, bG1 (by rw [ek]; exact b2)]
          dsimp only
          rw [eE]
          cases hr : (runP t n k 97 (wend t n (sk t n n 0)) s00).2 with
          | none =>
            left
            refine ⟨by rw [eR]; show Option.map _ (runP t n k 97 (wend t n (sk t n n 0)) s00).2 = none; rw [hr]; rfl, by rw [eR]; exact c3 hr, ?_⟩
            rw [p_some]
            exact if_pos rfl
          | some s' =>
            right
            refine ⟨k, s', by rw [eR]; show Option.map _ (runP t n k 97 (wend t n (sk t n n 0)) s00).2 = _; rw [hr]; rfl, u13, c4 s' hr, ?_⟩
            rw [p_some]
            exact if_neg (show ¬ (1 : Int32) = 0 by decide)
      · have hq : kyN t (sk t n n 0) (wend t n (sk t n n 0)) 3 0 = none := by
          cases h : kyN t (sk t n n 0) (wend t n (sk t n n 0)) 3 0 with
          | none => rfl
          | some k =>
            obtain ⟨_, k2, k3⟩ := kyN_in 3 0 h
            exact absurd (isK_L (by omega) k3) l
        rw [hq] at eR
        refine bad eR ?_
        unfold f_X7_takesKey
        rw [if_neg]
        rcases hT with ⟨q, _, _⟩ | ⟨_, q1, _⟩ | ⟨_, q1, _⟩
        · exact absurd q l
        · rw [q1]; split <;> decide
        · rw [q1]; decide
  · have eR : readP t n = (sk t n n 0, none) := by unfold readP; rw [if_neg z, show sk t n n 0 = n by omega]
    refine bad eR ?_
    unfold f_X7_takesKey
    rcases a3.2 with ⟨_, q⟩ | ⟨y, _⟩
    · rw [if_neg (by rw [q]; decide)]
    · exact absurd y z
