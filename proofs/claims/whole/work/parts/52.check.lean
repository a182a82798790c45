/-! keep, back, check -/
theorem p_copyL {a b : Nat} (ia : il a = 1535) (ib : il b = 1535) (hab : a ≠ b) : ∀ (m c n : Nat) (u : am_MU), c + m = 1535 → m < n → (∀ j, j < c → u b j = u a j) → ∃ u', g_X7_copyAll_2 n u a b (nI c) = some u' ∧ same [b] u u' ∧ ∀ j, j < 1535 → u' b j = u a j := by
  intro m
  induction m with
  | zero =>
    intro c n u h1 h2 hL
    obtain ⟨n, rfl⟩ : ∃ k, n = k + 1 := ⟨n - 1, by omega⟩
    obtain rfl : c = 1535 := by omega
    rw [g_X7_copyAll_2]
    dsimp only
    rw [if_pos (show (1535 : Int32) ≤ nI 1535 by decide)]
    exact ⟨u, rfl, same_rf, hL⟩
  | succ m ih =>
    intro c n u h1 h2 hL
    obtain ⟨n, rfl⟩ : ∃ k, n = k + 1 := ⟨n - 1, by omega⟩
    rw [g_X7_copyAll_2]
    dsimp only
    rw [if_neg (show ¬ (1535 : Int32) ≤ nI c from nI_ge (show c < 1535 by omega) (by decide)), ia, ib, if_pos (p_inT (by omega) (by omega)), nI_clamp (by omega), if_pos (p_inT (by omega) (by omega)), p_let, p_let, nI_1]
    obtain ⟨u', g1, g2, g3⟩ := ih (c + 1) n (am_u2 u b c (u a c)) (by omega) (by omega) (fun j hj => by
      rw [u2_ne _ _ hab]
      by_cases e : j = c
      · subst e; exact u2_same _ _ _ _
      · rw [u2_nei _ _ (Or.inr e)]; exact hL j (by omega))
    exact ⟨u', g1, same_tr (same_u2 _ _ _ _ (by simp)) g2, fun j hj => by rw [g3 j hj, u2_ne _ _ hab]⟩
theorem il1535 : il 111 = 1535 ∧ il 112 = 1535 ∧ il 113 = 1535 := by decide +kernel
theorem p_copy {a b : Nat} (ha : a = 111 ∨ a = 112 ∨ a = 113) (hb : b = 111 ∨ b = 112 ∨ b = 113) (hab : a ≠ b) (u : am_MU) : ∃ u', f_X7_copyAll u a b = some u' ∧ same [b] u u' ∧ ∀ j, j < 1535 → u' b j = u a j := by
  obtain ⟨l1, l2, l3⟩ := il1535
  exact p_copyL (by rcases ha with h | h | h <;> (rw [h]; assumption)) (by rcases hb with h | h | h <;> (rw [h]; assumption)) hab 1535 0 1700 u rfl (by decide) (fun j hj => by omega)
theorem MW_copy {R Q : Nat → Int32} {T : Nat → TX} {W : WS} {B : Nat} (hW : WOK T W B) (h : ∀ j, j < 1535 → Q j = R j) (hw : MW R T W) : MW Q T W := by
  have hn := hW.n
  have hm := hW.m
  refine ⟨by rw [h 0 (by omega)]; exact hw.z, by rw [h 1 (by omega)]; exact hw.n, fun j hj => by rw [h _ (by omega)]; exact hw.sea j hj, by rw [h 6 (by omega)]; exact hw.m, fun i hi => MF_congr (fun j h1 h2 => h j (by omega)) (hw.fl i hi), fun t ht => by rw [h _ (by omega)]; exact hw.t1 t ht, fun t ht => by rw [h _ (by omega)]; exact hw.t2 t ht, fun t ht k hk => ?_⟩
  have := (hW.t t ht).2.1.1
  rw [h _ (by omega)]
  exact hw.t3 t ht k hk
theorem p_X5_becKL {W : WS} (hn : W.n ≤ 6) : ∀ (m j n : Nat) (u : am_MU), j + m = W.n → m < n → u 17 1 = nI W.n → (∀ i, i < W.n → CF u (5 + 2 * i) (W.fl i)) → (∀ i, i < j → CF u (21 + 2 * i) (W.fl i)) → ∃ u', g_X5_becomeAll_31 n u 17 1 (nI j) = some u' ∧ (∀ a, ¬ (21 ≤ a ∧ a < 21 + 12) → u' a = u a) ∧ ∀ i, i < W.n → CF u' (21 + 2 * i) (W.fl i) := by
  intro m
  induction m with
  | zero =>
    intro j n u h1 h2 h0 hv hL
    obtain ⟨n, rfl⟩ : ∃ k, n = k + 1 := ⟨n - 1, by omega⟩
    obtain rfl : j = W.n := by omega
    rw [g_X5_becomeAll_31]
    dsimp only
    rw [if_pos (by decide), h0, if_pos (nI_le (Nat.le_refl _) (by omega))]
    exact ⟨u, rfl, fun _ _ => rfl, hL⟩
  | succ m ih =>
    intro j n u h1 h2 h0 hv hL
    obtain ⟨n, rfl⟩ : ∃ k, n = k + 1 := ⟨n - 1, by omega⟩
    have hj6 : j < 6 := by omega
    obtain ⟨v1, b1, b2, b3⟩ := p_X0_become (a := 21 + 2 * j) (b := 5 + 2 * j) (tg21 j (by omega)).1 (tg5 j (by omega)) (tg21 j (by omega)).2 (il5 j (by omega)) ⟨by omega, by omega⟩ (hv j (by omega))
    rw [g_X5_becomeAll_31]
    dsimp only
    rw [if_pos (by decide), h0, if_neg (nI_ge (show j < W.n by omega) (by omega)), al4.1, al4.2, if_neg (show ¬ Int32.ofNat 6 ≤ nI j from nI_ge hj6 (by decide)), if_pos (by decide), if_neg (show ¬ Int32.ofNat 6 ≤ nI j from nI_ge hj6 (by decide)), if_pos (p_inT (by omega) hj6), if_pos (p_inT (by omega) hj6), nI_clamp (by omega), show 17 + 3 + 1 + 2 * j = 21 + 2 * j by omega, show 1 + 3 + 1 + 2 * j = 5 + 2 * j by omega, if_pos (tg21 j (by omega)).1, b1, p_some, p_let, nI_1]
    obtain ⟨u', g1, g2, g3⟩ := ih (j + 1) n v1 (by omega) (by omega) (by rw [b2 _ (by simp; omega)]; exact h0) (fun i hi => CF_congr (b2 _ (by simp; omega)) (b2 _ (by simp; omega)) (hv i hi)) (fun i hi => by
      by_cases e : i = j
      · rw [e]; exact b3
      · exact CF_congr (b2 _ (by simp; omega)) (b2 _ (by simp; omega)) (hL i (by omega)))
    exact ⟨u', g1, fun a ha => by rw [g2 a ha, b2 a (by simp; omega)], g3⟩
theorem p_X5_becK {T : Nat → TX} {W : WS} {u : am_MU} (hn : W.n ≤ 6) (h : CW u 1 T W) : ∃ u', f_X5_becomeAll u 17 1 = some u' ∧ (∀ a, ¬ (17 ≤ a ∧ a < 17 + 16) → u' a = u a) ∧ CW u' 17 T W := by
  obtain ⟨l1, l2, l3, l4, l5, l6, l7⟩ := il17
  obtain ⟨v1, a1, a2, a3, a4⟩ := p_X5_sea (w := 17) (v := 1) (by decide) (by decide) l3 l4 l1 l2 (by decide) u
  have q1 : v1 1 = u 1 := a2 1 (by decide)
  obtain ⟨v2, hv2⟩ : ∃ v2, v2 = am_u2 v1 17 3 (v1 1 3) := ⟨_, rfl⟩
  have q2 : v2 1 = u 1 := by rw [hv2, u2_ne _ _ (by decide), q1]
  obtain ⟨v3, hv3⟩ : ∃ v3, v3 = am_u2 v2 17 4 (v2 1 4) := ⟨_, rfl⟩
  have q3 : v3 1 = u 1 := by rw [hv3, u2_ne _ _ (by decide), q2]
  obtain ⟨v4, hv4⟩ : ∃ v4, v4 = am_u2 v3 17 1 (v3 1 1) := ⟨_, rfl⟩
  have o4 : ∀ a, a ≠ 17 → v4 a = v1 a := fun a ha => by rw [hv4, u2_ne _ _ ha, hv3, u2_ne _ _ ha, hv2, u2_ne _ _ ha]
  have o5 : ∀ a, ¬ (17 ≤ a ∧ a ≤ 17 + 2) → v4 a = u a := fun a ha => by rw [o4 a (by omega), a2 a (by simp; omega)]
  have z1 : v4 17 1 = nI W.n := by rw [hv4, u2_same, q3]; exact h.n
  have z3 : v4 17 3 = W.z := by rw [hv4, u2_nei _ _ (Or.inr (by decide)), hv3, u2_nei _ _ (Or.inr (by decide)), hv2, u2_same, q1]; exact h.z
  have z4 : v4 17 4 = nI W.m := by rw [hv4, u2_nei _ _ (Or.inr (by decide)), hv3, u2_same, q2]; exact h.m
  obtain ⟨u', g1, g2, g3⟩ := p_X5_becKL hn W.n 0 1700 v4 (by omega) (by omega) z1 (fun i hi => CF_congr (o5 _ (by omega)) (o5 _ (by omega)) (h.fl i hi)) (fun i hi => by omega)
  refine ⟨u', ?_, fun a ha => by rw [g2 a (by omega), o5 a (by omega)], by rw [g2 _ (by omega)]; exact z1, fun j hj => ?_, by rw [g2 _ (by omega)]; exact z3, by rw [g2 _ (by omega)]; exact z4, fun k hk => ?_, g3⟩
  · unfold f_X5_becomeAll
    rw [if_pos (by decide), a1, p_some, if_pos (by decide), p_let, p_let, p_let, ← hv2, ← hv3, ← hv4]
    rw [nI_0] at g1
    exact g1
  · rw [g2 _ (by omega), o4 _ (by omega), a3 j hj]; exact h.sea j hj
  · rw [g2 _ (by omega), o4 _ (by omega), a4 k hk]; exact h.law k hk
theorem p_X5_becBL {W : WS} (hn : W.n ≤ 6) : ∀ (m j n : Nat) (u : am_MU), j + m = W.n → m < n → u 1 1 = nI W.n → (∀ i, i < W.n → CF u (21 + 2 * i) (W.fl i)) → (∀ i, i < j → CF u (5 + 2 * i) (W.fl i)) → ∃ u', g_X5_becomeAll_31 n u 1 17 (nI j) = some u' ∧ (∀ a, ¬ (5 ≤ a ∧ a < 5 + 12) → u' a = u a) ∧ ∀ i, i < W.n → CF u' (5 + 2 * i) (W.fl i) := by
  intro m
  induction m with
  | zero =>
    intro j n u h1 h2 h0 hv hL
    obtain ⟨n, rfl⟩ : ∃ k, n = k + 1 := ⟨n - 1, by omega⟩
    obtain rfl : j = W.n := by omega
    rw [g_X5_becomeAll_31]
    dsimp only
    rw [if_pos (by decide), h0, if_pos (nI_le (Nat.le_refl _) (by omega))]
    exact ⟨u, rfl, fun _ _ => rfl, hL⟩
  | succ m ih =>
    intro j n u h1 h2 h0 hv hL
    obtain ⟨n, rfl⟩ : ∃ k, n = k + 1 := ⟨n - 1, by omega⟩
    have hj6 : j < 6 := by omega
    obtain ⟨v1, b1, b2, b3⟩ := p_X0_become (a := 5 + 2 * j) (b := 21 + 2 * j) (tg5 j (by omega)) (tg21 j (by omega)).1 (il5 j (by omega)) (tg21 j (by omega)).2 ⟨by omega, by omega⟩ (hv j (by omega))
    rw [g_X5_becomeAll_31]
    dsimp only
    rw [if_pos (by decide), h0, if_neg (nI_ge (show j < W.n by omega) (by omega)), al4.1, al4.2, if_neg (show ¬ Int32.ofNat 6 ≤ nI j from nI_ge hj6 (by decide)), if_pos (by decide), if_neg (show ¬ Int32.ofNat 6 ≤ nI j from nI_ge hj6 (by decide)), if_pos (p_inT (by omega) hj6), if_pos (p_inT (by omega) hj6), nI_clamp (by omega), show 1 + 3 + 1 + 2 * j = 5 + 2 * j by omega, show 17 + 3 + 1 + 2 * j = 21 + 2 * j by omega, if_pos (tg5 j (by omega)), b1, p_some, p_let, nI_1]
    obtain ⟨u', g1, g2, g3⟩ := ih (j + 1) n v1 (by omega) (by omega) (by rw [b2 _ (by simp; omega)]; exact h0) (fun i hi => CF_congr (b2 _ (by simp; omega)) (b2 _ (by simp; omega)) (hv i hi)) (fun i hi => by
      by_cases e : i = j
      · rw [e]; exact b3
      · exact CF_congr (b2 _ (by simp; omega)) (b2 _ (by simp; omega)) (hL i (by omega)))
    exact ⟨u', g1, fun a ha => by rw [g2 a ha, b2 a (by simp; omega)], g3⟩
theorem p_X5_becB {T : Nat → TX} {W : WS} {u : am_MU} (hn : W.n ≤ 6) (h : CW u 17 T W) : ∃ u', f_X5_becomeAll u 1 17 = some u' ∧ (∀ a, ¬ (1 ≤ a ∧ a < 1 + 16) → u' a = u a) ∧ CW u' 1 T W := by
  obtain ⟨l1, l2, l3, l4, l5, l6, l7⟩ := il17
  obtain ⟨v1, a1, a2, a3, a4⟩ := p_X5_sea (w := 1) (v := 17) (by decide) (by decide) l1 l2 l3 l4 (by decide) u
  have q1 : v1 17 = u 17 := a2 17 (by decide)
  obtain ⟨v2, hv2⟩ : ∃ v2, v2 = am_u2 v1 1 3 (v1 17 3) := ⟨_, rfl⟩
  have q2 : v2 17 = u 17 := by rw [hv2, u2_ne _ _ (by decide), q1]
  obtain ⟨v3, hv3⟩ : ∃ v3, v3 = am_u2 v2 1 4 (v2 17 4) := ⟨_, rfl⟩
  have q3 : v3 17 = u 17 := by rw [hv3, u2_ne _ _ (by decide), q2]
  obtain ⟨v4, hv4⟩ : ∃ v4, v4 = am_u2 v3 1 1 (v3 17 1) := ⟨_, rfl⟩
  have o4 : ∀ a, a ≠ 1 → v4 a = v1 a := fun a ha => by rw [hv4, u2_ne _ _ ha, hv3, u2_ne _ _ ha, hv2, u2_ne _ _ ha]
  have o5 : ∀ a, ¬ (1 ≤ a ∧ a ≤ 1 + 2) → v4 a = u a := fun a ha => by rw [o4 a (by omega), a2 a (by simp; omega)]
  have z1 : v4 1 1 = nI W.n := by rw [hv4, u2_same, q3]; exact h.n
  have z3 : v4 1 3 = W.z := by rw [hv4, u2_nei _ _ (Or.inr (by decide)), hv3, u2_nei _ _ (Or.inr (by decide)), hv2, u2_same, q1]; exact h.z
  have z4 : v4 1 4 = nI W.m := by rw [hv4, u2_nei _ _ (Or.inr (by decide)), hv3, u2_same, q2]; exact h.m
  obtain ⟨u', g1, g2, g3⟩ := p_X5_becBL hn W.n 0 1700 v4 (by omega) (by omega) z1 (fun i hi => CF_congr (o5 _ (by omega)) (o5 _ (by omega)) (h.fl i hi)) (fun i hi => by omega)
  refine ⟨u', ?_, fun a ha => by rw [g2 a (by omega), o5 a (by omega)], by rw [g2 _ (by omega)]; exact z1, fun j hj => ?_, by rw [g2 _ (by omega)]; exact z3, by rw [g2 _ (by omega)]; exact z4, fun k hk => ?_, g3⟩
  · unfold f_X5_becomeAll
    rw [if_pos (by decide), a1, p_some, if_pos (by decide), p_let, p_let, p_let, ← hv2, ← hv3, ← hv4]
    rw [nI_0] at g1
    exact g1
  · rw [g2 _ (by omega), o4 _ (by omega), a3 j hj]; exact h.sea j hj
  · rw [g2 _ (by omega), o4 _ (by omega), a4 k hk]; exact h.law k hk
theorem k_keep : Call (fun u => f_X6_keep u) (fun u => f_X7_keep u) := by
  intro S B hS hB
  have hn := hS.now.n
  have hmm := hS.now.m
  have h := OK_mono hS (show B ≤ B + 2400 by omega)
  refine ⟨(S.T, S.now, some S.now, S.tl, S.tp, S.sh, S.sl, S.wc, S.wt), nI S.now.n, ⟨h.now, fun W hW => ?_, h.tl, h.sh, h.sl, h.wc⟩, fun u hu => ?_, fun u hu => ?_⟩
  · obtain rfl : S.now = W := by injection hW
    exact ⟨h.now, Nat.le_refl _⟩
  · obtain ⟨v, a1, a2, a3⟩ := p_X5_becK hn hu.now
    have q : ∀ a, a ≠ 0 → ¬ (17 ≤ a ∧ a < 33) → am_u2 v 0 2 1 a = u a := fun a h1 h2 => by rw [u2_ne _ _ h1, a2 a h2]
    have q0 : ∀ j, j ≠ 2 → am_u2 v 0 2 1 0 j = u 0 j := fun j hj => by rw [u2_nei _ _ (Or.inr hj), a2 0 (by omega)]
    refine ⟨am_u2 v 0 2 1, ?_, ⟨CW_congr (q _ (by omega) (by omega)) (q _ (by omega) (by omega)) (q _ (by omega) (by omega)) (fun a h1 h2 => q a (by omega) (by omega)) hn hu.now, u2_same _ _ _ _, fun W hW => ?_, fun t ht => by have ht : t < S.now.m := ht; exact CT_congr (q _ (by omega) (by omega)) (q _ (by omega) (by omega)) (hu.tx t ht), by rw [q0 _ (by decide)]; exact hu.tl, fun k hk => by rw [q 45 (by omega) (by omega)]; exact hu.tp k hk, fun s hs => by rw [q _ (by omega) (by omega)]; exact hu.so s hs, fun s hs => by rw [q _ (by omega) (by omega)]; exact hu.ln s hs, fun s hs c hc => by rw [q _ (by omega) (by omega)]; exact hu.ce s hs c hc, fun k hk => CS_congr (fun b h1 h2 => q b (by omega) (by omega)) (hu.sl k hk), by rw [q0 _ (by decide)]; exact hu.wc, fun k hk => by rw [q 48 (by omega) (by omega)]; exact hu.wt k hk⟩, fun a ha => q a (by omega) (by omega)⟩
    · show f_X6_keep u = _
      unfold f_X6_keep
      have e : am_u2 v 0 2 1 1 1 = nI S.now.n := by rw [q _ (by omega) (by omega)]; exact hu.now.n
      rw [a1, p_some, p_let, e]
    · obtain rfl : S.now = W := by injection hW
      exact CW_congr (u2_ne _ _ (by decide)) (u2_ne _ _ (by decide)) (u2_ne _ _ (by decide)) (fun a h1 h2 => u2_ne _ _ (by omega)) hn a3
  · obtain ⟨v, a1, a2, a3⟩ := p_copy (a := 111) (b := 112) (Or.inl rfl) (Or.inr (Or.inl rfl)) (by decide) u
    have q : ∀ a, a ≠ 110 → a ≠ 112 → am_u2 v 110 3 1 a = u a := fun a h1 h2 => by rw [u2_ne _ _ h1, a2 a (by simp; omega)]
    have q0 : ∀ j, j ≠ 3 → am_u2 v 110 3 1 110 j = u 110 j := fun j hj => by rw [u2_nei _ _ (Or.inr hj), a2 110 (by decide)]
    refine ⟨am_u2 v 110 3 1, ?_, ⟨by rw [q 111 (by omega) (by omega)]; exact hu.now, u2_same _ _ _ _, fun W hW => ?_, by rw [q0 _ (by decide)]; exact hu.tl, fun k hk => by rw [q 116 (by omega) (by omega)]; exact hu.tp k hk, fun s hs => by rw [q 124 (by omega) (by omega)]; exact hu.so s hs, fun s hs => by rw [q 125 (by omega) (by omega)]; exact hu.ln s hs, fun s hs c hc => by rw [q 126 (by omega) (by omega)]; exact hu.ce s hs c hc, fun k hk => MS_congr (by rw [q 127 (by omega) (by omega)]) (by rw [q 128 (by omega) (by omega)]) (by rw [q 129 (by omega) (by omega)]) (fun i hi => by rw [q 130 (by omega) (by omega)]) (hu.sl k hk), by rw [q0 _ (by decide)]; exact hu.wc, fun k hk => by rw [q 132 (by omega) (by omega)]; exact hu.wt k hk, fun k hk => by rw [q 117 (by omega) (by omega)]; exact hu.ky k hk, fun k hk => by rw [q 118 (by omega) (by omega)]; exact hu.ka k hk⟩, fun a ha => q a (by omega) (by omega)⟩
    · show f_X7_keep u = _
      unfold f_X7_keep
      have e : am_u2 v 110 3 1 111 1 = nI S.now.n := by rw [q _ (by omega) (by omega)]; exact hu.now.n
      rw [a1, p_some, p_let, e]
    · obtain rfl : S.now = W := by injection hW
      rw [u2_ne _ _ (by decide)]
      exact MW_copy hS.now a3 hu.now
theorem k_back : Call (fun u => f_X6_back u) (fun u => f_X7_back u) := by
  intro S B hS hB
  have h := OK_mono hS (show B ≤ B + 2400 by omega)
  cases hI : S.img with
  | none =>
    refine Cro hS (-1000000002) (fun u hu => ?_) (fun u hu => ?_)
    · show f_X6_back u = _
      unfold f_X6_back
      have e : u 0 2 = 0 := by rw [hu.kept, hI]; rfl
      rw [if_pos e]
    · show f_X7_back u = _
      unfold f_X7_back
      have e : u 110 3 = 0 := by rw [hu.kept, hI]; rfl
      rw [if_pos e]
  | some W =>
    obtain ⟨w1, w2⟩ := hS.img W hI
    have hn := w1.n
    have hmm := hS.now.m
    refine ⟨(S.T, W, S.img, S.tl, S.tp, S.sh, S.sl, S.wc, S.wt), nI W.n, ⟨(h.img W hI).1, fun V hV => ?_, h.tl, h.sh, h.sl, h.wc⟩, fun u hu => ?_, fun u hu => ?_⟩
    · have hV : S.img = some V := hV
      obtain rfl : W = V := by rw [hI] at hV; injection hV
      exact ⟨(h.img W hI).1, Nat.le_refl _⟩
    · obtain ⟨v, a1, a2, a3⟩ := p_X5_becB hn (hu.img W hI)
      have q : ∀ a, ¬ (1 ≤ a ∧ a < 17) → v a = u a := fun a h2 => a2 a (by omega)
      refine ⟨v, ?_, ⟨a3, by rw [q 0 (by omega)]; exact hu.kept, fun V hV => CW_congr (q _ (by omega)) (q _ (by omega)) (q _ (by omega)) (fun a h1 h2 => q a (by omega)) (hS.img V hV).1.n (hu.img V hV), fun t ht => by have ht : t < W.m := ht; exact CT_congr (q _ (by omega)) (q _ (by omega)) (hu.tx t (by omega)), by rw [q 0 (by omega)]; exact hu.tl, fun k hk => by rw [q 45 (by omega)]; exact hu.tp k hk, fun s hs => by rw [q _ (by omega)]; exact hu.so s hs, fun s hs => by rw [q _ (by omega)]; exact hu.ln s hs, fun s hs c hc => by rw [q _ (by omega)]; exact hu.ce s hs c hc, fun k hk => CS_congr (fun b h1 h2 => q b (by omega)) (hu.sl k hk), by rw [q 0 (by omega)]; exact hu.wc, fun k hk => by rw [q 48 (by omega)]; exact hu.wt k hk⟩, fun a ha => q a (by omega)⟩
      show f_X6_back u = _
      unfold f_X6_back
      have e : u 0 2 = 1 := by rw [hu.kept, hI]; rfl
      rw [if_neg (by rw [e]; decide), a1, p_some, a3.n]
    · obtain ⟨v, a1, a2, a3⟩ := p_copy (a := 112) (b := 111) (Or.inr (Or.inl rfl)) (Or.inl rfl) (by decide) u
      have hW : MW (v 111) S.T W := MW_copy w1 a3 (hu.img W hI)
      refine ⟨v, ?_, MI_now a2 (by simp) hu hW, hi_same a2 (by simp)⟩
      show f_X7_back u = _
      unfold f_X7_back
      have e : u 110 3 = 1 := by rw [hu.kept, hI]; rfl
      rw [if_neg (by rw [e]; decide), a1, p_some, hW.n]
/-! check -/
def chF (e : SE) (wt : Nat → Int32) (G N : Nat) : Nat → Nat → FS → Int32
  | 0, _, _ => if G ≤ 2 * N then 0 else nI (1 + 2 * N)
  | m + 1, k, s => if 2 * k < G ∧ wt (2 * k) = tkM e s then (if 2 * k + 1 < G ∧ wt (2 * k + 1) = sm (crI (tkS e s).r) 24 then chF e wt G N m (k + 1) (tkS e s) else nI (2 + 2 * k)) else nI (1 + 2 * k)
theorem told1 {u : am_MU} {wt : Nat → Int32} {G p : Nat} {d : Int32} (hG : G ≤ 60) (hw : ∀ k, k < G → u 48 k = wt k) (h : p < G ∧ wt p = d) : f_X6_isTold u (nI p) (nI G) d = some (u, 1) := by
  unfold f_X6_isTold
  rw [if_neg (nI_ge h.1 (by omega)), if_neg (show ¬ (60 : Int32) ≤ nI p from nI_ge (show p < 60 by omega) (by decide)), if_pos (p_inT (by omega) (by omega)), nI_clamp (by omega), hw p h.1, if_pos h.2]
theorem told0 {u : am_MU} {wt : Nat → Int32} {G p : Nat} {d : Int32} (hG : G ≤ 60) (hp : p < 1000) (hw : ∀ k, k < G → u 48 k = wt k) (h : ¬ (p < G ∧ wt p = d)) : f_X6_isTold u (nI p) (nI G) d = some (u, 0) := by
  unfold f_X6_isTold
  by_cases z : p < G
  · rw [if_neg (nI_ge z (by omega)), if_neg (show ¬ (60 : Int32) ≤ nI p from nI_ge (show p < 60 by omega) (by decide)), if_pos (p_inT (by omega) (by omega)), nI_clamp (by omega), hw p z, if_neg (fun q => h ⟨z, q⟩)]
  · rw [if_pos (nI_le (by omega) (by omega))]
theorem n2 (k : Nat) : (2 : Int32) * nI k = nI (2 * k) := by rw [show (2 : Int32) = nI 2 from rfl, pk_mul]
theorem n1p (k : Nat) : (1 : Int32) + nI k = nI (1 + k) := by rw [show (1 : Int32) = nI 1 from rfl, nI_add]
theorem n2p (k : Nat) : (2 : Int32) + nI k = nI (2 + k) := by rw [show (2 : Int32) = nI 2 from rfl, nI_add]
theorem p_X6_chL {B G N : Nat} {e : SE} {wt : Nat → Int32} (he : eOK e) (hB : B < 1000000) (hG : G ≤ 60) (hN : N ≤ 30) : ∀ (m k n : Nat) (u : am_MU) (s : FS), k + m = N → m < n → rOK s.r B → CE u 33 e → CF u 37 s → (∀ k, k < G → u 48 k = wt k) → ∃ u', g_X6_check_67 n u (nI N) (nI G) 37 (nI k) = some (u', chF e wt G N m k s) ∧ same [39, 44, 37, 38] u u' := by
  intro m
  induction m with
  | zero =>
    intro k n u s h1 h2 hr hE hF hw
    obtain ⟨n, rfl⟩ : ∃ k, n = k + 1 := ⟨n - 1, by omega⟩
    obtain rfl : k = N := by omega
    rw [g_X6_check_67]
    dsimp only
    rw [if_pos (nI_le (Nat.le_refl _) (by omega)), n2, n1p]
    refine ⟨u, ?_, same_rf⟩
    show _ = some (u, if G ≤ 2 * k then 0 else nI (1 + 2 * k))
    by_cases z : G ≤ 2 * k
    · rw [if_pos z, if_pos (nI_le z (by omega))]
    · rw [if_neg z, if_neg (nI_ge (by omega) (by omega))]
  | succ m ih =>
    intro k n u s h1 h2 hr hE hF hw
    obtain ⟨n, rfl⟩ : ∃ k, n = k + 1 := ⟨n - 1, by omega⟩
    obtain ⟨v, g1, g2, g3, g4⟩ := p_X6_oneTick (w := 33) (a := 37) (Or.inr rfl) (Or.inl rfl) he hB hr hE hF
    have hw2 : ∀ k, k < G → v 48 k = wt k := fun k hk => by rw [g2 48 (by decide)]; exact hw k hk
    rw [g_X6_check_67]
    dsimp only
    rw [if_neg (nI_ge (show k < N by omega) (by omega)), g1, p_some, n2, n1p, n2p, chF]
    dsimp only
    by_cases z : 2 * k < G ∧ wt (2 * k) = tkM e s
    · rw [if_pos z, bG1 (told1 hG hw2 z)]
      dsimp only
      rw [if_pos (by decide), p_X0_crests v (by decide), p_some, g4.2.2, nI_1]
      dsimp only
      by_cases z2 : 2 * k + 1 < G ∧ wt (2 * k + 1) = sm (crI (tkS e s).r) 24
      · rw [if_pos z2, bG1 (told1 hG hw2 z2)]
        dsimp only
        rw [p_let, nI_1]
        obtain ⟨u', k1, k2⟩ := ih (k + 1) n v (tkS e s) (by omega) (by omega) (tkS_OK hr hB) g3 g4 hw2
        exact ⟨u', k1, same_tr g2 k2⟩
      · rw [if_neg z2, bG0 (told0 hG (by omega) hw2 z2)]
        exact ⟨v, rfl, g2⟩
    · rw [if_neg z, bG0 (told0 hG (by omega) hw2 z)]
      exact ⟨v, rfl, g2⟩
theorem p_X7_ch179 {u : am_MU} {R : Nat → Int32} {N G q : Nat} (hN : N ≤ 30) (hG : G ≤ 60) (hq : q ≤ 60) (h13 : ∀ j, j < 1535 → u 113 j = R j) : ∃ u', g_X7_check_179 u (nI N) (nI G) (nI q) = some (u', if q = G ∧ q = 2 * N then 0 else nI (1 + q)) ∧ same [111] u u' ∧ ∀ j, j < 1535 → u' 111 j = R j := by
  obtain ⟨v, a1, a2, a3⟩ := p_copy (a := 113) (b := 111) (Or.inr (Or.inr rfl)) (Or.inl rfl) (by decide) u
  refine ⟨v, ?_, a2, fun j hj => by rw [a3 j hj]; exact h13 j hj⟩
  unfold g_X7_check_179
  rw [a1, p_some, n2, n1p]
  by_cases z : q = G
  · by_cases z2 : q = 2 * N
    · rw [if_pos (show nI q = nI G by rw [z]), if_pos (show nI q = nI (2 * N) by rw [z2]), if_pos (show q = G ∧ q = 2 * N from ⟨z, z2⟩)]
    · rw [if_pos (show nI q = nI G by rw [z]), if_neg (show ¬ nI q = nI (2 * N) from nIne z2 (by omega) (by omega)), if_neg (show ¬ (q = G ∧ q = 2 * N) from fun h => z2 h.2)]
  · rw [if_neg (show ¬ nI q = nI G from nIne z (by omega) (by omega)), if_neg (show ¬ (q = G ∧ q = 2 * N) from fun h => z h.1)]
theorem p_X7_chL {f B G N : Nat} {e : SE} {R wt : Nat → Int32} (hf : f < 6) (he : eOK e) (hB : B < 1000000) (hG : G ≤ 60) (hN : N ≤ 30) : ∀ (m k n : Nat) (u : am_MU) (s : FS), k + m = N → m < n → 2 * k ≤ G → rOK s.r B → ME (u 111) e → MF (u 111) f s → (∀ k, k < G → u 132 k = wt k) → (∀ j, j < 1535 → u 113 j = R j) → ∃ u', g_X7_check_81 (n + 1) u (nI f) (nI N) (nI G) (nI (2 * k)) (nI k) = some (u', chF e wt G N m k s) ∧ same [111, 114, 122, 123] u u' ∧ ∀ j, j < 1535 → u' 111 j = R j := by
  intro m
  induction m with
  | zero =>
    intro k n u s h1 h2 h3 hr hE hF hw h13
    obtain rfl : k = N := by omega
    rw [g_X7_check_81]
    dsimp only
    rw [if_pos (nI_le (Nat.le_refl _) (by omega))]
    obtain ⟨v, a1, a2, a3⟩ := p_X7_ch179 (q := 2 * k) hN hG (by omega) h13
    refine ⟨v, ?_, same_mono a2 (by simp), a3⟩
    rw [a1]
    show _ = some (v, if G ≤ 2 * k then 0 else nI (1 + 2 * k))
    by_cases z : G ≤ 2 * k
    · rw [if_pos z, if_pos ⟨by omega, rfl⟩]
    · rw [if_neg z, if_neg (fun q => z (by omega))]
  | succ m ih =>
    intro k n u s h1 h2 h3 hr hE hF hw h13
    obtain ⟨n, rfl⟩ : ∃ k, n = k + 1 := ⟨n - 1, by omega⟩
    obtain ⟨v, g1, g2, g3, g4⟩ := p_X7_tick hf he hB hr hE hF
    have hw2 : ∀ k, k < G → v 132 k = wt k := fun k hk => by rw [g2 132 (by decide)]; exact hw k hk
    have h13b : ∀ j, j < 1535 → v 113 j = R j := fun j hj => by rw [g2 113 (by decide)]; exact h13 j hj
    -- the loop ends at the next step
    have stop : ∀ q, q ≤ 60 → q ≠ 2 * (k + 1) → q ≠ 2 * N → ∃ u', g_X7_check_81 (n + 1) v (nI f) (nI N) (nI G) (nI q) (nI (k + 1)) = some (u', nI (1 + q)) ∧ same [111, 114, 122, 123] u u' ∧ ∀ j, j < 1535 → u' 111 j = R j := by
      intro q hq hq2 hq3
      obtain ⟨w, a1, a2, a3⟩ := p_X7_ch179 (N := N) (G := G) (q := q) hN hG hq h13b
      rw [if_neg (fun h => hq3 h.2)] at a1
      refine ⟨w, ?_, same_tr g2 (same_mono a2 (by simp)), a3⟩
      rw [g_X7_check_81]
      dsimp only
      rw [n2, if_neg (nIne hq2 (by omega) (by omega)), a1]
      split <;> rfl
    have f127 : ∃ u', g_X7_check_127 (g_X7_check_81 (n + 1)) v (nI f) (nI N) (nI G) (nI k) (nI (2 * k)) = some (u', nI (1 + 2 * k)) ∧ same [111, 114, 122, 123] u u' ∧ ∀ j, j < 1535 → u' 111 j = R j := by
      unfold g_X7_check_127 g_X7_check_128
      rw [p_let, Int32.add_zero, n2, nI_1, if_neg (nIne (by omega) (by omega) (by omega))]
      unfold g_X7_check_169 g_X7_check_170
      rw [p_let, p_let, Int32.add_zero, nI_1]
      exact stop (2 * k) (by omega) (by omega) (by omega)
    rw [g_X7_check_81]
    dsimp only
    rw [if_neg (nI_ge (show k < N by omega) (by omega)), n2, if_pos rfl, g1, p_some, chF]
    dsimp only
    by_cases z0 : 2 * k < G
    · rw [if_neg (nI_ge z0 (by omega)), if_pos (p_inT (by omega) (by omega)), nI_clamp (by omega)]
      by_cases z1 : wt (2 * k) = tkM e s
      · rw [if_pos (by rw [hw2 _ z0]; exact z1), if_pos (show 2 * k < G ∧ wt (2 * k) = tkM e s from ⟨z0, z1⟩)]
        unfold g_X7_check_128
        rw [p_let, n2, nI_1, if_pos rfl]
        have f169 : ∃ u', g_X7_check_169 (g_X7_check_81 (n + 1)) v (nI f) (nI N) (nI G) (nI k) (nI (2 * k + 1)) = some (u', nI (2 + 2 * k)) ∧ same [111, 114, 122, 123] u u' ∧ ∀ j, j < 1535 → u' 111 j = R j := by
          unfold g_X7_check_169 g_X7_check_170
          rw [p_let, p_let, Int32.add_zero, nI_1]
          have := stop (2 * k + 1) (by omega) (by omega) (by omega)
          rw [show 1 + (2 * k + 1) = 2 + 2 * k by omega] at this
          exact this
        by_cases z2 : 2 * k + 1 < G
        · rw [if_neg (nI_ge z2 (by omega)), if_pos (p_inT (by omega) (by omega)), nI_clamp (by omega), p_X7_crests v hf, p_some, rm_eq, g4.2.2]
          dsimp only
          by_cases z3 : wt (2 * k + 1) = sm (crI (tkS e s).r) 24
          · rw [if_pos (by rw [hw2 _ z2]; exact z3), if_pos ⟨z2, z3⟩]
            unfold g_X7_check_170
            rw [p_let, p_let, nI_1, nI_1]
            obtain ⟨u', k1, k2, k3⟩ := ih (k + 1) n v (tkS e s) (by omega) (by omega) (by omega) (tkS_OK hr hB) (ME_sameR hf g3 hE) g4 hw2 h13b
            exact ⟨u', k1, same_tr g2 k2, k3⟩
          · rw [if_neg (by rw [hw2 _ z2]; exact z3), if_neg (fun h => z3 h.2)]
            exact f169
        · rw [if_pos (nI_le (by omega) (by omega)), if_neg (fun h => z2 h.1)]
          exact f169
      · rw [if_neg (by rw [hw2 _ z0]; exact z1), if_neg (show ¬ (2 * k < G ∧ wt (2 * k) = tkM e s) from fun h => z1 h.2)]
        exact f127
    · rw [if_pos (nI_le (by omega) (by omega)), if_neg (fun h => z0 h.1)]
      exact f127
theorem k_check (x y : Int32) : Call (fun u => f_X6_check u x y) (fun u => f_X7_check u x y) := by
  intro S B hS hB
  have hwc := hS.wc
  obtain ⟨S0, hS0⟩ : ∃ S0 : AS, S0 = (S.T, S.now, S.img, S.tl, S.tp, S.sh, S.sl, 0, S.wt) := ⟨_, rfl⟩
  have oS0 : OK S0 (B + 2400) := by rw [hS0]; exact OK_tail hS hS.tl (by decide)
  have cS0 : ∀ u, CI u S → CI (am_u2 u 0 13 0) S0 := fun u hu => by
    rw [hS0]
    exact CI_tail hS (fun a h _ _ _ _ => u2_ne _ _ h) (u2_nei _ _ (Or.inr (by decide))) (by rw [u2_nei _ _ (Or.inr (by decide))]; exact hu.tl) (fun k hk => by rw [u2_ne _ _ (by decide)]; exact hu.tp k hk) (u2_same _ _ _ _) (fun k hk => by omega) hu
  have mS0 : ∀ u, MI u S → MI (am_u2 u 110 33 0) S0 := fun u hu => by
    rw [hS0]
    exact MI_tail (fun a h => u2_ne _ _ (by omega)) (u2_nei _ _ (Or.inr (by decide))) (by rw [u2_nei _ _ (Or.inr (by decide))]; exact hu.tl) (fun k hk => by rw [u2_ne _ _ (by decide)]; exact hu.tp k hk) (u2_same _ _ _ _) (fun k hk => by omega) hu
  have bad : ∀ r : Int32, (∀ u, CI u S → f_X6_check u x y = some (am_u2 u 0 13 0, r)) → (∀ u, MI u S → f_X7_check u x y = some (am_u2 u 110 33 0, r)) → Res (fun u => f_X6_check u x y) (fun u => f_X7_check u x y) S B := fun r h1 h2 =>
    ⟨S0, r, oS0, fun u hu => ⟨_, h1 u hu, cS0 u hu, fun a ha => u2_ne _ _ (by omega)⟩, fun u hu => ⟨_, h2 u hu, mS0 u hu, fun a ha => u2_ne _ _ (by omega)⟩⟩
  have hC : ∀ u, f_X6_check u x y = (if y < (1 : Int32) then (some (am_u2 u 0 13 0, ((-1000000001) : Int32))) else (if y ≤ (30 : Int32) then (if (am_u2 u 0 13 0 0 2) = 0 then (some (am_u2 u 0 13 0, ((-1000000002) : Int32))) else (if x < 0 then (some (am_u2 u 0 13 0, ((-1000000001) : Int32))) else (if x < (am_u2 u 0 13 0 17 1) then ((f_X6_think (am_u2 u 0 13 0) 17 x).bind fun q8 => g_X6_check_67 1700 q8.1 y (u 0 13) q8.2 (0 : Int32)) else (some (am_u2 u 0 13 0, ((-1000000001) : Int32)))))) else (some (am_u2 u 0 13 0, ((-1000000001) : Int32))))) := fun u => rfl
  have hM : ∀ u, f_X7_check u x y = ((f_X7_in (am_u2 u 110 33 0) y (1 : Int32) (30 : Int32)).bind fun q3 => if q3.2 = 0 then (some (q3.1, ((-1000000001) : Int32))) else (if (q3.1 110 3) = 0 then (some (q3.1, ((-1000000002) : Int32))) else ((f_X7_in q3.1 x (0 : Int32) ((q3.1 112 1) - (1 : Int32))).bind fun q6 => if q6.2 = 0 then (some (q6.1, ((-1000000001) : Int32))) else ((f_X7_copyAll q6.1 111 113).bind fun q8 => (f_X7_copyAll q8 112 111).bind fun q9 => g_X7_check_81 1700 q9 x y (u 110 33) (0 : Int32) (0 : Int32))))) := fun u => rfl
  by_cases hy : y < 1 ∨ 30 < y
  · refine bad (-1000000001) (fun u hu => ?_) (fun u hu => ?_)
    · rw [hC]
      rcases hy with h | h
      · rw [if_pos h]
      · rw [if_neg (fun q => absurd (Int32.lt_trans h q) (by decide)), if_neg (Int32.not_le.mpr h)]
    · rw [hM, bG0 (by rw [p_X7_in, if_pos hy])]
  · have y1 : ¬ y < 1 := fun q => hy (Or.inl q)
    have y2 : y ≤ 30 := Int32.not_lt.mp (fun q => hy (Or.inr q))
    have hin : ∀ v, f_X7_in v y 1 30 = some (v, 1) := fun v => by rw [p_X7_in, if_neg hy]
    have eI : S0.img = S.img := by rw [hS0]
    cases hI : S.img with
    | none =>
      refine bad (-1000000002) (fun u hu => ?_) (fun u hu => ?_)
      · have e : am_u2 u 0 13 0 0 2 = 0 := by rw [(cS0 u hu).kept, eI, hI]; rfl
        rw [hC, if_neg y1, if_pos y2, if_pos e]
      · have e : am_u2 u 110 33 0 110 3 = 0 := by rw [(mS0 u hu).kept, eI, hI]; rfl
        rw [hM, bG1 (hin _)]
        dsimp only
        rw [if_pos e]
    | some W =>
      obtain ⟨w1, w2⟩ := hS.img W hI
      have hWn := w1.n
      have eC : ∀ u, CI u S → ¬ am_u2 u 0 13 0 0 2 = 0 := fun u hu => by rw [(cS0 u hu).kept, eI, hI]; exact show ¬ (1 : Int32) = 0 by decide
      have eM : ∀ u, MI u S → ¬ am_u2 u 110 33 0 110 3 = 0 := fun u hu => by rw [(mS0 u hu).kept, eI, hI]; exact show ¬ (1 : Int32) = 0 by decide
      have nC : ∀ u, CI u S → am_u2 u 0 13 0 17 1 = nI W.n := fun u hu => by rw [u2_ne _ _ (by decide)]; exact (hu.img W hI).n
      have nM : ∀ u, MI u S → am_u2 u 110 33 0 112 1 = nI W.n := fun u hu => by rw [u2_ne _ _ (by decide)]; exact (hu.img W hI).n
      rcases rng x (show W.n < 2 ^ 31 by omega) with ⟨i, hi, rfl⟩ | hx
      · have hi6 : i < 6 := by omega
        obtain ⟨N, hN, rfl⟩ := nI_of2 (M := 30) (n := 30) (by decide) (fun q => y1 (Int32.lt_trans q (by decide))) y2
        have heo := eOK_of w1
        refine ⟨S0, chF (W.env S.T) S.wt S.wc N N 0 (W.fl i), oS0, fun u hu => ?_, fun u hu => ?_⟩
        · have hu0 := cS0 u hu
          have q : ∀ a, a ≠ 0 → am_u2 u 0 13 0 a = u a := fun a ha => u2_ne _ _ ha
          have hmm := hS.now.m
          obtain ⟨v, a1, a2, a3, a4⟩ := p_X6_think (u := am_u2 u 0 13 0) (w := 17) (Or.inr rfl) w1 (CW_congr (q _ (by decide)) (q _ (by decide)) (q _ (by decide)) (fun a h1 h2 => q a (by omega)) hWn (hu.img W hI)) (fun t ht => CT_congr (q _ (by omega)) (q _ (by omega)) (hu.tx t (by omega))) hi
          obtain ⟨v2, b1, b2⟩ := p_X6_chL (wt := S.wt) (G := S.wc) heo (show B < 1000000 by omega) hwc hN N 0 1700 v (W.fl i) (by omega) (by omega) (w1.r i hi) a3 a4 (fun k hk => by rw [a2 48 (by decide), q 48 (by decide)]; exact hu.wt k hk)
          have sv : same [34, 35, 37, 38, 39, 44] (am_u2 u 0 13 0) v2 := same_tr (same_mono a2 (by simp)) (same_mono b2 (by simp))
          refine ⟨v2, ?_, CI_same oS0 sv (by simp [scr]) hu0, lo_tr (fun a ha => q a (by omega)) (lo_same sv (by simp))⟩
          show f_X6_check u (nI i) (nI N) = _
          rw [hC, if_neg y1, if_pos y2, if_neg (eC u hu), if_neg (nI_pos (by omega)), nC u hu, if_pos (nI_lt hi (by omega)), a1, p_some, hu.wc]
          dsimp only
          rw [nI_0] at b1
          exact b1
        · have hu0 := mS0 u hu
          obtain ⟨v1, a1, a2, a3⟩ := p_copy (a := 111) (b := 113) (Or.inl rfl) (Or.inr (Or.inr rfl)) (by decide) (am_u2 u 110 33 0)
          obtain ⟨v2, b1, b2, b3⟩ := p_copy (a := 112) (b := 111) (Or.inr (Or.inl rfl)) (Or.inl rfl) (by decide) v1
          have q111 : am_u2 u 110 33 0 111 = u 111 := u2_ne _ _ (by decide)
          have q112 : v1 112 = u 112 := by rw [a2 112 (by decide), u2_ne _ _ (by decide)]
          have hW : MW (v2 111) S.T W := MW_copy w1 (fun j hj => by rw [b3 j hj, q112]) (hu.img W hI)
          obtain ⟨v3, c1, c2, c3⟩ := p_X7_chL (R := u 111) (wt := S.wt) (G := S.wc) hi6 heo (show B < 1000000 by omega) hwc hN N 0 1699 v2 (W.fl i) (by omega) (by omega) (Nat.zero_le _) (w1.r i hi) (ME_of w1 hW) (hW.fl i hi) (fun k hk => by rw [b2 132 (by decide), a2 132 (by decide), u2_ne _ _ (by decide)]; exact hu.wt k hk) (fun j hj => by rw [b2 113 (by decide), a3 j hj, q111])
          have sv : same [111, 113, 114, 122, 123] (am_u2 u 110 33 0) v3 := same_tr (same_mono a2 (by simp)) (same_tr (same_mono b2 (by simp)) (same_mono c2 (by simp)))
          have hMI := MI_now (S := S0) (W := S.now) sv (by simp [scm]) hu0 (by rw [hS0]; exact MW_copy hS.now c3 hu.now)
          have eS : S0.wNow S.now = S0 := by rw [hS0]
          rw [eS] at hMI
          refine ⟨v3, ?_, hMI, hi_tr (fun a ha => u2_ne _ _ (by omega)) (hi_same sv (by simp))⟩
          show f_X7_check u (nI i) (nI N) = _
          rw [hM, bG1 (hin _)]
          dsimp only
          rw [if_neg (eM u hu), nM u hu, bG1 (inM1 _ (by omega) hi)]
          dsimp only
          rw [a1, p_some, b1, p_some, hu.wc]
          rw [Nat.mul_zero, nI_0] at c1
          exact c1
      · refine bad (-1000000001) (fun u hu => ?_) (fun u hu => ?_)
        · rw [hC, if_neg y1, if_pos y2, if_neg (eC u hu), nC u hu]
          by_cases h0 : x < 0
          · rw [if_pos h0]
          · rw [if_neg h0, if_neg (Int32.not_lt.mpr (hx.resolve_left h0))]
        · rw [hM, bG1 (hin _)]
          dsimp only
          rw [if_neg (eM u hu), nM u hu, bG0 (inM0 _ (by omega) hx)]
