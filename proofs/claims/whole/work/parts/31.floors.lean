theorem p_X7_kindOf (u : am_MU) {f : Nat} (hf : f < 6) : f_X7_kindOf u (nI f) = some (u, u 111 (7 + 26 * f)) := by
  unfold f_X7_kindOf
  rw [p_X7_at, p_some]
  simp only
  rw [if_pos (p_inT (by omega) (by omega)), nI_clamp (by omega)]
theorem p_X7_tickOf (u : am_MU) {f : Nat} (hf : f < 6) : f_X7_tickOf u (nI f) = some (u, u 111 (8 + 26 * f)) := by
  unfold f_X7_tickOf
  rw [p_X7_at, p_some]
  simp only [nI_1]
  rw [if_pos (p_inT (by omega) (by omega)), nI_clamp (by omega), show 7 + 26 * f + 1 = 8 + 26 * f by omega]
def wiI (v a b : Int32) : Int32 := if a ≤ v then (if v ≤ b then v else b) else a
theorem p_X7_within (u : am_MU) (v a b : Int32) : f_X7_within u v a b = some (u, wiI v a b) := by
  unfold f_X7_within wiI
  split
  · split <;> rfl
  · rfl
/-- the way of a floor of that kind and tick -/
def wyI (k t : Int32) : Int32 := if k = 2 then 1 else if k = 4 then 1 else if t - t / 2 * 2 = 0 then 1 else -1
theorem p_X7_wayOf (u : am_MU) {f : Nat} (hf : f < 6) : f_X7_wayOf u (nI f) = some (u, wyI (u 111 (7 + 26 * f)) (u 111 (8 + 26 * f))) := by
  unfold f_X7_wayOf
  rw [p_X7_kindOf u hf, p_some]
  simp only [p_X7_tickOf u hf, p_some]
  unfold wyI
  split
  · rfl
  · split
    · rfl
    · split <;> rfl
/-- the reach: kind, tick, FAR, SECOND -/
def reI (k t far sec : Int32) : Int32 := if k = 1 then 2 * far / 3 else if k = 2 then far + 1 else if k = 3 then (if 2 * far / 3 - 1 < 0 then 0 else 2 * far / 3 - 1) else if k = 4 then (far + 1) / 2 else if k = 5 then (if t - t / 2 * 2 = 0 then far else sec) else far
/-- FAR is 0 .. 11 -/
theorem p_far {far : Int32} (h0 : 0 ≤ far) (h1 : far ≤ 11) : ∃ j : Nat, j < 12 ∧ far = nI j := by
  obtain ⟨j, h2, h3⟩ := nI_of2 (M := 11) (n := 11) (by decide) (Int32.not_lt.mpr h0) h1
  exact ⟨j, by omega, h3⟩
theorem p_farW : ∀ j, j < 12 → wiI (2 * nI j / 3 - 1) 0 99 = (if 2 * nI j / 3 - 1 < 0 then 0 else 2 * nI j / 3 - 1) := by decide +kernel
theorem p_X7_reachOf (u : am_MU) {f : Nat} (hf : f < 6) (h0 : 0 ≤ u 111 2) (h1 : u 111 2 ≤ 11) : f_X7_reachOf u (nI f) = some (u, reI (u 111 (7 + 26 * f)) (u 111 (8 + 26 * f)) (u 111 2) (u 111 4)) := by
  obtain ⟨j, hj, ej⟩ := p_far h0 h1
  unfold f_X7_reachOf
  rw [p_let, p_X7_kindOf u hf, p_some]
  simp only [p_X7_tickOf u hf, p_some, p_X7_within]
  unfold reI
  rw [ej, p_farW j hj]
  split
  · rfl
  · split
    · rfl
    · split
      · rfl
      · split
        · rfl
        · split
          · split <;> rfl
          · rfl
/-- worth: kind, row -/
def woI (k : Int32) (r : Nat → Int32) : Int32 := if k = 1 then mx r 23 - mn r 23 + sm (crI r) 24 else if k = 2 then sm (lnI r) 24 else if k = 3 then 2 * (mx r 23 - mn r 23 + sm (crI r) 24) else if k = 4 then sm (lnI r) 24 + 10 else if k = 5 then sm r 24 / 24 else mx r 23 - mn r 23
theorem p_X7_worthOf (u : am_MU) {f : Nat} (hf : f < 6) (ho : ok20 (rm u 111 f)) : f_X7_worthOf u (nI f) = some (u, woI (u 111 (7 + 26 * f)) (rm u 111 f)) := by
  unfold f_X7_worthOf
  rw [p_X7_mx u hf, p_some]
  simp only [p_X7_mn u hf, p_some, p_let, p_X7_kindOf u hf, p_X7_crests u hf, p_X7_lean u hf ho, p_X7_sum u hf]
  unfold woI
  split
  · rfl
  · split
    · rfl
    · split
      · rfl
      · split
        · rfl
        · split <;> rfl
/-! the class's floors -/
theorem p_max (u : am_MU) (a b : Int32) : f_J9_max_7cf53 u a b = some (u, if a < b then b else a) := by unfold f_J9_max_7cf53; split <;> rfl
theorem p_min (u : am_MU) (a b : Int32) : f_J9_min_7cf53 u a b = some (u, if b < a then b else a) := by unfold f_J9_min_7cf53; split <;> rfl
theorem p_abs (u : am_MU) (a : Int32) : f_J9_abs_0f7a4 u a = some (u, if 0 ≤ a then a else -a) := by unfold f_J9_abs_0f7a4; split <;> rfl
theorem p_cmp (u : am_MU) (a b : Int32) : f_J6_compare_7cf53 u a b = some (u, sgI a b) := by
  unfold f_J6_compare_7cf53 sgI
  by_cases h : b ≤ a
  · rw [if_pos h, if_neg (Int32.not_lt.mpr h)]
    split <;> rfl
  · rw [if_neg h, if_pos (Int32.not_le.mp h)]
theorem p_next (u : am_MU) {c : Nat} (hc : c < 24) : f_X6_nextOf u (nI c) = some (u, nI ((c + 1) % 24)) := by
  unfold f_X6_nextOf
  rw [show (23 : Int32) = nI 23 from rfl]
  by_cases h : c < 23
  · rw [if_pos (nI_lt h (by decide)), nI_1, Nat.mod_eq_of_lt (by omega)]
  · obtain rfl : c = 23 := by omega
    rfl
theorem p_ahead (u : am_MU) {c : Nat} (hc : c < 24) : f_X6_aheadOf u (nI c) = some (u, nI ((c + 23) % 24)) := by
  unfold f_X6_aheadOf
  rcases Nat.eq_zero_or_pos c with rfl | h
  · rfl
  · obtain ⟨d, rfl⟩ : ∃ d, c = d + 1 := ⟨c - 1, by omega⟩
    rw [if_pos (show (0 : Int32) < nI (d + 1) from by rw [← nI_0]; exact nI_lt (by omega) (by omega)), nI_pred, show (d + 1 + 23) % 24 = d by omega]
theorem p_rc (u : am_MU) {a c : Nat} (hc : c < 24) : u (a + 1) c = rc u a c := by rw [rc, cut_lt hc]
theorem p_X0_isCrest (u : am_MU) {a c : Nat} (ta : tg a = 0) (hc : c < 24) : f_X0_isCrest u a (nI c) = some (u, crI (rc u a) c) := by
  unfold f_X0_isCrest
  rw [if_pos ta, if_pos (p_inT (by omega) hc), p_ahead u hc, p_some]
  simp only [p_next u hc, p_some]
  rw [if_pos (p_inT (by omega) (by omega)), nI_clamp (by omega), nI_clamp (by omega), p_rc u hc, p_rc u (show (c + 23) % 24 < 24 by omega)]
  unfold crI
  rw [if_pos (p_inT (by omega) (by omega)), nI_clamp (by omega), p_rc u (show (c + 1) % 24 < 24 by omega)]
  by_cases h1 : rc u a c ≤ rc u a ((c + 23) % 24)
  · simp [h1]
  · by_cases h2 : rc u a c < rc u a ((c + 1) % 24)
    · simp [h1, h2]
    · simp [h1, h2]
theorem p_X0_crestsL (u : am_MU) {a : Nat} (ta : tg a = 0) : ∀ (m c n : Nat), c + m = 24 → m < n → g_X0_crests_4 n u a (sm (crI (rc u a)) c) (nI c) = some (u, sm (crI (rc u a)) 24) := by
  intro m
  induction m with
  | zero =>
    intro c n h1 h2
    obtain ⟨n, rfl⟩ : ∃ k, n = k + 1 := ⟨n - 1, by omega⟩
    obtain rfl : c = 24 := by omega
    rw [g_X0_crests_4]
    dsimp only
    rw [if_pos (show (24 : Int32) ≤ nI 24 by decide)]
  | succ m ih =>
    intro c n h1 h2
    obtain ⟨n, rfl⟩ : ∃ k, n = k + 1 := ⟨n - 1, by omega⟩
    have hc : c < 24 := by omega
    have ih := ih (c + 1) n (by omega) (by omega)
    rw [g_X0_crests_4]
    dsimp only
    rw [if_neg (p_ge24 hc)]
    rw [if_pos ta, p_X0_isCrest u ta hc, p_some]
    simp only [g_X0_crests_21, p_let, nI_1]
    rw [sm] at ih
    rcases p_crI (rc u a) c with h | h
    · rw [h] at ih ⊢; rw [if_pos rfl]; rw [Int32.add_zero] at ih; exact ih
    · rw [h] at ih ⊢; rw [if_neg (by decide)]; exact ih
theorem p_X0_crests (u : am_MU) {a : Nat} (ta : tg a = 0) : f_X0_crests u a = some (u, sm (crI (rc u a)) 24) := p_X0_crestsL u ta 24 0 1700 rfl (by decide)
theorem p_X0_totalL (u : am_MU) {a : Nat} (ta : tg a = 0) : ∀ (m c n : Nat), c + m = 24 → m < n → g_X0_total_4 n u a (sm (rc u a) c) (nI c) = some (u, sm (rc u a) 24) := by
  intro m
  induction m with
  | zero =>
    intro c n h1 h2
    obtain ⟨n, rfl⟩ : ∃ k, n = k + 1 := ⟨n - 1, by omega⟩
    obtain rfl : c = 24 := by omega
    rw [g_X0_total_4]
    dsimp only
    rw [if_pos (show (24 : Int32) ≤ nI 24 by decide)]
  | succ m ih =>
    intro c n h1 h2
    obtain ⟨n, rfl⟩ : ∃ k, n = k + 1 := ⟨n - 1, by omega⟩
    have hc : c < 24 := by omega
    have ih := ih (c + 1) n (by omega) (by omega)
    rw [g_X0_total_4]
    dsimp only
    rw [if_neg (p_ge24 hc)]
    rw [if_pos ta, if_pos (p_inT (by omega) hc), nI_clamp (by omega), p_rc u hc]
    simp only [p_let, nI_1]
    exact ih
theorem p_X0_total (u : am_MU) {a : Nat} (ta : tg a = 0) : f_X0_total u a = some (u, sm (rc u a) 24) := p_X0_totalL u ta 24 0 1700 rfl (by decide)
theorem p_X0_leanL (u : am_MU) {a : Nat} (ta : tg a = 0) : ∀ (m c n : Nat), c + m = 24 → m < n → g_X0_lean_4 n u a (sm (lnI (rc u a)) c) (nI c) = some (u, sm (lnI (rc u a)) 24) := by
  intro m
  induction m with
  | zero =>
    intro c n h1 h2
    obtain ⟨n, rfl⟩ : ∃ k, n = k + 1 := ⟨n - 1, by omega⟩
    obtain rfl : c = 24 := by omega
    rw [g_X0_lean_4]
    dsimp only
    rw [if_pos (show (24 : Int32) ≤ nI 24 by decide)]
  | succ m ih =>
    intro c n h1 h2
    obtain ⟨n, rfl⟩ : ∃ k, n = k + 1 := ⟨n - 1, by omega⟩
    have hc : c < 24 := by omega
    have ih := ih (c + 1) n (by omega) (by omega)
    rw [g_X0_lean_4]
    dsimp only
    rw [if_neg (p_ge24 hc)]
    rw [if_pos ta, p_next u hc, p_some]
    simp only
    rw [if_pos (p_inT (by omega) (by omega)), if_pos (p_inT (by omega) hc), nI_clamp (by omega), nI_clamp (by omega), p_rc u hc, p_rc u (show (c + 1) % 24 < 24 by omega), p_cmp, p_some]
    simp only [p_let, nI_1]
    exact ih
theorem p_X0_lean (u : am_MU) {a : Nat} (ta : tg a = 0) : f_X0_lean u a = some (u, sm (lnI (rc u a)) 24) := p_X0_leanL u ta 24 0 1700 rfl (by decide)
theorem p_X0_mxL (u : am_MU) {a : Nat} (ta : tg a = 0) : ∀ (m c n : Nat), c + m = 23 → m < n → g_X0_greatest_9 n u a (mx (rc u a) c) (nI (c + 1)) = some (u, mx (rc u a) 23) := by
  intro m
  induction m with
  | zero =>
    intro c n h1 h2
    obtain ⟨n, rfl⟩ : ∃ k, n = k + 1 := ⟨n - 1, by omega⟩
    obtain rfl : c = 23 := by omega
    rw [g_X0_greatest_9]
    dsimp only
    rw [if_pos (show (24 : Int32) ≤ nI 24 by decide)]
  | succ m ih =>
    intro c n h1 h2
    obtain ⟨n, rfl⟩ : ∃ k, n = k + 1 := ⟨n - 1, by omega⟩
    have hc : c + 1 < 24 := by omega
    have ih := ih (c + 1) n (by omega) (by omega)
    rw [g_X0_greatest_9]
    dsimp only
    rw [if_neg (p_ge24 hc), if_pos ta, if_pos (p_inT (by omega) hc), nI_clamp (by omega), p_rc u hc, p_max, p_some]
    simp only [p_let, nI_1]
    exact ih
theorem p_X0_mx (u : am_MU) {a : Nat} (ta : tg a = 0) : f_X0_greatest u a = some (u, mx (rc u a) 23) := by
  unfold f_X0_greatest
  rw [if_pos ta, p_let, p_rc u (by decide)]
  exact p_X0_mxL u ta 23 0 1700 rfl (by decide)
theorem p_X0_mnL (u : am_MU) {a : Nat} (ta : tg a = 0) : ∀ (m c n : Nat), c + m = 23 → m < n → g_X0_least_9 n u a (mn (rc u a) c) (nI (c + 1)) = some (u, mn (rc u a) 23) := by
  intro m
  induction m with
  | zero =>
    intro c n h1 h2
    obtain ⟨n, rfl⟩ : ∃ k, n = k + 1 := ⟨n - 1, by omega⟩
    obtain rfl : c = 23 := by omega
    rw [g_X0_least_9]
    dsimp only
    rw [if_pos (show (24 : Int32) ≤ nI 24 by decide)]
  | succ m ih =>
    intro c n h1 h2
    obtain ⟨n, rfl⟩ : ∃ k, n = k + 1 := ⟨n - 1, by omega⟩
    have hc : c + 1 < 24 := by omega
    have ih := ih (c + 1) n (by omega) (by omega)
    rw [g_X0_least_9]
    dsimp only
    rw [if_neg (p_ge24 hc), if_pos ta, if_pos (p_inT (by omega) hc), nI_clamp (by omega), p_rc u hc, p_min, p_some]
    simp only [p_let, nI_1]
    exact ih
theorem p_X0_mn (u : am_MU) {a : Nat} (ta : tg a = 0) : f_X0_least u a = some (u, mn (rc u a) 23) := by
  unfold f_X0_least
  rw [if_pos ta, p_let, p_rc u (by decide)]
  exact p_X0_mnL u ta 23 0 1700 rfl (by decide)
theorem p_X0_worth (u : am_MU) {a : Nat} (ta : tg a = 0) : f_X0_worth u a = some (u, woI (u a 2) (rc u a)) := by
  unfold f_X0_worth
  rw [if_pos ta, p_X0_mx u ta, p_some]
  simp only [p_X0_mn u ta, p_some, p_let, p_X0_crests u ta, p_X0_lean u ta, p_X0_total u ta]
  unfold woI
  split
  · rfl
  · split
    · rfl
    · split
      · rfl
      · split
        · rfl
        · split <;> rfl
theorem p_X0_way (u : am_MU) {a : Nat} (ta : tg a = 0) : f_X0_way u a = some (u, wyI (u a 2) (u a 1)) := by
  unfold f_X0_way
  rw [if_pos ta]
  unfold wyI
  split
  · rfl
  · split
    · rfl
    · split <;> rfl
theorem p_X6_reachOf (u : am_MU) {w a : Nat} (tw : tg w = 5) (ta : tg a = 0) : f_X6_reachOf u w a = some (u, reI (u a 2) (u a 1) (u (w + 1) 0) (u (w + 1) 2)) := by
  unfold f_X6_reachOf
  rw [if_pos tw, p_let]
  simp only [p_max, p_some]
  rw [if_pos ta]
  unfold reI
  split
  · rfl
  · split
    · rfl
    · split
      · rfl
      · split
        · rfl
        · split
          · split <;> rfl
          · rfl
