/-! marks -/
def mkI (o : LW) (r : Nat → Int32) (c : Nat) : Int32 := if crI r c = 0 then 0 else wiI (lv3 o (nI c) (r c) 0 (r c)) (-99) 99
theorem p_X6_mk13 {a B : Nat} {e : SE} {s : FS} {law : Int32} (ha : FA a) : ∀ (m c n : Nat) (u : am_MU), c + m = 24 → m < n → CE u 1 e → CF u a s → u 3 2 = law → ∃ u', g_X6_marksOf_13 n u a law (sm (mkI e.o2 s.r) c) (nI c) = some (u', sm (mkI e.o2 s.r) 24) ∧ same [44] u u' := by
  have fb := FA_b ha
  have ta := FA_tg ha
  intro m
  induction m with
  | zero =>
    intro c n u h1 h2 hE hF hl
    obtain ⟨n, rfl⟩ : ∃ k, n = k + 1 := ⟨n - 1, by omega⟩
    obtain rfl : c = 24 := by omega
    refine ⟨u, ?_, same_rf⟩
    rw [g_X6_marksOf_13]
    dsimp only
    rw [if_pos (show (24 : Int32) ≤ nI 24 by decide)]
  | succ m ih =>
    intro c n u h1 h2 hE hF hl
    obtain ⟨n, rfl⟩ : ∃ k, n = k + 1 := ⟨n - 1, by omega⟩
    have hc : c < 24 := by omega
    have ih := ih (c + 1) n
    rw [g_X6_marksOf_13]
    dsimp only
    rw [if_neg (p_ge24 hc), if_pos ta, p_X0_isCrest u ta hc, p_some, hF.2.2]
    dsimp only
    have e0 : sm (mkI e.o2 s.r) (c + 1) = sm (mkI e.o2 s.r) c + mkI e.o2 s.r c := rfl
    by_cases hz : crI s.r c = 0
    · rw [if_pos hz]
      have : mkI e.o2 s.r c = 0 := by unfold mkI; rw [if_pos hz]
      rw [this, Int32.add_zero] at e0
      simp only [g_X6_marksOf_84, p_let, nI_1]
      rw [← e0]
      exact ih u (by omega) (by omega) hE hF hl
    · rw [if_neg hz]
      have em : mkI e.o2 s.r c = wiI (lv3 e.o2 (nI c) (s.r c) 0 (s.r c)) (-99) 99 := by unfold mkI; rw [if_neg hz]
      have g68 : ∀ v, same [44] u v → ∃ u', g_X6_marksOf_68 (g_X6_marksOf_13 n) v a law (sm (mkI e.o2 s.r) c) (nI c) (lv3 e.o2 (nI c) (s.r c) 0 (s.r c)) = some (u', sm (mkI e.o2 s.r) 24) ∧ same [44] u u' := by
        intro v sv
        unfold g_X6_marksOf_68
        rw [p_X6_within, p_some]
        dsimp only
        rw [p_wi (by decide), p_let, ← em, ← e0]
        simp only [g_X6_marksOf_84, p_let, nI_1]
        obtain ⟨u', r1, r2⟩ := ih v (by omega) (by omega) (CE_congr (sv _ (by decide)) (sv _ (by decide)) (fun x hx1 hx2 => sv x (by simp; omega)) hE) (CF_congr (sv _ (by simp; omega)) (sv _ (by simp; omega)) hF) (by rw [sv 3 (by decide)]; exact hl)
        exact ⟨u', r1, same_tr sv r2⟩
      have hL := hE.2.2.2.2.2.2
      cases ho : e.o2 with
      | none =>
        rw [ho] at hL
        have hL : u 3 2 = -1000000005 := hL
        rw [if_pos (by rw [← hl, hL]), if_pos (p_inT (by omega) hc), nI_clamp (by omega), p_rc u hc, hF.2.2]
        have := g68 u same_rf
        rw [ho] at this
        exact this
      | some q =>
        rw [ho] at hL
        obtain ⟨t, a1, a2, a3, a4, a5, a6⟩ := hL
        have a2 : u 3 2 = nI t := a2
        have el : law = nI t := by rw [← hl, a2]
        rw [el] at g68 ⊢
        rw [if_neg (p_noN a1), if_pos (p_inT (by omega) a1), if_pos (p_inT (by omega) hc), nI_clamp (by omega), nI_clamp (by omega), if_pos (tg49 t a1), p_rc u hc, hF.2.2]
        obtain ⟨v, r1, r2⟩ := p_X4_value (a := nI c) (b := s.r c) (c := 0) (F := F3 (nI c) (s.r c) 0) a3 a1 rfl rfl rfl u a5 a6
        rw [r1, p_some]
        have := g68 v r2
        rw [ho] at this
        exact this
theorem p_X6_marksOf {a : Nat} {e : SE} {s : FS} {u : am_MU} (ha : FA a) (hE : CE u 1 e) (hF : CF u a s) : ∃ u', f_X6_marksOf u 1 a = some (u', sm (mkI e.o2 s.r) 24) ∧ same [44] u u' := by
  unfold f_X6_marksOf
  rw [if_pos (by decide), p_let]
  exact p_X6_mk13 (B := 0) ha 24 0 1700 u (by decide) (by decide) hE hF rfl
theorem wi_99 {x : Int32} (h : 0 ≤ x) : wiI x 0 99 = wiI x (-99) 99 := by
  unfold wiI
  rw [if_pos h, if_pos (Int32.le_trans (by decide) h)]
def WkH (o : LW) (cc : Int32) (R : Nat → Int32) : Prop := match o with
  | none => ¬ 0 ≤ cc
  | some q => 0 ≤ cc ∧ ∀ (u1 : am_MU) (a b d : Int32), u1 111 = R → (∀ j, j < 2 → u1 123 j = F3 a b d j) → ∃ u2, f_X7_worksOut u1 cc = some (u2, vl q.1 (F3 a b d) q.2.1) ∧ same [122] u1 u2
theorem p_X7_law2 {key : Nat} {o : LW} (hk : key < 3) {u : am_MU} (hl : LawM (u 111) key 2 o) : ∃ c, f_X7_counts u (nI key) = some (u, c) ∧ WkH o c (u 111) := by
  obtain ⟨cc, e1, e2⟩ := p_X7_law hk hl
  refine ⟨cc, e1, ?_⟩
  cases o with
  | none => exact e2
  | some q => exact e2
theorem p_X7_mk11 {f B : Nat} {e : SE} {s : FS} {cc : Int32} (hf : f < 6) (hr : rOK s.r B) : ∀ (m c n : Nat) (u : am_MU), c + m = 24 → m < n → ME (u 111) e → MF (u 111) f s → WkH e.o2 cc (u 111) → ∃ u', g_X7_marksOf_11 n u (nI f) cc (sm (mkI e.o2 s.r) c) (nI c) = some (u', sm (mkI e.o2 s.r) 24) ∧ same [122, 123] u u' := by
  intro m
  induction m with
  | zero =>
    intro c n u h1 h2 hE hF hl
    obtain ⟨n, rfl⟩ : ∃ k, n = k + 1 := ⟨n - 1, by omega⟩
    obtain rfl : c = 24 := by omega
    refine ⟨u, ?_, same_rf⟩
    rw [g_X7_marksOf_11]
    dsimp only
    rw [if_pos (show (24 : Int32) ≤ nI 24 by decide)]
  | succ m ih =>
    intro c n u h1 h2 hE hF hl
    obtain ⟨n, rfl⟩ : ∃ k, n = k + 1 := ⟨n - 1, by omega⟩
    have hc : c < 24 := by omega
    have ih := ih (c + 1) n
    rw [g_X7_marksOf_11]
    dsimp only
    rw [if_neg (p_ge24 hc), p_X7_isCrest u hf hc, p_some, rm_eq, hF.2.2]
    dsimp only
    have e0 : sm (mkI e.o2 s.r) (c + 1) = sm (mkI e.o2 s.r) c + mkI e.o2 s.r c := rfl
    by_cases hz : crI s.r c = 0
    · rw [if_pos hz]
      have : mkI e.o2 s.r c = 0 := by unfold mkI; rw [if_pos hz]
      rw [this, Int32.add_zero] at e0
      simp only [g_X7_marksOf_84, p_let, nI_1]
      rw [← e0]
      exact ih u (by omega) (by omega) hE hF hl
    · rw [if_neg hz]
      have em : mkI e.o2 s.r c = wiI (lv3 e.o2 (nI c) (s.r c) 0 (s.r c)) (-99) 99 := by unfold mkI; rw [if_neg hz]
      have g82 : ∀ v, same [122, 123] u v → ∃ u', g_X7_marksOf_82 (g_X7_marksOf_11 n) v (nI f) cc (nI c) (sm (mkI e.o2 s.r) c) (mkI e.o2 s.r c) = some (u', sm (mkI e.o2 s.r) 24) ∧ same [122, 123] u u' := by
        intro v sv
        have ev : v 111 = u 111 := sv 111 (by decide)
        unfold g_X7_marksOf_82
        rw [p_let, ← e0]
        simp only [g_X7_marksOf_84, p_let, nI_1]
        obtain ⟨u', r1, r2⟩ := ih v (by omega) (by omega) (by rw [ev]; exact hE) (by rw [ev]; exact hF) (by rw [ev]; exact hl)
        exact ⟨u', r1, same_tr sv r2⟩
      rw [p_let, p_sand0 _ hf hc, p_some, p_let]
      dsimp only
      generalize hv1 : am_u2 u 123 0 (nI c) = v1
      have a1 : v1 111 = u 111 := by rw [← hv1, u2_ne _ _ (by decide)]
      rw [rm_at a1, rm_eq, hF.2.2]
      generalize hv2 : am_u2 v1 123 1 (s.r c) = v2
      have a2 : v2 111 = u 111 := by rw [← hv2, u2_ne _ _ (by decide), a1]
      have b2 : ∀ j, j < 2 → v2 123 j = F3 (nI c) (s.r c) 0 j := by
        intro j hj
        rcases (show j = 0 ∨ j = 1 by omega) with rfl | rfl
        · rw [← hv2, u2_nei _ _ (Or.inr (by decide)), ← hv1, u2_same]; rfl
        · rw [← hv2, u2_same]; rfl
      have s2 : same [122, 123] u v2 := by rw [← hv2, ← hv1]; exact same_tr (same_u2 _ _ _ _ (by decide)) (same_u2 _ _ _ _ (by decide))
      cases ho : e.o2 with
      | none =>
        rw [ho] at hl em
        have hl : ¬ 0 ≤ cc := hl
        rw [if_neg hl, p_sand0 v2 hf hc, p_some]
        dsimp only
        rw [p_X7_within, p_some, rm_at a2, rm_eq, hF.2.2, wi_99 (p_ge0.mpr (rOK_le hr c).1)]
        dsimp only
        have := g82 v2 s2
        rw [ho, em] at this
        exact this
      | some q =>
        rw [ho] at hl em
        obtain ⟨l1, l2⟩ := hl
        rw [if_pos l1]
        obtain ⟨v3, r1, r2⟩ := l2 v2 _ _ _ a2 b2
        rw [r1, p_some]
        dsimp only
        rw [p_X7_within, p_some]
        dsimp only
        have := g82 v3 (same_tr s2 (same_mono r2 (by decide)))
        rw [ho, em] at this
        exact this
theorem p_X7_marksOf {f B : Nat} {e : SE} {s : FS} {u : am_MU} (hf : f < 6) (hr : rOK s.r B) (hE : ME (u 111) e) (hF : MF (u 111) f s) : ∃ u', f_X7_marksOf u (nI f) = some (u', sm (mkI e.o2 s.r) 24) ∧ same [122, 123] u u' := by
  obtain ⟨cc, e1, e2⟩ := p_X7_law2 (key := 2) (by decide) hE.2.2.2.2.2.2
  have e1 : f_X7_counts u 2 = some (u, cc) := e1
  unfold f_X7_marksOf
  rw [e1, p_some]
  exact p_X7_mk11 hf hr 24 0 1700 u (by decide) (by decide) hE hF e2
