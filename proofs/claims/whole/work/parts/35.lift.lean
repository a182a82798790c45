/-! lifts and slides -/
def rg (c : Nat) (w : Int32) : Nat := if w = 1 then (c + 1) % 24 else (c + 23) % 24
theorem rg_lt (c : Nat) (w : Int32) : rg c w < 24 := by unfold rg; split <;> omega
def grI (k g : Int32) : Int32 := if k = 3 then g / 2 else if k = 4 then (if g - 1 < 0 then 0 else g - 1) else g
/-- LIFT: law, kind, way, pace, row, cell -/
def liI (o : LW) (k w pace : Int32) (r : Nat → Int32) (c : Nat) : Int32 := grI k (wiI (lv3 o (r c) (r c - r (rg c w)) pace pace) 0 (r c))
theorem rm_at {u v : am_MU} (h : v 111 = u 111) (f : Nat) : rm v 111 f = rm u 111 f := by unfold rm; rw [h]
theorem wi_in {v h : Int32} (hh : 0 ≤ h) : 0 ≤ wiI v 0 h ∧ wiI v 0 h ≤ h := by
  unfold wiI
  split
  · split
    · exact ⟨‹_›, ‹_›⟩
    · exact ⟨hh, Int32.le_refl h⟩
  · exact ⟨Int32.le_refl 0, hh⟩
theorem p_pm (g : Int32) (hg : 0 ≤ g) : (g - 1).toInt = g.toInt - 1 := by
  have h0 : 0 ≤ g.toInt := p_ge0.mp hg
  have h1 : g.toInt < 2147483648 := Int32.toInt_lt g
  rw [Int32.toInt_sub]
  exact Int.bmod_eq_of_le (by show -(2147483648 : Int) ≤ g.toInt - 1; omega) (by show g.toInt - 1 < 2147483648; omega)
theorem wi_old {g h : Int32} (h0 : 0 ≤ g) (h1 : g ≤ h) : wiI (g - 1) 0 h = (if g - 1 < 0 then 0 else g - 1) := by
  have e := p_pm g h0
  unfold wiI
  by_cases z : g - 1 < 0
  · rw [if_pos z, if_neg (Int32.not_le.mpr z)]
  · rw [if_neg z, if_pos (Int32.not_lt.mp z), if_pos]
    rw [Int32.le_iff_toInt_le] at h1 ⊢
    omega
theorem p_sandW (u : am_MU) {f c : Nat} (hf : f < 6) (hc : c < 24) {w : Int32} (hw : w = 1 ∨ w = -1) : f_X7_sandOf u (nI f) (nI c + w) = some (u, rm u 111 f (rg c w)) := by
  rcases hw with rfl | rfl
  · rw [p_sandP u hf hc]; rfl
  · rw [← Int32.sub_eq_add_neg, p_sandM u hf hc]; rfl
theorem p_X7_lift72 (u : am_MU) {f : Nat} (hf : f < 6) {h : Int32} (hh : 0 ≤ h) (g : Int32) : g_X7_liftOf_72 u (nI f) h g = some (u, grI (u 111 (7 + 26 * f)) (wiI g 0 h)) := by
  obtain ⟨q1, q2⟩ := wi_in (v := g) hh
  unfold g_X7_liftOf_72
  rw [p_X7_within, p_some]
  simp only [p_X7_kindOf u hf, p_some, p_X7_within]
  unfold grI
  rw [wi_old q1 q2]
  split
  · rfl
  · split <;> rfl
theorem p_X7_liftOf {u : am_MU} {f c : Nat} {o : LW} (hf : f < 6) (hc : c < 24) {w : Int32} (hw : w = 1 ∨ w = -1) (hl : LawM (u 111) 0 3 o) (h0 : 0 ≤ rm u 111 f c) : ∃ u', f_X7_liftOf u (nI f) (nI c) w = some (u', liI o (u 111 (7 + 26 * f)) w (u 111 3) (rm u 111 f) c) ∧ same [122, 123] u u' := by
  obtain ⟨cc, e1, e2⟩ := p_X7_law (key := 0) (by decide) hl
  have e1 : f_X7_counts u 0 = some (u, cc) := e1
  unfold f_X7_liftOf
  rw [p_sand0 u hf hc, p_some]
  dsimp only
  rw [e1, p_some, p_let]
  dsimp only
  rw [p_sandW (am_u2 u 123 0 (rm u 111 f c)) hf hc hw, p_some, p_let, p_let]
  dsimp only
  generalize hv1 : am_u2 u 123 0 (rm u 111 f c) = v1
  have a1 : v1 111 = u 111 := by rw [← hv1, u2_ne _ _ (by decide)]
  have b0 : v1 123 0 = rm u 111 f c := by rw [← hv1, u2_same]
  rw [rm_at a1]
  generalize hv2 : am_u2 v1 123 1 (rm u 111 f c - rm u 111 f (rg c w)) = v2
  have a2 : v2 111 = u 111 := by rw [← hv2, u2_ne _ _ (by decide), a1]
  have b1 : v2 123 0 = rm u 111 f c ∧ v2 123 1 = rm u 111 f c - rm u 111 f (rg c w) := by rw [← hv2]; exact ⟨by rw [u2_nei _ _ (Or.inr (by decide)), b0], u2_same _ _ _ _⟩
  rw [a2]
  generalize hv3 : am_u2 v2 123 2 (u 111 3) = v3
  have a3 : v3 111 = u 111 := by rw [← hv3, u2_ne _ _ (by decide), a2]
  have b3 : ∀ j, j < 3 → v3 123 j = F3 (rm u 111 f c) (rm u 111 f c - rm u 111 f (rg c w)) (u 111 3) j := by
    intro j hj
    rcases (show j = 0 ∨ j = 1 ∨ j = 2 by omega) with rfl | rfl | rfl
    · rw [← hv3, u2_nei _ _ (Or.inr (by decide)), b1.1]; rfl
    · rw [← hv3, u2_nei _ _ (Or.inr (by decide)), b1.2]; rfl
    · rw [← hv3, u2_same]; rfl
  have s3 : same [122, 123] u v3 := by
    intro a ha
    have n1 : a ≠ 123 := fun e => ha (by rw [e]; decide)
    rw [← hv3, u2_ne _ _ n1, ← hv2, u2_ne _ _ n1, ← hv1, u2_ne _ _ n1]
  unfold liI
  cases o with
  | none =>
    have e2 : ¬ 0 ≤ cc := e2
    rw [if_neg e2, a3]
    exact ⟨v3, by rw [p_X7_lift72 v3 hf h0, a3]; rfl, s3⟩
  | some q =>
    obtain ⟨e3, e4⟩ := e2
    rw [if_pos e3]
    obtain ⟨v4, r1, r2⟩ := e4 v3 _ _ _ a3 b3
    rw [r1, p_some]
    dsimp only
    have a4 : v4 111 = u 111 := by rw [r2 111 (by decide), a3]
    exact ⟨v4, by rw [p_X7_lift72 v4 hf h0, a4]; rfl, same_tr s3 (same_mono r2 (by decide))⟩
/-- SLIDE: law, steep, difference -/
def slI (o : LW) (steep d : Int32) : Int32 := match o with
  | none => if d ≤ steep then 0 else 1
  | some q => wiI (vl q.1 (F3 d steep 0) q.2.1) 0 (d / 2)
theorem p_X7_slideBy {u : am_MU} {o : LW} (hl : LawM (u 111) 1 2 o) (d : Int32) : ∃ u', f_X7_slideBy u d = some (u', slI o (u 111 5) d) ∧ same [122, 123] u u' := by
  obtain ⟨cc, e1, e2⟩ := p_X7_law (key := 1) (by decide) hl
  have e1 : f_X7_counts u 1 = some (u, cc) := e1
  unfold f_X7_slideBy
  rw [e1, p_some, p_let, p_let]
  dsimp only
  generalize hv1 : am_u2 u 123 0 d = v1
  have a1 : v1 111 = u 111 := by rw [← hv1, u2_ne _ _ (by decide)]
  have b0 : v1 123 0 = d := by rw [← hv1, u2_same]
  rw [a1]
  generalize hv2 : am_u2 v1 123 1 (u 111 5) = v2
  have a2 : v2 111 = u 111 := by rw [← hv2, u2_ne _ _ (by decide), a1]
  have b2 : ∀ j, j < 2 → v2 123 j = F3 d (u 111 5) 0 j := by
    intro j hj
    rcases (show j = 0 ∨ j = 1 by omega) with rfl | rfl
    · rw [← hv2, u2_nei _ _ (Or.inr (by decide)), b0]; rfl
    · rw [← hv2, u2_same]; rfl
  have s2 : same [122, 123] u v2 := by
    intro a ha
    have n1 : a ≠ 123 := fun e => ha (by rw [e]; decide)
    rw [← hv2, u2_ne _ _ n1, ← hv1, u2_ne _ _ n1]
  cases o with
  | none =>
    have e2 : ¬ 0 ≤ cc := e2
    rw [if_neg e2, a2]
    refine ⟨v2, ?_, s2⟩
    show _ = some (v2, if d ≤ u 111 5 then 0 else 1)
    split <;> rfl
  | some q =>
    obtain ⟨e3, e4⟩ := e2
    rw [if_pos e3]
    obtain ⟨v4, r1, r2⟩ := e4 v2 _ _ _ a2 b2
    rw [r1, p_some]
    simp only [p_X7_within, p_some]
    exact ⟨v4, rfl, same_tr s2 (same_mono r2 (by decide))⟩
/-! the class -/
def fmI (x : Int32) : Int32 := if 0 ≤ (x ^^^ 24) then x - x / 24 * 24 else if x - x / 24 * 24 = 0 then x - x / 24 * 24 else x - x / 24 * 24 + 24
theorem p_X6_inRing0 (u : am_MU) (x : Int32) : f_X6_inRing u x = some (u, fmI x) := by
  unfold f_X6_inRing f_J9_floorMod_7cf53 fmI
  rw [if_pos (by decide), p_let]
  by_cases h1 : 0 ≤ (x ^^^ 24)
  · rw [if_pos h1, if_pos h1]; rfl
  · rw [if_neg h1, if_neg h1]
    by_cases h2 : x - x / 24 * 24 = 0
    · rw [if_pos h2, if_pos h2]; rfl
    · rw [if_neg h2, if_neg h2]; rfl
theorem p_fm : ∀ i, i < 72 → fmI (nI i - 24) = nI (i % 24) := by decide +kernel
theorem p_X6_inRing (u : am_MU) {x : Int32} {i : Nat} (hx : x + 24 = nI i) (hi : i < 72) : f_X6_inRing u x = some (u, nI (i % 24)) := by
  rw [p_X6_inRing0, ← p_fm i hi, ← hx, Int32.add_sub_cancel]
theorem p_ringW (u : am_MU) {c : Nat} (hc : c < 24) {w : Int32} (hw : w = 1 ∨ w = -1) : f_X6_inRing u (nI c + w) = some (u, nI (rg c w)) := by
  rcases hw with rfl | rfl
  · rw [p_X6_inRing u (i := c + 25) (by rw [nI_1, show (24 : Int32) = nI 24 from rfl, nI_add]) (by omega), show (c + 25) % 24 = rg c 1 by unfold rg; rw [if_pos rfl]; omega]
  · rw [p_X6_inRing u (i := c + 23) (by rw [Int32.add_assoc, show (-1 : Int32) + 24 = nI 23 from by decide, nI_add]) (by omega)]
    rfl
theorem p_X6_lift75 (u : am_MU) {a : Nat} (ta : tg a = 0) {h : Int32} (hh : 0 ≤ h) (g : Int32) : g_X6_liftOf_75 u a h g = some (u, grI (u a 2) (wiI g 0 h)) := by
  unfold g_X6_liftOf_75
  rw [p_X6_within, p_some]
  dsimp only
  rw [p_wi hh, if_pos ta, p_max, p_some]
  unfold grI
  split
  · rfl
  · split <;> rfl
theorem tg49 : ∀ t, t < 14 → tg (49 + 2 * t) = 4 := by decide +kernel
theorem p_noN {t : Nat} (h : t < 14) : ¬ nI t = -1000000005 := fun e => nI_pos (show t < 2 ^ 31 by omega) (by rw [e]; decide)
theorem p_X6_liftOf {u : am_MU} {w0 a c : Nat} {o : LW} (tw : tg w0 = 5) (ta : tg a = 0) (hc : c < 24) (hl : LawC u w0 0 3 o) (h0 : 0 ≤ rc u a c) : ∃ u', f_X6_liftOf u w0 a (nI c) = some (u', liI o (u a 2) (wyI (u a 2) (u a 1)) (u (w0 + 1) 1) (rc u a) c) ∧ same [44] u u' := by
  have hw : wyI (u a 2) (u a 1) = 1 ∨ wyI (u a 2) (u a 1) = -1 := by
    unfold wyI
    split
    · exact Or.inl rfl
    · split
      · exact Or.inl rfl
      · split
        · exact Or.inl rfl
        · exact Or.inr rfl
  unfold f_X6_liftOf
  rw [if_pos ta, if_pos (p_inT (by omega) hc), nI_clamp (by omega), p_let, p_rc u hc, p_X0_way u ta, p_some]
  dsimp only
  rw [p_ringW u hc hw, p_some]
  dsimp only
  generalize wyI (u a 2) (u a 1) = w at hw
  rw [if_pos (p_inT (by have := rg_lt c w; omega) (rg_lt c w)), nI_clamp (by have := rg_lt c w; omega), p_let, if_pos tw, p_let, p_let, p_rc u (rg_lt c w)]
  unfold liI
  cases o with
  | none =>
    have hl : u (w0 + 2) 0 = -1000000005 := hl
    rw [hl, if_pos rfl]
    exact ⟨u, p_X6_lift75 u ta h0 _, same_rf⟩
  | some q =>
    obtain ⟨t, a1, a2, a3, a4, a5, a6⟩ := hl
    rw [a2, if_neg (p_noN a1), if_pos (p_inT (by omega) a1), nI_clamp (by omega), if_pos (tg49 t a1)]
    obtain ⟨v, r1, r2⟩ := p_X4_value (a := rc u a c) (b := rc u a c - rc u a (rg c w)) (c := u (w0 + 1) 1) (F := F3 (rc u a c) (rc u a c - rc u a (rg c w)) (u (w0 + 1) 1)) a3 a1 rfl rfl rfl u a5 a6
    rw [r1, p_some]
    dsimp only
    have n44 : a ≠ 44 := fun e => by rw [e] at ta; exact absurd ta (by decide)
    exact ⟨v, by rw [p_X6_lift75 v ta h0, r2 a (by simpa using n44)]; rfl, r2⟩
theorem p_X6_slideOf {u : am_MU} {w0 : Nat} {o : LW} (tw : tg w0 = 5) (hl : LawC u w0 1 2 o) {d : Int32} (hd : 0 ≤ d / 2) : ∃ u', f_X6_slideOf u w0 d = some (u', slI o (u (w0 + 1) 3) d) ∧ same [44] u u' := by
  unfold f_X6_slideOf
  rw [if_pos tw, p_let, p_let]
  cases o with
  | none =>
    have hl : u (w0 + 2) 1 = -1000000005 := hl
    rw [hl, if_pos rfl]
    refine ⟨u, ?_, same_rf⟩
    show _ = some (u, if d ≤ u (w0 + 1) 3 then 0 else 1)
    split <;> rfl
  | some q =>
    obtain ⟨t, a1, a2, a3, a4, a5, a6⟩ := hl
    rw [a2, if_neg (p_noN a1), if_pos (p_inT (by omega) a1), nI_clamp (by omega), if_pos (tg49 t a1)]
    obtain ⟨v, r1, r2⟩ := p_X4_value (a := d) (b := u (w0 + 1) 3) (c := 0) (F := F3 d (u (w0 + 1) 3) 0) a3 a1 rfl rfl rfl u a5 a6
    rw [r1, p_some]
    dsimp only
    rw [p_X6_within, p_some]
    dsimp only
    rw [p_wi hd]
    exact ⟨v, rfl, r2⟩
