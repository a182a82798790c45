/-! feet, worms, stones -/
theorem r_nI {r : Nat → Int32} {B : Nat} (h : rOK r B) (c : Nat) : ∃ q, q ≤ B ∧ q < 2 ^ 31 ∧ r c = nI q := by
  obtain ⟨q, h1, h2⟩ := nI_of (Int32.not_lt.mpr (p_ge0.mpr (rOK_le h c).1))
  have h3 := (rOK_le h c).2
  rw [h2, nI_toInt h1] at h3
  exact ⟨q, by omega, h1, h2⟩
/-- n1 grains go to the next cell, n2 to the one ahead -/
def ftN (r : Nat → Int32) (c : Nat) (w n1 n2 : Int32) : Nat → Int32 := upd (upd (upd r c (r c - w)) ((c + 1) % 24) (upd r c (r c - w) ((c + 1) % 24) + n1)) ((c + 23) % 24) (upd (upd r c (r c - w)) ((c + 1) % 24) (upd r c (r c - w) ((c + 1) % 24) + n1) ((c + 23) % 24) + n2)
theorem ftN_mvs {r : Nat → Int32} {c : Nat} {w n1 n2 : Int32} (hc : c < 24) (hw : w = n1 + n2) : ftN r c w n1 n2 = mvs (mvs r c ((c + 1) % 24) n1) c ((c + 23) % 24) n2 := by
  have a1 : (c + 1) % 24 ≠ c := by omega
  have a2 : (c + 23) % 24 ≠ c := by omega
  have a3 : (c + 23) % 24 ≠ (c + 1) % 24 := by omega
  unfold ftN mvs
  funext j
  by_cases h1 : j = (c + 23) % 24
  · rw [h1, upd_sm, upd_sm, upd_ne a3, upd_ne a2, upd_ne a2, upd_ne a3, upd_ne a2]
  · rw [upd_ne h1, upd_ne h1]
    by_cases h2 : j = (c + 1) % 24
    · rw [h2, upd_sm, upd_ne a1, upd_ne a1, upd_sm, upd_ne a1]
    · rw [upd_ne h2]
      by_cases h3 : j = c
      · rw [h3, upd_sm, upd_sm, upd_ne a1.symm, upd_sm, hw, Int32.sub_eq_add_neg, Int32.neg_add, Int32.sub_eq_add_neg (-n1), ← Int32.add_assoc, ← Int32.sub_eq_add_neg, ← Int32.sub_eq_add_neg]
      · rw [upd_ne h3, upd_ne h3, upd_ne h2, upd_ne h3]
theorem ftN_OK {r : Nat → Int32} {B c a b : Nat} (h : rOK r B) (hB : B < 1000000) (hc : c < 24) {q : Nat} (hq : r c = nI q) (hq2 : q ≤ B) (hab : a + b ≤ q) : rOK (ftN r c (nI (a + b)) (nI a) (nI b)) B := by
  rw [ftN_mvs hc (nI_add a b).symm]
  have e1 : (r c).toInt = q := by rw [hq, nI_toInt (by omega)]
  have h1 : rOK (mvs r c ((c + 1) % 24) (nI a)) B := mvs_OK h hB hc (by omega) (by rw [nI_toInt (by omega)]; omega) (by rw [nI_toInt (by omega), e1]; omega)
  refine mvs_OK h1 hB hc (by omega) (by rw [nI_toInt (by omega)]; omega) ?_
  rw [mvs_at h hB (by rw [nI_toInt (by omega)]; omega) (by rw [nI_toInt (by omega), e1]; omega) c, if_pos rfl, if_neg (by omega), nI_toInt (by omega), nI_toInt (by omega), e1]
  omega
theorem p_half (n : Nat) (h : n < 1000000) : nI n / 2 = nI (n / 2) ∧ nI n - nI (n / 2) = nI (n - n / 2) ∧ (nI n + 1) / 2 = nI (n - n / 2) := by
  refine ⟨pk_div (by omega) (by decide) (by decide), pk_sub (by omega), ?_⟩
  rw [nI_1, show (2 : Int32) = nI 2 from rfl, pk_div (by omega) (by decide) (by decide), show (n + 1) / 2 = n - n / 2 by omega]
theorem k_foot (x y z : Int32) : Call (fun u => f_X6_foot u x y z) (fun u => f_X7_foot u x y z) := by
  intro S B hS hB
  have hn := hS.now.n
  rcases rng x (show S.now.n < 2 ^ 31 by omega) with ⟨i, hi, rfl⟩ | hx
  · skip
    have hi6 : i < 6 := by omega
    rcases rng y (show 24 < 2 ^ 31 by omega) with ⟨c, hc, rfl⟩ | hy
    · skip
      rcases rng z (show 100 < 2 ^ 31 by omega) with ⟨v, hv, rfl⟩ | hz
      · skip
        have hr := hS.now.r i hi
        obtain ⟨q, hq1, hq2, eq⟩ := r_nI hr c
        obtain ⟨m0, hm1, hm2, hm3⟩ : ∃ m0, m0 ≤ q ∧ m0 ≤ 99 ∧ m0 = min v q := ⟨min v q, Nat.min_le_right _ _, by omega, rfl⟩
        have ew1 : (if nI q < nI v then nI q else nI v) = nI m0 := by
          by_cases z : q < v
          · rw [if_pos (nI_lt z (by omega)), show m0 = q by omega]
          · rw [if_neg (nI_nlt (by omega) (by omega)), show m0 = v by omega]
        have ew2 : wiI (nI v) 0 (nI q) = nI m0 := by
          unfold wiI
          rw [if_pos (nI_pos' (by omega))]
          by_cases z : v ≤ q
          · rw [if_pos (nI_le z (by omega)), show m0 = v by omega]
          · rw [if_neg (nI_ge (by omega) (by omega)), show m0 = q by omega]
        obtain ⟨p1, p2, p3⟩ := p_half m0 (by omega)
        have hOK : rOK (ftN (S.now.fl i).r c (nI m0) (nI (m0 - m0 / 2)) (nI (m0 / 2))) B := by
          have := ftN_OK (a := m0 - m0 / 2) (b := m0 / 2) hr (by omega) hc eq hq1 (by omega)
          rw [show m0 - m0 / 2 + m0 / 2 = m0 by omega] at this
          exact this
        refine Cfl (L := [5 + 2 * i + 1]) (M := [111]) hS hi ((S.now.fl i).k, (S.now.fl i).t, ftN (S.now.fl i).r c (nI m0) (nI (m0 - m0 / 2)) (nI (m0 / 2))) (nI m0) (hS.now.k i hi) (rOK_mono hOK (by omega)) (by simp; omega) (by simp) (fun u hu => ?_) (fun u hu => ?_)
        · have hF := fl1 hu hi
          obtain ⟨v1, hv1⟩ : ∃ v1, v1 = am_u2 u (5 + 2 * i + 1) c (nI q - nI m0) := ⟨_, rfl⟩
          obtain ⟨v2, hv2⟩ : ∃ v2, v2 = am_u2 v1 (5 + 2 * i + 1) ((c + 1) % 24) (v1 (5 + 2 * i + 1) ((c + 1) % 24) + nI (m0 - m0 / 2)) := ⟨_, rfl⟩
          obtain ⟨v3, hv3⟩ : ∃ v3, v3 = am_u2 v2 (5 + 2 * i + 1) ((c + 23) % 24) (v2 (5 + 2 * i + 1) ((c + 23) % 24) + nI (m0 / 2)) := ⟨_, rfl⟩
          have r1 : rc v1 (5 + 2 * i) = upd (S.now.fl i).r c ((S.now.fl i).r c - nI m0) := by rw [hv1, rc_u2 u hc, hF.2.2, eq]
          have r2 : rc v2 (5 + 2 * i) = upd (rc v1 (5 + 2 * i)) ((c + 1) % 24) (rc v1 (5 + 2 * i) ((c + 1) % 24) + nI (m0 - m0 / 2)) := by rw [hv2, rc_u2 v1 (by omega), p_rc v1 (show (c + 1) % 24 < 24 by omega)]
          have r3 : rc v3 (5 + 2 * i) = upd (rc v2 (5 + 2 * i)) ((c + 23) % 24) (rc v2 (5 + 2 * i) ((c + 23) % 24) + nI (m0 / 2)) := by rw [hv3, rc_u2 v2 (by omega), p_rc v2 (show (c + 23) % 24 < 24 by omega)]
          have s3 : same [(5 + 2 * i + 1)] u v3 := by rw [hv3, hv2, hv1]; exact same_tr (same_tr (same_u2 _ _ _ _ (by simp)) (same_u2 _ _ _ _ (by simp))) (same_u2 _ _ _ _ (by simp))
          refine ⟨v3, ?_, s3, ?_, ?_, ?_⟩
          · rw [hv3, hv2, hv1]
            simp only [f_X6_foot, fC1 hu.now.n hn hi, cC1 u hc, ii hv (show 99 < 1000000 by decide) 99 rfl, p_some, one0, ↓reduceIte, p_inT (show i < 2 ^ 31 by omega) hi6, nI_clamp (show i < 2 ^ 31 by omega), tg5 i hi6, p_inT (show c < 2 ^ 31 by omega) hc, nI_clamp (show c < 2 ^ 31 by omega), p_min, CF_at hF hc, eq, ew1, fun z => p_next z hc, fun z => p_ahead z hc, p_inT (show (c + 1) % 24 < 2 ^ 31 by omega) (show (c + 1) % 24 < 24 by omega), nI_clamp (show (c + 1) % 24 < 2 ^ 31 by omega), p_inT (show (c + 23) % 24 < 2 ^ 31 by omega) (show (c + 23) % 24 < 24 by omega), nI_clamp (show (c + 23) % 24 < 2 ^ 31 by omega), p_let, p1, p2]
          · rw [s3 _ (by simp)]; exact hF.1
          · rw [s3 _ (by simp)]; exact hF.2.1
          · rw [r3, r2, r1]; rfl
        · have hF := hu.now.fl i hi
          obtain ⟨v1, hv1⟩ : ∃ v1, v1 = am_u2 u 111 (9 + 26 * i + c) (nI q - nI m0) := ⟨_, rfl⟩
          obtain ⟨v2, hv2⟩ : ∃ v2, v2 = am_u2 v1 111 (9 + 26 * i + ((c + 1) % 24)) (v1 111 (9 + 26 * i + ((c + 1) % 24)) + nI (m0 - m0 / 2)) := ⟨_, rfl⟩
          obtain ⟨v3, hv3⟩ : ∃ v3, v3 = am_u2 v2 111 (9 + 26 * i + ((c + 23) % 24)) (v2 111 (9 + 26 * i + ((c + 23) % 24)) + nI (m0 / 2)) := ⟨_, rfl⟩
          have r1 : rmR (v1 111) i = upd (S.now.fl i).r c ((S.now.fl i).r c - nI m0) := by rw [hv1, u2_row, rmR_upd _ hc, hF.2.2, eq]
          have r2 : rmR (v2 111) i = upd (rmR (v1 111) i) ((c + 1) % 24) (rmR (v1 111) i ((c + 1) % 24) + nI (m0 - m0 / 2)) := by rw [hv2, u2_row, rmR_upd _ (by omega), p_rmR (v1 111) i (show (c + 1) % 24 < 24 by omega)]
          have r3 : rmR (v3 111) i = upd (rmR (v2 111) i) ((c + 23) % 24) (rmR (v2 111) i ((c + 23) % 24) + nI (m0 / 2)) := by rw [hv3, u2_row, rmR_upd _ (by omega), p_rmR (v2 111) i (show (c + 23) % 24 < 24 by omega)]
          have s4 : ∀ j, (j < 9 + 26 * i ∨ 33 + 26 * i ≤ j) → v3 111 j = u 111 j := fun j hj => by rw [hv3, u2_nei _ _ (Or.inr (by omega)), hv2, u2_nei _ _ (Or.inr (by omega)), hv1, u2_nei _ _ (Or.inr (by omega))]
          refine ⟨v3, ?_, ?_, fun j hj => s4 j (by omega), ?_, ?_, ?_⟩
          · rw [hv3, hv2, hv1]
            simp only [f_X7_foot, fM1 hu.now.n hn hi, cM1 u hc, in_in u 99 (n := 99) rfl (by decide) hv, p_some, one0, ↓reduceIte, p_sand0 u hi6 hc, rm_eq, hF.2.2, p_X7_within, eq, ew2, fun z => p_spot0 (f := i) z hc, fun z => p_spotP (f := i) z hc, fun z => p_spotM (f := i) z hc, p_inT (show 9 + 26 * i + c < 2 ^ 31 by omega) (show 9 + 26 * i + c < 1535 by omega), nI_clamp (show 9 + 26 * i + c < 2 ^ 31 by omega), p_inT (show 9 + 26 * i + (c + 1) % 24 < 2 ^ 31 by omega) (show 9 + 26 * i + (c + 1) % 24 < 1535 by omega), nI_clamp (show 9 + 26 * i + (c + 1) % 24 < 2 ^ 31 by omega), p_inT (show 9 + 26 * i + (c + 23) % 24 < 2 ^ 31 by omega) (show 9 + 26 * i + (c + 23) % 24 < 1535 by omega), nI_clamp (show 9 + 26 * i + (c + 23) % 24 < 2 ^ 31 by omega), p_let, MF_at hF hc, p1, p3]
          · rw [hv3, hv2, hv1]; exact same_tr (same_tr (same_u2 _ _ _ _ (by simp)) (same_u2 _ _ _ _ (by simp))) (same_u2 _ _ _ _ (by simp))
          · rw [s4 _ (by omega)]; exact hF.1
          · rw [s4 _ (by omega)]; exact hF.2.1
          · rw [r3, r2, r1]; rfl
      · exact Cro hS (-1000000001) (fun u hu => by simp only [f_X6_foot, fC1 hu.now.n hn hi, cC1 u hc, oi hz (show 99 < 1000000 by decide) 99 rfl, p_some, one0, ↓reduceIte]) (fun u hu => by simp only [f_X7_foot, fM1 hu.now.n hn hi, cM1 u hc, out_in u 99 (n := 99) rfl (by decide) hz, p_some, one0, ↓reduceIte])
    · exact Cro hS (-1000000001) (fun u hu => by simp only [f_X6_foot, fC1 hu.now.n hn hi, cC0 u hy, p_some, one0, ↓reduceIte]) (fun u hu => by simp only [f_X7_foot, fM1 hu.now.n hn hi, cM0 u hy, p_some, one0, ↓reduceIte])
  · exact Cro hS (-1000000001) (fun u hu => by simp only [f_X6_foot, fC0 hu.now.n hx, p_some, one0, ↓reduceIte]) (fun u hu => by simp only [f_X7_foot, fM0 hu.now.n hn hx, p_some, one0, ↓reduceIte])
def woR (r : Nat → Int32) (c : Nat) (a b : Int32) : Nat → Int32 := upd (upd (upd r ((c + 23) % 24) a) ((c + 1) % 24) a) c b
theorem woR_OK {r : Nat → Int32} {B c x y z : Nat} (h : rOK r B) (hc : c < 24) (hx : r ((c + 23) % 24) = nI x) (hy : r c = nI y) (hz : r ((c + 1) % 24) = nI z) (hb : x < 1000000 ∧ y < 1000000 ∧ z < 1000000) : rOK (woR r c (nI ((x + y + z) / 3)) (nI (x + y + z - (x + y + z) / 3 * 2))) B := by
  have a1 : (c + 1) % 24 ≠ c := by omega
  have a2 : (c + 23) % 24 ≠ c := by omega
  have a3 : (c + 23) % 24 ≠ (c + 1) % 24 := by omega
  unfold woR
  refine ⟨fun j hj => ?_, ?_, fun j hj => ?_⟩
  · by_cases h1 : j = c
    · rw [h1, upd_sm, nI_toInt (by omega)]; omega
    · rw [upd_ne h1]
      by_cases h2 : j = (c + 1) % 24
      · rw [h2, upd_sm, nI_toInt (by omega)]; omega
      · rw [upd_ne h2]
        by_cases h3 : j = (c + 23) % 24
        · rw [h3, upd_sm, nI_toInt (by omega)]; omega
        · rw [upd_ne h3]; exact h.1 j hj
  · have := h.2.1
    rw [smZ_upd, smZ_upd, smZ_upd, if_pos hc, if_pos (by omega), if_pos (by omega), upd_ne a1.symm, upd_ne a2.symm, upd_ne a3.symm, hx, hy, hz, nI_toInt (by omega), nI_toInt (by omega), nI_toInt (by omega), nI_toInt (by omega), nI_toInt (by omega)]
    omega
  · rw [upd_ne (by omega), upd_ne (by omega), upd_ne (by omega)]; exact h.2.2 j hj
theorem k_worm (x y : Int32) : Call (fun u => f_X6_worm u x y) (fun u => f_X7_worm u x y) := by
  intro S B hS hB
  have hn := hS.now.n
  rcases rng x (show S.now.n < 2 ^ 31 by omega) with ⟨i, hi, rfl⟩ | hx
  · skip
    have hi6 : i < 6 := by omega
    rcases rng y (show 24 < 2 ^ 31 by omega) with ⟨c, hc, rfl⟩ | hy
    · skip
      have hr := hS.now.r i hi
      obtain ⟨x, hx1, hx2, ex⟩ := r_nI hr ((c + 23) % 24)
      obtain ⟨y, hy1, hy2, ey⟩ := r_nI hr c
      obtain ⟨z, hz1, hz2, ez⟩ := r_nI hr ((c + 1) % 24)
      have hOK := woR_OK hr hc ex ey ez (by omega)
      have d3 : nI (x + y + z) / 3 = nI ((x + y + z) / 3) := by rw [show (3 : Int32) = nI 3 from rfl]; exact pk_div (by omega) (by decide) (by decide)
      have d2 : nI (x + y + z) - nI ((x + y + z) / 3) * 2 = nI (x + y + z - (x + y + z) / 3 * 2) := by rw [show (2 : Int32) = nI 2 from rfl, pk_mul, pk_sub (by omega)]
      have d1 : nI (x + y + z) - 2 * nI ((x + y + z) / 3) = nI (x + y + z - (x + y + z) / 3 * 2) := by rw [Int32.mul_comm]; exact d2
      refine Cfl (L := [5 + 2 * i + 1]) (M := [111]) hS hi ((S.now.fl i).k, (S.now.fl i).t, woR (S.now.fl i).r c (nI ((x + y + z) / 3)) (nI (x + y + z - (x + y + z) / 3 * 2))) (nI (x + y + z - (x + y + z) / 3 * 2)) (hS.now.k i hi) (rOK_mono hOK (by omega)) (by simp; omega) (by simp) (fun u hu => ?_) (fun u hu => ?_)
      · have hF := fl1 hu hi
        obtain ⟨v3, hv3⟩ : ∃ v3, v3 = am_u2 (am_u2 (am_u2 u (5 + 2 * i + 1) ((c + 23) % 24) (nI ((x + y + z) / 3))) (5 + 2 * i + 1) ((c + 1) % 24) (nI ((x + y + z) / 3))) (5 + 2 * i + 1) c (nI (x + y + z - (x + y + z) / 3 * 2)) := ⟨_, rfl⟩
        have s3 : same [(5 + 2 * i + 1)] u v3 := by rw [hv3]; exact same_tr (same_tr (same_u2 _ _ _ _ (by simp)) (same_u2 _ _ _ _ (by simp))) (same_u2 _ _ _ _ (by simp))
        refine ⟨v3, ?_, s3, ?_, ?_, ?_⟩
        · rw [hv3]
          simp only [f_X6_worm, fC1 hu.now.n hn hi, cC1 u hc, p_some, one0, ↓reduceIte, p_inT (show i < 2 ^ 31 by omega) hi6, nI_clamp (show i < 2 ^ 31 by omega), tg5 i hi6, p_inT (show c < 2 ^ 31 by omega) hc, nI_clamp (show c < 2 ^ 31 by omega), fun z => p_next z hc, fun z => p_ahead z hc, p_inT (show (c + 1) % 24 < 2 ^ 31 by omega) (show (c + 1) % 24 < 24 by omega), nI_clamp (show (c + 1) % 24 < 2 ^ 31 by omega), p_inT (show (c + 23) % 24 < 2 ^ 31 by omega) (show (c + 23) % 24 < 24 by omega), nI_clamp (show (c + 23) % 24 < 2 ^ 31 by omega), p_let, CF_at hF hc, CF_at hF (show (c + 1) % 24 < 24 by omega), CF_at hF (show (c + 23) % 24 < 24 by omega), ex, ey, ez, nI_add, d3, d2, u2_same]
        · rw [s3 _ (by simp)]; exact hF.1
        · rw [s3 _ (by simp)]; exact hF.2.1
        · rw [hv3, rc_u2 _ hc, rc_u2 _ (by omega), rc_u2 _ (by omega), hF.2.2]; rfl
      · have hF := hu.now.fl i hi
        obtain ⟨v3, hv3⟩ : ∃ v3, v3 = am_u2 (am_u2 (am_u2 u 111 (9 + 26 * i + ((c + 23) % 24)) (nI ((x + y + z) / 3))) 111 (9 + 26 * i + ((c + 1) % 24)) (nI ((x + y + z) / 3))) 111 (9 + 26 * i + c) (nI (x + y + z - (x + y + z) / 3 * 2)) := ⟨_, rfl⟩
        have s4 : ∀ j, (j < 9 + 26 * i ∨ 33 + 26 * i ≤ j) → v3 111 j = u 111 j := fun j hj => by rw [hv3, u2_nei _ _ (Or.inr (by omega)), u2_nei _ _ (Or.inr (by omega)), u2_nei _ _ (Or.inr (by omega))]
        have r3 : rmR (v3 111) i = woR (S.now.fl i).r c (nI ((x + y + z) / 3)) (nI (x + y + z - (x + y + z) / 3 * 2)) := by rw [hv3, u2_row, rmR_upd _ hc, u2_row, rmR_upd _ (by omega), u2_row, rmR_upd _ (by omega), hF.2.2]; rfl
        have e9 : f_X7_sandOf v3 (nI i) (nI c) = some (v3, nI (x + y + z - (x + y + z) / 3 * 2)) := by rw [p_sand0 v3 hi6 hc, rm_eq, r3]; unfold woR; rw [upd_sm]
        refine ⟨v3, ?_, ?_, fun j hj => s4 j (by omega), ?_, ?_, r3⟩
        · simp only [f_X7_worm, fM1 hu.now.n hn hi, cM1 u hc, p_some, one0, ↓reduceIte, p_sand0 u hi6 hc, p_sandM u hi6 hc, p_sandP u hi6 hc, rm_eq, hF.2.2, fun z => p_spot0 (f := i) z hc, fun z => p_spotP (f := i) z hc, fun z => p_spotM (f := i) z hc, p_inT (show 9 + 26 * i + c < 2 ^ 31 by omega) (show 9 + 26 * i + c < 1535 by omega), nI_clamp (show 9 + 26 * i + c < 2 ^ 31 by omega), p_inT (show 9 + 26 * i + (c + 1) % 24 < 2 ^ 31 by omega) (show 9 + 26 * i + (c + 1) % 24 < 1535 by omega), nI_clamp (show 9 + 26 * i + (c + 1) % 24 < 2 ^ 31 by omega), p_inT (show 9 + 26 * i + (c + 23) % 24 < 2 ^ 31 by omega) (show 9 + 26 * i + (c + 23) % 24 < 1535 by omega), nI_clamp (show 9 + 26 * i + (c + 23) % 24 < 2 ^ 31 by omega), p_let, ex, ey, ez, nI_add, d3, d1, ← hv3, e9]
        · rw [hv3]; exact same_tr (same_tr (same_u2 _ _ _ _ (by simp)) (same_u2 _ _ _ _ (by simp))) (same_u2 _ _ _ _ (by simp))
        · rw [s4 _ (by omega)]; exact hF.1
        · rw [s4 _ (by omega)]; exact hF.2.1
    · exact Cro hS (-1000000001) (fun u hu => by simp only [f_X6_worm, fC1 hu.now.n hn hi, cC0 u hy, p_some, one0, ↓reduceIte]) (fun u hu => by simp only [f_X7_worm, fM1 hu.now.n hn hi, cM0 u hy, p_some, one0, ↓reduceIte])
  · exact Cro hS (-1000000001) (fun u hu => by simp only [f_X6_worm, fC0 hu.now.n hx, p_some, one0, ↓reduceIte]) (fun u hu => by simp only [f_X7_worm, fM0 hu.now.n hn hx, p_some, one0, ↓reduceIte])
def prR (r : Nat → Int32) (h : Int32) : Nat → Nat → Int32
  | 0 => r
  | c + 1 => upd (prR r h c) c (prR r h c c * h / 100)
theorem prR_OK {r : Nat → Int32} {B k : Nat} (h : rOK r B) (hB : B < 1000000) (hk : k ≤ 100) : ∀ c, c ≤ 24 → rOK (prR r (nI k) c) B := by
  intro c
  induction c with
  | zero => intro _; exact h
  | succ c ih =>
    intro hc
    have q := ih (by omega)
    obtain ⟨x, hx1, hx2, ex⟩ := r_nI q c
    have hm : x * k ≤ x * 100 := Nat.mul_le_mul (Nat.le_refl _) hk
    have e : prR r (nI k) c c * nI k / 100 = nI (x * k / 100) := by
      rw [ex, pk_mul, show (100 : Int32) = nI 100 from rfl, pk_div (by omega) (by decide) (by decide)]
    refine rOK_updD (D := 0) q (by omega) ?_ ?_
    · rw [e, nI_toInt (by omega)]; omega
    · rw [e, ex, nI_toInt (by omega), nI_toInt (by omega)]; omega
theorem p_X6_pressL {i : Nat} (hi : i < 6) {h was : Int32} {r : Nat → Int32} : ∀ (m c n : Nat) (u : am_MU), c + m = 24 → m < n → rc u (5 + 2 * i) = prR r h c → ∃ u', g_X6_press_40 n u h (5 + 2 * i) was (nI c) = some (u', was - sm (prR r h 24) 24) ∧ same [5 + 2 * i + 1] u u' ∧ rc u' (5 + 2 * i) = prR r h 24 := by
  have ta := tg5 i hi
  intro m
  induction m with
  | zero =>
    intro c n u h1 h2 hr
    obtain ⟨n, rfl⟩ : ∃ k, n = k + 1 := ⟨n - 1, by omega⟩
    obtain rfl : c = 24 := by omega
    rw [g_X6_press_40]
    dsimp only
    rw [if_pos (show (24 : Int32) ≤ nI 24 by decide)]
    rw [if_pos ta, p_X0_total u ta, p_some, hr]
    exact ⟨u, rfl, same_rf, hr⟩
  | succ m ih =>
    intro c n u h1 h2 hr
    obtain ⟨n, rfl⟩ : ∃ k, n = k + 1 := ⟨n - 1, by omega⟩
    have hc : c < 24 := by omega
    rw [g_X6_press_40]
    dsimp only
    rw [if_neg (p_ge24 hc)]
    rw [if_pos ta, if_pos (p_inT (by omega) hc), nI_clamp (by omega), p_let, p_let, nI_1, p_rc u hc, hr]
    obtain ⟨u', g1, g2, g3⟩ := ih (c + 1) n (am_u2 u (5 + 2 * i + 1) c (prR r h c c * h / 100)) (by omega) (by omega) (by rw [rc_u2 u hc, hr]; rfl)
    exact ⟨u', g1, same_tr (same_u2 _ _ _ _ (by simp)) g2, g3⟩
theorem p_X7_pressL {i : Nat} (hi : i < 6) {h was : Int32} {r : Nat → Int32} : ∀ (m c n : Nat) (u : am_MU), c + m = 24 → m < n → rmR (u 111) i = prR r h c → ∃ u', g_X7_press_30 n u (nI i) h was (nI c) = some (u', was - sm (prR r h 24) 24) ∧ same [111] u u' ∧ (∀ j, (j < 9 + 26 * i ∨ 33 + 26 * i ≤ j) → u' 111 j = u 111 j) ∧ rmR (u' 111) i = prR r h 24 := by
  intro m
  induction m with
  | zero =>
    intro c n u h1 h2 hr
    obtain ⟨n, rfl⟩ : ∃ k, n = k + 1 := ⟨n - 1, by omega⟩
    obtain rfl : c = 24 := by omega
    rw [g_X7_press_30]
    dsimp only
    rw [if_pos (show (24 : Int32) ≤ nI 24 by decide)]
    rw [p_X7_sum u hi, p_some, rm_eq, hr]
    exact ⟨u, rfl, same_rf, fun _ _ => rfl, hr⟩
  | succ m ih =>
    intro c n u h1 h2 hr
    obtain ⟨n, rfl⟩ : ∃ k, n = k + 1 := ⟨n - 1, by omega⟩
    have hc : c < 24 := by omega
    rw [g_X7_press_30]
    dsimp only
    rw [if_neg (p_ge24 hc)]
    rw [p_spot0 u hc, p_some]
    dsimp only
    rw [p_sand0 u hi hc, p_some]
    dsimp only
    rw [if_pos (p_inT (by omega) (by omega)), nI_clamp (by omega), p_let, p_let, nI_1, rm_eq, hr]
    obtain ⟨u', g1, g2, g3, g4⟩ := ih (c + 1) n (am_u2 u 111 (9 + 26 * i + c) (prR r h c c * h / 100)) (by omega) (by omega) (by rw [u2_row, rmR_upd _ hc, hr]; rfl)
    exact ⟨u', g1, same_tr (same_u2 _ _ _ _ (by simp)) g2, fun j hj => by rw [g3 j hj, u2_nei _ _ (Or.inr (by omega))], g4⟩
theorem k_press (x y : Int32) : Call (fun u => f_X6_press u x y) (fun u => f_X7_press u x y) := by
  intro S B hS hB
  have hn := hS.now.n
  rcases rng x (show S.now.n < 2 ^ 31 by omega) with ⟨i, hi, rfl⟩ | hx
  · skip
    have hi6 : i < 6 := by omega
    rcases rng y (show 101 < 2 ^ 31 by omega) with ⟨h, hh, rfl⟩ | hy
    · skip
      have hr := hS.now.r i hi
      obtain ⟨P, hP⟩ : ∃ P, P = prR (S.now.fl i).r (nI h) 24 := ⟨_, rfl⟩
      have hPO : rOK P (B + 2400) := by rw [hP]; exact rOK_mono (prR_OK hr (by omega) (by omega) 24 (Nat.le_refl _)) (by omega)
      refine Cfl (L := [5 + 2 * i + 1]) (M := [111]) hS hi ((S.now.fl i).k, (S.now.fl i).t, P) (sm (S.now.fl i).r 24 - sm P 24) (hS.now.k i hi) hPO (by simp; omega) (by simp) (fun u hu => ?_) (fun u hu => ?_)
      · have hF := fl1 hu hi
        obtain ⟨u1, e1, e2, e3⟩ := p_X6_pressL hi6 (h := nI h) (was := sm (S.now.fl i).r 24) (r := (S.now.fl i).r) 24 0 1700 u rfl (by decide) hF.2.2
        rw [← hP] at e1 e3
        refine ⟨u1, ?_, e2, ?_, ?_, e3⟩
        · show f_X6_press u (nI i) (nI h) = _
          unfold f_X6_press
          rw [bG1 (fC1 hu.now.n hn hi), ii hh (show 100 < 1000000 by decide) 100 rfl, if_pos (p_inT (show i < 2 ^ 31 by omega) hi6), nI_clamp (show i < 2 ^ 31 by omega), if_pos (tg5 i hi6), p_X0_total u (tg5 i hi6), p_some, hF.2.2]
          exact e1
        · rw [e2 _ (by simp)]; exact hF.1
        · rw [e2 _ (by simp)]; exact hF.2.1
      · have hF := hu.now.fl i hi
        obtain ⟨u1, e1, e2, e3, e4⟩ := p_X7_pressL hi6 (h := nI h) (was := sm (S.now.fl i).r 24) (r := (S.now.fl i).r) 24 0 1700 u rfl (by decide) hF.2.2
        rw [← hP] at e1 e4
        refine ⟨u1, ?_, e2, fun j hj => e3 j (by omega), ?_, ?_, e4⟩
        · show f_X7_press u (nI i) (nI h) = _
          unfold f_X7_press
          rw [fM1 hu.now.n hn hi, p_some, if_neg (show ¬ (1 : Int32) = 0 by decide), in_in u 100 (n := 100) rfl (by decide) hh, p_some, if_neg (show ¬ (1 : Int32) = 0 by decide), p_X7_sum u hi6, p_some, rm_eq, hF.2.2]
          exact e1
        · rw [e3 _ (by omega)]; exact hF.1
        · rw [e3 _ (by omega)]; exact hF.2.1
    · exact Cro hS (-1000000001) (fun u hu => by show f_X6_press u (nI i) y = _; unfold f_X6_press; rw [bG1 (fC1 hu.now.n hn hi), oi hy (show 100 < 1000000 by decide) 100 rfl]) (fun u hu => by show f_X7_press u (nI i) y = _; unfold f_X7_press; rw [bG1 (fM1 hu.now.n hn hi), bG0 (out_in u 100 (n := 100) rfl (by decide) hy)])
  · exact Cro hS (-1000000001) (fun u hu => by show f_X6_press u x y = _; unfold f_X6_press; rw [bG0 (fC0 hu.now.n hx)]) (fun u hu => by show f_X7_press u x y = _; unfold f_X7_press; rw [bG0 (fM0 hu.now.n hn hx)])
