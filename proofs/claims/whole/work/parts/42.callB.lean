/-! told, lift; plain writes -/
theorem d10_0 : ((10 : Int32) = 0) = False := eq_false (by decide)
theorem d10_1 : ((10 : Int32) = 1) = False := eq_false (by decide)
theorem d10_2 : ((10 : Int32) = 2) = False := eq_false (by decide)
theorem d10_3 : ((10 : Int32) = 3) = False := eq_false (by decide)
theorem d10_4 : ((10 : Int32) = 4) = False := eq_false (by decide)
theorem d10_5 : ((10 : Int32) = 5) = False := eq_false (by decide)
theorem d10_6 : ((10 : Int32) = 6) = False := eq_false (by decide)
theorem d10_7 : ((10 : Int32) = 7) = False := eq_false (by decide)
theorem d10_8 : ((10 : Int32) = 8) = False := eq_false (by decide)
theorem d10_9 : ((10 : Int32) = 9) = False := eq_false (by decide)
theorem d1_0 : (nI 1 = 0) = False := eq_false (by decide)
theorem d0_0 : (nI 0 = 0) = True := eq_true (by decide)
def tdI (y : Int32) (e : SE) (s : FS) : Int32 := if y = 0 then s.k else if y = 1 then s.t else if y = 2 then sm s.r 24 else if y = 3 then mx s.r 23 else if y = 4 then mn s.r 23 else if y = 5 then sm (crI s.r) 24 else if y = 6 then sm (lnI s.r) 24 else if y = 7 then woI s.k s.r else if y = 8 then reI s.k s.t e.far e.sec else if y = 9 then wyI s.k s.t else -1000000001
theorem k_told (x y : Int32) : Call (fun u => f_X6_told u x y) (fun u => f_X7_told u x y) := by
  intro S B hS hB
  have hn := hS.now.n
  rcases rng x (show S.now.n < 2 ^ 31 by omega) with ⟨i, hi, rfl⟩ | hx
  · skip
    have hi6 : i < 6 := by omega
    have hr := hS.now.r i hi
    have heo := eOK_of hS.now
    by_cases h10 : y = 10
    · subst h10
      refine Csc (L := [44]) (M := [122, 123]) hS (sm (mkI (S.now.env S.T).o2 (S.now.fl i).r) 24) (by simp) (by simp [scm]) (fun u hu => ?_) (fun u hu => ?_)
      · obtain ⟨u1, e1, e2⟩ := p_X6_marksOf (FA5 hi6) (CE_of hS.now hu.tx hu.now) (fl1 hu hi)
        refine ⟨u1, ?_, e2⟩
        simp only [f_X6_told, fC1 hu.now.n hn hi, p_some, one0, ↓reduceIte, p_inT (show i < 2 ^ 31 by omega) hi6, nI_clamp (show i < 2 ^ 31 by omega), tg5 i hi6, p_some, d10_0, d10_1, d10_2, d10_3, d10_4, d10_5, d10_6, d10_7, d10_8, d10_9, e1]
      · obtain ⟨u1, e1, e2⟩ := p_X7_marksOf hi6 hr (ME_of hS.now hu.now) (hu.now.fl i hi)
        refine ⟨u1, ?_, e2⟩
        simp only [f_X7_told, fM1 hu.now.n hn hi, p_some, one0, ↓reduceIte, p_some, d10_0, d10_1, d10_2, d10_3, d10_4, d10_5, d10_6, d10_7, d10_8, d10_9, e1]
    · refine Cro hS (tdI y (S.now.env S.T) (S.now.fl i)) (fun u hu => ?_) (fun u hu => ?_)
      · have hE := CE_of hS.now hu.tx hu.now
        have hF := fl1 hu hi
        have ta := tg5 i hi6
        have r8 := p_X6_reachOf u (w := 1) (a := 5 + 2 * i) (by decide) ta
        rw [hF.1, hF.2.1, hE.1, hE.2.2.1] at r8
        simp only [f_X6_told, fC1 hu.now.n hn hi, p_some, one0, ↓reduceIte, p_inT (show i < 2 ^ 31 by omega) hi6, nI_clamp (show i < 2 ^ 31 by omega), tg5 i hi6, r8, p_X0_total u ta, p_X0_mx u ta, p_X0_mn u ta, p_X0_crests u ta, p_X0_lean u ta, p_X0_worth u ta, p_X0_way u ta, hF.1, hF.2.1, hF.2.2, h10, tdI]
        split
        · rfl
        · skip
          split
          · rfl
          · skip
            split
            · rfl
            · skip
              split
              · rfl
              · skip
                split
                · rfl
                · skip
                  split
                  · rfl
                  · skip
                    split
                    · rfl
                    · skip
                      split
                      · rfl
                      · skip
                        split
                        · rfl
                        · skip
                          split <;> rfl
      · have hE := ME_of hS.now hu.now
        have hF := hu.now.fl i hi
        have e9 : rm u 111 i = (S.now.fl i).r := by rw [rm_eq]; exact hF.2.2
        have ho : ok20 (rm u 111 i) := by rw [e9]; exact rOK_20 hr (by omega)
        have r8 := p_X7_reachOf u hi6 (by rw [hE.1]; exact heo.1) (by rw [hE.1]; exact heo.2.1)
        rw [hF.1, hF.2.1, hE.1, hE.2.2.1] at r8
        have r7 := p_X7_worthOf u hi6 ho
        have r6 := p_X7_lean u hi6 ho
        simp only [f_X7_told, fM1 hu.now.n hn hi, p_some, one0, ↓reduceIte, r8, r7, r6, p_X7_kindOf u hi6, p_X7_tickOf u hi6, p_X7_sum u hi6, p_X7_mx u hi6, p_X7_mn u hi6, p_X7_crests u hi6, p_X7_wayOf u hi6, hF.1, hF.2.1, e9, h10, tdI]
        split
        · rfl
        · skip
          split
          · rfl
          · skip
            split
            · rfl
            · skip
              split
              · rfl
              · skip
                split
                · rfl
                · skip
                  split
                  · rfl
                  · skip
                    split
                    · rfl
                    · skip
                      split
                      · rfl
                      · skip
                        split
                        · rfl
                        · skip
                          split <;> rfl
  · exact Cro hS (-1000000001) (fun u hu => by simp only [f_X6_told, fC0 hu.now.n hx, p_some, one0, ↓reduceIte]) (fun u hu => by simp only [f_X7_told, fM0 hu.now.n hn hx, p_some, one0, ↓reduceIte])
theorem k_lift (x y z : Int32) : Call (fun u => f_X6_lift u x y z) (fun u => f_X7_lift u x y z) := by
  intro S B hS hB
  have hn := hS.now.n
  rcases rng x (show S.now.n < 2 ^ 31 by omega) with ⟨i, hi, rfl⟩ | hx
  · skip
    have hi6 : i < 6 := by omega
    rcases rng y (show 24 < 2 ^ 31 by omega) with ⟨c, hc, rfl⟩ | hy
    · skip
      rcases rng z (show 2 < 2 ^ 31 by omega) with ⟨w, hw, rfl⟩ | hz
      · skip
        have hr := hS.now.r i hi
        have heo := eOK_of hS.now
        have h0 : 0 ≤ (S.now.fl i).r c := p_ge0.mpr (rOK_le hr c).1
        rcases (show w = 0 ∨ w = 1 by omega) with rfl | rfl
        · refine Csc (L := [44]) (M := [122, 123]) hS (liI (S.now.env S.T).o0 (S.now.fl i).k (wyI (S.now.fl i).k (S.now.fl i).t) (S.now.env S.T).pace (S.now.fl i).r c) (by simp) (by simp [scm]) (fun u hu => ?_) (fun u hu => ?_)
          · have hE := CE_of hS.now hu.tx hu.now
            have hF := fl1 hu hi
            obtain ⟨u1, e1, e2⟩ := p_X6_liftOf (u := u) (w0 := 1) (a := 5 + 2 * i) (by decide) (tg5 i hi6) hc hE.2.2.2.2.1 (by rw [hF.2.2]; exact h0)
            rw [hF.1, hF.2.1, hF.2.2, hE.2.1] at e1
            refine ⟨u1, ?_, e2⟩
            simp only [f_X6_lift, fC1 hu.now.n hn hi, cC1 u hc, ii hw (show 1 < 1000000 by decide) 1 rfl, p_some, one0, ↓reduceIte, p_inT (show i < 2 ^ 31 by omega) hi6, nI_clamp (show i < 2 ^ 31 by omega), tg5 i hi6, d0_0, e1]
          · have hE := ME_of hS.now hu.now
            have hF := hu.now.fl i hi
            obtain ⟨u1, e1, e2⟩ := p_X7_liftOf (u := u) hi6 hc (wy_pm (S.now.fl i).k (S.now.fl i).t) hE.2.2.2.2.1 (by rw [rm_eq, hF.2.2]; exact h0)
            rw [rm_eq, hF.1, hF.2.2, hE.2.1] at e1
            refine ⟨u1, ?_, e2⟩
            simp only [f_X7_lift, fM1 hu.now.n hn hi, cM1 u hc, in_in u 1 (n := 1) rfl (by decide) hw, p_some, one0, ↓reduceIte, p_X7_wayOf u hi6, hF.1, hF.2.1, d0_0, e1]
        · obtain ⟨o1, o2⟩ := p_offN heo (S.now.fl i)
          refine Cro hS (nI ((c + offN (S.now.env S.T) (S.now.fl i)) % 24)) (fun u hu => ?_) (fun u hu => ?_)
          · have hE := CE_of hS.now hu.tx hu.now
            have hF := fl1 hu hi
            have ta := tg5 i hi6
            have r8 := p_X6_reachOf u (w := 1) (a := 5 + 2 * i) (by decide) ta
            rw [hF.1, hF.2.1, hE.1, hE.2.2.1] at r8
            have r9 := p_X6_inRing u (x := nI c + wyI (S.now.fl i).k (S.now.fl i).t * reI (S.now.fl i).k (S.now.fl i).t (S.now.env S.T).far (S.now.env S.T).sec) (i := c + offN (S.now.env S.T) (S.now.fl i)) (by rw [Int32.add_assoc]; exact (congrArg (fun z => nI c + z) o2).trans (nI_add _ _)) (by omega)
            simp only [f_X6_lift, fC1 hu.now.n hn hi, cC1 u hc, ii hw (show 1 < 1000000 by decide) 1 rfl, p_some, one0, ↓reduceIte, p_inT (show i < 2 ^ 31 by omega) hi6, nI_clamp (show i < 2 ^ 31 by omega), tg5 i hi6, d1_0, p_X0_way u ta, hF.1, hF.2.1, r8, r9]
          · have hE := ME_of hS.now hu.now
            have hF := hu.now.fl i hi
            have r8 := p_X7_reachOf u hi6 (by rw [hE.1]; exact heo.1) (by rw [hE.1]; exact heo.2.1)
            rw [hF.1, hF.2.1, hE.1, hE.2.2.1] at r8
            have r9 : nI c + wyI (S.now.fl i).k (S.now.fl i).t * reI (S.now.fl i).k (S.now.fl i).t (S.now.env S.T).far (S.now.env S.T).sec + 48 = nI (c + (offN (S.now.env S.T) (S.now.fl i) + 24)) := by
              rw [Int32.add_assoc, show (48 : Int32) = 24 + 24 from by decide, ← Int32.add_assoc (wyI _ _ * _)]
              rw [show wyI (S.now.fl i).k (S.now.fl i).t * reI (S.now.fl i).k (S.now.fl i).t (S.now.env S.T).far (S.now.env S.T).sec + 24 = nI (offN (S.now.env S.T) (S.now.fl i)) from o2, show (24 : Int32) = nI 24 from rfl, nI_add, nI_add]
            simp only [f_X7_lift, fM1 hu.now.n hn hi, cM1 u hc, in_in u 1 (n := 1) rfl (by decide) hw, p_some, one0, ↓reduceIte, d1_0, p_X7_wayOf u hi6, hF.1, hF.2.1, r8, r9]
            rw [p_rem24 (by omega), show (c + (offN (S.now.env S.T) (S.now.fl i) + 24)) % 24 = (c + offN (S.now.env S.T) (S.now.fl i)) % 24 by omega]
      · exact Cro hS (-1000000001) (fun u hu => by simp only [f_X6_lift, fC1 hu.now.n hn hi, cC1 u hc, oi hz (show 1 < 1000000 by decide) 1 rfl, p_some, one0, ↓reduceIte]) (fun u hu => by simp only [f_X7_lift, fM1 hu.now.n hn hi, cM1 u hc, out_in u 1 (n := 1) rfl (by decide) hz, p_some, one0, ↓reduceIte])
    · exact Cro hS (-1000000001) (fun u hu => by simp only [f_X6_lift, fC1 hu.now.n hn hi, cC0 u hy, p_some, one0, ↓reduceIte]) (fun u hu => by simp only [f_X7_lift, fM1 hu.now.n hn hi, cM0 u hy, p_some, one0, ↓reduceIte])
  · exact Cro hS (-1000000001) (fun u hu => by simp only [f_X6_lift, fC0 hu.now.n hx, p_some, one0, ↓reduceIte]) (fun u hu => by simp only [f_X7_lift, fM0 hu.now.n hn hx, p_some, one0, ↓reduceIte])
theorem k_turns (x y : Int32) : Call (fun u => f_X6_turns u x y) (fun u => f_X7_turns u x y) := by
  intro S B hS hB
  have hn := hS.now.n
  rcases rng x (show S.now.n < 2 ^ 31 by omega) with ⟨i, hi, rfl⟩ | hx
  · skip
    have hi6 : i < 6 := by omega
    rcases rng y (show 6 < 2 ^ 31 by omega) with ⟨k, hk, rfl⟩ | hy
    · skip
      refine Cfl (L := [5 + 2 * i]) (M := [111]) hS hi (nI k, (S.now.fl i).t, (S.now.fl i).r) (S.now.fl i).k ⟨k, hk, rfl⟩ (rOK_mono (hS.now.r i hi) (by omega)) (by simp) (by simp) (fun u hu => ?_) (fun u hu => ?_)
      · have hF := fl1 hu hi
        refine ⟨am_u2 u (5 + 2 * i) 2 (nI k), ?_, same_u2 _ _ _ _ (by simp), u2_same _ _ _ _, ?_, ?_⟩
        · simp only [f_X6_turns, fC1 hu.now.n hn hi, kC1 u hk, p_some, one0, ↓reduceIte, p_inT (show i < 2 ^ 31 by omega) hi6, nI_clamp (show i < 2 ^ 31 by omega), tg5 i hi6, p_let, hF.1]
        · rw [u2_nei _ _ (Or.inr (by decide))]; exact hF.2.1
        · rw [rc_congr (u2_ne _ _ (by omega))]; exact hF.2.2
      · have hF := hu.now.fl i hi
        refine ⟨am_u2 u 111 (7 + 26 * i) (nI k), ?_, same_u2 _ _ _ _ (by simp), fun j hj => u2_nei _ _ (Or.inr (by omega)), u2_same _ _ _ _, ?_, ?_⟩
        · simp only [f_X7_turns, fM1 hu.now.n hn hi, in_in u 5 (n := 5) rfl (by decide) hk, p_some, one0, ↓reduceIte, p_X7_at, f_X7_becomes, p_inT (show 7 + 26 * i < 2 ^ 31 by omega) (show 7 + 26 * i < 1535 by omega), nI_clamp (show 7 + 26 * i < 2 ^ 31 by omega), p_let, hF.1]
        · rw [u2_nei _ _ (Or.inr (by omega))]; exact hF.2.1
        · rw [u2_row, rmR_ne _ (by omega)]; exact hF.2.2
    · exact Cro hS (-1000000001) (fun u hu => by simp only [f_X6_turns, fC1 hu.now.n hn hi, kC0 u hy, p_some, one0, ↓reduceIte]) (fun u hu => by simp only [f_X7_turns, fM1 hu.now.n hn hi, out_in u 5 (n := 5) rfl (by decide) hy, p_some, one0, ↓reduceIte])
  · exact Cro hS (-1000000001) (fun u hu => by simp only [f_X6_turns, fC0 hu.now.n hx, p_some, one0, ↓reduceIte]) (fun u hu => by simp only [f_X7_turns, fM0 hu.now.n hn hx, p_some, one0, ↓reduceIte])
theorem rOK_updD {r : Nat → Int32} {B D c : Nat} {v : Int32} (h : rOK r B) (hc : c < 24) (h0 : 0 ≤ v.toInt) (h1 : v.toInt ≤ (r c).toInt + D) : rOK (upd r c v) (B + D) := by
  refine ⟨fun j hj => ?_, ?_, fun j hj => ?_⟩
  · by_cases e : j = c
    · subst e; rw [upd_sm]; exact h0
    · rw [upd_ne e]; exact h.1 j hj
  · rw [smZ_upd, if_pos hc]
    have := h.2.1
    omega
  · rw [upd_ne (by omega)]; exact h.2.2 j hj
theorem k_heap (x y z : Int32) : Call (fun u => f_X6_heap u x y z) (fun u => f_X7_heap u x y z) := by
  intro S B hS hB
  have hn := hS.now.n
  rcases rng x (show S.now.n < 2 ^ 31 by omega) with ⟨i, hi, rfl⟩ | hx
  · skip
    have hi6 : i < 6 := by omega
    rcases rng y (show 24 < 2 ^ 31 by omega) with ⟨c, hc, rfl⟩ | hy
    · skip
      rcases rng z (show 100 < 2 ^ 31 by omega) with ⟨v, hv, rfl⟩ | hz
      · skip
        have hr := hS.now.r i hi
        refine Cfl (L := [5 + 2 * i + 1]) (M := [111]) hS hi ((S.now.fl i).k, (S.now.fl i).t, upd (S.now.fl i).r c (nI v)) ((S.now.fl i).r c) (hS.now.k i hi) (rOK_mono (rOK_updD (D := 99) hr hc (by rw [nI_toInt (by omega)]; omega) (by have := (rOK_le hr c).1; rw [nI_toInt (by omega)]; omega)) (by omega)) (by simp; omega) (by simp) (fun u hu => ?_) (fun u hu => ?_)
        · have hF := fl1 hu hi
          refine ⟨am_u2 u (5 + 2 * i + 1) c (nI v), ?_, same_u2 _ _ _ _ (by simp), ?_, ?_, ?_⟩
          · simp only [f_X6_heap, fC1 hu.now.n hn hi, cC1 u hc, ii hv (show 99 < 1000000 by decide) 99 rfl, p_some, one0, ↓reduceIte, p_inT (show i < 2 ^ 31 by omega) hi6, nI_clamp (show i < 2 ^ 31 by omega), tg5 i hi6, p_inT (show c < 2 ^ 31 by omega) hc, nI_clamp (show c < 2 ^ 31 by omega), p_let, CF_at hF hc]
          · rw [u2_ne _ _ (by omega)]; exact hF.1
          · rw [u2_ne _ _ (by omega)]; exact hF.2.1
          · rw [rc_u2 u hc, hF.2.2]
        · have hF := hu.now.fl i hi
          refine ⟨am_u2 u 111 (9 + 26 * i + c) (nI v), ?_, same_u2 _ _ _ _ (by simp), fun j hj => u2_nei _ _ (Or.inr (by omega)), ?_, ?_, ?_⟩
          · simp only [f_X7_heap, fM1 hu.now.n hn hi, cM1 u hc, in_in u 99 (n := 99) rfl (by decide) hv, p_some, one0, ↓reduceIte, p_spot0 u hc, f_X7_becomes, p_inT (show 9 + 26 * i + c < 2 ^ 31 by omega) (show 9 + 26 * i + c < 1535 by omega), nI_clamp (show 9 + 26 * i + c < 2 ^ 31 by omega), p_let, MF_at hF hc]
          · rw [u2_nei _ _ (Or.inr (by omega))]; exact hF.1
          · rw [u2_nei _ _ (Or.inr (by omega))]; exact hF.2.1
          · rw [u2_row, rmR_upd _ hc, hF.2.2]
      · exact Cro hS (-1000000001) (fun u hu => by simp only [f_X6_heap, fC1 hu.now.n hn hi, cC1 u hc, oi hz (show 99 < 1000000 by decide) 99 rfl, p_some, one0, ↓reduceIte]) (fun u hu => by simp only [f_X7_heap, fM1 hu.now.n hn hi, cM1 u hc, out_in u 99 (n := 99) rfl (by decide) hz, p_some, one0, ↓reduceIte])
    · exact Cro hS (-1000000001) (fun u hu => by simp only [f_X6_heap, fC1 hu.now.n hn hi, cC0 u hy, p_some, one0, ↓reduceIte]) (fun u hu => by simp only [f_X7_heap, fM1 hu.now.n hn hi, cM0 u hy, p_some, one0, ↓reduceIte])
  · exact Cro hS (-1000000001) (fun u hu => by simp only [f_X6_heap, fC0 hu.now.n hx, p_some, one0, ↓reduceIte]) (fun u hu => by simp only [f_X7_heap, fM0 hu.now.n hn hx, p_some, one0, ↓reduceIte])
/-- the world of now changes -/
theorem Cwo {fc fm : am_MU → Option (am_MU × Int32)} {S : AS} {B : Nat} (hS : OK S B) (W : WS) (r : Int32) (hW : WOK S.T W (B + 2400)) (hm : W.m = S.now.m) (hc : ∀ u, CI u S → ∃ u', fc u = some (u', r) ∧ (∀ a, ¬ (1 ≤ a ∧ a ≤ 16) → ¬ (33 ≤ a ∧ a ≤ 44) → u' a = u a) ∧ CW u' 1 S.T W) (hmm : ∀ u, MI u S → ∃ u', fm u = some (u', r) ∧ same [111] u u' ∧ MW (u' 111) S.T W) : Res fc fm S B := by
  have hS2 := OK_mono hS (show B ≤ B + 2400 by omega)
  refine ⟨S.wNow W, r, ⟨hW, fun V hV => ⟨(hS2.img V hV).1, by show V.m ≤ W.m; rw [hm]; exact (hS2.img V hV).2⟩, hS2.tl, hS2.sh, hS2.sl, hS2.wc⟩, fun u hu => ?_, fun u hu => ?_⟩
  · obtain ⟨u', e1, e2, e3⟩ := hc u hu
    exact ⟨u', e1, CI_now hS (fun a h1 h2 => e2 a h2 (fun q => h1 (Or.inl q))) hu hm e3, fun a ha => e2 a (by omega) (by omega)⟩
  · obtain ⟨u', e1, e2, e3⟩ := hmm u hu
    exact ⟨u', e1, MI_now e2 (by simp) hu e3, hi_same e2 (by simp)⟩
theorem k_seed (x : Int32) : Call (fun u => f_X6_seed u x) (fun u => f_X7_seed u x) := by
  intro S B hS hB
  have hn := hS.now.n
  have hW := WOK_mono hS.now (show B ≤ B + 2400 by omega)
  refine Cwo hS (S.now.n, S.now.sea, x, S.now.m, S.now.fl) S.now.z ⟨hW.n, hW.m, hW.s0, hW.s2, hW.k, hW.r, hW.t⟩ rfl (fun u hu => ?_) (fun u hu => ?_)
  · have hw := hu.now
    have e2 : ∀ a, a ≠ 1 → am_u2 u 1 3 x a = u a := fun a h => u2_ne _ _ h
    refine ⟨am_u2 u 1 3 x, by simp only [f_X6_seed, p_let, hw.z], fun a h1 _ => e2 a (by omega), ?_, ?_, ?_, ?_, ?_, ?_⟩
    · rw [u2_nei _ _ (Or.inr (by decide))]; exact hw.n
    · intro j hj; rw [u2_ne _ _ (by decide)]; exact hw.sea j hj
    · exact u2_same _ _ _ _
    · rw [u2_nei _ _ (Or.inr (by decide))]; exact hw.m
    · intro k hk; rw [u2_ne _ _ (by decide)]; exact hw.law k hk
    · intro i hi; exact CF_congr (e2 _ (by omega)) (e2 _ (by omega)) (hw.fl i hi)
  · have hw := hu.now
    have e2 : ∀ j, j ≠ 0 → am_u2 u 111 0 x 111 j = u 111 j := fun j h => u2_nei _ _ (Or.inr h)
    refine ⟨am_u2 u 111 0 x, by simp only [f_X7_seed, p_let, hw.z], same_u2 _ _ _ _ (by simp), ?_, ?_, ?_, ?_, ?_, ?_, ?_, ?_⟩
    · exact u2_same _ _ _ _
    · rw [e2 _ (by decide)]; exact hw.n
    · intro j hj; rw [e2 _ (by omega)]; exact hw.sea j hj
    · rw [e2 _ (by decide)]; exact hw.m
    · intro i hi; exact MF_congr (fun j h1 h2 => e2 j (by omega)) (hw.fl i hi)
    · intro t ht; rw [e2 _ (by omega)]; exact hw.t1 t ht
    · intro t ht; rw [e2 _ (by omega)]; exact hw.t2 t ht
    · intro t ht k hk; rw [e2 _ (by omega)]; exact hw.t3 t ht k hk
def seaL (j : Nat) : Int32 := if j = 3 then 1 else 0
def seaH (j : Nat) : Int32 := if j = 1 then 9 else if j = 3 then 20 else 11
theorem p_seaM (u : am_MU) {j : Nat} (hj : j < 4) (v : Int32) : f_X7_sea u (nI j) v = if v < seaL j ∨ seaH j < v then some (u, -1000000001) else some (am_u2 u 111 (2 + j) v, u 111 (2 + j)) := by
  have key : ∀ a b : Int32, g_X7_sea_42 u (nI j) v v a b = if v < a ∨ b < v then some (u, -1000000001) else some (am_u2 u 111 (2 + j) v, u 111 (2 + j)) := by
    intro a b
    unfold g_X7_sea_42
    rw [p_X7_in, p_some, show (2 : Int32) = nI 2 from rfl, nI_add]
    dsimp only
    by_cases z : v < a ∨ b < v
    · rw [if_pos z, if_pos z, if_pos rfl]
    · rw [if_neg z, if_neg z, if_neg (by decide)]
      simp only [f_X7_becomes, p_inT (show 2 + j < 2 ^ 31 by omega) (show 2 + j < 1535 by omega), nI_clamp (show 2 + j < 2 ^ 31 by omega), p_let, p_some, ↓reduceIte]
  unfold f_X7_sea
  rw [in_in u 3 (n := 3) rfl (by decide) hj, p_some]
  dsimp only
  rw [if_neg (by decide)]
  unfold g_X7_sea_20
  rw [key, key, key, key, key, key]
  rcases (show j = 0 ∨ j = 1 ∨ j = 2 ∨ j = 3 by omega) with rfl | rfl | rfl | rfl
  · rfl
  · rfl
  · rfl
  · rfl
theorem p_seaC (u : am_MU) {j : Nat} (hj : j < 4) (v : Int32) : f_X6_sea u (nI j) v = if v < seaL j ∨ seaH j < v then some (u, -1000000001) else some (am_u2 u 2 j v, u 2 j) := by
  have e : kA2 j = seaL j ∧ kA3 j = seaH j := by
    rcases (show j = 0 ∨ j = 1 ∨ j = 2 ∨ j = 3 by omega) with rfl | rfl | rfl | rfl <;> exact ⟨rfl, rfl⟩
  unfold f_X6_sea
  rw [if_neg (nI_pos (by omega)), if_neg (show ¬ (3 : Int32) < nI j from nI_nlt (show j ≤ 3 by omega) (by decide)), if_pos (p_inT (by omega) hj), nI_clamp (by omega), e.1, e.2]
  by_cases z1 : v < seaL j
  · rw [if_pos z1, if_pos (Or.inl z1)]
  · rw [if_neg z1]
    by_cases z2 : seaH j < v
    · rw [if_neg (Int32.not_le.mpr z2), if_pos (Or.inr z2)]
    · rw [if_pos (Int32.not_lt.mp z2), if_neg (fun q => q.elim z1 z2)]; rfl
theorem k_sea (x v : Int32) : Call (fun u => f_X6_sea u x v) (fun u => f_X7_sea u x v) := by
  intro S B hS hB
  have hn := hS.now.n
  rcases rng x (show 4 < 2 ^ 31 by decide) with ⟨j, hj, rfl⟩ | hx
  · by_cases z : v < seaL j ∨ seaH j < v
    · exact Cro hS (-1000000001) (fun u hu => by simp only [p_seaC u hj, if_pos z]) (fun u hu => by simp only [p_seaM u hj, if_pos z])
    · have hW := WOK_mono hS.now (show B ≤ B + 2400 by omega)
      have zr : seaL j ≤ v ∧ v ≤ seaH j := ⟨Int32.not_lt.mp (fun q => z (Or.inl q)), Int32.not_lt.mp (fun q => z (Or.inr q))⟩
      refine Cwo hS (S.now.n, upd S.now.sea j v, S.now.z, S.now.m, S.now.fl) (S.now.sea j) ⟨hW.n, hW.m, ?_, ?_, hW.k, hW.r, hW.t⟩ rfl (fun u hu => ?_) (fun u hu => ?_)
      · show 0 ≤ upd S.now.sea j v 0 ∧ upd S.now.sea j v 0 ≤ 11
        by_cases e : 0 = j
        · subst e; rw [upd_sm]; exact zr
        · rw [upd_ne e]; exact hW.s0
      · show 0 ≤ upd S.now.sea j v 2 ∧ upd S.now.sea j v 2 ≤ 11
        by_cases e : 2 = j
        · subst e; rw [upd_sm]; exact zr
        · rw [upd_ne e]; exact hW.s2
      · have hw := hu.now
        have e2 : ∀ a, a ≠ 2 → am_u2 u 2 j v a = u a := fun a h => u2_ne _ _ h
        refine ⟨am_u2 u 2 j v, by simp only [p_seaC u hj, if_neg z, show u 2 j = S.now.sea j from hw.sea j hj], fun a h1 _ => e2 a (by omega), ?_, ?_, ?_, ?_, ?_, ?_⟩
        · rw [e2 _ (by decide)]; exact hw.n
        · intro i hi
          show am_u2 u 2 j v 2 i = upd S.now.sea j v i
          rw [u2_row]
          by_cases e : i = j
          · subst e; rw [upd_sm, upd_sm]
          · rw [upd_ne e, upd_ne e]; exact hw.sea i hi
        · rw [e2 _ (by decide)]; exact hw.z
        · rw [e2 _ (by decide)]; exact hw.m
        · intro k hk; rw [e2 _ (by decide)]; exact hw.law k hk
        · intro i hi; exact CF_congr (e2 _ (by omega)) (e2 _ (by omega)) (hw.fl i hi)
      · have hw := hu.now
        have e2 : ∀ i, i ≠ 2 + j → am_u2 u 111 (2 + j) v 111 i = u 111 i := fun i h => u2_nei _ _ (Or.inr h)
        refine ⟨am_u2 u 111 (2 + j) v, by simp only [p_seaM u hj, if_neg z, hw.sea j hj], same_u2 _ _ _ _ (by simp), ?_, ?_, ?_, ?_, ?_, ?_, ?_, ?_⟩
        · rw [e2 _ (by omega)]; exact hw.z
        · rw [e2 _ (by omega)]; exact hw.n
        · intro i hi
          show _ = upd S.now.sea j v i
          by_cases e : i = j
          · subst e; rw [upd_sm]; exact u2_same _ _ _ _
          · rw [upd_ne e, e2 _ (by omega)]; exact hw.sea i hi
        · rw [e2 _ (by omega)]; exact hw.m
        · intro i hi; exact MF_congr (fun k h1 h2 => e2 k (by omega)) (hw.fl i hi)
        · intro t ht; rw [e2 _ (by omega)]; exact hw.t1 t ht
        · intro t ht; rw [e2 _ (by omega)]; exact hw.t2 t ht
        · intro t ht k hk; rw [e2 _ (by omega)]; exact hw.t3 t ht k hk
  · refine Cro hS (-1000000001) (fun u hu => ?_) (fun u hu => ?_)
    · simp only [f_X6_sea]
      by_cases h0 : x < 0
      · rw [if_pos h0]
      · rw [if_neg h0, if_pos (out_neg 3 (n := 3) rfl (by decide) hx h0).1]
    · simp only [f_X7_sea, out_in u 3 (n := 3) rfl (by decide) hx, p_some, ↓reduceIte]
