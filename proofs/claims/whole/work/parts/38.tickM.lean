/-! the reference's tick -/
def sameR (f : Nat) (R Q : Nat → Int32) : Prop := ∀ j, (j < 8 + 26 * f ∨ 33 + 26 * f ≤ j) → Q j = R j
theorem sameR_rf {f : Nat} {R : Nat → Int32} : sameR f R R := fun _ _ => rfl
theorem sameR_tr {f : Nat} {R Q P : Nat → Int32} (h1 : sameR f R Q) (h2 : sameR f Q P) : sameR f R P := fun j hj => (h2 j hj).trans (h1 j hj)
theorem sameR_upd {f i : Nat} {R : Nat → Int32} {v : Int32} (h : 8 + 26 * f ≤ i ∧ i < 33 + 26 * f) : sameR f R (upd R i v) := fun j hj => upd_ne (by omega)
theorem ME_sameR {f : Nat} (hf : f < 6) {R Q : Nat → Int32} {e : SE} (hs : sameR f R Q) (h : ME R e) : ME Q e := ME_congr (fun j h1 h2 => hs j (by omega)) (fun j h1 => hs j (by omega)) h
theorem p_spot0 (u : am_MU) {f c : Nat} (hc : c < 24) : f_X7_spot u (nI f) (nI c) = some (u, nI (9 + 26 * f + c)) := by
  rw [p_X7_spot u f (c + 48) (nI c) (p_48 c) (by omega), show (c + 48) % 24 = c by omega]
theorem p_spotM (u : am_MU) {f c : Nat} (hc : c < 24) : f_X7_spot u (nI f) (nI c - 1) = some (u, nI (9 + 26 * f + (c + 23) % 24)) := by
  rw [p_X7_spot u f (c + 47) _ (p_m1_48 c) (by omega), show (c + 47) % 24 = (c + 23) % 24 by omega]
theorem p_spotP (u : am_MU) {f c : Nat} (hc : c < 24) : f_X7_spot u (nI f) (nI c + 1) = some (u, nI (9 + 26 * f + (c + 1) % 24)) := by
  rw [p_X7_spot u f (c + 49) _ (p_p1_48 c) (by omega), show (c + 49) % 24 = (c + 1) % 24 by omega]
theorem p_spotN (u : am_MU) {f c off : Nat} {on : Int32} (hc : c < 24) (hoff : off ≤ 36) (hon : on + 24 = nI off) : f_X7_spot u (nI f) (nI c + on) = some (u, nI (9 + 26 * f + (c + off) % 24)) := by
  rw [p_X7_spot u f (c + (off + 24)) _ (by rw [Int32.add_assoc, show (48 : Int32) = 24 + 24 from by decide, ← Int32.add_assoc on, hon, show (24 : Int32) = nI 24 from rfl, nI_add, nI_add]) (by omega), show (c + (off + 24)) % 24 = (c + off) % 24 by omega]
theorem p_rmR (R : Nat → Int32) (f : Nat) {c : Nat} (hc : c < 24) : R (9 + 26 * f + c) = rmR R f c := by unfold rmR; rw [cut_lt hc]
theorem p_X7_li18 {f B : Nat} {e : SE} {s : FS} (hf : f < 6) (hr : rOK s.r B) {re : Int32} : ∀ (m c n : Nat) (u : am_MU), c + m = 24 → m < n → ME (u 111) e → MF (u 111) f s → (∀ j, j < c → u 114 j = liS e s j) → ∃ u', g_X7_tick_18 n u (nI f) s.way re 0 (nI c) = g_X7_tick_49 1700 u' (nI f) s.way re 0 0 ∧ same [114, 122, 123] u u' ∧ (∀ j, j < 24 → u' 114 j = liS e s j) := by
  intro m
  induction m with
  | zero =>
    intro c n u h1 h2 hE hF hL
    obtain ⟨n, rfl⟩ : ∃ k, n = k + 1 := ⟨n - 1, by omega⟩
    obtain rfl : c = 24 := by omega
    refine ⟨u, ?_, same_rf, hL⟩
    rw [g_X7_tick_18]
    dsimp only
    rw [if_pos (show (24 : Int32) ≤ nI 24 by decide)]
  | succ m ih =>
    intro c n u h1 h2 hE hF hL
    obtain ⟨n, rfl⟩ : ∃ k, n = k + 1 := ⟨n - 1, by omega⟩
    have hc : c < 24 := by omega
    obtain ⟨v, r1, r2⟩ := p_X7_liftOf (u := u) (f := f) (c := c) (w := s.way) hf hc (wy_pm _ _) hE.2.2.2.2.1 (by rw [rm_eq, hF.2.2]; exact p_ge0.mpr (rOK_le hr c).1)
    rw [g_X7_tick_18]
    dsimp only
    rw [if_neg (p_ge24 hc), r1, p_some]
    dsimp only
    rw [if_pos (p_inT (by omega) hc), nI_clamp (by omega), p_let, p_let, nI_1, rm_eq, hF.1, hF.2.2, hE.2.1]
    show ∃ u', g_X7_tick_18 n (am_u2 v 114 c (liS e s c)) (nI f) s.way re 0 (nI (c + 1)) = _ ∧ _
    have sv : same [114, 122, 123] u (am_u2 v 114 c (liS e s c)) := same_tr (same_mono r2 (by decide)) (same_u2 v 114 c _ (by decide))
    generalize hv2 : am_u2 v 114 c (liS e s c) = v2 at sv
    have e111 : v2 111 = u 111 := sv 111 (by decide)
    obtain ⟨u', g1, g2, g3⟩ := ih (c + 1) n v2 (by omega) (by omega) (by rw [e111]; exact hE) (by rw [e111]; exact hF) (fun j hj => by
      rw [← hv2]
      by_cases hjc : j = c
      · subst hjc; exact u2_same _ _ _ _
      · rw [u2_nei _ _ (Or.inr hjc), r2 114 (by decide)]; exact hL j (by omega))
    exact ⟨u', g1, same_tr sv g2, g3⟩
theorem p_X7_li49 {f off : Nat} {L r : Nat → Int32} (hf : f < 6) {re way : Int32} (hoff : off ≤ 36) (hon : way * re + 24 = nI off) : ∀ (m c n : Nat) (u : am_MU), c + m = 24 → m < n → (∀ j, j < 24 → u 114 j = L j) → rmR (u 111) f = mvN L r off c → ∃ u', g_X7_tick_49 n u (nI f) way re (if re ≤ 0 then 0 else sm L c) (nI c) = g_X7_tick_131 1700 u' (nI f) (if re ≤ 0 then 0 else sm L 24) 0 ∧ same [111] u u' ∧ sameR f (u 111) (u' 111) ∧ u' 111 (8 + 26 * f) = u 111 (8 + 26 * f) ∧ rmR (u' 111) f = mvN L r off 24 := by
  intro m
  induction m with
  | zero =>
    intro c n u h1 h2 hL hR
    obtain ⟨n, rfl⟩ : ∃ k, n = k + 1 := ⟨n - 1, by omega⟩
    obtain rfl : c = 24 := by omega
    refine ⟨u, ?_, same_rf, sameR_rf, rfl, hR⟩
    rw [g_X7_tick_49]
    dsimp only
    rw [if_pos (show (24 : Int32) ≤ nI 24 by decide)]
  | succ m ih =>
    intro c n u h1 h2 hL hR
    obtain ⟨n, rfl⟩ : ∃ k, n = k + 1 := ⟨n - 1, by omega⟩
    have hc : c < 24 := by omega
    have hd : (c + off) % 24 < 24 := by omega
    rw [g_X7_tick_49]
    dsimp only
    rw [if_neg (p_ge24 hc), p_spot0 u hc, p_some]
    dsimp only
    rw [if_pos (p_inT (by omega) (by omega)), if_pos (p_inT (by omega) hc), nI_clamp (show 9 + 26 * f + c < 2 ^ 31 by omega), nI_clamp (show c < 2 ^ 31 by omega), p_let, p_spotN _ hc hoff hon, p_some]
    dsimp only
    rw [if_pos (p_inT (by omega) (by omega)), nI_clamp (show 9 + 26 * f + (c + off) % 24 < 2 ^ 31 by omega), p_let]
    rw [hL c hc, p_rmR (u 111) f hc, hR]
    generalize hv1 : am_u2 u 111 (9 + 26 * f + c) (mvN L r off c c - L c) = v1
    have e1 : v1 111 = upd (u 111) (9 + 26 * f + c) (mvN L r off c c - L c) := by rw [← hv1, u2_row]
    have e2 : rmR (v1 111) f = upd (mvN L r off c) c (mvN L r off c c - L c) := by rw [e1, rmR_upd _ hc, hR]
    have e39 : v1 114 c = L c := by rw [← hv1, u2_ne _ _ (by decide), hL c hc]
    rw [e39, p_rmR (v1 111) f hd, e2]
    generalize hv2 : am_u2 v1 111 (9 + 26 * f + (c + off) % 24) (upd (mvN L r off c) c (mvN L r off c c - L c) ((c + off) % 24) + L c) = v2
    have e3 : v2 111 = upd (v1 111) (9 + 26 * f + (c + off) % 24) (upd (mvN L r off c) c (mvN L r off c c - L c) ((c + off) % 24) + L c) := by rw [← hv2, u2_row]
    have e4 : rmR (v2 111) f = mvN L r off (c + 1) := by rw [e3, rmR_upd _ hd, e2]; rfl
    have s2 : same [111] u v2 := by rw [← hv2, ← hv1]; exact same_tr (same_u2 u _ _ _ (by simp)) (same_u2 _ _ _ _ (by simp))
    have s3 : sameR f (u 111) (v2 111) := by rw [e3, e1]; exact sameR_tr (sameR_upd (by omega)) (sameR_upd (by omega))
    have s4 : v2 111 (8 + 26 * f) = u 111 (8 + 26 * f) := by rw [e3, upd_ne (by omega), e1, upd_ne (by omega)]
    obtain ⟨u', g1, g2, g3, g4, g5⟩ := ih (c + 1) n v2 (by omega) (by omega) (fun j hj => by rw [s2 114 (by decide)]; exact hL j hj) e4
    refine ⟨u', ?_, same_tr s2 g2, sameR_tr s3 g3, by rw [g4, s4], g5⟩
    rw [← g1]
    simp only [g_X7_tick_119, p_let, nI_1]
    have e5 : v2 114 c = L c := by rw [s2 114 (by decide), hL c hc]
    by_cases z : re ≤ 0
    · simp only [if_pos z]; rfl
    · simp only [if_neg z]; rw [e5]; rfl
theorem p_dpos {r : Nat → Int32} {B c d : Nat} (h : rOK r B) (hB : B < 1000000) : r c - r d ≤ 0 ↔ ¬ r d < r c := by
  have hc := rOK_le h c
  have hd := rOK_le h d
  rw [p_le0, p_sub_toInt (by omega) (by omega) (by omega) (by omega), Int32.lt_iff_toInt_lt]
  omega
theorem p_X7_sl131 {f B : Nat} {e : SE} {r : Nat → Int32} {k t mo : Int32} (hf : f < 6) (hB : B < 1000000) (hr : rOK r B) : ∀ (m c n : Nat) (u : am_MU), c + m = 24 → m < n → ME (u 111) e → u 111 (7 + 26 * f) = k → u 111 (8 + 26 * f) = t → rmR (u 111) f = (slN e.o1 e.steep r c).1 → ∃ u', g_X7_tick_131 n u (nI f) (mo + (slN e.o1 e.steep r c).2) (nI c) = some (u', mo + (slN e.o1 e.steep r 24).2) ∧ same [111, 122, 123] u u' ∧ sameR f (u 111) (u' 111) ∧ MF (u' 111) f ⟨k, t + 1, (slN e.o1 e.steep r 24).1⟩ := by
  intro m
  induction m with
  | zero =>
    intro c n u h1 h2 hE hk ht hR
    obtain ⟨n, rfl⟩ : ∃ k, n = k + 1 := ⟨n - 1, by omega⟩
    obtain rfl : c = 24 := by omega
    rw [g_X7_tick_131]
    dsimp only
    rw [if_pos (show (24 : Int32) ≤ nI 24 by decide), p_X7_at, p_some]
    dsimp only
    rw [nI_1, if_pos (p_inT (by omega) (by omega)), nI_clamp (by omega), p_let, show 7 + 26 * f + 1 = 8 + 26 * f by omega, ht]
    refine ⟨_, rfl, same_u2 _ _ _ _ (by decide), ?_, ?_, ?_, ?_⟩
    · rw [u2_row]; exact sameR_upd (by omega)
    · rw [u2_nei _ _ (Or.inr (by omega))]; exact hk
    · rw [u2_same]
    · rw [u2_row, rmR_ne _ (by omega)]; exact hR
  | succ m ih =>
    intro c n u h1 h2 hE hk ht hR
    obtain ⟨n, rfl⟩ : ∃ k, n = k + 1 := ⟨n - 1, by omega⟩
    have hc : c < 24 := by omega
    have hOK := slN_OK (o := e.o1) (steep := e.steep) hr hB c (by omega)
    have ih := fun v => ih (c + 1) n v (by omega) (by omega)
    have es : slN e.o1 e.steep r (c + 1) = (mvs (slN e.o1 e.steep r c).1 c (toI (slN e.o1 e.steep r c).1 c) (slS e.o1 e.steep (slN e.o1 e.steep r c).1 c), (slN e.o1 e.steep r c).2 + slS e.o1 e.steep (slN e.o1 e.steep r c).1 c) := rfl
    rw [es] at ih
    generalize slN e.o1 e.steep r c = p at hR hOK ih
    obtain ⟨q, mv⟩ := p
    dsimp only at hR hOK ih ⊢
    have g219 : ∀ (v : am_MU) (to : Int32) (d : Nat), d < 24 → to + 48 = nI (d + 24) ∨ to + 48 = nI (d + 48) ∨ to + 48 = nI (d + 72) → d = toI q c → same [111, 122, 123] u v → v 111 = u 111 → ∃ u', g_X7_tick_219 (g_X7_tick_131 n) v (nI f) (mo + mv) (nI c) to (slS e.o1 e.steep q c) = some (u', mo + (slN e.o1 e.steep r 24).2) ∧ same [111, 122, 123] u u' ∧ sameR f (u 111) (u' 111) ∧ MF (u' 111) f ⟨k, t + 1, (slN e.o1 e.steep r 24).1⟩ := by
      intro v to d hd hto hdt sv ev
      have esp : ∀ z : am_MU, f_X7_spot z (nI f) to = some (z, nI (9 + 26 * f + d)) := by
        intro z
        rcases hto with h | h | h
        · rw [p_X7_spot z f _ to h (by omega), show (d + 24) % 24 = d by omega]
        · rw [p_X7_spot z f _ to h (by omega), show (d + 48) % 24 = d by omega]
        · rw [p_X7_spot z f _ to h (by omega), show (d + 72) % 24 = d by omega]
      rw [← hdt] at ih
      generalize slS e.o1 e.steep q c = g at ih
      unfold g_X7_tick_219
      rw [p_spot0 v hc, p_some]
      dsimp only
      rw [if_pos (p_inT (by omega) (by omega)), nI_clamp (show 9 + 26 * f + c < 2 ^ 31 by omega), p_let, esp, p_some]
      dsimp only
      rw [if_pos (p_inT (by omega) (by omega)), nI_clamp (show 9 + 26 * f + d < 2 ^ 31 by omega), p_let, p_let, p_let, nI_1]
      rw [ev, p_rmR (u 111) f hc, hR]
      generalize hv1 : am_u2 v 111 (9 + 26 * f + c) (q c - g) = v1
      have e1 : v1 111 = upd (u 111) (9 + 26 * f + c) (q c - g) := by rw [← hv1, u2_row, ev]
      have e2 : rmR (v1 111) f = upd q c (q c - g) := by rw [e1, rmR_upd _ hc, hR]
      rw [p_rmR (v1 111) f hd, e2]
      generalize hv2 : am_u2 v1 111 (9 + 26 * f + d) (upd q c (q c - g) d + g) = v2
      have e3 : v2 111 = upd (v1 111) (9 + 26 * f + d) (upd q c (q c - g) d + g) := by rw [← hv2, u2_row]
      have e4 : rmR (v2 111) f = mvs q c d g := by rw [e3, rmR_upd _ hd, e2]; rfl
      have s2 : same [111, 122, 123] u v2 := by rw [← hv2, ← hv1]; exact same_tr sv (same_tr (same_u2 v _ _ _ (by simp)) (same_u2 _ _ _ _ (by simp)))
      have s3 : sameR f (u 111) (v2 111) := by rw [e3, e1]; exact sameR_tr (sameR_upd (by omega)) (sameR_upd (by omega))
      obtain ⟨u', g1, g2, g3, g4⟩ := ih v2 (ME_sameR hf s3 hE) (by rw [e3, upd_ne (by omega), e1, upd_ne (by omega)]; exact hk) (by rw [e3, upd_ne (by omega), e1, upd_ne (by omega)]; exact ht) e4
      refine ⟨u', ?_, same_tr s2 g2, sameR_tr s3 g3, g4⟩
      rw [Int32.add_assoc]
      exact g1
    have g202 : ∀ (to : Int32) (d : Nat), d < 24 → to + 48 = nI (d + 24) ∨ to + 48 = nI (d + 48) ∨ to + 48 = nI (d + 72) → d = toI q c → ∃ u', g_X7_tick_202 (g_X7_tick_131 n) u (nI f) (mo + mv) (nI c) to (q c - q d) = some (u', mo + (slN e.o1 e.steep r 24).2) ∧ same [111, 122, 123] u u' ∧ sameR f (u 111) (u' 111) ∧ MF (u' 111) f ⟨k, t + 1, (slN e.o1 e.steep r 24).1⟩ := by
      intro to d hd hto hdt
      unfold g_X7_tick_202
      by_cases z : q c - q d ≤ 0
      · rw [if_pos z]
        have := g219 u to d hd hto hdt same_rf rfl
        rw [show slS e.o1 e.steep q c = 0 from by unfold slS; rw [← hdt, if_pos z]] at this
        exact this
      · rw [if_neg z]
        obtain ⟨v, r1, r2⟩ := p_X7_slideBy (u := u) hE.2.2.2.2.2.1 (q c - q d)
        rw [hE.2.2.2.1] at r1
        rw [r1, p_some]
        dsimp only
        have := g219 v to d hd hto hdt (same_mono r2 (by decide)) (r2 111 (by decide))
        rw [show slS e.o1 e.steep q c = slI e.o1 e.steep (q c - q d) from by unfold slS; rw [← hdt, if_neg z]] at this
        exact this
    rw [g_X7_tick_131]
    dsimp only
    rw [if_neg (p_ge24 hc), p_sand0 u hf hc, p_some]
    dsimp only
    rw [p_sandP u hf hc, p_some, p_let]
    dsimp only
    rw [rm_eq, hR]
    have hz := p_dpos (c := c) (d := (c + 1) % 24) hOK hB
    by_cases z : q c - q ((c + 1) % 24) ≤ 0
    · rw [if_pos z]
      unfold g_X7_tick_173
      rw [if_pos z, p_sand0 u hf hc, p_some]
      dsimp only
      rw [p_sandM u hf hc, p_some]
      dsimp only
      rw [rm_eq, hR]
      refine g202 _ _ (by omega) ?_ (by unfold toI; rw [if_neg (hz.mp z)])
      rw [p_m1_48]
      by_cases h0 : c = 0
      · subst h0; exact Or.inl rfl
      · exact Or.inr (Or.inl (by congr 1; omega))
    · rw [if_neg z]
      unfold g_X7_tick_173
      rw [if_neg z]
      refine g202 _ _ (by omega) ?_ (by unfold toI; rw [if_pos (Decidable.not_not.mp (fun q => z (hz.mpr q)))])
      rw [p_p1_48]
      by_cases h0 : c = 23
      · subst h0; exact Or.inr (Or.inr rfl)
      · exact Or.inr (Or.inl (by congr 1; omega))
theorem p_X7_tick {f B : Nat} {e : SE} {s : FS} {u : am_MU} (hf : f < 6) (he : eOK e) (hB : B < 1000000) (hr : rOK s.r B) (hE : ME (u 111) e) (hF : MF (u 111) f s) : ∃ u', f_X7_tick u (nI f) = some (u', tkM e s) ∧ same [111, 114, 122, 123] u u' ∧ sameR f (u 111) (u' 111) ∧ MF (u' 111) f (tkS e s) := by
  obtain ⟨o1, o2⟩ := p_offN he s
  unfold f_X7_tick
  rw [p_X7_wayOf u hf, p_some]
  dsimp only
  rw [p_X7_reachOf u hf (by rw [hE.1]; exact he.1) (by rw [hE.1]; exact he.2.1), p_some]
  dsimp only
  rw [hF.1, hF.2.1, hE.1, hE.2.2.1]
  show ∃ u', g_X7_tick_18 1700 u (nI f) s.way (FS.reach e s) 0 (nI 0) = _ ∧ _
  obtain ⟨v, g1, g2, g3⟩ := p_X7_li18 (re := FS.reach e s) hf hr 24 0 1700 u (by decide) (by decide) hE hF (fun j hj => by omega)
  have e1 : v 111 = u 111 := g2 111 (by decide)
  rw [g1]
  obtain ⟨v2, k1, k2, k3, k4, k5⟩ := p_X7_li49 (re := FS.reach e s) (way := s.way) (L := liS e s) (r := s.r) hf o1 o2 24 0 1700 v (by decide) (by decide) g3 (by rw [e1, hF.2.2]; rfl)
  have k1 : g_X7_tick_49 1700 v (nI f) s.way (FS.reach e s) 0 0 = g_X7_tick_131 1700 v2 (nI f) (if FS.reach e s ≤ 0 then 0 else sm (liS e s) 24) 0 := by
    rw [← k1]
    by_cases z : FS.reach e s ≤ 0
    · rw [if_pos z]; rfl
    · rw [if_neg z]; rfl
  rw [k1]
  rw [e1] at k3 k4
  obtain ⟨u', l1, l2, l3, l4⟩ := p_X7_sl131 (e := e) (r := lifted e s) (k := s.k) (t := s.t) (mo := if FS.reach e s ≤ 0 then 0 else sm (liS e s) 24) hf hB (lifted_OK hr hB) 24 0 1700 v2 (by decide) (by decide) (ME_sameR hf k3 hE) (by rw [k3 _ (by omega)]; exact hF.1) (by rw [k4]; exact hF.2.1) k5
  refine ⟨u', ?_, same_tr (same_mono g2 (by decide)) (same_tr (same_mono k2 (by decide)) (same_mono l2 (by decide))), sameR_tr k3 l3, l4⟩
  rw [← show g_X7_tick_131 1700 v2 (nI f) ((if FS.reach e s ≤ 0 then 0 else sm (liS e s) 24) + 0) (nI 0) = g_X7_tick_131 1700 v2 (nI f) (if FS.reach e s ≤ 0 then 0 else sm (liS e s) 24) 0 from by rw [Int32.add_zero]; rfl]
  exact l1
