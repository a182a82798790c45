/-! worlds that become others: thinking, keep, back -/
theorem p_X5_sea {w v : Nat} (tw : tg w = 5) (tv : tg v = 5) (iw1 : il (w + 1) = 4) (iw2 : il (w + 2) = 3) (iv1 : il (v + 1) = 4) (iv2 : il (v + 2) = 3) (hv : v + 2 ≠ w + 1) (u : am_MU) : ∃ u', f_X5_becomeSea u w v = some u' ∧ same [w + 1, w + 2] u u' ∧ (∀ j, j < 4 → u' (w + 1) j = u (v + 1) j) ∧ (∀ j, j < 3 → u' (w + 2) j = u (v + 2) j) := by
  have c1 : am_cpok (v + 1) (w + 1) 0 0 (Int32.ofNat 4) = true := by unfold am_cpok; rw [iw1, iv1]; decide
  have c2 : am_cpok (v + 2) (w + 2) 0 0 (Int32.ofNat 3) = true := by unfold am_cpok; rw [iw2, iv2]; decide
  obtain ⟨v1, hv1⟩ : ∃ v1, v1 = am_ur u (w + 1) (va_cpy (u (v + 1)) (u (w + 1)) 0 0 4) := ⟨_, rfl⟩
  refine ⟨am_ur v1 (w + 2) (va_cpy (v1 (v + 2)) (v1 (w + 2)) 0 0 3), ?_, ?_, ?_, ?_⟩
  · unfold f_X5_becomeSea
    rw [if_pos tv, if_pos tw, if_pos c1, p_let, if_pos c2, p_let, hv1]
    rfl
  · intro a ha
    simp at ha
    rw [ur_ne _ _ ha.2, hv1, ur_ne _ _ ha.1]
  · intro j hj
    rw [ur_ne _ _ (by omega), hv1, ur_row, pk_cpy_in (by omega) (by omega)]
    congr 1
    omega
  · intro j hj
    rw [ur_row, pk_cpy_in (by omega) (by omega), hv1, ur_ne _ _ hv]
    congr 1
    omega
theorem il17 : il 2 = 4 ∧ il 3 = 3 ∧ il 18 = 4 ∧ il 19 = 3 ∧ il 34 = 4 ∧ il 35 = 3 ∧ il 38 = 24 := by decide +kernel
theorem tg21 : ∀ i, i < 6 → tg (21 + 2 * i) = 0 ∧ il (21 + 2 * i + 1) = 24 := by decide +kernel
theorem al4 : am_ln 4 = 6 ∧ am_ln 20 = 6 := by decide +kernel
theorem p_X6_think {u : am_MU} {w i B : Nat} {T : Nat → TX} {W : WS} (hw : w = 1 ∨ w = 17) (hW : WOK T W B) (hc : CW u w T W) (ht : ∀ t, t < W.m → CT u t (T t)) (hi : i < W.n) : ∃ u', f_X6_think u w (nI i) = some (u', 37) ∧ same [34, 35, 37, 38] u u' ∧ CE u' 33 (W.env T) ∧ CF u' 37 (W.fl i) := by
  have hn := hW.n
  have hm := hW.m
  have hi6 : i < 6 := by omega
  obtain ⟨l1, l2, l3, l4, l5, l6, l7⟩ := il17
  have key : ∃ v1, f_X5_becomeSea u 33 w = some v1 ∧ same [34, 35] u v1 ∧ (∀ j, j < 4 → v1 34 j = u (w + 1) j) ∧ (∀ j, j < 3 → v1 35 j = u (w + 2) j) := by
    rcases hw with rfl | rfl
    · exact p_X5_sea (w := 33) (v := 1) (by decide) (by decide) l5 l6 l1 l2 (by decide) u
    · exact p_X5_sea (w := 33) (v := 17) (by decide) (by decide) l5 l6 l3 l4 (by decide) u
  obtain ⟨v1, a1, a2, a3, a4⟩ := key
  have hF : CF v1 (w + 4 + 2 * i) (W.fl i) := CF_congr (a2 _ (by simp; omega)) (a2 _ (by simp; omega)) (hc.fl i hi)
  have kb : ∃ v2, f_X0_become v1 37 (w + 4 + 2 * i) = some v2 ∧ same [37, 38] v1 v2 ∧ CF v2 37 (W.fl i) := by
    rcases hw with rfl | rfl
    · exact p_X0_become (a := 37) (b := 5 + 2 * i) (by decide) (tg5 i hi6) l7 (il5 i hi6) ⟨by omega, by omega⟩ hF
    · exact p_X0_become (a := 37) (b := 21 + 2 * i) (by decide) (tg21 i hi6).1 l7 (tg21 i hi6).2 ⟨by omega, by omega⟩ hF
  obtain ⟨v2, b1, b2, b3⟩ := kb
  have sv : same [34, 35, 37, 38] u v2 := same_tr (same_mono a2 (by simp)) (same_mono b2 (by simp))
  have e34 : ∀ j, j < 4 → v2 34 j = W.sea j := fun j hj => by rw [b2 34 (by decide), a3 j hj]; exact hc.sea j hj
  have e35 : ∀ j, j < 3 → v2 35 j = lawI (lawT T W.m j) := fun j hj => by rw [b2 35 (by decide), a4 j hj]; exact hc.law j hj
  have hct : ∀ t, t < W.m → CT v2 t (T t) := fun t h => CT_congr (sv _ (by simp; omega)) (sv _ (by simp; omega)) (ht t h)
  refine ⟨v2, ?_, sv, ⟨e34 0 (by decide), e34 1 (by decide), e34 2 (by decide), e34 3 (by decide), LawC_of (w := 33) (key := 0) hm hW.t hct (e35 0 (by decide)), LawC_of (w := 33) (key := 1) hm hW.t hct (e35 1 (by decide)), LawC_of (w := 33) (key := 2) hm hW.t hct (e35 2 (by decide))⟩, b3⟩
  unfold f_X6_think
  rw [a1, p_some]
  rcases hw with rfl | rfl
  · rw [if_pos (by decide), al4.1, if_pos (p_inT (by omega) hi6), nI_clamp (by omega)]
    rw [show (1 + 3) + 1 + 2 * i = 1 + 4 + 2 * i by omega, b1, p_some]
  · rw [if_pos (by decide), al4.2, if_pos (p_inT (by omega) hi6), nI_clamp (by omega)]
    rw [show (17 + 3) + 1 + 2 * i = 17 + 4 + 2 * i by omega, b1, p_some]
/-! the reference thinks in its own floor, and puts it back -/
theorem p_X7_thinksL {f : Nat} (hf : f < 6) : ∀ (m c n : Nat) (u : am_MU), c + m = 26 → m < n → (∀ j, j < c → u 115 j = u 111 (7 + 26 * f + j)) → ∃ u', g_X7_thinks_2 n u (nI f) (nI c) = some u' ∧ same [115] u u' ∧ ∀ j, j < 26 → u' 115 j = u 111 (7 + 26 * f + j) := by
  intro m
  induction m with
  | zero =>
    intro c n u h1 h2 hL
    obtain ⟨n, rfl⟩ : ∃ k, n = k + 1 := ⟨n - 1, by omega⟩
    obtain rfl : c = 26 := by omega
    rw [g_X7_thinks_2]
    dsimp only
    rw [if_pos (show (26 : Int32) ≤ nI 26 by decide)]
    exact ⟨u, rfl, same_rf, hL⟩
  | succ m ih =>
    intro c n u h1 h2 hL
    obtain ⟨n, rfl⟩ : ∃ k, n = k + 1 := ⟨n - 1, by omega⟩
    rw [g_X7_thinks_2]
    dsimp only
    rw [if_neg (show ¬ (26 : Int32) ≤ nI c from nI_ge (show c < 26 by omega) (by decide)), p_X7_at, p_some]
    dsimp only
    rw [nI_add, if_pos (p_inT (by omega) (by omega)), if_pos (p_inT (by omega) (by omega)), nI_clamp (by omega), nI_clamp (by omega), p_let, p_let, nI_1]
    obtain ⟨u', g1, g2, g3⟩ := ih (c + 1) n (am_u2 u 115 c (u 111 (7 + 26 * f + c))) (by omega) (by omega) (fun j hj => by
      rw [u2_ne _ _ (show 111 ≠ 115 by decide)]
      by_cases e : j = c
      · subst e; exact u2_same _ _ _ _
      · rw [u2_nei _ _ (Or.inr e)]; exact hL j (by omega))
    exact ⟨u', g1, same_tr (same_u2 _ _ _ _ (by simp)) g2, fun j hj => by rw [g3 j hj, u2_ne _ _ (by decide)]⟩
theorem p_X7_thinks {f : Nat} (hf : f < 6) (u : am_MU) : ∃ u', f_X7_thinks u (nI f) = some u' ∧ same [115] u u' ∧ ∀ j, j < 26 → u' 115 j = u 111 (7 + 26 * f + j) := p_X7_thinksL hf 26 0 1700 u rfl (by decide) (fun j hj => by omega)
theorem p_X7_putsL {f : Nat} (hf : f < 6) {R : Nat → Int32} : ∀ (m c n : Nat) (u : am_MU), c + m = 26 → m < n → (∀ j, j < 26 → u 115 j = R (7 + 26 * f + j)) → (∀ j, (j < 7 + 26 * f + c ∨ 33 + 26 * f ≤ j) → u 111 j = R j) → ∃ u', g_X7_putsBack_2 n u (nI f) (nI c) = some u' ∧ same [111] u u' ∧ u' 111 = R := by
  intro m
  induction m with
  | zero =>
    intro c n u h1 h2 hB hL
    obtain ⟨n, rfl⟩ : ∃ k, n = k + 1 := ⟨n - 1, by omega⟩
    obtain rfl : c = 26 := by omega
    rw [g_X7_putsBack_2]
    dsimp only
    rw [if_pos (show (26 : Int32) ≤ nI 26 by decide)]
    exact ⟨u, rfl, same_rf, funext fun j => hL j (by omega)⟩
  | succ m ih =>
    intro c n u h1 h2 hB hL
    obtain ⟨n, rfl⟩ : ∃ k, n = k + 1 := ⟨n - 1, by omega⟩
    rw [g_X7_putsBack_2]
    dsimp only
    rw [if_neg (show ¬ (26 : Int32) ≤ nI c from nI_ge (show c < 26 by omega) (by decide)), p_X7_at, p_some]
    dsimp only
    rw [nI_add, if_pos (p_inT (by omega) (by omega)), if_pos (p_inT (by omega) (by omega)), nI_clamp (by omega), nI_clamp (by omega), p_let, p_let, nI_1, hB c (by omega)]
    obtain ⟨u', g1, g2, g3⟩ := ih (c + 1) n (am_u2 u 111 (7 + 26 * f + c) (R (7 + 26 * f + c))) (by omega) (by omega) (fun j hj => by rw [u2_ne _ _ (by decide)]; exact hB j hj) (fun j hj => by
      by_cases e : j = 7 + 26 * f + c
      · rw [e]; exact u2_same _ _ _ _
      · rw [u2_nei _ _ (Or.inr e)]; exact hL j (by omega))
    exact ⟨u', g1, same_tr (same_u2 _ _ _ _ (by simp)) g2, g3⟩
theorem p_X7_puts {f : Nat} (hf : f < 6) {R : Nat → Int32} {u : am_MU} (hB : ∀ j, j < 26 → u 115 j = R (7 + 26 * f + j)) (hL : ∀ j, (j < 7 + 26 * f ∨ 33 + 26 * f ≤ j) → u 111 j = R j) : ∃ u', f_X7_putsBack u (nI f) = some u' ∧ same [111] u u' ∧ u' 111 = R := p_X7_putsL hf 26 0 1700 u rfl (by decide) hB hL
/-- back where it was -/
theorem same_back {M : List Nat} {u v : am_MU} (h : same (111 :: M) u v) (e : v 111 = u 111) : same M u v := fun a ha => by
  by_cases q : a = 111
  · rw [q]; exact e
  · exact h a (by simp [q]; exact ha)
/-! soon -/
def soF (e : SE) (x : Int32) : Nat → Nat → FS → Int32
  | 0, _, _ => -1000000005
  | m + 1, k, s => if sm (crI s.r) 24 < x then soF e x m (k + 1) (tkS e s) else nI k
theorem p_X6_soonL {B : Nat} {e : SE} {x : Int32} (he : eOK e) (hB : B < 1000000) : ∀ (m k n : Nat) (u : am_MU) (s : FS), k + m = 101 → m < n → rOK s.r B → CE u 33 e → CF u 37 s → ∃ u', g_X6_soon_34 n u x 37 (nI k) = some (u', soF e x m k s) ∧ same [39, 44, 37, 38] u u' := by
  intro m
  induction m with
  | zero =>
    intro k n u s h1 h2 hr hE hF
    obtain ⟨n, rfl⟩ : ∃ k, n = k + 1 := ⟨n - 1, by omega⟩
    obtain rfl : k = 101 := by omega
    rw [g_X6_soon_34]
    dsimp only
    rw [if_pos (by decide)]
    exact ⟨u, rfl, same_rf⟩
  | succ m ih =>
    intro k n u s h1 h2 hr hE hF
    obtain ⟨n, rfl⟩ : ∃ k, n = k + 1 := ⟨n - 1, by omega⟩
    rw [g_X6_soon_34]
    dsimp only
    rw [if_neg (show ¬ (100 : Int32) < nI k from nI_nlt (show k ≤ 100 by omega) (by decide)), if_pos (by decide), p_X0_crests u (by decide), p_some, hF.2.2, soF]
    dsimp only
    by_cases z : sm (crI s.r) 24 < x
    · obtain ⟨v, g1, g2, g3, g4⟩ := p_X6_oneTick (w := 33) (a := 37) (Or.inr rfl) (Or.inl rfl) he hB hr hE hF
      rw [if_pos z, if_pos z, g1, p_some, p_let]
      dsimp only
      rw [nI_1]
      obtain ⟨u', k1, k2⟩ := ih (k + 1) n v (tkS e s) (by omega) (by omega) (tkS_OK hr hB) g3 g4
      exact ⟨u', k1, same_tr g2 k2⟩
    · rw [if_neg z, if_neg z]
      exact ⟨u, rfl, same_rf⟩
theorem p_X7_soonL {f B : Nat} {e : SE} {x : Int32} {R : Nat → Int32} (hf : f < 6) (he : eOK e) (hB : B < 1000000) : ∀ (m k n : Nat) (u : am_MU) (s : FS), k + m = 101 → m < n → rOK s.r B → ME (u 111) e → MF (u 111) f s → (∀ j, j < 26 → u 115 j = R (7 + 26 * f + j)) → (∀ j, (j < 7 + 26 * f ∨ 33 + 26 * f ≤ j) → u 111 j = R j) → ∃ u', g_X7_soon_28 n u (nI f) x (nI k) = some (u', soF e x m k s) ∧ same [111, 114, 122, 123] u u' ∧ u' 111 = R := by
  have fin : ∀ (u : am_MU) (k : Nat), k ≤ 101 → (∀ j, j < 26 → u 115 j = R (7 + 26 * f + j)) → (∀ j, (j < 7 + 26 * f ∨ 33 + 26 * f ≤ j) → u 111 j = R j) → ∃ u', g_X7_soon_56 u (nI f) (nI k) = some (u', if k = 101 then -1000000005 else nI k) ∧ same [111, 114, 122, 123] u u' ∧ u' 111 = R := by
    intro u k hk h1 h2
    obtain ⟨v, p1, p2, p3⟩ := p_X7_puts hf h1 h2
    refine ⟨v, ?_, same_mono p2 (by simp), p3⟩
    unfold g_X7_soon_56
    rw [p1, p_some]
    by_cases z : k = 101
    · rw [if_pos z, z, if_pos (by decide)]
    · rw [if_neg z, if_neg (show ¬ (100 : Int32) < nI k from nI_nlt (show k ≤ 100 by omega) (by decide))]
  intro m
  induction m with
  | zero =>
    intro k n u s h1 h2 hr hE hF hb hL
    obtain ⟨n, rfl⟩ : ∃ k, n = k + 1 := ⟨n - 1, by omega⟩
    obtain rfl : k = 101 := by omega
    rw [g_X7_soon_28]
    dsimp only
    rw [if_pos (by decide)]
    exact fin u 101 (by decide) hb hL
  | succ m ih =>
    intro k n u s h1 h2 hr hE hF hb hL
    obtain ⟨n, rfl⟩ : ∃ k, n = k + 1 := ⟨n - 1, by omega⟩
    rw [g_X7_soon_28]
    dsimp only
    rw [if_neg (show ¬ (100 : Int32) < nI k from nI_nlt (show k ≤ 100 by omega) (by decide)), p_X7_crests u hf, p_some, rm_eq, hF.2.2, soF]
    dsimp only
    by_cases z : sm (crI s.r) 24 < x
    · obtain ⟨v, g1, g2, g3, g4⟩ := p_X7_tick hf he hB hr hE hF
      rw [if_pos z, if_neg (Int32.not_le.mpr z), g1, p_some, p_let]
      dsimp only
      rw [nI_1]
      obtain ⟨u', k1, k2, k3⟩ := ih (k + 1) n v (tkS e s) (by omega) (by omega) (tkS_OK hr hB) (ME_sameR hf g3 hE) g4 (fun j hj => by rw [g2 115 (by decide)]; exact hb j hj) (fun j hj => by rw [g3 j (by omega)]; exact hL j hj)
      exact ⟨u', k1, same_tr g2 k2, k3⟩
    · rw [if_neg z, if_pos (Int32.not_lt.mp z)]
      have := fin u k (by omega) hb hL
      rw [if_neg (by omega)] at this
      exact this
theorem k_soon (x y : Int32) : Call (fun u => f_X6_soon u x y) (fun u => f_X7_soon u x y) := by
  intro S B hS hB
  have hn := hS.now.n
  rcases rng x (show S.now.n < 2 ^ 31 by omega) with ⟨i, hi, rfl⟩ | hx
  · skip
    have hi6 : i < 6 := by omega
    rcases rng y (show 25 < 2 ^ 31 by omega) with ⟨d, hd, rfl⟩ | hy
    · skip
      have hr := hS.now.r i hi
      have heo := eOK_of hS.now
      refine Csc (L := [34, 35, 37, 38, 39, 44]) (M := [114, 115, 122, 123]) hS (soF (S.now.env S.T) (nI d) 101 0 (S.now.fl i)) (by simp) (by simp [scm]) (fun u hu => ?_) (fun u hu => ?_)
      · obtain ⟨v, a1, a2, a3, a4⟩ := p_X6_think (w := 1) (Or.inl rfl) hS.now hu.now hu.tx hi
        obtain ⟨v2, b1, b2⟩ := p_X6_soonL (x := nI d) heo (show B < 1000000 by omega) 101 0 1700 v (S.now.fl i) rfl (by decide) hr a3 a4
        refine ⟨v2, ?_, same_tr (same_mono a2 (by simp)) (same_mono b2 (by simp))⟩
        show f_X6_soon u (nI i) (nI d) = _
        unfold f_X6_soon
        rw [bG1 (fC1 hu.now.n hn hi), ii (n := 24) hd (by decide) 24 rfl, a1, p_some]
        exact b1
      · obtain ⟨v, a1, a2, a3⟩ := p_X7_thinks hi6 u
        have q : v 111 = u 111 := a2 111 (by decide)
        obtain ⟨v2, b1, b2, b3⟩ := p_X7_soonL (x := nI d) (R := u 111) hi6 heo (show B < 1000000 by omega) 101 0 1700 v (S.now.fl i) rfl (by decide) hr (by rw [q]; exact ME_of hS.now hu.now) (by rw [q]; exact hu.now.fl i hi) a3 (fun j _ => by rw [q])
        refine ⟨v2, ?_, same_back (same_tr (same_mono a2 (by simp)) (same_mono b2 (by simp))) b3⟩
        show f_X7_soon u (nI i) (nI d) = _
        unfold f_X7_soon
        rw [bG1 (fM1 hu.now.n hn hi), bG1 (in_in u 24 (n := 24) rfl (by decide) hd)]
        dsimp only
        rw [a1, p_some]
        exact b1
    · exact Cro hS (-1000000001) (fun u hu => by show f_X6_soon u (nI i) y = _; unfold f_X6_soon; rw [bG1 (fC1 hu.now.n hn hi), oi hy (show 24 < 1000000 by decide) 24 rfl]) (fun u hu => by show f_X7_soon u (nI i) y = _; unfold f_X7_soon; rw [bG1 (fM1 hu.now.n hn hi), bG0 (out_in u 24 (n := 24) rfl (by decide) hy)])
  · exact Cro hS (-1000000001) (fun u hu => by show f_X6_soon u x y = _; unfold f_X6_soon; rw [bG0 (fC0 hu.now.n hx)]) (fun u hu => by show f_X7_soon u x y = _; unfold f_X7_soon; rw [bG0 (fM0 hu.now.n hn hx)])
theorem sm01_0 {f : Nat → Int32} (hf : ∀ c, f c = 0 ∨ f c = 1) : ∀ n, n < 1000 → (sm f n = 0 ↔ ∀ c, c < n → f c = 0) := by
  intro n
  induction n with
  | zero => intro _; exact ⟨fun _ c hc => by omega, fun _ => rfl⟩
  | succ n ih =>
    intro hn
    have ih := ih (by omega)
    obtain ⟨k, h1, h2⟩ := sm_01 hf n
    rw [sm]
    rcases hf n with h | h
    · rw [h, Int32.add_zero, ih]
      refine ⟨fun q c hc => ?_, fun q c hc => q c (by omega)⟩
      by_cases e : c = n
      · rw [e]; exact h
      · exact q c (by omega)
    · rw [h, h2, nI_1]
      refine ⟨fun q => absurd q (nI_ne0 (by omega) (by omega)), fun q => ?_⟩
      have := q n (by omega)
      rw [h] at this
      exact absurd this (by decide)
def peF (e : SE) (r0 : Nat → Int32) : Nat → Nat → FS → Int32
  | 0, _, _ => -1000000005
  | m + 1, k, s => if sm (unS (tkS e s).r r0 0) 24 = 0 then nI k else peF e r0 m (k + 1) (tkS e s)
theorem p_X6_perL {B i : Nat} {e : SE} {r0 : Nat → Int32} (hi : i < 6) (he : eOK e) (hB : B < 1000000) : ∀ (m k n : Nat) (u : am_MU) (s : FS), k + m = 101 → m < n → rOK s.r B → CE u 33 e → CF u 37 s → rc u (5 + 2 * i) = r0 → ∃ u', g_X6_period_23 n u (nI i) 37 (nI k) = some (u', peF e r0 m k s) ∧ same [39, 44, 37, 38] u u' := by
  intro m
  induction m with
  | zero =>
    intro k n u s h1 h2 hr hE hF h0
    obtain ⟨n, rfl⟩ : ∃ k, n = k + 1 := ⟨n - 1, by omega⟩
    obtain rfl : k = 101 := by omega
    rw [g_X6_period_23]
    dsimp only
    rw [if_pos (by decide)]
    exact ⟨u, rfl, same_rf⟩
  | succ m ih =>
    intro k n u s h1 h2 hr hE hF h0
    obtain ⟨n, rfl⟩ : ∃ k, n = k + 1 := ⟨n - 1, by omega⟩
    obtain ⟨v, g1, g2, g3, g4⟩ := p_X6_oneTick (w := 33) (a := 37) (Or.inr rfl) (Or.inl rfl) he hB hr hE hF
    have eun := p_X0_un v (a := 37) (b := 5 + 2 * i) (t := 0) (by decide) (tg5 i hi) (by decide)
    rw [nI_0] at eun
    have q0 : rc v (5 + 2 * i) = r0 := by rw [rc_congr (g2 _ (by simp; omega))]; exact h0
    rw [g_X6_period_23]
    dsimp only
    rw [if_neg (show ¬ (100 : Int32) < nI k from nI_nlt (show k ≤ 100 by omega) (by decide)), g1, p_some]
    dsimp only
    rw [if_pos (p_inT (by omega) hi), nI_clamp (by omega), if_pos (by decide), eun, p_some, q0, g4.2.2, peF]
    dsimp only
    by_cases z : sm (unS (tkS e s).r r0 0) 24 = 0
    · rw [if_pos z, if_pos z]
      exact ⟨v, rfl, g2⟩
    · rw [if_neg z, if_neg z, p_let, nI_1]
      obtain ⟨u', k1, k2⟩ := ih (k + 1) n v (tkS e s) (by omega) (by omega) (tkS_OK hr hB) g3 g4 q0
      exact ⟨u', k1, same_tr g2 k2⟩
theorem p_X7_asL {f : Nat} (hf : f < 6) (u : am_MU) {r0 : Nat → Int32} (hb : ∀ c, c < 24 → u 115 (2 + c) = r0 c) : ∀ (m c n : Nat), c + m = 24 → m < n → g_X7_isAsBefore_2 n u (nI f) (nI (2 + c)) = some (u, 1) ∧ (∀ j, c ≤ j → j < 24 → rmR (u 111) f j = r0 j) ∨ g_X7_isAsBefore_2 n u (nI f) (nI (2 + c)) = some (u, 0) ∧ ¬ (∀ j, c ≤ j → j < 24 → rmR (u 111) f j = r0 j) := by
  intro m
  induction m with
  | zero =>
    intro c n h1 h2
    obtain ⟨n, rfl⟩ : ∃ k, n = k + 1 := ⟨n - 1, by omega⟩
    obtain rfl : c = 24 := by omega
    left
    rw [g_X7_isAsBefore_2]
    dsimp only
    rw [if_pos (by decide)]
    exact ⟨rfl, fun j h1 h2 => by omega⟩
  | succ m ih =>
    intro c n h1 h2
    obtain ⟨n, rfl⟩ : ∃ k, n = k + 1 := ⟨n - 1, by omega⟩
    have hc : c < 24 := by omega
    rw [g_X7_isAsBefore_2]
    dsimp only
    rw [if_neg (show ¬ (26 : Int32) ≤ nI (2 + c) from nI_ge (show 2 + c < 26 by omega) (by decide)), p_X7_at, p_some]
    dsimp only
    rw [nI_add, if_pos (p_inT (by omega) (by omega)), if_pos (p_inT (by omega) (by omega)), nI_clamp (by omega), nI_clamp (by omega), show 7 + 26 * f + (2 + c) = 9 + 26 * f + c by omega]
    have e1 : u 111 (9 + 26 * f + c) = rmR (u 111) f c := p_rmR (u 111) f hc
    have e2 := hb c hc
    by_cases z : rmR (u 111) f c = r0 c
    · rw [if_pos (by rw [e1, e2]; exact z), p_let, nI_1, show 2 + c + 1 = 2 + (c + 1) by omega]
      rcases ih (c + 1) n (by omega) (by omega) with ⟨q1, q2⟩ | ⟨q1, q2⟩
      · left
        refine ⟨q1, fun j hj1 hj2 => ?_⟩
        by_cases e : j = c
        · rw [e]; exact z
        · exact q2 j (by omega) hj2
      · right
        exact ⟨q1, fun q => q2 (fun j hj1 hj2 => q j (by omega) hj2)⟩
    · right
      rw [if_neg (by rw [e1, e2]; exact z)]
      exact ⟨rfl, fun q => z (q c (Nat.le_refl _) hc)⟩
theorem p_X7_as {f : Nat} (hf : f < 6) (u : am_MU) {r0 : Nat → Int32} (hb : ∀ c, c < 24 → u 115 (2 + c) = r0 c) : f_X7_isAsBefore u (nI f) = some (u, if sm (unS (rmR (u 111) f) r0 0) 24 = 0 then 1 else 0) := by
  have k : sm (unS (rmR (u 111) f) r0 0) 24 = 0 ↔ ∀ j, 0 ≤ j → j < 24 → rmR (u 111) f j = r0 j := by
    rw [sm01_0 (un_01 _ _ _) 24 (by decide)]
    refine ⟨fun q j _ hj => ?_, fun q j hj => ?_⟩
    · have := q j hj
      unfold unS at this
      rw [show (j + 0) % 24 = j by omega] at this
      by_cases z : rmR (u 111) f j = r0 j
      · exact z
      · rw [if_neg z] at this; exact absurd this (by decide)
    · unfold unS
      rw [show (j + 0) % 24 = j by omega, if_pos (q j (Nat.zero_le _) hj)]
  have h : f_X7_isAsBefore u (nI f) = g_X7_isAsBefore_2 1700 u (nI f) (nI (2 + 0)) := rfl
  rw [h]
  rcases p_X7_asL hf u hb 24 0 1700 rfl (by decide) with ⟨q1, q2⟩ | ⟨q1, q2⟩
  · rw [q1, if_pos (k.mpr q2)]
  · rw [q1, if_neg (fun z => q2 (k.mp z))]
theorem p_X7_perL {f B : Nat} {e : SE} {R : Nat → Int32} (hf : f < 6) (he : eOK e) (hB : B < 1000000) : ∀ (m k n : Nat) (u : am_MU) (s : FS), k + m = 101 → m < n → rOK s.r B → ME (u 111) e → MF (u 111) f s → (∀ j, j < 26 → u 115 j = R (7 + 26 * f + j)) → (∀ j, (j < 7 + 26 * f ∨ 33 + 26 * f ≤ j) → u 111 j = R j) → ∃ u', g_X7_period_21 (n + 1) u (nI f) (-1000000005) (nI k) = some (u', peF e (rmR R f) m k s) ∧ same [111, 114, 122, 123] u u' ∧ u' 111 = R := by
  have fin : ∀ (u : am_MU) (x : Int32), (∀ j, j < 26 → u 115 j = R (7 + 26 * f + j)) → (∀ j, (j < 7 + 26 * f ∨ 33 + 26 * f ≤ j) → u 111 j = R j) → ∃ u', g_X7_period_61 u (nI f) x = some (u', x) ∧ same [111, 114, 122, 123] u u' ∧ u' 111 = R := by
    intro u x h1 h2
    obtain ⟨v, p1, p2, p3⟩ := p_X7_puts hf h1 h2
    refine ⟨v, ?_, same_mono p2 (by simp), p3⟩
    unfold g_X7_period_61
    rw [p1, p_some]
  intro m
  induction m with
  | zero =>
    intro k n u s h1 h2 hr hE hF hb hL
    obtain rfl : k = 101 := by omega
    rw [g_X7_period_21]
    dsimp only
    rw [if_pos (by decide)]
    exact fin u _ hb hL
  | succ m ih =>
    intro k n u s h1 h2 hr hE hF hb hL
    obtain ⟨n, rfl⟩ : ∃ k, n = k + 1 := ⟨n - 1, by omega⟩
    obtain ⟨v, g1, g2, g3, g4⟩ := p_X7_tick hf he hB hr hE hF
    have hb2 : ∀ j, j < 26 → v 115 j = R (7 + 26 * f + j) := fun j hj => by rw [g2 115 (by decide)]; exact hb j hj
    have hL2 : ∀ j, (j < 7 + 26 * f ∨ 33 + 26 * f ≤ j) → v 111 j = R j := fun j hj => by rw [g3 j (by omega)]; exact hL j hj
    rw [g_X7_period_21]
    dsimp only
    rw [if_neg (show ¬ (100 : Int32) < nI k from nI_nlt (show k ≤ 100 by omega) (by decide)), if_pos rfl, g1, p_some]
    dsimp only
    rw [p_X7_as hf v (r0 := rmR R f) (fun c hc => by rw [hb2 _ (by omega), show 7 + 26 * f + (2 + c) = 9 + 26 * f + c by omega]; exact p_rmR R f hc), p_some, g4.2.2, peF]
    dsimp only
    by_cases z : sm (unS (tkS e s).r (rmR R f) 0) 24 = 0
    · rw [if_pos z, if_pos z, if_neg (show ¬ (1 : Int32) = 0 by decide)]
      simp only [g_X7_period_54, p_let, nI_1]
      rw [g_X7_period_21]
      dsimp only
      have hne : ¬ nI k = -1000000005 := fun q => nI_pos (show k < 2 ^ 31 by omega) (by rw [q]; decide)
      obtain ⟨u', f1, f2, f3⟩ := fin v (nI k) hb2 hL2
      refine ⟨u', ?_, same_tr g2 f2, f3⟩
      rw [if_neg hne, f1]
      split <;> rfl
    · rw [if_neg z, if_neg z, if_pos rfl]
      simp only [g_X7_period_54, p_let, nI_1]
      obtain ⟨u', k1, k2, k3⟩ := ih (k + 1) n v (tkS e s) (by omega) (by omega) (tkS_OK hr hB) (ME_sameR hf g3 hE) g4 hb2 hL2
      exact ⟨u', k1, same_tr g2 k2, k3⟩
theorem k_period (x : Int32) : Call (fun u => f_X6_period u x) (fun u => f_X7_period u x) := by
  intro S B hS hB
  have hn := hS.now.n
  rcases rng x (show S.now.n < 2 ^ 31 by omega) with ⟨i, hi, rfl⟩ | hx
  · skip
    have hi6 : i < 6 := by omega
    have hr := hS.now.r i hi
    have heo := eOK_of hS.now
    refine Csc (L := [34, 35, 37, 38, 39, 44]) (M := [114, 115, 122, 123]) hS (peF (S.now.env S.T) (S.now.fl i).r 100 1 (S.now.fl i)) (by simp) (by simp [scm]) (fun u hu => ?_) (fun u hu => ?_)
    · obtain ⟨v, a1, a2, a3, a4⟩ := p_X6_think (w := 1) (Or.inl rfl) hS.now hu.now hu.tx hi
      obtain ⟨v2, b1, b2⟩ := p_X6_perL (r0 := (S.now.fl i).r) hi6 heo (show B < 1000000 by omega) 100 1 1700 v (S.now.fl i) rfl (by decide) hr a3 a4 (by rw [rc_congr (a2 _ (by simp; omega))]; exact (fl1 hu hi).2.2)
      refine ⟨v2, ?_, same_tr (same_mono a2 (by simp)) (same_mono b2 (by simp))⟩
      show f_X6_period u (nI i) = _
      unfold f_X6_period
      rw [bG1 (fC1 hu.now.n hn hi), a1, p_some]
      exact b1
    · obtain ⟨v, a1, a2, a3⟩ := p_X7_thinks hi6 u
      have q : v 111 = u 111 := a2 111 (by decide)
      obtain ⟨v2, b1, b2, b3⟩ := p_X7_perL (R := u 111) hi6 heo (show B < 1000000 by omega) 100 1 1699 v (S.now.fl i) rfl (by decide) hr (by rw [q]; exact ME_of hS.now hu.now) (by rw [q]; exact hu.now.fl i hi) a3 (fun j _ => by rw [q])
      rw [(hu.now.fl i hi).2.2] at b1
      refine ⟨v2, ?_, same_back (same_tr (same_mono a2 (by simp)) (same_mono b2 (by simp))) b3⟩
      show f_X7_period u (nI i) = _
      unfold f_X7_period
      rw [bG1 (fM1 hu.now.n hn hi), a1, p_some]
      exact b1
  · exact Cro hS (-1000000001) (fun u hu => by show f_X6_period u x = _; unfold f_X6_period; rw [bG0 (fC0 hu.now.n hx)]) (fun u hu => by show f_X7_period u x = _; unfold f_X7_period; rw [bG0 (fM0 hu.now.n hn hx)])
