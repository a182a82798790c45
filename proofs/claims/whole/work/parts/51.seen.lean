/-! thinking so many ticks, the sea changed -/
def eFar (e : SE) (v : Int32) : SE := (v, e.pace, e.sec, e.steep, e.o0, e.o1, e.o2)
def ePac (e : SE) (v : Int32) : SE := (e.far, v, e.sec, e.steep, e.o0, e.o1, e.o2)
theorem p_X6_tbL {B K : Nat} {e : SE} (he : eOK e) (hB : B < 1000000) (hK : K ≤ 1000) : ∀ (m j n : Nat) (u : am_MU) (s : FS), j + m = K → m < n → rOK s.r B → CE u 33 e → CF u 37 s → ∃ u', g_X6_thinkBehind_24 n u (nI K) 37 (nI j) = some (u', 37) ∧ same [39, 44, 37, 38] u u' ∧ CF u' 37 (runF e m s).1 := by
  intro m
  induction m with
  | zero =>
    intro j n u s h1 h2 hr hE hF
    obtain ⟨n, rfl⟩ : ∃ k, n = k + 1 := ⟨n - 1, by omega⟩
    obtain rfl : j = K := by omega
    rw [g_X6_thinkBehind_24]
    dsimp only
    rw [if_pos (nI_le (Nat.le_refl _) (by omega))]
    exact ⟨u, rfl, same_rf, hF⟩
  | succ m ih =>
    intro j n u s h1 h2 hr hE hF
    obtain ⟨n, rfl⟩ : ∃ k, n = k + 1 := ⟨n - 1, by omega⟩
    obtain ⟨v, g1, g2, g3, g4⟩ := p_X6_oneTick (w := 33) (a := 37) (Or.inr rfl) (Or.inl rfl) he hB hr hE hF
    rw [g_X6_thinkBehind_24]
    dsimp only
    rw [if_neg (nI_ge (show j < K by omega) (by omega)), g1, p_some, p_let]
    dsimp only
    rw [nI_1]
    obtain ⟨u', k1, k2, k3⟩ := ih (j + 1) n v (tkS e s) (by omega) (by omega) (tkS_OK hr hB) g3 g4
    exact ⟨u', k1, same_tr g2 k2, k3⟩
theorem p_X6_tb0 {u : am_MU} {S : AS} {i B K : Nat} {v : Int32} (hS : OK S B) (hB : B < 1000000) (hK : K ≤ 1000) (hu : CI u S) (hi : i < S.now.n) (he : eOK (eFar (S.now.env S.T) v)) : ∃ u', f_X6_thinkBehind u (nI i) 0 v (nI K) = some (u', 37) ∧ same [34, 35, 37, 38, 39, 44] u u' ∧ CF u' 37 (runF (eFar (S.now.env S.T) v) K (S.now.fl i)).1 := by
  obtain ⟨v1, a1, a2, a3, a4⟩ := p_X6_think (w := 1) (Or.inl rfl) hS.now hu.now hu.tx hi
  have q : ∀ a, a ≠ 34 → am_u2 v1 34 0 v a = v1 a := fun a ha => u2_ne _ _ ha
  have hE : CE (am_u2 v1 34 0 v) 33 (eFar (S.now.env S.T) v) := ⟨u2_same _ _ _ _, by rw [u2_nei _ _ (Or.inr (by decide))]; exact a3.2.1, by rw [u2_nei _ _ (Or.inr (by decide))]; exact a3.2.2.1, by rw [u2_nei _ _ (Or.inr (by decide))]; exact a3.2.2.2.1, LawC_congr (q _ (by decide)) (fun a h1 h2 => q a (by omega)) a3.2.2.2.2.1, LawC_congr (q _ (by decide)) (fun a h1 h2 => q a (by omega)) a3.2.2.2.2.2.1, LawC_congr (q _ (by decide)) (fun a h1 h2 => q a (by omega)) a3.2.2.2.2.2.2⟩
  obtain ⟨u', b1, b2, b3⟩ := p_X6_tbL he hB hK K 0 1700 (am_u2 v1 34 0 v) (S.now.fl i) (by omega) (by omega) (hS.now.r i hi) hE (CF_congr (q _ (by decide)) (q _ (by decide)) a4)
  refine ⟨u', ?_, same_tr (same_mono a2 (by simp)) (same_tr (same_u2 _ _ _ _ (by simp)) (same_mono b2 (by simp))), b3⟩
  unfold f_X6_thinkBehind
  rw [a1, p_some, if_pos (by decide), p_let, show (0 : Int32).toNatClampNeg = 0 from by decide]
  dsimp only
  rw [nI_0] at b1
  exact b1
theorem p_X6_tb1 {u : am_MU} {S : AS} {i B K : Nat} {v : Int32} (hS : OK S B) (hB : B < 1000000) (hK : K ≤ 1000) (hu : CI u S) (hi : i < S.now.n) (he : eOK (ePac (S.now.env S.T) v)) : ∃ u', f_X6_thinkBehind u (nI i) 1 v (nI K) = some (u', 37) ∧ same [34, 35, 37, 38, 39, 44] u u' ∧ CF u' 37 (runF (ePac (S.now.env S.T) v) K (S.now.fl i)).1 := by
  obtain ⟨v1, a1, a2, a3, a4⟩ := p_X6_think (w := 1) (Or.inl rfl) hS.now hu.now hu.tx hi
  have q : ∀ a, a ≠ 34 → am_u2 v1 34 1 v a = v1 a := fun a ha => u2_ne _ _ ha
  have hE : CE (am_u2 v1 34 1 v) 33 (ePac (S.now.env S.T) v) := ⟨by rw [u2_nei _ _ (Or.inr (by decide))]; exact a3.1, u2_same _ _ _ _, by rw [u2_nei _ _ (Or.inr (by decide))]; exact a3.2.2.1, by rw [u2_nei _ _ (Or.inr (by decide))]; exact a3.2.2.2.1, LawC_congr (q _ (by decide)) (fun a h1 h2 => q a (by omega)) a3.2.2.2.2.1, LawC_congr (q _ (by decide)) (fun a h1 h2 => q a (by omega)) a3.2.2.2.2.2.1, LawC_congr (q _ (by decide)) (fun a h1 h2 => q a (by omega)) a3.2.2.2.2.2.2⟩
  obtain ⟨u', b1, b2, b3⟩ := p_X6_tbL he hB hK K 0 1700 (am_u2 v1 34 1 v) (S.now.fl i) (by omega) (by omega) (hS.now.r i hi) hE (CF_congr (q _ (by decide)) (q _ (by decide)) a4)
  refine ⟨u', ?_, same_tr (same_mono a2 (by simp)) (same_tr (same_u2 _ _ _ _ (by simp)) (same_mono b2 (by simp))), b3⟩
  unfold f_X6_thinkBehind
  rw [a1, p_some, if_pos (by decide), p_let, show (1 : Int32).toNatClampNeg = 1 from by decide]
  dsimp only
  rw [nI_0] at b1
  exact b1
theorem eFar_OK {e : SE} (h : eOK e) {p : Nat} (hp : p < 12) : eOK (eFar e (nI p)) := ⟨nI_pos' (by omega), show nI p ≤ (11 : Int32) from nI_le (show p ≤ 11 by omega) (by decide), h.2.2.1, h.2.2.2⟩
theorem ePac_OK {e : SE} (h : eOK e) (v : Int32) : eOK (ePac e v) := ⟨h.1, h.2.1, h.2.2.1, h.2.2.2⟩
theorem LawM_at {R : Nat → Int32} {i key nn : Nat} {v : Int32} {o : LW} (hi : i < 6) (h : LawM R key nn o) : LawM (upd R i v) key nn o := LawM_congr (by rw [upd_ne (by omega)]) (fun j hj => by rw [upd_ne (by omega)]) h
theorem ME_far {R : Nat → Int32} {e : SE} (h : ME R e) (v : Int32) : ME (upd R 2 v) (eFar e v) := ⟨upd_sm, by rw [upd_ne (by decide)]; exact h.2.1, by rw [upd_ne (by decide)]; exact h.2.2.1, by rw [upd_ne (by decide)]; exact h.2.2.2.1, LawM_at (by decide) h.2.2.2.2.1, LawM_at (by decide) h.2.2.2.2.2.1, LawM_at (by decide) h.2.2.2.2.2.2⟩
theorem ME_pac {R : Nat → Int32} {e : SE} (h : ME R e) (v : Int32) : ME (upd R 3 v) (ePac e v) := ⟨by rw [upd_ne (by decide)]; exact h.1, upd_sm, by rw [upd_ne (by decide)]; exact h.2.2.1, by rw [upd_ne (by decide)]; exact h.2.2.2.1, LawM_at (by decide) h.2.2.2.2.1, LawM_at (by decide) h.2.2.2.2.2.1, LawM_at (by decide) h.2.2.2.2.2.2⟩
theorem MF_at2 {R : Nat → Int32} {f i : Nat} {s : FS} (hi : i < 7) (h : MF R f s) (v : Int32) : MF (upd R i v) f s := MF_congr (fun j h1 h2 => upd_ne (by omega)) h
theorem upd_upd (r : Nat → Int32) (i : Nat) (a b : Int32) : upd (upd r i a) i b = upd r i b := by
  funext j
  by_cases h : j = i
  · rw [h, upd_sm, upd_sm]
  · rw [upd_ne h, upd_ne h, upd_ne h]
/-! best -/
def beF (V : Nat → Int32) : Nat → Nat → Int32 → Int32 → Int32 × Int32
  | 0, _, b, w => (b, w)
  | m + 1, p, b, w => if V p ≤ w then beF V m (p + 1) b w else beF V m (p + 1) (nI p) (V p)
theorem p_X6_bestL {S : AS} {B i K : Nat} {V : Nat → Int32} {z : Int32} (hS : OK S B) (hB : B < 900000) (hK : K ≤ 1000) (hi : i < S.now.n) (hV : ∀ p, V p = sm (crI (runF (ePac (S.now.env S.T) (nI p)) K (S.now.fl i)).1.r) 24) : ∀ (m p n : Nat) (u : am_MU) (b w : Int32), p + m = 10 → m < n → CI u S → ∃ u', g_X6_best_43 n u (nI i) (nI K) z b w (nI p) = some (u', if z = 0 then (beF V m p b w).1 else (beF V m p b w).2) ∧ same [34, 35, 37, 38, 39, 44] u u' := by
  intro m
  induction m with
  | zero =>
    intro p n u b w h1 h2 hu
    obtain ⟨n, rfl⟩ : ∃ k, n = k + 1 := ⟨n - 1, by omega⟩
    obtain rfl : p = 10 := by omega
    rw [g_X6_best_43]
    dsimp only
    rw [if_pos (by decide), if_pos (by decide)]
    refine ⟨u, ?_, same_rf⟩
    show _ = some (u, if z = 0 then b else w)
    split <;> rfl
  | succ m ih =>
    intro p n u b w h1 h2 hu
    obtain ⟨n, rfl⟩ : ∃ k, n = k + 1 := ⟨n - 1, by omega⟩
    obtain ⟨v, g1, g2, g3⟩ := p_X6_tb1 (v := nI p) hS (by omega) hK hu hi (ePac_OK (eOK_of hS.now) _)
    have hv : CI v S := CI_same hS g2 (by simp [scr]) hu
    rw [g_X6_best_43]
    dsimp only
    rw [if_pos (by decide), if_neg (show ¬ (kA3 (1 : Int32).toNatClampNeg) < nI p from nI_nlt (b := p) (a := 9) (by omega) (by decide)), g1, p_some]
    dsimp only
    rw [if_pos (by decide), p_X0_crests v (by decide), p_some, g3.2.2, ← hV p, beF]
    simp only [g_X6_best_82, p_let, nI_1]
    by_cases q : V p ≤ w
    · rw [if_pos q, if_pos q]
      obtain ⟨u', k1, k2⟩ := ih (p + 1) n v b w (by omega) (by omega) hv
      exact ⟨u', k1, same_tr g2 k2⟩
    · rw [if_neg q, if_neg q]
      obtain ⟨u', k1, k2⟩ := ih (p + 1) n v (nI p) (V p) (by omega) (by omega) hv
      exact ⟨u', k1, same_tr g2 k2⟩
theorem p_X7_bestL {f B K : Nat} {e : SE} {s : FS} {R : Nat → Int32} {V : Nat → Int32} {z was : Int32} (hf : f < 6) (he : eOK e) (hB : B < 1000000) (hK : K ≤ 1000) (hr : rOK s.r B) (hE : ME R e) (hF : MF R f s) (hwas : R 3 = was) (hV : ∀ p, V p = sm (crI (runF (ePac e (nI p)) K s).1.r) 24) : ∀ (m p n : Nat) (u : am_MU) (b w x : Int32), p + m = 10 → m < n → u 111 = upd R 3 x → (∀ j, j < 26 → u 115 j = R (7 + 26 * f + j)) → ∃ u', g_X7_best_52 n u (nI f) (nI K) z was b w (nI p) = some (u', if z = 0 then (beF V m p b w).1 else (beF V m p b w).2) ∧ same [111, 114, 122, 123] u u' ∧ u' 111 = R := by
  intro m
  induction m with
  | zero =>
    intro p n u b w x h1 h2 hu hb
    obtain ⟨n, rfl⟩ : ∃ k, n = k + 1 := ⟨n - 1, by omega⟩
    obtain rfl : p = 10 := by omega
    rw [g_X7_best_52]
    dsimp only
    rw [if_pos (by decide), p_let]
    refine ⟨am_u2 u 111 3 was, ?_, same_u2 _ _ _ _ (by simp), ?_⟩
    · show _ = some (am_u2 u 111 3 was, if z = 0 then b else w)
      split <;> rfl
    · rw [u2_row, hu, upd_upd, ← hwas, upd_self]
  | succ m ih =>
    intro p n u b w x h1 h2 hu hb
    obtain ⟨n, rfl⟩ : ∃ k, n = k + 1 := ⟨n - 1, by omega⟩
    obtain ⟨v1, hv1⟩ : ∃ v1, v1 = am_u2 u 111 3 (nI p) := ⟨_, rfl⟩
    have e1 : v1 111 = upd R 3 (nI p) := by rw [hv1, u2_row, hu, upd_upd]
    obtain ⟨v2, g1, g2, g3, g4⟩ := p_X7_ticks (u := v1) hf (ePac_OK he (nI p)) hB hK hr (by rw [e1]; exact ME_pac hE _) (by rw [e1]; exact MF_at2 (by decide) hF _)
    obtain ⟨v3, p1, p2, p3⟩ := p_X7_puts (u := v2) (R := upd R 3 (nI p)) hf (fun j hj => by rw [g2 115 (by decide), hv1, u2_ne _ _ (by decide), hb j hj, upd_ne (by omega)]) (fun j hj => by rw [g3 j (by omega), e1])
    have s1 : same [111, 114, 122, 123] u v3 := by
      have : same [111, 114, 122, 123] u v1 := by rw [hv1]; exact same_u2 _ _ _ _ (by simp)
      exact same_tr (same_tr this g2) (same_mono p2 (by simp))
    rw [g_X7_best_52]
    dsimp only
    rw [if_neg (show ¬ (10 : Int32) ≤ nI p from nI_ge (show p < 10 by omega) (by decide)), p_let, ← hv1, g1, p_some]
    dsimp only
    rw [p_X7_crests v2 hf, p_some, rm_eq, g4.2.2, ← hV p]
    dsimp only
    rw [p1, p_some, beF]
    simp only [g_X7_best_101, g_X7_best_117, p_let, nI_1]
    by_cases q : V p ≤ w
    · simp only [if_pos q]
      obtain ⟨u', k1, k2, k3⟩ := ih (p + 1) n v3 b w (nI p) (by omega) (by omega) p3 (fun j hj => by rw [s1 115 (by decide)]; exact hb j hj)
      exact ⟨u', k1, same_tr s1 k2, k3⟩
    · simp only [if_neg q]
      obtain ⟨u', k1, k2, k3⟩ := ih (p + 1) n v3 (nI p) (V p) (nI p) (by omega) (by omega) p3 (fun j hj => by rw [s1 115 (by decide)]; exact hb j hj)
      exact ⟨u', k1, same_tr s1 k2, k3⟩
theorem k_best (x y z : Int32) : Call (fun u => f_X6_best u x y z) (fun u => f_X7_best u x y z) := by
  intro S B hS hB
  have hn := hS.now.n
  rcases rng x (show S.now.n < 2 ^ 31 by omega) with ⟨i, hi, rfl⟩ | hx
  · have hi6 : i < 6 := by omega
    have hCC : ∀ u, CI u S → f_X6_best u (nI i) y z = if y < 0 then some (u, -1000000001) else if 30 < y then some (u, -1000000001) else if z < 0 then some (u, -1000000001) else if z ≤ 1 then g_X6_best_43 1700 u (nI i) y z 0 (-1) 0 else some (u, -1000000001) := fun u hu => by
      unfold f_X6_best
      have e1 : am_in (1 : Int32) 4 = true := by decide
      have e2 : kA2 ((1 : Int32).toNatClampNeg) = 0 := by decide
      rw [bG1 (fC1 hu.now.n hn hi)]
      simp only [e1, e2, p_let, ↓reduceIte]
    rcases rng y (show 31 < 2 ^ 31 by decide) with ⟨K, hK, rfl⟩ | hy
    · have y1 : ¬ nI K < 0 := nI_pos (by omega)
      have y2 : ¬ (30 : Int32) < nI K := nI_nlt (show K ≤ 30 by omega) (by decide)
      rcases rng z (show 2 < 2 ^ 31 by decide) with ⟨w, hw, rfl⟩ | hz
      · have heo := eOK_of hS.now
        obtain ⟨V, hV⟩ : ∃ V : Nat → Int32, ∀ p, V p = sm (crI (runF (ePac (S.now.env S.T) (nI p)) K (S.now.fl i)).1.r) 24 := ⟨_, fun _ => rfl⟩
        refine Csc (L := [34, 35, 37, 38, 39, 44]) (M := [114, 115, 122, 123]) hS (if nI w = 0 then (beF V 10 0 0 (-1)).1 else (beF V 10 0 0 (-1)).2) (by simp) (by simp [scm]) (fun u hu => ?_) (fun u hu => ?_)
        · obtain ⟨v, a1, a2⟩ := p_X6_bestL (z := nI w) hS hB (show K ≤ 1000 by omega) hi hV 10 0 1700 u 0 (-1) rfl (by decide) hu
          refine ⟨v, ?_, a2⟩
          show f_X6_best u (nI i) (nI K) (nI w) = _
          rw [hCC u hu, if_neg y1, if_neg y2, ii (n := 1) hw (by decide) 1 rfl]
          exact a1
        · obtain ⟨v, a1, a2, a3⟩ := p_X7_thinks hi6 u
          have q : v 111 = u 111 := a2 111 (by decide)
          obtain ⟨v2, b1, b2, b3⟩ := p_X7_bestL (z := nI w) (R := u 111) hi6 heo (show B < 1000000 by omega) (show K ≤ 1000 by omega) (hS.now.r i hi) (ME_of hS.now hu.now) (hu.now.fl i hi) rfl hV 10 0 1700 v 0 (-1) (u 111 3) rfl (by decide) (by rw [q, upd_self]) a3
          refine ⟨v2, ?_, same_back (same_tr (same_mono a2 (by simp)) (same_mono b2 (by simp))) b3⟩
          show f_X7_best u (nI i) (nI K) (nI w) = _
          unfold f_X7_best
          rw [bG1 (fM1 hu.now.n hn hi), bG1 (in_in u 30 (n := 30) rfl (by decide) hK), bG1 (in_in u 1 (n := 1) rfl (by decide) hw)]
          dsimp only
          rw [p_let, a1, p_some]
          exact b1
      · refine Cro hS (-1000000001) (fun u hu => ?_) (fun u hu => ?_)
        · show f_X6_best u (nI i) (nI K) z = _
          rw [hCC u hu, if_neg y1, if_neg y2, oi (n := 1) hz (by decide) 1 rfl]
        · show f_X7_best u (nI i) (nI K) z = _
          unfold f_X7_best
          rw [bG1 (fM1 hu.now.n hn hi), bG1 (in_in u 30 (n := 30) rfl (by decide) hK), bG0 (out_in u 1 (n := 1) rfl (by decide) hz)]
    · refine Cro hS (-1000000001) (fun u hu => ?_) (fun u hu => ?_)
      · show f_X6_best u (nI i) y z = _
        rw [hCC u hu]
        by_cases h0 : y < 0
        · rw [if_pos h0]
        · rw [if_neg h0, if_pos (out_neg 30 (n := 30) rfl (by decide) hy h0).1]
      · show f_X7_best u (nI i) y z = _
        unfold f_X7_best
        rw [bG1 (fM1 hu.now.n hn hi), bG0 (out_in u 30 (n := 30) rfl (by decide) hy)]
  · refine Cro hS (-1000000001) (fun u hu => ?_) (fun u hu => ?_)
    · show f_X6_best u x y z = _
      unfold f_X6_best
      rw [bG0 (fC0 hu.now.n hx)]
    · show f_X7_best u x y z = _
      unfold f_X7_best
      rw [bG0 (fM0 hu.now.n hn hx)]
/-! seen -/
def dfN (ce r : Nat → Int32) (n0 : Nat) : Nat → Nat
  | 0 => 0
  | c + 1 => dfN ce r n0 c + (if c < n0 then (if ce c = -1000000005 then 0 else ((ce c).toInt - (r c).toInt).natAbs) else 0)
theorem dfN_end {ce r : Nat → Int32} {n0 : Nat} : ∀ d, dfN ce r n0 (n0 + d) = dfN ce r n0 n0 := by
  intro d
  induction d with
  | zero => rfl
  | succ d ih => rw [show n0 + (d + 1) = n0 + d + 1 by omega, dfN, if_neg (by omega), ih, Nat.add_zero]
theorem df1 {ce r : Nat → Int32} {B c : Nat} (hb : big (ce c)) (hr : rOK r B) (hB : B < 1000000) (hn : ¬ ce c = -1000000005) : -1100000 ≤ (ce c).toInt - (r c).toInt ∧ (ce c).toInt - (r c).toInt ≤ 100000 := by
  have q := rOK_le hr c
  rcases hb with h | h
  · exact absurd h hn
  · omega
theorem dfN_le {ce r : Nat → Int32} {n0 B : Nat} (hb : ∀ c, c < 24 → big (ce c)) (hr : rOK r B) (hB : B < 1000000) : ∀ c, c ≤ 24 → dfN ce r n0 c ≤ 1100000 * c := by
  intro c
  induction c with
  | zero => intro _; exact Nat.le_refl _
  | succ c ih =>
    intro hc
    have ih := ih (by omega)
    rw [dfN]
    split
    · split
      · omega
      · rename_i _ z
        have := df1 (hb c (by omega)) hr hB z
        omega
    · omega
theorem p_absN {x : Int32} (h1 : -2000000 ≤ x.toInt) (h2 : x.toInt ≤ 2000000) : (if 0 ≤ x then x else -x) = nI x.toInt.natAbs := by
  apply Int32.toInt_inj.mp
  rw [nI_toInt (by omega)]
  by_cases h : 0 ≤ x
  · rw [if_pos h]
    rw [p_ge0] at h
    omega
  · rw [if_neg h]
    rw [p_ge0] at h
    rw [Int32.toInt_neg, Int.bmod_eq_of_le (by omega) (by omega)]
    omega
theorem p_subX {a b : Int32} (ha : -2000000 ≤ a.toInt) (ha2 : a.toInt ≤ 2000000) (hb : -2000000 ≤ b.toInt) (hb2 : b.toInt ≤ 2000000) : (a - b).toInt = a.toInt - b.toInt := by
  rw [Int32.toInt_sub]
  exact Int.bmod_eq_of_le (by omega) (by omega)
theorem p_X2_dfL {s n0 B : Nat} (hs : s < 4) (hn0 : n0 ≤ 24) {ce r : Nat → Int32} (u : am_MU) (hn : u (77 + 2 * s) 1 = nI n0) (hce : ∀ c, c < 24 → u (77 + 2 * s + 1) c = ce c) (hb : ∀ c, c < 24 → big (ce c)) (hr : rOK r B) (hB : B < 1000000) (hrc : rc u 37 = r) : ∀ (m c n : Nat), c + m = 24 → m < n → g_X2_differences_4 n u (77 + 2 * s) 37 (nI (dfN ce r n0 c)) (nI c) = some (u, nI (dfN ce r n0 24)) := by
  have tb := tg77 s hs
  intro m
  induction m with
  | zero =>
    intro c n h1 h2
    obtain ⟨n, rfl⟩ : ∃ k, n = k + 1 := ⟨n - 1, by omega⟩
    obtain rfl : c = 24 := by omega
    rw [g_X2_differences_4]
    dsimp only
    rw [if_pos (show (24 : Int32) ≤ nI 24 by decide)]
  | succ m ih =>
    intro c n h1 h2
    obtain ⟨n, rfl⟩ : ∃ k, n = k + 1 := ⟨n - 1, by omega⟩
    have hc : c < 24 := by omega
    have ih := ih (c + 1) n (by omega) (by omega)
    rw [g_X2_differences_4]
    dsimp only
    rw [if_neg (p_ge24 hc), if_pos tb]
    rw [dfN] at ih
    by_cases hN : isN ce n0 c
    · rw [in1 u tb hn hn0 hc (hce c hc) hN, p_some]
      dsimp only
      have q := df1 (hb c hc) hr hB hN.2
      have q2 := rOK_le hr c
      have e := p_subX (a := ce c) (b := r c) (by omega) (by omega) (by omega) (by omega)
      rw [if_neg (show ¬ (1 : Int32) = 0 by decide), if_pos (p_inT (by omega) hc), if_pos (by decide), nI_clamp (by omega), hce c hc, show (37 : Nat) + 1 = 37 + 1 from rfl, p_rc u (a := 37) hc, hrc, p_abs, p_some]
      simp only [g_X2_differences_37, p_let, nI_1]
      rw [p_absN (by omega) (by omega), nI_add, e]
      rw [if_pos hN.1, if_neg hN.2] at ih
      exact ih
    · rw [in0 u tb hn hn0 hc (hce c hc) hN, p_some]
      dsimp only
      rw [if_pos rfl]
      simp only [g_X2_differences_37, p_let, nI_1]
      by_cases hcn : c < n0
      · rw [if_pos hcn, if_pos (Decidable.not_not.mp (fun q => hN ⟨hcn, q⟩)), Nat.add_zero] at ih
        exact ih
      · rw [if_neg hcn, Nat.add_zero] at ih
        exact ih
theorem lg_abs {x : Int64} (h1 : -2000000 ≤ x.toInt) (h2 : x.toInt ≤ 2000000) : (if 0 ≤ lg_cmp x 0 then x else -x) = lN x.toInt.natAbs := by
  have e0 : (0 : Int64).toInt = 0 := by decide
  apply Int64.toInt_inj.mp
  rw [lN_toInt (by omega)]
  by_cases h : 0 ≤ lg_cmp x 0
  · rw [if_pos h]
    rw [lg_cmp_ge, Int64.le_iff_toInt_le, e0] at h
    omega
  · rw [if_neg h]
    rw [lg_cmp_ge, Int64.le_iff_toInt_le, e0] at h
    rw [Int64.toInt_neg, Int.bmod_eq_of_le (by omega) (by omega)]
    omega
theorem p_X7_offL {s f n0 B : Nat} (hs : s < 4) (hf : f < 6) (hn0 : n0 ≤ 24) {ce r : Nat → Int32} (u : am_MU) (hn : u 125 s = nI n0) (hce : ∀ c, c < 24 → u 126 (24 * s + c) = ce c) (hb : ∀ c, c < 24 → big (ce c)) (hr : rOK r B) (hB : B < 1000000) (hrm : rmR (u 111) f = r) : ∀ (m c n : Nat), c + m = n0 → m < n → g_X7_offBy_5 n u (nI s) (nI f) (lN (dfN ce r n0 c)) (nI c) = some (u, lN (dfN ce r n0 n0)) := by
  intro m
  induction m with
  | zero =>
    intro c n h1 h2
    obtain ⟨n, rfl⟩ : ∃ k, n = k + 1 := ⟨n - 1, by omega⟩
    obtain rfl : c = n0 := by omega
    rw [g_X7_offBy_5]
    dsimp only
    rw [if_pos (p_inT (by omega) hs), nI_clamp (by omega), hn, if_pos (nI_le (Nat.le_refl _) (by omega))]
  | succ m ih =>
    intro c n h1 h2
    obtain ⟨n, rfl⟩ : ∃ k, n = k + 1 := ⟨n - 1, by omega⟩
    have hc : c < 24 := by omega
    have ih := ih (c + 1) n (by omega) (by omega)
    rw [dfN, if_pos (show c < n0 by omega)] at ih
    rw [g_X7_offBy_5]
    dsimp only
    rw [if_pos (p_inT (by omega) hs), nI_clamp (by omega), hn, if_neg (nI_ge (show c < n0 by omega) (by omega)), e24, if_pos (p_inT (by omega) (by omega)), nI_clamp (by omega), p_sand0 u hf hc, p_some, p_let]
    dsimp only
    simp only [hce c hc, rm_eq, hrm]
    by_cases hN : ce c = -1000000005
    · rw [if_pos hN] at ih ⊢
      simp only [g_X7_offBy_77, p_let, nI_1]
      rw [Nat.add_zero] at ih
      rw [Int64.add_zero]
      exact ih
    · rw [if_neg hN] at ih ⊢
      have q := df1 (hb c hc) hr hB hN
      have e := lg_i2l_sub (ce c) (r c)
      have k := lg_abs (x := (ce c).toInt64 - (r c).toInt64) (by omega) (by omega)
      rw [← lN_add, ← e, ← k] at ih
      by_cases z : 0 ≤ lg_cmp ((ce c).toInt64 - (r c).toInt64) 0
      · rw [if_pos z] at ih ⊢
        simp only [g_X7_offBy_77, p_let, nI_1]
        exact ih
      · rw [if_neg z] at ih ⊢
        simp only [g_X7_offBy_77, p_let, nI_1]
        exact ih
/-- the nearest, the first of them -/
def seB (V : Nat → Nat) : Nat → Nat → Nat → Nat
  | 0, _, b => b
  | m + 1, p, b => seB V m (p + 1) (if V p < V b then p else b)
theorem p_X6_seenL {S : AS} {B i s K : Nat} {V : Nat → Nat} (hS : OK S B) (hB : B < 900000) (hK : K ≤ 1000) (hs : s < 4) (hi : i < S.now.n) (hV : ∀ p, V p = dfN (S.sh s).ce (runF (eFar (S.now.env S.T) (nI p)) K (S.now.fl i)).1.r (S.sh s).ln 24) (hV2 : ∀ p, V p < 100000000) : ∀ (m p n : Nat) (u : am_MU) (b : Nat) (l : Int32), p + m = 12 → m < n → (p = 0 ∧ l = 2147483647 ∧ b = 0 ∨ l = nI (V b)) → CI u S → ∃ u', g_X6_seen_62 n u (nI i) (nI K) (77 + 2 * s) (nI b) l (nI p) = some (u', nI (seB V m p b)) ∧ same [34, 35, 37, 38, 39, 44] u u' := by
  obtain ⟨k1, k2, k3⟩ := hS.sh s hs
  intro m
  induction m with
  | zero =>
    intro p n u b l h1 h2 hl hu
    obtain ⟨n, rfl⟩ : ∃ k, n = k + 1 := ⟨n - 1, by omega⟩
    obtain rfl : p = 12 := by omega
    rw [g_X6_seen_62]
    dsimp only
    rw [if_pos (by decide), if_pos (by decide)]
    exact ⟨u, rfl, same_rf⟩
  | succ m ih =>
    intro p n u b l h1 h2 hl hu
    obtain ⟨n, rfl⟩ : ∃ k, n = k + 1 := ⟨n - 1, by omega⟩
    obtain ⟨v, g1, g2, g3⟩ := p_X6_tb0 (v := nI p) hS (by omega) hK hu hi (eFar_OK (eOK_of hS.now) (show p < 12 by omega))
    have hv : CI v S := CI_same hS g2 (by simp [scr]) hu
    have hr := runF_OK (e := eFar (S.now.env S.T) (nI p)) (show B < 1000000 by omega) K (S.now.fl i) (hS.now.r i hi)
    have d := p_X2_dfL hs k1 v (hv.ln s hs) (ceC hv hs) k3 hr (by omega) g3.2.2 24 0 1700 rfl (by decide)
    have d : f_X2_differences v (77 + 2 * s) 37 = some (v, nI (V p)) := by rw [hV p]; exact d
    rw [g_X6_seen_62]
    dsimp only
    rw [if_pos (by decide), if_neg (show ¬ (kA3 (0 : Int32).toNatClampNeg) < nI p from nI_nlt (b := p) (a := 11) (by omega) (by decide)), g1, p_some]
    dsimp only
    rw [if_pos (tg77 s hs), d, p_some, seB]
    simp only [g_X6_seen_103, p_let, nI_1]
    have hv1 := hV2 p
    have hv2 := hV2 b
    rcases hl with ⟨q1, q2, q3⟩ | q
    · subst q2 q3 q1
      rw [if_neg (show ¬ (2147483647 : Int32) ≤ nI (V 0) from nI_ge (show V 0 < 2147483647 by omega) (by decide)), if_neg (Nat.lt_irrefl _)]
      obtain ⟨u', e1, e2⟩ := ih (0 + 1) n v 0 (nI (V 0)) (by omega) (by omega) (Or.inr rfl) hv
      exact ⟨u', e1, same_tr g2 e2⟩
    · subst q
      by_cases z : V p < V b
      · rw [if_neg (nI_ge z (by omega)), if_pos z]
        obtain ⟨u', e1, e2⟩ := ih (p + 1) n v p (nI (V p)) (by omega) (by omega) (Or.inr rfl) hv
        exact ⟨u', e1, same_tr g2 e2⟩
      · rw [if_pos (nI_le (by omega) (by omega)), if_neg z]
        obtain ⟨u', e1, e2⟩ := ih (p + 1) n v b (nI (V b)) (by omega) (by omega) (Or.inr rfl) hv
        exact ⟨u', e1, same_tr g2 e2⟩
theorem p_X7_seenL {f s B K n0 : Nat} {e : SE} {fs : FS} {R ce : Nat → Int32} {V : Nat → Nat} {was : Int32} (hf : f < 6) (hs : s < 4) (hn0 : n0 ≤ 24) (he : eOK e) (hB : B < 1000000) (hK : K ≤ 1000) (hr : rOK fs.r B) (hE : ME R e) (hF : MF R f fs) (hwas : R 2 = was) (hb3 : ∀ c, c < 24 → big (ce c)) (hV : ∀ p, V p = dfN ce (runF (eFar e (nI p)) K fs).1.r n0 n0) (hV2 : ∀ p, V p < 100000000) : ∀ (m p n : Nat) (u : am_MU) (b : Nat) (bi x : Int32) (l : Int64), p + m = 12 → m < n → (p = 0 ∧ bi = -1 ∧ b = 0 ∨ b < p ∧ bi = nI b ∧ l = lN (V b)) → u 111 = upd R 2 x → u 125 s = nI n0 → (∀ c, c < 24 → u 126 (24 * s + c) = ce c) → (∀ j, j < 26 → u 115 j = R (7 + 26 * f + j)) → 0 < p + m → (m = 0 → bi = nI b) → ∃ u', g_X7_seen_62 n u (nI s) (nI f) (nI K) was bi l (nI p) = some (u', nI (seB V m p b)) ∧ same [111, 114, 122, 123] u u' ∧ u' 111 = R := by
  intro m
  induction m with
  | zero =>
    intro p n u b bi x l h1 h2 hl hu hn hce hb _ hbi
    obtain ⟨n, rfl⟩ : ∃ k, n = k + 1 := ⟨n - 1, by omega⟩
    obtain rfl : p = 12 := by omega
    rw [g_X7_seen_62]
    dsimp only
    rw [if_pos (by decide), p_let, hbi rfl]
    refine ⟨am_u2 u 111 2 was, rfl, same_u2 _ _ _ _ (by simp), ?_⟩
    rw [u2_row, hu, upd_upd, ← hwas, upd_self]
  | succ m ih =>
    intro p n u b bi x l h1 h2 hl hu hn hce hb _ _
    obtain ⟨n, rfl⟩ : ∃ k, n = k + 1 := ⟨n - 1, by omega⟩
    have hp : p < 12 := by omega
    obtain ⟨v1, hv1⟩ : ∃ v1, v1 = am_u2 u 111 2 (nI p) := ⟨_, rfl⟩
    have e1 : v1 111 = upd R 2 (nI p) := by rw [hv1, u2_row, hu, upd_upd]
    have hr2 := runF_OK (e := eFar e (nI p)) hB K fs hr
    obtain ⟨v2, g1, g2, g3, g4⟩ := p_X7_ticks (u := v1) hf (eFar_OK he hp) hB hK hr (by rw [e1]; exact ME_far hE _) (by rw [e1]; exact MF_at2 (by decide) hF _)
    have s0 : same [111, 114, 122, 123] u v2 := by
      have : same [111, 114, 122, 123] u v1 := by rw [hv1]; exact same_u2 _ _ _ _ (by simp)
      exact same_tr this g2
    have d := p_X7_offL hs hf hn0 v2 (by rw [s0 125 (by decide)]; exact hn) (fun c hc => by rw [s0 126 (by decide)]; exact hce c hc) hb3 hr2 hB g4.2.2 n0 0 1700 (by omega) (by omega)
    have d : f_X7_offBy v2 (nI s) (nI f) = some (v2, lN (V p)) := by rw [hV p]; exact d
    obtain ⟨v3, p1, p2, p3⟩ := p_X7_puts (u := v2) (R := upd R 2 (nI p)) hf (fun j hj => by rw [s0 115 (by decide), hb j hj, upd_ne (by omega)]) (fun j hj => by rw [g3 j (by omega), e1])
    have s1 : same [111, 114, 122, 123] u v3 := same_tr s0 (same_mono p2 (by simp))
    have hv1 := hV2 p
    have hv2 := hV2 b
    have nxt : ∀ (b' : Nat), b' ≤ p → ∃ u', g_X7_seen_62 n v3 (nI s) (nI f) (nI K) was (nI b') (lN (V b')) (nI (p + 1)) = some (u', nI (seB V m (p + 1) b')) ∧ same [111, 114, 122, 123] u u' ∧ u' 111 = R := by
      intro b' hb'
      obtain ⟨u', k1, k2, k3⟩ := ih (p + 1) n v3 b' (nI b') (nI p) (lN (V b')) (by omega) (by omega) (Or.inr ⟨by omega, rfl, rfl⟩) p3 (by rw [s1 125 (by decide)]; exact hn) (fun c hc => by rw [s1 126 (by decide)]; exact hce c hc) (fun j hj => by rw [s1 115 (by decide)]; exact hb j hj) (by omega) (fun _ => rfl)
      exact ⟨u', k1, same_tr s1 k2, k3⟩
    rw [g_X7_seen_62]
    dsimp only
    rw [if_neg (show ¬ (12 : Int32) ≤ nI p from nI_ge hp (by decide)), p_let, ← ‹v1 = am_u2 u 111 2 (nI p)›, g1, p_some]
    dsimp only
    rw [d, p_some]
    dsimp only
    rw [p1, p_some, seB]
    simp only [g_X7_seen_111, g_X7_seen_118, g_X7_seen_134, p_let, nI_1, ↓reduceIte]
    rcases hl with ⟨q1, q2, q3⟩ | ⟨q1, q2, q3⟩
    · subst q2 q3 q1
      rw [if_pos (by decide), if_neg (Nat.lt_irrefl _)]
      exact nxt 0 (Nat.le_refl _)
    · subst q2 q3
      rw [if_neg (nI_pos (by omega))]
      have hne : ¬ nI b = nI p := nIne (by omega) (by omega) (by omega)
      by_cases z : V p < V b
      · rw [if_neg (fun q => by rw [lg_cmp_ge, lN_le (by omega) (by omega)] at q; omega), if_pos z]
        exact nxt p (Nat.le_refl _)
      · rw [if_pos (by rw [lg_cmp_ge, lN_le (by omega) (by omega)]; omega), if_neg z, if_neg hne]
        exact nxt b (by omega)
theorem k_seen (x y z : Int32) : Call (fun u => f_X6_seen u x y z) (fun u => f_X7_seen u x y z) := by
  intro S B hS hB
  have hn := hS.now.n
  rcases rng x (show 4 < 2 ^ 31 by decide) with ⟨s, hs, rfl⟩ | hx
  · obtain ⟨k1, k2, k3⟩ := hS.sh s hs
    rcases rng y (show S.now.n < 2 ^ 31 by omega) with ⟨i, hi, rfl⟩ | hy
    · have hi6 : i < 6 := by omega
      rcases rng z (show 31 < 2 ^ 31 by decide) with ⟨K, hK, rfl⟩ | hz
      · rcases so_m1 k2 with ⟨n1, n2, n3⟩ | ⟨n1, n2, n3, n4⟩
        · refine Cro hS (-1000000011) (fun u hu => ?_) (fun u hu => ?_)
          · show f_X6_seen u (nI s) (nI i) (nI K) = _
            unfold f_X6_seen
            rw [bG1 (sC1 u hs), bG1 (fC1 hu.now.n hn hi), ii (n := 30) hK (by decide) 30 rfl]
            dsimp only
            rw [if_pos (p_inT (by omega) hs), nI_clamp (by omega), if_pos (tg77 s hs), if_pos (show u (77 + 2 * s) 0 = -1 by rw [hu.so s hs]; exact n1)]
          · show f_X7_seen u (nI s) (nI i) (nI K) = _
            unfold f_X7_seen
            rw [bG1 (sM1 u hs), bG1 (fM1 hu.now.n hn hi), bG1 (in_in u 30 (n := 30) rfl (by decide) hK)]
            dsimp only
            rw [if_pos (p_inT (by omega) hs), nI_clamp (by omega), if_neg (show ¬ 0 ≤ u 124 s by rw [hu.so s hs]; exact n2)]
        · have heo := eOK_of hS.now
          obtain ⟨V, hV⟩ : ∃ V : Nat → Nat, ∀ p, V p = dfN (S.sh s).ce (runF (eFar (S.now.env S.T) (nI p)) K (S.now.fl i)).1.r (S.sh s).ln 24 := ⟨_, fun _ => rfl⟩
          have hV2 : ∀ p, V p < 100000000 := fun p => by
            rw [hV p]
            have := dfN_le (n0 := (S.sh s).ln) k3 (runF_OK (e := eFar (S.now.env S.T) (nI p)) (show B < 1000000 by omega) K (S.now.fl i) (hS.now.r i hi)) (by omega) 24 (Nat.le_refl _)
            omega
          have hVM : ∀ p, V p = dfN (S.sh s).ce (runF (eFar (S.now.env S.T) (nI p)) K (S.now.fl i)).1.r (S.sh s).ln (S.sh s).ln := fun p => by
            rw [hV p, show 24 = (S.sh s).ln + (24 - (S.sh s).ln) by omega, dfN_end]
          refine Csc (L := [34, 35, 37, 38, 39, 44]) (M := [114, 115, 122, 123]) hS (nI (seB V 12 0 0)) (by simp) (by simp [scm]) (fun u hu => ?_) (fun u hu => ?_)
          · obtain ⟨v, a1, a2⟩ := p_X6_seenL hS hB (show K ≤ 1000 by omega) hs hi hV hV2 12 0 1700 u 0 2147483647 rfl (by decide) (Or.inl ⟨rfl, rfl, rfl⟩) hu
            refine ⟨v, ?_, a2⟩
            show f_X6_seen u (nI s) (nI i) (nI K) = _
            unfold f_X6_seen
            rw [bG1 (sC1 u hs), bG1 (fC1 hu.now.n hn hi), ii (n := 30) hK (by decide) 30 rfl]
            dsimp only
            rw [if_pos (p_inT (by omega) hs), nI_clamp (by omega), if_pos (tg77 s hs), if_neg (show ¬ u (77 + 2 * s) 0 = -1 by rw [hu.so s hs]; exact n1), if_pos (by decide)]
            exact a1
          · obtain ⟨v, a1, a2, a3⟩ := p_X7_thinks hi6 u
            have q : v 111 = u 111 := a2 111 (by decide)
            obtain ⟨v2, b1, b2, b3⟩ := p_X7_seenL (R := u 111) (was := u 111 2) hi6 hs k1 heo (show B < 1000000 by omega) (show K ≤ 1000 by omega) (hS.now.r i hi) (ME_of hS.now hu.now) (hu.now.fl i hi) rfl k3 hVM hV2 12 0 1700 v 0 (-1) (u 111 2) 0 rfl (by decide) (Or.inl ⟨rfl, rfl, rfl⟩) (by rw [q, upd_self]) (by rw [a2 125 (by decide)]; exact hu.ln s hs) (fun c hc => by rw [a2 126 (by decide)]; exact hu.ce s hs c hc) a3 (by decide) (fun h => absurd h (by decide))
            refine ⟨v2, ?_, same_back (same_tr (same_mono a2 (by simp)) (same_mono b2 (by simp))) b3⟩
            show f_X7_seen u (nI s) (nI i) (nI K) = _
            unfold f_X7_seen
            rw [bG1 (sM1 u hs), bG1 (fM1 hu.now.n hn hi), bG1 (in_in u 30 (n := 30) rfl (by decide) hK)]
            dsimp only
            rw [if_pos (p_inT (by omega) hs), nI_clamp (by omega), if_pos (show 0 ≤ u 124 s by rw [hu.so s hs]; exact n2), p_let, p_let, a1, p_some]
            exact b1
      · refine Cro hS (-1000000001) (fun u hu => ?_) (fun u hu => ?_)
        · show f_X6_seen u (nI s) (nI i) z = _
          unfold f_X6_seen
          rw [bG1 (sC1 u hs), bG1 (fC1 hu.now.n hn hi), oi (n := 30) hz (by decide) 30 rfl]
        · show f_X7_seen u (nI s) (nI i) z = _
          unfold f_X7_seen
          rw [bG1 (sM1 u hs), bG1 (fM1 hu.now.n hn hi), bG0 (out_in u 30 (n := 30) rfl (by decide) hz)]
    · refine Cro hS (-1000000001) (fun u hu => ?_) (fun u hu => ?_)
      · show f_X6_seen u (nI s) y z = _
        unfold f_X6_seen
        rw [bG1 (sC1 u hs), bG0 (fC0 hu.now.n hy)]
      · show f_X7_seen u (nI s) y z = _
        unfold f_X7_seen
        rw [bG1 (sM1 u hs), bG0 (fM0 hu.now.n hn hy)]
  · refine Cro hS (-1000000001) (fun u hu => ?_) (fun u hu => ?_)
    · show f_X6_seen u x y z = _
      unfold f_X6_seen
      rw [bG0 (sC0 u hx)]
    · show f_X7_seen u x y z = _
      unfold f_X7_seen
      rw [bG0 (sM0 u hx)]
