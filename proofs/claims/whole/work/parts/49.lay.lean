/-! lay -/
theorem layC {u : am_MU} {k : Nat} (hk : k < 5) (w z : Int32) : g_X6_lay_68 u (nI k) w z = (if w = (1 : Int32) then (if am_in z 6 then ((f_X0_become (am_u2 u (85 + 5 * k) 0 w) ((85 + 5 * k) + 1) (5 + 2 * z.toNatClampNeg)).bind fun q12 => some (q12, u (85 + 5 * k) 0)) else none) else (if w = (2 : Int32) then (if am_in z 4 then ((f_X2_become (am_u2 u (85 + 5 * k) 0 w) ((85 + 5 * k) + 3) (77 + 2 * z.toNatClampNeg)).bind fun q10 => some (q10, u (85 + 5 * k) 0)) else none) else (if w = (3 : Int32) then some (am_u2 (am_u2 u (85 + 5 * k) 0 w) (85 + 5 * k) 3 z, u (85 + 5 * k) 0) else some (am_u2 u (85 + 5 * k) 0 w, u (85 + 5 * k) 0)))) := by
  unfold g_X6_lay_68
  rw [if_pos (p_inT (by omega) hk), nI_clamp (by omega), if_pos (tg85 k hk), p_let, p_let]
  rfl
theorem layM133 {k j : Nat} (hk : k < 5) (hj : j < 4) {x4 : Int32} {g : Nat → Int32} : ∀ (m c n : Nat) (u : am_MU), c + m = 24 → m < n → (∀ c, c < 24 → u 126 (24 * j + c) = g c) → (∀ i, i < c → u 130 (24 * k + i) = g i) → ∃ u', g_X7_lay_133 n u (nI k) 2 (nI j) x4 (nI c) = some (u', x4) ∧ same [130] u u' ∧ (∀ i, (i < 24 * k ∨ 24 * k + 24 ≤ i) → u' 130 i = u 130 i) ∧ (∀ i, i < 24 → u' 130 (24 * k + i) = g i) := by
  intro m
  induction m with
  | zero =>
    intro c n u h1 h2 hg hL
    obtain ⟨n, rfl⟩ : ∃ k, n = k + 1 := ⟨n - 1, by omega⟩
    obtain rfl : c = 24 := by omega
    rw [g_X7_lay_133]
    dsimp only
    rw [if_pos (show (24 : Int32) ≤ nI 24 by decide)]
    exact ⟨u, rfl, same_rf, fun _ _ => rfl, hL⟩
  | succ m ih =>
    intro c n u h1 h2 hg hL
    obtain ⟨n, rfl⟩ : ∃ k, n = k + 1 := ⟨n - 1, by omega⟩
    have hc : c < 24 := by omega
    rw [g_X7_lay_133]
    dsimp only
    rw [if_neg (p_ge24 hc), if_pos rfl, e24, e24, if_pos (p_inT (by omega) (by omega)), if_pos (p_inT (by omega) (by omega)), nI_clamp (by omega), nI_clamp (by omega), p_let, p_let, nI_1, hg c hc]
    obtain ⟨u', g1, g2, g3, g4⟩ := ih (c + 1) n (am_u2 u 130 (24 * k + c) (g c)) (by omega) (by omega) (fun c hc => by rw [u2_ne _ _ (by decide)]; exact hg c hc) (fun i hi => by
      by_cases e : i = c
      · subst e; exact u2_same _ _ _ _
      · rw [u2_nei _ _ (Or.inr (by omega))]; exact hL i (by omega))
    exact ⟨u', g1, same_tr (same_u2 _ _ _ _ (by simp)) g2, fun i hi => by rw [g3 i hi, u2_nei _ _ (Or.inr (by omega))], g4⟩
/-- the three fields of a slot of the reference's -/
def l3v (u : am_MU) (k : Nat) (a b c : Int32) : am_MU := am_u2 (am_u2 (am_u2 u 127 k a) 128 k b) 129 k c
theorem l3v_s (u : am_MU) (k : Nat) (a b c : Int32) : same [127, 128, 129, 130] u (l3v u k a b c) := same_tr (same_tr (same_u2 _ _ _ _ (by simp)) (same_u2 _ _ _ _ (by simp))) (same_u2 _ _ _ _ (by simp))
theorem l3v_7 (u : am_MU) (k : Nat) (a b c : Int32) : l3v u k a b c 127 = upd (u 127) k a := by unfold l3v; rw [u2_ne _ _ (by decide), u2_ne _ _ (by decide), u2_row]
theorem l3v_8 (u : am_MU) (k : Nat) (a b c : Int32) : l3v u k a b c 128 = upd (u 128) k b := by unfold l3v; rw [u2_ne _ _ (by decide), u2_row, u2_ne _ _ (by decide)]
theorem l3v_9 (u : am_MU) (k : Nat) (a b c : Int32) : l3v u k a b c 129 = upd (u 129) k c := by unfold l3v; rw [u2_row, u2_ne _ _ (by decide), u2_ne _ _ (by decide)]
theorem l3v_o (u : am_MU) (k : Nat) (a b c : Int32) {d : Nat} (hd : d ≠ 127 ∧ d ≠ 128 ∧ d ≠ 129) : l3v u k a b c d = u d := by unfold l3v; rw [u2_ne _ _ hd.2.2, u2_ne _ _ hd.2.1, u2_ne _ _ hd.1]
theorem l3v_j (u : am_MU) (k : Nat) (a b c : Int32) : ∀ j, j ≠ k → l3v u k a b c 127 j = u 127 j ∧ l3v u k a b c 128 j = u 128 j ∧ l3v u k a b c 129 j = u 129 j := fun j hj => ⟨by rw [l3v_7, upd_ne hj], by rw [l3v_8, upd_ne hj], by rw [l3v_9, upd_ne hj]⟩
theorem layM109 {u : am_MU} {k : Nat} (hk : k < 5) {w z x4 b c : Int32} (hw : ¬ w = 1) (hc : c = 0) : g_X7_lay_109 (am_u2 u 127 k w) (nI k) w z x4 (nI k) b = g_X7_lay_133 1700 (l3v u k w b c) (nI k) w z x4 0 := by
  unfold g_X7_lay_109
  rw [if_pos (p_inT (by omega) hk), nI_clamp (by omega), p_let, if_neg hw]
  unfold g_X7_lay_129
  rw [if_pos (p_inT (by omega) hk), nI_clamp (by omega), p_let, hc]
  rfl
theorem lay133n {u : am_MU} {k w z x4 : Int32} (hw : ¬ w = 2) : g_X7_lay_133 1700 u k w z x4 0 = some (u, x4) := by
  rw [show (1700 : Nat) = 1699 + 1 from rfl, g_X7_lay_133]
  dsimp only
  rw [if_neg (by decide), if_neg hw]
theorem k_lay (x y z : Int32) : Call (fun u => f_X6_lay u x y z) (fun u => f_X7_lay u x y z) := by
  intro S B hS hB
  have hn := hS.now.n
  rcases rng x (show 5 < 2 ^ 31 by decide) with ⟨k, hk, rfl⟩ | hx
  · obtain ⟨k1, k2, k3⟩ := hS.sl k hk
    have ck : (nI k).toNatClampNeg = k := nI_clamp (by omega)
    rcases rng y (show 4 < 2 ^ 31 by decide) with ⟨w, hw, rfl⟩ | hy
    · have hC : ∀ u, f_X6_lay u (nI k) (nI w) z = if nI w = (1 : Int32) then ((f_X6_isFloor u z).bind fun q6 => if q6.2 = 0 then (some (q6.1, ((-1000000001) : Int32))) else (g_X6_lay_32 q6.1 (nI k) (nI w) z)) else (g_X6_lay_32 u (nI k) (nI w) z) := fun u => by
        unfold f_X6_lay
        rw [bG1 (lC1 u hk), ii (n := 3) hw (by decide) 3 rfl]
      have hM : ∀ u, f_X7_lay u (nI k) (nI w) z = if nI w = (1 : Int32) then ((f_X7_isFloor u z).bind fun q6 => if q6.2 = 0 then (some (q6.1, ((-1000000001) : Int32))) else (g_X7_lay_29 q6.1 (nI k) (nI w) z)) else (g_X7_lay_29 u (nI k) (nI w) z) := fun u => by
        unfold f_X7_lay
        rw [bG1 (lM1 u hk), bG1 (in_in u 3 (n := 3) rfl (by decide) hw)]
      have thC : ∀ u, CI u S → u (85 + 5 * k) 0 = nI (S.sl k).th := fun u hu => (hu.sl k hk).th
      have thM : ∀ u, MI u S → u 127 k = nI (S.sl k).th := fun u hu => (hu.sl k hk).th
      rcases (show w = 0 ∨ w = 1 ∨ w = 2 ∨ w = 3 by omega) with rfl | rfl | rfl | rfl
      · refine Csl hS hk (0, (S.sl k).fs, (S.sl k).ln, (S.sl k).ce, (S.sl k).nu) (nI (S.sl k).th) ⟨show 0 < 4 by decide, k2, fun e => absurd e (show ¬ 0 = 1 by decide)⟩ (fun u hu => ?_) (fun u hu => ?_)
        · refine ⟨am_u2 u (85 + 5 * k) 0 0, ?_, fun a ha => u2_ne _ _ (by omega), u2_same _ _ _ _, fun e => absurd e (show ¬ 0 = 1 by decide), fun e => absurd e (show ¬ 0 = 2 by decide), fun e => absurd e (show ¬ 0 = 2 by decide), fun e => absurd e (show ¬ 0 = 3 by decide)⟩
          show f_X6_lay u (nI k) (nI 0) z = _
          rw [hC, if_neg (by decide)]
          unfold g_X6_lay_32
          rw [if_neg (by decide)]
          unfold g_X6_lay_47
          rw [if_neg (by decide), layC hk, if_neg (by decide), if_neg (by decide), if_neg (by decide), thC u hu]
          rfl
        · refine ⟨l3v u k (nI 0) z 0, ?_, l3v_s _ _ _ _ _, l3v_j _ _ _ _ _, fun j _ => by rw [l3v_o _ _ _ _ _ (by decide)], by rw [l3v_7, upd_sm], fun e => absurd e (show ¬ 0 = 1 by decide), fun e => absurd e (show ¬ 0 = 2 by decide), fun e => absurd e (show ¬ 0 = 2 by decide), fun e => absurd e (show ¬ 0 = 3 by decide)⟩
          show f_X7_lay u (nI k) (nI 0) z = _
          rw [hM, if_neg (by decide)]
          unfold g_X7_lay_29
          rw [if_neg (by decide)]
          unfold g_X7_lay_44
          rw [if_neg (by decide)]
          unfold g_X7_lay_61
          rw [if_pos (p_inT (by omega) hk), ck, p_let, p_let, if_neg (by decide), if_neg (by decide), thM u hu, layM109 hk (by decide) rfl, lay133n (by decide)]
      · rcases rng z (show S.now.n < 2 ^ 31 by omega) with ⟨i, hi, rfl⟩ | hz
        · have hi6 : i < 6 := by omega
          refine Csl hS hk (1, S.now.fl i, (S.sl k).ln, (S.sl k).ce, (S.sl k).nu) (nI (S.sl k).th) ⟨show 1 < 4 by decide, k2, fun _ => hS.now.k i hi⟩ (fun u hu => ?_) (fun u hu => ?_)
          · have hF : CF (am_u2 u (85 + 5 * k) 0 (nI 1)) (5 + 2 * i) (S.now.fl i) := CF_congr (u2_ne _ _ (by omega)) (u2_ne _ _ (by omega)) (fl1 hu hi)
            obtain ⟨v, b1, b2, b3⟩ := p_X0_become (tg86 k hk) (tg5 i hi6) (il86 k hk) (il5 i hi6) ⟨by omega, by omega⟩ hF
            refine ⟨v, ?_, fun a ha => by rw [b2 a (by simp; omega), u2_ne _ _ (by omega)], by rw [b2 _ (by simp; omega), u2_same], fun _ => b3, fun e => absurd e (show ¬ 1 = 2 by decide), fun e => absurd e (show ¬ 1 = 2 by decide), fun e => absurd e (show ¬ 1 = 3 by decide)⟩
            show f_X6_lay u (nI k) (nI 1) (nI i) = _
            rw [hC, if_pos (by decide), bG1 (fC1 hu.now.n hn hi)]
            unfold g_X6_lay_32
            rw [if_neg (by decide)]
            unfold g_X6_lay_47
            rw [if_neg (by decide), layC hk, if_pos (by decide), if_pos (p_inT (by omega) hi6), nI_clamp (by omega), b1, p_some]
            dsimp only
            rw [thC u hu]
          · have hF := hu.now.fl i hi
            have hr := hS.now.r i hi
            have e9 : ∀ v : am_MU, v 111 = u 111 → rm v 111 i = (S.now.fl i).r := fun v hv => by rw [rm_at hv, rm_eq]; exact hF.2.2
            refine ⟨l3v u k (nI 1) (S.now.fl i).k (woI (S.now.fl i).k (S.now.fl i).r), ?_, l3v_s _ _ _ _ _, l3v_j _ _ _ _ _, fun j _ => by rw [l3v_o _ _ _ _ _ (by decide)], by rw [l3v_7, upd_sm], fun _ => ⟨by rw [l3v_8, upd_sm], by rw [l3v_9, upd_sm]⟩, fun e => absurd e (show ¬ 1 = 2 by decide), fun e => absurd e (show ¬ 1 = 2 by decide), fun e => absurd e (show ¬ 1 = 3 by decide)⟩
            show f_X7_lay u (nI k) (nI 1) (nI i) = _
            rw [hM, if_pos (by decide), bG1 (fM1 hu.now.n hn hi)]
            unfold g_X7_lay_29
            rw [if_neg (by decide)]
            unfold g_X7_lay_44
            rw [if_neg (by decide)]
            unfold g_X7_lay_61
            rw [if_pos (p_inT (by omega) hk), ck, p_let, p_let, if_pos (by decide), p_X7_kindOf _ hi6, p_some]
            dsimp only
            rw [u2_ne _ _ (show 111 ≠ 127 by decide), hF.1, thM u hu]
            unfold g_X7_lay_109
            rw [if_pos (p_inT (by omega) hk), ck, p_let, if_pos (by decide)]
            have q1 : am_u2 (am_u2 u 127 k (nI 1)) 128 k (S.now.fl i).k 111 = u 111 := by rw [u2_ne _ _ (by decide), u2_ne _ _ (by decide)]
            rw [p_X7_worthOf _ hi6 (by rw [e9 _ q1]; exact rOK_20 hr (by omega)), p_some, e9 _ q1, q1, hF.1]
            dsimp only
            unfold g_X7_lay_129
            rw [if_pos (p_inT (by omega) hk), ck, p_let, lay133n (by decide)]
            rfl
        · refine Cro hS (-1000000001) (fun u hu => ?_) (fun u hu => ?_)
          · show f_X6_lay u (nI k) (nI 1) z = _
            rw [hC, if_pos (by decide), bG0 (fC0 hu.now.n hz)]
          · show f_X7_lay u (nI k) (nI 1) z = _
            rw [hM, if_pos (by decide), bG0 (fM0 hu.now.n hn hz)]
      · have hC2 : ∀ u, f_X6_lay u (nI k) (nI 2) z = ((f_X6_isSheet u z).bind fun q2 => if q2.2 = 0 then (some (q2.1, ((-1000000001) : Int32))) else (g_X6_lay_47 q2.1 (nI k) (nI 2) z)) := fun u => by
          rw [hC, if_neg (by decide)]
          unfold g_X6_lay_32
          rw [if_pos (by decide)]
        have hM2 : ∀ u, f_X7_lay u (nI k) (nI 2) z = ((f_X7_isSheet u z).bind fun q2 => if q2.2 = 0 then (some (q2.1, ((-1000000001) : Int32))) else (g_X7_lay_44 q2.1 (nI k) (nI 2) z)) := fun u => by
          rw [hM, if_neg (by decide)]
          unfold g_X7_lay_29
          rw [if_pos (by decide)]
        rcases rng z (show 4 < 2 ^ 31 by decide) with ⟨s, hs, rfl⟩ | hz
        · obtain ⟨j1, j2, j3⟩ := hS.sh s hs
          have cs : (nI s).toNatClampNeg = s := nI_clamp (by omega)
          rcases so_m1 j2 with ⟨n1, n2, n3⟩ | ⟨n1, n2, n3, n4⟩
          · refine Cro hS (-1000000011) (fun u hu => ?_) (fun u hu => ?_)
            · show f_X6_lay u (nI k) (nI 2) (nI s) = _
              rw [hC2, bG1 (sC1 u hs)]
              unfold g_X6_lay_47
              rw [if_pos (by decide), if_pos (p_inT (by omega) hs), cs, if_pos (tg77 s hs), if_pos (show u (77 + 2 * s) 0 = -1 by rw [hu.so s hs]; exact n1)]
            · show f_X7_lay u (nI k) (nI 2) (nI s) = _
              rw [hM2, bG1 (sM1 u hs)]
              unfold g_X7_lay_44
              rw [if_pos (by decide), if_pos (p_inT (by omega) hs), cs, if_neg (show ¬ 0 ≤ u 124 s by rw [hu.so s hs]; exact n2)]
          · refine Csl hS hk (2, (S.sl k).fs, (S.sh s).ln, (S.sh s).ce, (S.sl k).nu) (nI (S.sl k).th) ⟨show 2 < 4 by decide, j1, fun e => absurd e (show ¬ 2 = 1 by decide)⟩ (fun u hu => ?_) (fun u hu => ?_)
            · obtain ⟨v, b1, b2, b3, b4⟩ := p_X2_become (tg88 k hk) (tg77 s hs) (il88 k hk) (il78 s hs) ⟨by omega, by omega⟩ (am_u2 u (85 + 5 * k) 0 (nI 2))
              refine ⟨v, ?_, fun a ha => by rw [b2 a (by simp; omega), u2_ne _ _ (by omega)], by rw [b2 _ (by simp; omega), u2_same], fun e => absurd e (show ¬ 2 = 1 by decide), fun _ => ?_, fun _ c hc => ?_, fun e => absurd e (show ¬ 2 = 3 by decide)⟩
              · show f_X6_lay u (nI k) (nI 2) (nI s) = _
                rw [hC2, bG1 (sC1 u hs)]
                unfold g_X6_lay_47
                rw [if_pos (by decide), if_pos (p_inT (by omega) hs), cs, if_pos (tg77 s hs), if_neg (show ¬ u (77 + 2 * s) 0 = -1 by rw [hu.so s hs]; exact n1), layC hk, if_neg (by decide), if_pos (by decide), if_pos (p_inT (by omega) hs), cs, b1, p_some]
                dsimp only
                rw [thC u hu]
              · rw [b3, u2_ne _ _ (by omega)]; exact hu.ln s hs
              · rw [b4 c hc, u2_ne _ _ (by omega)]; exact ceC hu hs c hc
            · obtain ⟨v, b1, b2, b3, b4⟩ := layM133 (x4 := nI (S.sl k).th) (g := (S.sh s).ce) hk hs 24 0 1700 (l3v u k (nI 2) (nI (S.sh s).ln) 0) rfl (by decide) (fun c hc => by rw [l3v_o _ _ _ _ _ (by decide)]; exact hu.ce s hs c hc) (fun i hi => by omega)
              have q := fun d (hd : d ∉ [130]) => b2 d hd
              refine ⟨v, ?_, same_tr (l3v_s _ _ _ _ _) (same_mono b2 (by simp)), fun j hj => ⟨by rw [q 127 (by decide)]; exact (l3v_j _ _ _ _ _ j hj).1, by rw [q 128 (by decide)]; exact (l3v_j _ _ _ _ _ j hj).2.1, by rw [q 129 (by decide)]; exact (l3v_j _ _ _ _ _ j hj).2.2⟩, fun j hj => by rw [b3 j hj, l3v_o _ _ _ _ _ (by decide)], by rw [q 127 (by decide), l3v_7, upd_sm], fun e => absurd e (show ¬ 2 = 1 by decide), fun _ => by rw [q 128 (by decide), l3v_8, upd_sm], fun _ i hi => b4 i hi, fun e => absurd e (show ¬ 2 = 3 by decide)⟩
              show f_X7_lay u (nI k) (nI 2) (nI s) = _
              rw [hM2, bG1 (sM1 u hs)]
              unfold g_X7_lay_44
              rw [if_pos (by decide), if_pos (p_inT (by omega) hs), cs, if_pos (show 0 ≤ u 124 s by rw [hu.so s hs]; exact n2)]
              unfold g_X7_lay_61
              rw [if_pos (p_inT (by omega) hk), ck, p_let, p_let, if_neg (by decide), if_pos (by decide), if_pos (p_inT (by omega) hs), cs]
              dsimp only
              rw [u2_ne _ _ (show 125 ≠ 127 by decide), hu.ln s hs, thM u hu, layM109 hk (by decide) rfl]
              rw [nI_0] at b1
              exact b1
        · refine Cro hS (-1000000001) (fun u hu => ?_) (fun u hu => ?_)
          · show f_X6_lay u (nI k) (nI 2) z = _
            rw [hC2, bG0 (sC0 u hz)]
          · show f_X7_lay u (nI k) (nI 2) z = _
            rw [hM2, bG0 (sM0 u hz)]
      · refine Csl hS hk (3, (S.sl k).fs, (S.sl k).ln, (S.sl k).ce, z) (nI (S.sl k).th) ⟨show 3 < 4 by decide, k2, fun e => absurd e (show ¬ 3 = 1 by decide)⟩ (fun u hu => ?_) (fun u hu => ?_)
        · refine ⟨am_u2 (am_u2 u (85 + 5 * k) 0 (nI 3)) (85 + 5 * k) 3 z, ?_, fun a ha => by rw [u2_ne _ _ (by omega), u2_ne _ _ (by omega)], by rw [u2_nei _ _ (Or.inr (by decide)), u2_same], fun e => absurd e (show ¬ 3 = 1 by decide), fun e => absurd e (show ¬ 3 = 2 by decide), fun e => absurd e (show ¬ 3 = 2 by decide), fun _ => u2_same _ _ _ _⟩
          show f_X6_lay u (nI k) (nI 3) z = _
          rw [hC, if_neg (by decide)]
          unfold g_X6_lay_32
          rw [if_neg (by decide)]
          unfold g_X6_lay_47
          rw [if_neg (by decide), layC hk, if_neg (by decide), if_neg (by decide), if_pos (by decide), thC u hu]
        · refine ⟨l3v u k (nI 3) z 0, ?_, l3v_s _ _ _ _ _, l3v_j _ _ _ _ _, fun j _ => by rw [l3v_o _ _ _ _ _ (by decide)], by rw [l3v_7, upd_sm], fun e => absurd e (show ¬ 3 = 1 by decide), fun e => absurd e (show ¬ 3 = 2 by decide), fun e => absurd e (show ¬ 3 = 2 by decide), fun _ => by rw [l3v_8, upd_sm]⟩
          show f_X7_lay u (nI k) (nI 3) z = _
          rw [hM, if_neg (by decide)]
          unfold g_X7_lay_29
          rw [if_neg (by decide)]
          unfold g_X7_lay_44
          rw [if_neg (by decide)]
          unfold g_X7_lay_61
          rw [if_pos (p_inT (by omega) hk), ck, p_let, p_let, if_neg (by decide), if_neg (by decide), thM u hu, layM109 hk (by decide) rfl, lay133n (by decide)]
    · refine Cro hS (-1000000001) (fun u hu => ?_) (fun u hu => ?_)
      · show f_X6_lay u (nI k) y z = _
        unfold f_X6_lay
        rw [bG1 (lC1 u hk), oi (n := 3) hy (by decide) 3 rfl]
      · show f_X7_lay u (nI k) y z = _
        unfold f_X7_lay
        rw [bG1 (lM1 u hk), bG0 (out_in u 3 (n := 3) rfl (by decide) hy)]
  · refine Cro hS (-1000000001) (fun u hu => ?_) (fun u hu => ?_)
    · show f_X6_lay u x y z = _
      unfold f_X6_lay
      rw [bG0 (lC0 u hx)]
    · show f_X7_lay u x y z = _
      unfold f_X7_lay
      rw [bG0 (lM0 u hx)]
