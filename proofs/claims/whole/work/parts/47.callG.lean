/-! pour, reads, copy -/
def poN (ce r : Nat → Int32) : Nat → (Nat → Int32) × Int32
  | 0 => (r, 0)
  | c + 1 => (upd (poN ce r c).1 c (if ce c = -1000000005 then (poN ce r c).1 c else wiI (ce c) 0 99), (poN ce r c).2 + (if (if ce c = -1000000005 then (poN ce r c).1 c else wiI (ce c) 0 99) = (poN ce r c).1 c then 0 else 1))
theorem poN_OK {ce r : Nat → Int32} {B : Nat} (h : rOK r B) : ∀ c, c ≤ 24 → rOK (poN ce r c).1 (B + 99 * c) := by
  intro c
  induction c with
  | zero => intro _; exact h
  | succ c ih =>
    intro hc
    have q := ih (by omega)
    have q0 := (rOK_le q c).1
    have w := wi_in (v := ce c) (show (0 : Int32) ≤ 99 by decide)
    have w1 : 0 ≤ (wiI (ce c) 0 99).toInt := p_ge0.mp w.1
    have w2 : (wiI (ce c) 0 99).toInt ≤ 99 := Int32.le_iff_toInt_le.mp w.2
    refine rOK_mono (rOK_updD (D := 99) q (by omega) ?_ ?_) (by omega)
    · split
      · exact q0
      · exact w1
    · split <;> omega
theorem p_X6_pourL {s i n0 : Nat} (hs : s < 4) (hi : i < 6) (hn0 : n0 ≤ 24) {ce r : Nat → Int32} : ∀ (m c n : Nat) (u : am_MU), c + m = 24 → m < n → u (77 + 2 * s) 1 = nI n0 → (∀ c, c < 24 → u (77 + 2 * s + 1) c = ce c) → rc u (5 + 2 * i) = (poN ce r (min c n0)).1 → ∃ u', g_X6_pour_53 n u (77 + 2 * s) (5 + 2 * i) (poN ce r (min c n0)).2 (nI c) = some (u', (poN ce r n0).2) ∧ same [5 + 2 * i + 1] u u' ∧ rc u' (5 + 2 * i) = (poN ce r n0).1 := by
  have ta := tg5 i hi
  have tb := tg77 s hs
  intro m
  induction m with
  | zero =>
    intro c n u h1 h2 hn hce hr
    obtain ⟨n, rfl⟩ : ∃ k, n = k + 1 := ⟨n - 1, by omega⟩
    obtain rfl : c = 24 := by omega
    rw [g_X6_pour_53]
    dsimp only
    rw [if_pos (show (24 : Int32) ≤ nI 24 by decide)]
    rw [show min 24 n0 = n0 by omega] at hr ⊢
    exact ⟨u, rfl, same_rf, hr⟩
  | succ m ih =>
    intro c n u h1 h2 hn hce hr
    obtain ⟨n, rfl⟩ : ∃ k, n = k + 1 := ⟨n - 1, by omega⟩
    have hc : c < 24 := by omega
    rw [g_X6_pour_53]
    dsimp only
    rw [if_neg (p_ge24 hc)]
    rw [if_pos tb]
    have ih0 := fun v => ih (c + 1) n v (by omega) (by omega)
    by_cases hN : isN ce n0 c
    · have hcn := hN.1
      have e1 : min c n0 = c := by omega
      have e2 : min (c + 1) n0 = c + 1 := by omega
      rw [e2] at ih0
      rw [e1] at hr ⊢
      rw [in1 u tb hn hn0 hc (hce c hc) hN, p_some]
      dsimp only
      rw [if_neg (show ¬ (1 : Int32) = 0 by decide), if_pos (p_inT (by omega) hc), nI_clamp (by omega), hce c hc, p_X6_within, p_some]
      dsimp only
      rw [p_wi (by decide), if_pos ta]
      have es : poN ce r (c + 1) = (upd (poN ce r c).1 c (wiI (ce c) 0 99), (poN ce r c).2 + (if wiI (ce c) 0 99 = (poN ce r c).1 c then 0 else 1)) := by
        rw [poN, if_neg hN.2]
      rw [es] at ih0
      have eu : u (5 + 2 * i + 1) c = (poN ce r c).1 c := by rw [p_rc u hc, hr]
      by_cases z : (poN ce r c).1 c = wiI (ce c) 0 99
      · rw [if_pos (by rw [eu]; exact z)]
        simp only [g_X6_pour_110, p_let, nI_1]
        rw [if_pos z.symm, Int32.add_zero] at ih0
        exact ih0 u hn hce (by rw [hr, ← z, upd_self])
      · rw [if_neg (by rw [eu]; exact z)]
        simp only [g_X6_pour_110, p_let, nI_1]
        rw [if_neg (fun q => z q.symm)] at ih0
        obtain ⟨u', g1, g2, g3⟩ := ih0 (am_u2 u (5 + 2 * i + 1) c (wiI (ce c) 0 99)) (by rw [u2_ne _ _ (by omega)]; exact hn) (fun c hc => by rw [u2_ne _ _ (by omega)]; exact hce c hc) (by rw [rc_u2 u hc, hr])
        exact ⟨u', g1, same_tr (same_u2 _ _ _ _ (by simp)) g2, g3⟩
    · rw [in0 u tb hn hn0 hc (hce c hc) hN, p_some]
      dsimp only
      rw [if_pos rfl]
      simp only [g_X6_pour_110, p_let, nI_1]
      have es : poN ce r (min (c + 1) n0) = poN ce r (min c n0) := by
        by_cases hcn : c < n0
        · have hz : ce c = -1000000005 := Decidable.not_not.mp (fun q => hN ⟨hcn, q⟩)
          rw [show min (c + 1) n0 = c + 1 by omega, show min c n0 = c by omega, poN, if_pos hz, if_pos rfl, upd_self, Int32.add_zero]
        · rw [show min (c + 1) n0 = n0 by omega, show min c n0 = n0 by omega]
      rw [es] at ih0
      exact ih0 u hn hce hr
theorem p_X7_pourL {s i n0 : Nat} (hs : s < 4) (hi : i < 6) (hn0 : n0 ≤ 24) {ce r : Nat → Int32} : ∀ (m c n : Nat) (u : am_MU), c + m = n0 → m < n → u 125 s = nI n0 → (∀ c, c < 24 → u 126 (24 * s + c) = ce c) → rmR (u 111) i = (poN ce r c).1 → ∃ u', g_X7_pour_35 n u (nI s) (nI i) (poN ce r c).2 (nI c) = some (u', (poN ce r n0).2) ∧ same [111] u u' ∧ (∀ j, (j < 9 + 26 * i ∨ 33 + 26 * i ≤ j) → u' 111 j = u 111 j) ∧ rmR (u' 111) i = (poN ce r n0).1 := by
  intro m
  induction m with
  | zero =>
    intro c n u h1 h2 hn hce hr
    obtain ⟨n, rfl⟩ : ∃ k, n = k + 1 := ⟨n - 1, by omega⟩
    obtain rfl : c = n0 := by omega
    rw [g_X7_pour_35]
    dsimp only
    rw [if_pos (p_inT (by omega) hs), nI_clamp (by omega), hn, if_pos (nI_le (Nat.le_refl _) (by omega))]
    exact ⟨u, rfl, same_rf, fun _ _ => rfl, hr⟩
  | succ m ih =>
    intro c n u h1 h2 hn hce hr
    obtain ⟨n, rfl⟩ : ∃ k, n = k + 1 := ⟨n - 1, by omega⟩
    have hc : c < 24 := by omega
    have ih0 := ih (c + 1) n
    generalize hP : poN ce r c = P at hr
    have es : poN ce r (c + 1) = (upd P.1 c (if ce c = -1000000005 then P.1 c else wiI (ce c) 0 99), P.2 + (if (if ce c = -1000000005 then P.1 c else wiI (ce c) 0 99) = P.1 c then 0 else 1)) := by rw [poN, hP]
    rw [es] at ih0
    have k85 : ∀ w : Int32, (if ce c = -1000000005 then P.1 c else wiI (ce c) 0 99) = w → ∃ u', g_X7_pour_85 (g_X7_pour_35 n) u (nI s) (nI i) P.2 (nI c) w = some (u', (poN ce r n0).2) ∧ same [111] u u' ∧ (∀ j, (j < 9 + 26 * i ∨ 33 + 26 * i ≤ j) → u' 111 j = u 111 j) ∧ rmR (u' 111) i = (poN ce r n0).1 := by
      intro w hw
      rw [hw] at ih0
      have k105 : ∀ d : Int32, (if w = P.1 c then (0 : Int32) else 1) = d → ∃ u', g_X7_pour_105 (g_X7_pour_35 n) u (nI s) (nI i) (nI c) w P.2 d = some (u', (poN ce r n0).2) ∧ same [111] u u' ∧ (∀ j, (j < 9 + 26 * i ∨ 33 + 26 * i ≤ j) → u' 111 j = u 111 j) ∧ rmR (u' 111) i = (poN ce r n0).1 := by
        intro d hd
        rw [hd] at ih0
        unfold g_X7_pour_105
        rw [p_let, p_spot0 u hc, p_some]
        dsimp only
        rw [if_pos (p_inT (by omega) (by omega)), nI_clamp (by omega), p_let, p_let, nI_1]
        obtain ⟨u', g1, g2, g3, g4⟩ := ih0 (am_u2 u 111 (9 + 26 * i + c) w) (by omega) (by omega) (by rw [u2_ne _ _ (by decide)]; exact hn) (fun c hc => by rw [u2_ne _ _ (by decide)]; exact hce c hc) (by rw [u2_row, rmR_upd _ hc, hr])
        exact ⟨u', g1, same_tr (same_u2 _ _ _ _ (by simp)) g2, fun j hj => by rw [g3 j hj, u2_nei _ _ (Or.inr (by omega))], g4⟩
      unfold g_X7_pour_85
      rw [p_sand0 u hi hc, p_some, rm_eq, hr]
      dsimp only
      by_cases z : w = P.1 c
      · rw [if_pos z]; exact k105 0 (if_pos z)
      · rw [if_neg z]; exact k105 1 (if_neg z)
    rw [g_X7_pour_35]
    dsimp only
    rw [if_pos (p_inT (by omega) hs), nI_clamp (by omega), hn, if_neg (nI_ge (show c < n0 by omega) (by omega)), e24, if_pos (p_inT (by omega) (by omega)), nI_clamp (by omega), p_let, hce c hc]
    by_cases z : ce c = -1000000005
    · rw [if_pos z, p_sand0 u hi hc, p_some, rm_eq, hr]
      exact k85 _ (if_pos z)
    · rw [if_neg z, p_X7_within, p_some]
      exact k85 _ (if_neg z)
theorem ceC {u : am_MU} {S : AS} (hu : CI u S) {s : Nat} (hs : s < 4) : ∀ c, c < 24 → u (77 + 2 * s + 1) c = (S.sh s).ce c := fun c hc => by
  have := hu.ce s hs c hc
  rw [show 78 + 2 * s = 77 + 2 * s + 1 by omega] at this
  exact this
theorem k_pour (x y : Int32) : Call (fun u => f_X6_pour u x y) (fun u => f_X7_pour u x y) := by
  intro S B hS hB
  have hn := hS.now.n
  rcases rng x (show 4 < 2 ^ 31 by decide) with ⟨s, hs, rfl⟩ | hx
  · obtain ⟨k1, k2, k3⟩ := hS.sh s hs
    rcases rng y (show S.now.n < 2 ^ 31 by omega) with ⟨i, hi, rfl⟩ | hy
    · have hi6 : i < 6 := by omega
      rcases so_m1 k2 with ⟨n1, n2, n3⟩ | ⟨n1, n2, n3, n4⟩
      · refine Cro hS (-1000000011) (fun u hu => ?_) (fun u hu => ?_)
        · show f_X6_pour u (nI s) (nI i) = _
          unfold f_X6_pour
          rw [bG1 (sC1 u hs), bG1 (fC1 hu.now.n hn hi)]
          dsimp only
          rw [if_pos (p_inT (by omega) hs), nI_clamp (by omega), if_pos (tg77 s hs), if_pos (show u (77 + 2 * s) 0 = -1 by rw [hu.so s hs]; exact n1)]
        · show f_X7_pour u (nI s) (nI i) = _
          unfold f_X7_pour
          rw [bG1 (sM1 u hs), bG1 (fM1 hu.now.n hn hi)]
          dsimp only
          rw [if_pos (p_inT (by omega) hs), nI_clamp (by omega), if_neg (show ¬ 0 ≤ u 124 s by rw [hu.so s hs]; exact n2)]
      · have hr := hS.now.r i hi
        obtain ⟨P, hP⟩ : ∃ P, P = poN (S.sh s).ce (S.now.fl i).r (S.sh s).ln := ⟨_, rfl⟩
        have hPO : rOK P.1 (B + 2400) := by rw [hP]; exact rOK_mono (poN_OK hr _ k1) (by omega)
        refine Cfl (L := [5 + 2 * i + 1]) (M := [111]) hS hi ((S.now.fl i).k, (S.now.fl i).t, P.1) P.2 (hS.now.k i hi) hPO (by simp; omega) (by simp) (fun u hu => ?_) (fun u hu => ?_)
        · have hF := fl1 hu hi
          obtain ⟨u1, e1, e2, e3⟩ := p_X6_pourL (r := (S.now.fl i).r) hs hi6 k1 24 0 1700 u rfl (by decide) (hu.ln s hs) (ceC hu hs) (by rw [Nat.zero_min]; exact hF.2.2)
          rw [← hP] at e1 e3
          rw [Nat.zero_min] at e1
          refine ⟨u1, ?_, e2, ?_, ?_, e3⟩
          · show f_X6_pour u (nI s) (nI i) = _
            unfold f_X6_pour
            rw [bG1 (sC1 u hs), bG1 (fC1 hu.now.n hn hi)]
            dsimp only
            rw [if_pos (p_inT (by omega) hs), nI_clamp (show s < 2 ^ 31 by omega), if_pos (tg77 s hs), if_neg (show ¬ u (77 + 2 * s) 0 = -1 by rw [hu.so s hs]; exact n1), if_pos (p_inT (by omega) hi6), nI_clamp (show i < 2 ^ 31 by omega)]
            exact e1
          · rw [e2 _ (by simp)]; exact hF.1
          · rw [e2 _ (by simp)]; exact hF.2.1
        · have hF := hu.now.fl i hi
          obtain ⟨u1, e1, e2, e3, e4⟩ := p_X7_pourL (r := (S.now.fl i).r) hs hi6 k1 (S.sh s).ln 0 1700 u (by omega) (by omega) (hu.ln s hs) (hu.ce s hs) hF.2.2
          rw [← hP] at e1 e4
          refine ⟨u1, ?_, e2, fun j hj => e3 j (by omega), ?_, ?_, e4⟩
          · show f_X7_pour u (nI s) (nI i) = _
            unfold f_X7_pour
            rw [bG1 (sM1 u hs), bG1 (fM1 hu.now.n hn hi)]
            dsimp only
            rw [if_pos (p_inT (by omega) hs), nI_clamp (show s < 2 ^ 31 by omega), if_pos (show 0 ≤ u 124 s by rw [hu.so s hs]; exact n2)]
            exact e1
          · rw [e3 _ (by omega)]; exact hF.1
          · rw [e3 _ (by omega)]; exact hF.2.1
    · refine Cro hS (-1000000001) (fun u hu => ?_) (fun u hu => ?_)
      · show f_X6_pour u (nI s) y = _
        unfold f_X6_pour
        rw [bG1 (sC1 u hs), bG0 (fC0 hu.now.n hy)]
      · show f_X7_pour u (nI s) y = _
        unfold f_X7_pour
        rw [bG1 (sM1 u hs), bG0 (fM0 hu.now.n hn hy)]
  · refine Cro hS (-1000000001) (fun u hu => ?_) (fun u hu => ?_)
    · show f_X6_pour u x y = _
      unfold f_X6_pour
      rw [bG0 (sC0 u hx)]
    · show f_X7_pour u x y = _
      unfold f_X7_pour
      rw [bG0 (sM0 u hx)]
def rdF (ce r : Nat → Int32) (n0 : Nat) : Nat → Nat → Int32
  | 0, _ => -1000000005
  | m + 1, c => if c < n0 then (if ce c = -1000000005 then rdF ce r n0 m (c + 1) else if ce c = r c then rdF ce r n0 m (c + 1) else nI c) else rdF ce r n0 m (c + 1)
theorem rdF_end {ce r : Nat → Int32} {n0 : Nat} : ∀ m c, n0 ≤ c → rdF ce r n0 m c = -1000000005 := by
  intro m
  induction m with
  | zero => intro c _; rfl
  | succ m ih => intro c hc; rw [rdF, if_neg (by omega)]; exact ih (c + 1) (by omega)
theorem p_X6_readsL {s i n0 : Nat} (hs : s < 4) (hi : i < 6) (hn0 : n0 ≤ 24) {ce : Nat → Int32} (u : am_MU) (hn : u (77 + 2 * s) 1 = nI n0) (hce : ∀ c, c < 24 → u (77 + 2 * s + 1) c = ce c) : ∀ (m c n : Nat), c + m = 24 → m < n → g_X6_reads_50 n u (77 + 2 * s) (5 + 2 * i) (nI c) = some (u, rdF ce (rc u (5 + 2 * i)) n0 m c) := by
  have ta := tg5 i hi
  have tb := tg77 s hs
  intro m
  induction m with
  | zero =>
    intro c n h1 h2
    obtain ⟨n, rfl⟩ : ∃ k, n = k + 1 := ⟨n - 1, by omega⟩
    obtain rfl : c = 24 := by omega
    rw [g_X6_reads_50]
    dsimp only
    rw [if_pos (show (24 : Int32) ≤ nI 24 by decide)]
    rfl
  | succ m ih =>
    intro c n h1 h2
    obtain ⟨n, rfl⟩ : ∃ k, n = k + 1 := ⟨n - 1, by omega⟩
    have hc : c < 24 := by omega
    rw [g_X6_reads_50]
    dsimp only
    rw [if_neg (p_ge24 hc)]
    rw [if_pos tb, rdF]
    by_cases hN : isN ce n0 c
    · rw [in1 u tb hn hn0 hc (hce c hc) hN, p_some]
      dsimp only
      rw [if_neg (show ¬ (1 : Int32) = 0 by decide), if_pos (p_inT (by omega) hc), nI_clamp (by omega), if_pos ta, if_pos hN.1, if_neg hN.2]
      have eu : u (77 + 2 * s + 1) c = ce c := hce c hc
      have ev : u (5 + 2 * i + 1) c = rc u (5 + 2 * i) c := p_rc u hc
      by_cases z : ce c = rc u (5 + 2 * i) c
      · rw [if_pos z, if_pos (by rw [eu, ev]; exact z)]
        simp only [g_X6_reads_87, p_let, nI_1]
        exact ih (c + 1) n (by omega) (by omega)
      · rw [if_neg z, if_neg (by rw [eu, ev]; exact z)]
    · rw [in0 u tb hn hn0 hc (hce c hc) hN, p_some]
      dsimp only
      rw [if_pos rfl]
      simp only [g_X6_reads_87, p_let, nI_1]
      rw [ih (c + 1) n (by omega) (by omega)]
      by_cases hcn : c < n0
      · rw [if_pos hcn, if_pos (Decidable.not_not.mp (fun q => hN ⟨hcn, q⟩))]
      · rw [if_neg hcn]
theorem p_X7_readsL {s i n0 : Nat} (hs : s < 4) (hi : i < 6) (hn0 : n0 ≤ 24) {ce : Nat → Int32} (u : am_MU) (hn : u 125 s = nI n0) (hce : ∀ c, c < 24 → u 126 (24 * s + c) = ce c) : ∀ (m c n : Nat), c + m = 24 → c ≤ n0 → m < n → g_X7_reads_32 n u (nI s) (nI i) (nI c) = some (u, rdF ce (rm u 111 i) n0 m c) := by
  intro m
  induction m with
  | zero =>
    intro c n h1 h0 h2
    obtain ⟨n, rfl⟩ : ∃ k, n = k + 1 := ⟨n - 1, by omega⟩
    rw [g_X7_reads_32]
    dsimp only
    rw [if_pos (p_inT (by omega) hs), nI_clamp (by omega), hn, if_pos (nI_le (show n0 ≤ c by omega) (by omega))]
    rfl
  | succ m ih =>
    intro c n h1 h0 h2
    obtain ⟨n, rfl⟩ : ∃ k, n = k + 1 := ⟨n - 1, by omega⟩
    have hc : c < 24 := by omega
    rw [g_X7_reads_32]
    dsimp only
    rw [if_pos (p_inT (by omega) hs), nI_clamp (by omega), hn]
    by_cases hcn : c < n0
    · rw [if_neg (nI_ge hcn (by omega)), e24, if_pos (p_inT (by omega) (by omega)), nI_clamp (by omega), p_let, hce c hc, rdF, if_pos hcn]
      have ih := ih (c + 1) n (by omega) (by omega) (by omega)
      by_cases z : ce c = -1000000005
      · rw [if_pos z, if_pos z]
        simp only [g_X7_reads_75, p_let, nI_1]
        exact ih
      · rw [if_neg z, if_neg z, p_sand0 u hi hc, p_some]
        dsimp only
        by_cases z2 : ce c = rm u 111 i c
        · rw [if_pos z2, if_pos z2]
          simp only [g_X7_reads_75, p_let, nI_1]
          exact ih
        · rw [if_neg z2, if_neg z2]
    · rw [if_pos (nI_le (show n0 ≤ c by omega) (by omega)), rdF_end _ _ (by omega)]
theorem k_reads (x y : Int32) : Call (fun u => f_X6_reads u x y) (fun u => f_X7_reads u x y) := by
  intro S B hS hB
  have hn := hS.now.n
  rcases rng x (show 4 < 2 ^ 31 by decide) with ⟨s, hs, rfl⟩ | hx
  · obtain ⟨k1, k2, k3⟩ := hS.sh s hs
    rcases rng y (show S.now.n < 2 ^ 31 by omega) with ⟨i, hi, rfl⟩ | hy
    · have hi6 : i < 6 := by omega
      rcases so_m1 k2 with ⟨n1, n2, n3⟩ | ⟨n1, n2, n3, n4⟩
      · refine Cro hS (-1000000011) (fun u hu => ?_) (fun u hu => ?_)
        · show f_X6_reads u (nI s) (nI i) = _
          unfold f_X6_reads
          rw [bG1 (sC1 u hs), bG1 (fC1 hu.now.n hn hi)]
          dsimp only
          rw [if_pos (p_inT (by omega) hs), nI_clamp (by omega), if_pos (tg77 s hs), if_pos (show u (77 + 2 * s) 0 = -1 by rw [hu.so s hs]; exact n1)]
        · show f_X7_reads u (nI s) (nI i) = _
          unfold f_X7_reads
          rw [bG1 (sM1 u hs), bG1 (fM1 hu.now.n hn hi)]
          dsimp only
          rw [if_pos (p_inT (by omega) hs), nI_clamp (by omega), if_neg (show ¬ 0 ≤ u 124 s by rw [hu.so s hs]; exact n2)]
      · refine Cro hS (rdF (S.sh s).ce (S.now.fl i).r (S.sh s).ln 24 0) (fun u hu => ?_) (fun u hu => ?_)
        · show f_X6_reads u (nI s) (nI i) = _
          unfold f_X6_reads
          rw [bG1 (sC1 u hs), bG1 (fC1 hu.now.n hn hi)]
          dsimp only
          rw [if_pos (p_inT (by omega) hs), nI_clamp (show s < 2 ^ 31 by omega), if_pos (tg77 s hs), if_neg (show ¬ u (77 + 2 * s) 0 = -1 by rw [hu.so s hs]; exact n1), if_pos (p_inT (by omega) hi6), nI_clamp (show i < 2 ^ 31 by omega)]
          have := p_X6_readsL hs hi6 k1 u (hu.ln s hs) (ceC hu hs) 24 0 1700 rfl (by decide)
          rw [(fl1 hu hi).2.2] at this
          exact this
        · show f_X7_reads u (nI s) (nI i) = _
          unfold f_X7_reads
          rw [bG1 (sM1 u hs), bG1 (fM1 hu.now.n hn hi)]
          dsimp only
          rw [if_pos (p_inT (by omega) hs), nI_clamp (show s < 2 ^ 31 by omega), if_pos (show 0 ≤ u 124 s by rw [hu.so s hs]; exact n2)]
          have := p_X7_readsL hs hi6 k1 u (hu.ln s hs) (hu.ce s hs) 24 0 1700 rfl (Nat.zero_le _) (by decide)
          rw [rm_eq, (hu.now.fl i hi).2.2] at this
          exact this
    · refine Cro hS (-1000000001) (fun u hu => ?_) (fun u hu => ?_)
      · show f_X6_reads u (nI s) y = _
        unfold f_X6_reads
        rw [bG1 (sC1 u hs), bG0 (fC0 hu.now.n hy)]
      · show f_X7_reads u (nI s) y = _
        unfold f_X7_reads
        rw [bG1 (sM1 u hs), bG0 (fM0 hu.now.n hn hy)]
  · refine Cro hS (-1000000001) (fun u hu => ?_) (fun u hu => ?_)
    · show f_X6_reads u x y = _
      unfold f_X6_reads
      rw [bG0 (sC0 u hx)]
    · show f_X7_reads u x y = _
      unfold f_X7_reads
      rw [bG0 (sM0 u hx)]
theorem p_X7_copyA {s : Nat} (hs : s < 4) {p m0 q : Nat} {to at0 : Int32} (hp : p + m0 ≤ 24) {g : Nat → Int32} : ∀ (m k n : Nat) (u : am_MU), k + m = m0 → m < n → (∀ c, c < 24 → u 126 (24 * s + c) = g c) → (∀ j, j < k → u 131 j = g (p + j)) → q = m0 → ∃ u', g_X7_copy_104 n u (nI s) (nI p) to at0 (nI q) (nI k) = g_X7_copy_141 1700 u' to at0 (nI q) 0 ∧ same [131] u u' ∧ (∀ j, j < m0 → u' 131 j = g (p + j)) := by
  intro m
  induction m with
  | zero =>
    intro k n u h1 h2 hg hL hq
    obtain ⟨n, rfl⟩ : ∃ k, n = k + 1 := ⟨n - 1, by omega⟩
    subst hq
    obtain rfl : k = q := by omega
    rw [g_X7_copy_104]
    dsimp only
    rw [if_pos (nI_le (Nat.le_refl _) (by omega))]
    exact ⟨u, rfl, same_rf, hL⟩
  | succ m ih =>
    intro k n u h1 h2 hg hL hq
    obtain ⟨n, rfl⟩ : ∃ k, n = k + 1 := ⟨n - 1, by omega⟩
    rw [g_X7_copy_104]
    dsimp only
    rw [if_neg (nI_ge (show k < q by omega) (by omega)), e24, nI_add, if_pos (p_inT (by omega) (by omega)), if_pos (p_inT (by omega) (by omega)), nI_clamp (by omega), nI_clamp (by omega), p_let, p_let, nI_1, show 24 * s + p + k = 24 * s + (p + k) by omega, hg _ (by omega)]
    obtain ⟨u', g1, g2, g3⟩ := ih (k + 1) n (am_u2 u 131 k (g (p + k))) (by omega) (by omega) (fun c hc => by rw [u2_ne _ _ (by decide)]; exact hg c hc) (fun j hj => by
      by_cases e : j = k
      · subst e; exact u2_same _ _ _ _
      · rw [u2_nei _ _ (Or.inr e)]; exact hL j (by omega)) hq
    exact ⟨u', g1, same_tr (same_u2 _ _ _ _ (by simp)) g2, g3⟩
theorem p_X7_copyB {t : Nat} (ht : t < 4) {a m0 q : Nat} (ha : a + m0 ≤ 24) {g : Nat → Int32} : ∀ (m k n : Nat) (u : am_MU), k + m = m0 → m < n → (∀ j, j < m0 → u 131 j = g j) → q = m0 → ∃ u', g_X7_copy_141 n u (nI t) (nI a) (nI q) (nI k) = some (u', nI q) ∧ same [126] u u' ∧ (∀ j, k ≤ j → j < m0 → u' 126 (24 * t + (a + j)) = g j) ∧ (∀ j, (j < 24 * t + a + k ∨ 24 * t + a + m0 ≤ j) → u' 126 j = u 126 j) := by
  intro m
  induction m with
  | zero =>
    intro k n u h1 h2 hg hq
    obtain ⟨n, rfl⟩ : ∃ k, n = k + 1 := ⟨n - 1, by omega⟩
    subst hq
    obtain rfl : k = q := by omega
    rw [g_X7_copy_141]
    dsimp only
    rw [if_pos (nI_le (Nat.le_refl _) (by omega))]
    exact ⟨u, rfl, same_rf, fun j h1 h2 => by omega, fun _ _ => rfl⟩
  | succ m ih =>
    intro k n u h1 h2 hg hq
    obtain ⟨n, rfl⟩ : ∃ k, n = k + 1 := ⟨n - 1, by omega⟩
    rw [g_X7_copy_141]
    dsimp only
    rw [if_neg (nI_ge (show k < q by omega) (by omega)), if_pos (p_inT (by omega) (by omega)), e24, nI_add, if_pos (p_inT (by omega) (by omega)), nI_clamp (by omega), nI_clamp (by omega), p_let, p_let, nI_1, hg k (by omega)]
    obtain ⟨u', g1, g2, g3, g4⟩ := ih (k + 1) n (am_u2 u 126 (24 * t + a + k) (g k)) (by omega) (by omega) (fun j hj => by rw [u2_ne _ _ (by decide)]; exact hg j hj) hq
    refine ⟨u', g1, same_tr (same_u2 _ _ _ _ (by simp)) g2, fun j h1 h2 => ?_, fun j hj => by rw [g4 j (by omega), u2_nei _ _ (Or.inr (by omega))]⟩
    by_cases e : j = k
    · subst e; rw [g4 _ (by omega), show 24 * t + (a + j) = 24 * t + a + j by omega, u2_same]
    · exact g3 j (by omega) h2
theorem st_C (u : am_MU) {a n p m : Nat} (ta : tg a = 2) (hn : u a 1 = nI n) (hn2 : n ≤ 24) (hp : p < 2 ^ 31) (hm : m < 2 ^ 31) : f_X2_hasStretch u a (nI p) (nI m) = some (u, if p + m ≤ n then 1 else 0) := by
  unfold f_X2_hasStretch
  rw [if_neg (nI_pos hp), if_neg (nI_pos hm), if_pos ta, hn]
  by_cases z : n < p
  · rw [if_pos (nI_lt z hp), if_neg (by omega)]
  · rw [if_neg (nI_nlt (by omega) (by omega)), pk_sub (by omega)]
    by_cases z2 : n - p < m
    · rw [if_pos (nI_lt z2 hm), if_neg (by omega)]
    · rw [if_neg (nI_nlt (by omega) (by omega)), if_pos (by omega)]
theorem st_M {n p m : Nat} (hn2 : n ≤ 24) (hp : p < 2 ^ 31) (hm : m < 2 ^ 31) : nI n - nI m < nI p ↔ ¬ p + m ≤ n := by
  rw [Int32.lt_iff_toInt_lt, Int32.toInt_sub, nI_toInt hp, nI_toInt hm, nI_toInt (show n < 2 ^ 31 by omega)]
  rw [Int.bmod_eq_of_le (by omega) (by omega)]
  omega
theorem k_copy (x p y a q : Int32) : Call (fun u => f_X6_copy u x p y a q) (fun u => f_X7_copy u x p y a q) := by
  intro S B hS hB
  rcases rng x (show 4 < 2 ^ 31 by decide) with ⟨s, hs, rfl⟩ | hx
  · obtain ⟨k1, k2, k3⟩ := hS.sh s hs
    rcases rng y (show 4 < 2 ^ 31 by decide) with ⟨t, ht, rfl⟩ | hy
    · obtain ⟨j1, j2, j3⟩ := hS.sh t ht
      have cs : (nI s).toNatClampNeg = s := nI_clamp (by omega)
      have ct : (nI t).toNatClampNeg = t := nI_clamp (by omega)
      have hC : ∀ u, CI u S → f_X6_copy u (nI s) p (nI t) a q = (if (S.sh s).so = -1 then some (u, -1000000011) else if (S.sh t).so = -1 then some (u, -1000000011) else if (S.sh s).so = (S.sh t).so then ((f_X2_hasStretch u (77 + 2 * s) p q).bind fun q12 => if q12.2 = 0 then (some (q12.1, ((-1000000013) : Int32))) else ((f_X2_hasStretch q12.1 (77 + 2 * t) a q).bind fun q14 => if q14.2 = 0 then (some (q14.1, ((-1000000013) : Int32))) else (if am_cpok ((77 + 2 * s) + 1) ((77 + 2 * t) + 1) p a q then (am_let (am_ur q14.1 ((77 + 2 * t) + 1) (va_cpy (q14.1 ((77 + 2 * s) + 1)) (q14.1 ((77 + 2 * t) + 1)) p.toNatClampNeg a.toNatClampNeg q.toNatClampNeg)) fun u17 => some (u17, q)) else none))) else some (u, -1000000012)) := fun u hu => by
        unfold f_X6_copy
        rw [bG1 (sC1 u hs), bG1 (sC1 u ht)]
        simp only [p_inT (show s < 2 ^ 31 by omega) hs, p_inT (show t < 2 ^ 31 by omega) ht, cs, ct, tg77 s hs, tg77 t ht, ↓reduceIte, hu.so s hs, hu.so t ht]
      have hM : ∀ u, MI u S → f_X7_copy u (nI s) p (nI t) a q = (if (S.sh s).so < 0 then some (u, -1000000011) else if 0 ≤ (S.sh t).so then (if (S.sh s).so = (S.sh t).so then (if p < 0 then some (u, -1000000013) else if a < 0 then some (u, -1000000013) else if q < 0 then some (u, -1000000013) else if nI (S.sh s).ln - q < p then some (u, -1000000013) else if a ≤ nI (S.sh t).ln - q then g_X7_copy_104 1700 u (nI s) p (nI t) a q 0 else some (u, -1000000013)) else some (u, -1000000012)) else some (u, -1000000011)) := fun u hu => by
        unfold f_X7_copy
        rw [bG1 (sM1 u hs), bG1 (sM1 u ht)]
        simp only [p_inT (show s < 2 ^ 31 by omega) hs, p_inT (show t < 2 ^ 31 by omega) ht, cs, ct, ↓reduceIte, hu.so s hs, hu.so t ht, hu.ln s hs, hu.ln t ht]
      rcases so_m1 k2 with ⟨n1, n2, n3⟩ | ⟨n1, n2, n3, n4⟩
      · exact Cro hS (-1000000011) (fun u hu => by show f_X6_copy u (nI s) p (nI t) a q = _; rw [hC u hu, if_pos n1]) (fun u hu => by show f_X7_copy u (nI s) p (nI t) a q = _; rw [hM u hu, if_pos n3])
      · rcases so_m1 j2 with ⟨o1, o2, o3⟩ | ⟨o1, o2, o3, o4⟩
        · exact Cro hS (-1000000011) (fun u hu => by show f_X6_copy u (nI s) p (nI t) a q = _; rw [hC u hu, if_neg n1, if_pos o1]) (fun u hu => by show f_X7_copy u (nI s) p (nI t) a q = _; rw [hM u hu, if_neg n3, if_neg o2])
        · by_cases hk : (S.sh s).so = (S.sh t).so
          · have hneg : ∀ u, CI u S → (p < 0 ∨ a < 0 ∨ q < 0) → f_X6_copy u (nI s) p (nI t) a q = some (u, -1000000013) := by
              intro u hu h
              rw [hC u hu, if_neg n1, if_neg o1, if_pos hk]
              have z1 : (p < 0 ∨ q < 0) → f_X2_hasStretch u (77 + 2 * s) p q = some (u, 0) := by
                intro h
                unfold f_X2_hasStretch
                by_cases hp : p < 0
                · rw [if_pos hp]
                · rw [if_neg hp, if_pos (h.resolve_left hp)]
              by_cases h2 : p < 0 ∨ q < 0
              · rw [bG0 (z1 h2)]
              · have ha : a < 0 := by
                  rcases h with h | h | h
                  · exact absurd (Or.inl h) h2
                  · exact h
                  · exact absurd (Or.inr h) h2
                obtain ⟨pp, hpp, rfl⟩ := nI_of (fun h => h2 (Or.inl h))
                obtain ⟨qq, hqq, rfl⟩ := nI_of (fun h => h2 (Or.inr h))
                have z2 : f_X2_hasStretch u (77 + 2 * t) a (nI qq) = some (u, 0) := by
                  unfold f_X2_hasStretch
                  rw [if_pos ha]
                by_cases zz : pp + qq ≤ (S.sh s).ln
                · rw [bG1 (by rw [st_C u (tg77 s hs) (hu.ln s hs) k1 hpp hqq, if_pos zz]), bG0 z2]
                · rw [bG0 (by rw [st_C u (tg77 s hs) (hu.ln s hs) k1 hpp hqq, if_neg zz])]
            by_cases h : p < 0 ∨ a < 0 ∨ q < 0
            · refine Cro hS (-1000000013) (fun u hu => hneg u hu h) (fun u hu => ?_)
              show f_X7_copy u (nI s) p (nI t) a q = _
              rw [hM u hu, if_neg n3, if_pos o2, if_pos hk]
              by_cases hp : p < 0
              · rw [if_pos hp]
              · rw [if_neg hp]
                by_cases ha : a < 0
                · rw [if_pos ha]
                · rw [if_neg ha, if_pos ((h.resolve_left hp).resolve_left ha)]
            · obtain ⟨pp, hpp, rfl⟩ := nI_of (fun z => h (Or.inl z))
              obtain ⟨aa, haa, rfl⟩ := nI_of (fun z => h (Or.inr (Or.inl z)))
              obtain ⟨qq, hqq, rfl⟩ := nI_of (fun z => h (Or.inr (Or.inr z)))
              by_cases z1 : pp + qq ≤ (S.sh s).ln
              · by_cases z2 : aa + qq ≤ (S.sh t).ln
                · have hbig : ∀ c, c < 24 → big (va_cpy (S.sh s).ce (S.sh t).ce pp aa qq c) := fun c hc => by
                    by_cases e : aa ≤ c ∧ c < aa + qq
                    · rw [pk_cpy_in e.1 e.2]; exact k3 _ (by omega)
                    · rw [pk_cpy_out (by omega)]; exact j3 c hc
                  refine Csh hS ht ((S.sh t).so, (S.sh t).ln, va_cpy (S.sh s).ce (S.sh t).ce pp aa qq) (nI qq) ⟨j1, j2, hbig⟩ (fun u hu => ?_) (fun u hu => ?_)
                  · have hcp : am_cpok ((77 + 2 * s) + 1) ((77 + 2 * t) + 1) (nI pp) (nI aa) (nI qq) = true := by
                      have il : ∀ s, s < 4 → il (77 + 2 * s + 1) = 24 := by decide +kernel
                      unfold am_cpok
                      rw [nI_clamp hpp, nI_clamp haa, nI_clamp hqq, il s hs, il t ht]
                      simp only [Bool.and_eq_true, decide_eq_true_eq]
                      exact ⟨⟨⟨⟨⟨⟨nI_pos' hpp, nI_pos' haa⟩, nI_pos' hqq⟩, by omega⟩, by omega⟩, by decide⟩, by decide⟩
                    refine ⟨am_ur u (77 + 2 * t + 1) (va_cpy (u (77 + 2 * s + 1)) (u (77 + 2 * t + 1)) pp aa qq), ?_, ?_, ?_, ?_, ?_⟩
                    · show f_X6_copy u (nI s) (nI pp) (nI t) (nI aa) (nI qq) = _
                      rw [hC u hu, if_neg n1, if_neg o1, if_pos hk, bG1 (by rw [st_C u (tg77 s hs) (hu.ln s hs) k1 hpp hqq, if_pos z1]), bG1 (by rw [st_C u (tg77 t ht) (hu.ln t ht) j1 haa hqq, if_pos z2]), if_pos hcp, p_let, nI_clamp hpp, nI_clamp haa, nI_clamp hqq]
                    · intro b hb; exact ur_ne _ _ (fun e => hb (by simp [e]))
                    · rw [ur_ne _ _ (by omega)]; exact hu.so t ht
                    · rw [ur_ne _ _ (by omega)]; exact hu.ln t ht
                    · intro c hc
                      rw [ur_row]
                      show _ = va_cpy (S.sh s).ce (S.sh t).ce pp aa qq c
                      by_cases e : aa ≤ c ∧ c < aa + qq
                      · rw [pk_cpy_in e.1 e.2, pk_cpy_in e.1 e.2]; exact ceC hu hs _ (by omega)
                      · rw [pk_cpy_out (by omega), pk_cpy_out (by omega)]; exact ceC hu ht c hc
                  · obtain ⟨v1, b1, b2, b3⟩ := p_X7_copyA (to := nI t) (at0 := nI aa) (q := qq) hs (show pp + qq ≤ 24 by omega) qq 0 1700 u (by omega) (by omega) (hu.ce s hs) (fun j hj => by omega) rfl
                    obtain ⟨v2, d1, d2, d3, d4⟩ := p_X7_copyB (q := qq) (g := fun j => (S.sh s).ce (pp + j)) ht (show aa + qq ≤ 24 by omega) qq 0 1700 v1 (by omega) (by omega) b3 rfl
                    have sv := same_tr (same_mono b2 (T := [124, 125, 126, 131]) (by simp)) (same_mono d2 (by simp))
                    have q124 : v2 124 = u 124 := by rw [d2 124 (by decide), b2 124 (by decide)]
                    have q125 : v2 125 = u 125 := by rw [d2 125 (by decide), b2 125 (by decide)]
                    have q126 : v1 126 = u 126 := b2 126 (by decide)
                    refine ⟨v2, ?_, sv, fun j _ _ => ⟨by rw [q124], by rw [q125]⟩, fun j hj => by rw [d4 j (by omega), q126], by rw [q124]; exact hu.so t ht, by rw [q125]; exact hu.ln t ht, fun c hc => ?_⟩
                    · show f_X7_copy u (nI s) (nI pp) (nI t) (nI aa) (nI qq) = _
                      rw [hM u hu, if_neg n3, if_pos o2, if_pos hk, if_neg (nI_pos hpp), if_neg (nI_pos haa), if_neg (nI_pos hqq), if_neg (fun e => (st_M k1 hpp hqq).mp e z1), if_pos (Int32.not_lt.mp (fun e => (st_M j1 haa hqq).mp e z2))]
                      rw [nI_0] at b1
                      rw [b1]
                      exact d1
                    · show _ = va_cpy (S.sh s).ce (S.sh t).ce pp aa qq c
                      by_cases e : aa ≤ c ∧ c < aa + qq
                      · rw [pk_cpy_in e.1 e.2]
                        have := d3 (c - aa) (Nat.zero_le _) (by omega)
                        rw [show aa + (c - aa) = c by omega] at this
                        exact this
                      · rw [pk_cpy_out (by omega), d4 _ (by omega), q126]; exact hu.ce t ht c hc
                · refine Cro hS (-1000000013) (fun u hu => ?_) (fun u hu => ?_)
                  · show f_X6_copy u (nI s) (nI pp) (nI t) (nI aa) (nI qq) = _
                    rw [hC u hu, if_neg n1, if_neg o1, if_pos hk, bG1 (by rw [st_C u (tg77 s hs) (hu.ln s hs) k1 hpp hqq, if_pos z1]), bG0 (by rw [st_C u (tg77 t ht) (hu.ln t ht) j1 haa hqq, if_neg z2])]
                  · show f_X7_copy u (nI s) (nI pp) (nI t) (nI aa) (nI qq) = _
                    rw [hM u hu, if_neg n3, if_pos o2, if_pos hk, if_neg (nI_pos hpp), if_neg (nI_pos haa), if_neg (nI_pos hqq), if_neg (fun e => (st_M k1 hpp hqq).mp e z1), if_neg (Int32.not_le.mpr ((st_M j1 haa hqq).mpr z2))]
              · refine Cro hS (-1000000013) (fun u hu => ?_) (fun u hu => ?_)
                · show f_X6_copy u (nI s) (nI pp) (nI t) (nI aa) (nI qq) = _
                  rw [hC u hu, if_neg n1, if_neg o1, if_pos hk, bG0 (by rw [st_C u (tg77 s hs) (hu.ln s hs) k1 hpp hqq, if_neg z1])]
                · show f_X7_copy u (nI s) (nI pp) (nI t) (nI aa) (nI qq) = _
                  rw [hM u hu, if_neg n3, if_pos o2, if_pos hk, if_neg (nI_pos hpp), if_neg (nI_pos haa), if_neg (nI_pos hqq), if_pos ((st_M k1 hpp hqq).mpr z1)]
          · exact Cro hS (-1000000012) (fun u hu => by show f_X6_copy u (nI s) p (nI t) a q = _; rw [hC u hu, if_neg n1, if_neg o1, if_neg hk]) (fun u hu => by show f_X7_copy u (nI s) p (nI t) a q = _; rw [hM u hu, if_neg n3, if_pos o2, if_neg hk])
    · refine Cro hS (-1000000001) (fun u hu => ?_) (fun u hu => ?_)
      · show f_X6_copy u (nI s) p y a q = _
        unfold f_X6_copy
        rw [bG1 (sC1 u hs), bG0 (sC0 u hy)]
      · show f_X7_copy u (nI s) p y a q = _
        unfold f_X7_copy
        rw [bG1 (sM1 u hs), bG0 (sM0 u hy)]
  · refine Cro hS (-1000000001) (fun u hu => ?_) (fun u hu => ?_)
    · show f_X6_copy u x p y a q = _
      unfold f_X6_copy
      rw [bG0 (sC0 u hx)]
    · show f_X7_copy u x p y a q = _
      unfold f_X7_copy
      rw [bG0 (sM0 u hx)]
