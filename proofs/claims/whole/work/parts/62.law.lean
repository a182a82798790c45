/-! THE LAW'S LOOP -/
theorem MI_lo {u v : am_MU} {S : AS} (h : lo u v) (hu : MI u S) : MI v S := MI_congr (fun a h1 h2 => h a (Nat.not_lt.mp (fun q => h1 (Or.inl q)))) (by rw [h 110 (Nat.le_refl _)]) (by rw [h 110 (Nat.le_refl _)]) (by rw [h 110 (Nat.le_refl _)]) hu
theorem CI_hi {u v : am_MU} {S : AS} {B : Nat} (hS : OK S B) (h : hi u v) (hu : CI u S) : CI v S := CI_congr hS (fun a h1 => h a (Nat.not_le.mp (fun q => h1 (Or.inr q)))) hu
theorem law_step {fc fm : am_MU → Option (am_MU × Int32)} (hC : Call fc fm) {S : AS} {B : Nat} {u : am_MU} (hS : OK S B) (hB : B < 900000) (hu : CI u S) (hm : MI u S) : ∃ S' u1 u2 r, fc u = some (u1, r) ∧ fm u1 = some (u2, r) ∧ OK S' (B + 2400) ∧ CI u2 S' ∧ MI u2 S' := by
  obtain ⟨S', r, h1, h2, h3⟩ := hC S B hS hB
  obtain ⟨u1, a1, a2, a3⟩ := h2 u hu
  obtain ⟨u2, b1, b2, b3⟩ := h3 u1 (MI_lo a3 hm)
  exact ⟨S', u1, u2, r, a1, b1, h1, CI_hi h1 b3 a2, b2⟩
theorem law_br {X : Nat × (Nat → Int32)} {K : am_MU → Int32 → Option (am_MU × Int32)} {u : am_MU} {i : Nat} {S : AS} {B : Nat} (fc fm : am_MU → Option (am_MU × Int32)) (hC : Call fc fm) (hS : OK S B) (hB : B < 900000) (hu : CI u S) (hm : MI u S) (hK : ∀ u S, OK S (B + 2400) → CI u S → MI u S → ∃ u', K u (nI (i + 6)) = some (u', 1)) : ∃ u', ((fc u).bind fun q5 => (fm q5.1).bind fun q6 => if q5.2 = q6.2 then (g_L_law_1582 X K q6.1 (nI i)) else (some (q6.1, (0 : Int32)))) = some (u', 1) := by
  obtain ⟨S', u1, u2, r, a1, a2, a3, a4, a5⟩ := law_step hC hS hB hu hm
  obtain ⟨u', k⟩ := hK u2 S' a3 a4 a5
  refine ⟨u', ?_⟩
  rw [a1, p_some]
  dsimp only
  rw [a2, p_some]
  dsimp only
  rw [if_pos rfl]
  unfold g_L_law_1582
  rw [p_let, show (6 : Int32) = nI 6 from rfl, nI_add]
  exact k
theorem law_loop (X : Nat × (Nat → Int32)) (hX : X.1 ≤ 384) : ∀ (m k fu : Nat) (u : am_MU) (S : AS) (B : Nat), k + m = 65 → m < fu → B ≤ 2400 * k → OK S B → CI u S → MI u S → ∃ u', g_L_law_18 X fu u (nI (6 * k)) = some (u', 1) := by
  have e6 : ∀ i, i < 1000 → ((Int32.ofNat X.1) - (6 : Int32) < nI i ↔ X.1 < i + 6) := fun i hi => by
    rw [show Int32.ofNat X.1 = nI X.1 from rfl, show (6 : Int32) = nI 6 from rfl, Int32.lt_iff_toInt_lt, pk_sub_toInt (by omega) (by decide), nI_toInt (by omega)]
    omega
  intro m
  induction m with
  | zero =>
    intro k fu u S B h1 h2 h3 hS hu hm
    obtain ⟨fu, rfl⟩ : ∃ k, fu = k + 1 := ⟨fu - 1, by omega⟩
    rw [g_L_law_18]
    dsimp only
    rw [if_pos ((e6 _ (by omega)).mpr (by omega))]
    exact ⟨u, rfl⟩
  | succ m ih =>
    intro k fu u S B h1 h2 h3 hS hu hm
    obtain ⟨fu, rfl⟩ : ∃ k, fu = k + 1 := ⟨fu - 1, by omega⟩
    rw [g_L_law_18]
    dsimp only
    by_cases z : X.1 < 6 * k + 6
    · rw [if_pos ((e6 _ (by omega)).mpr z)]
      exact ⟨u, rfl⟩
    · rw [if_neg (fun q => z ((e6 _ (by omega)).mp q))]
      have hB : B < 900000 := by omega
      have hK : ∀ u S, OK S (B + 2400) → CI u S → MI u S → ∃ u', g_L_law_18 X fu u (nI (6 * k + 6)) = some (u', 1) := fun u S a b c => ih (k + 1) fu u S (B + 2400) (by omega) (by omega) (by omega) a b c
      generalize hi : 6 * k = i at *
      have e1 : nI i + 1 = nI (i + 1) := nI_1 i
      have e2 : nI i + 2 = nI (i + 2) := nI_add i 2
      have e3 : nI i + 3 = nI (i + 3) := nI_add i 3
      have e4 : nI i + 4 = nI (i + 4) := nI_add i 4
      have e5 : nI i + 5 = nI (i + 5) := nI_add i 5
      have c1 : (nI (i + 1)).toNatClampNeg = i + 1 := nI_clamp (by omega)
      have c2 : (nI (i + 2)).toNatClampNeg = i + 2 := nI_clamp (by omega)
      have c3 : (nI (i + 3)).toNatClampNeg = i + 3 := nI_clamp (by omega)
      have c4 : (nI (i + 4)).toNatClampNeg = i + 4 := nI_clamp (by omega)
      have c5 : (nI (i + 5)).toNatClampNeg = i + 5 := nI_clamp (by omega)
      have i1 : am_in (nI (i + 1)) X.1 = true := p_inT (by omega) (by omega)
      have i2 : am_in (nI (i + 2)) X.1 = true := p_inT (by omega) (by omega)
      have i3 : am_in (nI (i + 3)) X.1 = true := p_inT (by omega) (by omega)
      have i4 : am_in (nI (i + 4)) X.1 = true := p_inT (by omega) (by omega)
      have i5 : am_in (nI (i + 5)) X.1 = true := p_inT (by omega) (by omega)
      rw [if_pos (p_inT (show i < 2 ^ 31 by omega) (show i < X.1 by omega)), nI_clamp (show i < 2 ^ 31 by omega)]
      by_cases h0 : X.2 i &&& 63 = 0
      · rw [if_pos h0, e1, if_pos i1, c1]
        exact law_br (fun u => f_X6_floor u (X.2 (i + 1))) (fun u => f_X7_floor u (X.2 (i + 1))) (k_floor (X.2 (i + 1))) hS hB hu hm hK
      rw [if_neg h0]
      by_cases h1 : X.2 i &&& 63 = 1
      · rw [if_pos h1, e1, if_pos i1, e2, if_pos i2, c1, c2]
        exact law_br (fun u => f_X6_told u (X.2 (i + 1)) (X.2 (i + 2))) (fun u => f_X7_told u (X.2 (i + 1)) (X.2 (i + 2))) (k_told (X.2 (i + 1)) (X.2 (i + 2))) hS hB hu hm hK
      rw [if_neg h1]
      by_cases h2 : X.2 i &&& 63 = 2
      · rw [if_pos h2, e1, if_pos i1, e2, if_pos i2, c1, c2]
        exact law_br (fun u => f_X6_as u (X.2 (i + 1)) (X.2 (i + 2))) (fun u => f_X7_as u (X.2 (i + 1)) (X.2 (i + 2))) (k_as (X.2 (i + 1)) (X.2 (i + 2))) hS hB hu hm hK
      rw [if_neg h2]
      by_cases h3 : X.2 i &&& 63 = 3
      · rw [if_pos h3, e1, if_pos i1, e2, if_pos i2, c1, c2]
        exact law_br (fun u => f_X6_turns u (X.2 (i + 1)) (X.2 (i + 2))) (fun u => f_X7_turns u (X.2 (i + 1)) (X.2 (i + 2))) (k_turns (X.2 (i + 1)) (X.2 (i + 2))) hS hB hu hm hK
      rw [if_neg h3]
      by_cases h4 : X.2 i &&& 63 = 4
      · rw [if_pos h4, e1, if_pos i1, e2, if_pos i2, c1, c2]
        exact law_br (fun u => f_X6_sea u (X.2 (i + 1)) (X.2 (i + 2))) (fun u => f_X7_sea u (X.2 (i + 1)) (X.2 (i + 2))) (k_sea (X.2 (i + 1)) (X.2 (i + 2))) hS hB hu hm hK
      rw [if_neg h4]
      by_cases h5 : X.2 i &&& 63 = 5
      · rw [if_pos h5, e1, if_pos i1, e2, if_pos i2, c1, c2]
        exact law_br (fun u => f_X6_sand u (X.2 (i + 1)) (X.2 (i + 2))) (fun u => f_X7_sand u (X.2 (i + 1)) (X.2 (i + 2))) (k_sand (X.2 (i + 1)) (X.2 (i + 2))) hS hB hu hm hK
      rw [if_neg h5]
      by_cases h6 : X.2 i &&& 63 = 6
      · rw [if_pos h6, e1, if_pos i1, e2, if_pos i2, e3, if_pos i3, c1, c2, c3]
        exact law_br (fun u => f_X6_heap u (X.2 (i + 1)) (X.2 (i + 2)) (X.2 (i + 3))) (fun u => f_X7_heap u (X.2 (i + 1)) (X.2 (i + 2)) (X.2 (i + 3))) (k_heap (X.2 (i + 1)) (X.2 (i + 2)) (X.2 (i + 3))) hS hB hu hm hK
      rw [if_neg h6]
      by_cases h7 : X.2 i &&& 63 = 7
      · rw [if_pos h7, e1, if_pos i1, c1]
        exact law_br (fun u => f_X6_deal u (X.2 (i + 1))) (fun u => f_X7_deal u (X.2 (i + 1))) (k_deal (X.2 (i + 1))) hS hB hu hm hK
      rw [if_neg h7]
      by_cases h8 : X.2 i &&& 63 = 8
      · rw [if_pos h8, e1, if_pos i1, c1]
        exact law_br (fun u => f_X6_seed u (X.2 (i + 1))) (fun u => f_X7_seed u (X.2 (i + 1))) (k_seed (X.2 (i + 1))) hS hB hu hm hK
      rw [if_neg h8]
      by_cases h9 : X.2 i &&& 63 = 9
      · rw [if_pos h9, e1, if_pos i1, e2, if_pos i2, e3, if_pos i3, c1, c2, c3]
        exact law_br (fun u => f_X6_lift u (X.2 (i + 1)) (X.2 (i + 2)) (X.2 (i + 3))) (fun u => f_X7_lift u (X.2 (i + 1)) (X.2 (i + 2)) (X.2 (i + 3))) (k_lift (X.2 (i + 1)) (X.2 (i + 2)) (X.2 (i + 3))) hS hB hu hm hK
      rw [if_neg h9]
      by_cases h10 : X.2 i &&& 63 = 10
      · rw [if_pos h10, e1, if_pos i1, e2, if_pos i2, c1, c2]
        exact law_br (fun u => f_X6_run u (X.2 (i + 1)) (X.2 (i + 2))) (fun u => f_X7_run u (X.2 (i + 1)) (X.2 (i + 2))) (k_run (X.2 (i + 1)) (X.2 (i + 2))) hS hB hu hm hK
      rw [if_neg h10]
      by_cases h11 : X.2 i &&& 63 = 11
      · rw [if_pos h11, e1, if_pos i1, e2, if_pos i2, c1, c2]
        exact law_br (fun u => f_X6_crest u (X.2 (i + 1)) (X.2 (i + 2))) (fun u => f_X7_crest u (X.2 (i + 1)) (X.2 (i + 2))) (k_crest (X.2 (i + 1)) (X.2 (i + 2))) hS hB hu hm hK
      rw [if_neg h11]
      by_cases h12 : X.2 i &&& 63 = 12
      · rw [if_pos h12, e1, if_pos i1, c1]
        exact law_br (fun u => f_X6_apart u (X.2 (i + 1))) (fun u => f_X7_apart u (X.2 (i + 1))) (k_apart (X.2 (i + 1))) hS hB hu hm hK
      rw [if_neg h12]
      by_cases h13 : X.2 i &&& 63 = 13
      · rw [if_pos h13, e1, if_pos i1, e2, if_pos i2, c1, c2]
        exact law_br (fun u => f_X6_flat u (X.2 (i + 1)) (X.2 (i + 2))) (fun u => f_X7_flat u (X.2 (i + 1)) (X.2 (i + 2))) (k_flat (X.2 (i + 1)) (X.2 (i + 2))) hS hB hu hm hK
      rw [if_neg h13]
      by_cases h14 : X.2 i &&& 63 = 14
      · rw [if_pos h14, e1, if_pos i1, e2, if_pos i2, c1, c2]
        exact law_br (fun u => f_X6_soon u (X.2 (i + 1)) (X.2 (i + 2))) (fun u => f_X7_soon u (X.2 (i + 1)) (X.2 (i + 2))) (k_soon (X.2 (i + 1)) (X.2 (i + 2))) hS hB hu hm hK
      rw [if_neg h14]
      by_cases h15 : X.2 i &&& 63 = 15
      · rw [if_pos h15, e1, if_pos i1, c1]
        exact law_br (fun u => f_X6_period u (X.2 (i + 1))) (fun u => f_X7_period u (X.2 (i + 1))) (k_period (X.2 (i + 1))) hS hB hu hm hK
      rw [if_neg h15]
      by_cases h16 : X.2 i &&& 63 = 16
      · rw [if_pos h16, e1, if_pos i1, e2, if_pos i2, e3, if_pos i3, c1, c2, c3]
        exact law_br (fun u => f_X6_foot u (X.2 (i + 1)) (X.2 (i + 2)) (X.2 (i + 3))) (fun u => f_X7_foot u (X.2 (i + 1)) (X.2 (i + 2)) (X.2 (i + 3))) (k_foot (X.2 (i + 1)) (X.2 (i + 2)) (X.2 (i + 3))) hS hB hu hm hK
      rw [if_neg h16]
      by_cases h17 : X.2 i &&& 63 = 17
      · rw [if_pos h17, e1, if_pos i1, e2, if_pos i2, c1, c2]
        exact law_br (fun u => f_X6_worm u (X.2 (i + 1)) (X.2 (i + 2))) (fun u => f_X7_worm u (X.2 (i + 1)) (X.2 (i + 2))) (k_worm (X.2 (i + 1)) (X.2 (i + 2))) hS hB hu hm hK
      rw [if_neg h17]
      by_cases h18 : X.2 i &&& 63 = 18
      · rw [if_pos h18, e1, if_pos i1, e2, if_pos i2, c1, c2]
        exact law_br (fun u => f_X6_press u (X.2 (i + 1)) (X.2 (i + 2))) (fun u => f_X7_press u (X.2 (i + 1)) (X.2 (i + 2))) (k_press (X.2 (i + 1)) (X.2 (i + 2))) hS hB hu hm hK
      rw [if_neg h18]
      by_cases h19 : X.2 i &&& 63 = 19
      · rw [if_pos h19, e1, if_pos i1, e2, if_pos i2, c1, c2]
        exact law_br (fun u => f_X6_unlike u (X.2 (i + 1)) (X.2 (i + 2))) (fun u => f_X7_unlike u (X.2 (i + 1)) (X.2 (i + 2))) (k_unlike (X.2 (i + 1)) (X.2 (i + 2))) hS hB hu hm hK
      rw [if_neg h19]
      by_cases h20 : X.2 i &&& 63 = 20
      · rw [if_pos h20, e1, if_pos i1, e2, if_pos i2, e3, if_pos i3, c1, c2, c3]
        exact law_br (fun u => f_X6_turned u (X.2 (i + 1)) (X.2 (i + 2)) (X.2 (i + 3))) (fun u => f_X7_turned u (X.2 (i + 1)) (X.2 (i + 2)) (X.2 (i + 3))) (k_turned (X.2 (i + 1)) (X.2 (i + 2)) (X.2 (i + 3))) hS hB hu hm hK
      rw [if_neg h20]
      by_cases h21 : X.2 i &&& 63 = 21
      · rw [if_pos h21, e1, if_pos i1, e2, if_pos i2, e3, if_pos i3, c1, c2, c3]
        exact law_br (fun u => f_X6_seen u (X.2 (i + 1)) (X.2 (i + 2)) (X.2 (i + 3))) (fun u => f_X7_seen u (X.2 (i + 1)) (X.2 (i + 2)) (X.2 (i + 3))) (k_seen (X.2 (i + 1)) (X.2 (i + 2)) (X.2 (i + 3))) hS hB hu hm hK
      rw [if_neg h21]
      by_cases h22 : X.2 i &&& 63 = 22
      · rw [if_pos h22, e1, if_pos i1, e2, if_pos i2, e3, if_pos i3, c1, c2, c3]
        exact law_br (fun u => f_X6_best u (X.2 (i + 1)) (X.2 (i + 2)) (X.2 (i + 3))) (fun u => f_X7_best u (X.2 (i + 1)) (X.2 (i + 2)) (X.2 (i + 3))) (k_best (X.2 (i + 1)) (X.2 (i + 2)) (X.2 (i + 3))) hS hB hu hm hK
      rw [if_neg h22]
      by_cases h23 : X.2 i &&& 63 = 23
      · rw [if_pos h23, e1, if_pos i1, e2, if_pos i2, e3, if_pos i3, c1, c2, c3]
        exact law_br (fun u => f_X6_feed u (X.2 (i + 1)) (X.2 (i + 2)) (X.2 (i + 3))) (fun u => f_X7_feed u (X.2 (i + 1)) (X.2 (i + 2)) (X.2 (i + 3))) (k_feed (X.2 (i + 1)) (X.2 (i + 2)) (X.2 (i + 3))) hS hB hu hm hK
      rw [if_neg h23]
      by_cases h24 : X.2 i &&& 63 = 24
      · rw [if_pos h24, e1, if_pos i1, c1]
        exact law_br (fun u => f_X6_trim u (X.2 (i + 1))) (fun u => f_X7_trim u (X.2 (i + 1))) (k_trim (X.2 (i + 1))) hS hB hu hm hK
      rw [if_neg h24]
      by_cases h25 : X.2 i &&& 63 = 25
      · rw [if_pos h25]
        exact law_br (fun u => f_X6_text u ) (fun u => f_X7_text u ) k_text hS hB hu hm hK
      rw [if_neg h25]
      by_cases h26 : X.2 i &&& 63 = 26
      · rw [if_pos h26, e1, if_pos i1, e2, if_pos i2, c1, c2]
        exact law_br (fun u => f_X6_textTold u (X.2 (i + 1)) (X.2 (i + 2))) (fun u => f_X7_textTold u (X.2 (i + 1)) (X.2 (i + 2))) (k_textTold (X.2 (i + 1)) (X.2 (i + 2))) hS hB hu hm hK
      rw [if_neg h26]
      by_cases h27 : X.2 i &&& 63 = 27
      · rw [if_pos h27, e1, if_pos i1, c1]
        exact law_br (fun u => f_X6_why u (X.2 (i + 1))) (fun u => f_X7_why u (X.2 (i + 1))) (k_why (X.2 (i + 1))) hS hB hu hm hK
      rw [if_neg h27]
      by_cases h28 : X.2 i &&& 63 = 28
      · rw [if_pos h28, e1, if_pos i1, e2, if_pos i2, e3, if_pos i3, c1, c2, c3]
        exact law_br (fun u => f_X6_sheet u (X.2 (i + 1)) (X.2 (i + 2)) (X.2 (i + 3))) (fun u => f_X7_sheet u (X.2 (i + 1)) (X.2 (i + 2)) (X.2 (i + 3))) (k_sheet (X.2 (i + 1)) (X.2 (i + 2)) (X.2 (i + 3))) hS hB hu hm hK
      rw [if_neg h28]
      by_cases h29 : X.2 i &&& 63 = 29
      · rw [if_pos h29, e1, if_pos i1, e2, if_pos i2, e3, if_pos i3, c1, c2, c3]
        exact law_br (fun u => f_X6_mark u (X.2 (i + 1)) (X.2 (i + 2)) (X.2 (i + 3))) (fun u => f_X7_mark u (X.2 (i + 1)) (X.2 (i + 2)) (X.2 (i + 3))) (k_mark (X.2 (i + 1)) (X.2 (i + 2)) (X.2 (i + 3))) hS hB hu hm hK
      rw [if_neg h29]
      by_cases h30 : X.2 i &&& 63 = 30
      · rw [if_pos h30, e1, if_pos i1, e2, if_pos i2, c1, c2]
        exact law_br (fun u => f_X6_pour u (X.2 (i + 1)) (X.2 (i + 2))) (fun u => f_X7_pour u (X.2 (i + 1)) (X.2 (i + 2))) (k_pour (X.2 (i + 1)) (X.2 (i + 2))) hS hB hu hm hK
      rw [if_neg h30]
      by_cases h31 : X.2 i &&& 63 = 31
      · rw [if_pos h31, e1, if_pos i1, e2, if_pos i2, c1, c2]
        exact law_br (fun u => f_X6_reads u (X.2 (i + 1)) (X.2 (i + 2))) (fun u => f_X7_reads u (X.2 (i + 1)) (X.2 (i + 2))) (k_reads (X.2 (i + 1)) (X.2 (i + 2))) hS hB hu hm hK
      rw [if_neg h31]
      by_cases h32 : X.2 i &&& 63 = 32
      · rw [if_pos h32, e1, if_pos i1, e2, if_pos i2, e3, if_pos i3, e4, if_pos i4, e5, if_pos i5, c1, c2, c3, c4, c5]
        exact law_br (fun u => f_X6_copy u (X.2 (i + 1)) (X.2 (i + 2)) (X.2 (i + 3)) (X.2 (i + 4)) (X.2 (i + 5))) (fun u => f_X7_copy u (X.2 (i + 1)) (X.2 (i + 2)) (X.2 (i + 3)) (X.2 (i + 4)) (X.2 (i + 5))) (k_copy (X.2 (i + 1)) (X.2 (i + 2)) (X.2 (i + 3)) (X.2 (i + 4)) (X.2 (i + 5))) hS hB hu hm hK
      rw [if_neg h32]
      by_cases h33 : X.2 i &&& 63 = 33
      · rw [if_pos h33, e1, if_pos i1, e2, if_pos i2, e3, if_pos i3, c1, c2, c3]
        exact law_br (fun u => f_X6_lay u (X.2 (i + 1)) (X.2 (i + 2)) (X.2 (i + 3))) (fun u => f_X7_lay u (X.2 (i + 1)) (X.2 (i + 2)) (X.2 (i + 3))) (k_lay (X.2 (i + 1)) (X.2 (i + 2)) (X.2 (i + 3))) hS hB hu hm hK
      rw [if_neg h33]
      by_cases h34 : X.2 i &&& 63 = 34
      · rw [if_pos h34, e1, if_pos i1, e2, if_pos i2, c1, c2]
        exact law_br (fun u => f_X6_ask u (X.2 (i + 1)) (X.2 (i + 2))) (fun u => f_X7_ask u (X.2 (i + 1)) (X.2 (i + 2))) (k_ask (X.2 (i + 1)) (X.2 (i + 2))) hS hB hu hm hK
      rw [if_neg h34]
      by_cases h35 : X.2 i &&& 63 = 35
      · rw [if_pos h35, e1, if_pos i1, e2, if_pos i2, c1, c2]
        exact law_br (fun u => f_X6_item u (X.2 (i + 1)) (X.2 (i + 2))) (fun u => f_X7_item u (X.2 (i + 1)) (X.2 (i + 2))) (k_item (X.2 (i + 1)) (X.2 (i + 2))) hS hB hu hm hK
      rw [if_neg h35]
      by_cases h36 : X.2 i &&& 63 = 36
      · rw [if_pos h36, e1, if_pos i1, e2, if_pos i2, c1, c2]
        exact law_br (fun u => f_X6_rest u (X.2 (i + 1)) (X.2 (i + 2))) (fun u => f_X7_rest u (X.2 (i + 1)) (X.2 (i + 2))) (k_rest (X.2 (i + 1)) (X.2 (i + 2))) hS hB hu hm hK
      rw [if_neg h36]
      by_cases h37 : X.2 i &&& 63 = 37
      · rw [if_pos h37, e1, if_pos i1, c1]
        exact law_br (fun u => f_X6_tell u (X.2 (i + 1))) (fun u => f_X7_tell u (X.2 (i + 1))) (k_tell (X.2 (i + 1))) hS hB hu hm hK
      rw [if_neg h37]
      by_cases h38 : X.2 i &&& 63 = 38
      · rw [if_pos h38, e1, if_pos i1, e2, if_pos i2, c1, c2]
        exact law_br (fun u => f_X6_check u (X.2 (i + 1)) (X.2 (i + 2))) (fun u => f_X7_check u (X.2 (i + 1)) (X.2 (i + 2))) (k_check (X.2 (i + 1)) (X.2 (i + 2))) hS hB hu hm hK
      rw [if_neg h38]
      by_cases h39 : X.2 i &&& 63 = 39
      · rw [if_pos h39]
        exact law_br (fun u => f_X6_keep u ) (fun u => f_X7_keep u ) k_keep hS hB hu hm hK
      rw [if_neg h39]
      by_cases h40 : X.2 i &&& 63 = 40
      · rw [if_pos h40]
        exact law_br (fun u => f_X6_back u ) (fun u => f_X7_back u ) k_back hS hB hu hm hK
      rw [if_neg h40]
      by_cases h41 : X.2 i &&& 63 = 41
      · rw [if_pos h41, e1, if_pos i1, c1]
        exact law_br (fun u => f_X6_count u (X.2 (i + 1))) (fun u => f_X7_count u (X.2 (i + 1))) (k_count (X.2 (i + 1))) hS hB hu hm hK
      rw [if_neg h41]
      unfold g_L_law_1582
      rw [p_let, show (6 : Int32) = nI 6 from rfl, nI_add]
      exact hK u S (OK_mono hS (by omega)) hu hm
/-! THE START -/
def sea0 (j : Nat) : Int32 := if j = 0 then 3 else if j = 1 then 2 else if j = 2 then 5 else 4
def S_0 : AS := (fun _ => (0, 0, 0, fun _ => 0, fun _ => 0), (0, sea0, 1, 0, fun _ => (0, 0, fun _ => 0)), none, 0, fun _ => 0, fun _ => (-1, 0, fun _ => 0), fun _ => (0, (0, 0, fun _ => 0), 0, fun _ => 0, 0), 0, fun _ => 0)
theorem S_0_OK : OK S_0 0 := ⟨⟨by decide, by decide, by decide, by decide, fun i hi => absurd hi (Nat.not_lt_zero _), fun i hi => absurd hi (Nat.not_lt_zero _), fun i hi => absurd hi (Nat.not_lt_zero _)⟩, fun W hW => absurd hW (by simp [S_0]), by decide, fun s _ => ⟨by show (0 : Nat) ≤ 24; decide, Or.inl rfl, fun c _ => big0⟩, fun k _ => ⟨by show (0 : Nat) < 4; decide, by show (0 : Nat) ≤ 24; decide, fun q => absurd q (show ¬ 0 = 1 by decide)⟩, by decide⟩
theorem u0_a : u0 1 1 = 0 ∧ u0 1 3 = 1 ∧ u0 1 4 = 0 ∧ u0 0 2 = 0 ∧ u0 0 9 = 0 ∧ u0 0 13 = 0 := by decide +kernel
theorem u0_b : ∀ j, j < 4 → u0 2 j = sea0 j := by decide +kernel
theorem u0_c : ∀ j, j < 3 → u0 3 j = -1000000005 := by decide +kernel
theorem u0_d : ∀ s, s < 4 → u0 (77 + 2 * s) 0 = -1 ∧ u0 (77 + 2 * s) 1 = 0 ∧ ∀ c, c < 24 → u0 (78 + 2 * s) c = 0 := by decide +kernel
theorem u0_e : ∀ k, k < 5 → u0 (85 + 5 * k) 0 = 0 := by decide +kernel
theorem u0_f : u0 111 0 = 1 ∧ u0 111 1 = 0 ∧ u0 111 6 = 0 ∧ u0 110 3 = 0 ∧ u0 110 7 = 0 ∧ u0 110 33 = 0 := by decide +kernel
theorem u0_g : ∀ j, j < 4 → u0 111 (2 + j) = sea0 j := by decide +kernel
theorem u0_h : ∀ s, s < 4 → u0 124 s = -1 ∧ u0 125 s = 0 ∧ ∀ c, c < 24 → u0 126 (24 * s + c) = 0 := by decide +kernel
theorem u0_i : ∀ k, k < 5 → u0 127 k = 0 := by decide +kernel
theorem u0_j : (∀ k, k < 13 → u0 117 k = keysL.getD k 0) ∧ ∀ k, k < 4 → u0 118 k = keyAtL.getD k 0 := by decide +kernel
theorem u0_CI : CI u0 S_0 := by
  obtain ⟨a1, a2, a3, a4, a5, a6⟩ := u0_a
  refine ⟨⟨a1, u0_b, a2, a3, u0_c, fun i hi => absurd hi (Nat.not_lt_zero _)⟩, a4, fun W hW => absurd hW (by simp [S_0]), fun t ht => absurd ht (Nat.not_lt_zero _), a5, fun k hk => absurd hk (Nat.not_lt_zero _), fun s hs => (u0_d s hs).1, fun s hs => (u0_d s hs).2.1, fun s hs => (u0_d s hs).2.2, fun k hk => ⟨u0_e k hk, fun q => absurd q (show ¬ 0 = 1 by decide), fun q => absurd q (show ¬ 0 = 2 by decide), fun q => absurd q (show ¬ 0 = 2 by decide), fun q => absurd q (show ¬ 0 = 3 by decide)⟩, a6, fun k hk => absurd hk (Nat.not_lt_zero _)⟩
theorem u0_MI : MI u0 S_0 := by
  obtain ⟨a1, a2, a3, a4, a5, a6⟩ := u0_f
  refine ⟨⟨a1, a2, u0_g, a3, fun i hi => absurd hi (Nat.not_lt_zero _), fun t ht => absurd ht (Nat.not_lt_zero _), fun t ht => absurd ht (Nat.not_lt_zero _), fun t ht => absurd ht (Nat.not_lt_zero _)⟩, a4, fun W hW => absurd hW (by simp [S_0]), a5, fun k hk => absurd hk (Nat.not_lt_zero _), fun s hs => (u0_h s hs).1, fun s hs => (u0_h s hs).2.1, fun s hs => (u0_h s hs).2.2, fun k hk => ⟨u0_i k hk, fun q => absurd q (show ¬ 0 = 1 by decide), fun q => absurd q (show ¬ 0 = 2 by decide), fun q => absurd q (show ¬ 0 = 2 by decide), fun q => absurd q (show ¬ 0 = 3 by decide)⟩, a6, fun k hk => absurd hk (Nat.not_lt_zero _), u0_j.1, u0_j.2⟩
/-- WHAT WAS LEFT -/
theorem pure_goal : PureGoal := fun X hX => by
  have := law_loop X hX 65 0 1700 u0 S_0 0 rfl (by decide) (Nat.le_refl _) S_0_OK u0_CI u0_MI
  rw [Nat.mul_zero, nI_0] at this
  exact this
