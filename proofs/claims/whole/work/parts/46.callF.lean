/-! sheets -/
def shOK (x : SH) : Prop := x.ln ≤ 24 ∧ (x.so = -1 ∨ x.so = 0 ∨ x.so = 1) ∧ ∀ c, c < 24 → big (x.ce c)
theorem Csh {fc fm : am_MU → Option (am_MU × Int32)} {S : AS} {B s : Nat} (hS : OK S B) (hs : s < 4) (x : SH) (r : Int32) (hx : shOK x) (hc : ∀ u, CI u S → ∃ u', fc u = some (u', r) ∧ same [77 + 2 * s, 77 + 2 * s + 1] u u' ∧ u' (77 + 2 * s) 0 = x.so ∧ u' (77 + 2 * s) 1 = nI x.ln ∧ ∀ c, c < 24 → u' (77 + 2 * s + 1) c = x.ce c) (hm : ∀ u, MI u S → ∃ u', fm u = some (u', r) ∧ same [124, 125, 126, 131] u u' ∧ (∀ j, j < 4 → j ≠ s → u' 124 j = u 124 j ∧ u' 125 j = u 125 j) ∧ (∀ j, (j < 24 * s ∨ 24 * s + 24 ≤ j) → u' 126 j = u 126 j) ∧ u' 124 s = x.so ∧ u' 125 s = nI x.ln ∧ ∀ c, c < 24 → u' 126 (24 * s + c) = x.ce c) : Res fc fm S B := by
  have h := OK_mono hS (show B ≤ B + 2400 by omega)
  have hmm := hS.now.m
  refine ⟨(S.T, S.now, S.img, S.tl, S.tp, fun j => if j = s then x else S.sh j, S.sl, S.wc, S.wt), r, ⟨h.now, h.img, h.tl, fun j hj => ?_, h.sl, h.wc⟩, fun u hu => ?_, fun u hu => ?_⟩
  · show shOK (if j = s then x else S.sh j)
    by_cases e : j = s
    · rw [if_pos e]; exact hx
    · rw [if_neg e]; exact h.sh j hj
  · obtain ⟨v, e1, e2, e3, e4, e5⟩ := hc u hu
    have h' : ∀ a, a ≠ 77 + 2 * s → a ≠ 77 + 2 * s + 1 → v a = u a := fun a h1 h2 => e2 a (by simp; omega)
    refine ⟨v, e1, ⟨CW_congr (h' _ (by omega) (by omega)) (h' _ (by omega) (by omega)) (h' _ (by omega) (by omega)) (fun a h1 h2 => h' a (by omega) (by omega)) hS.now.n hu.now, by rw [h' 0 (by omega) (by omega)]; exact hu.kept, fun W hW => CW_congr (h' _ (by omega) (by omega)) (h' _ (by omega) (by omega)) (h' _ (by omega) (by omega)) (fun a h1 h2 => h' a (by omega) (by omega)) (hS.img W hW).1.n (hu.img W hW), fun t ht => by have ht : t < S.now.m := ht; exact CT_congr (h' _ (by omega) (by omega)) (h' _ (by omega) (by omega)) (hu.tx t ht), by rw [h' 0 (by omega) (by omega)]; exact hu.tl, fun k hk => by rw [h' 45 (by omega) (by omega)]; exact hu.tp k hk, fun j hj => ?_, fun j hj => ?_, fun j hj c hc => ?_, fun k hk => CS_congr (fun b h1 h2 => h' b (by omega) (by omega)) (hu.sl k hk), by rw [h' 0 (by omega) (by omega)]; exact hu.wc, fun k hk => by rw [h' 48 (by omega) (by omega)]; exact hu.wt k hk⟩, lo_same e2 (by simp; omega)⟩
    · show _ = SH.so (if j = s then x else S.sh j)
      by_cases e : j = s
      · rw [if_pos e, e]; exact e3
      · rw [if_neg e, h' _ (by omega) (by omega)]; exact hu.so j hj
    · show _ = nI (SH.ln (if j = s then x else S.sh j))
      by_cases e : j = s
      · rw [if_pos e, e]; exact e4
      · rw [if_neg e, h' _ (by omega) (by omega)]; exact hu.ln j hj
    · show _ = SH.ce (if j = s then x else S.sh j) c
      by_cases e : j = s
      · rw [if_pos e, e, show 78 + 2 * s = 77 + 2 * s + 1 by omega]; exact e5 c hc
      · rw [if_neg e, h' _ (by omega) (by omega)]; exact hu.ce j hj c hc
  · obtain ⟨v, e1, e2, e3, e4, e5, e6, e7⟩ := hm u hu
    have h' : ∀ a, a ≠ 124 → a ≠ 125 → a ≠ 126 → a ≠ 131 → v a = u a := fun a h1 h2 h3 h4 => e2 a (by simp; omega)
    refine ⟨v, e1, ⟨by rw [h' 111 (by omega) (by omega) (by omega) (by omega)]; exact hu.now, by rw [h' 110 (by omega) (by omega) (by omega) (by omega)]; exact hu.kept, fun W hW => by rw [h' 112 (by omega) (by omega) (by omega) (by omega)]; exact hu.img W hW, by rw [h' 110 (by omega) (by omega) (by omega) (by omega)]; exact hu.tl, fun k hk => by rw [h' 116 (by omega) (by omega) (by omega) (by omega)]; exact hu.tp k hk, fun j hj => ?_, fun j hj => ?_, fun j hj c hc => ?_, fun k hk => MS_congr (by rw [h' 127 (by omega) (by omega) (by omega) (by omega)]) (by rw [h' 128 (by omega) (by omega) (by omega) (by omega)]) (by rw [h' 129 (by omega) (by omega) (by omega) (by omega)]) (fun i hi => by rw [h' 130 (by omega) (by omega) (by omega) (by omega)]) (hu.sl k hk), by rw [h' 110 (by omega) (by omega) (by omega) (by omega)]; exact hu.wc, fun k hk => by rw [h' 132 (by omega) (by omega) (by omega) (by omega)]; exact hu.wt k hk, fun k hk => by rw [h' 117 (by omega) (by omega) (by omega) (by omega)]; exact hu.ky k hk, fun k hk => by rw [h' 118 (by omega) (by omega) (by omega) (by omega)]; exact hu.ka k hk⟩, hi_same e2 (by simp)⟩
    · show _ = SH.so (if j = s then x else S.sh j)
      by_cases e : j = s
      · rw [if_pos e, e]; exact e5
      · rw [if_neg e, (e3 j hj e).1]; exact hu.so j hj
    · show _ = nI (SH.ln (if j = s then x else S.sh j))
      by_cases e : j = s
      · rw [if_pos e, e]; exact e6
      · rw [if_neg e, (e3 j hj e).2]; exact hu.ln j hj
    · show _ = SH.ce (if j = s then x else S.sh j) c
      by_cases e : j = s
      · rw [if_pos e, e]; exact e7 c hc
      · rw [if_neg e, e4 _ (by omega)]; exact hu.ce j hj c hc
/-- the sheet at a of the class's, as far as a call looks at it -/
theorem hp1 (u : am_MU) {a n j : Nat} (ta : tg a = 2) (hn : u a 1 = nI n) (h24 : n ≤ 24) (hj : j < n) : f_X2_hasPlace u a (nI j) = some (u, 1) := by
  unfold f_X2_hasPlace
  rw [if_neg (nI_pos (by omega)), if_pos ta, hn, if_neg (nI_ge hj (by omega)), if_neg (p_ge24 (by omega))]
theorem hp0 (u : am_MU) {a n : Nat} {x : Int32} (ta : tg a = 2) (hn : u a 1 = nI n) (hx : out x n) : f_X2_hasPlace u a x = some (u, 0) := by
  unfold f_X2_hasPlace
  by_cases h0 : x < 0
  · rw [if_pos h0]
  · rw [if_neg h0, if_pos ta, hn, if_pos (hx.resolve_left h0)]
def isN (ce : Nat → Int32) (n c : Nat) : Prop := c < n ∧ ¬ ce c = -1000000005
theorem in1 (u : am_MU) {a n c : Nat} {ce : Nat → Int32} (ta : tg a = 2) (hn : u a 1 = nI n) (h24 : n ≤ 24) (hc : c < 24) (hce : u (a + 1) c = ce c) (h : isN ce n c) : f_X2_isNumber u a (nI c) = some (u, 1) := by
  unfold f_X2_isNumber
  rw [if_pos ta, bG1 (hp1 u ta hn h24 h.1)]
  dsimp only
  rw [if_pos (p_inT (by omega) hc), nI_clamp (by omega), if_neg (by rw [hce]; exact h.2)]
theorem in0 (u : am_MU) {a n c : Nat} {ce : Nat → Int32} (ta : tg a = 2) (hn : u a 1 = nI n) (h24 : n ≤ 24) (hc : c < 24) (hce : u (a + 1) c = ce c) (h : ¬ isN ce n c) : f_X2_isNumber u a (nI c) = some (u, 0) := by
  unfold f_X2_isNumber
  rw [if_pos ta]
  by_cases hcn : c < n
  · rw [bG1 (hp1 u ta hn h24 hcn)]
    dsimp only
    rw [if_pos (p_inT (by omega) hc), nI_clamp (by omega), if_pos (by rw [hce]; exact Decidable.not_not.mp (fun q => h ⟨hcn, q⟩))]
  · rw [bG0 (hp0 u ta hn (Or.inr (nI_le (by omega) (by omega))))]
theorem p_X2_beginL {a : Nat} (ta : tg a = 2) : ∀ (m c n : Nat) (u : am_MU), c + m = 24 → m < n → (∀ j, j < c → u (a + 1) j = 0) → ∃ u', g_X2_begin_12 n u a (nI c) = some u' ∧ same [a + 1] u u' ∧ ∀ j, j < 24 → u' (a + 1) j = 0 := by
  intro m
  induction m with
  | zero =>
    intro c n u h1 h2 hL
    obtain ⟨n, rfl⟩ : ∃ k, n = k + 1 := ⟨n - 1, by omega⟩
    obtain rfl : c = 24 := by omega
    rw [g_X2_begin_12]
    dsimp only
    rw [if_pos (show (24 : Int32) ≤ nI 24 by decide)]
    exact ⟨u, rfl, same_rf, hL⟩
  | succ m ih =>
    intro c n u h1 h2 hL
    obtain ⟨n, rfl⟩ : ∃ k, n = k + 1 := ⟨n - 1, by omega⟩
    have hc : c < 24 := by omega
    rw [g_X2_begin_12]
    dsimp only
    rw [if_neg (p_ge24 hc)]
    rw [if_pos ta, if_pos (p_inT (by omega) hc), nI_clamp (by omega), p_let, p_let, nI_1]
    obtain ⟨u', g1, g2, g3⟩ := ih (c + 1) n (am_u2 u (a + 1) c 0) (by omega) (by omega) (fun j hj => by
      by_cases e : j = c
      · subst e; exact u2_same _ _ _ _
      · rw [u2_nei _ _ (Or.inr e)]; exact hL j (by omega))
    exact ⟨u', g1, same_tr (same_u2 _ _ _ _ (by simp)) g2, g3⟩
theorem p_X2_begin {a : Nat} (ta : tg a = 2) (u : am_MU) (so n : Int32) : ∃ u', f_X2_begin u a so n = some u' ∧ same [a, a + 1] u u' ∧ u' a 0 = so ∧ u' a 1 = n ∧ ∀ c, c < 24 → u' (a + 1) c = 0 := by
  obtain ⟨u', g1, g2, g3⟩ := p_X2_beginL ta 24 0 1700 (am_u2 (am_u2 u a 0 so) a 1 n) rfl (by decide) (fun j hj => by omega)
  refine ⟨u', ?_, same_tr (same_tr (same_u2 _ _ _ _ (by simp)) (same_u2 _ _ _ _ (by simp))) (same_mono g2 (by simp)), ?_, ?_, g3⟩
  · unfold f_X2_begin
    rw [if_pos ta, p_let, p_let]
    exact g1
  · rw [g2 a (by simp), u2_nei _ _ (Or.inr (by decide)), u2_same]
  · rw [g2 a (by simp), u2_same]
theorem e24 (s c : Nat) : (24 : Int32) * nI s + nI c = nI (24 * s + c) := by rw [show (24 : Int32) = nI 24 from rfl, pk_mul, nI_add]
theorem p_X7_sheetL {s : Nat} (hs : s < 4) : ∀ (m c n : Nat) (u : am_MU), c + m = 24 → m < n → (∀ j, j < c → u 126 (24 * s + j) = 0) → ∃ u', g_X7_sheet_66 n u (nI s) (nI c) = some (u', u 125 s) ∧ same [126] u u' ∧ (∀ j, (j < 24 * s ∨ 24 * s + 24 ≤ j) → u' 126 j = u 126 j) ∧ ∀ j, j < 24 → u' 126 (24 * s + j) = 0 := by
  intro m
  induction m with
  | zero =>
    intro c n u h1 h2 hL
    obtain ⟨n, rfl⟩ : ∃ k, n = k + 1 := ⟨n - 1, by omega⟩
    obtain rfl : c = 24 := by omega
    rw [g_X7_sheet_66]
    dsimp only
    rw [if_pos (show (24 : Int32) ≤ nI 24 by decide)]
    rw [if_pos (p_inT (by omega) hs), nI_clamp (by omega)]
    exact ⟨u, rfl, same_rf, fun _ _ => rfl, hL⟩
  | succ m ih =>
    intro c n u h1 h2 hL
    obtain ⟨n, rfl⟩ : ∃ k, n = k + 1 := ⟨n - 1, by omega⟩
    have hc : c < 24 := by omega
    rw [g_X7_sheet_66]
    dsimp only
    rw [if_neg (p_ge24 hc)]
    rw [e24, if_pos (p_inT (by omega) (by omega)), nI_clamp (by omega), p_let, p_let, nI_1]
    obtain ⟨u', g1, g2, g3, g4⟩ := ih (c + 1) n (am_u2 u 126 (24 * s + c) 0) (by omega) (by omega) (fun j hj => by
      by_cases e : j = c
      · subst e; exact u2_same _ _ _ _
      · rw [u2_nei _ _ (Or.inr (by omega))]; exact hL j (by omega))
    refine ⟨u', ?_, same_tr (same_u2 _ _ _ _ (by simp)) g2, fun j hj => by rw [g3 j hj, u2_nei _ _ (Or.inr (by omega))], g4⟩
    rw [g1, u2_ne _ _ (by decide)]
theorem p_X7_sheet41 {s : Nat} (hs : s < 4) (u : am_MU) (so v : Int32) (n : Int32) (hn : (if 0 ≤ so then v else 0) = n) : ∃ u', g_X7_sheet_41 u (nI s) so v = some (u', n) ∧ same [124, 125, 126, 131] u u' ∧ (∀ j, j < 4 → j ≠ s → u' 124 j = u 124 j ∧ u' 125 j = u 125 j) ∧ (∀ j, (j < 24 * s ∨ 24 * s + 24 ≤ j) → u' 126 j = u 126 j) ∧ u' 124 s = so ∧ u' 125 s = n ∧ ∀ c, c < 24 → u' 126 (24 * s + c) = 0 := by
  obtain ⟨u', g1, g2, g3, g4⟩ := p_X7_sheetL hs 24 0 1700 (am_u2 (am_u2 u 124 s so) 125 s n) rfl (by decide) (fun j hj => by omega)
  have b1 : u' 124 = upd (u 124) s so := by rw [g2 124 (by decide), u2_ne _ _ (by decide), u2_row]
  have b2 : u' 125 = upd (u 125) s n := by rw [g2 125 (by decide), u2_row, u2_ne _ _ (by decide)]
  refine ⟨u', ?_, same_tr (same_tr (same_u2 _ _ _ _ (by simp)) (same_u2 _ _ _ _ (by simp))) (same_mono g2 (by simp)), fun j _ hj => ⟨by rw [b1, upd_ne hj], by rw [b2, upd_ne hj]⟩, fun j hj => by rw [g3 j hj, u2_ne _ _ (by decide), u2_ne _ _ (by decide)], by rw [b1, upd_sm], by rw [b2, upd_sm], g4⟩
  unfold g_X7_sheet_41
  rw [if_pos (p_inT (by omega) hs), nI_clamp (by omega), p_let]
  have k : g_X7_sheet_62 (am_u2 u 124 s so) (nI s) (nI s) n = some (u', n) := by
    unfold g_X7_sheet_62
    rw [if_pos (p_inT (by omega) hs), nI_clamp (by omega), p_let]
    rw [u2_same] at g1
    exact g1
  by_cases z : 0 ≤ so
  · rw [if_pos z] at hn ⊢; rw [hn]; exact k
  · rw [if_neg z] at hn ⊢; rw [hn]; exact k
theorem so3 {y : Int32} (h : ¬ (y < -1 ∨ 1 < y)) : y = -1 ∨ y = 0 ∨ y = 1 := by
  have h1 : -1 ≤ y.toInt := by have := fun q => h (Or.inl (Int32.lt_iff_toInt_lt.mpr q)); exact Int.not_lt.mp this
  have h2 : y.toInt ≤ 1 := by have := fun q => h (Or.inr (Int32.lt_iff_toInt_lt.mpr q)); exact Int.not_lt.mp this
  rcases (show y.toInt = -1 ∨ y.toInt = 0 ∨ y.toInt = 1 by omega) with e | e | e
  · exact Or.inl (Int32.toInt_inj.mp e)
  · exact Or.inr (Or.inl (Int32.toInt_inj.mp e))
  · exact Or.inr (Or.inr (Int32.toInt_inj.mp e))
theorem big0 : big 0 := Or.inr ⟨by decide, by decide⟩
theorem k_sheet (x y z : Int32) : Call (fun u => f_X6_sheet u x y z) (fun u => f_X7_sheet u x y z) := by
  intro S B hS hB
  rcases rng x (show 4 < 2 ^ 31 by decide) with ⟨s, hs, rfl⟩ | hx
  · by_cases hy : y < -1 ∨ 1 < y
    · refine Cro hS (-1000000001) (fun u hu => ?_) (fun u hu => ?_)
      · show f_X6_sheet u (nI s) y z = _
        unfold f_X6_sheet
        rw [bG1 (sC1 u hs)]
        rcases hy with q | q
        · rw [if_pos q]
        · rw [if_neg (fun h => absurd (Int32.lt_trans q h) (by decide)), if_neg (Int32.not_le.mpr q)]
      · show f_X7_sheet u (nI s) y z = _
        unfold f_X7_sheet
        rw [bG1 (sM1 u hs), bG0 (show f_X7_in (u, (1 : Int32)).1 y (-1) 1 = some (u, 0) by rw [p_X7_in, if_pos hy])]
    · have hin : ∀ u, f_X7_in u y (-1) 1 = some (u, 1) := fun u => by rw [p_X7_in, if_neg hy]
      have hyC : ¬ y < -1 ∧ y ≤ 1 := ⟨fun q => hy (Or.inl q), Int32.not_lt.mp (fun q => hy (Or.inr q))⟩
      rcases so3 hy with e | e
      · subst e
        refine Csh hS hs (-1, 0, fun _ => 0) 0 ⟨by decide, Or.inl rfl, fun _ _ => big0⟩ (fun u hu => ?_) (fun u hu => ?_)
        · obtain ⟨v, b1, b2, b3, b4, b5⟩ := p_X2_begin (tg77 s hs) u (-1) 0
          refine ⟨v, ?_, b2, b3, b4, b5⟩
          show f_X6_sheet u (nI s) (-1) z = _
          unfold f_X6_sheet
          rw [bG1 (sC1 u hs), if_neg (by decide), if_pos (by decide), if_pos rfl, if_pos (p_inT (by omega) hs), nI_clamp (by omega), if_pos (tg77 s hs), b1, p_some]
        · obtain ⟨v, b1, b2⟩ := p_X7_sheet41 hs u (-1) z 0 (if_neg (by decide))
          refine ⟨v, ?_, b2⟩
          show f_X7_sheet u (nI s) (-1) z = _
          unfold f_X7_sheet
          rw [bG1 (sM1 u hs), bG1 (hin _)]
          dsimp only
          rw [if_pos (by decide)]
          unfold g_X7_sheet_29
          rw [if_pos (by decide)]
          exact b1
      · have f1 : ¬ y = -1 ∧ ¬ y < 0 ∧ 0 ≤ y := by rcases e with rfl | rfl <;> decide
        by_cases hz : z ≤ 24
        · by_cases hz0 : 0 ≤ z
          · obtain ⟨n, hn, rfl⟩ := nI_of2 (M := 24) (n := 24) (by decide) (Int32.not_lt.mpr hz0) hz
            refine Csh hS hs (y, n, fun _ => 0) (nI n) ⟨hn, Or.inr e, fun _ _ => big0⟩ (fun u hu => ?_) (fun u hu => ?_)
            · obtain ⟨v, b1, b2, b3, b4, b5⟩ := p_X2_begin (tg77 s hs) u y (nI n)
              refine ⟨v, ?_, b2, b3, b4, b5⟩
              show f_X6_sheet u (nI s) y (nI n) = _
              unfold f_X6_sheet
              rw [bG1 (sC1 u hs), if_neg hyC.1, if_pos hyC.2, if_neg f1.1, if_pos hz, if_pos hz0, if_pos (p_inT (by omega) hs), nI_clamp (by omega), if_pos (tg77 s hs), b1, p_some]
            · obtain ⟨v, b1, b2⟩ := p_X7_sheet41 hs u y (nI n) (nI n) (if_pos f1.2.2)
              refine ⟨v, ?_, b2⟩
              show f_X7_sheet u (nI s) y (nI n) = _
              unfold f_X7_sheet
              rw [bG1 (sM1 u hs), bG1 (hin _)]
              dsimp only
              rw [if_neg f1.2.1, if_pos hz]
              unfold g_X7_sheet_29
              rw [if_neg f1.2.1, if_pos hz0]
              exact b1
          · refine Cro hS (-1000000014) (fun u hu => ?_) (fun u hu => ?_)
            · show f_X6_sheet u (nI s) y z = _
              unfold f_X6_sheet
              rw [bG1 (sC1 u hs), if_neg hyC.1, if_pos hyC.2, if_neg f1.1, if_pos hz, if_neg hz0]
            · show f_X7_sheet u (nI s) y z = _
              unfold f_X7_sheet
              rw [bG1 (sM1 u hs), bG1 (hin _)]
              dsimp only
              rw [if_neg f1.2.1, if_pos hz]
              unfold g_X7_sheet_29
              rw [if_neg f1.2.1, if_neg hz0]
        · refine Cro hS (-1000000001) (fun u hu => ?_) (fun u hu => ?_)
          · show f_X6_sheet u (nI s) y z = _
            unfold f_X6_sheet
            rw [bG1 (sC1 u hs), if_neg hyC.1, if_pos hyC.2, if_neg f1.1, if_neg hz]
          · show f_X7_sheet u (nI s) y z = _
            unfold f_X7_sheet
            rw [bG1 (sM1 u hs), bG1 (hin _)]
            dsimp only
            rw [if_neg f1.2.1, if_neg hz]
  · refine Cro hS (-1000000001) (fun u hu => ?_) (fun u hu => ?_)
    · show f_X6_sheet u x y z = _
      unfold f_X6_sheet
      rw [bG0 (sC0 u hx)]
    · show f_X7_sheet u x y z = _
      unfold f_X7_sheet
      rw [bG0 (sM0 u hx)]
/-- a sheet is missing, or it isn't: what both look at -/
theorem so_m1 {x : SH} (h : x.so = -1 ∨ x.so = 0 ∨ x.so = 1) : (x.so = -1 ∧ ¬ 0 ≤ x.so ∧ x.so < 0) ∨ (¬ x.so = -1 ∧ 0 ≤ x.so ∧ ¬ x.so < 0 ∧ (x.so = 0 ∨ x.so = 1)) := by
  rcases h with h | h | h
  · left; rw [h]; decide
  · right; rw [h]; exact ⟨by decide, by decide, by decide, Or.inl rfl⟩
  · right; rw [h]; exact ⟨by decide, by decide, by decide, Or.inr rfl⟩
theorem big_s (v : Int32) : big v.toInt16.toInt32 := by
  right
  rw [Int16.toInt_toInt32]
  have h1 := Int16.le_toInt v.toInt16
  have h2 := Int16.toInt_lt v.toInt16
  omega
theorem big_f {v : Int32} (h1 : ¬ v < -99999) (h2 : v ≤ 99999) : big v := by
  right
  rw [Int32.lt_iff_toInt_lt] at h1
  rw [Int32.le_iff_toInt_le] at h2
  have e1 : (-99999 : Int32).toInt = -99999 := by decide
  have e2 : (99999 : Int32).toInt = 99999 := by decide
  omega
theorem big_upd {ce : Nat → Int32} {j : Nat} {v : Int32} (h : ∀ c, c < 24 → big (ce c)) (hv : big v) : ∀ c, c < 24 → big (upd ce j v c) := by
  intro c hc
  by_cases e : c = j
  · rw [e, upd_sm]; exact hv
  · rw [upd_ne e]; exact h c hc
/-- one place of a sheet is written, both sides -/
theorem Cmk {fc fm : am_MU → Option (am_MU × Int32)} {S : AS} {B s j : Nat} (hS : OK S B) (hs : s < 4) (hj : j < 24) (v : Int32) (hv : big v) (hc : ∀ u, CI u S → fc u = some (am_u2 u (77 + 2 * s + 1) j v, 1)) (hm : ∀ u, MI u S → fm u = some (am_u2 u 126 (24 * s + j) v, 1)) : Res fc fm S B := by
  obtain ⟨k1, k2, k3⟩ := hS.sh s hs
  refine Csh hS hs ((S.sh s).so, (S.sh s).ln, upd (S.sh s).ce j v) 1 ⟨k1, k2, big_upd k3 hv⟩ (fun u hu => ?_) (fun u hu => ?_)
  · refine ⟨_, hc u hu, same_u2 _ _ _ _ (by simp), ?_, ?_, fun c hc => ?_⟩
    · rw [u2_ne _ _ (by omega)]; exact hu.so s hs
    · rw [u2_ne _ _ (by omega)]; exact hu.ln s hs
    · show _ = upd (S.sh s).ce j v c
      rw [u2_row]
      by_cases e : c = j
      · rw [e, upd_sm, upd_sm]
      · rw [upd_ne e, upd_ne e]; have := hu.ce s hs c hc; rw [show 78 + 2 * s = 77 + 2 * s + 1 by omega] at this; exact this
  · refine ⟨_, hm u hu, same_u2 _ _ _ _ (by simp), fun i _ _ => ⟨by rw [u2_ne _ _ (by decide)], by rw [u2_ne _ _ (by decide)]⟩, fun i hi => u2_nei _ _ (Or.inr (by omega)), ?_, ?_, fun c hc => ?_⟩
    · rw [u2_ne _ _ (by decide)]; exact hu.so s hs
    · rw [u2_ne _ _ (by decide)]; exact hu.ln s hs
    · show _ = upd (S.sh s).ce j v c
      by_cases e : c = j
      · rw [e, upd_sm, u2_same]
      · rw [upd_ne e, u2_nei _ _ (Or.inr (by omega))]; exact hu.ce s hs c hc
theorem k_mark (x y v : Int32) : Call (fun u => f_X6_mark u x y v) (fun u => f_X7_mark u x y v) := by
  intro S B hS hB
  rcases rng x (show 4 < 2 ^ 31 by decide) with ⟨s, hs, rfl⟩ | hx
  · obtain ⟨k1, k2, k3⟩ := hS.sh s hs
    have hC : ∀ u, f_X6_mark u (nI s) y v = if (u (77 + 2 * s) 0) = (-1 : Int32) then some (u, -1000000011) else ((f_X2_hasPlace u (77 + 2 * s) y).bind fun q6 => if q6.2 = 0 then (some (q6.1, ((-1000000013) : Int32))) else (if (q6.1 (77 + 2 * s) 0) = 0 then (if v = ((-1000000005) : Int32) then (some (q6.1, ((-1000000012) : Int32))) else (if am_in y 24 then (am_let (am_u2 q6.1 ((77 + 2 * s) + 1) y.toNatClampNeg v.toInt16.toInt32) fun u14 => some (u14, (1 : Int32))) else none)) else (if v = ((-1000000005) : Int32) then (g_X6_mark_91 q6.1 y v (77 + 2 * s)) else (if v < ((-99999) : Int32) then (some (q6.1, ((-1000000001) : Int32))) else (if v ≤ (99999 : Int32) then (g_X6_mark_91 q6.1 y v (77 + 2 * s)) else (some (q6.1, ((-1000000001) : Int32)))))))) := fun u => by
      unfold f_X6_mark
      rw [bG1 (sC1 u hs), if_pos (p_inT (by omega) hs), nI_clamp (by omega), if_pos (tg77 s hs)]
    have hM : ∀ u, f_X7_mark u (nI s) y v = if 0 ≤ (u 124 s) then ((f_X7_in u y (0 : Int32) ((u 125 s) - (1 : Int32))).bind fun q5 => if q5.2 = 0 then (some (q5.1, ((-1000000013) : Int32))) else (if (q5.1 124 (nI s).toNatClampNeg) = 0 then (if v = ((-1000000005) : Int32) then (some (q5.1, ((-1000000012) : Int32))) else (g_X7_mark_60 q5.1 (nI s) y v)) else (g_X7_mark_60 q5.1 (nI s) y v))) else some (u, ((-1000000011) : Int32)) := fun u => by
      unfold f_X7_mark
      rw [bG1 (sM1 u hs), if_pos (p_inT (by omega) hs)]
      dsimp only
      rw [nI_clamp (show s < 2 ^ 31 by omega)]
    rcases so_m1 k2 with ⟨n1, n2, n3⟩ | ⟨n1, n2, n3, n4⟩
    · refine Cro hS (-1000000011) (fun u hu => ?_) (fun u hu => ?_)
      · show f_X6_mark u (nI s) y v = _
        rw [hC, hu.so s hs, if_pos n1]
      · show f_X7_mark u (nI s) y v = _
        rw [hM, hu.so s hs, if_neg n2]
    · rcases rng y (show (S.sh s).ln < 2 ^ 31 by omega) with ⟨j, hj, rfl⟩ | hy
      · have hj24 : j < 24 := by omega
        have h60 : ∀ u, MI u S → g_X7_mark_92 u (nI s) (nI j) v = some (am_u2 u 126 (24 * s + j) (if (S.sh s).so = 0 then v.toInt16.toInt32 else v), 1) := fun u hu => by
          unfold g_X7_mark_92
          rw [if_pos (p_inT (by omega) hs), nI_clamp (by omega), hu.so s hs, e24, if_pos (p_inT (by omega) (by omega)), nI_clamp (by omega), p_let, if_pos (p_inT (by omega) (by omega)), p_let]
          split <;> rfl
        have h91 : ∀ u, g_X6_mark_91 u (nI j) v (77 + 2 * s) = some (am_u2 u (77 + 2 * s + 1) j v, 1) := fun u => by
          unfold g_X6_mark_91
          rw [if_pos (tg77 s hs), if_pos (p_inT (by omega) hj24), nI_clamp (by omega), p_let]
        have hC2 := fun (u : am_MU) (hu : CI u S) => hp1 u (tg77 s hs) (hu.ln s hs) k1 hj
        have hM2 := fun (u : am_MU) => inM1 u (show (S.sh s).ln < 1000000 by omega) hj
        have cc : (nI s).toNatClampNeg = s := nI_clamp (by omega)
        rcases n4 with z | z
        · by_cases hv : v = -1000000005
          · refine Cro hS (-1000000012) (fun u hu => ?_) (fun u hu => ?_)
            · show f_X6_mark u (nI s) (nI j) v = _
              rw [hC, hu.so s hs, if_neg n1, bG1 (hC2 u hu)]
              dsimp only
              rw [if_pos (show u (77 + 2 * s) 0 = 0 by rw [hu.so s hs]; exact z), if_pos hv]
            · show f_X7_mark u (nI s) (nI j) v = _
              rw [hM, hu.so s hs, if_pos n2, hu.ln s hs, bG1 (hM2 u)]
              dsimp only
              rw [cc, if_pos (show u 124 s = 0 by rw [hu.so s hs]; exact z), if_pos hv]
          · refine Cmk hS hs hj24 v.toInt16.toInt32 (big_s v) (fun u hu => ?_) (fun u hu => ?_)
            · show f_X6_mark u (nI s) (nI j) v = _
              rw [hC, hu.so s hs, if_neg n1, bG1 (hC2 u hu)]
              dsimp only
              rw [if_pos (show u (77 + 2 * s) 0 = 0 by rw [hu.so s hs]; exact z), if_neg hv, if_pos (p_inT (by omega) hj24), nI_clamp (by omega), p_let]
            · show f_X7_mark u (nI s) (nI j) v = _
              rw [hM, hu.so s hs, if_pos n2, hu.ln s hs, bG1 (hM2 u)]
              dsimp only
              rw [cc, if_pos (show u 124 s = 0 by rw [hu.so s hs]; exact z), if_neg hv]
              unfold g_X7_mark_60
              rw [if_pos (p_inT (by omega) hs), cc, hu.so s hs, if_neg (by rw [z]; decide), h60 u hu, if_pos z]
        · have z0 : ¬ (S.sh s).so = 0 := by rw [z]; decide
          have hCa : ∀ u, CI u S → f_X6_mark u (nI s) (nI j) v = (if v = ((-1000000005) : Int32) then some (am_u2 u (77 + 2 * s + 1) j v, 1) else (if v < ((-99999) : Int32) then (some (u, ((-1000000001) : Int32))) else (if v ≤ (99999 : Int32) then some (am_u2 u (77 + 2 * s + 1) j v, 1) else (some (u, ((-1000000001) : Int32)))))) := fun u hu => by
            rw [hC, hu.so s hs, if_neg n1, bG1 (hC2 u hu)]
            dsimp only
            rw [if_neg (show ¬ u (77 + 2 * s) 0 = 0 by rw [hu.so s hs]; exact z0), h91]
          have hMa : ∀ u, MI u S → f_X7_mark u (nI s) (nI j) v = (if v = ((-1000000005) : Int32) then some (am_u2 u 126 (24 * s + j) v, 1) else (if v < (-99999 : Int32) ∨ 99999 < v then (some (u, ((-1000000001) : Int32))) else some (am_u2 u 126 (24 * s + j) v, 1))) := fun u hu => by
            rw [hM, hu.so s hs, if_pos n2, hu.ln s hs, bG1 (hM2 u)]
            dsimp only
            rw [cc, if_neg (show ¬ u 124 s = 0 by rw [hu.so s hs]; exact z0)]
            unfold g_X7_mark_60
            rw [if_pos (p_inT (by omega) hs), cc, hu.so s hs, if_pos z, h60 u hu, if_neg z0, p_X7_in, p_some]
            by_cases q : v < (-99999 : Int32) ∨ 99999 < v
            · rw [if_pos q, if_pos q, if_pos rfl]
            · rw [if_neg q, if_neg q, if_neg (show ¬ (1 : Int32) = 0 by decide), h60 u hu, if_neg z0]
          by_cases hv : v = -1000000005
          · refine Cmk hS hs hj24 v (Or.inl hv) (fun u hu => ?_) (fun u hu => ?_)
            · show f_X6_mark u (nI s) (nI j) v = _
              rw [hCa u hu, if_pos hv]
            · show f_X7_mark u (nI s) (nI j) v = _
              rw [hMa u hu, if_pos hv]
          · by_cases q : v < (-99999 : Int32) ∨ 99999 < v
            · refine Cro hS (-1000000001) (fun u hu => ?_) (fun u hu => ?_)
              · show f_X6_mark u (nI s) (nI j) v = _
                rw [hCa u hu, if_neg hv]
                rcases q with q | q
                · rw [if_pos q]
                · rw [if_neg (fun h => absurd (Int32.lt_trans q h) (by decide)), if_neg (Int32.not_le.mpr q)]
              · show f_X7_mark u (nI s) (nI j) v = _
                rw [hMa u hu, if_neg hv, if_pos q]
            · have q1 : ¬ v < -99999 := fun h => q (Or.inl h)
              have q2 : v ≤ 99999 := Int32.not_lt.mp (fun h => q (Or.inr h))
              refine Cmk hS hs hj24 v (big_f q1 q2) (fun u hu => ?_) (fun u hu => ?_)
              · show f_X6_mark u (nI s) (nI j) v = _
                rw [hCa u hu, if_neg hv, if_neg q1, if_pos q2]
              · show f_X7_mark u (nI s) (nI j) v = _
                rw [hMa u hu, if_neg hv, if_neg q]
      · refine Cro hS (-1000000013) (fun u hu => ?_) (fun u hu => ?_)
        · show f_X6_mark u (nI s) y v = _
          rw [hC, hu.so s hs, if_neg n1, bG0 (hp0 u (tg77 s hs) (hu.ln s hs) hy)]
        · show f_X7_mark u (nI s) y v = _
          rw [hM, hu.so s hs, if_pos n2, hu.ln s hs, bG0 (inM0 u (by omega) hy)]
  · refine Cro hS (-1000000001) (fun u hu => ?_) (fun u hu => ?_)
    · show f_X6_mark u x y v = _
      unfold f_X6_mark
      rw [bG0 (sC0 u hx)]
    · show f_X7_mark u x y v = _
      unfold f_X7_mark
      rw [bG0 (sM0 u hx)]
