/-! tape, rows, counts -/
theorem CI_tail {u v : am_MU} {S : AS} {B tl wc : Nat} {tp wt : Nat → Int32} (hS : OK S B) (h : ∀ a, a ≠ 0 → a ≠ 45 → a ≠ 48 → a < 110 → ¬ (33 ≤ a ∧ a ≤ 44) → v a = u a) (h2 : v 0 2 = u 0 2) (h9 : v 0 9 = nI tl) (ht : ∀ k, k < tl → v 45 k = tp k) (h13 : v 0 13 = nI wc) (hw : ∀ k, k < wc → v 48 k = wt k) (hu : CI u S) : CI v (S.T, S.now, S.img, tl, tp, S.sh, S.sl, wc, wt) := by
  have hm := hS.now.m
  have h' : ∀ a, (1 ≤ a ∧ a < 33) ∨ (49 ≤ a ∧ a < 110) → v a = u a := fun a ha => h a (by omega) (by omega) (by omega) (by omega) (by omega)
  exact ⟨CW_congr (h' _ (by omega)) (h' _ (by omega)) (h' _ (by omega)) (fun a h1 h2 => h' a (by omega)) hS.now.n hu.now, by rw [h2]; exact hu.kept, fun W hW => CW_congr (h' _ (by omega)) (h' _ (by omega)) (h' _ (by omega)) (fun a h1 h2 => h' a (by omega)) (hS.img W hW).1.n (hu.img W hW), fun t ht => by have ht : t < S.now.m := ht; exact CT_congr (h' _ (by omega)) (h' _ (by omega)) (hu.tx t ht), h9, ht, fun s hs => by rw [h' _ (by omega)]; exact hu.so s hs, fun s hs => by rw [h' _ (by omega)]; exact hu.ln s hs, fun s hs c hc => by rw [h' _ (by omega)]; exact hu.ce s hs c hc, fun k hk => CS_congr (fun b h1 h2 => h' b (by omega)) (hu.sl k hk), h13, hw⟩
theorem MI_tail {u v : am_MU} {S : AS} {tl wc : Nat} {tp wt : Nat → Int32} (h : ∀ a, a = 111 ∨ a = 112 ∨ a = 117 ∨ a = 118 ∨ (124 ≤ a ∧ a ≤ 130) → v a = u a) (h3 : v 110 3 = u 110 3) (h7 : v 110 7 = nI tl) (ht : ∀ k, k < tl → v 116 k = tp k) (h33 : v 110 33 = nI wc) (hw : ∀ k, k < wc → v 132 k = wt k) (hu : MI u S) : MI v (S.T, S.now, S.img, tl, tp, S.sh, S.sl, wc, wt) :=
  ⟨by rw [h 111 (by omega)]; exact hu.now, by rw [h3]; exact hu.kept, fun W hW => by rw [h 112 (by omega)]; exact hu.img W hW, h7, ht, fun s hs => by rw [h 124 (by omega)]; exact hu.so s hs, fun s hs => by rw [h 125 (by omega)]; exact hu.ln s hs, fun s hs c hc => by rw [h 126 (by omega)]; exact hu.ce s hs c hc, fun k hk => MS_congr (by rw [h 127 (by omega)]) (by rw [h 128 (by omega)]) (by rw [h 129 (by omega)]) (fun i hi => by rw [h 130 (by omega)]) (hu.sl k hk), h33, hw, fun k hk => by rw [h 117 (by omega)]; exact hu.ky k hk, fun k hk => by rw [h 118 (by omega)]; exact hu.ka k hk⟩
theorem OK_tail {S : AS} {B tl wc : Nat} {tp wt : Nat → Int32} (hS : OK S B) (h1 : tl ≤ 96) (h2 : wc ≤ 60) : OK (S.T, S.now, S.img, tl, tp, S.sh, S.sl, wc, wt) (B + 2400) := by
  have h := OK_mono hS (show B ≤ B + 2400 by omega)
  exact ⟨h.now, h.img, h1, h.sh, h.sl, h2⟩
theorem k_trim (x : Int32) : Call (fun u => f_X6_trim u x) (fun u => f_X7_trim u x) := by
  intro S B hS hB
  have htl := hS.tl
  rcases rng x (show S.tl + 1 < 2 ^ 31 by omega) with ⟨j, hj, rfl⟩ | hx
  · refine ⟨(S.T, S.now, S.img, j, S.tp, S.sh, S.sl, S.wc, S.wt), nI j, OK_tail hS (by omega) hS.wc, fun u hu => ?_, fun u hu => ?_⟩
    · have e2 : ∀ a, a ≠ 0 → am_u2 u 0 9 (nI j) a = u a := fun a h => u2_ne _ _ h
      refine ⟨am_u2 u 0 9 (nI j), ?_, CI_tail hS (fun a h _ _ _ _ => e2 a h) (u2_nei _ _ (Or.inr (by decide))) (u2_same _ _ _ _) (fun k hk => by rw [e2 _ (by decide)]; exact hu.tp k (by omega)) (by rw [u2_nei _ _ (Or.inr (by decide))]; exact hu.wc) (fun k hk => by rw [e2 _ (by decide)]; exact hu.wt k hk) hu, fun a ha => e2 a (by omega)⟩
      show f_X6_trim u (nI j) = _
      unfold f_X6_trim
      rw [hu.tl, ii hj (by omega) (nI S.tl) rfl]
      rfl
    · have e2 : ∀ a, a ≠ 110 → am_u2 u 110 7 (nI j) a = u a := fun a h => u2_ne _ _ h
      refine ⟨am_u2 u 110 7 (nI j), ?_, MI_tail (fun a h => e2 a (by omega)) (u2_nei _ _ (Or.inr (by decide))) (u2_same _ _ _ _) (fun k hk => by rw [e2 _ (by decide)]; exact hu.tp k (by omega)) (by rw [u2_nei _ _ (Or.inr (by decide))]; exact hu.wc) (fun k hk => by rw [e2 _ (by decide)]; exact hu.wt k hk) hu, fun a ha => e2 a (by omega)⟩
      show f_X7_trim u (nI j) = _
      unfold f_X7_trim
      rw [hu.tl, bG1 (in_in u (nI S.tl) rfl (by omega) hj)]
      rfl
  · refine Cro hS (-1000000001) (fun u hu => ?_) (fun u hu => ?_)
    · show f_X6_trim u x = _
      unfold f_X6_trim
      rw [hu.tl, oi hx (by omega) (nI S.tl) rfl]
    · show f_X7_trim u x = _
      unfold f_X7_trim
      rw [hu.tl, bG0 (out_in u (nI S.tl) rfl (by omega) hx)]
theorem k_tell (x : Int32) : Call (fun u => f_X6_tell u x) (fun u => f_X7_tell u x) := by
  intro S B hS hB
  have hwc := hS.wc
  by_cases hz : S.wc = 60
  · refine Cro hS (-1000000003) (fun u hu => ?_) (fun u hu => ?_)
    · show f_X6_tell u x = _
      unfold f_X6_tell
      rw [hu.wc, hz, if_neg (by decide)]
    · show f_X7_tell u x = _
      unfold f_X7_tell
      rw [hu.wc, hz, if_pos (by decide)]
  · have h60 : S.wc < 60 := by omega
    refine ⟨(S.T, S.now, S.img, S.tl, S.tp, S.sh, S.sl, S.wc + 1, upd S.wt S.wc x), nI (S.wc + 1), OK_tail hS hS.tl (by omega), fun u hu => ?_, fun u hu => ?_⟩
    · have e2 : ∀ a, a ≠ 0 → a ≠ 48 → am_u2 (am_u2 u 48 S.wc x) 0 13 (nI (S.wc + 1)) a = u a := fun a h1 h2 => by rw [u2_ne _ _ h1, u2_ne _ _ h2]
      refine ⟨am_u2 (am_u2 u 48 S.wc x) 0 13 (nI (S.wc + 1)), ?_, CI_tail hS (fun a h1 _ h3 _ _ => e2 a h1 h3) (by rw [u2_nei _ _ (Or.inr (by decide)), u2_ne _ _ (by decide)]) (by rw [u2_nei _ _ (Or.inr (by decide)), u2_ne _ _ (by decide)]; exact hu.tl) (fun k hk => by rw [e2 _ (by decide) (by decide)]; exact hu.tp k hk) (u2_same _ _ _ _) (fun k hk => ?_) hu, fun a ha => e2 a (by omega) (by omega)⟩
      · show f_X6_tell u x = _
        unfold f_X6_tell
        rw [hu.wc, if_pos (show nI S.wc < 60 from nI_lt h60 (by decide)), if_pos (p_inT (by omega) h60), nI_clamp (by omega), p_let, p_let, u2_ne _ _ (by decide), hu.wc, nI_1, u2_same]
      · rw [u2_ne _ _ (by decide), u2_row]
        by_cases e : k = S.wc
        · rw [e, upd_sm, upd_sm]
        · rw [upd_ne e, upd_ne e]; exact hu.wt k (by omega)
    · have e2 : ∀ a, a ≠ 110 → a ≠ 132 → am_u2 (am_u2 u 132 S.wc x) 110 33 (nI (S.wc + 1)) a = u a := fun a h1 h2 => by rw [u2_ne _ _ h1, u2_ne _ _ h2]
      refine ⟨am_u2 (am_u2 u 132 S.wc x) 110 33 (nI (S.wc + 1)), ?_, MI_tail (fun a h => e2 a (by omega) (by omega)) (by rw [u2_nei _ _ (Or.inr (by decide)), u2_ne _ _ (by decide)]) (by rw [u2_nei _ _ (Or.inr (by decide)), u2_ne _ _ (by decide)]; exact hu.tl) (fun k hk => by rw [e2 _ (by decide) (by decide)]; exact hu.tp k hk) (u2_same _ _ _ _) (fun k hk => ?_) hu, fun a ha => e2 a (by omega) (by omega)⟩
      · show f_X7_tell u x = _
        unfold f_X7_tell
        rw [hu.wc, if_neg (show ¬ nI S.wc = 60 from nIne hz (by omega) (by decide)), if_pos (p_inT (by omega) h60), nI_clamp (by omega), p_let, p_let, u2_ne _ _ (by decide), hu.wc, nI_1, u2_same]
      · rw [u2_ne _ _ (by decide), u2_row]
        by_cases e : k = S.wc
        · rw [e, upd_sm, upd_sm]
        · rw [upd_ne e, upd_ne e]; exact hu.wt k (by omega)
def coI (y : Int32) (S : AS) : Int32 := if y = 0 then nI S.now.n else if y = 1 then S.now.sea 0 else if y = 2 then S.now.sea 1 else if y = 3 then S.now.sea 2 else if y = 4 then S.now.sea 3 else if y = 5 then nI S.now.m else if y = 6 then nI S.wc else if y = 7 then nI S.tl else if y = 8 then S.now.z else -1000000001
theorem k_count (y : Int32) : Call (fun u => f_X6_count u y) (fun u => f_X7_count u y) := by
  intro S B hS hB
  refine Cro hS (coI y S) (fun u hu => ?_) (fun u hu => ?_)
  · show f_X6_count u y = _
    have hw := hu.now
    have s0 : u 2 0 = S.now.sea 0 := hw.sea 0 (by decide)
    have s1 : u 2 1 = S.now.sea 1 := hw.sea 1 (by decide)
    have s2 : u 2 2 = S.now.sea 2 := hw.sea 2 (by decide)
    have s3 : u 2 3 = S.now.sea 3 := hw.sea 3 (by decide)
    unfold f_X6_count coI
    rw [hw.n, s0, s1, s2, s3, hw.m, hu.wc, hu.tl, hw.z]
    split
    · rfl
    · skip
      split
      · rfl
      · skip
        split
        · rfl
        · skip
          split
          · rfl
          · skip
            split
            · rfl
            · skip
              split
              · rfl
              · skip
                split
                · rfl
                · skip
                  split
                  · rfl
                  · skip
                    split <;> rfl
  · show f_X7_count u y = _
    have hw := hu.now
    have s0 : u 111 2 = S.now.sea 0 := hw.sea 0 (by decide)
    have s1 : u 111 3 = S.now.sea 1 := hw.sea 1 (by decide)
    have s2 : u 111 4 = S.now.sea 2 := hw.sea 2 (by decide)
    have s3 : u 111 5 = S.now.sea 3 := hw.sea 3 (by decide)
    unfold f_X7_count coI
    rw [hw.n, hw.m, hu.wc, hu.tl, hw.z]
    split
    · rfl
    · split
      · rename_i q; subst q
        rw [if_pos (by decide), show ((2 : Int32) + 1 - 1).toNatClampNeg = 2 from by decide, s0]
      · split
        · rename_i q; subst q
          rw [if_pos (by decide), show ((2 : Int32) + 2 - 1).toNatClampNeg = 3 from by decide, s1]
        · split
          · rename_i q; subst q
            rw [if_pos (by decide), show ((2 : Int32) + 3 - 1).toNatClampNeg = 4 from by decide, s2]
          · split
            · rename_i q; subst q
              rw [if_pos (by decide), show ((2 : Int32) + 4 - 1).toNatClampNeg = 5 from by decide, s3]
            · split
              · rfl
              · split
                · rfl
                · split
                  · rfl
                  · split <;> rfl
theorem cnt_why {S : AS} {B : Nat} (hS : OK S B) {u : am_MU} (hu : MI u S) {k : Nat} (hk : k < 3) : f_X7_counts u (nI k) = some (u, match lawT S.T S.now.m k with | none => -1 | some t => nI t) := by
  have hm := hS.now.m
  unfold f_X7_counts
  rw [p_let, hu.now.m, p_X7_counts u (nI k) S.now.m 1700 hm (by omega), cntI_eq hk S.now.m hm hS.now.t hu.now.t1]
  cases lawT S.T S.now.m k <;> rfl
theorem k_why (x : Int32) : Call (fun u => f_X6_why u x) (fun u => f_X7_why u x) := by
  intro S B hS hB
  rcases rng x (show 3 < 2 ^ 31 by decide) with ⟨k, hk, rfl⟩ | hx
  · refine Cro hS (lawI (lawT S.T S.now.m k)) (fun u hu => ?_) (fun u hu => ?_)
    · show f_X6_why u (nI k) = _
      unfold f_X6_why
      have e : u 3 k = lawI (lawT S.T S.now.m k) := hu.now.law k hk
      rw [ii (n := 2) hk (by decide) 2 rfl, if_pos (p_inT (by omega) hk), nI_clamp (by omega), e]
    · show f_X7_why u (nI k) = _
      unfold f_X7_why
      rw [bG1 (in_in u 2 (n := 2) rfl (by decide) hk)]
      rw [cnt_why hS hu hk, p_some]
      have hm := hS.now.m
      cases h : lawT S.T S.now.m k with
      | none => exact if_neg (show ¬ 0 ≤ (-1 : Int32) by decide)
      | some t => exact if_pos (nI_pos' (by have := (lawT_lt h).1; omega))
  · refine Cro hS (-1000000001) (fun u hu => ?_) (fun u hu => ?_)
    · show f_X6_why u x = _
      unfold f_X6_why
      rw [oi (n := 2) hx (by decide) 2 rfl]
    · show f_X7_why u x = _
      unfold f_X7_why
      rw [bG0 (out_in u 2 (n := 2) rfl (by decide) hx)]
theorem oi2 {α : Type} {x : Int32} {n : Nat} (h : out x n) (a b : α) : (if x < 0 then a else if nI n ≤ x then a else b) = a := by
  by_cases h0 : x < 0
  · rw [if_pos h0]
  · rw [if_neg h0, if_pos (h.resolve_left h0)]
theorem ii2 {α : Type} {j n : Nat} (h : j < n) (hn : n < 1000000) (a b : α) : (if nI j < 0 then a else if nI n ≤ nI j then a else b) = b := by
  rw [if_neg (nI_pos (by omega)), if_neg (nI_ge h (by omega))]
theorem inM1 (u : am_MU) {n j : Nat} (hn : n < 1000000) (h : j < n) : f_X7_in u (nI j) 0 (nI n - 1) = some (u, 1) := by
  obtain ⟨m, rfl⟩ : ∃ m, n = m + 1 := ⟨n - 1, by omega⟩
  rw [nI_pred]
  exact in_in u _ rfl (by omega) h
theorem inM0 (u : am_MU) {n : Nat} {x : Int32} (hn : n < 1000000) (h : out x n) : f_X7_in u x 0 (nI n - 1) = some (u, 0) := by
  rcases Nat.eq_zero_or_pos n with rfl | hp
  · rw [p_X7_in, if_pos]
    rcases h with q | q
    · exact Or.inl q
    · exact Or.inr (Int32.lt_of_lt_of_le (by decide) q)
  · obtain ⟨m, rfl⟩ : ∃ m, n = m + 1 := ⟨n - 1, by omega⟩
    rw [nI_pred]
    exact out_in u _ rfl (by omega) h
theorem k_textTold (x y : Int32) : Call (fun u => f_X6_textTold u x y) (fun u => f_X7_textTold u x y) := by
  intro S B hS hB
  have hm := hS.now.m
  rcases rng x (show S.now.m < 2 ^ 31 by omega) with ⟨t, ht, rfl⟩ | hx
  · have ht14 : t < 14 := by omega
    have e1 : (163 : Int32) + 2 * nI t = nI (163 + 2 * t) := by rw [show (163 : Int32) = nI 163 from rfl, show (2 : Int32) = nI 2 from rfl, pk_mul, nI_add]
    obtain ⟨t1, t2, t3⟩ := hS.now.t t ht
    have t4 := t2.1
    rcases rng y (show 2 < 2 ^ 31 by decide) with ⟨w, hw, rfl⟩ | hy
    · rcases (show w = 0 ∨ w = 1 by omega) with rfl | rfl
      · refine Cro hS (nI (S.T t).key) (fun u hu => ?_) (fun u hu => ?_)
        · show f_X6_textTold u (nI t) (nI 0) = _
          unfold f_X6_textTold
          have e : u 1 4 = nI S.now.m := hu.now.m
          rw [e, ii2 ht (by omega), ii (n := 1) hw (by decide) 1 rfl, if_pos (show nI 0 = 0 from rfl), if_pos (p_inT (by omega) ht14), nI_clamp (by omega), if_pos (tg49 t ht14), (hu.tx t ht).key]
        · show f_X7_textTold u (nI t) (nI 0) = _
          unfold f_X7_textTold
          rw [hu.now.m, bG1 (inM1 u (by omega) ht), bG1 (in_in u 1 (n := 1) rfl (by decide) hw)]
          dsimp only
          rw [if_pos (show nI 0 = 0 from rfl), e1, if_pos (p_inT (by omega) (by omega)), nI_clamp (by omega), hu.now.t1 t ht, show (1000 : Int32) = nI 1000 from rfl, pk_div (by omega) (by decide) (by decide), show (1000 * (S.T t).key + (S.T t).len) / 1000 = (S.T t).key by omega]
      · refine Cro hS (S.T t).lv (fun u hu => ?_) (fun u hu => ?_)
        · show f_X6_textTold u (nI t) (nI 1) = _
          unfold f_X6_textTold
          have e : u 1 4 = nI S.now.m := hu.now.m
          rw [e, ii2 ht (by omega), ii (n := 1) hw (by decide) 1 rfl, if_neg (by decide), if_pos (p_inT (by omega) ht14), nI_clamp (by omega), if_pos (tg49 t ht14), (hu.tx t ht).lv]
        · show f_X7_textTold u (nI t) (nI 1) = _
          unfold f_X7_textTold
          rw [hu.now.m, bG1 (inM1 u (by omega) ht), bG1 (in_in u 1 (n := 1) rfl (by decide) hw)]
          dsimp only
          rw [if_neg (show ¬ nI 1 = 0 by decide), e1, nI_1, if_pos (p_inT (by omega) (by omega)), nI_clamp (by omega), show 163 + 2 * t + 1 = 164 + 2 * t by omega, hu.now.t2 t ht]
    · refine Cro hS (-1000000001) (fun u hu => ?_) (fun u hu => ?_)
      · show f_X6_textTold u (nI t) y = _
        unfold f_X6_textTold
        have e : u 1 4 = nI S.now.m := hu.now.m
        rw [e, ii2 ht (by omega), oi (n := 1) hy (by decide) 1 rfl]
      · show f_X7_textTold u (nI t) y = _
        unfold f_X7_textTold
        rw [hu.now.m, bG1 (inM1 u (by omega) ht), bG0 (out_in u 1 (n := 1) rfl (by decide) hy)]
  · refine Cro hS (-1000000001) (fun u hu => ?_) (fun u hu => ?_)
    · show f_X6_textTold u x y = _
      unfold f_X6_textTold
      have e : u 1 4 = nI S.now.m := hu.now.m
      rw [e, oi2 hx]
    · show f_X7_textTold u x y = _
      unfold f_X7_textTold
      rw [hu.now.m, bG0 (inM0 u (by omega) hx)]
/-! feed: bytes -/
def shI (j : Nat) : Int32 := 24 - 8 * nI j
def by8 (v : Int32) (j : Nat) : Int32 := (v.toUInt32 >>> ((shI j).toUInt32 &&& Int32.toUInt32 31)).toInt32 &&& 255
theorem sh_step : ∀ j, j < 4 → shI j + (-8) = shI (j + 1) ∧ ¬ shI j < 0 := by decide +kernel
theorem sh_u : ∀ j, j < 4 → (((shI j).toUInt32 &&& Int32.toUInt32 31).toBitVec % 32).toNat = 24 - 8 * j := by decide +kernel
theorem sh_s : ∀ j, j < 4 → ((shI j &&& 31).toBitVec.smod 32).toNat = 24 - 8 * j := by decide +kernel
theorem by8_eq (v : Int32) {j : Nat} (hj : j < 4) : (v >>> (shI j &&& 31)) &&& 255 = by8 v j := by
  unfold by8
  rw [pk_and _ (m := 255) 8 (by decide), pk_and _ (m := 255) 8 (by decide), pk_ushr v (shI j) (24 - 8 * j) (sh_u j hj)]
  have h2 := pk_shr v (shI j &&& 31) (24 - 8 * j) (sh_s j hj)
  congr 1
  generalize v >>> (shI j &&& 31) = w at h2
  have b1 : w.toInt = (if 2 * w.toBitVec.toNat < 2 ^ 32 then (w.toBitVec.toNat : Int) else (w.toBitVec.toNat : Int) - (2 ^ 32 : Nat)) := BitVec.toInt_eq_toNat_cond w.toBitVec
  have b2 : v.toInt = (if 2 * v.toBitVec.toNat < 2 ^ 32 then (v.toBitVec.toNat : Int) else (v.toBitVec.toNat : Int) - (2 ^ 32 : Nat)) := BitVec.toInt_eq_toNat_cond v.toBitVec
  have l1 := w.toBitVec.isLt
  have l2 := v.toBitVec.isLt
  rw [b1, b2, Int.shiftRight_eq_div_pow] at h2
  generalize w.toBitVec.toNat = a at *
  generalize v.toBitVec.toNat = b at *
  rcases (show j = 0 ∨ j = 1 ∨ j = 2 ∨ j = 3 by omega) with rfl | rfl | rfl | rfl
  · simp only [Nat.mul_zero, Nat.sub_zero, Nat.reducePow, Nat.reduceMul] at *
    split at h2 <;> split at h2 <;> omega
  · simp only [Nat.reduceSub, Nat.reducePow, Nat.reduceMul] at *
    split at h2 <;> split at h2 <;> omega
  · simp only [Nat.reduceSub, Nat.reducePow, Nat.reduceMul] at *
    split at h2 <;> split at h2 <;> omega
  · simp only [Nat.reduceSub, Nat.reducePow, Nat.reduceMul, Nat.div_one] at *
    split at h2 <;> split at h2 <;> omega
theorem p_X6_feedL {v : Int32} {t : Nat} (ht : t + 4 ≤ 96) : ∀ (m j n : Nat) (u : am_MU), j + m = 4 → m < n → u 0 9 = nI (t + j) → ∃ u', g_X6_feedNumber_3 n u v (shI j) = some u' ∧ same [0, 45] u u' ∧ (∀ i, i ≠ 9 → u' 0 i = u 0 i) ∧ u' 0 9 = nI (t + 4) ∧ (∀ i, j ≤ i → i < 4 → u' 45 (t + i) = by8 v i) ∧ (∀ i, i < t + j ∨ t + 4 ≤ i → u' 45 i = u 45 i) := by
  intro m
  induction m with
  | zero =>
    intro j n u h1 h2 hu
    obtain ⟨n, rfl⟩ : ∃ k, n = k + 1 := ⟨n - 1, by omega⟩
    obtain rfl : j = 4 := by omega
    rw [g_X6_feedNumber_3]
    dsimp only
    rw [if_pos (by decide)]
    exact ⟨u, rfl, same_rf, fun _ _ => rfl, hu, fun i h1 h2 => by omega, fun _ _ => rfl⟩
  | succ m ih =>
    intro j n u h1 h2 hu
    obtain ⟨n, rfl⟩ : ∃ k, n = k + 1 := ⟨n - 1, by omega⟩
    have hj : j < 4 := by omega
    rw [g_X6_feedNumber_3]
    dsimp only
    rw [if_neg (sh_step j hj).2, hu, if_neg (show ¬ (96 : Int32) ≤ nI (t + j) from nI_ge (show t + j < 96 by omega) (by decide)), if_pos (p_inT (by omega) (by omega)), nI_clamp (by omega), p_let, p_let]
    simp only [g_X6_feedNumber_42, p_let, (sh_step j hj).1]
    show ∃ u', g_X6_feedNumber_3 n (am_u2 (am_u2 u 45 (t + j) (by8 v j)) 0 9 (am_u2 u 45 (t + j) (by8 v j) 0 9 + 1)) v (shI (j + 1)) = some u' ∧ _
    generalize hv1 : am_u2 u 45 (t + j) (by8 v j) = v1
    have q1 : v1 0 = u 0 := by rw [← hv1]; exact u2_ne _ _ (by decide)
    have q2 : v1 45 = upd (u 45) (t + j) (by8 v j) := by rw [← hv1]; exact u2_row _ _ _ _
    generalize hv2 : am_u2 v1 0 9 (v1 0 9 + 1) = v2
    have q3 : v2 45 = upd (u 45) (t + j) (by8 v j) := by rw [← hv2, u2_ne _ _ (by decide)]; exact q2
    have q4 : ∀ i, i ≠ 9 → v2 0 i = u 0 i := fun i hi => by rw [← hv2, u2_nei _ _ (Or.inr hi), q1]
    have q5 : v2 0 9 = nI (t + (j + 1)) := by rw [← hv2, u2_same, q1, hu, nI_1]; rfl
    have q6 : same [0, 45] u v2 := by rw [← hv2, ← hv1]; exact same_tr (same_u2 _ _ _ _ (by simp)) (same_u2 _ _ _ _ (by simp))
    obtain ⟨u', g1, g2, g3, g4, g5, g6⟩ := ih (j + 1) n v2 (by omega) (by omega) q5
    refine ⟨u', g1, same_tr q6 g2, fun i hi => by rw [g3 i hi, q4 i hi], g4, fun i hi1 hi2 => ?_, fun i hi => ?_⟩
    · by_cases e : i = j
      · subst e; rw [g6 _ (by omega), q3, upd_sm]
      · exact g5 i (by omega) hi2
    · rw [g6 i (by omega), q3, upd_ne (by omega)]
theorem p_X6_feedN {v : Int32} {t : Nat} (ht : t + 4 ≤ 96) {u : am_MU} (hu : u 0 9 = nI t) : ∃ u', f_X6_feedNumber u v = some u' ∧ same [0, 45] u u' ∧ (∀ i, i ≠ 9 → u' 0 i = u 0 i) ∧ u' 0 9 = nI (t + 4) ∧ (∀ i, i < 4 → u' 45 (t + i) = by8 v i) ∧ (∀ i, i < t ∨ t + 4 ≤ i → u' 45 i = u 45 i) := by
  obtain ⟨u', g1, g2, g3, g4, g5, g6⟩ := p_X6_feedL (v := v) ht 4 0 1700 u rfl (by decide) hu
  exact ⟨u', g1, g2, g3, g4, fun i hi => g5 i (Nat.zero_le _) hi, g6⟩
def wdI (a b c : Int32) (q : Nat) : Int32 := if q < 4 then a else if q < 8 then b else c
theorem sh_m : ∀ q, q < 12 → (24 : Int32) - 8 * (nI q - nI q / 4 * 4) = shI (q % 4) := by decide +kernel
theorem p_X7_feedL {a b c : Int32} {t : Nat} (ht : t + 12 ≤ 96) : ∀ (m q n : Nat) (u : am_MU), q + m = 12 → m < n → u 110 7 = nI t → ∃ u', g_X7_feed_18 n u a b c (nI q) = some (u', nI (t + 12)) ∧ same [110, 116] u u' ∧ (∀ i, i ≠ 7 → u' 110 i = u 110 i) ∧ u' 110 7 = nI (t + 12) ∧ (∀ i, q ≤ i → i < 12 → u' 116 (t + i) = by8 (wdI a b c i) (i % 4)) ∧ (∀ i, i < t + q → u' 116 i = u 116 i) := by
  intro m
  induction m with
  | zero =>
    intro q n u h1 h2 hu
    obtain ⟨n, rfl⟩ : ∃ k, n = k + 1 := ⟨n - 1, by omega⟩
    obtain rfl : q = 12 := by omega
    rw [g_X7_feed_18]
    dsimp only
    rw [if_pos (by decide), p_let, u2_same, hu, show (12 : Int32) = nI 12 from rfl, nI_add]
    exact ⟨_, rfl, same_u2 _ _ _ _ (by simp), fun i hi => u2_nei _ _ (Or.inr hi), u2_same _ _ _ _, fun i h1 h2 => by omega, fun i _ => by rw [u2_ne _ _ (by decide)]⟩
  | succ m ih =>
    intro q n u h1 h2 hu
    obtain ⟨n, rfl⟩ : ∃ k, n = k + 1 := ⟨n - 1, by omega⟩
    have hq : q < 12 := by omega
    have key : ∃ u', g_X7_feed_47 (g_X7_feed_18 n) u a b c (nI q) (wdI a b c q) = some (u', nI (t + 12)) ∧ same [110, 116] u u' ∧ (∀ i, i ≠ 7 → u' 110 i = u 110 i) ∧ u' 110 7 = nI (t + 12) ∧ (∀ i, q ≤ i → i < 12 → u' 116 (t + i) = by8 (wdI a b c i) (i % 4)) ∧ (∀ i, i < t + q → u' 116 i = u 116 i) := by
      unfold g_X7_feed_47
      rw [hu, nI_add, if_pos (p_inT (by omega) (by omega)), nI_clamp (by omega), p_let, p_let, nI_1, sh_m q hq, by8_eq _ (by omega)]
      generalize hv1 : am_u2 u 116 (t + q) (by8 (wdI a b c q) (q % 4)) = v1
      have q1 : v1 110 = u 110 := by rw [← hv1]; exact u2_ne _ _ (by decide)
      have q2 : v1 116 = upd (u 116) (t + q) (by8 (wdI a b c q) (q % 4)) := by rw [← hv1]; exact u2_row _ _ _ _
      obtain ⟨u', g1, g2, g3, g4, g5, g6⟩ := ih (q + 1) n v1 (by omega) (by omega) (by rw [q1]; exact hu)
      refine ⟨u', g1, same_tr (by rw [← hv1]; exact same_u2 _ _ _ _ (by simp)) g2, fun i hi => by rw [g3 i hi, q1], g4, fun i hi1 hi2 => ?_, fun i hi => ?_⟩
      · by_cases e : i = q
        · subst e; rw [g6 _ (by omega), q2, upd_sm]
        · exact g5 i (by omega) hi2
      · rw [g6 i (by omega), q2, upd_ne (by omega)]
    rw [g_X7_feed_18]
    dsimp only
    rw [if_neg (show ¬ (12 : Int32) ≤ nI q from nI_ge hq (by decide))]
    unfold wdI at key
    by_cases z4 : q < 4
    · rw [if_neg (show ¬ (4 : Int32) ≤ nI q from nI_ge z4 (by decide))]
      rw [if_pos z4] at key
      exact key
    · rw [if_pos (show (4 : Int32) ≤ nI q from nI_le (show 4 ≤ q by omega) (by omega))]
      rw [if_neg z4] at key
      by_cases z8 : q < 8
      · rw [if_neg (show ¬ (8 : Int32) ≤ nI q from nI_ge z8 (by decide))]
        rw [if_pos z8] at key
        exact key
      · rw [if_pos (show (8 : Int32) ≤ nI q from nI_le (show 8 ≤ q by omega) (by omega))]
        rw [if_neg z8] at key
        exact key
theorem k_feed (a b c : Int32) : Call (fun u => f_X6_feed u a b c) (fun u => f_X7_feed u a b c) := by
  intro S B hS hB
  have htl := hS.tl
  have e12 : nI S.tl + 12 = nI (S.tl + 12) := by rw [show (12 : Int32) = nI 12 from rfl, nI_add]
  by_cases hz : S.tl + 12 ≤ 96
  · have h96 : nI (S.tl + 12) ≤ (96 : Int32) := nI_le hz (by decide)
    refine ⟨(S.T, S.now, S.img, S.tl + 12, fun k => if k < S.tl then S.tp k else by8 (wdI a b c (k - S.tl)) ((k - S.tl) % 4), S.sh, S.sl, S.wc, S.wt), nI (S.tl + 12), OK_tail hS hz hS.wc, fun u hu => ?_, fun u hu => ?_⟩
    · obtain ⟨v1, a1, a2, a3, a4, a5, a6⟩ := p_X6_feedN (v := a) (t := S.tl) (by omega) hu.tl
      obtain ⟨v2, b1, b2, b3, b4, b5, b6⟩ := p_X6_feedN (v := b) (t := S.tl + 4) (by omega) a4
      obtain ⟨v3, c1, c2, c3, c4, c5, c6⟩ := p_X6_feedN (v := c) (t := S.tl + 4 + 4) (by omega) b4
      have s3 := same_tr (same_tr a2 b2) c2
      refine ⟨v3, ?_, CI_tail hS (fun a h1 h2 h3 _ _ => s3 a (by simp; omega)) (by rw [c3 _ (by decide), b3 _ (by decide), a3 _ (by decide)]) c4 (fun k hk => ?_) (by rw [c3 _ (by decide), b3 _ (by decide), a3 _ (by decide)]; exact hu.wc) (fun k hk => by rw [s3 48 (by decide)]; exact hu.wt k hk) hu, lo_same s3 (by simp)⟩
      · show f_X6_feed u a b c = _
        unfold f_X6_feed
        rw [hu.tl, e12, if_pos h96, a1, p_some, b1, p_some, c1, p_some, c4]
      · show _ = if k < S.tl then S.tp k else by8 (wdI a b c (k - S.tl)) ((k - S.tl) % 4)
        by_cases z : k < S.tl
        · rw [if_pos z, c6 _ (by omega), b6 _ (by omega), a6 _ (by omega)]; exact hu.tp k z
        · rw [if_neg z]
          obtain ⟨d, rfl⟩ : ∃ d, k = S.tl + d := ⟨k - S.tl, by omega⟩
          have hd : d < 12 := by omega
          rw [show S.tl + d - S.tl = d by omega]
          unfold wdI
          by_cases z4 : d < 4
          · rw [if_pos z4, c6 _ (by omega), b6 _ (by omega), a5 d z4, show d % 4 = d by omega]
          · rw [if_neg z4]
            by_cases z8 : d < 8
            · rw [if_pos z8, c6 _ (by omega), show S.tl + d = S.tl + 4 + (d - 4) by omega, b5 _ (by omega), show d % 4 = d - 4 by omega]
            · rw [if_neg z8, show S.tl + d = S.tl + 4 + 4 + (d - 8) by omega, c5 _ (by omega), show d % 4 = d - 8 by omega]
    · obtain ⟨v3, c1, c2, c3, c4, c5, c6⟩ := p_X7_feedL (a := a) (b := b) (c := c) hz 12 0 1700 u rfl (by decide) hu.tl
      refine ⟨v3, ?_, MI_tail (fun a h => c2 a (by simp; omega)) (c3 _ (by decide)) c4 (fun k hk => ?_) (by rw [c3 _ (by decide)]; exact hu.wc) (fun k hk => by rw [c2 132 (by decide)]; exact hu.wt k hk) hu, hi_same c2 (by simp)⟩
      · show f_X7_feed u a b c = _
        unfold f_X7_feed
        rw [hu.tl, e12, if_pos h96]
        exact c1
      · show _ = if k < S.tl then S.tp k else by8 (wdI a b c (k - S.tl)) ((k - S.tl) % 4)
        by_cases z : k < S.tl
        · rw [if_pos z, c6 _ (by omega)]; exact hu.tp k z
        · rw [if_neg z]
          obtain ⟨d, rfl⟩ : ∃ d, k = S.tl + d := ⟨k - S.tl, by omega⟩
          rw [show S.tl + d - S.tl = d by omega]
          exact c5 d (by omega) (by omega)
  · refine Cro hS (-1000000003) (fun u hu => ?_) (fun u hu => ?_)
    · show f_X6_feed u a b c = _
      unfold f_X6_feed
      rw [hu.tl, e12, if_neg (show ¬ nI (S.tl + 12) ≤ (96 : Int32) from nI_ge (show 96 < S.tl + 12 by omega) (by omega))]
    · show f_X7_feed u a b c = _
      unfold f_X7_feed
      rw [hu.tl, e12, if_neg (show ¬ nI (S.tl + 12) ≤ (96 : Int32) from nI_ge (show 96 < S.tl + 12 by omega) (by omega))]
