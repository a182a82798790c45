theorem p_X7_worksOut {code F : Nat → Int32} {len t key : Nat} {hg : Nat → Nat} (hV : VP code len hg) (ht : t < 14) (hk : key < 3) (u : am_MU) (h1 : u 111 (163 + 2 * t) = nI (1000 * key + len)) (hcode : ∀ k, k < len → u 111 (191 + 96 * t + k) = code k) (hF : ∀ j, j < 3 → u 123 j = F j) : ∃ u', f_X7_worksOut u (nI t) = some (u', vl code F len) ∧ same [122] u u' := by
  have h96 := hV.1
  have e1 : (163 : Int32) + 2 * nI t = nI (163 + 2 * t) := by rw [show (163 : Int32) = nI 163 from rfl, show (2 : Int32) = nI 2 from rfl, pk_mul, nI_add]
  unfold f_X7_worksOut
  rw [e1, if_pos (p_inT (by omega) (by omega)), nI_clamp (by omega), h1, show (1000 : Int32) = nI 1000 from rfl, pk_rem (by omega) (by decide) (by decide), p_let, show (1000 * key + len) % 1000 = len by omega]
  have := p_X7_wk (F := F) hV ht len 0 1700 u (by omega) (by omega) hcode hF trivial
  rw [hV.2.1] at this
  exact this
theorem trc_L {x : Int32} (h : opL x) (u : am_MU) (F : Nat → Int32) (a b c : Int32) (e0 : F 0 = a) (e1 : F 1 = b) (e2 : F 2 = c) : ¬ trc x < -3 ∧ f_X4_leaf u (trc x) a b c = some (u, if 10000 ≤ x then F (x - 10000).toNatClampNeg else x) := by
  rcases h with ⟨n, hn, rfl⟩ | rfl | rfl | rfl
  · have hz : ∀ y : Int32, y < 0 → ¬ nI n = y := fun y hy e => nI_pos (show n < 2 ^ 31 by omega) (by rw [e]; exact hy)
    have hb : ∀ m : Nat, 10000 ≤ m → m < 2 ^ 31 → ¬ nI n = nI m := fun m h1 h2 e => by
      have := (nI_eq (show n < 2 ^ 31 by omega) h2).mp e
      omega
    have e : trc (nI n) = nI n := by
      unfold trc
      rw [if_neg (hz _ (by decide)), if_neg (hz _ (by decide)), if_neg (hz _ (by decide)), if_neg (hz _ (by decide)), if_neg (hz _ (by decide)), if_neg (hz _ (by decide)), if_neg (hz _ (by decide)), if_neg (hz _ (by decide)), if_neg (hz _ (by decide)), if_neg (hz _ (by decide)), if_neg (show ¬ nI n = 10000 from hb 10000 (by omega) (by omega)), if_neg (show ¬ nI n = 10001 from hb 10001 (by omega) (by omega)), if_neg (show ¬ nI n = 10002 from hb 10002 (by omega) (by omega))]
    rw [e, if_neg (p_big n hn)]
    refine ⟨fun q => nI_pos (show n < 2 ^ 31 by omega) (Int32.lt_trans q (by decide)), ?_⟩
    unfold f_X4_leaf
    rw [if_neg (hz _ (by decide)), if_neg (hz _ (by decide)), if_neg (hz _ (by decide))]
  · refine ⟨by decide, ?_⟩
    rw [if_pos (by decide), show ((10000 : Int32) - 10000).toNatClampNeg = 0 from by decide, e0]
    rfl
  · refine ⟨by decide, ?_⟩
    rw [if_pos (by decide), show ((10001 : Int32) - 10000).toNatClampNeg = 1 from by decide, e1]
    rfl
  · refine ⟨by decide, ?_⟩
    rw [if_pos (by decide), show ((10002 : Int32) - 10000).toNatClampNeg = 2 from by decide, e2]
    rfl
theorem trc_B {x : Int32} (h : opB x) : trc x < -3 ∧ ¬ trc x = -33 := by rcases h with rfl | rfl | rfl | rfl | rfl | rfl | rfl | rfl | rfl <;> decide
theorem VP_hg {code : Nat → Int32} {len : Nat} {hg : Nat → Nat} (hV : VP code len hg) : ∀ j, j ≤ len → hg j ≤ j := by
  intro j
  induction j with
  | zero => intro _; rw [hV.2.1]; exact Nat.le_refl _
  | succ j ihj =>
    intro hj
    have := ihj (by omega)
    rcases hV.2.2.2 j (by omega) with q | q | q <;> omega
theorem p_X4_wk {code F : Nat → Int32} {len a0 : Nat} {hg : Nat → Nat} {a b c : Int32} (hV : VP code len hg) (ta : tg a0 = 4) (n44 : a0 ≠ 44 ∧ a0 + 1 ≠ 44) (e0 : F 0 = a) (e1 : F 1 = b) (e2 : F 2 = c) : ∀ (m k n : Nat) (u : am_MU), k + m = len → m < n → u a0 2 = nI len → (∀ k, k < len → u (a0 + 1) k = trc (code k)) → RS (u 44) (stk code F k) → ∃ u', g_X4_value_6 n u a0 44 a b c (nI (hg k)) (nI k) = some (u', vl code F len) ∧ same [44] u u' := by
  intro m
  induction m with
  | zero =>
    intro k n u h1 h2 hlen hcode hR
    obtain ⟨n, rfl⟩ : ∃ z, n = z + 1 := ⟨n - 1, by omega⟩
    obtain rfl : k = len := by omega
    have h96 := hV.1
    refine ⟨u, ?_, same_rf⟩
    rw [g_X4_value_6]
    dsimp only
    rw [if_pos ta, hlen, if_pos (nI_le (Nat.le_refl _) (by omega))]
    unfold g_X4_value_143
    have hl := stk_len (F := F) hV k (Nat.le_refl _)
    rw [hV.2.2.1] at hl ⊢
    rw [if_pos (show nI 1 = 1 from rfl), if_pos (by decide)]
    unfold vl
    match hs : stk code F k with
    | [] => rw [hs] at hl; simp at hl
    | [x] => rw [hs] at hR; rw [show u 44 0 = x from hR.1]; rfl
    | x :: y :: s => rw [hs] at hl; simp at hl
  | succ m ih =>
    intro k n u h1 h2 hlen hcode hR
    obtain ⟨n, rfl⟩ : ∃ z, n = z + 1 := ⟨n - 1, by omega⟩
    have hk : k < len := by omega
    have h96 := hV.1
    have hl := stk_len (F := F) hV k (by omega)
    have hgk := VP_hg hV k (by omega)
    have i44 : il 44 = 96 := by decide
    rw [g_X4_value_6]
    dsimp only
    rw [if_pos ta, hlen, if_neg (nI_ge hk (by omega)), if_neg (show ¬ (96 : Int32) ≤ nI k from nI_ge (show k < 96 by omega) (by decide)), if_pos (p_inT (by omega) (by omega)), nI_clamp (by omega), hcode k hk, p_let]
    have hst : stk code F (k + 1) = stp (code k) F (stk code F k) := rfl
    have nxt : ∀ (i : Nat) (v : Int32), RS (upd (u 44) i v) (stk code F (k + 1)) → ∃ u', g_X4_value_6 n (am_u2 u 44 i v) a0 44 a b c (nI (hg (k + 1))) (nI (k + 1)) = some (u', vl code F len) ∧ same [44] u u' := by
      intro i v hv
      obtain ⟨u', r1, r2⟩ := ih (k + 1) n (am_u2 u 44 i v) (by omega) (by omega) (by rw [u2_ne _ _ n44.1]; exact hlen) (fun j hj => by rw [u2_ne _ _ n44.2]; exact hcode j hj) (by rw [u2_row]; exact hv)
      exact ⟨u', r1, same_tr (same_u2 u 44 _ v (by decide)) r2⟩
    rcases hV.2.2.2 k hk with ⟨q1, q2⟩ | ⟨q1, q2, q3⟩ | ⟨q1, q2, q3⟩
    · obtain ⟨z1, z2, z3⟩ := stp_L q1 F (stk code F k)
      obtain ⟨z4, z5⟩ := trc_L q1 u F a b c e0 e1 e2
      rw [if_neg z4, i44, if_pos (by decide), if_pos (show nI (hg k) < Int32.ofNat 96 from nI_lt (show hg k < 96 by omega) (by decide)), z5, p_some]
      dsimp only
      rw [if_pos (p_inT (by omega) (by omega)), nI_clamp (by omega)]
      simp only [p_let, g_X4_value_137, nI_1]
      rw [← q2]
      exact nxt (hg k) _ (by rw [hst, z3, ← hl]; exact RS_push hR)
    · rw [q1, show trc (-10) = -33 from by decide, if_pos (by decide), if_pos rfl]
      obtain ⟨g, eg⟩ : ∃ g, hg k = g + 1 := ⟨hg k - 1, by omega⟩
      rw [eg, if_pos (show (1 : Int32) ≤ nI (g + 1) from nI_le (show 1 ≤ g + 1 by omega) (by omega)), nI_pred, i44, if_pos (p_inT (by omega) (by omega)), nI_clamp (by omega)]
      match hs : stk code F k with
      | [] => rw [hs] at hl; simp at hl; omega
      | x :: s =>
        rw [hs] at hl hR
        have hsl : s.length = g := by simp at hl; omega
        have ea : u 44 g = x := by rw [← hsl]; exact hR.1
        have key : ∃ u', g_X4_value_100 (g_X4_value_6 n) u a0 44 a b c (nI (g + 1)) (nI k) 44 (nI g) (nt x) = some (u', vl code F len) ∧ same [44] u u' := by
          unfold g_X4_value_100
          rw [i44, if_pos (p_inT (by omega) (by omega)), nI_clamp (by omega)]
          simp only [p_let, g_X4_value_137, nI_1]
          rw [← eg, ← q3]
          exact nxt g _ (by rw [hst, hs, q1, ← hsl]; exact RS_push hR.2)
        rw [ea]
        by_cases ha : x = 0
        · rw [if_pos ha]; rw [nt, if_pos ha] at key; exact key
        · rw [if_neg ha]; rw [nt, if_neg ha] at key; exact key
    · rw [if_pos (trc_B q1).1, if_neg (trc_B q1).2]
      obtain ⟨g, eg⟩ : ∃ g, hg k = g + 2 := ⟨hg k - 2, by omega⟩
      rw [eg, if_pos (show (2 : Int32) ≤ nI (g + 2) from nI_le (show 2 ≤ g + 2 by omega) (by omega)), show nI (g + 2) + (-1) = nI (g + 1) from pk_m1 (g + 1)]
      simp only [p_let, nI_pred]
      rw [i44, if_pos (p_inT (by omega) (by omega)), if_pos (p_inT (by omega) (by omega)), nI_clamp (by omega), nI_clamp (by omega), p_X4_joined u q1, p_some]
      simp only [p_let, g_X4_value_137, nI_1]
      match hs : stk code F k with
      | [] => rw [hs] at hl; simp at hl; omega
      | [x] => rw [hs] at hl; simp at hl; omega
      | y :: x :: s =>
        rw [hs] at hl hR
        have hsl : s.length = g := by simp at hl; omega
        have eb : u 44 (g + 1) = y := by rw [← hsl]; exact hR.1
        have ea : u 44 g = x := by rw [← hsl]; exact hR.2.1
        rw [ea, eb]
        have e3 : hg (k + 1) = g + 1 := by omega
        have := nxt g (bn (code k) x y) (by
            rw [hst, hs, ← hsl]
            unfold stp
            rw [if_neg (opB_lt q1).2, if_pos (opB_lt q1).1]
            exact RS_push hR.2.2)
        rw [e3] at this
        exact this
theorem p_X4_value {code F : Nat → Int32} {len t : Nat} {hg : Nat → Nat} {a b c : Int32} (hV : VP code len hg) (ht : t < 14) (e0 : F 0 = a) (e1 : F 1 = b) (e2 : F 2 = c) (u : am_MU) (hlen : u (49 + 2 * t) 2 = nI len) (hcode : ∀ k, k < len → u (50 + 2 * t) k = trc (code k)) : ∃ u', f_X4_value u (49 + 2 * t) 44 a b c = some (u', vl code F len) ∧ same [44] u u' := by
  have htg : tg (49 + 2 * t) = 4 := by
    have : ∀ t, t < 14 → tg (49 + 2 * t) = 4 := by decide +kernel
    exact this t ht
  have h96 := hV.1
  have := p_X4_wk (F := F) (a0 := 49 + 2 * t) hV htg ⟨by omega, by omega⟩ e0 e1 e2 len 0 1700 u (by omega) (by omega) hlen (fun k hk => by rw [show 49 + 2 * t + 1 = 50 + 2 * t by omega]; exact hcode k hk) trivial
  rw [hV.2.1] at this
  exact this
