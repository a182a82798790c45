/-! a new floor, sand by lot, runs, feet, worms, stones -/
def r20 : Nat → Int32 := fun c => if c < 24 then 20 else 0
theorem r20_OK : rOK r20 480 := ⟨by decide +kernel, by decide +kernel, fun c hc => if_neg (by omega)⟩
theorem rc_20 {u : am_MU} {a : Nat} (h : ∀ j, j < 24 → u (a + 1) j = 20) : rc u a = r20 := by
  funext c
  unfold rc cut r20
  by_cases hc : c < 24
  · rw [if_pos hc, if_pos hc]; exact h c hc
  · rw [if_neg hc, if_neg hc]
theorem p_X0_beginL {a : Nat} (ta : tg a = 0) {k : Int32} : ∀ (m c n : Nat) (u : am_MU), c + m = 24 → m < n → (∀ j, j < c → u (a + 1) j = 20) → ∃ u', g_X0_begin_2 n u a k (nI c) = some u' ∧ same [a, a + 1] u u' ∧ CF u' a (k, 0, r20) := by
  intro m
  induction m with
  | zero =>
    intro c n u h1 h2 hL
    obtain ⟨n, rfl⟩ : ∃ k, n = k + 1 := ⟨n - 1, by omega⟩
    obtain rfl : c = 24 := by omega
    rw [g_X0_begin_2]
    dsimp only
    rw [if_pos (show (24 : Int32) ≤ nI 24 by decide)]
    rw [if_pos ta]
    simp only [p_let]
    refine ⟨_, rfl, same_tr (same_u2 _ _ _ _ (by simp)) (same_u2 _ _ _ _ (by simp)), u2_same _ _ _ _, ?_, ?_⟩
    · rw [u2_nei _ _ (Or.inr (by decide))]; exact u2_same _ _ _ _
    · refine rc_20 fun j hj => ?_
      rw [u2_ne _ _ (by omega), u2_ne _ _ (by omega)]; exact hL j hj
  | succ m ih =>
    intro c n u h1 h2 hL
    obtain ⟨n, rfl⟩ : ∃ k, n = k + 1 := ⟨n - 1, by omega⟩
    have hc : c < 24 := by omega
    rw [g_X0_begin_2]
    dsimp only
    rw [if_neg (p_ge24 hc)]
    rw [if_pos ta, if_pos (p_inT (by omega) hc), nI_clamp (by omega), p_let, p_let, nI_1]
    obtain ⟨u', g1, g2, g3⟩ := ih (c + 1) n (am_u2 u (a + 1) c 20) (by omega) (by omega) (fun j hj => by
      by_cases e : j = c
      · subst e; exact u2_same _ _ _ _
      · rw [u2_nei _ _ (Or.inr e)]; exact hL j (by omega))
    exact ⟨u', g1, same_tr (same_u2 _ _ _ _ (by simp)) g2, g3⟩
theorem p_X7_floorL {f : Nat} (hf : f < 6) : ∀ (m c n : Nat) (u : am_MU), c + m = 24 → m < n → (∀ j, j < c → u 111 (9 + 26 * f + j) = 20) → ∃ u', g_X7_floor_57 n u (nI f) (nI c) = some (u', nI f) ∧ same [111] u u' ∧ (∀ j, j ≠ 1 → (j < 9 + 26 * f ∨ 33 + 26 * f ≤ j) → u' 111 j = u 111 j) ∧ u' 111 1 = u 111 1 + 1 ∧ rmR (u' 111) f = r20 := by
  intro m
  induction m with
  | zero =>
    intro c n u h1 h2 hL
    obtain ⟨n, rfl⟩ : ∃ k, n = k + 1 := ⟨n - 1, by omega⟩
    obtain rfl : c = 24 := by omega
    rw [g_X7_floor_57]
    dsimp only
    rw [if_pos (show (24 : Int32) ≤ nI 24 by decide)]
    simp only [p_let]
    refine ⟨_, rfl, same_u2 _ _ _ _ (by simp), fun j h1 _ => u2_nei _ _ (Or.inr h1), u2_same _ _ _ _, ?_⟩
    rw [u2_row, rmR_ne _ (by omega)]
    funext c
    unfold rmR cut r20
    by_cases hc : c < 24
    · rw [if_pos hc, if_pos hc]; exact hL c hc
    · rw [if_neg hc, if_neg hc]
  | succ m ih =>
    intro c n u h1 h2 hL
    obtain ⟨n, rfl⟩ : ∃ k, n = k + 1 := ⟨n - 1, by omega⟩
    have hc : c < 24 := by omega
    rw [g_X7_floor_57]
    dsimp only
    rw [if_neg (p_ge24 hc)]
    rw [p_spot0 u hc, p_some]
    dsimp only
    rw [if_pos (p_inT (by omega) (by omega)), nI_clamp (by omega), p_let, p_let, nI_1]
    obtain ⟨u', g1, g2, g3, g4, g5⟩ := ih (c + 1) n (am_u2 u 111 (9 + 26 * f + c) 20) (by omega) (by omega) (fun j hj => by
      by_cases e : j = c
      · subst e; exact u2_same _ _ _ _
      · rw [u2_nei _ _ (Or.inr (by omega))]; exact hL j (by omega))
    exact ⟨u', g1, same_tr (same_u2 _ _ _ _ (by simp)) g2, fun j h1 h2 => by rw [g3 j h1 h2, u2_nei _ _ (Or.inr (by omega))], by rw [g4, u2_nei _ _ (Or.inr (by omega))], g5⟩
theorem k_floor (x : Int32) : Call (fun u => f_X6_floor u x) (fun u => f_X7_floor u x) := by
  intro S B hS hB
  have hn := hS.now.n
  rcases rng x (show 6 < 2 ^ 31 by omega) with ⟨k, hk, rfl⟩ | hx
  · skip
    by_cases hz : S.now.n = 6
    · refine Cro hS (-1000000003) (fun u hu => ?_) (fun u hu => ?_)
      · simp only [f_X6_floor, kC1 u hk, p_some, one0, ↓reduceIte, hu.now.n, hz]
        rw [if_neg (by decide)]
      · simp only [f_X7_floor, in_in u 5 (n := 5) rfl (by decide) hk, p_some, one0, ↓reduceIte, hu.now.n, hz]
        rw [if_pos (by decide)]
    · have hn6 : S.now.n < 6 := by omega
      have hW := WOK_mono hS.now (show B ≤ B + 2400 by omega)
      refine Cwo hS (S.now.n + 1, S.now.sea, S.now.z, S.now.m, fun j => if j = S.now.n then (nI k, 0, r20) else S.now.fl j) (nI S.now.n) ⟨hn6, hW.m, hW.s0, hW.s2, fun j hj => ?_, fun j hj => ?_, hW.t⟩ rfl (fun u hu => ?_) (fun u hu => ?_)
      · show ∃ q, q < 6 ∧ FS.k (if j = S.now.n then (nI k, 0, r20) else S.now.fl j) = nI q
        by_cases e : j = S.now.n
        · rw [if_pos e]; exact ⟨k, hk, rfl⟩
        · have hj : j < S.now.n + 1 := hj
          rw [if_neg e]; exact hW.k j (by omega)
      · show rOK (FS.r (if j = S.now.n then (nI k, 0, r20) else S.now.fl j)) (B + 2400)
        by_cases e : j = S.now.n
        · rw [if_pos e]; exact rOK_mono r20_OK (by omega)
        · have hj : j < S.now.n + 1 := hj
          rw [if_neg e]; exact hW.r j (by omega)
      · have hw := hu.now
        obtain ⟨u1, e1, e2, e3⟩ := p_X0_beginL (k := nI k) (tg5 S.now.n hn6) 24 0 1700 u rfl (by decide) (fun j hj => by omega)
        have e1 : f_X0_begin u (5 + 2 * S.now.n) (nI k) = some u1 := e1
        have q1 : u1 1 = u 1 := e2 1 (by simp; omega)
        have q2 : ∀ a, a ≠ 1 → am_u2 u1 1 1 (nI (S.now.n + 1)) a = u1 a := fun a h => u2_ne _ _ h
        have q3 : ∀ a, a ≠ 1 → a ≠ 5 + 2 * S.now.n → a ≠ 5 + 2 * S.now.n + 1 → am_u2 u1 1 1 (nI (S.now.n + 1)) a = u a := fun a h1 h2 h3 => by rw [q2 a h1]; exact e2 a (by simp; omega)
        refine ⟨am_u2 u1 1 1 (nI (S.now.n + 1)), ?_, fun a h1 _ => q3 a (by omega) (by omega) (by omega), u2_same _ _ _ _, ?_, ?_, ?_, ?_, ?_⟩
        · simp only [f_X6_floor, kC1 u hk, p_some, one0, ↓reduceIte, hw.n, show nI S.now.n < 6 from nI_lt hn6 (by decide), p_inT (show S.now.n < 2 ^ 31 by omega) hn6, nI_clamp (show S.now.n < 2 ^ 31 by omega), tg5 S.now.n hn6, e1, p_let, q1, nI_1, u2_same, nI_pred]
        · intro j hj; rw [q3 _ (by decide) (by omega) (by omega)]; exact hw.sea j hj
        · rw [u2_nei _ _ (Or.inr (by decide)), q1]; exact hw.z
        · rw [u2_nei _ _ (Or.inr (by decide)), q1]; exact hw.m
        · intro j hj; rw [q3 _ (by decide) (by omega) (by omega)]; exact hw.law j hj
        · intro j hj
          show CF _ (5 + 2 * j) (if j = S.now.n then (nI k, 0, r20) else S.now.fl j)
          by_cases e : j = S.now.n
          · rw [if_pos e, e]; exact CF_congr (q2 _ (by omega)) (q2 _ (by omega)) e3
          · have hj : j < S.now.n + 1 := hj
            rw [if_neg e]; exact CF_congr (q3 _ (by omega) (by omega) (by omega)) (q3 _ (by omega) (by omega) (by omega)) (hw.fl j (by omega))
      · have hw := hu.now
        generalize hv1 : am_u2 u 111 (7 + 26 * S.now.n) (nI k) = v1
        generalize hv2 : am_u2 v1 111 (8 + 26 * S.now.n) 0 = v2
        have a2 : ∀ j, j ≠ 7 + 26 * S.now.n → j ≠ 8 + 26 * S.now.n → v2 111 j = u 111 j := fun j h1 h2 => by rw [← hv2, u2_nei _ _ (Or.inr h2), ← hv1, u2_nei _ _ (Or.inr h1)]
        have s2 : same [111] u v2 := by rw [← hv2, ← hv1]; exact same_tr (same_u2 _ _ _ _ (by simp)) (same_u2 _ _ _ _ (by simp))
        obtain ⟨u1, e1, e2, e3, e4, e5⟩ := p_X7_floorL hn6 24 0 1700 v2 rfl (by decide) (fun j hj => by omega)
        have b1 : ∀ j, j ≠ 1 → (j < 7 + 26 * S.now.n ∨ 33 + 26 * S.now.n ≤ j) → u1 111 j = u 111 j := fun j h1 h2 => by rw [e3 j h1 (by omega), a2 j (by omega) (by omega)]
        refine ⟨u1, ?_, same_tr s2 e2, ?_, ?_, ?_, ?_, ?_, ?_, ?_, ?_⟩
        · simp only [f_X7_floor, in_in u 5 (n := 5) rfl (by decide) hk, p_some, one0, ↓reduceIte, hw.n, show ¬ nI S.now.n = 6 from nIne hz (by omega) (by decide), p_let, p_X7_at, p_inT (show 7 + 26 * S.now.n < 2 ^ 31 by omega) (show 7 + 26 * S.now.n < 1535 by omega), nI_clamp (show 7 + 26 * S.now.n < 2 ^ 31 by omega), nI_1, show 7 + 26 * S.now.n + 1 = 8 + 26 * S.now.n by omega, p_inT (show 8 + 26 * S.now.n < 2 ^ 31 by omega) (show 8 + 26 * S.now.n < 1535 by omega), nI_clamp (show 8 + 26 * S.now.n < 2 ^ 31 by omega), hv1, hv2]
          exact e1
        · rw [b1 _ (by decide) (by omega)]; exact hw.z
        · rw [e4, a2 1 (by omega) (by omega), hw.n, nI_1]
        · intro j hj; rw [b1 _ (by omega) (by omega)]; exact hw.sea j hj
        · rw [b1 _ (by decide) (by omega)]; exact hw.m
        · intro j hj
          show MF _ j (if j = S.now.n then (nI k, 0, r20) else S.now.fl j)
          by_cases e : j = S.now.n
          · rw [if_pos e, e]
            refine ⟨?_, ?_, e5⟩
            · rw [e3 _ (by omega) (by omega), ← hv2, u2_nei _ _ (Or.inr (by omega)), ← hv1]; exact u2_same _ _ _ _
            · rw [e3 _ (by omega) (by omega), ← hv2]; exact u2_same _ _ _ _
          · have hj : j < S.now.n + 1 := hj
            rw [if_neg e]; exact MF_congr (fun q h1 h2 => b1 q (by omega) (by omega)) (hw.fl j (by omega))
        · intro t ht; rw [b1 _ (by omega) (by omega)]; exact hw.t1 t ht
        · intro t ht; rw [b1 _ (by omega) (by omega)]; exact hw.t2 t ht
        · intro t ht q hq; rw [b1 _ (by omega) (by omega)]; exact hw.t3 t ht q hq
  · exact Cro hS (-1000000001) (fun u hu => by simp only [f_X6_floor, kC0 u hx, p_some, one0, ↓reduceIte]) (fun u hu => by simp only [f_X7_floor, out_in u 5 (n := 5) rfl (by decide) hx, p_some, one0, ↓reduceIte])
def zN (z : Int32) : Int32 := z * 1103515245 + 12345
def dvU (z : Int32) : Int32 := (z.toUInt32 >>> ((8 : Int32).toUInt32 &&& Int32.toUInt32 31)).toInt32
def dv (z : Int32) : Int32 := dvU z - dvU z / 40 * 40
theorem dv_in (z : Int32) : 0 ≤ (dv z).toInt ∧ (dv z).toInt ≤ 39 := by
  have h1 := pk_ushr z 8 8 (by decide)
  have h2 : (dvU z).toBitVec.toNat < 2 ^ 24 := by
    show (z.toUInt32 >>> ((8 : Int32).toUInt32 &&& Int32.toUInt32 31)).toInt32.toBitVec.toNat < 2 ^ 24
    rw [h1]
    have := z.toBitVec.isLt
    omega
  obtain ⟨n, hn, e⟩ : ∃ n : Nat, n < 2 ^ 24 ∧ dvU z = nI n := by
    refine ⟨(dvU z).toBitVec.toNat, h2, ?_⟩
    apply Int32.toBitVec_inj.mp
    apply BitVec.eq_of_toNat_eq
    rw [pk_tn (by omega)]
  unfold dv
  rw [e, show (40 : Int32) = nI 40 from rfl, pk_rem (by omega) (by decide) (by decide), nI_toInt (by omega)]
  omega
def dlS (z : Int32) (r : Nat → Int32) : Nat → Int32 × (Nat → Int32)
  | 0 => (z, r)
  | c + 1 => (zN (dlS z r c).1, upd (dlS z r c).2 c (dv (zN (dlS z r c).1)))
theorem dlS_OK {z : Int32} {r : Nat → Int32} {B : Nat} (h : rOK r B) : ∀ c, c ≤ 24 → rOK (dlS z r c).2 (B + 39 * c) := by
  intro c
  induction c with
  | zero => intro _; exact h
  | succ c ih =>
    intro hc
    have q := ih (by omega)
    have d := dv_in (zN (dlS z r c).1)
    have := (rOK_le q c).1
    exact rOK_mono (rOK_updD (D := 39) q (by omega) d.1 (by omega)) (by omega)
theorem p_X6_dealL {i : Nat} (hi : i < 6) {z : Int32} {r : Nat → Int32} : ∀ (m c n : Nat) (u : am_MU), c + m = 24 → m < n → u 1 3 = (dlS z r c).1 → rc u (5 + 2 * i) = (dlS z r c).2 → ∃ u', g_X6_deal_23 n u (5 + 2 * i) (nI c) = some (u', sm (dlS z r 24).2 24) ∧ same [1, 5 + 2 * i + 1] u u' ∧ (∀ j, j ≠ 3 → u' 1 j = u 1 j) ∧ u' 1 3 = (dlS z r 24).1 ∧ rc u' (5 + 2 * i) = (dlS z r 24).2 := by
  have ta := tg5 i hi
  intro m
  induction m with
  | zero =>
    intro c n u h1 h2 hz hr
    obtain ⟨n, rfl⟩ : ∃ k, n = k + 1 := ⟨n - 1, by omega⟩
    obtain rfl : c = 24 := by omega
    rw [g_X6_deal_23]
    dsimp only
    rw [if_pos (show (24 : Int32) ≤ nI 24 by decide)]
    rw [if_pos ta, p_X0_total u ta, p_some, hr]
    exact ⟨u, rfl, same_rf, fun _ _ => rfl, hz, hr⟩
  | succ m ih =>
    intro c n u h1 h2 hz hr
    obtain ⟨n, rfl⟩ : ∃ k, n = k + 1 := ⟨n - 1, by omega⟩
    have hc : c < 24 := by omega
    rw [g_X6_deal_23]
    dsimp only
    rw [if_neg (p_ge24 hc)]
    have ed : f_X5_draw u 1 = some (am_u2 u 1 3 (zN (dlS z r c).1), dvU (zN (dlS z r c).1)) := by
      unfold f_X5_draw
      rw [if_pos (by decide), p_let, u2_same, hz]
      rfl
    rw [if_pos ta, ed, p_some]
    dsimp only
    rw [if_pos (p_inT (by omega) hc), nI_clamp (by omega), p_let, p_let, nI_1]
    generalize hv1 : am_u2 u 1 3 (zN (dlS z r c).1) = v1
    have s1 : v1 (5 + 2 * i + 1) = u (5 + 2 * i + 1) := by rw [← hv1]; exact u2_ne _ _ (by omega)
    generalize hv2 : am_u2 v1 (5 + 2 * i + 1) c (dvU (zN (dlS z r c).1) - dvU (zN (dlS z r c).1) / 40 * 40) = v2
    have e1 : v2 1 = v1 1 := by rw [← hv2]; exact u2_ne _ _ (by omega)
    obtain ⟨u', g1, g2, g3, g4, g5⟩ := ih (c + 1) n v2 (by omega) (by omega) (by rw [e1, ← hv1]; exact u2_same _ _ _ _) (by rw [← hv2, rc_u2 v1 hc, rc_congr s1, hr]; rfl)
    refine ⟨u', g1, same_tr ?_ g2, fun j hj => ?_, g4, g5⟩
    · rw [← hv2, ← hv1]; exact same_tr (same_u2 _ _ _ _ (by simp)) (same_u2 _ _ _ _ (by simp))
    · rw [g3 j hj, e1, ← hv1, u2_nei _ _ (Or.inr hj)]
theorem p_X7_dealL {i : Nat} (hi : i < 6) {z : Int32} {r : Nat → Int32} : ∀ (m c n : Nat) (u : am_MU), c + m = 24 → m < n → u 111 0 = (dlS z r c).1 → rmR (u 111) i = (dlS z r c).2 → ∃ u', g_X7_deal_13 n u (nI i) (nI c) = some (u', sm (dlS z r 24).2 24) ∧ same [111] u u' ∧ (∀ j, j ≠ 0 → (j < 9 + 26 * i ∨ 33 + 26 * i ≤ j) → u' 111 j = u 111 j) ∧ u' 111 0 = (dlS z r 24).1 ∧ rmR (u' 111) i = (dlS z r 24).2 := by
  intro m
  induction m with
  | zero =>
    intro c n u h1 h2 hz hr
    obtain ⟨n, rfl⟩ : ∃ k, n = k + 1 := ⟨n - 1, by omega⟩
    obtain rfl : c = 24 := by omega
    rw [g_X7_deal_13]
    dsimp only
    rw [if_pos (show (24 : Int32) ≤ nI 24 by decide)]
    rw [p_X7_sum u hi, p_some, rm_eq, hr]
    exact ⟨u, rfl, same_rf, fun _ _ _ => rfl, hz, hr⟩
  | succ m ih =>
    intro c n u h1 h2 hz hr
    obtain ⟨n, rfl⟩ : ∃ k, n = k + 1 := ⟨n - 1, by omega⟩
    have hc : c < 24 := by omega
    rw [g_X7_deal_13]
    dsimp only
    rw [if_neg (p_ge24 hc)]
    have ed : f_X7_draw u = some (am_u2 u 111 0 (zN (dlS z r c).1), dvU (zN (dlS z r c).1)) := by
      unfold f_X7_draw
      rw [p_let, u2_same, hz]
      rfl
    rw [p_spot0 u hc, p_some]
    dsimp only
    rw [ed, p_some]
    dsimp only
    rw [if_pos (p_inT (by omega) (by omega)), nI_clamp (by omega), p_let, p_let, nI_1]
    generalize hv1 : am_u2 u 111 0 (zN (dlS z r c).1) = v1
    have s1 : rmR (v1 111) i = (dlS z r c).2 := by rw [← hv1, u2_row, rmR_ne _ (by omega)]; exact hr
    generalize hv2 : am_u2 v1 111 (9 + 26 * i + c) (dvU (zN (dlS z r c).1) - dvU (zN (dlS z r c).1) / 40 * 40) = v2
    obtain ⟨u', g1, g2, g3, g4, g5⟩ := ih (c + 1) n v2 (by omega) (by omega) (by rw [← hv2, u2_nei _ _ (Or.inr (by omega)), ← hv1]; exact u2_same _ _ _ _) (by rw [← hv2, u2_row, rmR_upd _ hc, s1]; rfl)
    refine ⟨u', g1, same_tr ?_ g2, fun j hj hj2 => ?_, g4, g5⟩
    · rw [← hv2, ← hv1]; exact same_tr (same_u2 _ _ _ _ (by simp)) (same_u2 _ _ _ _ (by simp))
    · rw [g3 j hj hj2, ← hv2, u2_nei _ _ (Or.inr (by omega)), ← hv1, u2_nei _ _ (Or.inr hj)]
theorem k_deal (x : Int32) : Call (fun u => f_X6_deal u x) (fun u => f_X7_deal u x) := by
  intro S B hS hB
  have hn := hS.now.n
  rcases rng x (show S.now.n < 2 ^ 31 by omega) with ⟨i, hi, rfl⟩ | hx
  · skip
    have hi6 : i < 6 := by omega
    have hW := WOK_mono hS.now (show B ≤ B + 2400 by omega)
    have hr := hS.now.r i hi
    obtain ⟨D, hD⟩ : ∃ D, D = dlS S.now.z (S.now.fl i).r 24 := ⟨_, rfl⟩
    have hDO : rOK D.2 (B + 2400) := by rw [hD]; exact rOK_mono (dlS_OK (z := S.now.z) hr 24 (Nat.le_refl _)) (by omega)
    refine Cwo hS (S.now.n, S.now.sea, D.1, S.now.m, fun j => if j = i then ((S.now.fl i).k, (S.now.fl i).t, D.2) else S.now.fl j) (sm D.2 24) ⟨hW.n, hW.m, hW.s0, hW.s2, fun j hj => ?_, fun j hj => ?_, hW.t⟩ rfl (fun u hu => ?_) (fun u hu => ?_)
    · show ∃ q, q < 6 ∧ FS.k (if j = i then _ else S.now.fl j) = nI q
      by_cases e : j = i
      · rw [if_pos e]; exact hW.k i hi
      · rw [if_neg e]; exact hW.k j hj
    · show rOK (FS.r (if j = i then _ else S.now.fl j)) (B + 2400)
      by_cases e : j = i
      · rw [if_pos e]; exact hDO
      · rw [if_neg e]; exact hW.r j hj
    · have hw := hu.now
      have hF := fl1 hu hi
      obtain ⟨u1, e1, e2, e3, e4, e5⟩ := p_X6_dealL (z := S.now.z) (r := (S.now.fl i).r) hi6 24 0 1700 u rfl (by decide) hw.z hF.2.2
      rw [← hD] at e1 e4 e5
      rw [nI_0] at e1
      have q : ∀ a, a ≠ 1 → a ≠ 5 + 2 * i + 1 → u1 a = u a := fun a h1 h2 => e2 a (by simp; omega)
      refine ⟨u1, ?_, fun a h1 _ => q a (by omega) (by omega), ?_, ?_, e4, ?_, ?_, ?_⟩
      · simp only [f_X6_deal, fC1 hu.now.n hn hi, p_some, one0, ↓reduceIte, p_inT (show i < 2 ^ 31 by omega) hi6, nI_clamp (show i < 2 ^ 31 by omega), tg5 i hi6]
        exact e1
      · rw [e3 _ (by decide)]; exact hw.n
      · intro j hj; rw [q _ (by decide) (by omega)]; exact hw.sea j hj
      · rw [e3 _ (by decide)]; exact hw.m
      · intro j hj; rw [q _ (by decide) (by omega)]; exact hw.law j hj
      · intro j hj
        show CF _ (5 + 2 * j) (if j = i then _ else S.now.fl j)
        by_cases e : j = i
        · rw [if_pos e, e]; exact ⟨by rw [q _ (by omega) (by omega)]; exact hF.1, by rw [q _ (by omega) (by omega)]; exact hF.2.1, e5⟩
        · rw [if_neg e]; exact CF_congr (q _ (by omega) (by omega)) (q _ (by omega) (by omega)) (hw.fl j hj)
    · have hw := hu.now
      have hF := hu.now.fl i hi
      obtain ⟨u1, e1, e2, e3, e4, e5⟩ := p_X7_dealL (z := S.now.z) (r := (S.now.fl i).r) hi6 24 0 1700 u rfl (by decide) hw.z hF.2.2
      rw [← hD] at e1 e4 e5
      rw [nI_0] at e1
      refine ⟨u1, ?_, e2, e4, ?_, ?_, ?_, ?_, ?_, ?_, ?_⟩
      · show f_X7_deal u (nI i) = _
        unfold f_X7_deal
        rw [fM1 hu.now.n hn hi, p_some, if_neg (show ¬ (1 : Int32) = 0 by decide)]
        exact e1
      · rw [e3 _ (by decide) (by omega)]; exact hw.n
      · intro j hj; rw [e3 _ (by omega) (by omega)]; exact hw.sea j hj
      · rw [e3 _ (by decide) (by omega)]; exact hw.m
      · intro j hj
        have hj6 : j < 6 := Nat.lt_of_lt_of_le hj hn
        show MF _ j (if j = i then _ else S.now.fl j)
        by_cases e : j = i
        · rw [if_pos e, e]; exact ⟨by rw [e3 _ (by omega) (by omega)]; exact hF.1, by rw [e3 _ (by omega) (by omega)]; exact hF.2.1, e5⟩
        · rw [if_neg e]; exact MF_congr (fun q h1 h2 => e3 q (by omega) (by omega)) (hw.fl j hj)
      · intro t ht; rw [e3 _ (by omega) (by omega)]; exact hw.t1 t ht
      · intro t ht; rw [e3 _ (by omega) (by omega)]; exact hw.t2 t ht
      · intro t ht q hq; rw [e3 _ (by omega) (by omega)]; exact hw.t3 t ht q hq
  · exact Cro hS (-1000000001) (fun u hu => by simp only [f_X6_deal, fC0 hu.now.n hx, p_some, one0, ↓reduceIte]) (fun u hu => by simp only [f_X7_deal, fM0 hu.now.n hn hx, p_some, one0, ↓reduceIte])
/-- so many ticks: the floor, how many moved -/
def runF (e : SE) : Nat → FS → FS × Int32
  | 0, s => (s, 0)
  | m + 1, s => ((runF e m (tkS e s)).1, tkM e s + (runF e m (tkS e s)).2)
theorem runF_k (e : SE) : ∀ (m : Nat) (s : FS), (runF e m s).1.k = s.k := by
  intro m
  induction m with
  | zero => intro s; rfl
  | succ m ih => intro s; exact (ih (tkS e s)).trans rfl
theorem runF_OK {e : SE} {B : Nat} (hB : B < 1000000) : ∀ (m : Nat) (s : FS), rOK s.r B → rOK (runF e m s).1.r B := by
  intro m
  induction m with
  | zero => intro s h; exact h
  | succ m ih => intro s h; exact ih (tkS e s) (tkS_OK h hB)
theorem p_X6_runL {i B N : Nat} {e : SE} (hi : i < 6) (he : eOK e) (hB : B < 1000000) (hN : N ≤ 1000) : ∀ (m k n : Nat) (u : am_MU) (s : FS) (mv : Int32), k + m = N → m < n → rOK s.r B → CE u 1 e → CF u (5 + 2 * i) s → ∃ u', g_X6_run_27 n u (nI i) (nI N) mv (nI k) = some (u', mv + (runF e m s).2) ∧ same [39, 44, 5 + 2 * i, 5 + 2 * i + 1] u u' ∧ CF u' (5 + 2 * i) (runF e m s).1 := by
  intro m
  induction m with
  | zero =>
    intro k n u s mv h1 h2 hr hE hF
    obtain ⟨n, rfl⟩ : ∃ k, n = k + 1 := ⟨n - 1, by omega⟩
    obtain rfl : k = N := by omega
    rw [g_X6_run_27]
    dsimp only
    rw [if_pos (nI_le (Nat.le_refl _) (by omega))]
    exact ⟨u, by show _ = some (u, mv + 0); rw [Int32.add_zero], same_rf, hF⟩
  | succ m ih =>
    intro k n u s mv h1 h2 hr hE hF
    obtain ⟨n, rfl⟩ : ∃ k, n = k + 1 := ⟨n - 1, by omega⟩
    rw [g_X6_run_27]
    dsimp only
    obtain ⟨v, g1, g2, g3, g4⟩ := p_X6_oneTick (w := 1) (Or.inl rfl) (FA5 hi) he hB hr hE hF
    rw [if_neg (nI_ge (show k < N by omega) (by omega)), if_pos (p_inT (by omega) hi), nI_clamp (by omega), g1, p_some, p_let, p_let]
    dsimp only
    rw [nI_1]
    obtain ⟨u', k1, k2, k3⟩ := ih (k + 1) n v (tkS e s) (mv + tkM e s) (by omega) (by omega) (tkS_OK hr hB) g3 g4
    exact ⟨u', by rw [k1, Int32.add_assoc]; rfl, same_tr g2 k2, k3⟩
theorem p_X7_ticksL {f B N : Nat} {e : SE} (hf : f < 6) (he : eOK e) (hB : B < 1000000) (hN : N ≤ 1000) : ∀ (m k n : Nat) (u : am_MU) (s : FS) (mv : Int32), k + m = N → m < n → rOK s.r B → ME (u 111) e → MF (u 111) f s → ∃ u', g_X7_ticks_5 n u (nI f) (nI N) mv (nI k) = some (u', mv + (runF e m s).2) ∧ same [111, 114, 122, 123] u u' ∧ sameR f (u 111) (u' 111) ∧ MF (u' 111) f (runF e m s).1 := by
  intro m
  induction m with
  | zero =>
    intro k n u s mv h1 h2 hr hE hF
    obtain ⟨n, rfl⟩ : ∃ k, n = k + 1 := ⟨n - 1, by omega⟩
    obtain rfl : k = N := by omega
    rw [g_X7_ticks_5]
    dsimp only
    rw [if_pos (nI_le (Nat.le_refl _) (by omega))]
    exact ⟨u, by show _ = some (u, mv + 0); rw [Int32.add_zero], same_rf, sameR_rf, hF⟩
  | succ m ih =>
    intro k n u s mv h1 h2 hr hE hF
    obtain ⟨n, rfl⟩ : ∃ k, n = k + 1 := ⟨n - 1, by omega⟩
    rw [g_X7_ticks_5]
    dsimp only
    obtain ⟨v, g1, g2, g3, g4⟩ := p_X7_tick hf he hB hr hE hF
    rw [if_neg (nI_ge (show k < N by omega) (by omega)), g1, p_some, p_let, p_let]
    dsimp only
    rw [nI_1]
    obtain ⟨u', k1, k2, k3, k4⟩ := ih (k + 1) n v (tkS e s) (mv + tkM e s) (by omega) (by omega) (tkS_OK hr hB) (ME_sameR hf g3 hE) g4
    exact ⟨u', by rw [k1, Int32.add_assoc]; rfl, same_tr g2 k2, sameR_tr g3 k3, k4⟩
theorem p_X7_ticks {f B N : Nat} {e : SE} {s : FS} {u : am_MU} (hf : f < 6) (he : eOK e) (hB : B < 1000000) (hN : N ≤ 1000) (hr : rOK s.r B) (hE : ME (u 111) e) (hF : MF (u 111) f s) : ∃ u', f_X7_ticks u (nI f) (nI N) = some (u', (runF e N s).2) ∧ same [111, 114, 122, 123] u u' ∧ sameR f (u 111) (u' 111) ∧ MF (u' 111) f (runF e N s).1 := by
  obtain ⟨u', h1, h2⟩ := p_X7_ticksL hf he hB hN N 0 1700 u s 0 (by omega) (by omega) hr hE hF
  rw [Int32.zero_add] at h1
  exact ⟨u', h1, h2⟩
theorem k_run (x y : Int32) : Call (fun u => f_X6_run u x y) (fun u => f_X7_run u x y) := by
  intro S B hS hB
  have hn := hS.now.n
  rcases rng x (show S.now.n < 2 ^ 31 by omega) with ⟨i, hi, rfl⟩ | hx
  · have hi6 : i < 6 := by omega
    by_cases hy : y < 1 ∨ 60 < y
    · refine Cro hS (-1000000001) (fun u hu => ?_) (fun u hu => ?_)
      · simp only [f_X6_run, fC1 hu.now.n hn hi, p_some, one0, ↓reduceIte]
        rcases hy with h | h
        · rw [if_pos h]
        · rw [if_neg (fun q => absurd (Int32.lt_trans h q) (by decide)), if_neg (Int32.not_le.mpr h)]
      · simp only [f_X7_run, fM1 hu.now.n hn hi, p_X7_in, if_pos hy, p_some, one0, ↓reduceIte]
    · have y1 : ¬ y < 1 := fun q => hy (Or.inl q)
      have y2 : y ≤ 60 := Int32.not_lt.mp (fun q => hy (Or.inr q))
      obtain ⟨N, hN, rfl⟩ := nI_of2 (M := 60) (n := 60) (by decide) (fun q => y1 (Int32.lt_trans q (by decide))) y2
      have hr := hS.now.r i hi
      have heo := eOK_of hS.now
      refine Cfl (L := [39, 44, 5 + 2 * i, 5 + 2 * i + 1]) (M := [111, 114, 122, 123]) hS hi (runF (S.now.env S.T) N (S.now.fl i)).1 (runF (S.now.env S.T) N (S.now.fl i)).2 (by rw [runF_k]; exact hS.now.k i hi) (rOK_mono (runF_OK (by omega) N _ hr) (by omega)) (by simp; omega) (by simp [scm]) (fun u hu => ?_) (fun u hu => ?_)
      · obtain ⟨u1, e1, e2, e3⟩ := p_X6_runL hi6 heo (by omega) (show N ≤ 1000 by omega) N 0 1700 u (S.now.fl i) 0 (by omega) (by omega) hr (CE_of hS.now hu.tx hu.now) (fl1 hu hi)
        rw [Int32.zero_add] at e1
        refine ⟨u1, ?_, e2, e3⟩
        simp only [f_X6_run, fC1 hu.now.n hn hi, p_some, one0, ↓reduceIte, y1, y2]
        exact e1
      · obtain ⟨u1, e1, e2, e3, e4⟩ := p_X7_ticks hi6 heo (B := B) (by omega) (show N ≤ 1000 by omega) hr (ME_of hS.now hu.now) (hu.now.fl i hi)
        refine ⟨u1, ?_, e2, fun j hj => e3 j (by omega), e4⟩
        simp only [f_X7_run, fM1 hu.now.n hn hi, p_X7_in, if_neg hy, e1, p_some, one0, ↓reduceIte]
  · exact Cro hS (-1000000001) (fun u hu => by simp only [f_X6_run, fC0 hu.now.n hx, p_some, ↓reduceIte]) (fun u hu => by simp only [f_X7_run, fM0 hu.now.n hn hx, p_some, ↓reduceIte])
