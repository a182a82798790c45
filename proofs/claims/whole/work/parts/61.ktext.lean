/-! text(): the state behind it -/
def setT (T : Nat → TX) (m : Nat) (x : TX) : Nat → TX := fun t => if t = m then x else T t
theorem setT_at {T : Nat → TX} {m : Nat} {x : TX} : setT T m x m = x := if_pos rfl
theorem setT_ne {T : Nat → TX} {m t : Nat} {x : TX} (h : t ≠ m) : setT T m x t = T t := if_neg h
theorem MW_T {R : Nat → Int32} {T T' : Nat → TX} {W : WS} (h : ∀ t, t < W.m → T' t = T t) (q : MW R T W) : MW R T' W := ⟨q.z, q.n, q.sea, q.m, q.fl, fun t ht => by rw [h t ht]; exact q.t1 t ht, fun t ht => by rw [h t ht]; exact q.t2 t ht, fun t ht k hk => by rw [h t ht] at hk ⊢; exact q.t3 t ht k hk⟩
theorem CW_T {u : am_MU} {w : Nat} {T T' : Nat → TX} {W : WS} (h : ∀ t, t < W.m → T' t = T t) (q : CW u w T W) : CW u w T' W := ⟨q.n, q.sea, q.z, q.m, fun k hk => by rw [lawT_congr h]; exact q.law k hk, q.fl⟩
theorem WOK_T {T T' : Nat → TX} {W : WS} {B : Nat} (h : ∀ t, t < W.m → T' t = T t) (q : WOK T W B) : WOK T' W B := ⟨q.n, q.m, q.s0, q.s2, q.k, q.r, fun t ht => by rw [h t ht]; exact q.t t ht⟩
theorem M_copyT {m n0 : Nat} (hm : m < 14) (hn0 : n0 ≤ 96) {c : Nat → Int32} : ∀ (k j fu : Nat) (u : am_MU), j + k = n0 → k < fu → u 110 17 = nI n0 → u 111 6 = nI m → (∀ i, i < n0 → u 119 i = c i) → (∀ i, i < j → u 111 (191 + 96 * m + i) = c i) → ∃ u', g_X7_text_119 fu u (nI m) (nI j) = some (u', nI m) ∧ same [111] u u' ∧ (∀ i, i ≠ 6 → (i < 191 + 96 * m ∨ 191 + 96 * m + n0 ≤ i) → u' 111 i = u 111 i) ∧ u' 111 6 = nI (m + 1) ∧ ∀ i, i < n0 → u' 111 (191 + 96 * m + i) = c i := by
  have e1 : ∀ j, (191 : Int32) + 96 * nI m + nI j = nI (191 + 96 * m + j) := fun j => by rw [show (191 : Int32) = nI 191 from rfl, show (96 : Int32) = nI 96 from rfl, pk_mul, nI_add, nI_add]
  intro k
  induction k with
  | zero =>
    intro j fu u h1 h2 h17 h6 hc hL
    obtain ⟨fu, rfl⟩ : ∃ k, fu = k + 1 := ⟨fu - 1, by omega⟩
    rw [g_X7_text_119]
    dsimp only
    rw [if_pos (show u 110 17 ≤ nI j by rw [h17]; exact nI_le (by omega) (by omega)), p_let, h6, nI_1]
    refine ⟨_, rfl, same_u2 _ _ _ _ (by simp), fun i hi _ => u2_nei _ _ (Or.inr hi), u2_same _ _ _ _, fun i hi => ?_⟩
    rw [u2_nei _ _ (Or.inr (by omega))]
    exact hL i (by omega)
  | succ k ih =>
    intro j fu u h1 h2 h17 h6 hc hL
    obtain ⟨fu, rfl⟩ : ∃ k, fu = k + 1 := ⟨fu - 1, by omega⟩
    rw [g_X7_text_119]
    dsimp only
    rw [if_neg (show ¬ u 110 17 ≤ nI j by rw [h17]; exact nI_ge (by omega) (by omega)), if_pos (p_inT (by omega) (by omega)), e1, if_pos (p_inT (by omega) (by omega)), nI_clamp (by omega), nI_clamp (by omega), hc j (by omega), p_let, p_let, nI_1]
    obtain ⟨u', a1, a2, a3, a4, a5⟩ := ih (j + 1) fu (am_u2 u 111 (191 + 96 * m + j) (c j)) (by omega) (by omega) (by rw [u2_ne _ _ (by decide)]; exact h17) (by rw [u2_nei _ _ (Or.inr (by omega))]; exact h6) (fun i hi => by rw [u2_ne _ _ (by decide)]; exact hc i hi) (fun i hi => by
      by_cases e : i = j
      · subst e; exact u2_same _ _ _ _
      · rw [u2_nei _ _ (Or.inr (by omega))]; exact hL i (by omega))
    exact ⟨u', a1, same_tr (same_u2 _ _ _ _ (by simp)) a2, fun i h1 h2 => by rw [a3 i h1 h2, u2_nei _ _ (Or.inr (by omega))], a4, a5⟩
theorem il42 : il 42 = 96 ∧ ∀ t, t < 14 → il (49 + 2 * t + 1) = 96 := by decide +kernel
theorem C_take {u : am_MU} {m : Nat} (hm : m < 14) : ∃ u', f_X4_take u (49 + 2 * m) 41 = some u' ∧ same [49 + 2 * m, 49 + 2 * m + 1] u u' ∧ u' (49 + 2 * m) 0 = u 41 0 ∧ u' (49 + 2 * m) 1 = u 41 1 ∧ u' (49 + 2 * m) 2 = u 41 2 ∧ ∀ k, k < 96 → u' (49 + 2 * m + 1) k = u 42 k := by
  have hcp : am_cpok (41 + 1) (49 + 2 * m + 1) 0 0 96 = true := by
    unfold am_cpok
    rw [il42.1, il42.2 m hm]
    decide
  obtain ⟨v1, h1⟩ : ∃ v, v = am_u2 u (49 + 2 * m) 0 (u 41 0) := ⟨_, rfl⟩
  obtain ⟨v2, h2⟩ : ∃ v, v = am_u2 v1 (49 + 2 * m) 1 (v1 41 1) := ⟨_, rfl⟩
  obtain ⟨v3, h3⟩ : ∃ v, v = am_u2 v2 (49 + 2 * m) 2 (v2 41 2) := ⟨_, rfl⟩
  have r3 : ∀ a, a ≠ 49 + 2 * m → v3 a = u a := fun a ha => by rw [h3, u2_ne _ _ ha, h2, u2_ne _ _ ha, h1, u2_ne _ _ ha]
  have e1 : v1 41 = u 41 := by rw [h1]; exact u2_ne _ _ (by omega)
  have e2 : v2 41 = u 41 := by rw [h2, u2_ne _ _ (by omega), e1]
  refine ⟨am_ur v3 (49 + 2 * m + 1) (va_cpy (v3 (41 + 1)) (v3 (49 + 2 * m + 1)) 0 0 96), ?_, ?_, ?_, ?_, ?_, ?_⟩
  · unfold f_X4_take
    rw [if_pos (by decide), if_pos (tg49 m hm), p_let, p_let, p_let, if_pos hcp, p_let, h3, h2, h1]
    rfl
  · intro a ha
    simp at ha
    rw [ur_ne _ _ ha.2, r3 a ha.1]
  · rw [ur_ne _ _ (by omega), h3, u2_nei _ _ (Or.inr (by decide)), h2, u2_nei _ _ (Or.inr (by decide)), h1, u2_same]
  · rw [ur_ne _ _ (by omega), h3, u2_nei _ _ (Or.inr (by decide)), h2, u2_same, e1]
  · rw [ur_ne _ _ (by omega), h3, u2_same, e2]
  · intro k hk
    rw [ur_row, pk_cpy_in (by omega) (by omega), r3 _ (by omega)]
    congr 1
    omega
theorem k_text : Call (fun u => f_X6_text u) (fun u => f_X7_text u) := by
  intro S B hS hB
  have htl := hS.tl
  have hmm := hS.now.m
  have hnn := hS.now.n
  obtain ⟨S0, hS0⟩ : ∃ S0 : AS, S0 = (S.T, S.now, S.img, 0, S.tp, S.sh, S.sl, S.wc, S.wt) := ⟨_, rfl⟩
  have oS0 : OK S0 (B + 2400) := by rw [hS0]; exact OK_tail hS (by decide) hS.wc
  obtain ⟨R, hR⟩ : ∃ R, R = readP S.tp S.tl := ⟨_, rfl⟩
  -- the class reads
  have cR : ∀ u, CI u S → ∃ v, f_X1_faultOf (am_u2 u 0 9 0) 45 (nI S.tl) = some (v, rdI R) ∧ same [41, 42, 43] (am_u2 u 0 9 0) v ∧ (∀ k s, R.2 = some (k, s) → CP v k s) ∧ CI v S0 := fun u hu => by
    obtain ⟨v, a1, a2, a3⟩ := C_fault (t := S.tp) htl (am_u2 u 0 9 0) (fun k hk => by rw [u2_ne _ _ (by decide)]; exact hu.tp k hk)
    have h0 : CI (am_u2 u 0 9 0) S0 := by
      rw [hS0]
      exact CI_tail hS (fun a h _ _ _ _ => u2_ne _ _ h) (u2_nei _ _ (Or.inr (by decide))) (u2_same _ _ _ _) (fun k hk => absurd hk (Nat.not_lt_zero _)) (by rw [u2_nei _ _ (Or.inr (by decide))]; exact hu.wc) (fun k hk => by rw [u2_ne _ _ (by decide)]; exact hu.wt k hk) hu
    rw [← hR] at a1 a3
    exact ⟨v, a1, a2, a3, CI_same oS0 a2 (by simp [scr]) h0⟩
  have cT : ∀ u, CI u S → f_X6_text u = (f_X1_faultOf (am_u2 u 0 9 0) 45 (nI S.tl)).bind fun q3 => if q3.2 < 0 then (if (q3.1 1 4) < (14 : Int32) then (am_let (q3.1 1 4) fun x6 => if am_in x6 14 then (if tg (49 + 2 * x6.toNatClampNeg) = 4 then ((f_X4_take q3.1 (49 + 2 * x6.toNatClampNeg) 41).bind fun q8 => if am_in (q8 (49 + 2 * x6.toNatClampNeg) 0) 3 then (am_let (am_u2 q8 3 ((q8 (49 + 2 * x6.toNatClampNeg) 0).toNatClampNeg) x6) fun u11 => am_let (am_u2 u11 1 4 ((u11 1 4) + (1 : Int32))) fun u12 => some (u12, x6)) else none) else none) else none) else (some (q3.1, ((-1000000003) : Int32)))) else (some (q3.1, ((-100) : Int32) - q3.2)) := fun u hu => by
    unfold f_X6_text
    rw [p_let, p_let, hu.tl]
  -- the reference reads
  have mR : ∀ u, MI u S → ∃ v, (∀ a, a ≠ 110 → a ≠ 119 → a ≠ 120 → a ≠ 121 → v a = u a) ∧ (∀ j, j ∉ [8, 9, 10, 11, 12, 13, 17, 18, 20] → v 110 j = u 110 j) ∧ ((R.2 = none ∧ v 110 9 = nI R.1 ∧ f_X7_text u = g_X7_text_33 v 0) ∨ ∃ k s, R.2 = some (k, s) ∧ v 110 13 = nI k ∧ MA v s.c s.n s.l s.w ∧ f_X7_text u = g_X7_text_33 v 1) := fun u hu => by
    rw [hR]
    exact M_read htl ⟨hu.tl, hu.tp⟩ hu.ky hu.ka
  have m0 : ∀ u v, MI u S → (∀ a, a ≠ 110 → a ≠ 119 → a ≠ 120 → a ≠ 121 → v a = u a) → (∀ j, j ∉ [8, 9, 10, 11, 12, 13, 17, 18, 20] → v 110 j = u 110 j) → MI (am_u2 v 110 7 0) S0 := fun u v hu h1 h2 => by
    rw [hS0]
    have q : ∀ a, a = 111 ∨ a = 112 ∨ a = 117 ∨ a = 118 ∨ (124 ≤ a ∧ a ≤ 130) ∨ a = 132 ∨ a = 116 → am_u2 v 110 7 0 a = u a := fun a ha => by rw [u2_ne _ _ (by omega), h1 a (by omega) (by omega) (by omega) (by omega)]
    have q0 : ∀ j, j = 3 ∨ j = 33 → am_u2 v 110 7 0 110 j = u 110 j := fun j hj => by rw [f10 _ _ (by omega), h2 j (by simp; omega)]
    exact MI_tail (fun a ha => q a (by omega)) (q0 3 (Or.inl rfl)) (u2_same _ _ _ _) (fun k hk => absurd hk (Nat.not_lt_zero _)) (by rw [q0 33 (Or.inr rfl)]; exact hu.wc) (fun k hk => by rw [q 132 (by omega)]; exact hu.wt k hk) hu
  have hi0 : ∀ u v : am_MU, (∀ a, a ≠ 110 → a ≠ 119 → a ≠ 120 → a ≠ 121 → v a = u a) → hi u v := fun u v h a ha => h a (by omega) (by omega) (by omega) (by omega)
  cases hr : R.2 with
  | none =>
    -- a fault
    have hrd : rdI R = nI R.1 := by unfold rdI; rw [hr]
    have hb : R.1 < 2 ^ 31 := by
      rw [hR]
      unfold readP
      have g := sk_le (t := S.tp) (n := S.tl) S.tl 0 (Nat.zero_le _)
      have rb : ∀ (k m to : Nat) (s : PS), to ≤ S.tl → (runP S.tp S.tl k m to s).1 ≤ S.tl := by
        intro k m
        induction m with
        | zero => intro to s _; exact Nat.le_refl _
        | succ m ih =>
          intro to s hto
          rw [runP]
          have g := sk_le (t := S.tp) (n := S.tl) S.tl to hto
          by_cases z : S.tl ≤ sk S.tp S.tl S.tl to
          · rw [if_pos z]; exact Nat.le_refl _
          · rw [if_neg z]
            cases stepS S.tp k to (sk S.tp S.tl S.tl to) (wend S.tp S.tl (sk S.tp S.tl S.tl to)) s with
            | none => exact g
            | some s2 => exact ih _ s2 (wend_le (by omega))
      by_cases z : sk S.tp S.tl S.tl 0 < S.tl
      · rw [if_pos z]
        cases kyN S.tp (sk S.tp S.tl S.tl 0) (wend S.tp S.tl (sk S.tp S.tl S.tl 0)) 3 0 with
        | none => show sk S.tp S.tl S.tl 0 < 2 ^ 31; omega
        | some k =>
          have := rb k 97 (wend S.tp S.tl (sk S.tp S.tl S.tl 0)) s00 (wend_le z)
          show (runP S.tp S.tl k 97 (wend S.tp S.tl (sk S.tp S.tl S.tl 0)) s00).1 < 2 ^ 31
          omega
      · rw [if_neg z]
        show S.tl < 2 ^ 31
        omega
    refine ⟨S0, -100 - nI R.1, oS0, fun u hu => ?_, fun u hu => ?_⟩
    · obtain ⟨v, a1, a2, a3, a4⟩ := cR u hu
      refine ⟨v, ?_, a4, lo_tr (fun a ha => u2_ne _ _ (by omega)) (lo_same a2 (by simp))⟩
      show f_X6_text u = _
      rw [cT u hu, a1, p_some, hrd]
      exact if_neg (nI_pos hb)
    · obtain ⟨v, a1, a2, a3⟩ := mR u hu
      rcases a3 with ⟨_, b2, b3⟩ | ⟨k, s, b1, _⟩
      · refine ⟨am_u2 v 110 7 0, ?_, m0 u v hu a1 a2, hi_tr (hi0 u v a1) (fun a ha => u2_ne _ _ (by omega))⟩
        show f_X7_text u = _
        rw [b3]
        unfold g_X7_text_33
        rw [p_let, if_pos rfl, f10 _ _ (by decide), b2]
      · rw [hr] at b1; exact absurd b1 (by simp)
  | some ks =>
    obtain ⟨key, s⟩ := ks
    have hrd : rdI R = -1 := by unfold rdI; rw [hr]
    obtain ⟨hk3, hV, hNm, h96⟩ := readP_ok (n := S.tl) htl (by rw [← hR]; exact hr)
    obtain ⟨hg, v1, v2, v3⟩ := hV
    by_cases hz : S.now.m = 14
    · -- full
      refine ⟨S0, -1000000003, oS0, fun u hu => ?_, fun u hu => ?_⟩
      · obtain ⟨v, a1, a2, a3, a4⟩ := cR u hu
        refine ⟨v, ?_, a4, lo_tr (fun a ha => u2_ne _ _ (by omega)) (lo_same a2 (by simp))⟩
        show f_X6_text u = _
        have e14 : v 1 4 = 14 := by rw [a2 1 (by decide), u2_ne _ _ (by decide)]; exact hu.now.m.trans (by rw [hz]; rfl)
        rw [cT u hu, a1, p_some, hrd]
        dsimp only
        rw [if_pos (by decide), if_neg (show ¬ v 1 4 < 14 by rw [e14]; decide)]
      · obtain ⟨v, a1, a2, a3⟩ := mR u hu
        rcases a3 with ⟨b1, _⟩ | ⟨k, s', b1, b2, b3, b4⟩
        · rw [hr] at b1; exact absurd b1 (by simp)
        · refine ⟨am_u2 v 110 7 0, ?_, m0 u v hu a1 a2, hi_tr (hi0 u v a1) (fun a ha => u2_ne _ _ (by omega))⟩
          show f_X7_text u = _
          have e14 : am_u2 v 110 7 0 111 6 = 14 := by rw [u2_ne _ _ (by decide), a1 111 (by decide) (by decide) (by decide) (by decide)]; exact hu.now.m.trans (by rw [hz]; rfl)
          rw [b4]
          unfold g_X7_text_33
          rw [p_let, if_neg (show ¬ (1 : Int32) = 0 by decide), if_pos e14]
    · -- it counts
      have hm14 : S.now.m < 14 := by omega
      obtain ⟨x, hx⟩ : ∃ x : TX, x = (key, nI s.l, s.n, s.c, hg) := ⟨_, rfl⟩
      have xOK : TXOK x := by rw [hx]; exact ⟨hk3, ⟨h96, v1, v2, v3⟩, hNm⟩
      have xk : x.key = key := by rw [hx]
      have hT : ∀ t, t < S.now.m → setT S.T S.now.m x t = S.T t := fun t ht => setT_ne (by omega)
      have h := OK_mono hS (show B ≤ B + 2400 by omega)
      refine ⟨(setT S.T S.now.m x, (S.now.n, S.now.sea, S.now.z, S.now.m + 1, S.now.fl), S.img, 0, S.tp, S.sh, S.sl, S.wc, S.wt), nI S.now.m, ⟨⟨h.now.n, hm14, h.now.s0, h.now.s2, h.now.k, h.now.r, fun t ht => ?_⟩, fun W hW => ⟨WOK_T (fun t ht => hT t (by have := (h.img W hW).2; omega)) (h.img W hW).1, by have := (h.img W hW).2; exact Nat.le_succ_of_le this⟩, Nat.zero_le _, h.sh, h.sl, h.wc⟩, fun u hu => ?_, fun u hu => ?_⟩
      · have ht : t < S.now.m + 1 := ht
        show TXOK (setT S.T S.now.m x t)
        by_cases e : t = S.now.m
        · rw [e, setT_at]; exact xOK
        · rw [setT_ne e]; exact h.now.t t (by omega)
      · obtain ⟨v, a1, a2, a3, a4⟩ := cR u hu
        have hCP := a3 key s hr
        obtain ⟨c0, c1, c2, c3, _⟩ := hCP
        have e4 : v 1 4 = nI S.now.m := by rw [a2 1 (by decide), u2_ne _ _ (by decide)]; exact hu.now.m
        obtain ⟨q, d1, d2, d3, d4, d5, d6⟩ := C_take (u := v) hm14
        have q3 : q 3 = v 3 := d2 3 (by simp; omega)
        obtain ⟨y, hy⟩ : ∃ y, y = am_u2 (am_u2 q 3 key (nI S.now.m)) 1 4 (nI (S.now.m + 1)) := ⟨_, rfl⟩
        have yo : ∀ a, a ≠ 1 → a ≠ 3 → a ≠ 49 + 2 * S.now.m → a ≠ 49 + 2 * S.now.m + 1 → y a = v a := fun a h1 h2 h3 h4 => by rw [hy, u2_ne _ _ h1, u2_ne _ _ h2, d2 a (by simp; omega)]
        have y1 : ∀ j, j ≠ 4 → y 1 j = v 1 j := fun j hj => by rw [hy, u2_nei _ _ (Or.inr hj), u2_ne _ _ (by decide), d2 1 (by simp; omega)]
        have yT : ∀ a, a = 49 + 2 * S.now.m ∨ a = 49 + 2 * S.now.m + 1 → y a = q a := fun a ha => by rw [hy, u2_ne _ _ (by omega), u2_ne _ _ (by omega)]
        have n0 := a4.now
        rw [hS0] at n0 a4
        refine ⟨y, ?_, ⟨⟨?_, ?_, ?_, ?_, ?_, ?_⟩, ?_, ?_, ?_, ?_, ?_, ?_, ?_, ?_, ?_, ?_, ?_⟩, ?_⟩
        · show f_X6_text u = _
          rw [cT u hu, a1, p_some, hrd]
          dsimp only
          rw [if_pos (by decide), if_pos (show v 1 4 < 14 by rw [e4]; exact nI_lt hm14 (by decide)), e4, p_let, if_pos (p_inT (by omega) hm14), nI_clamp (by omega), if_pos (tg49 _ hm14), d1, p_some, d3, c0, if_pos (p_inT (by omega) hk3), nI_clamp (by omega), p_let, p_let, u2_ne _ _ (show 1 ≠ 3 by decide), d2 1 (by simp; omega), e4, nI_1, ← hy]
        · rw [y1 1 (by decide)]; exact n0.n
        · intro j hj; rw [yo 2 (by omega) (by omega) (by omega) (by omega)]; exact n0.sea j hj
        · rw [y1 3 (by decide)]; exact n0.z
        · rw [hy]; exact u2_same _ _ _ _
        · intro j hj
          show y 3 j = lawI (lawT (setT S.T S.now.m x) (S.now.m + 1) j)
          rw [lawT, setT_at, lawT_congr hT, xk, hy, u2_ne _ _ (by decide), u2_row]
          by_cases e : key = j
          · rw [if_pos e, e, upd_sm]; rfl
          · rw [if_neg e, upd_ne (fun q => e q.symm), q3]; exact n0.law j hj
        · intro i hi
          have hi : i < S.now.n := hi
          exact CF_congr (yo _ (by omega) (by omega) (by omega) (by omega)) (yo _ (by omega) (by omega) (by omega) (by omega)) (n0.fl i hi)
        · rw [yo 0 (by omega) (by omega) (by omega) (by omega)]; exact a4.kept
        · intro W hW
          have hn := (hS.img W hW).1.n
          exact CW_T (fun t ht => hT t (by have := (hS.img W hW).2; omega)) (CW_congr (yo _ (by omega) (by omega) (by omega) (by omega)) (yo _ (by omega) (by omega) (by omega) (by omega)) (yo _ (by omega) (by omega) (by omega) (by omega)) (fun a h1 h2 => yo a (by omega) (by omega) (by omega) (by omega)) hn (a4.img W hW))
        · intro t ht
          have ht : t < S.now.m + 1 := ht
          show CT y t (setT S.T S.now.m x t)
          by_cases e : t = S.now.m
          · rw [e, setT_at, hx]
            refine ⟨by rw [yT _ (Or.inl rfl), d3]; exact c0, by rw [yT _ (Or.inl rfl), d4]; exact c1, by rw [yT _ (Or.inl rfl), d5]; exact c2, fun k hk => ?_⟩
            have hk : k < s.n := hk
            rw [show 50 + 2 * S.now.m = 49 + 2 * S.now.m + 1 by omega, yT _ (Or.inr rfl), d6 k (by omega)]
            exact c3 k hk
          · rw [setT_ne e]
            exact CT_congr (yo _ (by omega) (by omega) (by omega) (by omega)) (yo _ (by omega) (by omega) (by omega) (by omega)) (a4.tx t (show t < S.now.m by omega))
        · rw [yo 0 (by omega) (by omega) (by omega) (by omega)]; exact a4.tl
        · intro k hk; exact absurd hk (Nat.not_lt_zero _)
        · intro j hj; rw [yo _ (by omega) (by omega) (by omega) (by omega)]; exact a4.so j hj
        · intro j hj; rw [yo _ (by omega) (by omega) (by omega) (by omega)]; exact a4.ln j hj
        · intro j hj c hc; rw [yo _ (by omega) (by omega) (by omega) (by omega)]; exact a4.ce j hj c hc
        · intro k hk; exact CS_congr (fun b h1 h2 => yo b (by omega) (by omega) (by omega) (by omega)) (a4.sl k hk)
        · rw [yo 0 (by omega) (by omega) (by omega) (by omega)]; exact a4.wc
        · intro k hk; rw [yo 48 (by omega) (by omega) (by omega) (by omega)]; exact a4.wt k hk
        · intro a ha
          rw [yo a (by omega) (by omega) (by omega) (by omega), a2 a (by simp; omega), u2_ne _ _ (by omega)]
      · obtain ⟨v, a1, a2, a3⟩ := mR u hu
        rcases a3 with ⟨b1, _⟩ | ⟨k, s', b1, b2, b3, b4⟩
        · rw [hr] at b1; exact absurd b1 (by simp)
        · rw [hr] at b1
          have b1 : (key, s) = (k, s') := by injection b1
          injection b1 with e1 e2
          rw [← e1] at b2
          rw [← e2] at b3
          have hM0 := m0 u v hu a1 a2
          obtain ⟨w, hw⟩ : ∃ w, w = am_u2 v 110 7 0 := ⟨_, rfl⟩
          rw [← hw] at hM0
          obtain ⟨f17, f18, f19, _⟩ := b3
          have w110 : ∀ j, j ≠ 7 → w 110 j = v 110 j := fun j hj => by rw [hw, f10 _ _ hj]
          have w111 : w 111 = u 111 := by rw [hw, u2_ne _ _ (by decide), a1 111 (by decide) (by decide) (by decide) (by decide)]
          have w6 : w 111 6 = nI S.now.m := by rw [w111]; exact hu.now.m
          have e163 : (163 : Int32) + 2 * nI S.now.m = nI (163 + 2 * S.now.m) := by rw [show (163 : Int32) = nI 163 from rfl, show (2 : Int32) = nI 2 from rfl, pk_mul, nI_add]
          have e1000 : (1000 : Int32) * nI key + nI s.n = nI (1000 * key + s.n) := by rw [show (1000 : Int32) = nI 1000 from rfl, pk_mul, nI_add]
          obtain ⟨y1, hy1⟩ : ∃ y, y = am_u2 w 111 (163 + 2 * S.now.m) (nI (1000 * key + s.n)) := ⟨_, rfl⟩
          obtain ⟨y2, hy2⟩ : ∃ y, y = am_u2 y1 111 (164 + 2 * S.now.m) (nI s.l) := ⟨_, rfl⟩
          have y110 : y2 110 = w 110 := by rw [hy2, u2_ne _ _ (by decide), hy1, u2_ne _ _ (by decide)]
          have y119 : y2 119 = v 119 := by rw [hy2, u2_ne _ _ (by decide), hy1, u2_ne _ _ (by decide), hw, u2_ne _ _ (by decide)]
          have y111 : ∀ i, i ≠ 163 + 2 * S.now.m → i ≠ 164 + 2 * S.now.m → y2 111 i = w 111 i := fun i h1 h2 => by rw [hy2, u2_nei _ _ (Or.inr h2), hy1, u2_nei _ _ (Or.inr h1)]
          obtain ⟨z, d1, d2, d3, d4, d5⟩ := M_copyT (c := s.c) hm14 h96 s.n 0 1700 y2 (by omega) (by omega) (by rw [y110, w110 17 (by decide)]; exact f17) (by rw [y111 6 (by omega) (by omega)]; exact w6) (fun i hi => by rw [y119]; exact f19 i hi) (fun i hi => absurd hi (Nat.not_lt_zero _))
          have zo : ∀ a, a ≠ 111 → z a = w a := fun a ha => by rw [d2 a (by simp; exact ha), hy2, u2_ne _ _ ha, hy1, u2_ne _ _ ha]
          have z111 : ∀ i, i ≠ 6 → i ≠ 163 + 2 * S.now.m → i ≠ 164 + 2 * S.now.m → (i < 191 + 96 * S.now.m ∨ 191 + 96 * S.now.m + s.n ≤ i) → z 111 i = u 111 i := fun i h1 h2 h3 h4 => by rw [d3 i h1 h4, y111 i h2 h3, w111]
          have hu0 := hu.now
          have hMW : MW (z 111) (setT S.T S.now.m x) (S.now.n, S.now.sea, S.now.z, S.now.m + 1, S.now.fl) := by
            refine ⟨?_, ?_, ?_, d4, ?_, ?_, ?_, ?_⟩
            · rw [z111 0 (by omega) (by omega) (by omega) (by omega)]; exact hu0.z
            · rw [z111 1 (by omega) (by omega) (by omega) (by omega)]; exact hu0.n
            · intro j hj; rw [z111 _ (by omega) (by omega) (by omega) (by omega)]; exact hu0.sea j hj
            · intro i hi
              have hi : i < S.now.n := hi
              exact MF_congr (fun j h1 h2 => z111 j (by omega) (by omega) (by omega) (by omega)) (hu0.fl i hi)
            · intro t ht
              have ht : t < S.now.m + 1 := ht
              by_cases e : t = S.now.m
              · rw [e, setT_at, hx, d3 _ (by omega) (by omega), hy2, u2_nei _ _ (Or.inr (by omega)), hy1, u2_same]
              · rw [setT_ne e, z111 _ (by omega) (by omega) (by omega) (by omega)]; exact hu0.t1 t (by omega)
            · intro t ht
              have ht : t < S.now.m + 1 := ht
              by_cases e : t = S.now.m
              · rw [e, setT_at, hx, d3 _ (by omega) (by omega), hy2, u2_same]
              · rw [setT_ne e, z111 _ (by omega) (by omega) (by omega) (by omega)]; exact hu0.t2 t (by omega)
            · intro t ht k hk
              have ht : t < S.now.m + 1 := ht
              by_cases e : t = S.now.m
              · rw [e, setT_at, hx] at hk ⊢
                exact d5 k hk
              · rw [setT_ne e] at hk ⊢
                have h97 := (hS.now.t t (by omega)).2.1.1
                rw [z111 _ (by omega) (by omega) (by omega) (by omega)]; exact hu0.t3 t (by omega) k hk
          rw [hS0] at hM0
          refine ⟨z, ?_, ⟨hMW, ?_, ?_, ?_, ?_, ?_, ?_, ?_, ?_, ?_, ?_, ?_, ?_⟩, ?_⟩
          · show f_X7_text u = _
            rw [b4]
            unfold g_X7_text_33
            rw [p_let, ← hw, if_neg (show ¬ (1 : Int32) = 0 by decide), w6, if_neg (show ¬ nI S.now.m = 14 from nIne hz (by omega) (by decide)), p_let, e163, if_pos (p_inT (by omega) (by omega)), nI_clamp (by omega), w110 13 (by decide), b2, w110 17 (by decide), f17, e1000, p_let, ← hy1, nI_1, if_pos (p_inT (by omega) (by omega)), nI_clamp (by omega), p_let, show 163 + 2 * S.now.m + 1 = 164 + 2 * S.now.m by omega]
            have e18 : y1 110 18 = nI s.l := by rw [hy1, u2_ne _ _ (by decide), w110 18 (by decide)]; exact f18
            rw [e18, ← hy2]
            rw [nI_0] at d1
            exact d1
          · rw [zo 110 (by decide)]; exact hM0.kept
          · intro W hW
            rw [zo 112 (by decide)]
            exact MW_T (fun t ht => hT t (by have := (hS.img W hW).2; omega)) (hM0.img W hW)
          · rw [zo 110 (by decide)]; exact hM0.tl
          · intro k hk; exact absurd hk (Nat.not_lt_zero _)
          · intro j hj; rw [zo 124 (by decide)]; exact hM0.so j hj
          · intro j hj; rw [zo 125 (by decide)]; exact hM0.ln j hj
          · intro j hj c hc; rw [zo 126 (by decide)]; exact hM0.ce j hj c hc
          · intro k hk; exact MS_congr (by rw [zo 127 (by decide)]) (by rw [zo 128 (by decide)]) (by rw [zo 129 (by decide)]) (fun i hi => by rw [zo 130 (by decide)]) (hM0.sl k hk)
          · rw [zo 110 (by decide)]; exact hM0.wc
          · intro k hk; rw [zo 132 (by decide)]; exact hM0.wt k hk
          · intro k hk; rw [zo 117 (by decide)]; exact hM0.ky k hk
          · intro k hk; rw [zo 118 (by decide)]; exact hM0.ka k hk
          · intro a ha
            rw [zo a (by omega), hw, u2_ne _ _ (by omega), a1 a (by omega) (by omega) (by omega) (by omega)]
