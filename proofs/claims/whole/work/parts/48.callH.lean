/-! slots -/
def slOK (x : SL) : Prop := x.th < 4 ∧ x.ln ≤ 24 ∧ (x.th = 1 → (∃ j, j < 6 ∧ x.fs.k = nI j))
theorem Csl {fc fm : am_MU → Option (am_MU × Int32)} {S : AS} {B k : Nat} (hS : OK S B) (hk : k < 5) (x : SL) (r : Int32) (hx : slOK x) (hc : ∀ u, CI u S → ∃ u', fc u = some (u', r) ∧ (∀ a, ¬ (85 + 5 * k ≤ a ∧ a < 85 + 5 * k + 5) → u' a = u a) ∧ CS u' (85 + 5 * k) x) (hm : ∀ u, MI u S → ∃ u', fm u = some (u', r) ∧ same [127, 128, 129, 130] u u' ∧ (∀ j, j ≠ k → u' 127 j = u 127 j ∧ u' 128 j = u 128 j ∧ u' 129 j = u 129 j) ∧ (∀ j, (j < 24 * k ∨ 24 * k + 24 ≤ j) → u' 130 j = u 130 j) ∧ MS u' k x) : Res fc fm S B := by
  have h := OK_mono hS (show B ≤ B + 2400 by omega)
  have hmm := hS.now.m
  refine ⟨(S.T, S.now, S.img, S.tl, S.tp, S.sh, fun j => if j = k then x else S.sl j, S.wc, S.wt), r, ⟨h.now, h.img, h.tl, h.sh, fun j hj => ?_, h.wc⟩, fun u hu => ?_, fun u hu => ?_⟩
  · show slOK (if j = k then x else S.sl j)
    by_cases e : j = k
    · rw [if_pos e]; exact hx
    · rw [if_neg e]; exact h.sl j hj
  · obtain ⟨v, e1, e2, e3⟩ := hc u hu
    have h' : ∀ a, a < 85 → v a = u a := fun a h1 => e2 a (by omega)
    refine ⟨v, e1, ⟨CW_congr (h' _ (by omega)) (h' _ (by omega)) (h' _ (by omega)) (fun a h1 h2 => h' a (by omega)) hS.now.n hu.now, by rw [h' 0 (by omega)]; exact hu.kept, fun W hW => CW_congr (h' _ (by omega)) (h' _ (by omega)) (h' _ (by omega)) (fun a h1 h2 => h' a (by omega)) (hS.img W hW).1.n (hu.img W hW), fun t ht => by have ht : t < S.now.m := ht; exact CT_congr (h' _ (by omega)) (h' _ (by omega)) (hu.tx t ht), by rw [h' 0 (by omega)]; exact hu.tl, fun k hk => by rw [h' 45 (by omega)]; exact hu.tp k hk, fun j hj => by rw [h' _ (by omega)]; exact hu.so j hj, fun j hj => by rw [h' _ (by omega)]; exact hu.ln j hj, fun j hj c hc => by rw [h' _ (by omega)]; exact hu.ce j hj c hc, fun j hj => ?_, by rw [h' 0 (by omega)]; exact hu.wc, fun k hk => by rw [h' 48 (by omega)]; exact hu.wt k hk⟩, fun a ha => e2 a (by omega)⟩
    show CS v (85 + 5 * j) (if j = k then x else S.sl j)
    by_cases e : j = k
    · rw [if_pos e, e]; exact e3
    · rw [if_neg e]; exact CS_congr (fun b h1 h2 => e2 b (by omega)) (hu.sl j hj)
  · obtain ⟨v, e1, e2, e3, e4, e5⟩ := hm u hu
    have h' : ∀ a, a ≠ 127 → a ≠ 128 → a ≠ 129 → a ≠ 130 → v a = u a := fun a h1 h2 h3 h4 => e2 a (by simp; omega)
    refine ⟨v, e1, ⟨by rw [h' 111 (by omega) (by omega) (by omega) (by omega)]; exact hu.now, by rw [h' 110 (by omega) (by omega) (by omega) (by omega)]; exact hu.kept, fun W hW => by rw [h' 112 (by omega) (by omega) (by omega) (by omega)]; exact hu.img W hW, by rw [h' 110 (by omega) (by omega) (by omega) (by omega)]; exact hu.tl, fun k hk => by rw [h' 116 (by omega) (by omega) (by omega) (by omega)]; exact hu.tp k hk, fun j hj => by rw [h' 124 (by omega) (by omega) (by omega) (by omega)]; exact hu.so j hj, fun j hj => by rw [h' 125 (by omega) (by omega) (by omega) (by omega)]; exact hu.ln j hj, fun j hj c hc => by rw [h' 126 (by omega) (by omega) (by omega) (by omega)]; exact hu.ce j hj c hc, fun j hj => ?_, by rw [h' 110 (by omega) (by omega) (by omega) (by omega)]; exact hu.wc, fun k hk => by rw [h' 132 (by omega) (by omega) (by omega) (by omega)]; exact hu.wt k hk, fun k hk => by rw [h' 117 (by omega) (by omega) (by omega) (by omega)]; exact hu.ky k hk, fun k hk => by rw [h' 118 (by omega) (by omega) (by omega) (by omega)]; exact hu.ka k hk⟩, hi_same e2 (by simp)⟩
    show MS v j (if j = k then x else S.sl j)
    by_cases e : j = k
    · rw [if_pos e, e]; exact e5
    · rw [if_neg e]; exact MS_congr (e3 j e).1 (e3 j e).2.1 (e3 j e).2.2 (fun i hi => e4 _ (by omega)) (hu.sl j hj)
theorem p_X0_become {a b : Nat} (ta : tg a = 0) (tb : tg b = 0) (ia : il (a + 1) = 24) (ib : il (b + 1) = 24) (hab : b ≠ a ∧ b ≠ a + 1) {u : am_MU} {s : FS} (h : CF u b s) : ∃ u', f_X0_become u a b = some u' ∧ same [a, a + 1] u u' ∧ CF u' a s := by
  have hcp : am_cpok (b + 1) (a + 1) 0 0 24 = true := by
    unfold am_cpok
    rw [ia, ib]
    decide
  obtain ⟨v1, hv1⟩ : ∃ v1, v1 = am_ur u (a + 1) (va_cpy (u (b + 1)) (u (a + 1)) 0 0 24) := ⟨_, rfl⟩
  have q1 : v1 b = u b := by rw [hv1]; exact ur_ne _ _ hab.2
  have q2 : rc v1 a = rc u b := by
    funext c
    unfold rc cut
    by_cases hc : c < 24
    · rw [if_pos hc, if_pos hc, hv1, ur_row, pk_cpy_in (by omega) (by omega)]; congr 1; omega
    · rw [if_neg hc, if_neg hc]
  obtain ⟨v2, hv2⟩ : ∃ v2, v2 = am_u2 v1 a 1 (v1 b 1) := ⟨_, rfl⟩
  have q3 : v2 b = u b := by rw [hv2, u2_ne _ _ hab.1, q1]
  refine ⟨am_u2 v2 a 2 (v2 b 2), ?_, ?_, ?_, ?_, ?_⟩
  · unfold f_X0_become
    rw [if_pos tb, if_pos ta, if_pos hcp, p_let, p_let, p_let, hv2, hv1]
    rfl
  · intro c hc
    simp at hc
    rw [u2_ne _ _ hc.1, hv2, u2_ne _ _ hc.1, hv1, ur_ne _ _ hc.2]
  · rw [u2_same, q3]; exact h.1
  · rw [u2_nei _ _ (Or.inr (by decide)), hv2, u2_same, q1]; exact h.2.1
  · rw [rc_congr (show am_u2 v2 a 2 (v2 b 2) (a + 1) = v1 (a + 1) by rw [u2_ne _ _ (by omega), hv2, u2_ne _ _ (by omega)]), q2]; exact h.2.2
theorem il5 : ∀ i, i < 6 → il (5 + 2 * i + 1) = 24 := by decide +kernel
theorem il86 : ∀ i, i < 5 → il (85 + 5 * i + 1 + 1) = 24 := by decide +kernel
theorem il88 : ∀ i, i < 5 → il (85 + 5 * i + 3 + 1) = 24 := by decide +kernel
theorem il78 : ∀ i, i < 4 → il (77 + 2 * i + 1) = 24 := by decide +kernel
theorem p_X2_become {a b : Nat} (ta : tg a = 2) (tb : tg b = 2) (ia : il (a + 1) = 24) (ib : il (b + 1) = 24) (hab : b ≠ a ∧ b + 1 ≠ a) (u : am_MU) : ∃ u', f_X2_become u a b = some u' ∧ same [a, a + 1] u u' ∧ u' a 1 = u b 1 ∧ ∀ c, c < 24 → u' (a + 1) c = u (b + 1) c := by
  have hcp : am_cpok (b + 1) (a + 1) 0 0 24 = true := by
    unfold am_cpok
    rw [ia, ib]
    decide
  obtain ⟨v1, hv1⟩ : ∃ v1, v1 = am_u2 u a 0 (u b 0) := ⟨_, rfl⟩
  obtain ⟨v2, hv2⟩ : ∃ v2, v2 = am_u2 v1 a 1 (v1 b 1) := ⟨_, rfl⟩
  have q1 : ∀ c, c ≠ a → v2 c = u c := fun c hc => by rw [hv2, u2_ne _ _ hc, hv1, u2_ne _ _ hc]
  refine ⟨am_ur v2 (a + 1) (va_cpy (v2 (b + 1)) (v2 (a + 1)) 0 0 24), ?_, ?_, ?_, ?_⟩
  · unfold f_X2_become
    rw [if_pos tb, if_pos ta, p_let, p_let, if_pos hcp, p_let, hv2, hv1]
    rfl
  · intro c hc
    simp at hc
    rw [ur_ne _ _ hc.2, q1 c hc.1]
  · rw [ur_ne _ _ (by omega), hv2, u2_same, hv1, u2_ne _ _ hab.1]
  · intro c hc
    rw [ur_row, pk_cpy_in (by omega) (by omega), q1 _ hab.2]
    congr 1
    omega
theorem th4 {n : Nat} (h : n < 4) {a : Nat} (ha : a < 4) : (nI n = nI a) = (n = a) := propext ⟨fun e => (nI_eq (by omega) (by omega)).mp e, fun e => by rw [e]⟩
theorem i1 : (1 : Int32) = nI 1 := rfl
theorem i2 : (2 : Int32) = nI 2 := rfl
theorem i3 : (3 : Int32) = nI 3 := rfl
theorem i0 : (0 : Int32) = nI 0 := rfl
theorem k_ask (x y : Int32) : Call (fun u => f_X6_ask u x y) (fun u => f_X7_ask u x y) := by
  intro S B hS hB
  rcases rng x (show 5 < 2 ^ 31 by decide) with ⟨k, hk, rfl⟩ | hx
  · obtain ⟨k1, k2, k3⟩ := hS.sl k hk
    have ck : (nI k).toNatClampNeg = k := nI_clamp (by omega)
    rcases rng y (show 6 < 2 ^ 31 by decide) with ⟨j, hj, rfl⟩ | hy
    · by_cases hz0 : (S.sl k).th = 0
      · have hz := hz0
        refine Cro hS (-1000000011) (fun u hu => ?_) (fun u hu => ?_)
        · show f_X6_ask u (nI k) (nI j) = _
          unfold f_X6_ask
          rw [bG1 (lC1 u hk), bG1 (kC1 u hj)]
          dsimp only
          rw [if_pos (p_inT (by omega) hk), ck, if_pos (tg85 k hk)]
          rw [if_pos (show u (85 + 5 * k) 0 = 0 by rw [(hu.sl k hk).th, hz]; rfl)]
        · show f_X7_ask u (nI k) (nI j) = _
          unfold f_X7_ask
          rw [bG1 (lM1 u hk), bG1 (in_in u 5 (n := 5) rfl (by decide) hj)]
          dsimp only
          rw [if_pos (p_inT (by omega) hk), ck]
          rw [if_pos (show u 127 k = 0 by rw [(hu.sl k hk).th, hz]; rfl)]
      · by_cases hz1 : (S.sl k).th = 1
        · have hz := hz1
          obtain ⟨q, hq, eq⟩ := k3 hz
          by_cases hun : unI (nI q) (nI j) = 0
          · refine Cro hS (-1000000012) (fun u hu => ?_) (fun u hu => ?_)
            · show f_X6_ask u (nI k) (nI j) = _
              unfold f_X6_ask
              rw [bG1 (lC1 u hk), bG1 (kC1 u hj)]
              dsimp only
              rw [if_pos (p_inT (by omega) hk), ck, if_pos (tg85 k hk)]
              rw [if_neg (show ¬ u (85 + 5 * k) 0 = 0 by rw [(hu.sl k hk).th]; exact fun e => hz0 ((nI_eq (by omega) (by decide)).mp e)), if_pos (show u (85 + 5 * k) 0 = 1 by rw [(hu.sl k hk).th, hz]; rfl), ((hu.sl k hk).f hz).1, eq, bG0 (by rw [p_X6_isUnder u hq hj, hun])]
            · show f_X7_ask u (nI k) (nI j) = _
              unfold f_X7_ask
              rw [bG1 (lM1 u hk), bG1 (in_in u 5 (n := 5) rfl (by decide) hj)]
              dsimp only
              rw [if_pos (p_inT (by omega) hk), ck]
              rw [if_neg (show ¬ u 127 k = 0 by rw [(hu.sl k hk).th]; exact fun e => hz0 ((nI_eq (by omega) (by decide)).mp e)), if_pos (show u 127 k = 1 by rw [(hu.sl k hk).th, hz]; rfl), ((hu.sl k hk).f hz).1, eq, bG0 (by rw [p_X7_isUnder, hun])]
          · have hun1 : unI (nI q) (nI j) = 1 := by
              have : unI (nI q) (nI j) = 0 ∨ unI (nI q) (nI j) = 1 := by
                unfold unI
                repeat' split
                all_goals first | exact Or.inl rfl | exact Or.inr rfl
              exact this.resolve_left hun
            refine Cro hS (woI (nI q) (S.sl k).fs.r) (fun u hu => ?_) (fun u hu => ?_)
            · show f_X6_ask u (nI k) (nI j) = _
              unfold f_X6_ask
              rw [bG1 (lC1 u hk), bG1 (kC1 u hj)]
              dsimp only
              rw [if_pos (p_inT (by omega) hk), ck, if_pos (tg85 k hk)]
              rw [if_neg (show ¬ u (85 + 5 * k) 0 = 0 by rw [(hu.sl k hk).th]; exact fun e => hz0 ((nI_eq (by omega) (by decide)).mp e)), if_pos (show u (85 + 5 * k) 0 = 1 by rw [(hu.sl k hk).th, hz]; rfl), ((hu.sl k hk).f hz).1, eq, bG1 (by rw [p_X6_isUnder u hq hj, hun1])]
              dsimp only
              rw [p_X0_worth u (tg86 k hk), p_some, ((hu.sl k hk).f hz).1, ((hu.sl k hk).f hz).2.2, eq]
            · show f_X7_ask u (nI k) (nI j) = _
              unfold f_X7_ask
              rw [bG1 (lM1 u hk), bG1 (in_in u 5 (n := 5) rfl (by decide) hj)]
              dsimp only
              rw [if_pos (p_inT (by omega) hk), ck]
              rw [if_neg (show ¬ u 127 k = 0 by rw [(hu.sl k hk).th]; exact fun e => hz0 ((nI_eq (by omega) (by decide)).mp e)), if_pos (show u 127 k = 1 by rw [(hu.sl k hk).th, hz]; rfl), ((hu.sl k hk).f hz).1, eq, bG1 (by rw [p_X7_isUnder, hun1])]
              dsimp only
              rw [((hu.sl k hk).f hz).2, eq]
        · skip
          refine Cro hS (-1000000012) (fun u hu => ?_) (fun u hu => ?_)
          · show f_X6_ask u (nI k) (nI j) = _
            unfold f_X6_ask
            rw [bG1 (lC1 u hk), bG1 (kC1 u hj)]
            dsimp only
            rw [if_pos (p_inT (by omega) hk), ck, if_pos (tg85 k hk)]
            rw [if_neg (show ¬ u (85 + 5 * k) 0 = 0 by rw [(hu.sl k hk).th]; exact fun e => hz0 ((nI_eq (by omega) (by decide)).mp e)), if_neg (show ¬ u (85 + 5 * k) 0 = 1 by rw [(hu.sl k hk).th]; exact fun e => hz1 ((nI_eq (by omega) (by decide)).mp e))]
          · show f_X7_ask u (nI k) (nI j) = _
            unfold f_X7_ask
            rw [bG1 (lM1 u hk), bG1 (in_in u 5 (n := 5) rfl (by decide) hj)]
            dsimp only
            rw [if_pos (p_inT (by omega) hk), ck]
            rw [if_neg (show ¬ u 127 k = 0 by rw [(hu.sl k hk).th]; exact fun e => hz0 ((nI_eq (by omega) (by decide)).mp e)), if_neg (show ¬ u 127 k = 1 by rw [(hu.sl k hk).th]; exact fun e => hz1 ((nI_eq (by omega) (by decide)).mp e))]
    · skip
      refine Cro hS (-1000000001) (fun u hu => ?_) (fun u hu => ?_)
      · show f_X6_ask u (nI k) y = _
        unfold f_X6_ask
        rw [bG1 (lC1 u hk), bG0 (kC0 u hy)]
      · show f_X7_ask u (nI k) y = _
        unfold f_X7_ask
        rw [bG1 (lM1 u hk), bG0 (out_in u 5 (n := 5) rfl (by decide) hy)]
  · refine Cro hS (-1000000001) (fun u hu => ?_) (fun u hu => ?_)
    · show f_X6_ask u x y = _
      unfold f_X6_ask
      rw [bG0 (lC0 u hx)]
    · show f_X7_ask u x y = _
      unfold f_X7_ask
      rw [bG0 (lM0 u hx)]
theorem k_item (x y : Int32) : Call (fun u => f_X6_item u x y) (fun u => f_X7_item u x y) := by
  intro S B hS hB
  rcases rng x (show 5 < 2 ^ 31 by decide) with ⟨k, hk, rfl⟩ | hx
  · obtain ⟨k1, k2, k3⟩ := hS.sl k hk
    have ck : (nI k).toNatClampNeg = k := nI_clamp (by omega)
    by_cases hz0 : (S.sl k).th = 0
    · have hz := hz0
      refine Cro hS (-1000000011) (fun u hu => ?_) (fun u hu => ?_)
      · show f_X6_item u (nI k) y = _
        unfold f_X6_item
        rw [bG1 (lC1 u hk)]
        dsimp only
        rw [if_pos (p_inT (by omega) hk), ck, if_pos (tg85 k hk)]
        rw [if_pos (show u (85 + 5 * k) 0 = 0 by rw [(hu.sl k hk).th, hz]; rfl)]
      · show f_X7_item u (nI k) y = _
        unfold f_X7_item
        rw [bG1 (lM1 u hk)]
        dsimp only
        rw [if_pos (p_inT (by omega) hk), ck]
        rw [if_pos (show u 127 k = 0 by rw [(hu.sl k hk).th, hz]; rfl)]
    · by_cases hz2 : (S.sl k).th = 2
      · have hz := hz2
        have e120 : ∀ c, (24 : Int32) * nI k + nI c = nI (24 * k + c) := fun c => e24 k c
        rcases rng y (show (S.sl k).ln < 2 ^ 31 by omega) with ⟨c, hc, rfl⟩ | hy
        · have hc24 : c < 24 := by omega
          by_cases hN : (S.sl k).ce c = -1000000005
          · skip
            refine Cro hS (-1000000012) (fun u hu => ?_) (fun u hu => ?_)
            · show f_X6_item u (nI k) (nI c) = _
              unfold f_X6_item
              rw [bG1 (lC1 u hk)]
              dsimp only
              rw [if_pos (p_inT (by omega) hk), ck, if_pos (tg85 k hk)]
              rw [if_neg (show ¬ u (85 + 5 * k) 0 = 0 by rw [(hu.sl k hk).th]; exact fun e => hz0 ((nI_eq (by omega) (by decide)).mp e)), if_pos (show u (85 + 5 * k) 0 = 2 by rw [(hu.sl k hk).th, hz]; rfl), bG1 (hp1 u (tg88 k hk) ((hu.sl k hk).l hz) k2 hc), bG0 (in0 (ce := (S.sl k).ce) u (tg88 k hk) ((hu.sl k hk).l hz) k2 hc24 ((hu.sl k hk).c hz c hc24) (fun q => q.2 hN))]
            · show f_X7_item u (nI k) (nI c) = _
              unfold f_X7_item
              rw [bG1 (lM1 u hk)]
              dsimp only
              rw [if_pos (p_inT (by omega) hk), ck]
              rw [if_neg (show ¬ u 127 k = 0 by rw [(hu.sl k hk).th]; exact fun e => hz0 ((nI_eq (by omega) (by decide)).mp e)), if_pos (show u 127 k = 2 by rw [(hu.sl k hk).th, hz]; rfl), (hu.sl k hk).l hz, bG1 (inM1 u (by omega) hc)]
              dsimp only
              rw [e120, if_pos (p_inT (by omega) (by omega)), nI_clamp (by omega), p_let, (hu.sl k hk).c hz c hc24, if_pos hN]
          · skip
            refine Cro hS ((S.sl k).ce c) (fun u hu => ?_) (fun u hu => ?_)
            · show f_X6_item u (nI k) (nI c) = _
              unfold f_X6_item
              rw [bG1 (lC1 u hk)]
              dsimp only
              rw [if_pos (p_inT (by omega) hk), ck, if_pos (tg85 k hk)]
              rw [if_neg (show ¬ u (85 + 5 * k) 0 = 0 by rw [(hu.sl k hk).th]; exact fun e => hz0 ((nI_eq (by omega) (by decide)).mp e)), if_pos (show u (85 + 5 * k) 0 = 2 by rw [(hu.sl k hk).th, hz]; rfl), bG1 (hp1 u (tg88 k hk) ((hu.sl k hk).l hz) k2 hc), bG1 (in1 (ce := (S.sl k).ce) u (tg88 k hk) ((hu.sl k hk).l hz) k2 hc24 ((hu.sl k hk).c hz c hc24) ⟨hc, hN⟩)]
              dsimp only
              have ec : u (85 + 5 * k + 3 + 1) c = (S.sl k).ce c := (hu.sl k hk).c hz c hc24
              rw [if_pos (p_inT (by omega) hc24), nI_clamp (by omega), ec]
            · show f_X7_item u (nI k) (nI c) = _
              unfold f_X7_item
              rw [bG1 (lM1 u hk)]
              dsimp only
              rw [if_pos (p_inT (by omega) hk), ck]
              rw [if_neg (show ¬ u 127 k = 0 by rw [(hu.sl k hk).th]; exact fun e => hz0 ((nI_eq (by omega) (by decide)).mp e)), if_pos (show u 127 k = 2 by rw [(hu.sl k hk).th, hz]; rfl), (hu.sl k hk).l hz, bG1 (inM1 u (by omega) hc)]
              dsimp only
              rw [e120, if_pos (p_inT (by omega) (by omega)), nI_clamp (by omega), p_let, (hu.sl k hk).c hz c hc24, if_neg hN]
        · skip
          refine Cro hS (-1000000013) (fun u hu => ?_) (fun u hu => ?_)
          · show f_X6_item u (nI k) y = _
            unfold f_X6_item
            rw [bG1 (lC1 u hk)]
            dsimp only
            rw [if_pos (p_inT (by omega) hk), ck, if_pos (tg85 k hk)]
            rw [if_neg (show ¬ u (85 + 5 * k) 0 = 0 by rw [(hu.sl k hk).th]; exact fun e => hz0 ((nI_eq (by omega) (by decide)).mp e)), if_pos (show u (85 + 5 * k) 0 = 2 by rw [(hu.sl k hk).th, hz]; rfl), bG0 (hp0 u (tg88 k hk) ((hu.sl k hk).l hz) hy)]
          · show f_X7_item u (nI k) y = _
            unfold f_X7_item
            rw [bG1 (lM1 u hk)]
            dsimp only
            rw [if_pos (p_inT (by omega) hk), ck]
            rw [if_neg (show ¬ u 127 k = 0 by rw [(hu.sl k hk).th]; exact fun e => hz0 ((nI_eq (by omega) (by decide)).mp e)), if_pos (show u 127 k = 2 by rw [(hu.sl k hk).th, hz]; rfl), (hu.sl k hk).l hz, bG0 (inM0 u (by omega) hy)]
      · skip
        refine Cro hS (-1000000012) (fun u hu => ?_) (fun u hu => ?_)
        · show f_X6_item u (nI k) y = _
          unfold f_X6_item
          rw [bG1 (lC1 u hk)]
          dsimp only
          rw [if_pos (p_inT (by omega) hk), ck, if_pos (tg85 k hk)]
          rw [if_neg (show ¬ u (85 + 5 * k) 0 = 0 by rw [(hu.sl k hk).th]; exact fun e => hz0 ((nI_eq (by omega) (by decide)).mp e)), if_neg (show ¬ u (85 + 5 * k) 0 = 2 by rw [(hu.sl k hk).th]; exact fun e => hz2 ((nI_eq (by omega) (by decide)).mp e))]
        · show f_X7_item u (nI k) y = _
          unfold f_X7_item
          rw [bG1 (lM1 u hk)]
          dsimp only
          rw [if_pos (p_inT (by omega) hk), ck]
          rw [if_neg (show ¬ u 127 k = 0 by rw [(hu.sl k hk).th]; exact fun e => hz0 ((nI_eq (by omega) (by decide)).mp e)), if_neg (show ¬ u 127 k = 2 by rw [(hu.sl k hk).th]; exact fun e => hz2 ((nI_eq (by omega) (by decide)).mp e))]
  · refine Cro hS (-1000000001) (fun u hu => ?_) (fun u hu => ?_)
    · show f_X6_item u x y = _
      unfold f_X6_item
      rw [bG0 (lC0 u hx)]
    · show f_X7_item u x y = _
      unfold f_X7_item
      rw [bG0 (lM0 u hx)]
theorem p_divm1 (x : Int32) : x - x / (-1) * (-1) = 0 := by
  have h : x / (-1) = -x := by
    apply Int32.toInt_inj.mp
    rw [Int32.toInt_div, show (-1 : Int32).toInt = -1 from by decide, Int.tdiv_neg, Int.tdiv_one, Int32.toInt_neg]
  rw [h, Int32.mul_neg, Int32.mul_one, Int32.neg_neg, Int32.sub_self]
theorem k_rest (x y : Int32) : Call (fun u => f_X6_rest u x y) (fun u => f_X7_rest u x y) := by
  intro S B hS hB
  rcases rng x (show 5 < 2 ^ 31 by decide) with ⟨k, hk, rfl⟩ | hx
  · obtain ⟨k1, k2, k3⟩ := hS.sl k hk
    have ck : (nI k).toNatClampNeg = k := nI_clamp (by omega)
    by_cases hz0 : (S.sl k).th = 0
    · have hz := hz0
      refine Cro hS (-1000000011) (fun u hu => ?_) (fun u hu => ?_)
      · show f_X6_rest u (nI k) y = _
        unfold f_X6_rest
        rw [bG1 (lC1 u hk)]
        dsimp only
        rw [if_pos (p_inT (by omega) hk), ck, if_pos (tg85 k hk)]
        rw [if_pos (show u (85 + 5 * k) 0 = 0 by rw [(hu.sl k hk).th, hz]; rfl)]
      · show f_X7_rest u (nI k) y = _
        unfold f_X7_rest
        rw [bG1 (lM1 u hk)]
        dsimp only
        rw [if_pos (p_inT (by omega) hk), ck]
        rw [if_pos (show u 127 k = 0 by rw [(hu.sl k hk).th, hz]; rfl)]
    · by_cases hz3 : (S.sl k).th = 3
      · have hz := hz3
        by_cases hy : y = 0
        · skip
          refine Cro hS (-1000000002) (fun u hu => ?_) (fun u hu => ?_)
          · show f_X6_rest u (nI k) y = _
            unfold f_X6_rest
            rw [bG1 (lC1 u hk)]
            dsimp only
            rw [if_pos (p_inT (by omega) hk), ck, if_pos (tg85 k hk)]
            rw [if_neg (show ¬ u (85 + 5 * k) 0 = 0 by rw [(hu.sl k hk).th]; exact fun e => hz0 ((nI_eq (by omega) (by decide)).mp e)), if_pos (show u (85 + 5 * k) 0 = 3 by rw [(hu.sl k hk).th, hz]; rfl), if_pos hy]
          · show f_X7_rest u (nI k) y = _
            unfold f_X7_rest
            rw [bG1 (lM1 u hk)]
            dsimp only
            rw [if_pos (p_inT (by omega) hk), ck]
            rw [if_neg (show ¬ u 127 k = 0 by rw [(hu.sl k hk).th]; exact fun e => hz0 ((nI_eq (by omega) (by decide)).mp e)), if_pos (show u 127 k = 3 by rw [(hu.sl k hk).th, hz]; rfl), if_pos hy]
        · skip
          refine Cro hS ((S.sl k).nu - (S.sl k).nu / y * y) (fun u hu => ?_) (fun u hu => ?_)
          · show f_X6_rest u (nI k) y = _
            unfold f_X6_rest
            rw [bG1 (lC1 u hk)]
            dsimp only
            rw [if_pos (p_inT (by omega) hk), ck, if_pos (tg85 k hk)]
            rw [if_neg (show ¬ u (85 + 5 * k) 0 = 0 by rw [(hu.sl k hk).th]; exact fun e => hz0 ((nI_eq (by omega) (by decide)).mp e)), if_pos (show u (85 + 5 * k) 0 = 3 by rw [(hu.sl k hk).th, hz]; rfl), if_neg hy, if_pos hy, (hu.sl k hk).n hz]
          · show f_X7_rest u (nI k) y = _
            unfold f_X7_rest
            rw [bG1 (lM1 u hk)]
            dsimp only
            rw [if_pos (p_inT (by omega) hk), ck]
            rw [if_neg (show ¬ u 127 k = 0 by rw [(hu.sl k hk).th]; exact fun e => hz0 ((nI_eq (by omega) (by decide)).mp e)), if_pos (show u 127 k = 3 by rw [(hu.sl k hk).th, hz]; rfl), if_neg hy, if_pos hy, (hu.sl k hk).n hz]
            by_cases hm1 : y = -1
            · rw [if_pos hm1, hm1, p_divm1]
            · rw [if_neg hm1]
      · skip
        refine Cro hS (-1000000012) (fun u hu => ?_) (fun u hu => ?_)
        · show f_X6_rest u (nI k) y = _
          unfold f_X6_rest
          rw [bG1 (lC1 u hk)]
          dsimp only
          rw [if_pos (p_inT (by omega) hk), ck, if_pos (tg85 k hk)]
          rw [if_neg (show ¬ u (85 + 5 * k) 0 = 0 by rw [(hu.sl k hk).th]; exact fun e => hz0 ((nI_eq (by omega) (by decide)).mp e)), if_neg (show ¬ u (85 + 5 * k) 0 = 3 by rw [(hu.sl k hk).th]; exact fun e => hz3 ((nI_eq (by omega) (by decide)).mp e))]
        · show f_X7_rest u (nI k) y = _
          unfold f_X7_rest
          rw [bG1 (lM1 u hk)]
          dsimp only
          rw [if_pos (p_inT (by omega) hk), ck]
          rw [if_neg (show ¬ u 127 k = 0 by rw [(hu.sl k hk).th]; exact fun e => hz0 ((nI_eq (by omega) (by decide)).mp e)), if_neg (show ¬ u 127 k = 3 by rw [(hu.sl k hk).th]; exact fun e => hz3 ((nI_eq (by omega) (by decide)).mp e))]
  · refine Cro hS (-1000000001) (fun u hu => ?_) (fun u hu => ?_)
    · show f_X6_rest u x y = _
      unfold f_X6_rest
      rw [bG0 (lC0 u hx)]
    · show f_X7_rest u x y = _
      unfold f_X7_rest
      rw [bG0 (lM0 u hx)]
