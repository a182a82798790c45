/-! THE REFERENCE'S READER: tokens -/
def onF (L : List Nat) (u u' : am_MU) : Prop := (∀ a, a ≠ 110 → u' a = u a) ∧ ∀ j, j ∉ L → u' 110 j = u 110 j
theorem onF_rf {L : List Nat} {u : am_MU} : onF L u u := ⟨fun _ _ => rfl, fun _ _ => rfl⟩
theorem onF_tr {L : List Nat} {u v w : am_MU} (h1 : onF L u v) (h2 : onF L v w) : onF L u w := ⟨fun a ha => (h2.1 a ha).trans (h1.1 a ha), fun j hj => (h2.2 j hj).trans (h1.2 j hj)⟩
theorem onF_mono {L M : List Nat} {u v : am_MU} (h : onF L u v) (hs : ∀ a ∈ L, a ∈ M) : onF M u v := ⟨h.1, fun j hj => h.2 j (fun q => hj (hs j q))⟩
theorem onF_u2 {L : List Nat} (u : am_MU) (i : Nat) (v : Int32) (h : i ∈ L) : onF L u (am_u2 u 110 i v) := ⟨fun a ha => u2_ne _ _ ha, fun j hj => u2_nei _ _ (Or.inr (fun e => hj (e ▸ h)))⟩
theorem f10 (u : am_MU) {i j : Nat} (v : Int32) (h : j ≠ i) : am_u2 u 110 i v 110 j = u 110 j := u2_nei _ _ (Or.inr h)
/-- the tape of the reference's -/
def TM (u : am_MU) (t : Nat → Int32) (n : Nat) : Prop := u 110 7 = nI n ∧ ∀ k, k < n → u 116 k = t k
theorem TM_on {L : List Nat} {u u' : am_MU} {t : Nat → Int32} {n : Nat} (h : onF L u u') (hL : 7 ∉ L) (ht : TM u t n) : TM u' t n := ⟨by rw [h.2 7 hL]; exact ht.1, fun k hk => by rw [h.1 116 (by decide)]; exact ht.2 k hk⟩
theorem mL1 {u : am_MU} {t : Nat → Int32} {n k : Nat} (hn : n ≤ 96) (ht : TM u t n) (h : k < n ∧ isL (t k)) : f_X7_isLetter u (nI k) = some (u, 1) := by
  unfold f_X7_isLetter
  rw [ht.1, if_neg (nI_ge h.1 (by omega)), if_pos (p_inT (by omega) (by omega)), nI_clamp (by omega), ht.2 k h.1, if_neg h.2.1, if_neg h.2.2]
theorem mL0 {u : am_MU} {t : Nat → Int32} {n k : Nat} (hn : n ≤ 96) (hk : k ≤ n) (ht : TM u t n) (h : ¬ (k < n ∧ isL (t k))) : f_X7_isLetter u (nI k) = some (u, 0) := by
  unfold f_X7_isLetter
  by_cases z : k < n
  · rw [ht.1, if_neg (nI_ge z (by omega)), if_pos (p_inT (by omega) (by omega)), nI_clamp (by omega), ht.2 k z]
    by_cases h1 : t k < 97
    · rw [if_pos h1]
    · rw [if_neg h1, if_pos (Decidable.not_not.mp (fun h2 => h ⟨z, h1, h2⟩))]
  · rw [ht.1, if_pos (nI_le (by omega) (by omega))]
theorem mD1 {u : am_MU} {t : Nat → Int32} {n k : Nat} (hn : n ≤ 96) (ht : TM u t n) (h : k < n ∧ isD (t k)) : f_X7_isFigure u (nI k) = some (u, 1) := by
  unfold f_X7_isFigure
  rw [ht.1, if_neg (nI_ge h.1 (by omega)), if_pos (p_inT (by omega) (by omega)), nI_clamp (by omega), ht.2 k h.1, if_neg h.2.1, if_neg h.2.2]
theorem mD0 {u : am_MU} {t : Nat → Int32} {n k : Nat} (hn : n ≤ 96) (hk : k ≤ n) (ht : TM u t n) (h : ¬ (k < n ∧ isD (t k))) : f_X7_isFigure u (nI k) = some (u, 0) := by
  unfold f_X7_isFigure
  by_cases z : k < n
  · rw [ht.1, if_neg (nI_ge z (by omega)), if_pos (p_inT (by omega) (by omega)), nI_clamp (by omega), ht.2 k z]
    by_cases h1 : t k < 48
    · rw [if_pos h1]
    · rw [if_neg h1, if_pos (Decidable.not_not.mp (fun h2 => h ⟨z, h1, h2⟩))]
  · rw [ht.1, if_pos (nI_le (by omega) (by omega))]
theorem M_skip {t : Nat → Int32} {n : Nat} (hn : n ≤ 96) : ∀ (m p fu : Nat) (u : am_MU), n ≤ p + m → m < fu → p ≤ n → TM u t n → u 110 8 = nI p → ∃ u', g_X7_go_0 fu u = g_X7_go_38 u' ∧ onF [8] u u' ∧ u' 110 8 = nI (sk t n m p) := by
  intro m
  induction m with
  | zero =>
    intro p fu u h1 h2 h3 ht hp
    obtain ⟨fu, rfl⟩ : ∃ k, fu = k + 1 := ⟨fu - 1, by omega⟩
    rw [g_X7_go_0]
    dsimp only
    rw [if_pos (show u 110 7 ≤ u 110 8 by rw [ht.1, hp]; exact nI_le (by omega) (by omega))]
    exact ⟨u, rfl, onF_rf, hp⟩
  | succ m ih =>
    intro p fu u h1 h2 h3 ht hp
    obtain ⟨fu, rfl⟩ : ∃ k, fu = k + 1 := ⟨fu - 1, by omega⟩
    rw [g_X7_go_0, sk]
    dsimp only
    by_cases z : p < n
    · rw [if_neg (show ¬ u 110 7 ≤ u 110 8 by rw [ht.1, hp]; exact nI_ge z (by omega)), hp, if_pos (p_inT (by omega) (by omega)), nI_clamp (by omega)]
      by_cases z2 : t p = 32
      · rw [if_pos (show u 116 p = 32 by rw [ht.2 p z]; exact z2), if_pos (show p < n ∧ t p = 32 from ⟨z, z2⟩), p_let, nI_1]
        have o := onF_u2 (L := [8]) u 8 (nI (p + 1)) (by simp)
        obtain ⟨u', a1, a2, a3⟩ := ih (p + 1) fu (am_u2 u 110 8 (nI (p + 1))) (by omega) (by omega) (by omega) (TM_on o (by decide) ht) (u2_same _ _ _ _)
        exact ⟨u', a1, onF_tr o a2, a3⟩
      · rw [if_neg (show ¬ u 116 p = 32 by rw [ht.2 p z]; exact z2), if_neg (fun q => z2 q.2)]
        exact ⟨u, rfl, onF_rf, hp⟩
    · rw [if_pos (show u 110 7 ≤ u 110 8 by rw [ht.1, hp]; exact nI_le (by omega) (by omega)), if_neg (fun q => z q.1)]
      exact ⟨u, rfl, onF_rf, hp⟩
theorem M_let {t : Nat → Int32} {n : Nat} {fl : Int32} (hn : n ≤ 96) : ∀ (m p fu : Nat) (u : am_MU), n ≤ p + m → m < fu → p ≤ n → TM u t n → u 110 8 = nI p → ∃ u', g_X7_go_93 fu u fl = g_X7_go_127 u' (if fl = 0 then 1 else 4) ∧ onF [8] u u' ∧ u' 110 8 = nI (we t n 0 m p) := by
  intro m
  induction m with
  | zero =>
    intro p fu u h1 h2 h3 ht hp
    obtain ⟨fu, rfl⟩ : ∃ k, fu = k + 1 := ⟨fu - 1, by omega⟩
    rw [g_X7_go_93]
    dsimp only
    rw [hp, bG0 (mL0 hn h3 ht (fun q => by omega))]
    refine ⟨u, ?_, onF_rf, hp⟩
    dsimp only
    split <;> rfl
  | succ m ih =>
    intro p fu u h1 h2 h3 ht hp
    obtain ⟨fu, rfl⟩ : ∃ k, fu = k + 1 := ⟨fu - 1, by omega⟩
    rw [g_X7_go_93, we]
    dsimp only
    rw [hp]
    by_cases z : p < n ∧ isL (t p)
    · rw [bG1 (mL1 hn ht z), if_pos (show p < n ∧ cl 0 (t p) from ⟨z.1, Or.inl ⟨rfl, z.2⟩⟩)]
      dsimp only
      rw [p_let, hp, nI_1]
      have o := onF_u2 (L := [8]) u 8 (nI (p + 1)) (by simp)
      obtain ⟨u', a1, a2, a3⟩ := ih (p + 1) fu (am_u2 u 110 8 (nI (p + 1))) (by omega) (by omega) (by omega) (TM_on o (by decide) ht) (u2_same _ _ _ _)
      exact ⟨u', a1, onF_tr o a2, a3⟩
    · rw [bG0 (mL0 hn h3 ht z), if_neg (show ¬ (p < n ∧ cl 0 (t p)) from fun q => z ⟨q.1, q.2.elim (fun y => y.2) (fun y => absurd y.1 (by decide))⟩)]
      refine ⟨u, ?_, onF_rf, hp⟩
      dsimp only
      split <;> rfl
theorem M_dig {t : Nat → Int32} {n f : Nat} {fl : Int32} (hn : n ≤ 96) : ∀ (m p fu : Nat) (u : am_MU), n ≤ p + m → m < fu → p ≤ n → f ≤ p → TM u t n → u 110 8 = nI p → u 110 9 = nI f → u 110 11 = numv t f (min (p - f) 4) → ∃ u', g_X7_go_170 fu u fl = g_X7_go_261 u' (if fl = 0 ∧ we t n 1 m p - f ≤ 4 then 2 else 4) ∧ onF [8, 11] u u' ∧ u' 110 8 = nI (we t n 1 m p) ∧ u' 110 11 = numv t f (min (we t n 1 m p - f) 4) := by
  have stop : ∀ (u : am_MU) (p fu : Nat), p ≤ n → f ≤ p → TM u t n → ¬ (p < n ∧ isD (t p)) → u 110 8 = nI p → u 110 9 = nI f → g_X7_go_170 (fu + 1) u fl = g_X7_go_261 u (if fl = 0 ∧ p - f ≤ 4 then 2 else 4) := by
    intro u p fu h3 h4 ht z hp hf
    rw [g_X7_go_170]
    dsimp only
    rw [hp, bG0 (mD0 hn h3 ht z)]
    dsimp only
    have esb : u 110 8 - u 110 9 = nI (p - f) := by rw [hp, hf, pk_sub h4]
    unfold g_X7_go_256
    by_cases z1 : fl = 0
    · rw [if_pos z1]
      by_cases z2 : p - f ≤ 4
      · rw [if_pos (show u 110 8 - u 110 9 ≤ 4 by rw [esb]; exact nI_le z2 (by decide)), if_pos ⟨z1, z2⟩]
      · rw [if_neg (show ¬ u 110 8 - u 110 9 ≤ 4 by rw [esb]; exact nI_ge (show 4 < p - f by omega) (by omega)), if_neg (fun q => z2 q.2)]
    · rw [if_neg z1, if_neg (fun q => z1 q.1)]
  intro m
  induction m with
  | zero =>
    intro p fu u h1 h2 h3 h4 ht hp hf hv
    obtain ⟨fu, rfl⟩ : ∃ k, fu = k + 1 := ⟨fu - 1, by omega⟩
    exact ⟨u, stop u p fu h3 h4 ht (fun q => by omega) hp hf, onF_rf, hp, hv⟩
  | succ m ih =>
    intro p fu u h1 h2 h3 h4 ht hp hf hv
    obtain ⟨fu, rfl⟩ : ∃ k, fu = k + 1 := ⟨fu - 1, by omega⟩
    rw [we]
    by_cases z : p < n ∧ isD (t p)
    · rw [if_pos (show p < n ∧ cl 1 (t p) from ⟨z.1, Or.inr ⟨rfl, z.2⟩⟩), g_X7_go_170]
      dsimp only
      rw [hp, bG1 (mD1 hn ht z)]
      dsimp only
      have esb : u 110 8 - u 110 9 = nI (p - f) := by rw [hp, hf, pk_sub h4]
      have fin : ∀ x : Int32, x = numv t f (min (p + 1 - f) 4) → ∃ u', g_X7_go_222 (g_X7_go_170 fu) u fl x = g_X7_go_261 u' (if fl = 0 ∧ we t n 1 m (p + 1) - f ≤ 4 then 2 else 4) ∧ onF [8, 11] u u' ∧ u' 110 8 = nI (we t n 1 m (p + 1)) ∧ u' 110 11 = numv t f (min (we t n 1 m (p + 1) - f) 4) := by
        intro x hx
        unfold g_X7_go_222
        rw [p_let, p_let, f10 _ _ (by decide), hp, nI_1]
        have o := onF_tr (onF_u2 (L := [8, 11]) u 11 x (by simp)) (onF_u2 (L := [8, 11]) (am_u2 u 110 11 x) 8 (nI (p + 1)) (by simp))
        obtain ⟨u', a1, a2, a3, a4⟩ := ih (p + 1) fu (am_u2 (am_u2 u 110 11 x) 110 8 (nI (p + 1))) (by omega) (by omega) (by omega) (by omega) (TM_on o (by decide) ht) (u2_same _ _ _ _) (by rw [f10 _ _ (by decide), f10 _ _ (by decide)]; exact hf) (by rw [f10 _ _ (by decide), u2_same]; exact hx)
        exact ⟨u', a1, onF_tr o a2, a3, a4⟩
      by_cases z4 : p - f < 4
      · rw [if_neg (show ¬ (4 : Int32) ≤ u 110 8 - u 110 9 by rw [esb]; exact nI_ge z4 (by decide)), if_pos (show am_in (u 110 8) 96 = true by rw [hp]; exact p_inT (by omega) (by omega)), hp, nI_clamp (by omega), hv, ht.2 p z.1]
        refine fin _ ?_
        rw [show min (p + 1 - f) 4 = (p - f) + 1 by omega, show min (p - f) 4 = p - f by omega, numv, show f + (p - f) = p by omega, Int32.mul_comm]
      · rw [if_pos (show (4 : Int32) ≤ u 110 8 - u 110 9 by rw [esb]; exact nI_le (show 4 ≤ p - f by omega) (by omega)), hv]
        refine fin _ ?_
        rw [show min (p + 1 - f) 4 = 4 by omega, show min (p - f) 4 = 4 by omega]
    · rw [if_neg (show ¬ (p < n ∧ cl 1 (t p)) from fun q => z ⟨q.1, q.2.elim (fun y => absurd y.1 (by decide)) (fun y => y.2)⟩)]
      exact ⟨u, stop u p fu h3 h4 ht z hp hf, onF_rf, hp, hv⟩
/-- where the last word ended -/
def EB (u : am_MU) (t : Nat → Int32) (to : Nat) : Prop := (0 < to ∧ inW (t (to - 1)) → u 110 12 = nI to) ∧ (¬ (0 < to ∧ inW (t (to - 1))) → ∀ j, to ≤ j → j ≤ 96 → ¬ u 110 12 = nI j)
theorem EB_gl {u : am_MU} {t : Nat → Int32} {to f : Nat} (h : EB u t to) (h1 : to ≤ f) (h2 : f ≤ 96) : u 110 12 = nI f ↔ (0 < to ∧ f = to ∧ inW (t (to - 1))) := by
  by_cases z : 0 < to ∧ inW (t (to - 1))
  · rw [h.1 z]
    refine ⟨fun e => ⟨z.1, ((nI_eq (by omega) (by omega)).mp e).symm, z.2⟩, fun e => by rw [e.2.1]⟩
  · exact ⟨fun e => absurd e (h.2 z f h1 h2), fun e => absurd ⟨e.1, e.2.2⟩ z⟩
abbrev Gl (t : Nat → Int32) (to f : Nat) : Prop := 0 < to ∧ f = to ∧ inW (t (to - 1))
/-- the token behind to has been read -/
def GO (u : am_MU) (t : Nat → Int32) (n to : Nat) : Prop := u 110 9 = nI (sk t n n to) ∧ ((n ≤ sk t n n to ∧ u 110 10 = 0) ∨ (sk t n n to < n ∧ u 110 8 = nI (wend t n (sk t n n to)) ∧ EB u t (wend t n (sk t n n to)) ∧ ((isL (t (sk t n n to)) ∧ u 110 10 = (if Gl t to (sk t n n to) then 4 else 1) ∧ u 110 11 = t (sk t n n to)) ∨ (isD (t (sk t n n to)) ∧ u 110 10 = (if Gl t to (sk t n n to) ∨ 4 < wend t n (sk t n n to) - sk t n n to then 4 else 2) ∧ (wend t n (sk t n n to) - sk t n n to ≤ 4 → u 110 11 = numv t (sk t n n to) (wend t n (sk t n n to) - sk t n n to))) ∨ (¬ inW (t (sk t n n to)) ∧ u 110 10 = 3 ∧ u 110 11 = t (sk t n n to)))))
theorem we_step {t : Nat → Int32} {n k m p : Nat} (h : p < n ∧ cl k (t p)) : we t n k (m + 1) p = we t n k m (p + 1) := by rw [we, if_pos h]
theorem M_go {t : Nat → Int32} {n to : Nat} {u : am_MU} (hn : n ≤ 96) (ht : TM u t n) (hto : to ≤ n) (h8 : u 110 8 = nI to) (hE : EB u t to) : ∃ u', f_X7_go u = some u' ∧ onF [8, 9, 10, 11, 12] u u' ∧ GO u' t n to := by
  obtain ⟨v, a1, a2, a3⟩ := M_skip hn n to 1700 u (by omega) (by omega) hto ht h8
  have g1 := sk_ge (t := t) (n := n) n to
  have g2 := sk_le (t := t) (n := n) n to hto
  have tv := TM_on a2 (by decide) ht
  unfold GO
  obtain ⟨f, hf⟩ : ∃ f, f = sk t n n to := ⟨_, rfl⟩
  rw [← hf] at a3 g1 g2 ⊢
  have a1 : f_X7_go u = g_X7_go_38 v := a1
  rw [a1]
  unfold g_X7_go_38
  rw [p_let, a3]
  obtain ⟨w, hw⟩ : ∃ w, w = am_u2 v 110 9 (nI f) := ⟨_, rfl⟩
  rw [← hw]
  have o9 : onF [8, 9, 10, 11, 12] u w := by rw [hw]; exact onF_tr (onF_mono a2 (by simp)) (onF_u2 _ _ _ (by simp))
  have w9 : w 110 9 = nI f := by rw [hw]; exact u2_same _ _ _ _
  have w8 : w 110 8 = nI f := by rw [hw, f10 _ _ (by decide)]; exact a3
  have w12 : w 110 12 = u 110 12 := by rw [hw, f10 _ _ (by decide)]; exact a2.2 12 (by decide)
  have tw : TM w t n := TM_on o9 (by decide) ht
  have gl := EB_gl hE g1 (show f ≤ 96 by omega)
  have body : ∀ fl : Int32, ((fl = 1 ∧ Gl t to f) ∨ (fl = 0 ∧ ¬ Gl t to f)) → ∃ u', g_X7_go_62 w fl = some u' ∧ onF [8, 9, 10, 11, 12] u u' ∧ u' 110 9 = nI f ∧ ((n ≤ f ∧ u' 110 10 = 0) ∨ (f < n ∧ u' 110 8 = nI (wend t n f) ∧ EB u' t (wend t n f) ∧ ((isL (t f) ∧ u' 110 10 = (if Gl t to f then 4 else 1) ∧ u' 110 11 = t f) ∨ (isD (t f) ∧ u' 110 10 = (if Gl t to f ∨ 4 < wend t n f - f then 4 else 2) ∧ (wend t n f - f ≤ 4 → u' 110 11 = numv t f (wend t n f - f))) ∨ (¬ inW (t f) ∧ u' 110 10 = 3 ∧ u' 110 11 = t f)))) := by
    intro fl hfl
    unfold g_X7_go_62
    by_cases z : f < n
    · have w1 := wend_gt t n f
      have w2 := wend_le (t := t) z
      rw [if_neg (show ¬ w 110 9 = w 110 7 by rw [w9, tw.1]; exact nIne (by omega) (by omega) (by omega)), w9]
      have EBw : ∀ v' : am_MU, v' 110 12 = nI (wend t n f) → inW (t f) → EB v' t (wend t n f) := fun v' hv' hi =>
        ⟨fun _ => hv', fun q => absurd ⟨by omega, wend_last.mpr hi⟩ q⟩
      by_cases l : isL (t f)
      · rw [bG1 (mL1 hn tw ⟨z, l⟩)]
        dsimp only
        obtain ⟨x, b1, b2, b3⟩ := M_let (fl := fl) hn (n + 1) f 1700 w (by omega) (by omega) (by omega) tw w8
        have ew : we t n 0 (n + 1) f = wend t n f := by unfold wend; rw [if_pos l, we_step ⟨z, Or.inl ⟨rfl, l⟩⟩]
        rw [ew] at b3
        have x9 : x 110 9 = nI f := by rw [b2.2 9 (by decide)]; exact w9
        rw [b1]
        unfold g_X7_go_127
        rw [p_let, f10 _ _ (by decide), x9, if_pos (p_inT (by omega) (by omega)), nI_clamp (by omega), p_let, p_let]
        have x116 : am_u2 x 110 10 (if fl = 0 then 1 else 4) 116 f = t f := by rw [u2_ne _ _ (by decide), b2.1 116 (by decide)]; exact tw.2 f z
        rw [x116, f10 _ _ (by decide), f10 _ _ (by decide), b3]
        refine ⟨_, rfl, ?_, ?_, Or.inr ⟨z, ?_, EBw _ (u2_same _ _ _ _) (Or.inl l), Or.inl ⟨l, ?_, ?_⟩⟩⟩
        · exact onF_tr o9 (onF_tr (onF_mono b2 (by simp)) (onF_tr (onF_u2 _ _ _ (by simp)) (onF_tr (onF_u2 _ _ _ (by simp)) (onF_u2 _ _ _ (by simp)))))
        · rw [f10 _ _ (by decide), f10 _ _ (by decide), f10 _ _ (by decide)]; exact x9
        · rw [f10 _ _ (by decide), f10 _ _ (by decide), f10 _ _ (by decide)]; exact b3
        · rw [f10 _ _ (by decide), f10 _ _ (by decide), u2_same]
          rcases hfl with ⟨q1, q2⟩ | ⟨q1, q2⟩
          · rw [if_neg (by rw [q1]; decide), if_pos q2]
          · rw [if_pos q1, if_neg q2]
        · rw [f10 _ _ (by decide), u2_same]
      · rw [bG0 (mL0 hn (by omega) tw (fun q => l q.2))]
        dsimp only
        rw [w9]
        by_cases d : isD (t f)
        · rw [bG1 (mD1 hn tw ⟨z, d⟩)]
          dsimp only
          rw [p_let]
          have o11 := onF_u2 (L := [8, 9, 10, 11, 12]) w 11 0 (by simp)
          obtain ⟨x, b1, b2, b3, b4⟩ := M_dig (fl := fl) (f := f) hn (n + 1) f 1700 (am_u2 w 110 11 0) (by omega) (by omega) (by omega) (Nat.le_refl _) (TM_on o11 (by decide) tw) (by rw [f10 _ _ (by decide)]; exact w8) (by rw [f10 _ _ (by decide)]; exact w9) (by rw [u2_same, Nat.sub_self]; rfl)
          have ew : we t n 1 (n + 1) f = wend t n f := by unfold wend; rw [if_neg l, if_pos d, we_step ⟨z, Or.inr ⟨rfl, d⟩⟩]
          rw [ew] at b1 b3 b4
          have x9 : x 110 9 = nI f := by rw [b2.2 9 (by decide), f10 _ _ (by decide)]; exact w9
          rw [b1]
          unfold g_X7_go_261
          rw [p_let, p_let, f10 _ _ (by decide), b3]
          refine ⟨_, rfl, ?_, ?_, Or.inr ⟨z, ?_, EBw _ (u2_same _ _ _ _) (Or.inr d), Or.inr (Or.inl ⟨d, ?_, fun h4 => ?_⟩)⟩⟩
          · exact onF_tr o9 (onF_tr o11 (onF_tr (onF_mono b2 (by simp)) (onF_tr (onF_u2 _ _ _ (by simp)) (onF_u2 _ _ _ (by simp)))))
          · rw [f10 _ _ (by decide), f10 _ _ (by decide)]; exact x9
          · rw [f10 _ _ (by decide), f10 _ _ (by decide)]; exact b3
          · rw [f10 _ _ (by decide), u2_same]
            rcases hfl with ⟨q1, q2⟩ | ⟨q1, q2⟩
            · rw [if_neg (fun y => by rw [q1] at y; exact absurd y.1 (by decide)), if_pos (Or.inl q2)]
            · by_cases h4 : wend t n f - f ≤ 4
              · rw [if_pos ⟨q1, h4⟩, if_neg (fun y => y.elim q2 (fun y => by omega))]
              · rw [if_neg (fun y => h4 y.2), if_pos (Or.inr (by omega))]
          · rw [f10 _ _ (by decide), f10 _ _ (by decide), b4, show min (wend t n f - f) 4 = wend t n f - f by omega]
        · rw [bG0 (mD0 hn (by omega) tw (fun q => d q.2))]
          dsimp only
          have ew : wend t n f = f + 1 := by unfold wend; rw [if_neg l, if_neg d]
          rw [p_let, f10 _ _ (by decide), w9, if_pos (p_inT (by omega) (by omega)), nI_clamp (by omega), p_let, p_let, u2_ne _ _ (show 116 ≠ 110 by decide), tw.2 f z, f10 _ _ (by decide), f10 _ _ (by decide), w8, nI_1]
          have hE2 : ∀ v' : am_MU, v' 110 12 = w 110 12 → EB v' t (f + 1) := fun v' hv' => by
            refine ⟨fun q => ?_, fun _ j h1 h2 => ?_⟩
            · have q2 : inW (t f) := q.2
              exact absurd q2 (fun y => y.elim l d)
            · rw [hv', w12]
              intro e
              have hz := (EB_gl hE (show to ≤ j by omega) h2).mp e
              omega
          refine ⟨_, rfl, ?_, ?_, Or.inr ⟨z, ?_, ?_, Or.inr (Or.inr ⟨fun y => y.elim l d, ?_, ?_⟩)⟩⟩
          · exact onF_tr o9 (onF_tr (onF_u2 _ _ _ (by simp)) (onF_tr (onF_u2 _ _ _ (by simp)) (onF_u2 _ _ _ (by simp))))
          · rw [f10 _ _ (by decide), f10 _ _ (by decide), f10 _ _ (by decide)]; exact w9
          · rw [u2_same, ew]
          · rw [ew]
            exact hE2 _ (by rw [f10 _ _ (by decide), f10 _ _ (by decide), f10 _ _ (by decide)])
          · rw [f10 _ _ (by decide), f10 _ _ (by decide), u2_same]
          · rw [f10 _ _ (by decide), u2_same]
    · rw [if_pos (show w 110 9 = w 110 7 by rw [w9, tw.1, show f = n by omega]), p_let]
      refine ⟨_, rfl, onF_tr o9 (onF_u2 _ _ _ (by simp)), ?_, Or.inl ⟨by omega, u2_same _ _ _ _⟩⟩
      rw [f10 _ _ (by decide)]; exact w9
  by_cases g : u 110 12 = nI f
  · rw [if_pos (show w 110 9 = w 110 12 by rw [w9, w12, g])]
    exact body 1 (Or.inl ⟨rfl, gl.mp g⟩)
  · rw [if_neg (show ¬ w 110 9 = w 110 12 by rw [w9, w12]; exact fun e => g e.symm)]
    exact body 0 (Or.inr ⟨rfl, fun q => g (gl.mpr q)⟩)
