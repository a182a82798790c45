/-! the reference's reader reads as the abstract one -/
theorem EB_congr {u v : am_MU} {t : Nat → Int32} {e : Nat} (h : v 110 12 = u 110 12) (q : EB u t e) : EB v t e := ⟨fun y => by rw [h]; exact q.1 y, fun y j h1 h2 => by rw [h]; exact q.2 y j h1 h2⟩
theorem TM_congr {u v : am_MU} {t : Nat → Int32} {n : Nat} (h : onR u v) (q : TM u t n) : TM v t n := ⟨by rw [h.2 7 (by decide)]; exact q.1, fun k hk => by rw [h.1 116 (by decide) (by decide) (by decide) (by decide)]; exact q.2 k hk⟩
theorem M_next {t : Nat → Int32} {n e : Nat} {v : am_MU} {c : Nat → Int32} {n0 l : Nat} {w : List Int32} (hn : n ≤ 96) (tv : TM v t n) (he : e ≤ n) (h8 : v 110 8 = nI e) (hE : EB v t e) (hq : MQr v c n0 l w) : ∃ x, f_X7_go v = some x ∧ onR v x ∧ GO x t n e ∧ TM x t n ∧ MQr x c n0 l w ∧ x 110 13 = v 110 13 := by
  obtain ⟨x, a1, a2, a3⟩ := M_go hn tv he h8 hE
  exact ⟨x, a1, onR_F a2 (by simp), a3, TM_on a2 (by decide) tv, MQ_F a2 (by decide) (by decide) (by decide) hq, a2.2 13 (by decide)⟩
theorem M_leaf {t : Nat → Int32} {n e : Nat} {u : am_MU} {c : Nat → Int32} {n0 l : Nat} {w : List Int32} {x : Int32} (hn : n ≤ 96) (tu : TM u t n) (he : e ≤ n) (h8 : u 110 8 = nI e) (hE : EB u t e) (hq : MQr u c n0 l w) (hw : Dw w) (hl : n0 + w.length + 1 ≤ 96) : ∃ x', g_X7_takesPart_87 u (nI n0) x = some (x', 1) ∧ onR u x' ∧ TM x' t n ∧ GO x' t n e ∧ MQr x' (stl 6 w (upd c n0 x) (n0 + 1)).2.1 (stl 6 w (upd c n0 x) (n0 + 1)).2.2 (l + 1) (stl 6 w (upd c n0 x) (n0 + 1)).1 ∧ x' 110 13 = u 110 13 := by
  obtain ⟨q1, q2, q3, q4, q5, q6, q7⟩ := id hq
  obtain ⟨v1, hv1⟩ : ∃ v, v = am_u2 u 119 n0 x := ⟨_, rfl⟩
  have v17 : v1 110 = u 110 := by rw [hv1]; exact u2_ne _ _ (by decide)
  obtain ⟨v2, hv2⟩ : ∃ v, v = am_u2 v1 110 17 (nI (n0 + 1)) := ⟨_, rfl⟩
  obtain ⟨v3, hv3⟩ : ∃ v, v = am_u2 v2 110 18 (nI (l + 1)) := ⟨_, rfl⟩
  have o3 : ∀ j, j ≠ 17 → j ≠ 18 → v3 110 j = u 110 j := fun j h1 h2 => by rw [hv3, f10 _ _ h2, hv2, f10 _ _ h1, v17]
  have r3 : ∀ a, a ≠ 110 → a ≠ 119 → v3 a = u a := fun a h1 h2 => by rw [hv3, u2_ne _ _ h1, hv2, u2_ne _ _ h1, hv1, u2_ne _ _ h2]
  have or3 : onR u v3 := ⟨fun a h1 h2 _ _ => r3 a h1 h2, fun j hj => o3 j (fun e => hj (by rw [e]; decide)) (fun e => hj (by rw [e]; decide))⟩
  have hA : MA v3 (upd c n0 x) (n0 + 1) (l + 1) w := by
    refine ⟨by rw [hv3, f10 _ _ (by decide), hv2]; exact u2_same _ _ _ _, by rw [hv3]; exact u2_same _ _ _ _, fun k hk => ?_, by rw [o3 20 (by decide) (by decide)]; exact q4, by rw [r3 120 (by decide) (by decide)]; exact q5⟩
    rw [hv3, u2_ne _ _ (by decide), hv2, u2_ne _ _ (by decide), hv1, u2_row]
    by_cases e : k = n0
    · rw [e, upd_sm, upd_sm]
    · rw [upd_ne e, upd_ne e]; exact q3 k (by omega)
  obtain ⟨v4, b1, b2, b3, b4, b5⟩ := M_settle (r := 6) (by decide) (by omega) hA
  have hQ : MQr v4 (stl 6 w (upd c n0 x) (n0 + 1)).2.1 (stl 6 w (upd c n0 x) (n0 + 1)).2.2 (l + 1) (stl 6 w (upd c n0 x) (n0 + 1)).1 := MQ_of b5 (by rw [b4, r3 121 (by decide) (by decide)]; exact TT_stl w _ _ q6) (by rw [b4, r3 121 (by decide) (by decide), lv_stl, h3_stl6 w _ _ hw]; exact q7)
  have or4 := onR_tr or3 b2
  obtain ⟨x', d1, d2, d3, d4, d5, d6⟩ := M_next hn (TM_congr or4 tu) he (by rw [b3 8 (by decide), o3 8 (by decide) (by decide)]; exact h8) (EB_congr (by rw [b3 12 (by decide), o3 12 (by decide) (by decide)]) hE) hQ
  refine ⟨x', ?_, onR_tr or4 d2, d4, d3, d5, by rw [d6]; exact or4.2 13 (by decide)⟩
  unfold g_X7_takesPart_87
  rw [if_pos (p_inT (by omega) (by omega)), nI_clamp (by omega), p_let, ← hv1, p_let, v17, q1, nI_1, ← hv2, p_let, hv2, f10 _ _ (by decide), v17, q2, nI_1, ← hv2, ← hv3]
  have b1 : f_X7_settle v3 6 = some v4 := b1
  rw [b1, p_some, d1, p_some]
theorem part0 {u : am_MU} (h1 : ¬ u 110 10 = 1) (h2 : ¬ u 110 10 = 2) : f_X7_takesPart u = some (u, 0) := by
  unfold f_X7_takesPart
  rw [if_neg h1]
  unfold g_X7_takesPart_36 g_X7_takesPart_37
  rw [if_neg h2, if_pos rfl]
theorem bad158 {K : am_MU → Int32 → Int32 → Int32 → Option (am_MU × Int32)} {u : am_MU} {l1 : Int32} (h : f_X7_takesPart u = some (u, 0)) : g_X7_takesE_158 K u l1 = some (u, 0) := by
  unfold g_X7_takesE_158
  rw [bG0 h]
theorem opOf_L : ∀ q, q < 26 → opOf (nI (97 + q)) = 0 ∧ ¬ nI (97 + q) = 41 := by decide +kernel
theorem opOf_D : ∀ q, q < 10 → opOf (nI (48 + q)) = 0 ∧ ¬ nI (48 + q) = 41 := by decide +kernel
theorem opOf_W {c : Int32} (h : inW c) : opOf c = 0 ∧ ¬ c = 41 := by
  rcases h with h | h
  · obtain ⟨q, h1, h2⟩ := lt_nI h
    rw [h2]; exact opOf_L q h1
  · obtain ⟨q, h1, h2⟩ := dg_nI h
    rw [h2]; exact opOf_D q h1
theorem nN_stl {r : Nat} : ∀ (w : List Int32) (c : Nat → Int32) (n : Nat), Dw w → ¬ hd w = -10 → nN (stl r w c n).1 = nN w := by
  intro w
  induction w with
  | nil => intro c n _ _; rfl
  | cons x w ih =>
    intro c n h1 h2
    rw [stl]
    by_cases z : x = -11 ∨ rk x < r
    · rw [if_pos z]
    · rw [if_neg z]
      rcases h1.2 with q | q | q
      · rw [ih _ _ h1.1 q.2.1, nN, if_neg (opB_rk q.1).2.2.2]; rfl
      · exact absurd (Or.inl q) z
      · exact absurd q h2
theorem nN_le : ∀ w : List Int32, nN w ≤ w.length := by
  intro w
  induction w with
  | nil => exact Nat.le_refl _
  | cons x w ih => rw [nN, List.length_cons]; split <;> omega
theorem b2i_nar (b : Bool) : vp_nar .boolean (b2i b) = b2i b := by
  cases b with
  | false => exact vb0
  | true => exact vb1
theorem b2i_0 (b : Bool) : b2i b = 0 ↔ b = false := by cases b <;> decide
/-- what a run of the reference's must show -/
def MRes (u : am_MU) (o : Nat × Option PS) (x : Option (am_MU × Int32)) : Prop := ∃ u', x = some (u', if o.2.isSome = true then 1 else 0) ∧ onR u u' ∧ (o.2 = none → u' 110 9 = nI o.1) ∧ ∀ s', o.2 = some s' → MA u' s'.c s'.n s'.l s'.w
theorem MRes_bad {u : am_MU} {f : Nat} {x : Option (am_MU × Int32)} (h : x = some (u, 0)) (h9 : u 110 9 = nI f) : MRes u (f, none) x := ⟨u, h, onR_rf, fun _ => h9, fun s' q => absurd q (by simp)⟩
theorem MRes_tr {u v : am_MU} {o : Nat × Option PS} {x : Option (am_MU × Int32)} (h : onR u v) (q : MRes v o x) : MRes u o x := by
  obtain ⟨u', a1, a2, a3, a4⟩ := q
  exact ⟨u', a1, onR_tr h a2, a3, a4⟩
theorem M_run {t : Nat → Int32} {n key : Nat} (hk : key < 3) (hn : n ≤ 96) : ∀ (m to fu : Nat) (u : am_MU) (s : PS), n < to + m → to ≤ n → m < fu → TM u t n → GO u t n to → u 110 13 = nI key → MQr u s.c s.n s.l s.w → PI key to s → MRes u (runP t n key m to s) (g_X7_takesE_28 fu u (nI (lvW s.w)) (nI (nN s.w)) (if s.d = true then 1 else 0)) := by
  intro m
  induction m with
  | zero => intro to fu u s h1 h2; omega
  | succ m ih =>
    intro to fu u s h1 h2 h3 tu hG hkey hQ hP
    obtain ⟨fu, rfl⟩ : ∃ k, fu = k + 1 := ⟨fu - 1, by omega⟩
    have hto : 4 ≤ to := by have := hP.1; omega
    have g1 := sk_ge (t := t) (n := n) n to
    have g2 := sk_le (t := t) (n := n) n to h2
    unfold GO at hG
    rw [runP]
    obtain ⟨f, hf⟩ : ∃ f, f = sk t n n to := ⟨_, rfl⟩
    rw [← hf] at g1 g2 hG ⊢
    obtain ⟨u9, hG⟩ := hG
    obtain ⟨p1, p2, p3, p4, p5, p6, p7⟩ := id hP
    obtain ⟨q1, q2, q3, q4, q5, q6, q7⟩ := id hQ
    rw [g_X7_takesE_28]
    dsimp only
    rcases hG with ⟨zn, u10⟩ | ⟨z, u8, hE, hG⟩
    · -- the tape's end
      rw [if_pos zn]
      have e0 : f = n := by omega
      by_cases hd1 : s.d = true
      · rw [if_pos hd1, if_neg (show ¬ (1 : Int32) = 0 by decide), if_pos (Or.inl hd1)]
        refine MRes_bad ?_ (by rw [u9, e0])
        have n3 : ¬ u 110 10 = 3 := by rw [u10]; decide
        unfold g_X7_takesE_39
        rw [if_neg (show ¬ (1 : Int32) = 0 by decide), if_neg n3]
        unfold g_X7_takesE_97
        rw [if_neg n3]
        exact bad158 (part0 (by rw [u10]; decide) (by rw [u10]; decide))
      · rw [if_neg hd1, if_pos rfl, if_pos u10]
        obtain ⟨v, a1, a2, a3, a4, a5⟩ := M_settle (r := 0) (by decide) (by omega) (MA_of hQ)
        have a1 : f_X7_settle u 0 = some v := a1
        rw [a1, p_some]
        by_cases hl : lvW s.w = 0
        · rw [if_neg (show ¬ (s.d = true ∨ ¬ lvW s.w = 0) from fun q => q.elim hd1 (fun q => q hl)), if_pos (show nI (lvW s.w) = 0 by rw [hl]; rfl)]
          exact ⟨v, rfl, a2, fun q => absurd q (by simp), fun s' q => by have q : endS s = s' := by injection q
                                                                         rw [← q]; exact a5⟩
        · rw [if_pos (Or.inr hl), if_neg (nI_ne0 (by omega) (by omega))]
          exact ⟨v, rfl, a2, fun _ => by rw [a3 9 (by decide), u9, e0], fun s' q => absurd q (by simp)⟩
    · -- a token
      rw [if_neg (show ¬ n ≤ f by omega)]
      have w1 := wend_gt t n f
      have w2 := wend_le (t := t) z
      have hPs := fun s' => PI_step (t := t) (n := n) (s' := s') hk hP g1 z
      obtain ⟨e, he⟩ : ∃ e, e = wend t n f := ⟨_, rfl⟩
      rw [← he] at w1 w2 hPs hG u8 hE ⊢
      have esub : u 110 8 - u 110 9 = nI (e - f) := by rw [u8, u9, pk_sub (by omega)]
      -- the loop goes on behind a token
      have nxt : ∀ (x : am_MU) (s' : PS), onR u x → TM x t n → GO x t n e → x 110 13 = nI key → MQr x s'.c s'.n s'.l s'.w → PI key e s' → MRes u (runP t n key m e s') (g_X7_takesE_28 fu x (nI (lvW s'.w)) (nI (nN s'.w)) (if s'.d = true then 1 else 0)) := fun x s' o tx gx kx qx px =>
        MRes_tr o (ih e fu x s' (by omega) w2 (by omega) tx gx kx qx px)
      by_cases hd1 : s.d = true
      · rw [if_pos hd1, if_neg (show ¬ (1 : Int32) = 0 by decide)]
        unfold g_X7_takesE_39
        rw [if_neg (show ¬ (1 : Int32) = 0 by decide)]
        have es : stepS t key to f e s = (if f = to ∧ inW (t (to - 1)) ∧ inW (t f) then none else pieceS t key f e s) := by unfold stepS; rw [if_pos hd1]
        have bad : ∀ x : Option (am_MU × Int32), x = some (u, 0) → stepS t key to f e s = none → MRes u (match stepS t key to f e s with | none => (f, none) | some s' => runP t n key m e s') x := fun x hx hs => by rw [hs]; exact MRes_bad hx u9
        -- leaves
        have leaf : ∀ y : Int32, stepS t key to f e s = some (leafS y s) → f_X7_takesPart u = g_X7_takesPart_87 u (u 110 17) y → MRes u (match stepS t key to f e s with | none => (f, none) | some s' => runP t n key m e s') (g_X7_takesE_158 (g_X7_takesE_28 fu) u (nI (lvW s.w))) := by
          intro y hs hp
          have hp' := hPs _ hs
          rw [hs]
          obtain ⟨x, a1, a2, a3, a4, a5, a6⟩ := M_leaf (x := y) hn tu w2 u8 hE hQ p2 (by omega)
          unfold g_X7_takesE_158
          rw [bG1 (by rw [hp, q1]; exact a1)]
          unfold g_X7_takesE_172
          have hl := hp'.1
          rw [M_nots (MA_of a5) (by have : (stl 6 s.w (upd s.c s.n y) (s.n + 1)).2.2 + (stl 6 s.w (upd s.c s.n y) (s.n + 1)).1.length + 4 ≤ e := hl
                                    omega), p_some]
          have := nxt x (leafS y s) a2 a3 a4 (by rw [a6]; exact hkey) a5 hp'
          have el : lvW (leafS y s).w = lvW s.w := lv_stl s.w _ _
          rw [el] at this
          exact this
        rcases hG with ⟨l, u10, u11⟩ | ⟨d, u10, u11⟩ | ⟨nw, u10, u11⟩
        · -- a word
          have n3 : ¬ u 110 10 = 3 := by rw [u10]; split <;> decide
          rw [if_neg n3]
          unfold g_X7_takesE_97
          rw [if_neg n3]
          by_cases gl : Gl t to f
          · rw [if_pos gl] at u10
            exact bad _ (bad158 (part0 (by rw [u10]; decide) (by rw [u10]; decide))) (by rw [es, if_pos ⟨gl.2.1, gl.2.2, Or.inl l⟩])
          · rw [if_neg gl] at u10
            have ng : ¬ (f = to ∧ inW (t (to - 1)) ∧ inW (t f)) := fun q => gl ⟨by omega, q.1, q.2.1⟩
            have ep : pieceS t key f e s = (if e - f = 1 then (if nmI key (t f) < 0 then none else some (leafS (10000 + nmI key (t f)) s)) else none) := by unfold pieceS; rw [if_neg (LD l), if_pos l]
            rw [if_neg ng, ep] at es
            have n2 : ¬ u 110 10 = 2 := by rw [u10]; decide
            by_cases z3 : e - f = 1
            · rw [if_pos z3] at es
              by_cases z4 : nmI key (t f) < 0
              · rw [if_pos z4] at es
                refine bad _ (bad158 ?_) es
                unfold f_X7_takesPart
                rw [if_pos u10, if_pos (show u 110 8 - u 110 9 = 1 by rw [esub, z3]; rfl), u11, p_name u hk hkey, p_some]
                dsimp only
                rw [if_pos z4]
                unfold g_X7_takesPart_36 g_X7_takesPart_37
                rw [if_neg n2, if_pos rfl]
              · rw [if_neg z4] at es
                refine leaf _ es ?_
                unfold f_X7_takesPart
                rw [if_pos u10, if_pos (show u 110 8 - u 110 9 = 1 by rw [esub, z3]; rfl), u11, p_name u hk hkey, p_some]
                dsimp only
                rw [if_neg z4]
                unfold g_X7_takesPart_37
                rw [if_neg n2, if_neg (show ¬ (1 : Int32) = 0 by decide)]
                unfold g_X7_takesPart_52
                rw [if_neg n2, u11, p_name u hk hkey, p_some]
            · rw [if_neg z3] at es
              refine bad _ (bad158 ?_) es
              unfold f_X7_takesPart
              rw [if_pos u10, if_neg (show ¬ u 110 8 - u 110 9 = 1 by rw [esub]; exact nIne z3 (by omega) (by decide))]
              unfold g_X7_takesPart_36 g_X7_takesPart_37
              rw [if_neg n2, if_pos rfl]
        · -- a number
          have n3 : ¬ u 110 10 = 3 := by rw [u10]; split <;> decide
          rw [if_neg n3]
          unfold g_X7_takesE_97
          rw [if_neg n3]
          by_cases gl : Gl t to f
          · rw [if_pos (Or.inl gl)] at u10
            exact bad _ (bad158 (part0 (by rw [u10]; decide) (by rw [u10]; decide))) (by rw [es, if_pos ⟨gl.2.1, gl.2.2, Or.inr d⟩])
          · have ng : ¬ (f = to ∧ inW (t (to - 1)) ∧ inW (t f)) := fun q => gl ⟨by omega, q.1, q.2.1⟩
            have ep : pieceS t key f e s = (if e - f ≤ 4 then some (leafS (numv t f (e - f)) s) else none) := by unfold pieceS; rw [if_pos d]
            rw [if_neg ng, ep] at es
            by_cases z4 : e - f ≤ 4
            · rw [if_pos z4] at es
              rw [if_neg (fun y => y.elim gl (fun y => by omega))] at u10
              refine leaf _ es ?_
              unfold f_X7_takesPart
              rw [if_neg (by rw [u10]; decide)]
              unfold g_X7_takesPart_36 g_X7_takesPart_37
              rw [if_pos u10]
              unfold g_X7_takesPart_52
              rw [if_pos u10, u11 z4]
            · rw [if_neg z4] at es
              rw [if_pos (Or.inr (by omega))] at u10
              exact bad _ (bad158 (part0 (by rw [u10]; decide) (by rw [u10]; decide))) es
        · -- a sign
          have ng : ¬ (f = to ∧ inW (t (to - 1)) ∧ inW (t f)) := fun q => nw q.2.2
          have ep : pieceS t key f e s = (if t f = 33 then (if nN s.w < 8 then some (pushS (-10) s) else none) else if t f = 40 then (if lvW s.w < 8 then some (pushS (-11) s) else none) else none) := by unfold pieceS; rw [if_neg (fun y => nw (Or.inr y)), if_neg (fun y => nw (Or.inl y))]
          rw [if_neg ng, ep] at es
          have f158 : g_X7_takesE_158 (g_X7_takesE_28 fu) u (nI (lvW s.w)) = some (u, 0) := bad158 (part0 (by rw [u10]; decide) (by rw [u10]; decide))
          rw [if_pos u10]
          by_cases z33 : t f = 33
          · rw [if_pos z33] at es
            rw [if_pos (show u 110 11 = 33 by rw [u11]; exact z33)]
            by_cases z8 : nN s.w < 8
            · rw [if_pos z8] at es
              have hp' := hPs _ es
              rw [if_neg (show ¬ (8 : Int32) ≤ nI (nN s.w) from nI_ge z8 (by decide)), q4, if_pos (p_inT (by omega) (by omega)), nI_clamp (by omega), p_let, p_let, u2_ne _ _ (show 110 ≠ 120 by decide), q4, nI_1 s.w.length, p_let, es]
              obtain ⟨b1, b2, b3, b4⟩ := MA_push (x := -10) (MA_of hQ)
              have hq2 : MQr _ s.c s.n s.l (-10 :: s.w) := MQ_of b1 (by rw [b4]; exact ⟨q6, fun y => absurd y (by decide)⟩) (by rw [b4, lvW, if_neg (by decide), Nat.add_zero, h3b, if_neg (by decide), if_pos rfl]; exact q7)
              obtain ⟨x, d1, d2, d3, d4, d5, d6⟩ := M_next hn (TM_congr b2 tu) w2 (by rw [b3 8 (by decide)]; exact u8) (EB_congr (b3 12 (by decide)) hE) hq2
              rw [d1, p_some]
              unfold g_X7_takesE_172
              rw [M_nots (MA_of d5) (by rw [List.length_cons]; omega), p_some]
              have := nxt x (pushS (-10) s) (onR_tr b2 d2) d4 d3 (by rw [d6, b3 13 (by decide)]; exact hkey) d5 hp'
              have el : lvW (pushS (-10) s).w = lvW s.w := by show lvW (-10 :: s.w) = _; rw [lvW, if_neg (by decide)]; rfl
              rw [el] at this
              exact this
            · rw [if_neg z8] at es
              rw [if_pos (show (8 : Int32) ≤ nI (nN s.w) from nI_le (show 8 ≤ nN s.w by omega) (by omega))]
              unfold g_X7_takesE_97
              rw [if_pos u10, if_neg (show ¬ u 110 11 = 40 by rw [u11, z33]; decide)]
              exact bad _ f158 es
          · rw [if_neg z33] at es
            rw [if_neg (show ¬ u 110 11 = 33 by rw [u11]; exact z33)]
            unfold g_X7_takesE_97
            rw [if_pos u10]
            by_cases z40 : t f = 40
            · rw [if_pos z40] at es
              rw [if_pos (show u 110 11 = 40 by rw [u11]; exact z40)]
              by_cases z8 : lvW s.w < 8
              · rw [if_pos z8] at es
                have hp' := hPs _ es
                rw [if_neg (show ¬ (8 : Int32) ≤ nI (lvW s.w) from nI_ge z8 (by decide)), q4, if_pos (p_inT (by omega) (by omega)), nI_clamp (by omega), p_let, p_let, u2_ne _ _ (show 110 ≠ 120 by decide), q4, nI_1, p_let, nI_1, if_pos (p_inT (by omega) (by omega)), nI_clamp (by omega), p_let, vb0, es]
                obtain ⟨b1, b2, b3, b4⟩ := MA_push (x := -11) (MA_of hQ)
                obtain ⟨v, hv⟩ : ∃ v, v = am_u2 (am_u2 (am_u2 u 120 s.w.length (-11)) 110 20 (nI (s.w.length + 1))) 121 (lvW s.w + 1) 0 := ⟨_, rfl⟩
                rw [← hv]
                have v110 : v 110 = am_u2 (am_u2 u 120 s.w.length (-11)) 110 20 (nI (s.w.length + 1)) 110 := by rw [hv]; exact u2_ne _ _ (by decide)
                have v121 : v 121 = upd (u 121) (lvW s.w + 1) 0 := by rw [hv, u2_row, b4]
                have hA : MA v s.c s.n s.l (-11 :: s.w) := by
                  obtain ⟨c1, c2, c3, c4, c5⟩ := b1
                  exact ⟨by rw [v110]; exact c1, by rw [v110]; exact c2, fun k hk => by rw [hv, u2_ne _ _ (by decide)]; exact c3 k hk, by rw [v110]; exact c4, by rw [hv, u2_ne _ _ (by decide)]; exact c5⟩
                have hq2 : MQr v s.c s.n s.l (-11 :: s.w) := MQ_of hA (by rw [v121]; exact ⟨TT_upd s.w (by omega) q6, fun _ => by rw [upd_ne (by omega)]; exact q7⟩) (by rw [v121, lvW, if_pos rfl, upd_sm, h3b, if_pos rfl]; rfl)
                have ov : onR u v := by rw [hv]; exact onR_tr b2 (onR_row _ _ (Or.inr (Or.inr rfl)))
                obtain ⟨x, d1, d2, d3, d4, d5, d6⟩ := M_next hn (TM_congr ov tu) w2 (by rw [v110, b3 8 (by decide)]; exact u8) (EB_congr (by rw [v110, b3 12 (by decide)]) hE) hq2
                rw [d1, p_some]
                unfold g_X7_takesE_172
                rw [M_nots (MA_of d5) (by rw [List.length_cons]; omega), p_some]
                have := nxt x (pushS (-11) s) (onR_tr ov d2) d4 d3 (by rw [d6, v110, b3 13 (by decide)]; exact hkey) d5 hp'
                have el : lvW (pushS (-11) s).w = lvW s.w + 1 := by show lvW (-11 :: s.w) = _; rw [lvW, if_pos rfl]
                rw [el] at this
                exact this
              · rw [if_neg z8] at es
                rw [if_pos (show (8 : Int32) ≤ nI (lvW s.w) from nI_le (show 8 ≤ lvW s.w by omega) (by omega))]
                exact bad _ f158 es
            · rw [if_neg z40] at es
              rw [if_neg (show ¬ u 110 11 = 40 by rw [u11]; exact z40)]
              exact bad _ f158 es
      · have hd2 : s.d = false := by cases h : s.d; · rfl
                                     · exact absurd h hd1
        have hh := p3 hd2
        have es : stepS t key to f e s = signS (t f) s := by unfold stepS; rw [if_neg hd1]
        rw [es] at hPs ⊢
        have bad : ∀ x : Option (am_MU × Int32), x = some (u, 0) → signS (t f) s = none → MRes u (match signS (t f) s with | none => (f, none) | some s' => runP t n key m e s') x := fun x hx hs => by rw [hs]; exact MRes_bad hx u9
        have n0 : ¬ u 110 10 = 0 := by
          rcases hG with ⟨_, q, _⟩ | ⟨_, q, _⟩ | ⟨_, q, _⟩
          · rw [q]; split <;> decide
          · rw [q]; split <;> decide
          · rw [q]; decide
        rw [if_neg hd1, if_pos rfl, if_neg n0]
        unfold g_X7_takesE_39
        rw [if_pos rfl]
        by_cases nw : inW (t f)
        · have n3 : ¬ u 110 10 = 3 := by
            rcases hG with ⟨_, q, _⟩ | ⟨_, q, _⟩ | ⟨q0, _, _⟩
            · rw [q]; split <;> decide
            · rw [q]; split <;> decide
            · exact absurd nw q0
          rw [if_neg n3]
          unfold g_X7_takesE_237
          obtain ⟨o1, o2⟩ := opOf_W nw
          refine bad _ (by rw [bG0 (p_sign0 n3)]) ?_
          unfold signS
          rw [if_neg o2, if_pos o1]
        · obtain ⟨u10, u11⟩ : u 110 10 = 3 ∧ u 110 11 = t f := by
            rcases hG with ⟨q, _, _⟩ | ⟨q, _, _⟩ | ⟨_, q1, q2⟩
            · exact absurd (Or.inl q) nw
            · exact absurd (Or.inr q) nw
            · exact ⟨q1, q2⟩
          rw [if_pos u10]
          have f237 : opOf (t f) = 0 → g_X7_takesE_237 (g_X7_takesE_28 fu) u (nI (lvW s.w)) (nI (nN s.w)) = some (u, 0) := fun h => by
            unfold g_X7_takesE_237
            rw [bG0 (by rw [p_sign u10 u11, h])]
          by_cases z41 : t f = 41
          · rw [if_pos (show u 110 11 = 41 by rw [u11]; exact z41)]
            have e41 : signS (t f) s = (if lvW s.w = 0 then none else some (closeS s)) := by unfold signS; rw [if_pos z41]
            by_cases hl : lvW s.w = 0
            · rw [if_pos (show nI (lvW s.w) ≤ 0 by rw [hl]; decide)]
              exact bad _ (f237 (by rw [z41]; decide)) (by rw [e41, if_pos hl])
            · rw [if_neg (nI_nle (by omega) (by omega))]
              rw [if_neg hl] at e41
              have hp' := hPs _ e41
              rw [e41]
              rw [if_neg (by rw [hd2]; decide)] at p4
              obtain ⟨v, a1, a2, a3, a4, a5⟩ := M_settle (r := 0) (by decide) (by omega) (MA_of hQ)
              have a1 : f_X7_settle u 0 = some v := a1
              have hT : TT (v 121) (stl 0 s.w s.c s.n).1 := by rw [a4]; exact TT_stl _ _ _ q6
              have hlen := stl_len (r := 0) s.w s.c s.n
              have hD := (stl_Dw (r := 0) s.w s.c s.n p2 hh).1
              have hlv := lv_stl (r := 0) s.w s.c s.n
              have hnN := nN_stl (r := 0) s.w s.c s.n p2 hh
              rcases stl0 p2 p4 p5 with ⟨y, _⟩ | ⟨_, w', hw⟩
              · exact absurd y hl
              · have hc : closeS s = ((stl 6 w' (stl 0 s.w s.c s.n).2.1 (stl 0 s.w s.c s.n).2.2).2.1, (stl 6 w' (stl 0 s.w s.c s.n).2.1 (stl 0 s.w s.c s.n).2.2).2.2, s.l, (stl 6 w' (stl 0 s.w s.c s.n).2.1 (stl 0 s.w s.c s.n).2.2).1, false) := by unfold closeS; rw [hw]; rfl
                rw [hc] at hp' ⊢
                rw [hw] at a5 hT hlen hD hlv hnN
                rw [List.length_cons] at hlen
                rw [a1, p_some]
                obtain ⟨b1, b2, b3, b4, b5⟩ := a5
                have b4 : v 110 20 = nI (w'.length + 1) := b4
                rw [p_let, b4, nI_pred, p_let]
                have hlv : lvW w' + 1 = lvW s.w := by rw [← hlv, lvW, if_pos rfl]
                have hnN : nN w' = nN s.w := by rw [← hnN, nN, if_neg (by decide)]; rfl
                rw [show nI (lvW s.w) + (-1) = nI (lvW w') from by rw [← hlv]; exact pk_m1 _]
                obtain ⟨v2, hv2⟩ : ∃ v2, v2 = am_u2 v 110 20 (nI w'.length) := ⟨_, rfl⟩
                rw [← hv2]
                have o2 : onF [20] v v2 := by rw [hv2]; exact onF_u2 _ _ _ (by simp)
                have hA2 : MA v2 (stl 0 s.w s.c s.n).2.1 (stl 0 s.w s.c s.n).2.2 s.l w' := ⟨by rw [o2.2 17 (by decide)]; exact b1, by rw [o2.2 18 (by decide)]; exact b2, fun k hk => by rw [o2.1 119 (by decide)]; exact b3 k hk, by rw [hv2]; exact u2_same _ _ _ _, by rw [o2.1 120 (by decide)]; exact b5.2⟩
                obtain ⟨v3, c1, c2, c3, c4, c5⟩ := M_settle (r := 6) (by decide) (by omega) hA2
                have c1 : f_X7_settle v2 6 = some v3 := c1
                have hlen6 := stl_len (r := 6) w' (stl 0 s.w s.c s.n).2.1 (stl 0 s.w s.c s.n).2.2
                have t3 : v3 121 = v 121 := by rw [c4, o2.1 121 (by decide)]
                have hq3 : MQr v3 (stl 6 w' (stl 0 s.w s.c s.n).2.1 (stl 0 s.w s.c s.n).2.2).2.1 (stl 6 w' (stl 0 s.w s.c s.n).2.1 (stl 0 s.w s.c s.n).2.2).2.2 s.l (stl 6 w' (stl 0 s.w s.c s.n).2.1 (stl 0 s.w s.c s.n).2.2).1 := MQ_of c5 (by rw [t3]; exact TT_stl _ _ _ hT.1) (by rw [t3, lv_stl, h3_stl6 _ _ _ hD.1]; exact hT.2 rfl)
                have ov : onR u v3 := onR_tr (onR_tr a2 (onR_F o2 (by simp))) c2
                have k110 : ∀ j, j ∉ [17, 20] → v3 110 j = u 110 j := fun j hj => by rw [c3 j hj, o2.2 j (fun y => hj (by simp at y; rw [y]; decide)), a3 j hj]
                rw [c1, p_some, M_nots c5 (by omega), p_some]
                obtain ⟨x, d1, d2, d3, d4, d5, d6⟩ := M_next hn (TM_congr ov tu) w2 (by rw [k110 8 (by decide)]; exact u8) (EB_congr (k110 12 (by decide)) hE) hq3
                dsimp only
                rw [d1, p_some]
                have := nxt x _ (onR_tr ov d2) d4 d3 (by rw [d6, k110 13 (by decide)]; exact hkey) d5 hp'
                have el : lvW (PS.w ((stl 6 w' (stl 0 s.w s.c s.n).2.1 (stl 0 s.w s.c s.n).2.2).2.1, (stl 6 w' (stl 0 s.w s.c s.n).2.1 (stl 0 s.w s.c s.n).2.2).2.2, s.l, (stl 6 w' (stl 0 s.w s.c s.n).2.1 (stl 0 s.w s.c s.n).2.2).1, false)) = lvW w' := lv_stl w' _ _
                rw [el] at this
                exact this
          · rw [if_neg (show ¬ u 110 11 = 41 by rw [u11]; exact z41)]
            by_cases z0 : opOf (t f) = 0
            · refine bad _ (f237 z0) ?_
              unfold signS
              rw [if_neg z41, if_pos z0]
            · obtain ⟨x, hx⟩ : ∃ x, x = opOf (t f) := ⟨_, rfl⟩
              have ox : opB x := by rw [hx]; exact (opOf_B z0).1
              have k := opB_rk ox
              have hs : signS (t f) s = (if rk x = 3 ∧ h3b s.w = true then none else some (opS x s)) := by unfold signS; rw [if_neg z41, if_neg z0, hx]
              unfold g_X7_takesE_237
              rw [p_sign u10 u11, p_some, ← hx]
              dsimp only
              rw [if_neg (fun y => by rw [← hx] at z0; exact z0 y), p_rank, p_some]
              dsimp only
              have l10 : am_in (nI (lvW s.w)) 10 = true := p_inT (by omega) (by omega)
              have lcl : (nI (lvW s.w)).toNatClampNeg = lvW s.w := nI_clamp (by omega)
              -- it waits
              have good : ¬ (rk x = 3 ∧ h3b s.w = true) → MRes u (match signS (t f) s with | none => (f, none) | some s' => runP t n key m e s') (g_X7_takesE_268 (g_X7_takesE_28 fu) u (nI (lvW s.w)) (nI (nN s.w)) x) := by
                intro hgood
                rw [if_neg hgood] at hs
                have hp' := hPs _ hs
                rw [hs]
                have k305 : g_X7_takesE_268 (g_X7_takesE_28 fu) u (nI (lvW s.w)) (nI (nN s.w)) x = g_X7_takesE_305 (g_X7_takesE_28 fu) u (nI (lvW s.w)) (nI (nN s.w)) x (nI (lvW s.w)) (b2i (h3b (x :: (stl (rk x) s.w s.c s.n).1))) := by
                  unfold g_X7_takesE_268
                  rw [p_rank, p_some, h3_op ox p2 hh]
                  dsimp only
                  by_cases y3 : rk x = 3
                  · rw [if_pos (show nI (rk x) = 3 by rw [y3]; rfl), if_pos y3]; rfl
                  · rw [if_neg (show ¬ nI (rk x) = 3 from nIne y3 (by omega) (by decide)), if_neg y3, p_rank, p_some]
                    dsimp only
                    by_cases y4 : rk x ≤ 3
                    · rw [if_pos (show nI (rk x) ≤ 3 from nI_le y4 (by decide)), if_pos y4]; rfl
                    · rw [if_neg (show ¬ nI (rk x) ≤ 3 from nI_ge (show 3 < rk x by omega) (by omega)), if_neg y4, if_pos l10, lcl]
                      cases hb : h3b s.w with
                      | false => rw [if_pos (show u 121 (lvW s.w) = 0 by rw [q7, hb]; rfl)]; rfl
                      | true => rw [if_neg (show ¬ u 121 (lvW s.w) = 0 by rw [q7, hb]; decide)]; rfl
                rw [k305]
                unfold g_X7_takesE_305
                have vb : ∀ b : Bool, vp_nar .boolean (b2i b) = b2i b := b2i_nar
                rw [if_pos l10, lcl, p_let, vb]
                obtain ⟨v, hv⟩ : ∃ v, v = am_u2 u 121 (lvW s.w) (b2i (h3b (x :: (stl (rk x) s.w s.c s.n).1))) := ⟨_, rfl⟩
                rw [← hv, p_rank, p_some]
                dsimp only
                have ov : onR u v := by rw [hv]; exact onR_row _ _ (Or.inr (Or.inr rfl))
                have vr : ∀ a, a ≠ 121 → v a = u a := fun a ha => by rw [hv]; exact u2_ne _ _ ha
                have hA : MA v s.c s.n s.l s.w := ⟨by rw [vr 110 (by decide)]; exact q1, by rw [vr 110 (by decide)]; exact q2, fun k hk => by rw [vr 119 (by decide)]; exact q3 k hk, by rw [vr 110 (by decide)]; exact q4, by rw [vr 120 (by decide)]; exact q5⟩
                obtain ⟨v2, c1, c2, c3, c4, c5⟩ := M_settle (r := rk x) (by omega) (by omega) hA
                have hlen := stl_len (r := rk x) s.w s.c s.n
                have c520 : v2 110 20 = nI (stl (rk x) s.w s.c s.n).1.length := c5.2.2.2.1
                rw [c1, p_some, c520, if_pos (p_inT (by omega) (by omega)), nI_clamp (by omega), p_let, p_let, u2_ne _ _ (show 110 ≠ 120 by decide), c520, nI_1]
                obtain ⟨b1, b2, b3, b4⟩ := MA_push (x := x) c5
                have hq2 : MQr _ (stl (rk x) s.w s.c s.n).2.1 (stl (rk x) s.w s.c s.n).2.2 s.l (x :: (stl (rk x) s.w s.c s.n).1) := MQ_of b1 (by rw [b4, c4, hv, u2_row]; exact ⟨TT_upd _ (by rw [lv_stl]; exact Nat.le_refl _) (TT_stl _ _ _ q6), fun y => absurd y k.2.2.1⟩) (by rw [b4, c4, hv, u2_row, lvW, if_neg k.2.2.1, Nat.add_zero, lv_stl, upd_sm])
                have ov2 := onR_tr (onR_tr ov c2) b2
                have k110 : ∀ j, j ∉ [17, 20] → am_u2 (am_u2 v2 120 (stl (rk x) s.w s.c s.n).1.length x) 110 20 (nI ((stl (rk x) s.w s.c s.n).1.length + 1)) 110 j = u 110 j := fun j hj => by rw [b3 j (fun y => hj (by rw [y]; decide)), c3 j hj, vr 110 (by decide)]
                obtain ⟨y, d1, d2, d3, d4, d5, d6⟩ := M_next hn (TM_congr ov2 tu) w2 (by rw [k110 8 (by decide)]; exact u8) (EB_congr (k110 12 (by decide)) hE) hq2
                rw [d1, p_some]
                have := nxt y (opS x s) (onR_tr ov2 d2) d4 d3 (by rw [d6, k110 13 (by decide)]; exact hkey) d5 hp'
                have el : lvW (opS x s).w = lvW s.w := by show lvW (x :: _) = _; rw [lvW, if_neg k.2.2.1, lv_stl]; rfl
                have en : nN (opS x s).w = nN s.w := by show nN (x :: _) = _; rw [nN, if_neg k.2.2.2, nN_stl _ _ _ p2 hh]; rfl
                rw [el, en] at this
                exact this
              by_cases y3 : rk x = 3
              · rw [if_pos (show nI (rk x) = 3 by rw [y3]; rfl), if_pos l10, lcl]
                cases hb : h3b s.w with
                | false =>
                  rw [if_pos (show u 121 (lvW s.w) = 0 by rw [q7, hb]; rfl)]
                  exact good (fun y => by rw [hb] at y; exact absurd y.2 (by decide))
                | true =>
                  rw [if_neg (show ¬ u 121 (lvW s.w) = 0 by rw [q7, hb]; decide)]
                  exact bad _ rfl (by rw [hs, if_pos ⟨y3, hb⟩])
              · rw [if_neg (show ¬ nI (rk x) = 3 from nIne y3 (by omega) (by decide))]
                exact good (fun y => y3 y.1)
