theorem tw_17 : (Jvm.Cond.classLink "SandRipplesLaw" (7 : Nat) "SandRipples") ∈ am_Tg := am_in_t 17 tq_17 rfl
theorem tw_19 : (Jvm.Cond.methodLink "SandRipplesLaw" (9 : Nat) ({ cls := "SandRipples", name := "<init>", desc := "()V" } : Jvm.MethodName)) ∈ am_Tg := am_in_t 19 tq_19 rfl
theorem tw_817 : (Jvm.Cond.methodLink "SandRipplesLaw" (12 : Nat) ({ cls := "SandRipplesModel", name := "<init>", desc := "()V" } : Jvm.MethodName)) ∈ am_Tg := am_in_t 817 tq_817 rfl
theorem tw_815 : (Jvm.Cond.classLink "SandRipplesLaw" (10 : Nat) "SandRipplesModel") ∈ am_Tg := am_in_t 815 tq_815 rfl
theorem lk_RL_9 : am_lk RL 9 M_X6_init.1 := Or.inl tw_19
theorem lk_RL_12 : am_lk RL 12 M_X7_init.1 := Or.inl tw_817
theorem ev_heq {X : Nat × (Nat → Int32)} {M : am_M} {pc : Nat} {L : List (Nat × Value)} {S : List Value} {r : am_H × Option Value} {h h' : am_H} (e1 : h.1 = h'.1) (e2 : h.2.1 = h'.2.1) (e3 : ∀ G, am_ws G h = am_ws G h') (kk : am_Ev X M pc L S h' r) : am_Ev X M pc L S h r := by
  intro G p l e R s m args below meth c Q n0 s0 H locs cells slots ls At hX hz hr1 hr2 hret hc hs hp hS hl
  exact kk G p l e R s m args below meth c Q n0 s0 H locs cells slots ls At hX hz hr1 hr2 hret (hc.trans e1) (hs.trans e2) (by unfold am_Hp at hp ⊢; rw [← e3]; exact hp) hS hl
/-- all that is made -/
def qAll : List am_K := qX6_init 0 ++ qX7_init 110
def u0 : am_MU := (hl qAll).2.2.2
theorem am_c_eq {G : am_G} {S1 S2 : am_S} {m : Nat → Int32} (h1 : S1.1 = S2.1) (h2 : S1.2.1 = S2.2.1) (h3 : S1.1 < 100 → ∀ j, j < S1.2.1 → S1.2.2 j = S2.2.2 j) (h4 : 103 ≤ S1.1 → S1.2.2 = S2.2.2) : am_c G S1 m = am_c G S2 m := by
  obtain ⟨t1, n1, r1⟩ := S1
  obtain ⟨t2, n2, r2⟩ := S2
  obtain rfl : t1 = t2 := h1
  obtain rfl : n1 = n2 := h2
  by_cases q1 : t1 < 100
  · simp only [am_c, q1, if_true]
    congr 2
    refine List.map_congr_left fun j hj => ?_
    have := h3 q1 j (List.mem_range.mp hj)
    simp only [am_fv, show r1 j = r2 j from this]
  · by_cases q2 : t1 < 103
    · simp only [am_c, q1, q2, if_true, if_false]
    · have h9 : r1 = r2 := h4 (show 103 ≤ t1 by omega)
      subst h9
      rfl
theorem qAll_a : ∀ k, k < 133 → (qAll.getD k am_kd).1.1 = tg k ∧ (qAll.getD k am_kd).1.2.1 = am_ln k := by decide +kernel
theorem qAll_b : ∀ k, k < 133 → tg k < 100 → ∀ j, j < am_ln k → (qAll.getD k am_kd).1.2.2 j = am_rfs k j := by decide +kernel
theorem qAll_c : ∀ k, k < 133 → 103 ≤ tg k → k = 4 ∨ k = 20 ∨ k = 36 ∨ k = 40 ∨ k = 46 ∨ k = 47 := by decide +kernel
theorem qAll_d : ∀ k, k < 133 → 103 ≤ tg k → (qAll.getD k am_kd).1.2.2 = am_rfs k := by
  intro k hk ht
  rcases qAll_c k hk ht with rfl | rfl | rfl | rfl | rfl | rfl
  · funext j
    match j with
    | 0 | 1 | 2 | 3 | 4 | 5 => rfl
    | j + 6 => rfl
  · funext j
    match j with
    | 0 | 1 | 2 | 3 | 4 | 5 => rfl
    | j + 6 => rfl
  · funext j
    match j with
    | 0 => rfl
    | j + 1 => rfl
  · funext j
    match j with
    | 0 | 1 | 2 | 3 | 4 | 5 | 6 | 7 | 8 | 9 | 10 | 11 | 12 | 13 => rfl
    | j + 14 => rfl
  · funext j
    match j with
    | 0 | 1 | 2 | 3 => rfl
    | j + 4 => rfl
  · funext j
    match j with
    | 0 | 1 | 2 | 3 | 4 => rfl
    | j + 5 => rfl
theorem qAll_len : qAll.length = 133 := by decide +kernel
theorem qAll_qs : am_qs qAll = am_sl := by decide +kernel
theorem qAll_ws (G : am_G) : am_ws G (hl qAll) = am_ws G (hp u0) := by
  unfold am_ws
  have e : (hl qAll).1 = (hp u0).1 := qAll_len
  rw [e]
  refine List.map_congr_left fun k hk => ?_
  have hk : k < 133 := List.mem_range.mp hk
  have h1 := qAll_a k hk
  refine congrArg (fun z => (G.2.2.1 + k, z)) (am_c_eq (S1 := (qAll.getD k am_kd).1) (S2 := am_SH k) h1.1 h1.2 (fun q j hj => ?_) (fun q => ?_))
  · exact qAll_b k hk (by rw [← h1.1]; exact q) j (by rw [← h1.2]; exact hj)
  · exact qAll_d k hk (by rw [← h1.1]; exact q)
theorem am_sl_v : am_sl = 8142 := by decide +kernel
theorem cX6 {X : Nat × (Nat → Int32)} : am_Cn X M_X6_init [.ref 0] (hl [((6, 14, rfb6), fun _ => 0)]) (hl (qX6_init 0), none) := cc_X6_init []
theorem cX7 {X : Nat × (Nat → Int32)} : am_Cn X M_X7_init [.ref 110] (hl (qX6_init 0 ++ [((7, 34, rfb7), fun _ => 0)])) (hl qAll, none) := by
  have h := cc_X7_init (X := X) (qX6_init 0)
  rw [qX6_init_len] at h
  exact h
theorem e110 : (hl (qX6_init 0)).1 = 110 := qX6_init_len 0
set_option maxRecDepth 20000 in
/-- THE LAW FROM ITS ENTRY: both objects are made, then its loop -/
theorem law_start {X : Nat × (Nat → Int32)} (u' : am_MU) (h : g_L_law_18 X 1700 u0 0 = some (u', 1)) : am_Ev X M_L_law 0 [(0, .retAddr 0)] [] (hl []) (hp u', some (.int 1)) := by
  refine ev_new rfb6 dL_law_0 (by decide) okC_6 tw_17 hb_6 (show 0 + 1 ≤ 133 by decide) (show 0 + 14 ≤ am_sl by rw [am_sl_v]; decide) ?_
  rw [hl_new 14 (6, 14, rfb6) rfl]
  refine ev_dup dL_law_3 rfl ?_
  refine ev_calli (a := 0) (h1 := hl (qX6_init 0)) [] dL_law_4 ok_X6_init rfl lk_RL_9 in_X6_init rfl (by decide) rfl cX6 rfl (Nat.le_of_ble_eq_true rfl) (show (hl (qX6_init 0)).1 ≤ 133 by rw [e110]; decide) (show am_qs (qX6_init 0) ≤ am_sl by rw [am_sl_v, qX6_init_qs]; decide) ?_
  refine ev_astore_n (L' := [(1, .ref 0), (0, .retAddr 0)]) dL_law_7 trivial (by decide) rfl ?_
  refine ev_new rfb7 dL_law_8 (by decide) okC_7 tw_815 hb_7 (show (hl (qX6_init 0)).1 + 1 ≤ 133 by rw [e110]; decide) (show am_qs (qX6_init 0) + 34 ≤ am_sl by rw [am_sl_v, qX6_init_qs]; decide) ?_
  rw [hl_new 34 (7, 34, rfb7) rfl, e110]
  refine ev_dup dL_law_11 rfl ?_
  refine ev_calli (a := 110) (h1 := hl qAll) [] dL_law_12 ok_X7_init rfl lk_RL_12 in_X7_init rfl (by decide) rfl cX7 rfl (Nat.le_of_ble_eq_true rfl) (show qAll.length ≤ 133 by rw [qAll_len]; decide) (show am_qs qAll ≤ am_sl by rw [qAll_qs]; exact Nat.le_refl _) ?_
  refine ev_astore_n (L' := [(2, .ref 110), (1, .ref 0), (0, .retAddr 0)]) dL_law_15 trivial (by decide) rfl ?_
  refine ev_iconst (v := (0 : Int32)) dL_law_16 kI_0 ?_
  refine ev_istore_n (L' := [(3, .int (0 : Int32)), (2, .ref 110), (1, .ref 0), (0, .retAddr 0)]) dL_law_17 (by decide) rfl ?_
  refine ev_heq (h' := hp u0) (show qAll.length = 133 from qAll_len) (show am_qs qAll = am_sl from qAll_qs) (fun G => qAll_ws G) ?_
  refine ev_loc [3, 2, 1, 0] rfl ?_
  exact l_L_law_18 X 1700 u0 0 (u', 1) h
