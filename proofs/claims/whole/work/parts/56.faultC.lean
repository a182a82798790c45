/-! the class's reader: words, keys, the whole -/
theorem C_blank {u : am_MU} {t : Nat → Int32} {n : Nat} (hn : n ≤ 96) (ht : ∀ k, k < n → u 45 k = t k) : ∀ (m p fu : Nat), n ≤ p + m → m < fu → p ≤ n → g_X1_pastBlanks_2 fu u 45 (nI n) (nI p) = some (u, nI (sk t n m p)) := by
  intro m
  induction m with
  | zero =>
    intro p fu h1 h2 h3
    obtain ⟨fu, rfl⟩ : ∃ k, fu = k + 1 := ⟨fu - 1, by omega⟩
    rw [g_X1_pastBlanks_2]
    dsimp only
    rw [if_pos (nI_le (by omega) (by omega))]
    rfl
  | succ m ih =>
    intro p fu h1 h2 h3
    obtain ⟨fu, rfl⟩ : ∃ k, fu = k + 1 := ⟨fu - 1, by omega⟩
    rw [g_X1_pastBlanks_2, sk]
    dsimp only
    by_cases z : p < n
    · rw [if_neg (nI_ge z (by omega)), il45, if_pos (p_inT (by omega) (by omega)), nI_clamp (by omega)]
      by_cases z2 : t p = 32
      · rw [if_pos (show u 45 p = 32 by rw [ht p z]; exact z2), if_pos (show p < n ∧ t p = 32 from ⟨z, z2⟩), p_let, nI_1]
        exact ih (p + 1) fu (by omega) (by omega) (by omega)
      · rw [if_neg (show ¬ u 45 p = 32 by rw [ht p z]; exact z2), if_neg (fun q => z2 q.2)]
    · rw [if_pos (nI_le (by omega) (by omega)), if_neg (fun q => z q.1)]
theorem C_past {u : am_MU} {t : Nat → Int32} {n p : Nat} (hn : n ≤ 96) (ht : ∀ k, k < n → u 45 k = t k) (hp : p ≤ n) : f_X1_pastBlanks u 45 (nI p) (nI n) = some (u, nI (sk t n n p)) := C_blank hn ht n p 1700 (by omega) (by omega) hp
theorem C_weL {u : am_MU} {t : Nat → Int32} {n : Nat} (hn : n ≤ 96) (ht : ∀ k, k < n → u 45 k = t k) : ∀ (m p fu : Nat), n ≤ p + m → m < fu → p ≤ n → g_X1_endOfWord_27 fu u 45 (nI n) 1 0 (nI p) = some (u, nI (we t n 0 m p)) := by
  intro m
  induction m with
  | zero =>
    intro p fu h1 h2 h3
    obtain ⟨fu, rfl⟩ : ∃ k, fu = k + 1 := ⟨fu - 1, by omega⟩
    rw [g_X1_endOfWord_27]
    dsimp only
    rw [if_pos (nI_le (by omega) (by omega))]
    rfl
  | succ m ih =>
    intro p fu h1 h2 h3
    obtain ⟨fu, rfl⟩ : ∃ k, fu = k + 1 := ⟨fu - 1, by omega⟩
    rw [g_X1_endOfWord_27, we]
    dsimp only
    by_cases z : p < n
    · rw [if_neg (nI_ge z (by omega)), if_neg (show ¬ (1 : Int32) = 0 by decide), il45, if_pos (p_inT (by omega) (by omega)), nI_clamp (by omega), ht p z]
      by_cases z2 : isL (t p)
      · rw [bG1 (isL1 z2), if_pos (show p < n ∧ cl 0 (t p) from ⟨z, Or.inl ⟨rfl, z2⟩⟩)]
        simp only [g_X1_endOfWord_62, p_let, nI_1]
        exact ih (p + 1) fu (by omega) (by omega) (by omega)
      · rw [bG0 (isL0 z2), if_neg (show ¬ (p < n ∧ cl 0 (t p)) from fun q => q.2.elim (fun y => z2 y.2) (fun y => absurd y.1 (by decide)))]
        unfold g_X1_endOfWord_47
        rw [if_pos rfl]
    · rw [if_pos (nI_le (by omega) (by omega)), if_neg (fun q => z q.1)]
theorem C_weD {u : am_MU} {t : Nat → Int32} {n : Nat} (hn : n ≤ 96) (ht : ∀ k, k < n → u 45 k = t k) : ∀ (m p fu : Nat), n ≤ p + m → m < fu → p ≤ n → g_X1_endOfWord_27 fu u 45 (nI n) 0 1 (nI p) = some (u, nI (we t n 1 m p)) := by
  intro m
  induction m with
  | zero =>
    intro p fu h1 h2 h3
    obtain ⟨fu, rfl⟩ : ∃ k, fu = k + 1 := ⟨fu - 1, by omega⟩
    rw [g_X1_endOfWord_27]
    dsimp only
    rw [if_pos (nI_le (by omega) (by omega))]
    rfl
  | succ m ih =>
    intro p fu h1 h2 h3
    obtain ⟨fu, rfl⟩ : ∃ k, fu = k + 1 := ⟨fu - 1, by omega⟩
    rw [g_X1_endOfWord_27, we]
    dsimp only
    by_cases z : p < n
    · rw [if_neg (nI_ge z (by omega)), if_pos rfl]
      unfold g_X1_endOfWord_47
      rw [if_neg (show ¬ (1 : Int32) = 0 by decide), il45, if_pos (p_inT (by omega) (by omega)), nI_clamp (by omega), ht p z]
      by_cases z2 : isD (t p)
      · rw [bG1 (isD1 z2), if_pos (show p < n ∧ cl 1 (t p) from ⟨z, Or.inr ⟨rfl, z2⟩⟩)]
        simp only [g_X1_endOfWord_62, p_let, nI_1]
        exact ih (p + 1) fu (by omega) (by omega) (by omega)
      · rw [bG0 (isD0 z2), if_neg (show ¬ (p < n ∧ cl 1 (t p)) from fun q => q.2.elim (fun y => absurd y.1 (by decide)) (fun y => z2 y.2))]
    · rw [if_pos (nI_le (by omega) (by omega)), if_neg (fun q => z q.1)]
theorem C_word {u : am_MU} {t : Nat → Int32} {n f : Nat} (hn : n ≤ 96) (ht : ∀ k, k < n → u 45 k = t k) (hf : f < n) : f_X1_endOfWord u 45 (nI f) (nI n) = some (u, nI (wend t n f)) := by
  unfold f_X1_endOfWord wend
  rw [if_pos (nI_lt hf (by omega)), il45, if_pos (p_inT (by omega) (by omega)), nI_clamp (by omega), ht f hf]
  by_cases l : isL (t f)
  · rw [isL1 l, p_some]
    dsimp only
    rw [ht f hf, isD0 (LD l), p_some, if_pos l, p_let, nI_1]
    exact C_weL hn ht n (f + 1) 1700 (by omega) (by omega) (by omega)
  · rw [isL0 l, p_some]
    dsimp only
    rw [if_neg l, ht f hf]
    by_cases d : isD (t f)
    · rw [isD1 d, p_some, if_pos d, p_let, nI_1]
      exact C_weD hn ht n (f + 1) 1700 (by omega) (by omega) (by omega)
    · rw [isD0 d, p_some, if_neg d, p_let, nI_1]
      rw [show (1700 : Nat) = 1699 + 1 from rfl, g_X1_endOfWord_27]
      dsimp only
      unfold g_X1_endOfWord_47
      rw [if_pos rfl, if_pos rfl]
      split <;> rfl
/-- keys -/
def kl (k : Nat) : Nat := if k = 1 then 5 else 4
def ko (k : Nat) : Nat := if k = 0 then 0 else if k = 1 then 4 else 9
def kC (t : Nat → Int32) (f o : Nat) : Nat → Nat → Bool
  | 0, _ => true
  | m + 1, j => if t (f + j) = keysL.getD (o + j) 0 then kC t f o m (j + 1) else false
def isK (t : Nat → Int32) (f e k : Nat) : Bool := if e - f = kl k then kC t f (ko k) (kl k) 0 else false
def kyN (t : Nat → Int32) (f e : Nat) : Nat → Nat → Option Nat
  | 0, _ => none
  | m + 1, k => if isK t f e k = true then some k else kyN t f e m (k + 1)
theorem sl4 : ∀ k, k < 3 → slen (4 + k) = nI (kl k) ∧ Int32.ofNat (am_kb.getD ((4 + k + 6) - 10) []).length = nI (kl k) ∧ (am_kb.getD ((4 + k + 6) - 10) []).length = kl k := by decide +kernel
theorem ch4 : ∀ k, k < 3 → ∀ j, j < kl k → ((((((am_kb.getD ((4 + k + 6) - 10) []).getD j 0) &&& (255 : Int32)).toUInt32 % 65536).toInt32).toUInt32 % 65536).toInt32 = (((((am_kb.getD ((4 + k + 6) - 10) []).getD j 0) &&& (255 : Int32)).toUInt32 % 65536).toInt32) ∧ (((((am_kb.getD ((4 + k + 6) - 10) []).getD j 0) &&& (255 : Int32)).toUInt32 % 65536).toInt32) = keysL.getD (ko k + j) 0 := by decide +kernel
theorem J_ch (u : am_MU) {k j : Nat} (hk : k < 3) (hj : j < kl k) : f_J0_charAt_5068e u (4 + k) (nI j) = some (u, keysL.getD (ko k + j) 0) := by
  obtain ⟨s1, s2, s3⟩ := sl4 k hk
  obtain ⟨c1, c2⟩ := ch4 k hk j hj
  have hl : kl k < 10 := by unfold kl; split <;> decide
  have h4 : 4 ≤ 4 + k ∧ 4 + k < 10 := by omega
  have key : f_J1_charAt_3b067 u (4 + k + 6) (nI j) = some (u, keysL.getD (ko k + j) 0) := by
    unfold f_J1_charAt_3b067 f_J0_checkIndex_df160 f_J3_checkIndex_8e157
    rw [if_pos (by omega), s2, if_neg (nI_pos (by omega)), if_pos (nI_lt hj (by omega)), p_some, p_some, s3, if_pos (p_inT (by omega) hj), nI_clamp (by omega), if_pos c1, c2]
  rw [c2] at c1
  unfold f_J0_charAt_5068e
  rw [if_pos h4, J_lat u h4, p_some]
  dsimp only
  rw [if_neg (show ¬ (1 : Int32) = 0 by decide), key, p_some]
  dsimp only
  rw [if_pos c1]
theorem C_isWL {u : am_MU} {t : Nat → Int32} {n f k : Nat} (hk : k < 3) (hn : n ≤ 96) (ht : ∀ k, k < n → u 45 k = t k) (hf : f + kl k ≤ n) : ∀ (m j fu : Nat), j + m = kl k → m < fu → g_X1_isWord_15 fu u 45 (nI f) (4 + k) (nI j) = some (u, if kC t f (ko k) m j = true then 1 else 0) := by
  have h4 : 4 ≤ 4 + k ∧ 4 + k < 10 := by omega
  have hl : kl k < 10 := by unfold kl; split <;> decide
  intro m
  induction m with
  | zero =>
    intro j fu h1 h2
    obtain ⟨fu, rfl⟩ : ∃ k, fu = k + 1 := ⟨fu - 1, by omega⟩
    rw [g_X1_isWord_15]
    dsimp only
    rw [if_pos h4, J_len u h4, p_some, (sl4 k hk).1]
    dsimp only
    rw [if_pos (nI_le (by omega) (by omega)), kC, if_pos rfl]
  | succ m ih =>
    intro j fu h1 h2
    obtain ⟨fu, rfl⟩ : ∃ k, fu = k + 1 := ⟨fu - 1, by omega⟩
    rw [g_X1_isWord_15]
    dsimp only
    rw [if_pos h4, J_len u h4, p_some, (sl4 k hk).1]
    dsimp only
    rw [if_neg (nI_ge (by omega) (by omega)), nI_add, il45, if_pos (p_inT (by omega) (by omega)), nI_clamp (by omega), J_ch u hk (by omega), p_some, kC]
    dsimp only
    have e := ht (f + j) (by omega)
    by_cases z : t (f + j) = keysL.getD (ko k + j) 0
    · rw [if_pos (show u 45 (f + j) = keysL.getD (ko k + j) 0 by rw [e]; exact z), if_pos z, p_let, nI_1]
      exact ih (j + 1) fu (by omega) (by omega)
    · rw [if_neg (show ¬ u 45 (f + j) = keysL.getD (ko k + j) 0 by rw [e]; exact z), if_neg z, if_neg (by decide)]
theorem C_isW {u : am_MU} {t : Nat → Int32} {n f e k : Nat} (hk : k < 3) (hn : n ≤ 96) (ht : ∀ k, k < n → u 45 k = t k) (hf : f ≤ e) (he : e ≤ n) : f_X1_isWord u 45 (nI f) (nI e) (4 + k) = some (u, if isK t f e k = true then 1 else 0) := by
  have h4 : 4 ≤ 4 + k ∧ 4 + k < 10 := by omega
  have hl : kl k < 10 := by unfold kl; split <;> decide
  unfold f_X1_isWord isK
  rw [if_pos h4, J_len u h4, p_some, (sl4 k hk).1, pk_sub hf]
  dsimp only
  by_cases z : e - f = kl k
  · rw [if_pos (show nI (e - f) = nI (kl k) by rw [z]), if_pos z]
    exact C_isWL hk hn ht (by omega) (kl k) 0 1700 (by omega) (by omega)
  · rw [if_neg (show ¬ nI (e - f) = nI (kl k) from nIne z (by omega) (by omega)), if_neg z, if_neg (by decide)]
theorem C_keyL {u : am_MU} {t : Nat → Int32} {n f e : Nat} (hn : n ≤ 96) (ht : ∀ k, k < n → u 45 k = t k) (hf : f ≤ e) (he : e ≤ n) : ∀ (m k fu : Nat), k + m = 3 → m < fu → g_X1_keyOf_2 fu u 45 (nI f) (nI e) (nI k) = some (u, match kyN t f e m k with | none => -1 | some q => nI q) := by
  intro m
  induction m with
  | zero =>
    intro k fu h1 h2
    obtain ⟨fu, rfl⟩ : ∃ k, fu = k + 1 := ⟨fu - 1, by omega⟩
    obtain rfl : k = 3 := by omega
    rw [g_X1_keyOf_2]
    dsimp only
    rw [if_pos (by decide)]
    rfl
  | succ m ih =>
    intro k fu h1 h2
    obtain ⟨fu, rfl⟩ : ∃ k, fu = k + 1 := ⟨fu - 1, by omega⟩
    have hk : k < 3 := by omega
    have hw : f_X1_wordOf u (nI k) = some (u, 4 + k) := by
      rcases (show k = 0 ∨ k = 1 ∨ k = 2 by omega) with rfl | rfl | rfl <;> rfl
    rw [g_X1_keyOf_2]
    dsimp only
    rw [if_neg (show ¬ (2 : Int32) < nI k from nI_nlt (show k ≤ 2 by omega) (by decide)), hw, p_some]
    dsimp only
    rw [C_isW hk hn ht hf he, p_some, kyN]
    dsimp only
    by_cases z : isK t f e k = true
    · rw [if_pos z, if_pos z, if_neg (show ¬ (1 : Int32) = 0 by decide)]
    · rw [if_neg z, if_neg z, if_pos rfl, p_let, nI_1]
      exact ih (k + 1) fu (by omega) (by omega)
def faI (o : Nat × Option PS) : Int32 := match o.2 with
  | none => nI o.1
  | some _ => -1
/-- the class's reader reads as the abstract one -/
theorem C_run {t : Nat → Int32} {n key : Nat} (hk : key < 3) (hn : n ≤ 96) : ∀ (m to rd fu : Nat) (u : am_MU) (s : PS), n < to + m → to ≤ n → rd < to → m < fu → (∀ k, k < n → u 45 k = t k) → PI key to s → CP u key s → ∃ u', g_X1_faultOf_42 fu u 45 (nI n) (nI to) (nI rd) = some (u', faI (runP t n key m to s)) ∧ same [41, 42, 43] u u' ∧ ∀ s', (runP t n key m to s).2 = some s' → CP u' key s' := by
  intro m
  induction m with
  | zero => intro to rd fu u s h1 h2; omega
  | succ m ih =>
    intro to rd fu u s h1 h2 h3 h4 ht hP hC
    obtain ⟨fu, rfl⟩ : ∃ k, fu = k + 1 := ⟨fu - 1, by omega⟩
    have hto : 4 ≤ to := by have := hP.1; omega
    have g1 := sk_ge (t := t) (n := n) n to
    have g2 := sk_le (t := t) (n := n) n to h2
    rw [runP]
    obtain ⟨f, hf⟩ : ∃ f, f = sk t n n to := ⟨_, rfl⟩
    rw [← hf] at g1 g2 ⊢
    -- behind the blanks, glued or not
    have body : ∀ b : Int32, (f < n → (b = 0 ∧ ¬ (f = to ∧ inW (t (to - 1)) ∧ inW (t f))) ∨ (b = 1 ∧ (f = to ∧ inW (t (to - 1)) ∧ inW (t f)))) → ∃ u', g_X1_faultOf_86 (g_X1_faultOf_42 fu) u 45 (nI n) (nI to) (nI rd) b = some (u', faI (if n ≤ f then (n, if s.d = true ∨ ¬ lvW s.w = 0 then none else some (endS s)) else match stepS t key to f (wend t n f) s with | none => (f, none) | some s' => runP t n key m (wend t n f) s')) ∧ same [41, 42, 43] u u' ∧ ∀ s', (if n ≤ f then (n, if s.d = true ∨ ¬ lvW s.w = 0 then none else some (endS s)) else match stepS t key to f (wend t n f) s with | none => (f, none) | some s' => runP t n key m (wend t n f) s').2 = some s' → CP u' key s' := by
      intro b hb
      unfold g_X1_faultOf_86
      rw [C_past hn ht h2, p_some, ← hf]
      dsimp only
      by_cases z : f < n
      · rw [if_pos (nI_lt z (by omega)), if_neg (show ¬ n ≤ f by omega), C_word hn ht z, p_some]
        dsimp only
        have w1 := wend_gt t n f
        have w2 := wend_le (t := t) z
        have nxt : ∀ (v : am_MU) (s' : PS), same [41, 42, 43] u v → CP v key s' → PI key (wend t n f) s' → ∃ u', g_X1_faultOf_150 (g_X1_faultOf_42 fu) v 45 (nI n) (nI f) (nI (wend t n f)) (nI rd) 1 = some (u', faI (runP t n key m (wend t n f) s')) ∧ same [41, 42, 43] u u' ∧ ∀ s'', (runP t n key m (wend t n f) s').2 = some s'' → CP u' key s'' := by
          intro v s' sv hc hp
          unfold g_X1_faultOf_150
          rw [if_neg (show ¬ (1 : Int32) = 0 by decide), p_let, nI_1]
          obtain ⟨u', e1, e2, e3⟩ := ih (wend t n f) (rd + 1) fu v s' (by omega) w2 (by omega) (by omega) (fun k hk => by rw [sv 45 (by decide)]; exact ht k hk) hp hc
          exact ⟨u', e1, same_tr sv e2, e3⟩
        have bad : ∀ (v : am_MU), g_X1_faultOf_150 (g_X1_faultOf_42 fu) v 45 (nI n) (nI f) (nI (wend t n f)) (nI rd) 0 = some (v, nI f) := fun v => by
          unfold g_X1_faultOf_150
          rw [if_pos rfl]
        have hPs := fun s' => PI_step (t := t) (n := n) (s' := s') hk hP g1 z
        have h8 : u 41 8 = (if s.d = true then 1 else 0) := hC.2.2.2.2.2.2.2.2
        by_cases hd1 : s.d = true
        · rw [if_neg (show ¬ u 41 8 = 0 by rw [h8, if_pos hd1]; decide)]
          rcases hb z with ⟨b0, gl⟩ | ⟨b0, gl⟩
          · rw [if_pos b0]
            have es : stepS t key to f (wend t n f) s = pieceS t key f (wend t n f) s := by unfold stepS; rw [if_pos hd1, if_neg gl]
            rw [es] at hPs ⊢
            obtain ⟨v, a1, a2⟩ := C_piece hk hP (by omega) hn ht g1 z hd1 hC
            rcases a2 with ⟨a2, a3⟩ | ⟨s', a2, a3, a4⟩
            · rw [bG0 a3, a2]
              unfold g_X1_faultOf_139
              rw [bad]
              exact ⟨v, rfl, a1, fun s' q => absurd q (by simp)⟩
            · rw [bG1 a3, a2]
              exact nxt v s' a1 a4 (hPs s' a2)
          · rw [if_neg (show ¬ b = 0 by rw [b0]; decide)]
            have es : stepS t key to f (wend t n f) s = none := by unfold stepS; rw [if_pos hd1, if_pos gl]
            rw [es]
            unfold g_X1_faultOf_139
            rw [bad]
            exact ⟨u, rfl, same_rf, fun s' q => absurd q (by simp)⟩
        · have hd2 : s.d = false := by cases h : s.d; · rfl
                                       · exact absurd h hd1
          rw [if_pos (show u 41 8 = 0 by rw [h8, if_neg hd1]), il45, if_pos (p_inT (by omega) (by omega)), nI_clamp (by omega), ht f z]
          have es : stepS t key to f (wend t n f) s = signS (t f) s := by unfold stepS; rw [if_neg hd1]
          rw [es] at hPs ⊢
          obtain ⟨v, a1, a2⟩ := C_sign (t f) hP (by omega) hd2 hC
          rcases a2 with ⟨a2, a3⟩ | ⟨s', a2, a3, a4⟩
          · rw [a3, p_some, a2]
            dsimp only
            rw [bad]
            exact ⟨v, rfl, a1, fun s' q => absurd q (by simp)⟩
          · rw [a3, p_some, a2]
            dsimp only
            exact nxt v s' a1 a4 (hPs s' a2)
      · rw [if_neg (nI_nlt (by omega) (by omega)), if_pos (show n ≤ f by omega)]
        unfold g_X1_faultOf_165 f_X1_endsHere
        have h8 : u 41 8 = (if s.d = true then 1 else 0) := hC.2.2.2.2.2.2.2.2
        have h6 : u 41 6 = nI (lvW s.w) := hC.2.2.2.2.2.2.1
        have hl8 := hP.2.2.2.2.2.1
        by_cases hd1 : s.d = true
        · rw [if_neg (show ¬ u 41 8 = 0 by rw [h8, if_pos hd1]; decide), if_pos (Or.inl hd1), p_some]
          exact ⟨u, if_pos rfl, same_rf, fun s' q => absurd q (by simp)⟩
        · have hd2 : s.d = false := by cases h : s.d; · rfl
                                       · exact absurd h hd1
          rw [if_pos (show u 41 8 = 0 by rw [h8, if_neg hd1])]
          by_cases hl : lvW s.w = 0
          · rw [if_pos (show u 41 6 ≤ 0 by rw [h6, hl]; decide), if_neg (show ¬ (s.d = true ∨ ¬ lvW s.w = 0) from fun q => q.elim hd1 (fun q => q hl))]
            have hp1 := hP.1
            obtain ⟨v, a1, a2, a3⟩ := C_aboveL (r := 0) (by decide) s.w s.c s.n 1700 u (by omega) (by omega) hP.2.1 (hP.2.2.1 hd2) hC
            rw [stl_01] at a3
            have a1 : f_X1_putThoseAbove u 0 = some v := a1
            rw [a1, p_some, p_some]
            refine ⟨v, if_neg (show ¬ (1 : Int32) = 0 by decide), a2, fun s' q => ?_⟩
            have q : endS s = s' := by injection q
            rw [← q]
            have a3 : CQ v key (stl 0 s.w s.c s.n).2.1 (stl 0 s.w s.c s.n).2.2 s.l (stl 0 s.w s.c s.n).1 s.d := a3
            rw [hd2] at a3
            exact a3
          · rw [if_neg (show ¬ u 41 6 ≤ 0 by rw [h6]; exact nI_nle (by omega) (by omega)), if_pos (Or.inr hl), p_some]
            exact ⟨u, if_pos rfl, same_rf, fun s' q => absurd q (by simp)⟩
    rw [g_X1_faultOf_42]
    dsimp only
    rw [if_neg (nI_ge (show rd < n by omega) (by omega)), if_neg (nI_nle (by omega) (by omega))]
    by_cases zn : n ≤ to
    · rw [if_pos (nI_le zn (by omega))]
      exact body 0 (fun q => by omega)
    · rw [if_neg (nI_ge (by omega) (by omega)), il45]
      obtain ⟨p, rfl⟩ : ∃ p, to = p + 1 := ⟨to - 1, by omega⟩
      rw [nI_pred, if_pos (p_inT (by omega) (by omega)), nI_clamp (by omega), ht p (by omega)]
      by_cases w1 : inW (t p)
      · rw [bG1 (inW1 w1)]
        dsimp only
        rw [if_pos (p_inT (by omega) (by omega)), nI_clamp (by omega), ht (p + 1) (by omega)]
        by_cases w2 : inW (t (p + 1))
        · rw [bG1 (inW1 w2)]
          have ef : f = p + 1 := by rw [hf]; exact sk_same (fun q => W32 (by rw [← q]; exact w2))
          exact body 1 (fun _ => Or.inr ⟨rfl, ef, w1, by rw [ef]; exact w2⟩)
        · rw [bG0 (inW0 w2)]
          exact body 0 (fun _ => Or.inl ⟨rfl, fun q => w2 (by rw [← q.1]; exact q.2.2)⟩)
      · rw [bG0 (inW0 w1)]
        exact body 0 (fun _ => Or.inl ⟨rfl, fun q => w1 q.2.1⟩)
/-- the whole: a fault's place, or what was read -/
def s00 : PS := (fun _ => 0, 0, 0, [], true)
def readP (t : Nat → Int32) (n : Nat) : Nat × Option (Nat × PS) :=
  if sk t n n 0 < n then
    match kyN t (sk t n n 0) (wend t n (sk t n n 0)) 3 0 with
    | none => (sk t n n 0, none)
    | some k => ((runP t n k 97 (wend t n (sk t n n 0)) s00).1, (runP t n k 97 (wend t n (sk t n n 0)) s00).2.map fun s => (k, s))
  else (n, none)
theorem kyN_in {t : Nat → Int32} {f e k : Nat} : ∀ m j, kyN t f e m j = some k → j ≤ k ∧ k < j + m ∧ isK t f e k = true := by
  intro m
  induction m with
  | zero => intro j h; exact absurd h (by simp [kyN])
  | succ m ih =>
    intro j h
    rw [kyN] at h
    by_cases z : isK t f e j = true
    · rw [if_pos z] at h
      obtain rfl : j = k := by injection h
      exact ⟨Nat.le_refl _, by omega, z⟩
    · rw [if_neg z] at h
      have := ih (j + 1) h
      exact ⟨by omega, by omega, this.2.2⟩
theorem isK_len {t : Nat → Int32} {f e k : Nat} (h : isK t f e k = true) : e - f = kl k ∧ 4 ≤ kl k := by
  unfold isK at h
  by_cases z : e - f = kl k
  · refine ⟨z, ?_⟩
    unfold kl
    split <;> decide
  · rw [if_neg z] at h; exact absurd h (by decide)
theorem PI_s00 {key to : Nat} (h : 4 ≤ to) : PI key to s00 := ⟨h, trivial, fun q => absurd q (by decide), ⟨fun _ => 0, rfl, rfl, fun k hk => absurd hk (Nat.not_lt_zero _)⟩, fun k hk => absurd hk (Nat.not_lt_zero _), Nat.zero_le _, Nat.zero_le _⟩
def rdI (o : Nat × Option (Nat × PS)) : Int32 := match o.2 with
  | none => nI o.1
  | some _ => -1
theorem C_fault {t : Nat → Int32} {n : Nat} (hn : n ≤ 96) (u : am_MU) (ht : ∀ k, k < n → u 45 k = t k) : ∃ u', f_X1_faultOf u 45 (nI n) = some (u', rdI (readP t n)) ∧ same [41, 42, 43] u u' ∧ ∀ k s, (readP t n).2 = some (k, s) → CP u' k s := by
  obtain ⟨b, hb, hs, f1, f2, f5, f6, f7, f8⟩ : ∃ b, f_X1_begin u = some b ∧ same [41, 42, 43] u b ∧ b 41 1 = 0 ∧ b 41 2 = 0 ∧ b 41 5 = 0 ∧ b 41 6 = 0 ∧ b 41 7 = 0 ∧ b 41 8 = 1 := by
    refine ⟨_, rfl, ?_, ?_, ?_, ?_, ?_, ?_, ?_⟩
    · exact same_tr (same_tr (same_tr (same_tr (same_tr (s41 _ _ _) (s41 _ _ _)) (s41 _ _ _)) (s41 _ _ _)) (s41 _ _ _)) (s41 _ _ _)
    · rw [f41 _ _ (by decide), f41 _ _ (by decide), f41 _ _ (by decide), f41 _ _ (by decide), f41 _ _ (by decide), u2_same]
    · rw [f41 _ _ (by decide), f41 _ _ (by decide), f41 _ _ (by decide), f41 _ _ (by decide), u2_same]
    · rw [f41 _ _ (by decide), f41 _ _ (by decide), f41 _ _ (by decide), u2_same]
    · rw [f41 _ _ (by decide), f41 _ _ (by decide), u2_same]
    · rw [f41 _ _ (by decide), u2_same]
    · rw [u2_same]
  have htb : ∀ k, k < n → b 45 k = t k := fun k hk => by rw [hs 45 (by decide)]; exact ht k hk
  have g2 := sk_le (t := t) (n := n) n 0 (Nat.zero_le _)
  have e1 := C_past hn htb (Nat.zero_le n)
  rw [nI_0] at e1
  unfold f_X1_faultOf readP
  rw [hb, p_some, e1, p_some]
  dsimp only
  obtain ⟨f, hf⟩ : ∃ f, f = sk t n n 0 := ⟨_, rfl⟩
  rw [← hf] at g2 ⊢
  by_cases z : f < n
  · have w1 := wend_gt t n f
    have w2 := wend_le (t := t) z
    have e3 := C_keyL hn htb (f := f) (e := wend t n f) (by omega) w2 3 0 1700 rfl (by decide)
    rw [nI_0] at e3
    have e3 : f_X1_keyOf b 45 (nI f) (nI (wend t n f)) = some (b, match kyN t f (wend t n f) 3 0 with | none => -1 | some q => nI q) := e3
    rw [if_pos z, C_word hn htb z, p_some]
    dsimp only
    rw [e3, p_some, p_let]
    dsimp only
    rw [u2_same]
    cases hq : kyN t f (wend t n f) 3 0 with
    | none =>
      refine ⟨am_u2 b 41 0 (-1), ?_, same_tr hs (s41 _ _ _), fun k s q => absurd q (by simp)⟩
      exact if_neg (show ¬ 0 ≤ (-1 : Int32) by decide)
    | some k =>
      obtain ⟨_, k2, k3⟩ := kyN_in 3 0 hq
      have hk3 : k < 3 := by omega
      have hl := isK_len k3
      have hto : 4 ≤ wend t n f := by omega
      have hCP : CP (am_u2 b 41 0 (nI k)) k s00 := ⟨u2_same _ _ _ _, by rw [f41 _ _ (by decide)]; exact f1, by rw [f41 _ _ (by decide)]; exact f2, fun j hj => absurd hj (Nat.not_lt_zero _), by rw [f41 _ _ (by decide)]; exact f5, trivial, by rw [f41 _ _ (by decide)]; exact f6, by rw [f41 _ _ (by decide)]; exact f7, by rw [f41 _ _ (by decide)]; exact f8⟩
      obtain ⟨u', a1, a2, a3⟩ := C_run (t := t) hk3 hn 97 (wend t n f) 0 1700 (am_u2 b 41 0 (nI k)) s00 (by omega) w2 (by omega) (by decide) (fun j hj => by rw [u2_ne _ _ (by decide)]; exact htb j hj) (PI_s00 hto) hCP
      refine ⟨u', ?_, same_tr (same_tr hs (s41 _ _ _)) a2, fun k' s q => ?_⟩
      · show (if 0 ≤ nI k then g_X1_faultOf_42 1700 (am_u2 b 41 0 (nI k)) 45 (nI n) (nI (wend t n f)) 0 else _) = _
        rw [if_pos (nI_pos' (by omega))]
        rw [nI_0] at a1
        rw [a1]
        unfold faI rdI
        dsimp only
        cases (runP t n k 97 (wend t n f) s00).2 <;> rfl
      · have q : (runP t n k 97 (wend t n f) s00).2.map (fun s => (k, s)) = some (k', s) := q
        cases hr : (runP t n k 97 (wend t n f) s00).2 with
        | none => rw [hr] at q; exact absurd q (by simp)
        | some s' =>
          rw [hr] at q
          have q : (k, s') = (k', s) := by injection q
          injection q with q1 q2
          rw [← q1, ← q2]
          exact a3 s' hr
  · obtain rfl : f = n := by omega
    rw [if_neg z]
    have e2 : f_X1_endOfWord b 45 (nI f) (nI f) = some (b, nI f) := by unfold f_X1_endOfWord; rw [if_neg (nI_nlt (Nat.le_refl _) (by omega))]
    have e3 := C_keyL hn htb (f := f) (e := f) (Nat.le_refl _) (Nat.le_refl _) 3 0 1700 rfl (by decide)
    have hq : kyN t f f 3 0 = none := by
      cases h : kyN t f f 3 0 with
      | none => rfl
      | some k =>
        have := isK_len (kyN_in 3 0 h).2.2
        omega
    rw [nI_0, hq] at e3
    have e3 : f_X1_keyOf b 45 (nI f) (nI f) = some (b, -1) := e3
    rw [e2, p_some]
    dsimp only
    rw [e3, p_some, p_let]
    dsimp only
    rw [u2_same]
    exact ⟨am_u2 b 41 0 (-1), if_neg (show ¬ 0 ≤ (-1 : Int32) by decide), same_tr hs (s41 _ _ _), fun k s q => absurd q (by simp)⟩
