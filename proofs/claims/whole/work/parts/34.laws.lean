/-! laws by their keys: none, or a code -/
abbrev LW : Type := Option ((Nat → Int32) × Nat × (Nat → Nat))
def names (nn : Nat) (code : Nat → Int32) (len : Nat) : Prop := ∀ k, k < len → ∀ j, j < 3 → code k = nI (10000 + j) → j < nn
theorem stk_congr {code F G : Nat → Int32} {len nn : Nat} {hg : Nat → Nat} (hV : VP code len hg) (hn : names nn code len) (h : ∀ j, j < nn → F j = G j) : ∀ k, k ≤ len → stk code F k = stk code G k := by
  intro k
  induction k with
  | zero => intro _; rfl
  | succ k ih =>
    intro hk
    rw [stk, stk, ih (by omega)]
    rcases hV.2.2.2 k (by omega) with ⟨q1, -⟩ | ⟨q1, -⟩ | ⟨q1, -⟩
    · rw [(stp_L q1 F _).2.2, (stp_L q1 G _).2.2]
      congr 1
      rcases q1 with ⟨n, h1, h2⟩ | h2 | h2 | h2
      · rw [h2, if_neg (p_big n h1), if_neg (p_big n h1)]
      · rw [h2, if_pos (by decide), if_pos (by decide)]
        exact h 0 (hn k (by omega) 0 (by decide) h2)
      · rw [h2, if_pos (by decide), if_pos (by decide)]
        exact h 1 (hn k (by omega) 1 (by decide) h2)
      · rw [h2, if_pos (by decide), if_pos (by decide)]
        exact h 2 (hn k (by omega) 2 (by decide) h2)
    · unfold stp; rw [if_pos q1, if_pos q1]
    · unfold stp; rw [if_neg (opB_lt q1).2, if_pos (opB_lt q1).1, if_neg (opB_lt q1).2, if_pos (opB_lt q1).1]
def F3 (a b c : Int32) : Nat → Int32 := fun j => if j = 0 then a else if j = 1 then b else c
/-- what a law gives; d without one -/
def lv3 (o : LW) (a b c d : Int32) : Int32 := match o with
  | none => d
  | some q => vl q.1 (F3 a b c) q.2.1
/-- the reference: the last text of a key below m -/
def cntI (A : Nat → Int32) : Nat → Int32 → Int32
  | 0, _ => -1
  | m + 1, k => if A (163 + 2 * m) / 1000 = k then nI m else cntI A m k
theorem p_X7_counts (u : am_MU) (key : Int32) : ∀ (m n : Nat), m ≤ 14 → m < n → g_X7_counts_10 n u key (nI m - 1) = some (u, cntI (u 111) m key) := by
  intro m
  induction m with
  | zero =>
    intro n h0 h1
    obtain ⟨n, rfl⟩ : ∃ z, n = z + 1 := ⟨n - 1, by omega⟩
    rw [g_X7_counts_10]
    dsimp only
    rw [if_pos (by decide)]
    rfl
  | succ m ih =>
    intro n h0 h1
    obtain ⟨n, rfl⟩ : ∃ z, n = z + 1 := ⟨n - 1, by omega⟩
    have e1 : (163 : Int32) + 2 * nI m = nI (163 + 2 * m) := by rw [show (163 : Int32) = nI 163 from rfl, show (2 : Int32) = nI 2 from rfl, pk_mul, nI_add]
    rw [g_X7_counts_10, nI_pred]
    dsimp only
    rw [if_neg (nI_pos (by omega)), e1, if_pos (p_inT (by omega) (by omega)), nI_clamp (by omega), cntI]
    by_cases h : u 111 (163 + 2 * m) / 1000 = key
    · rw [if_pos h, if_pos h]
    · rw [if_neg h, if_neg h, p_let, ← Int32.sub_eq_add_neg]
      exact ih n (by omega) (by omega)
/-- the reference's law for a key, in the array A (now) -/
def LawM (A : Nat → Int32) (key nn : Nat) (o : LW) : Prop := ∃ m : Nat, m ≤ 14 ∧ A 6 = nI m ∧ match o with
  | none => cntI A m (nI key) = -1
  | some q => ∃ t k' : Nat, t < 14 ∧ k' < 3 ∧ cntI A m (nI key) = nI t ∧ VP q.1 q.2.1 q.2.2 ∧ names nn q.1 q.2.1 ∧ A (163 + 2 * t) = nI (1000 * k' + q.2.1) ∧ ∀ k, k < q.2.1 → A (191 + 96 * t + k) = q.1 k
theorem cntI_congr {A B : Nat → Int32} (h : ∀ j, 163 ≤ j → A j = B j) : ∀ (m : Nat) (k : Int32), cntI A m k = cntI B m k := by
  intro m
  induction m with
  | zero => intro k; rfl
  | succ m ih => intro k; rw [cntI, cntI, h _ (by omega), ih]
theorem LawM_congr {A B : Nat → Int32} {key nn : Nat} {o : LW} (h6 : A 6 = B 6) (h : ∀ j, 163 ≤ j → A j = B j) (hl : LawM A key nn o) : LawM B key nn o := by
  obtain ⟨m, h1, h2, h3⟩ := hl
  refine ⟨m, h1, by rw [← h6]; exact h2, ?_⟩
  cases o with
  | none => rw [← cntI_congr h]; exact h3
  | some q =>
    obtain ⟨t, k', a1, a2, a3, a4, a5, a6, a7⟩ := h3
    exact ⟨t, k', a1, a2, by rw [← cntI_congr h]; exact a3, a4, a5, by rw [← h _ (by omega)]; exact a6, fun k hk => by rw [← h _ (by omega)]; exact a7 k hk⟩
/-- the class's law for a key, in the world w -/
def LawC (u : am_MU) (w key nn : Nat) (o : LW) : Prop := match o with
  | none => u (w + 2) key = -1000000005
  | some q => ∃ t : Nat, t < 14 ∧ u (w + 2) key = nI t ∧ VP q.1 q.2.1 q.2.2 ∧ names nn q.1 q.2.1 ∧ u (49 + 2 * t) 2 = nI q.2.1 ∧ ∀ k, k < q.2.1 → u (50 + 2 * t) k = trc (q.1 k)
/-- what the reference does with a law: facts are laid, the text that counts is worked out -/
theorem p_X7_law {key nn : Nat} {o : LW} (hk : key < 3) {u : am_MU} (hl : LawM (u 111) key nn o) : ∃ c, f_X7_counts u (nI key) = some (u, c) ∧ (match o with
    | none => ¬ 0 ≤ c
    | some q => 0 ≤ c ∧ ∀ (u1 : am_MU) (a b d : Int32), u1 111 = u 111 → (∀ j, j < nn → u1 123 j = F3 a b d j) → ∃ u2, f_X7_worksOut u1 c = some (u2, vl q.1 (F3 a b d) q.2.1) ∧ same [122] u1 u2) := by
  obtain ⟨m, h1, h2, h3⟩ := hl
  have e : f_X7_counts u (nI key) = some (u, cntI (u 111) m (nI key)) := by
    unfold f_X7_counts
    rw [p_let, h2]
    exact p_X7_counts u (nI key) m 1700 h1 (by omega)
  refine ⟨_, e, ?_⟩
  cases o with
  | none =>
    have h3 : cntI (u 111) m (nI key) = -1 := h3
    show ¬ 0 ≤ cntI (u 111) m (nI key)
    rw [h3]; decide
  | some q =>
    obtain ⟨t, k', a1, a2, a3, a4, a5, a6, a7⟩ := h3
    refine ⟨by show 0 ≤ cntI (u 111) m (nI key); rw [a3]; exact nI_pos' (by omega), fun u1 a b d g1 g2 => ?_⟩
    show ∃ u2, f_X7_worksOut u1 (cntI (u 111) m (nI key)) = _ ∧ _
    rw [a3]
    obtain ⟨u2, r1, r2⟩ := p_X7_worksOut (F := u1 123) a4 a1 a2 u1 (by rw [g1]; exact a6) (fun k hk => by rw [g1]; exact a7 k hk) (fun j _ => rfl)
    refine ⟨u2, ?_, r2⟩
    rw [r1]
    unfold vl
    rw [stk_congr a4 a5 g2 _ (Nat.le_refl _)]
theorem p_X6_within (u : am_MU) (v a b : Int32) : f_X6_within u v a b = some (u, if a < (if b < v then b else v) then (if b < v then b else v) else a) := by
  unfold f_X6_within
  rw [p_min, p_some, p_max, p_some]
theorem p_wi {v a b : Int32} (h : a ≤ b) : (if a < (if b < v then b else v) then (if b < v then b else v) else a) = wiI v a b := by
  unfold wiI
  simp only [Int32.lt_iff_toInt_lt, Int32.le_iff_toInt_le] at *
  by_cases h1 : b.toInt < v.toInt
  · rw [if_pos h1, if_pos (show a.toInt ≤ v.toInt by omega), if_neg (show ¬ v.toInt ≤ b.toInt by omega)]
    by_cases h2 : a.toInt < b.toInt
    · rw [if_pos h2]
    · rw [if_neg h2]
      exact Int32.toInt_inj.mp (by omega)
  · rw [if_neg h1]
    by_cases h2 : a.toInt < v.toInt
    · rw [if_pos h2, if_pos (show a.toInt ≤ v.toInt by omega), if_pos (show v.toInt ≤ b.toInt by omega)]
    · rw [if_neg h2]
      by_cases h3 : a.toInt ≤ v.toInt
      · rw [if_pos h3, if_pos (show v.toInt ≤ b.toInt by omega)]
        exact Int32.toInt_inj.mp (by omega)
      · rw [if_neg h3]
