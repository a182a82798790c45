/-! PURE: what the decompiled functions compute. Ints that count are nI n. -/
theorem p_i24 : (24 : Int32) = nI 24 := rfl
theorem p_let {α β : Type} (x : α) (k : α → Option β) : am_let x k = k x := rfl
theorem p_some {α β : Type} (x : α) (k : α → Option β) : (some x).bind k = k x := rfl
theorem p_in {k n : Nat} (hk : k < 2 ^ 31) : am_in (nI k) n = decide (k < n) := by
  unfold am_in
  rw [nI_clamp hk, decide_eq_true (nI_pos' hk), Bool.true_and]
theorem p_inT {k n : Nat} (hk : k < 2 ^ 31) (h : k < n) : am_in (nI k) n = true := by rw [p_in hk]; exact decide_eq_true h
theorem p_is {α : Type} {c : Prop} [Decidable c] (a b : α) : (if c then some a else some b) = some (if c then a else b) := by split <;> rfl
/-- memory: read behind a write -/
theorem u2_same (u : am_MU) (a i : Nat) (v : Int32) : am_u2 u a i v a i = v := by simp [am_u2, am_ur, upd]
theorem u2_row (u : am_MU) (a i : Nat) (v : Int32) : am_u2 u a i v a = upd (u a) i v := by simp [am_u2, am_ur]
theorem u2_ne (u : am_MU) {a b i : Nat} (v : Int32) (h : b ≠ a) : am_u2 u a i v b = u b := by simp [am_u2, am_ur, h]
theorem u2_nei (u : am_MU) {a b i j : Nat} (v : Int32) (h : b ≠ a ∨ j ≠ i) : am_u2 u a i v b j = u b j := by
  by_cases hb : b = a
  · subst hb
    rcases h with h | h
    · exact absurd rfl h
    · simp [am_u2, am_ur, upd, h]
  · rw [u2_ne u v hb]
theorem ur_row (u : am_MU) (a : Nat) (f : Nat → Int32) : am_ur u a f a = f := by simp [am_ur]
theorem ur_ne (u : am_MU) {a b : Nat} (f : Nat → Int32) (h : b ≠ a) : am_ur u a f b = u b := by simp [am_ur, h]
theorem ur_self (u : am_MU) (a : Nat) : am_ur u a (u a) = u := am_ur_self u a
theorem ur_ur (u : am_MU) (a : Nat) (f g : Nat → Int32) : am_ur (am_ur u a f) a g = am_ur u a g := by
  funext b
  by_cases h : b = a
  · subst h; rw [ur_row, ur_row]
  · rw [ur_ne _ _ h, ur_ne _ _ h, ur_ne _ _ h]
theorem u2_ur (u : am_MU) (a i : Nat) (f : Nat → Int32) (v : Int32) : am_u2 (am_ur u a f) a i v = am_ur u a (upd f i v) := by
  unfold am_u2
  rw [ur_row, ur_ur]
/-- the reference's helpers -/
theorem p_X7_in (u : am_MU) (a b c : Int32) : f_X7_in u a b c = some (u, if a < b ∨ c < a then 0 else 1) := by
  unfold f_X7_in
  by_cases h1 : a < b
  · simp [h1]
  · by_cases h2 : c < a
    · simp [h1, h2]
    · simp [h1, h2]
theorem p_X7_at (u : am_MU) (f : Nat) : f_X7_at u (nI f) = some (u, nI (7 + 26 * f)) := by
  unfold f_X7_at
  rw [show (7 : Int32) = nI 7 from rfl, show (26 : Int32) = nI 26 from rfl, pk_mul, nI_add]
theorem p_rem24 {m : Nat} (h : m < 2 ^ 31) : nI m - nI m / (24 : Int32) * (24 : Int32) = nI (m % 24) := by
  rw [p_i24]; exact pk_rem h (by decide) (by decide)
theorem p_X7_spot (u : am_MU) (f m : Nat) (x : Int32) (hx : x + 48 = nI m) (hm : m < 2 ^ 31) : f_X7_spot u (nI f) x = some (u, nI (9 + 26 * f + m % 24)) := by
  unfold f_X7_spot
  rw [p_X7_at, p_some, hx, p_rem24 hm]
  simp only
  rw [show (2 : Int32) = nI 2 from rfl, nI_add, nI_add]
  congr 3
  omega
theorem p_48 (c : Nat) : nI c + 48 = nI (c + 48) := by rw [show (48 : Int32) = nI 48 from rfl, nI_add]
theorem p_m1_48 (c : Nat) : nI c - 1 + 48 = nI (c + 47) := by
  rw [Int32.sub_eq_add_neg, Int32.add_assoc, show (-1 : Int32) + 48 = nI 47 from by decide, nI_add]
theorem p_p1_48 (c : Nat) : nI c + 1 + 48 = nI (c + 49) := by rw [nI_1, p_48]
theorem p_X7_sandOf (u : am_MU) (f m : Nat) (x : Int32) (hf : f < 6) (hx : x + 48 = nI m) (hm : m < 2 ^ 31) : f_X7_sandOf u (nI f) x = some (u, u 111 (9 + 26 * f + m % 24)) := by
  have hb : 9 + 26 * f + m % 24 < 1535 := by omega
  unfold f_X7_sandOf
  rw [p_X7_spot u f m x hx hm, p_some]
  simp only
  rw [if_pos (p_inT (by omega) hb), nI_clamp (by omega)]
/-- rows: the sand of a floor, 0 outside -/
def cut (r : Nat → Int32) : Nat → Int32 := fun c => if c < 24 then r c else 0
theorem cut_lt {r : Nat → Int32} {c : Nat} (h : c < 24) : cut r c = r c := by simp [cut, h]
/-- the reference's row of floor f in the array A -/
def rm (u : am_MU) (A f : Nat) : Nat → Int32 := cut (fun c => u A (9 + 26 * f + c))
/-- the class's row of the floor at a -/
def rc (u : am_MU) (a : Nat) : Nat → Int32 := cut (u (a + 1))
theorem p_sand0 (u : am_MU) {f c : Nat} (hf : f < 6) (hc : c < 24) : f_X7_sandOf u (nI f) (nI c) = some (u, rm u 111 f c) := by
  rw [p_X7_sandOf u f (c + 48) (nI c) hf (p_48 c) (by omega), show (c + 48) % 24 = c by omega, rm, cut_lt hc]
theorem p_sandM (u : am_MU) {f c : Nat} (hf : f < 6) (hc : c < 24) : f_X7_sandOf u (nI f) (nI c - 1) = some (u, rm u 111 f ((c + 23) % 24)) := by
  rw [p_X7_sandOf u f (c + 47) _ hf (p_m1_48 c) (by omega), show (c + 47) % 24 = (c + 23) % 24 by omega, rm, cut_lt (by omega)]
theorem p_sandP (u : am_MU) {f c : Nat} (hf : f < 6) (hc : c < 24) : f_X7_sandOf u (nI f) (nI c + 1) = some (u, rm u 111 f ((c + 1) % 24)) := by
  rw [p_X7_sandOf u f (c + 49) _ hf (p_p1_48 c) (by omega), show (c + 49) % 24 = (c + 1) % 24 by omega, rm, cut_lt (by omega)]
/-- crests -/
def crI (r : Nat → Int32) (c : Nat) : Int32 := if r c ≤ r ((c + 23) % 24) ∨ r c < r ((c + 1) % 24) then 0 else 1
def sm (f : Nat → Int32) : Nat → Int32
  | 0 => 0
  | n + 1 => sm f n + f n
theorem p_X7_isCrest (u : am_MU) {f c : Nat} (hf : f < 6) (hc : c < 24) : f_X7_isCrest u (nI f) (nI c) = some (u, crI (rm u 111 f) c) := by
  unfold f_X7_isCrest
  simp only [p_sand0 u hf hc, p_sandM u hf hc, p_sandP u hf hc, p_some]
  unfold crI
  by_cases h1 : rm u 111 f c ≤ rm u 111 f ((c + 23) % 24)
  · simp [h1]
  · by_cases h2 : rm u 111 f c < rm u 111 f ((c + 1) % 24)
    · simp [h1, h2]
    · simp [h1, h2]
theorem p_ge24 {c : Nat} (h : c < 24) : ¬ (24 : Int32) ≤ nI c := by rw [p_i24]; exact nI_ge h (by decide)
theorem p_crI (r : Nat → Int32) (c : Nat) : crI r c = 0 ∨ crI r c = 1 := by unfold crI; split <;> simp
theorem p_X7_crestsL (u : am_MU) {f : Nat} (hf : f < 6) : ∀ (m c n : Nat), c + m = 24 → m < n → g_X7_crestsOf_4 n u (nI f) (sm (crI (rm u 111 f)) c) (nI c) = some (u, sm (crI (rm u 111 f)) 24) := by
  intro m
  induction m with
  | zero =>
    intro c n h1 h2
    obtain ⟨n, rfl⟩ : ∃ k, n = k + 1 := ⟨n - 1, by omega⟩
    obtain rfl : c = 24 := by omega
    rw [g_X7_crestsOf_4]
    dsimp only
    rw [if_pos (show (24 : Int32) ≤ nI 24 by decide)]
  | succ m ih =>
    intro c n h1 h2
    obtain ⟨n, rfl⟩ : ∃ k, n = k + 1 := ⟨n - 1, by omega⟩
    have hc : c < 24 := by omega
    have ih := ih (c + 1) n (by omega) (by omega)
    rw [g_X7_crestsOf_4]
    dsimp only
    rw [if_neg (p_ge24 hc)]
    rw [p_X7_isCrest u hf hc, p_some]
    simp only [g_X7_crestsOf_25, p_let, nI_1]
    rw [sm] at ih
    rcases p_crI (rm u 111 f) c with h | h
    · rw [h] at ih ⊢; rw [if_pos rfl]; exact ih
    · rw [h] at ih ⊢; rw [if_neg (by decide)]; exact ih
theorem p_X7_crests (u : am_MU) {f : Nat} (hf : f < 6) : f_X7_crestsOf u (nI f) = some (u, sm (crI (rm u 111 f)) 24) := p_X7_crestsL u hf 24 0 1700 rfl (by decide)
theorem p_X7_sumL (u : am_MU) {f : Nat} (hf : f < 6) : ∀ (m c n : Nat), c + m = 24 → m < n → g_X7_sumOf_4 n u (nI f) (sm (rm u 111 f) c) (nI c) = some (u, sm (rm u 111 f) 24) := by
  intro m
  induction m with
  | zero =>
    intro c n h1 h2
    obtain ⟨n, rfl⟩ : ∃ k, n = k + 1 := ⟨n - 1, by omega⟩
    obtain rfl : c = 24 := by omega
    rw [g_X7_sumOf_4]
    dsimp only
    rw [if_pos (show (24 : Int32) ≤ nI 24 by decide)]
  | succ m ih =>
    intro c n h1 h2
    obtain ⟨n, rfl⟩ : ∃ k, n = k + 1 := ⟨n - 1, by omega⟩
    have hc : c < 24 := by omega
    have ih := ih (c + 1) n (by omega) (by omega)
    rw [g_X7_sumOf_4]
    dsimp only
    rw [if_neg (p_ge24 hc)]
    rw [p_sand0 u hf hc, p_some]
    simp only [p_let, nI_1]
    exact ih
theorem p_X7_sum (u : am_MU) {f : Nat} (hf : f < 6) : f_X7_sumOf u (nI f) = some (u, sm (rm u 111 f) 24) := p_X7_sumL u hf 24 0 1700 rfl (by decide)
/-- which way it leans: signs of differences; numbers small enough do not wrap -/
def sgI (a b : Int32) : Int32 := if a < b then -1 else if a = b then 0 else 1
def ok20 (r : Nat → Int32) : Prop := ∀ c, 0 ≤ (r c).toInt ∧ (r c).toInt < 1048576
theorem p_sub_toInt {a b : Int32} (ha : 0 ≤ a.toInt) (ha2 : a.toInt < 1048576) (hb : 0 ≤ b.toInt) (hb2 : b.toInt < 1048576) : (a - b).toInt = a.toInt - b.toInt := by
  rw [Int32.toInt_sub]
  exact Int.bmod_eq_of_le (by omega) (by omega)
theorem p_le0 {x : Int32} : x ≤ 0 ↔ x.toInt ≤ 0 := by rw [Int32.le_iff_toInt_le]; rfl
theorem p_ge0 {x : Int32} : 0 ≤ x ↔ 0 ≤ x.toInt := by rw [Int32.le_iff_toInt_le]; rfl
theorem p_lt0 {x : Int32} : x < 0 ↔ x.toInt < 0 := by rw [Int32.lt_iff_toInt_lt]; rfl
theorem p_gt0 {x : Int32} : 0 < x ↔ 0 < x.toInt := by rw [Int32.lt_iff_toInt_lt]; rfl
def lnI (r : Nat → Int32) (c : Nat) : Int32 := sgI (r ((c + 1) % 24)) (r c)
theorem p_X7_leanL (u : am_MU) {f : Nat} (hf : f < 6) (ho : ok20 (rm u 111 f)) : ∀ (m c n : Nat), c + m = 24 → m < n → g_X7_leanOf_4 n u (nI f) (sm (lnI (rm u 111 f)) c) (nI c) = some (u, sm (lnI (rm u 111 f)) 24) := by
  intro m
  induction m with
  | zero =>
    intro c n h1 h2
    obtain ⟨n, rfl⟩ : ∃ k, n = k + 1 := ⟨n - 1, by omega⟩
    obtain rfl : c = 24 := by omega
    rw [g_X7_leanOf_4]
    dsimp only
    rw [if_pos (show (24 : Int32) ≤ nI 24 by decide)]
  | succ m ih =>
    intro c n h1 h2
    obtain ⟨n, rfl⟩ : ∃ k, n = k + 1 := ⟨n - 1, by omega⟩
    have hc : c < 24 := by omega
    have ih := ih (c + 1) n (by omega) (by omega)
    rw [g_X7_leanOf_4]
    dsimp only
    rw [if_neg (p_ge24 hc)]
    rw [p_sandP u hf hc, p_some, p_sand0 u hf hc, p_some]
    simp only [g_X7_leanOf_47, p_let, nI_1]
    rw [sm] at ih
    obtain ⟨q1, q2⟩ := ho ((c + 1) % 24)
    obtain ⟨q3, q4⟩ := ho c
    have e := p_sub_toInt q1 q2 q3 q4
    have e2 : lnI (rm u 111 f) c = (if rm u 111 f ((c + 1) % 24) - rm u 111 f c ≤ 0 then (if 0 ≤ rm u 111 f ((c + 1) % 24) - rm u 111 f c then 0 else -1) else 1) := by
      unfold lnI sgI
      simp only [p_le0, p_ge0, e, Int32.lt_iff_toInt_lt, ← Int32.toInt_inj]
      by_cases z1 : (rm u 111 f ((c + 1) % 24)).toInt < (rm u 111 f c).toInt
      · rw [if_pos z1, if_pos (by omega), if_neg (by omega)]
      · rw [if_neg z1]
        by_cases z2 : (rm u 111 f ((c + 1) % 24)).toInt = (rm u 111 f c).toInt
        · rw [if_pos z2, if_pos (by omega), if_pos (by omega)]
        · rw [if_neg z2, if_neg (by omega)]
    rw [e2] at ih
    split
    · rename_i z1
      rw [if_pos z1] at ih
      split
      · rename_i z2; rw [if_pos z2] at ih; exact ih
      · rename_i z2; rw [if_neg z2] at ih; exact ih
    · rename_i z1; rw [if_neg z1] at ih; exact ih
theorem p_X7_lean (u : am_MU) {f : Nat} (hf : f < 6) (ho : ok20 (rm u 111 f)) : f_X7_leanOf u (nI f) = some (u, sm (lnI (rm u 111 f)) 24) := p_X7_leanL u hf ho 24 0 1700 rfl (by decide)
/-- the greatest and the least of the first n -/
def mx (r : Nat → Int32) : Nat → Int32
  | 0 => r 0
  | n + 1 => if mx r n < r (n + 1) then r (n + 1) else mx r n
def mn (r : Nat → Int32) : Nat → Int32
  | 0 => r 0
  | n + 1 => if r (n + 1) < mn r n then r (n + 1) else mn r n
theorem p_X7_mxL (u : am_MU) {f : Nat} (hf : f < 6) : ∀ (m c n : Nat), c + m = 23 → m < n → g_X7_extremeOf_10 n u (nI f) 1 (mx (rm u 111 f) c) (nI (c + 1)) = some (u, mx (rm u 111 f) 23) := by
  intro m
  induction m with
  | zero =>
    intro c n h1 h2
    obtain ⟨n, rfl⟩ : ∃ k, n = k + 1 := ⟨n - 1, by omega⟩
    obtain rfl : c = 23 := by omega
    rw [g_X7_extremeOf_10]
    dsimp only
    rw [if_pos (show (24 : Int32) ≤ nI 24 by decide)]
  | succ m ih =>
    intro c n h1 h2
    obtain ⟨n, rfl⟩ : ∃ k, n = k + 1 := ⟨n - 1, by omega⟩
    have hc : c + 1 < 24 := by omega
    have ih := ih (c + 1) n (by omega) (by omega)
    rw [g_X7_extremeOf_10]
    dsimp only
    rw [if_neg (p_ge24 hc), p_sand0 u hf hc, p_some]
    simp only [g_X7_extremeOf_57, p_let, nI_1]
    rw [mx] at ih
    rw [if_neg (by decide)]
    split
    · rename_i z; rw [if_neg (Int32.not_lt.mpr z)] at ih; exact ih
    · rename_i z; rw [if_pos (Int32.not_le.mp z)] at ih; exact ih
theorem p_X7_mx (u : am_MU) {f : Nat} (hf : f < 6) : f_X7_extremeOf u (nI f) 1 = some (u, mx (rm u 111 f) 23) := by
  unfold f_X7_extremeOf
  rw [show (0 : Int32) = nI 0 from rfl, p_sand0 u hf (by decide), p_some]
  exact p_X7_mxL u hf 23 0 1700 rfl (by decide)
theorem p_X7_mnL (u : am_MU) {f : Nat} (hf : f < 6) : ∀ (m c n : Nat), c + m = 23 → m < n → g_X7_extremeOf_10 n u (nI f) 0 (mn (rm u 111 f) c) (nI (c + 1)) = some (u, mn (rm u 111 f) 23) := by
  intro m
  induction m with
  | zero =>
    intro c n h1 h2
    obtain ⟨n, rfl⟩ : ∃ k, n = k + 1 := ⟨n - 1, by omega⟩
    obtain rfl : c = 23 := by omega
    rw [g_X7_extremeOf_10]
    dsimp only
    rw [if_pos (show (24 : Int32) ≤ nI 24 by decide)]
  | succ m ih =>
    intro c n h1 h2
    obtain ⟨n, rfl⟩ : ∃ k, n = k + 1 := ⟨n - 1, by omega⟩
    have hc : c + 1 < 24 := by omega
    have ih := ih (c + 1) n (by omega) (by omega)
    rw [g_X7_extremeOf_10]
    dsimp only
    rw [if_neg (p_ge24 hc), p_sand0 u hf hc, p_some]
    simp only [g_X7_extremeOf_57, p_let, nI_1]
    rw [mn] at ih
    rw [if_pos trivial]
    split
    · rename_i z; rw [if_neg (Int32.not_lt.mpr z)] at ih; exact ih
    · rename_i z; rw [if_pos (Int32.not_le.mp z)] at ih; exact ih
theorem p_X7_mn (u : am_MU) {f : Nat} (hf : f < 6) : f_X7_extremeOf u (nI f) 0 = some (u, mn (rm u 111 f) 23) := by
  unfold f_X7_extremeOf
  rw [show (0 : Int32) = nI 0 from rfl, p_sand0 u hf (by decide), p_some]
  exact p_X7_mnL u hf 23 0 1700 rfl (by decide)
