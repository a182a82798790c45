/-! a law's value: its code is a row of steps on a stack -/
def same (S : List Nat) (u u' : am_MU) : Prop := ∀ a, a ∉ S → u' a = u a
theorem same_rf {S : List Nat} {u : am_MU} : same S u u := fun _ _ => rfl
theorem same_tr {S : List Nat} {u v w : am_MU} (h1 : same S u v) (h2 : same S v w) : same S u w := fun a ha => (h2 a ha).trans (h1 a ha)
theorem same_mono {S T : List Nat} {u v : am_MU} (h : same S u v) (hs : ∀ a ∈ S, a ∈ T) : same T u v := fun a ha => h a (fun q => ha (hs a q))
theorem same_u2 {S : List Nat} (u : am_MU) (a i : Nat) (v : Int32) (ha : a ∈ S) : same S u (am_u2 u a i v) := fun b hb => u2_ne u v (fun e => hb (e ▸ ha))
def bn (x a b : Int32) : Int32 :=
  if x = -8 then a * b else if x = -7 then a - b else if x = -6 then a + b else if x = -5 then (if a ≤ b then 0 else 1) else if x = -4 then (if a = b then 1 else 0) else if x = -3 then (if b ≤ a then 0 else 1)
  else if x = -2 then (if a = 0 then 0 else if b = 0 then 0 else 1) else if x = -1 then (if a = 0 then (if b = 0 then 0 else 1) else 1) else (if b = 0 then 0 else a / b)
theorem p_X7_two (u : am_MU) (x a b : Int32) : f_X7_two u x a b = some (u, bn x a b) := by
  unfold f_X7_two bn
  repeat' split
  all_goals first | rfl | contradiction
def opB (x : Int32) : Prop := x = -1 ∨ x = -2 ∨ x = -3 ∨ x = -4 ∨ x = -5 ∨ x = -6 ∨ x = -7 ∨ x = -8 ∨ x = -9
def opL (x : Int32) : Prop := (∃ n : Nat, n < 10000 ∧ x = nI n) ∨ x = 10000 ∨ x = 10001 ∨ x = 10002
/-- the class's step for the reference's -/
def trc (x : Int32) : Int32 := if x = -1 then -124 else if x = -2 then -38 else if x = -3 then -60 else if x = -4 then -61 else if x = -5 then -62 else if x = -6 then -43 else if x = -7 then -45 else if x = -8 then -42 else if x = -9 then -47 else if x = -10 then -33 else if x = 10000 then -1 else if x = 10001 then -2 else if x = 10002 then -3 else x
theorem p_X4_joined (u : am_MU) {x : Int32} (h : opB x) (a b : Int32) : f_X4_joined u (-(trc x)) a b = some (u, bn x a b) := by
  rcases h with rfl | rfl | rfl | rfl | rfl | rfl | rfl | rfl | rfl
  · show f_X4_joined u 124 a b = some (u, if a = 0 then (if b = 0 then 0 else 1) else 1)
    simp only [f_X4_joined]
    repeat' split
    all_goals first | rfl | contradiction | (rename_i h _; exact absurd h (by decide)) | (exact absurd ‹_› (by decide))
  · show f_X4_joined u 38 a b = some (u, if a = 0 then 0 else if b = 0 then 0 else 1)
    simp only [f_X4_joined]
    repeat' split
    all_goals first | rfl | contradiction
  · show f_X4_joined u 60 a b = some (u, if b ≤ a then 0 else 1)
    simp only [f_X4_joined]
    repeat' split
    all_goals first | rfl | contradiction
  · show f_X4_joined u 61 a b = some (u, if a = b then 1 else 0)
    simp only [f_X4_joined]
    repeat' split
    all_goals first | rfl | contradiction
  · show f_X4_joined u 62 a b = some (u, if a ≤ b then 0 else 1)
    simp only [f_X4_joined]
    repeat' split
    all_goals first | rfl | contradiction
  · rfl
  · rfl
  · rfl
  · show f_X4_joined u 47 a b = some (u, if b = 0 then 0 else a / b)
    simp only [f_X4_joined]
    by_cases hb : b = 0
    · simp [hb]
    · simp [hb]
def nt (a : Int32) : Int32 := if a = 0 then 1 else 0
/-- one step -/
def stp (x : Int32) (F : Nat → Int32) (s : List Int32) : List Int32 :=
  if x = -10 then (match s with | a :: s => nt a :: s | [] => [])
  else if x < 0 then (match s with | b :: a :: s => bn x a b :: s | s => s)
  else if 10000 ≤ x then F (x - 10000).toNatClampNeg :: s else x :: s
def stk (code F : Nat → Int32) : Nat → List Int32
  | 0 => []
  | k + 1 => stp (code k) F (stk code F k)
/-- a code that can be worked out: before step k the stack is hg k high -/
def VP (code : Nat → Int32) (len : Nat) (hg : Nat → Nat) : Prop := len ≤ 96 ∧ hg 0 = 0 ∧ hg len = 1 ∧ ∀ k, k < len → (opL (code k) ∧ hg (k + 1) = hg k + 1) ∨ (code k = -10 ∧ 1 ≤ hg k ∧ hg (k + 1) = hg k) ∨ (opB (code k) ∧ 2 ≤ hg k ∧ hg (k + 1) + 1 = hg k)
def vl (code F : Nat → Int32) (len : Nat) : Int32 := (stk code F len).headD 0
theorem opB_lt {x : Int32} (h : opB x) : x < 0 ∧ ¬ x = -10 := by rcases h with rfl | rfl | rfl | rfl | rfl | rfl | rfl | rfl | rfl <;> decide
theorem p_big : ∀ n : Nat, n < 10000 → ¬ (10000 : Int32) ≤ nI n := fun n hn => by
  rw [show (10000 : Int32) = nI 10000 from rfl]; exact nI_ge hn (by decide)
theorem stp_L {x : Int32} (h : opL x) (F : Nat → Int32) (s : List Int32) : ¬ x = -10 ∧ ¬ x < 0 ∧ stp x F s = (if 10000 ≤ x then F (x - 10000).toNatClampNeg else x) :: s := by
  have h1 : ¬ x = -10 ∧ ¬ x < 0 := by
    rcases h with ⟨n, hn, rfl⟩ | rfl | rfl | rfl
    · exact ⟨fun e => nI_pos (show n < 2 ^ 31 by omega) (by rw [e]; decide), nI_pos (by omega)⟩
    · decide
    · decide
    · decide
  refine ⟨h1.1, h1.2, ?_⟩
  unfold stp
  rw [if_neg h1.1, if_neg h1.2]
  split <;> rfl
theorem stk_len {code F : Nat → Int32} {len : Nat} {hg : Nat → Nat} (h : VP code len hg) : ∀ k, k ≤ len → (stk code F k).length = hg k := by
  intro k
  induction k with
  | zero => intro _; exact h.2.1.symm
  | succ k ih =>
    intro hk
    have ih := ih (by omega)
    rw [stk]
    rcases h.2.2.2 k (by omega) with ⟨q1, q2⟩ | ⟨q1, q2, q3⟩ | ⟨q1, q2, q3⟩
    · rw [(stp_L q1 F _).2.2, List.length_cons, ih, q2]
    · unfold stp
      rw [if_pos q1]
      cases hs : stk code F k with
      | nil => rw [hs] at ih; simp at ih; omega
      | cons a s => rw [hs] at ih; simp at ih ⊢; omega
    · unfold stp
      rw [if_neg (opB_lt q1).2, if_pos (opB_lt q1).1]
      match hs : stk code F k with
      | [] => rw [hs] at ih; simp at ih; omega
      | [a] => rw [hs] at ih; simp at ih; omega
      | b :: a :: s => rw [hs] at ih; simp at ih ⊢; omega
/-- the array holds the stack, its bottom first -/
def RS (row : Nat → Int32) : List Int32 → Prop
  | [] => True
  | a :: s => row s.length = a ∧ RS row s
theorem RS_upd {row : Nat → Int32} {n : Nat} {x : Int32} : ∀ {s : List Int32}, s.length ≤ n → RS row s → RS (upd row n x) s
  | [], _, _ => trivial
  | a :: s, hn, h => by
    rw [List.length_cons] at hn
    refine ⟨?_, RS_upd (by omega) h.2⟩
    have : ¬ s.length = n := by omega
    simp [upd, this]; exact h.1
theorem RS_push {row : Nat → Int32} {x : Int32} {s : List Int32} (h : RS row s) : RS (upd row s.length x) (x :: s) := ⟨by simp [upd], RS_upd (Nat.le_refl _) h⟩
theorem p_X7_wk {code F : Nat → Int32} {len t : Nat} {hg : Nat → Nat} (hV : VP code len hg) (ht : t < 14) : ∀ (m k n : Nat) (u : am_MU), k + m = len → m < n → (∀ k, k < len → u 111 (191 + 96 * t + k) = code k) → (∀ j, j < 3 → u 123 j = F j) → RS (u 122) (stk code F k) → ∃ u', g_X7_worksOut_22 n u (nI t) (nI (hg k)) (nI len) (nI k) = some (u', vl code F len) ∧ same [122] u u' := by
  intro m
  induction m with
  | zero =>
    intro k n u h1 h2 hcode hF hR
    obtain ⟨n, rfl⟩ : ∃ z, n = z + 1 := ⟨n - 1, by omega⟩
    obtain rfl : k = len := by omega
    refine ⟨u, ?_, same_rf⟩
    rw [g_X7_worksOut_22]
    dsimp only
    rw [if_pos (nI_le (Nat.le_refl _) (by have := hV.1; omega))]
    have hl := stk_len (F := F) hV k (Nat.le_refl _)
    rw [hV.2.2.1] at hl
    unfold vl
    match hs : stk code F k with
    | [] => rw [hs] at hl; simp at hl
    | [a] => rw [hs] at hR; rw [show u 122 0 = a from hR.1]; rfl
    | a :: b :: s => rw [hs] at hl; simp at hl
  | succ m ih =>
    intro k n u h1 h2 hcode hF hR
    obtain ⟨n, rfl⟩ : ∃ z, n = z + 1 := ⟨n - 1, by omega⟩
    have hk : k < len := by omega
    have h96 := hV.1
    have hl := stk_len (F := F) hV k (by omega)
    have hl1 := stk_len (F := F) hV (k + 1) (by omega)
    have e1 : (191 : Int32) + 96 * nI t + nI k = nI (191 + 96 * t + k) := by rw [show (191 : Int32) = nI 191 from rfl, show (96 : Int32) = nI 96 from rfl, pk_mul, nI_add, nI_add]
    have hgk : hg k ≤ k := by
      have : ∀ j, j ≤ len → hg j ≤ j := by
        intro j
        induction j with
        | zero => intro _; rw [hV.2.1]; exact Nat.le_refl _
        | succ j ihj =>
          intro hj
          have := ihj (by omega)
          rcases hV.2.2.2 j (by omega) with q | q | q <;> omega
      exact this k (by omega)
    rw [g_X7_worksOut_22]
    dsimp only
    rw [if_neg (nI_ge hk (by omega)), e1, if_pos (p_inT (by omega) (by omega)), nI_clamp (by omega), hcode k hk, p_let]
    have hst : stk code F (k + 1) = stp (code k) F (stk code F k) := rfl
    rcases hV.2.2.2 k hk with ⟨q1, q2⟩ | ⟨q1, q2, q3⟩ | ⟨q1, q2, q3⟩
    · obtain ⟨z1, z2, z3⟩ := stp_L q1 F (stk code F k)
      rw [if_neg z2]
      have fin : ∀ v, (if 10000 ≤ code k then F (code k - 10000).toNatClampNeg else code k) = v → ∃ u', g_X7_worksOut_80 (g_X7_worksOut_22 n) u (nI t) (nI (hg k)) (nI len) (nI k) (nI (hg k)) v = some (u', vl code F len) ∧ same [122] u u' := by
        intro v hv
        unfold g_X7_worksOut_80
        rw [if_pos (p_inT (by omega) (by omega)), nI_clamp (by omega)]
        simp only [p_let, g_X7_worksOut_151, nI_1]
        rw [← q2]
        obtain ⟨u', r1, r2⟩ := ih (k + 1) n (am_u2 u 122 (hg k) v) (by omega) (by omega) (fun j hj => by rw [u2_ne _ _ (by decide)]; exact hcode j hj) (fun j hj => by rw [u2_ne _ _ (by decide)]; exact hF j hj) (by rw [u2_row, hst, z3, hv, ← hl]; exact RS_push hR)
        exact ⟨u', r1, same_tr (same_u2 u 122 _ v (by decide)) r2⟩
      by_cases hbig : 10000 ≤ code k
      · rw [if_pos hbig]
        rw [if_pos hbig] at fin
        rcases q1 with ⟨j, hj, ej⟩ | ej | ej | ej
        · rw [ej] at hbig; exact absurd hbig (p_big j hj)
        · rw [ej] at fin ⊢
          rw [if_pos (by decide), show ((10000 : Int32) - 10000).toNatClampNeg = 0 from by decide, hF 0 (by decide)]
          exact fin _ (by rw [show ((10000 : Int32) - 10000).toNatClampNeg = 0 from by decide])
        · rw [ej] at fin ⊢
          rw [if_pos (by decide), show ((10001 : Int32) - 10000).toNatClampNeg = 1 from by decide, hF 1 (by decide)]
          exact fin _ (by rw [show ((10001 : Int32) - 10000).toNatClampNeg = 1 from by decide])
        · rw [ej] at fin ⊢
          rw [if_pos (by decide), show ((10002 : Int32) - 10000).toNatClampNeg = 2 from by decide, hF 2 (by decide)]
          exact fin _ (by rw [show ((10002 : Int32) - 10000).toNatClampNeg = 2 from by decide])
      · rw [if_neg hbig]
        rw [if_neg hbig] at fin
        exact fin _ rfl
    · rw [q1, if_pos (by decide), if_pos rfl]
      obtain ⟨g, eg⟩ : ∃ g, hg k = g + 1 := ⟨hg k - 1, by omega⟩
      rw [eg, nI_pred, if_pos (p_inT (by omega) (by omega)), nI_clamp (by omega)]
      match hs : stk code F k with
      | [] => rw [hs] at hl; simp at hl; omega
      | a :: s =>
        rw [hs] at hl hR
        have hsl : s.length = g := by simp at hl; omega
        have ea : u 122 g = a := by rw [← hsl]; exact hR.1
        have key : ∃ u', g_X7_worksOut_117 (g_X7_worksOut_22 n) u (nI t) (nI (g + 1)) (nI len) (nI k) (nI g) (nt a) = some (u', vl code F len) ∧ same [122] u u' := by
          unfold g_X7_worksOut_117
          rw [if_pos (p_inT (by omega) (by omega)), nI_clamp (by omega)]
          simp only [p_let, g_X7_worksOut_151, nI_1]
          rw [← eg, ← q3]
          obtain ⟨u', r1, r2⟩ := ih (k + 1) n (am_u2 u 122 g (nt a)) (by omega) (by omega) (fun j hj => by rw [u2_ne _ _ (by decide)]; exact hcode j hj) (fun j hj => by rw [u2_ne _ _ (by decide)]; exact hF j hj) (by
            rw [u2_row, hst, hs, q1, ← hsl]
            exact RS_push hR.2)
          exact ⟨u', r1, same_tr (same_u2 u 122 _ _ (by decide)) r2⟩
        rw [ea]
        by_cases ha : a = 0
        · rw [if_pos ha]; rw [nt, if_pos ha] at key; exact key
        · rw [if_neg ha]; rw [nt, if_neg ha] at key; exact key
    · rw [if_pos (opB_lt q1).1, if_neg (opB_lt q1).2]
      obtain ⟨g, eg⟩ : ∃ g, hg k = g + 2 := ⟨hg k - 2, by omega⟩
      rw [eg, show nI (g + 2) + (-1) = nI (g + 1) from pk_m1 (g + 1)]
      simp only [p_let, nI_pred]
      rw [if_pos (p_inT (by omega) (by omega)), if_pos (p_inT (by omega) (by omega)), nI_clamp (by omega), nI_clamp (by omega), p_X7_two, p_some]
      simp only [p_let, g_X7_worksOut_151, nI_1]
      match hs : stk code F k with
      | [] => rw [hs] at hl; simp at hl; omega
      | [a] => rw [hs] at hl; simp at hl; omega
      | b :: a :: s =>
        rw [hs] at hl hR
        have hsl : s.length = g := by simp at hl; omega
        have eb : u 122 (g + 1) = b := by rw [← hsl]; exact hR.1
        have ea : u 122 g = a := by rw [← hsl]; exact hR.2.1
        rw [ea, eb]
        have e3 : hg (k + 1) = g + 1 := by omega
        obtain ⟨u', r1, r2⟩ := ih (k + 1) n (am_u2 u 122 g (bn (code k) a b)) (by omega) (by omega) (fun j hj => by rw [u2_ne _ _ (by decide)]; exact hcode j hj) (fun j hj => by rw [u2_ne _ _ (by decide)]; exact hF j hj) (by
            rw [u2_row, hst, hs, ← hsl]
            unfold stp
            rw [if_neg (opB_lt q1).2, if_pos (opB_lt q1).1]
            exact RS_push hR.2.2)
        rw [e3] at r1
        exact ⟨u', r1, same_tr (same_u2 u 122 _ _ (by decide)) r2⟩
