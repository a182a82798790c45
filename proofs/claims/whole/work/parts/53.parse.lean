/-! THE PARSER, ABSTRACT: the tape t of n bytes -/
abbrev isL (c : Int32) : Prop := ¬ c < 97 ∧ ¬ 122 < c
abbrev isD (c : Int32) : Prop := ¬ c < 48 ∧ ¬ 57 < c
abbrev inW (c : Int32) : Prop := isL c ∨ isD c
theorem LD {c : Int32} (h : isL c) : ¬ isD c := fun q => by
  have h1 := h.1
  have h2 := q.2
  rw [Int32.lt_iff_toInt_lt] at h1 h2
  have e1 : (97 : Int32).toInt = 97 := by decide
  have e2 : (57 : Int32).toInt = 57 := by decide
  omega
theorem W32 : ¬ inW 32 := by decide
def sk (t : Nat → Int32) (n : Nat) : Nat → Nat → Nat
  | 0, p => p
  | m + 1, p => if p < n ∧ t p = 32 then sk t n m (p + 1) else p
theorem sk_ge {t : Nat → Int32} {n : Nat} : ∀ m p, p ≤ sk t n m p := by
  intro m
  induction m with
  | zero => intro p; exact Nat.le_refl _
  | succ m ih => intro p; rw [sk]; split; · have := ih (p + 1); omega
                 · exact Nat.le_refl _
theorem sk_le {t : Nat → Int32} {n : Nat} : ∀ m p, p ≤ n → sk t n m p ≤ n := by
  intro m
  induction m with
  | zero => intro p h; exact h
  | succ m ih =>
    intro p h
    rw [sk]
    split
    · rename_i q; exact ih (p + 1) (by omega)
    · exact h
theorem sk_stop {t : Nat → Int32} {n : Nat} : ∀ m p, n ≤ p + m → ¬ (sk t n m p < n ∧ t (sk t n m p) = 32) := by
  intro m
  induction m with
  | zero => intro p h q; have : p < n := q.1; omega
  | succ m ih =>
    intro p h
    rw [sk]
    split
    · exact ih (p + 1) (by omega)
    · assumption
theorem sk_same {t : Nat → Int32} {n m p : Nat} (h : ¬ t p = 32) : sk t n m p = p := by
  cases m with
  | zero => rfl
  | succ m => rw [sk, if_neg (fun q => h q.2)]
abbrev cl (k : Nat) (c : Int32) : Prop := (k = 0 ∧ isL c) ∨ (k = 1 ∧ isD c)
def we (t : Nat → Int32) (n k : Nat) : Nat → Nat → Nat
  | 0, p => p
  | m + 1, p => if p < n ∧ cl k (t p) then we t n k m (p + 1) else p
theorem we_ge {t : Nat → Int32} {n k : Nat} : ∀ m p, p ≤ we t n k m p := by
  intro m
  induction m with
  | zero => intro p; exact Nat.le_refl _
  | succ m ih => intro p; rw [we]; split; · have := ih (p + 1); omega
                 · exact Nat.le_refl _
theorem we_le {t : Nat → Int32} {n k : Nat} : ∀ m p, p ≤ n → we t n k m p ≤ n := by
  intro m
  induction m with
  | zero => intro p h; exact h
  | succ m ih =>
    intro p h
    rw [we]
    split
    · rename_i q; exact ih (p + 1) (by omega)
    · exact h
theorem we_in {t : Nat → Int32} {n k : Nat} : ∀ m p j, p ≤ j → j < we t n k m p → cl k (t j) := by
  intro m
  induction m with
  | zero => intro p j h1 h2; have : j < p := h2; omega
  | succ m ih =>
    intro p j h1 h2
    rw [we] at h2
    by_cases q : p < n ∧ cl k (t p)
    · rw [if_pos q] at h2
      by_cases e : j = p
      · rw [e]; exact q.2
      · exact ih (p + 1) j (by omega) h2
    · rw [if_neg q] at h2; omega
def wend (t : Nat → Int32) (n f : Nat) : Nat := if isL (t f) then we t n 0 n (f + 1) else if isD (t f) then we t n 1 n (f + 1) else f + 1
theorem wend_gt (t : Nat → Int32) (n f : Nat) : f < wend t n f := by
  unfold wend
  split
  · exact we_ge n (f + 1)
  · split
    · exact we_ge n (f + 1)
    · exact Nat.lt_succ_self _
theorem wend_le {t : Nat → Int32} {n f : Nat} (h : f < n) : wend t n f ≤ n := by
  unfold wend
  split
  · exact we_le n (f + 1) h
  · split
    · exact we_le n (f + 1) h
    · exact h
theorem wend_in {t : Nat → Int32} {n f j : Nat} (h1 : f ≤ j) (h2 : j < wend t n f) : (isL (t f) → isL (t j)) ∧ (isD (t f) → isD (t j)) := by
  by_cases e : j = f
  · rw [e]; exact ⟨id, id⟩
  · unfold wend at h2
    by_cases l : isL (t f)
    · rw [if_pos l] at h2
      refine ⟨fun _ => ?_, fun d => absurd d (LD l)⟩
      rcases we_in n (f + 1) j (by omega) h2 with q | q
      · exact q.2
      · exact absurd q.1 (by decide)
    · rw [if_neg l] at h2
      refine ⟨fun q => absurd q l, fun d => ?_⟩
      rw [if_pos d] at h2
      rcases we_in n (f + 1) j (by omega) h2 with q | q
      · exact absurd q.1 (by decide)
      · exact q.2
theorem wend_last {t : Nat → Int32} {n f : Nat} : inW (t (wend t n f - 1)) ↔ inW (t f) := by
  have h := wend_gt t n f
  have w := wend_in (t := t) (n := n) (f := f) (j := wend t n f - 1) (by omega) (by omega)
  constructor
  · intro q
    by_cases z : inW (t f)
    · exact z
    · have z1 : ¬ isL (t f) := fun y => z (Or.inl y)
      have z2 : ¬ isD (t f) := fun y => z (Or.inr y)
      have e : wend t n f = f + 1 := by unfold wend; rw [if_neg z1, if_neg z2]
      rw [e] at q
      exact q
  · rintro (q | q)
    · exact Or.inl (w.1 q)
    · exact Or.inr (w.2 q)
/-- a number's value -/
def numv (t : Nat → Int32) (f : Nat) : Nat → Int32
  | 0 => 0
  | j + 1 => numv t f j * 10 + t (f + j) - 48
theorem dg_nI {c : Int32} (h : isD c) : ∃ d, d < 10 ∧ c = nI (48 + d) := by
  have h0 : ¬ c < 0 := fun q => h.1 (Int32.lt_trans q (by decide))
  obtain ⟨k, hk, e⟩ := nI_of2 (M := 57) (n := 57) (by decide) h0 (Int32.not_lt.mp h.2)
  have h1 := h.1
  rw [e] at h1
  have : 48 ≤ k := Nat.not_lt.mp (fun q => h1 (nI_lt q (by decide)))
  exact ⟨k - 48, by omega, by rw [e, show 48 + (k - 48) = k by omega]⟩
theorem numv_nI {t : Nat → Int32} {f : Nat} : ∀ j, j ≤ 4 → (∀ i, i < j → isD (t (f + i))) → ∃ m, m < 10 ^ j ∧ numv t f j = nI m := by
  intro j
  induction j with
  | zero => intro _ _; exact ⟨0, by decide, rfl⟩
  | succ j ih =>
    intro hj h
    obtain ⟨m, h1, h2⟩ := ih (by omega) (fun i hi => h i (by omega))
    obtain ⟨d, h3, h4⟩ := dg_nI (h j (by omega))
    refine ⟨m * 10 + d, ?_, ?_⟩
    · rw [Nat.pow_succ]; omega
    · rw [numv, h2, h4, show (10 : Int32) = nI 10 from rfl, pk_mul, nI_add, show (48 : Int32) = nI 48 from rfl, pk_sub (by omega)]
      congr 1
      omega
/-- ranks; waiting signs, the reference's codes -/
def rk (x : Int32) : Nat := if x = -1 then 1 else if x = -2 then 2 else if x < -5 then (if x < -7 then (if x < -9 then 6 else 5) else 4) else 3
def opOf (c : Int32) : Int32 := if c = 38 then -2 else if c = 42 then -8 else if c = 43 then -6 else if c = 45 then -7 else if c = 47 then -9 else if c = 60 then -3 else if c = 61 then -4 else if c = 62 then -5 else if c = 124 then -1 else 0
/-- the class's byte for a waiting sign -/
def sg (x : Int32) : Int32 := if x = -11 then 40 else - (trc x)
theorem opOf_B {c : Int32} (h : ¬ opOf c = 0) : opB (opOf c) ∧ sg (opOf c) = c := by
  unfold opOf at *
  by_cases h1 : c = 38
  · subst h1; exact ⟨by unfold opB; decide, by decide⟩
  rw [if_neg h1] at *
  by_cases h2 : c = 42
  · subst h2; exact ⟨by unfold opB; decide, by decide⟩
  rw [if_neg h2] at *
  by_cases h3 : c = 43
  · subst h3; exact ⟨by unfold opB; decide, by decide⟩
  rw [if_neg h3] at *
  by_cases h4 : c = 45
  · subst h4; exact ⟨by unfold opB; decide, by decide⟩
  rw [if_neg h4] at *
  by_cases h5 : c = 47
  · subst h5; exact ⟨by unfold opB; decide, by decide⟩
  rw [if_neg h5] at *
  by_cases h6 : c = 60
  · subst h6; exact ⟨by unfold opB; decide, by decide⟩
  rw [if_neg h6] at *
  by_cases h7 : c = 61
  · subst h7; exact ⟨by unfold opB; decide, by decide⟩
  rw [if_neg h7] at *
  by_cases h8 : c = 62
  · subst h8; exact ⟨by unfold opB; decide, by decide⟩
  rw [if_neg h8] at *
  by_cases h9 : c = 124
  · subst h9; exact ⟨by unfold opB; decide, by decide⟩
  rw [if_neg h9] at h
  exact absurd rfl h
theorem opB_rk {x : Int32} (h : opB x) : 1 ≤ rk x ∧ rk x ≤ 5 ∧ ¬ x = -11 ∧ ¬ x = -10 := by rcases h with rfl | rfl | rfl | rfl | rfl | rfl | rfl | rfl | rfl <;> decide
/-- signs that leave the stack: those of rank r and more, down to an open bracket -/
def stl (r : Nat) : List Int32 → (Nat → Int32) → Nat → List Int32 × (Nat → Int32) × Nat
  | [], c, n => ([], c, n)
  | x :: w, c, n => if x = -11 ∨ rk x < r then (x :: w, c, n) else stl r w (upd c n x) (n + 1)
def hd (w : List Int32) : Int32 := w.headD 0
/-- a stack that can be: a sign of two stands above what is done, and binds more; brackets and nots above what is due -/
def Dw : List Int32 → Prop
  | [] => True
  | x :: w => Dw w ∧ ((opB x ∧ ¬ hd w = -10 ∧ (opB (hd w) → rk (hd w) < rk x)) ∨ x = -11 ∨ x = -10)
/-- how many signs of two, brackets, nots -/
def nB : List Int32 → Nat
  | [] => 0
  | x :: w => nB w + (if x = -11 ∨ x = -10 then 0 else 1)
def lvW : List Int32 → Nat
  | [] => 0
  | x :: w => lvW w + (if x = -11 then 1 else 0)
def nN : List Int32 → Nat
  | [] => 0
  | x :: w => nN w + (if x = -10 then 1 else 0)
/-- a test waits in this bracket -/
def h3 : List Int32 → Prop
  | [] => False
  | x :: w => ¬ x = -11 ∧ ((¬ x = -10 ∧ rk x = 3) ∨ h3 w)
abbrev rule (x : Int32) (a b : Nat) : Prop := (opL x ∧ b = a + 1) ∨ (x = -10 ∧ 1 ≤ a ∧ b = a) ∨ (opB x ∧ 2 ≤ a ∧ b + 1 = a)
def PVh (c : Nat → Int32) (n h : Nat) : Prop := ∃ hg : Nat → Nat, hg 0 = 0 ∧ hg n = h ∧ ∀ k, k < n → rule (c k) (hg k) (hg (k + 1))
theorem PVh_snoc {c : Nat → Int32} {n h h' : Nat} {x : Int32} (q : PVh c n h) (r : rule x h h') : PVh (upd c n x) (n + 1) h' := by
  obtain ⟨hg, a1, a2, a3⟩ := q
  refine ⟨fun j => if j = n + 1 then h' else hg j, ?_, ?_, fun k hk => ?_⟩
  · show (if 0 = n + 1 then h' else hg 0) = 0
    rw [if_neg (by omega)]; exact a1
  · show (if n + 1 = n + 1 then h' else hg (n + 1)) = h'
    rw [if_pos rfl]
  · show rule (upd c n x k) (if k = n + 1 then h' else hg k) (if k + 1 = n + 1 then h' else hg (k + 1))
    rw [if_neg (show ¬ k = n + 1 by omega)]
    by_cases e : k = n
    · rw [e, upd_sm, if_pos rfl, a2]; exact r
    · rw [upd_ne e, if_neg (by omega)]; exact a3 k (by omega)
def nmK (nn : Nat) (c : Nat → Int32) (n : Nat) : Prop := ∀ k, k < n → ∀ j, j < 3 → c k = nI (10000 + j) → j < nn
theorem nmK_snoc {c : Nat → Int32} {n nn : Nat} {x : Int32} (q : nmK nn c n) (h : ∀ j, j < 3 → x = nI (10000 + j) → j < nn) : nmK nn (upd c n x) (n + 1) := by
  intro k hk j hj
  by_cases e : k = n
  · rw [e, upd_sm]; exact h j hj
  · rw [upd_ne e]; exact q k (by omega) j hj
theorem neg_nm {x : Int32} {nn : Nat} (h : x < 0) : ∀ j, j < 3 → x = nI (10000 + j) → j < nn := fun j hj e => by
  rw [e] at h
  exact absurd h (nI_pos (by omega))
/-- what settling keeps -/
theorem stl_ok {r nn : Nat} : ∀ (w : List Int32) (c : Nat → Int32) (n : Nat), Dw w → PVh c n (nB w + 1) → nmK nn c n → Dw (stl r w c n).1 ∧ PVh (stl r w c n).2.1 (stl r w c n).2.2 (nB (stl r w c n).1 + 1) ∧ nmK nn (stl r w c n).2.1 (stl r w c n).2.2 ∧ (stl r w c n).2.2 + (stl r w c n).1.length = n + w.length ∧ lvW (stl r w c n).1 = lvW w ∧ nN (stl r w c n).1 ≤ nN w ∧ ((stl r w c n).1 = [] ∨ hd (stl r w c n).1 = -11 ∨ rk (hd (stl r w c n).1) < r) := by
  intro w
  induction w with
  | nil => intro c n h1 h2 h3; exact ⟨h1, h2, h3, rfl, rfl, Nat.le_refl _, Or.inl rfl⟩
  | cons x w ih =>
    intro c n h1 h2 h3
    rw [stl]
    by_cases z : x = -11 ∨ rk x < r
    · rw [if_pos z]
      exact ⟨h1, h2, h3, rfl, rfl, Nat.le_refl _, Or.inr (z.elim Or.inl Or.inr)⟩
    · rw [if_neg z]
      have z1 : ¬ x = -11 := fun q => z (Or.inl q)
      have key : rule x (nB (x :: w) + 1) (nB w + 1) ∧ x < 0 ∧ (x :: w).length = w.length + 1 := by
        refine ⟨?_, ?_, rfl⟩
        · rcases h1.2 with q | q | q
          · right; right
            refine ⟨q.1, ?_, ?_⟩
            · rw [nB, if_neg (fun y => y.elim z1 (opB_rk q.1).2.2.2)]; omega
            · rw [nB, if_neg (fun y => y.elim z1 (opB_rk q.1).2.2.2)]
          · exact absurd q z1
          · right; left
            refine ⟨q, by omega, ?_⟩
            rw [nB, if_pos (Or.inr q)]
        · rcases h1.2 with q | q | q
          · exact (opB_lt q.1).1
          · exact absurd q z1
          · rw [q]; decide
      obtain ⟨a1, a2, a3, a4, a5, a6, a7⟩ := ih (upd c n x) (n + 1) h1.1 (PVh_snoc h2 key.1) (nmK_snoc h3 (neg_nm key.2.1))
      refine ⟨a1, a2, a3, by rw [a4, key.2.2]; omega, by rw [a5, lvW, if_neg z1]; rfl, ?_, a7⟩
      rw [nN]
      omega
/-- names -/
def nmI (key : Nat) (c : Int32) : Int32 := if key = 0 then (if c = 104 then 0 else if c = 115 then 1 else if c = 112 then 2 else -1) else if key = 1 then (if c = 100 then 0 else if c = 103 then 1 else -1) else (if c = 99 then 0 else if c = 104 then 1 else -1)
theorem nmI_in {key : Nat} (hk : key < 3) {c : Int32} (h : ¬ nmI key c < 0) : ∃ j, j < nnO key ∧ nmI key c = nI j := by
  rcases (show key = 0 ∨ key = 1 ∨ key = 2 by omega) with rfl | rfl | rfl
  · by_cases h1 : c = 104
    · subst h1; exact ⟨0, by decide, rfl⟩
    by_cases h2 : c = 115
    · subst h2; exact ⟨1, by decide, rfl⟩
    by_cases h3 : c = 112
    · subst h3; exact ⟨2, by decide, rfl⟩
    have : nmI 0 c = -1 := by unfold nmI; rw [if_pos rfl, if_neg h1, if_neg h2, if_neg h3]
    rw [this] at h; exact absurd (by decide) h
  · by_cases h1 : c = 100
    · subst h1; exact ⟨0, by decide, rfl⟩
    by_cases h2 : c = 103
    · subst h2; exact ⟨1, by decide, rfl⟩
    have : nmI 1 c = -1 := by unfold nmI; rw [if_neg (by decide), if_pos rfl, if_neg h1, if_neg h2]
    rw [this] at h; exact absurd (by decide) h
  · by_cases h1 : c = 99
    · subst h1; exact ⟨0, by decide, rfl⟩
    by_cases h2 : c = 104
    · subst h2; exact ⟨1, by decide, rfl⟩
    have : nmI 2 c = -1 := by unfold nmI; rw [if_neg (by decide), if_neg (by decide), if_neg h1, if_neg h2]
    rw [this] at h; exact absurd (by decide) h
/-- the parser's state: code, length, leaves, waiting signs, is a piece due -/
abbrev PS : Type := (Nat → Int32) × Nat × Nat × List Int32 × Bool
abbrev PS.c (x : PS) : Nat → Int32 := x.1
abbrev PS.n (x : PS) : Nat := x.2.1
abbrev PS.l (x : PS) : Nat := x.2.2.1
abbrev PS.w (x : PS) : List Int32 := x.2.2.2.1
abbrev PS.d (x : PS) : Bool := x.2.2.2.2
def pushS (x : Int32) (s : PS) : PS := (s.c, s.n, s.l, x :: s.w, true)
def leafS (x : Int32) (s : PS) : PS := ((stl 6 s.w (upd s.c s.n x) (s.n + 1)).2.1, (stl 6 s.w (upd s.c s.n x) (s.n + 1)).2.2, s.l + 1, (stl 6 s.w (upd s.c s.n x) (s.n + 1)).1, false)
def pieceS (t : Nat → Int32) (key f e : Nat) (s : PS) : Option PS :=
  if isD (t f) then (if e - f ≤ 4 then some (leafS (numv t f (e - f)) s) else none)
  else if isL (t f) then (if e - f = 1 then (if nmI key (t f) < 0 then none else some (leafS (10000 + nmI key (t f)) s)) else none)
  else if t f = 33 then (if nN s.w < 8 then some (pushS (-10) s) else none)
  else if t f = 40 then (if lvW s.w < 8 then some (pushS (-11) s) else none)
  else none
def closeS (s : PS) : PS := ((stl 6 (stl 0 s.w s.c s.n).1.tail (stl 0 s.w s.c s.n).2.1 (stl 0 s.w s.c s.n).2.2).2.1, (stl 6 (stl 0 s.w s.c s.n).1.tail (stl 0 s.w s.c s.n).2.1 (stl 0 s.w s.c s.n).2.2).2.2, s.l, (stl 6 (stl 0 s.w s.c s.n).1.tail (stl 0 s.w s.c s.n).2.1 (stl 0 s.w s.c s.n).2.2).1, false)
def opS (x : Int32) (s : PS) : PS := ((stl (rk x) s.w s.c s.n).2.1, (stl (rk x) s.w s.c s.n).2.2, s.l, x :: (stl (rk x) s.w s.c s.n).1, true)
def h3b : List Int32 → Bool
  | [] => false
  | x :: w => if x = -11 then false else if x = -10 then h3b w else if rk x = 3 then true else h3b w
def signS (c : Int32) (s : PS) : Option PS :=
  if c = 41 then (if lvW s.w = 0 then none else some (closeS s))
  else if opOf c = 0 then none
  else if rk (opOf c) = 3 ∧ h3b s.w = true then none
  else some (opS (opOf c) s)
def endS (s : PS) : PS := ((stl 0 s.w s.c s.n).2.1, (stl 0 s.w s.c s.n).2.2, s.l, (stl 0 s.w s.c s.n).1, false)
def stepS (t : Nat → Int32) (key to f e : Nat) (s : PS) : Option PS := if s.d = true then (if f = to ∧ inW (t (to - 1)) ∧ inW (t f) then none else pieceS t key f e s) else signS (t f) s
def runP (t : Nat → Int32) (n key : Nat) : Nat → Nat → PS → Nat × Option PS
  | 0, _, _ => (n, none)
  | m + 1, to, s => if n ≤ sk t n n to then (n, if s.d = true ∨ ¬ lvW s.w = 0 then none else some (endS s)) else
    match stepS t key to (sk t n n to) (wend t n (sk t n n to)) s with
    | none => (sk t n n to, none)
    | some s' => runP t n key m (wend t n (sk t n n to)) s'
/-- what holds of it -/
def PI (key : Nat) (to : Nat) (s : PS) : Prop := s.n + s.w.length + 4 ≤ to ∧ Dw s.w ∧ (s.d = false → ¬ hd s.w = -10) ∧ PVh s.c s.n (nB s.w + (if s.d = true then 0 else 1)) ∧ nmK (nnO key) s.c s.n ∧ lvW s.w ≤ 8 ∧ nN s.w ≤ 8
theorem PI_leaf {key to to' : Nat} {s : PS} {x : Int32} (h : PI key to s) (hd1 : s.d = true) (ht : to < to') (hx : opL x) (hn : ∀ j, j < 3 → x = nI (10000 + j) → j < nnO key) : PI key to' (leafS x s) := by
  obtain ⟨a1, a2, a3, a4, a5, a6, a7⟩ := h
  rw [if_pos hd1] at a4
  obtain ⟨b1, b2, b3, b4, b5, b6, b7⟩ := stl_ok (r := 6) s.w (upd s.c s.n x) (s.n + 1) a2 (PVh_snoc a4 (Or.inl ⟨hx, rfl⟩)) (nmK_snoc a5 hn)
  refine ⟨?_, b1, fun _ => ?_, b2, b3, ?_, ?_⟩
  · show (stl 6 s.w (upd s.c s.n x) (s.n + 1)).2.2 + (stl 6 s.w (upd s.c s.n x) (s.n + 1)).1.length + 4 ≤ to'
    omega
  · show ¬ hd (stl 6 s.w (upd s.c s.n x) (s.n + 1)).1 = -10
    rcases b7 with q | q | q
    · rw [q]; decide
    · rw [q]; decide
    · intro e; rw [e] at q; exact absurd q (by decide)
  · show lvW (stl 6 s.w (upd s.c s.n x) (s.n + 1)).1 ≤ 8
    omega
  · show nN (stl 6 s.w (upd s.c s.n x) (s.n + 1)).1 ≤ 8
    omega
theorem PI_push {key to to' : Nat} {s : PS} {x : Int32} (h : PI key to s) (hd1 : s.d = true) (ht : to < to') (hx : (x = -10 ∧ nN s.w < 8) ∨ (x = -11 ∧ lvW s.w < 8)) : PI key to' (pushS x s) := by
  obtain ⟨a1, a2, a3, a4, a5, a6, a7⟩ := h
  rw [if_pos hd1] at a4
  refine ⟨?_, ⟨a2, Or.inr (hx.elim (fun q => Or.inr q.1) (fun q => Or.inl q.1))⟩, fun q => absurd q (show ¬ true = false by decide), ?_, a5, ?_, ?_⟩
  · show s.n + (x :: s.w).length + 4 ≤ to'
    rw [List.length_cons]; omega
  · show PVh s.c s.n (nB (x :: s.w) + (if true = true then 0 else 1))
    rw [if_pos rfl, nB, if_pos (hx.elim (fun q => Or.inr q.1) (fun q => Or.inl q.1))]
    exact a4
  · show lvW (x :: s.w) ≤ 8
    rw [lvW]
    rcases hx with q | q
    · rw [if_neg (by rw [q.1]; decide)]; omega
    · rw [if_pos q.1]; omega
  · show nN (x :: s.w) ≤ 8
    rw [nN]
    rcases hx with q | q
    · rw [if_pos q.1]; omega
    · rw [if_neg (by rw [q.1]; decide)]; omega
theorem PI_op {key to to' : Nat} {s : PS} {x : Int32} (h : PI key to s) (hd1 : s.d = false) (ht : to < to') (hx : opB x) : PI key to' (opS x s) := by
  obtain ⟨a1, a2, a3, a4, a5, a6, a7⟩ := h
  rw [if_neg (by rw [hd1]; decide)] at a4
  obtain ⟨b1, b2, b3, b4, b5, b6, b7⟩ := stl_ok (r := rk x) s.w s.c s.n a2 a4 a5
  have k := opB_rk hx
  have hne : ¬ hd (stl (rk x) s.w s.c s.n).1 = -10 := by
    rcases b7 with q | q | q
    · rw [q]; decide
    · rw [q]; decide
    · intro e; rw [e] at q; have : rk (-10) = 6 := by decide
      omega
  refine ⟨?_, ⟨b1, Or.inl ⟨hx, hne, fun q => ?_⟩⟩, fun q => absurd q (show ¬ true = false by decide), ?_, b3, ?_, ?_⟩
  · show (stl (rk x) s.w s.c s.n).2.2 + (x :: (stl (rk x) s.w s.c s.n).1).length + 4 ≤ to'
    rw [List.length_cons]; omega
  · rcases b7 with z | z | z
    · rw [z] at q; exact absurd q (by unfold opB; decide)
    · rw [z] at q; exact absurd q (by unfold opB; decide)
    · exact z
  · show PVh _ _ (nB (x :: (stl (rk x) s.w s.c s.n).1) + (if true = true then 0 else 1))
    rw [if_pos rfl, nB, if_neg (fun q => q.elim k.2.2.1 k.2.2.2)]
    exact b2
  · show lvW (x :: (stl (rk x) s.w s.c s.n).1) ≤ 8
    rw [lvW, if_neg k.2.2.1]; omega
  · show nN (x :: (stl (rk x) s.w s.c s.n).1) ≤ 8
    rw [nN, if_neg k.2.2.2]; omega
theorem rk_pos (x : Int32) : 1 ≤ rk x := by
  unfold rk
  repeat' split
  all_goals decide
/-- settling all stops at an open bracket, if there is one -/
theorem stl0 {nn : Nat} {w : List Int32} {c : Nat → Int32} {n : Nat} (h1 : Dw w) (h2 : PVh c n (nB w + 1)) (h3 : nmK nn c n) : (lvW w = 0 ∧ (stl 0 w c n).1 = []) ∨ (¬ lvW w = 0 ∧ ∃ w', (stl 0 w c n).1 = -11 :: w') := by
  obtain ⟨b1, b2, b3, b4, b5, b6, b7⟩ := stl_ok (r := 0) w c n h1 h2 h3
  cases hs : (stl 0 w c n).1 with
  | nil => left; rw [hs] at b5; exact ⟨b5.symm, rfl⟩
  | cons x w' =>
    rw [hs] at b7 b5
    rcases b7 with q | q | q
    · exact absurd q (by simp)
    · have q : x = -11 := q
      right
      rw [q] at b5 ⊢
      refine ⟨?_, w', rfl⟩
      rw [← b5, lvW, if_pos rfl]
      omega
    · exact absurd q (Nat.not_lt_zero _)
theorem PI_close {key to to' : Nat} {s : PS} (h : PI key to s) (hd1 : s.d = false) (ht : to < to') (hl : ¬ lvW s.w = 0) : PI key to' (closeS s) := by
  obtain ⟨a1, a2, a3, a4, a5, a6, a7⟩ := h
  rw [if_neg (by rw [hd1]; decide)] at a4
  obtain ⟨b1, b2, b3, b4, b5, b6, b7⟩ := stl_ok (r := 0) s.w s.c s.n a2 a4 a5
  rcases stl0 a2 a4 a5 with ⟨q, _⟩ | ⟨_, w', hw⟩
  · exact absurd q hl
  · unfold closeS
    generalize stl 0 s.w s.c s.n = Q at *
    obtain ⟨qw, qc, qn⟩ := Q
    have hw : qw = -11 :: w' := hw
    subst hw
    have b2 : PVh qc qn (nB w' + 1) := by
      have : nB (-11 :: w') = nB w' := by rw [nB, if_pos (Or.inl rfl)]; rfl
      have b2 : PVh qc qn (nB (-11 :: w') + 1) := b2
      rw [this] at b2; exact b2
    have b1 : Dw w' := b1.1
    have b5 : lvW w' + 1 = lvW s.w := by rw [← b5]; show _ = lvW (-11 :: w'); rw [lvW, if_pos rfl]
    have b6 : nN w' ≤ nN s.w := by
      have : nN (-11 :: w') = nN w' := by rw [nN, if_neg (by decide)]; rfl
      have b6 : nN (-11 :: w') ≤ nN s.w := b6
      omega
    have b4 : qn + (w'.length + 1) = s.n + s.w.length := b4
    obtain ⟨d1, d2, d3, d4, d5, d6, d7⟩ := stl_ok (r := 6) w' qc qn b1 b2 b3
    refine ⟨?_, d1, fun _ => ?_, d2, d3, ?_, ?_⟩
    · show (stl 6 w' qc qn).2.2 + (stl 6 w' qc qn).1.length + 4 ≤ to'
      omega
    · show ¬ hd (stl 6 w' qc qn).1 = -10
      rcases d7 with q | q | q
      · rw [q]; decide
      · rw [q]; decide
      · intro e; rw [e] at q; exact absurd q (by decide)
    · show lvW (stl 6 w' qc qn).1 ≤ 8
      omega
    · show nN (stl 6 w' qc qn).1 ≤ 8
      omega
theorem PI_step {t : Nat → Int32} {n key to f : Nat} {s s' : PS} (hk : key < 3) (h : PI key to s) (hf : to ≤ f) (hn : f < n) (e : stepS t key to f (wend t n f) s = some s') : PI key (wend t n f) s' := by
  have hw := wend_gt t n f
  unfold stepS at e
  by_cases hd1 : s.d = true
  · rw [if_pos hd1] at e
    by_cases g : f = to ∧ inW (t (to - 1)) ∧ inW (t f)
    · rw [if_pos g] at e; exact absurd e (by simp)
    · rw [if_neg g] at e
      unfold pieceS at e
      by_cases z1 : isD (t f)
      · rw [if_pos z1] at e
        by_cases z2 : wend t n f - f ≤ 4
        · rw [if_pos z2] at e
          injection e with e
          rw [← e]
          obtain ⟨m, m1, m2⟩ := numv_nI (t := t) (f := f) (wend t n f - f) z2 (fun i hi => (wend_in (t := t) (n := n) (j := f + i) (by omega) (by omega)).2 z1)
          have m3 : m < 10000 := Nat.lt_of_lt_of_le m1 (Nat.pow_le_pow_right (by decide) z2)
          refine PI_leaf h hd1 (by omega) (Or.inl ⟨m, m3, m2⟩) (fun j hj e => ?_)
          rw [m2] at e
          have := (nI_eq (by omega) (by omega)).mp e
          omega
        · rw [if_neg z2] at e; exact absurd e (by simp)
      · rw [if_neg z1] at e
        by_cases z2 : isL (t f)
        · rw [if_pos z2] at e
          by_cases z3 : wend t n f - f = 1
          · rw [if_pos z3] at e
            by_cases z4 : nmI key (t f) < 0
            · rw [if_pos z4] at e; exact absurd e (by simp)
            · rw [if_neg z4] at e
              injection e with e
              rw [← e]
              obtain ⟨j, j1, j2⟩ := nmI_in hk z4
              have j3 : j < 3 := by unfold nnO at j1; split at j1 <;> omega
              rw [j2, show (10000 : Int32) = nI 10000 from rfl, nI_add]
              refine PI_leaf h hd1 (by omega) ?_ (fun i hi e => ?_)
              · right
                rcases (show j = 0 ∨ j = 1 ∨ j = 2 by omega) with rfl | rfl | rfl
                · exact Or.inl rfl
                · exact Or.inr (Or.inl rfl)
                · exact Or.inr (Or.inr rfl)
              · have := (nI_eq (by omega) (by omega)).mp e
                rw [show i = j by omega]; exact j1
          · rw [if_neg z3] at e; exact absurd e (by simp)
        · rw [if_neg z2] at e
          by_cases z3 : t f = 33
          · rw [if_pos z3] at e
            by_cases z4 : nN s.w < 8
            · rw [if_pos z4] at e
              injection e with e
              rw [← e]
              exact PI_push h hd1 (by omega) (Or.inl ⟨rfl, z4⟩)
            · rw [if_neg z4] at e; exact absurd e (by simp)
          · rw [if_neg z3] at e
            by_cases z4 : t f = 40
            · rw [if_pos z4] at e
              by_cases z5 : lvW s.w < 8
              · rw [if_pos z5] at e
                injection e with e
                rw [← e]
                exact PI_push h hd1 (by omega) (Or.inr ⟨rfl, z5⟩)
              · rw [if_neg z5] at e; exact absurd e (by simp)
            · rw [if_neg z4] at e; exact absurd e (by simp)
  · rw [if_neg hd1] at e
    have hd2 : s.d = false := by cases h : s.d; · rfl
                                 · exact absurd h hd1
    unfold signS at e
    by_cases z1 : t f = 41
    · rw [if_pos z1] at e
      by_cases z2 : lvW s.w = 0
      · rw [if_pos z2] at e; exact absurd e (by simp)
      · rw [if_neg z2] at e
        injection e with e
        rw [← e]
        exact PI_close h hd2 (by omega) z2
    · rw [if_neg z1] at e
      by_cases z2 : opOf (t f) = 0
      · rw [if_pos z2] at e; exact absurd e (by simp)
      · rw [if_neg z2] at e
        by_cases z3 : rk (opOf (t f)) = 3 ∧ h3b s.w = true
        · rw [if_pos z3] at e; exact absurd e (by simp)
        · rw [if_neg z3] at e
          injection e with e
          rw [← e]
          exact PI_op h hd2 (by omega) (opOf_B z2).1
