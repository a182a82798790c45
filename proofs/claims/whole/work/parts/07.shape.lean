/-! THE SHAPE of all that is made: the class's object at 0, the reference's at 110; where each thing lies -/
abbrev am_MU : Type := Nat → Nat → Int32
def tgL : List Nat := [6, 5, 100, 100, 103, 0, 100, 0, 100, 0, 100, 0, 100, 0, 100, 0, 100, 5, 100, 100, 103, 0, 100, 0, 100, 0, 100, 0, 100, 0, 100, 0, 100, 5, 100, 100, 103, 0, 100, 100, 104, 1, 100, 100, 100, 100, 105, 106, 100, 4, 100, 4, 100, 4, 100, 4, 100, 4, 100, 4, 100, 4, 100, 4, 100, 4, 100, 4, 100, 4, 100, 4, 100, 4, 100, 4, 100, 2, 100, 2, 100, 2, 100, 2, 100, 3, 0, 100, 2, 100, 3, 0, 100, 2, 100, 3, 0, 100, 2, 100, 3, 0, 100, 2, 100, 3, 0, 100, 2, 100, 7, 100, 100, 100, 100, 100, 100, 102, 100, 100, 100, 101, 100, 100, 100, 100, 100, 100, 100, 100, 100, 100, 100]
def lnL : List Nat := [14, 6, 4, 3, 6, 3, 24, 3, 24, 3, 24, 3, 24, 3, 24, 3, 24, 6, 4, 3, 6, 3, 24, 3, 24, 3, 24, 3, 24, 3, 24, 3, 24, 6, 4, 3, 1, 3, 24, 24, 14, 9, 96, 96, 96, 96, 4, 5, 60, 4, 96, 4, 96, 4, 96, 4, 96, 4, 96, 4, 96, 4, 96, 4, 96, 4, 96, 4, 96, 4, 96, 4, 96, 4, 96, 4, 96, 3, 24, 3, 24, 3, 24, 3, 24, 4, 3, 24, 3, 24, 4, 3, 24, 3, 24, 4, 3, 24, 3, 24, 4, 3, 24, 3, 24, 4, 3, 24, 3, 24, 34, 1535, 1535, 1535, 24, 26, 96, 13, 4, 96, 96, 10, 96, 4, 4, 4, 96, 5, 5, 5, 120, 24, 60]
def tg (a : Nat) : Nat := tgL.getD a 999
def am_ln (a : Nat) : Nat := lnL.getD a 0
/-- the length of an array of ints; 0: there is none -/
def il (a : Nat) : Nat := if tg a = 100 then am_ln a else 0
/-- the length of an array of references -/
def rln (a : Nat) : Nat := if 103 ≤ tg a ∧ tg a < 107 then am_ln a else 0
def rf0 (a : Nat) : Nat → Option (Option Nat) := fun j => match j with
  | 0 => some (some (a + 1))
  | _ => none
def rf1 (a : Nat) : Nat → Option (Option Nat) := fun j => match j with
  | 3 => some (some (a + 1))
  | 4 => some (some (a + 2))
  | _ => none
def rf2 (a : Nat) : Nat → Option (Option Nat) := fun j => match j with
  | 2 => some (some (a + 1))
  | _ => none
def rf3 (a : Nat) : Nat → Option (Option Nat) := fun j => match j with
  | 1 => some (some (a + 1))
  | 2 => some (some (a + 3))
  | _ => none
def rf4 (a : Nat) : Nat → Option (Option Nat) := fun j => match j with
  | 3 => some (some (a + 1))
  | _ => none
def rf5 (a : Nat) : Nat → Option (Option Nat) := fun j => match j with
  | 0 => some (some (a + 3))
  | 2 => some (some (a + 1))
  | 5 => some (some (a + 2))
  | _ => none
def rf6 (a : Nat) : Nat → Option (Option Nat) := fun j => match j with
  | 0 => some (some (a + 1))
  | 1 => some (some (a + 17))
  | 3 => some (some (a + 33))
  | 4 => some (some (a + 39))
  | 5 => some (some (a + 40))
  | 6 => some (some (a + 41))
  | 7 => some (some (a + 44))
  | 8 => some (some (a + 45))
  | 10 => some (some (a + 46))
  | 11 => some (some (a + 47))
  | 12 => some (some (a + 48))
  | _ => none
def rf7 (a : Nat) : Nat → Option (Option Nat) := fun j => match j with
  | 0 => some (some (a + 1))
  | 1 => some (some (a + 2))
  | 2 => some (some (a + 3))
  | 4 => some (some (a + 4))
  | 5 => some (some (a + 5))
  | 6 => some (some (a + 6))
  | 14 => some (some (a + 7))
  | 15 => some (some (a + 8))
  | 16 => some (some (a + 9))
  | 19 => some (some (a + 10))
  | 21 => some (some (a + 11))
  | 22 => some (some (a + 12))
  | 23 => some (some (a + 13))
  | 24 => some (some (a + 14))
  | 25 => some (some (a + 15))
  | 26 => some (some (a + 16))
  | 27 => some (some (a + 17))
  | 28 => some (some (a + 18))
  | 29 => some (some (a + 19))
  | 30 => some (some (a + 20))
  | 31 => some (some (a + 21))
  | 32 => some (some (a + 22))
  | _ => none
def rfN : Nat → Option (Option Nat) := fun _ => none
/-- arrays of references: floors (behind the array itself), texts, sheets, slots -/
def rf103 (a : Nat) : Nat → Option (Option Nat) := fun j => if j < am_ln a then some (some (a + 1 + 2 * j)) else some none
def rf104 (a : Nat) : Nat → Option (Option Nat) := fun j => if j < am_ln a then some (some (a + 9 + 2 * j)) else some none
def rf105 (a : Nat) : Nat → Option (Option Nat) := fun j => if j < am_ln a then some (some (a + 31 + 2 * j)) else some none
def rf106 (a : Nat) : Nat → Option (Option Nat) := fun j => if j < am_ln a then some (some (a + 38 + 5 * j)) else some none
def am_rfs (a : Nat) : Nat → Option (Option Nat) := match tg a with
  | 0 => rf0 a
  | 1 => rf1 a
  | 2 => rf2 a
  | 3 => rf3 a
  | 4 => rf4 a
  | 5 => rf5 a
  | 6 => rf6 a
  | 7 => rf7 a
  | 103 => rf103 a
  | 104 => rf104 a
  | 105 => rf105 a
  | 106 => rf106 a
  | _ => rfN
def am_SH : Nat → am_S := fun a => (tg a, am_ln a, am_rfs a)
def am_sl : Nat := lnL.sum
/-- the heap, from the two constructors on: only ints change -/
def hp (u : am_MU) : am_H := (133, am_sl, am_SH, u)
def am_in (i : Int32) (n : Nat) : Bool := decide (0 ≤ i) && decide (i.toNatClampNeg < n)
theorem am_in_vp {i : Int32} {n : Nat} (h : am_in i n = true) : vp_in i n := by
  simp only [am_in, Bool.and_eq_true, decide_eq_true_eq] at h
  intro q
  rcases q with q | q
  · exact absurd h.1 (Int32.not_le.mpr q)
  · omega
theorem tg_lt {a t : Nat} (h : tg a = t) (ht : t ≠ 999) : a < 133 := by
  rcases Nat.lt_or_ge a 133 with q | q
  · exact q
  · exfalso
    apply ht
    rw [← h]
    show tgL.getD a 999 = 999
    rw [List.getD_eq_getElem?_getD, List.getElem?_eq_none (by show tgL.length ≤ a; exact q)]
    rfl
theorem am_lnC0 : ∀ a, a < 133 → tg a = 0 → am_ln a = 3 ∧ il (a + 1) = 24 := by decide +kernel
theorem am_lnC1 : ∀ a, a < 133 → tg a = 1 → am_ln a = 9 := by decide +kernel
theorem am_lnC2 : ∀ a, a < 133 → tg a = 2 → am_ln a = 3 ∧ il (a + 1) = 24 := by decide +kernel
theorem am_lnC3 : ∀ a, a < 133 → tg a = 3 → am_ln a = 4 ∧ tg (a + 1) = 0 ∧ tg (a + 3) = 2 := by decide +kernel
theorem am_lnC4 : ∀ a, a < 133 → tg a = 4 → am_ln a = 4 ∧ il (a + 1) = 96 := by decide +kernel
theorem am_lnC5 : ∀ a, a < 133 → tg a = 5 → am_ln a = 6 ∧ il (a + 1) = 4 ∧ il (a + 2) = 3 ∧ tg (a + 3) = 103 := by decide +kernel
theorem am_lnC6 : ∀ a, a < 133 → tg a = 6 → am_ln a = 14 := by decide +kernel
theorem am_lnC7 : ∀ a, a < 133 → tg a = 7 → am_ln a = 34 := by decide +kernel
section AT
variable {u : am_MU} {a : Nat}
theorem at_any {t n : Nat} {rf : Nat → Option (Option Nat)} (h : tg a = t) (ht : t ≠ 999) (hn : am_ln a = n) (hr : am_rfs a = rf) : am_at (hp u) a (t, n, rf) := ⟨tg_lt h ht, by show (tg a, am_ln a, am_rfs a) = _; rw [h, hn, hr]⟩
theorem at0 (h : tg a = 0) : am_at (hp u) a (0, 3, rf0 a) := at_any h (by decide) (am_lnC0 a (tg_lt h (by decide)) h).1 (by simp only [am_rfs, h])
theorem at1 (h : tg a = 1) : am_at (hp u) a (1, 9, rf1 a) := at_any h (by decide) (am_lnC1 a (tg_lt h (by decide)) h) (by simp only [am_rfs, h])
theorem at2 (h : tg a = 2) : am_at (hp u) a (2, 3, rf2 a) := at_any h (by decide) (am_lnC2 a (tg_lt h (by decide)) h).1 (by simp only [am_rfs, h])
theorem at3 (h : tg a = 3) : am_at (hp u) a (3, 4, rf3 a) := at_any h (by decide) (am_lnC3 a (tg_lt h (by decide)) h).1 (by simp only [am_rfs, h])
theorem at4 (h : tg a = 4) : am_at (hp u) a (4, 4, rf4 a) := at_any h (by decide) (am_lnC4 a (tg_lt h (by decide)) h).1 (by simp only [am_rfs, h])
theorem at5 (h : tg a = 5) : am_at (hp u) a (5, 6, rf5 a) := at_any h (by decide) (am_lnC5 a (tg_lt h (by decide)) h).1 (by simp only [am_rfs, h])
theorem at6 (h : tg a = 6) : am_at (hp u) a (6, 14, rf6 a) := at_any h (by decide) (am_lnC6 a (tg_lt h (by decide)) h) (by simp only [am_rfs, h])
theorem at7 (h : tg a = 7) : am_at (hp u) a (7, 34, rf7 a) := at_any h (by decide) (am_lnC7 a (tg_lt h (by decide)) h) (by simp only [am_rfs, h])
theorem at100 {i : Int32} {n : Nat} (hn : il a = n) (hi : am_in i n = true) : am_at (hp u) a (100, n, rfN) := by
  have h0 : n ≠ 0 := by
    intro z
    rw [z] at hi
    simp [am_in] at hi
  have ht : tg a = 100 := by
    rcases Decidable.em (tg a = 100) with q | q
    · exact q
    · exfalso
      apply h0
      rw [← hn, il, if_neg q]
  refine at_any ht (by decide) ?_ (by simp only [am_rfs, ht])
  rw [← hn, il, if_pos ht]
theorem at100' {n : Nat} (hn : il a = n) (h0 : n ≠ 0) : am_at (hp u) a (100, n, rfN) := by
  have ht : tg a = 100 := by
    rcases Decidable.em (tg a = 100) with q | q
    · exact q
    · exfalso
      apply h0
      rw [← hn, il, if_neg q]
  refine at_any ht (by decide) ?_ (by simp only [am_rfs, ht])
  rw [← hn, il, if_pos ht]
theorem at101 (h : tg a = 101) : am_at (hp u) a (101, am_ln a, rfN) := at_any h (by decide) rfl (by simp only [am_rfs, h])
theorem at102 (h : tg a = 102) : am_at (hp u) a (102, am_ln a, rfN) := at_any h (by decide) rfl (by simp only [am_rfs, h])
theorem at103 (h : tg a = 103) : am_at (hp u) a (103, am_ln a, rf103 a) := at_any h (by decide) rfl (by simp only [am_rfs, h])
theorem at104 (h : tg a = 104) : am_at (hp u) a (104, am_ln a, rf104 a) := at_any h (by decide) rfl (by simp only [am_rfs, h])
theorem at105 (h : tg a = 105) : am_at (hp u) a (105, am_ln a, rf105 a) := at_any h (by decide) rfl (by simp only [am_rfs, h])
theorem at106 (h : tg a = 106) : am_at (hp u) a (106, am_ln a, rf106 a) := at_any h (by decide) rfl (by simp only [am_rfs, h])
theorem il0 (h : tg a = 0) : il (a + 1) = 24 := (am_lnC0 a (tg_lt h (by decide)) h).2
theorem il2 (h : tg a = 2) : il (a + 1) = 24 := (am_lnC2 a (tg_lt h (by decide)) h).2
theorem il4 (h : tg a = 4) : il (a + 1) = 96 := (am_lnC4 a (tg_lt h (by decide)) h).2
theorem il5s (h : tg a = 5) : il (a + 1) = 4 := (am_lnC5 a (tg_lt h (by decide)) h).2.1
theorem il5l (h : tg a = 5) : il (a + 2) = 3 := (am_lnC5 a (tg_lt h (by decide)) h).2.2.1
theorem tg5f (h : tg a = 5) : tg (a + 3) = 103 := (am_lnC5 a (tg_lt h (by decide)) h).2.2.2
theorem tg3f (h : tg a = 3) : tg (a + 1) = 0 := (am_lnC3 a (tg_lt h (by decide)) h).2.1
theorem tg3s (h : tg a = 3) : tg (a + 3) = 2 := (am_lnC3 a (tg_lt h (by decide)) h).2.2
end AT
/-! the rules once more, over this heap -/
theorem am_gd {α : Type} {c : Prop} [Decidable c] {A : Option α} {r : α} (h : (if c then A else none) = some r) : c ∧ A = some r := by
  by_cases hc : c
  · rw [if_pos hc] at h; exact ⟨hc, h⟩
  · rw [if_neg hc] at h; cases h
theorem am_t {α : Type} {c : Prop} [Decidable c] {A B : Option α} {r : α} (hc : c) (h : (if c then A else B) = some r) : A = some r := by rw [if_pos hc] at h; exact h
theorem am_e {α : Type} {c : Prop} [Decidable c] {A B : Option α} {r : α} (hc : ¬ c) (h : (if c then A else B) = some r) : B = some r := by rw [if_neg hc] at h; exact h
theorem am_bd {α β : Type} {o : Option α} {k : α → Option β} {r : β} (h : o.bind k = some r) : ∃ q, o = some q ∧ k q = some r := by
  cases o with
  | none => cases h
  | some q => exact ⟨q, rfl, h⟩
def am_let {α β : Type} (x : α) (k : α → Option β) : Option β := k x
theorem am_lt {α β : Type} {x : α} {k : α → Option β} {r : β} (h : am_let x k = some r) : ∃ y, y = x ∧ k y = some r := ⟨x, rfl, h⟩
theorem am_cs {α : Type} {c : Prop} [Decidable c] {A B : Option α} {r : α} {P : Prop} (h : (if c then A else B) = some r) (k1 : c → A = some r → P) (k2 : ¬ c → B = some r → P) : P := by
  by_cases hc : c
  · exact k1 hc (am_t hc h)
  · exact k2 hc (am_e hc h)
theorem am_zn {x : Int32} (h : x = 0 ∨ x = 1) : narrow .boolean (.int x) = .int x := by rcases h with rfl | rfl <;> decide +kernel
theorem am_zf {x : Int32} (h : x = 0 ∨ x = 1) : fits .boolean (.int x) = true := by rcases h with rfl | rfl <;> decide +kernel
section PX
variable {X : Nat × (Nat → Int32)} {M : am_M} {pc : Nat} {L : List (Nat × Value)} {S : List Value} {u : am_MU} {r : am_H × Option Value}
theorem px_getI {idx ci n k a : Nat} {rf : Nat → Option (Option Nat)} (hd : decode M.2.1 pc = .ok (.getfield idx, 3)) (hf : am_gf M.1.cls idx ci k) (ha : am_at (hp u) a (ci, n, rf)) (hk : k < n) (hv : rf k = none) (kk : am_Ev X M (pc + 3) L (.int (u a k) :: S) (hp u) r) : am_Ev X M pc L (.ref a :: S) (hp u) r := ev_getI hd hf ha hk hv kk
theorem px_getR {idx ci n k a b : Nat} {rf : Nat → Option (Option Nat)} (hd : decode M.2.1 pc = .ok (.getfield idx, 3)) (hf : am_gf M.1.cls idx ci k) (ha : am_at (hp u) a (ci, n, rf)) (hk : k < n) (hv : rf k = some (some b)) (kk : am_Ev X M (pc + 3) L (.ref b :: S) (hp u) r) : am_Ev X M pc L (.ref a :: S) (hp u) r := ev_getR hd hf ha hk hv kk
theorem px_putI {idx ci n k a : Nat} {rf : Nat → Option (Option Nat)} {v : Int32} (hd : decode M.2.1 pc = .ok (.putfield idx, 3)) (hf : am_pf M.1.cls idx ci k .int) (ha : am_at (hp u) a (ci, n, rf)) (hk : k < n) (hv : rf k = none) {u1 : am_MU} (e1 : u1 = am_u2 u a k v) (kk : am_Ev X M (pc + 3) L S (hp u1) r) : am_Ev X M pc L (.int v :: .ref a :: S) (hp u) r := ev_putI hd hf ha hk hv rfl rfl (by rw [e1] at kk; exact kk)
theorem px_putZ {idx ci n k a : Nat} {rf : Nat → Option (Option Nat)} {v : Int32} (hd : decode M.2.1 pc = .ok (.putfield idx, 3)) (hf : am_pf M.1.cls idx ci k .boolean) (ha : am_at (hp u) a (ci, n, rf)) (hk : k < n) (hv : rf k = none) (hz : v = 0 ∨ v = 1) {u1 : am_MU} (e1 : u1 = am_u2 u a k v) (kk : am_Ev X M (pc + 3) L S (hp u1) r) : am_Ev X M pc L (.int v :: .ref a :: S) (hp u) r := ev_putI hd hf ha hk hv (am_zn hz) (am_zf hz) (by rw [e1] at kk; exact kk)
theorem px_iald {a n : Nat} {i : Int32} (j : Nat) (hd : decode M.2.1 pc = .ok (.iaload, 1)) (hn : il a = n) (hi : am_in i n = true) (hj : i.toNatClampNeg = j) (kk : am_Ev X M (pc + 1) L (.int (u a j) :: S) (hp u) r) : am_Ev X M pc L (.int i :: .ref a :: S) (hp u) r := ev_iald hd (at100 hn hi) (am_in_vp hi) (by rw [hj]; exact kk)
theorem px_iast {a n : Nat} {i x : Int32} (j : Nat) (hd : decode M.2.1 pc = .ok (.iastore, 1)) (hn : il a = n) (hi : am_in i n = true) (hj : i.toNatClampNeg = j) {u1 : am_MU} (e1 : u1 = am_u2 u a j x) (kk : am_Ev X M (pc + 1) L S (hp u1) r) : am_Ev X M pc L (.int x :: .int i :: .ref a :: S) (hp u) r := ev_iast hd (at100 hn hi) (am_in_vp hi) (by rw [hj]; rw [e1] at kk; exact kk)
theorem px_zald {a n : Nat} {i : Int32} (j : Nat) (hd : decode M.2.1 pc = .ok (.baload, 1)) (ht : tg a = 101) (hn : am_ln a = n) (hi : am_in i n = true) (hj : i.toNatClampNeg = j) (kk : am_Ev X M (pc + 1) L (.int (u a j) :: S) (hp u) r) : am_Ev X M pc L (.int i :: .ref a :: S) (hp u) r := ev_zald hd (at101 ht) (by rw [hn]; exact am_in_vp hi) (by rw [hj]; exact kk)
theorem px_zast {a n : Nat} {i x : Int32} (j : Nat) (hd : decode M.2.1 pc = .ok (.bastore, 1)) (ht : tg a = 101) (hn : am_ln a = n) (hi : am_in i n = true) (hj : i.toNatClampNeg = j) {u1 : am_MU} (e1 : u1 = am_u2 u a j (vp_nar .boolean x)) (kk : am_Ev X M (pc + 1) L S (hp u1) r) : am_Ev X M pc L (.int x :: .int i :: .ref a :: S) (hp u) r := ev_zast hd (at101 ht) (by rw [hn]; exact am_in_vp hi) (by rw [hj]; rw [e1] at kk; exact kk)
theorem px_cald {a n : Nat} {i : Int32} (j : Nat) (hd : decode M.2.1 pc = .ok (.caload, 1)) (ht : tg a = 102) (hn : am_ln a = n) (hi : am_in i n = true) (hj : i.toNatClampNeg = j) (kk : am_Ev X M (pc + 1) L (.int (u a j) :: S) (hp u) r) : am_Ev X M pc L (.int i :: .ref a :: S) (hp u) r := ev_cald hd (at102 ht) (by rw [hn]; exact am_in_vp hi) (by rw [hj]; exact kk)
theorem px_alen {a n : Nat} (hd : decode M.2.1 pc = .ok (.arraylength, 1)) (hn : il a = n) (h0 : n ≠ 0) (kk : am_Ev X M (pc + 1) L (.int (Int32.ofNat n) :: S) (hp u) r) : am_Ev X M pc L (.ref a :: S) (hp u) r := ev_alen0 hd (at100' hn h0) kk
theorem px_rlen {a n : Nat} (hd : decode M.2.1 pc = .ok (.arraylength, 1)) (ht : tg a = 103) (hn : am_ln a = n) (kk : am_Ev X M (pc + 1) L (.int (Int32.ofNat n) :: S) (hp u) r) : am_Ev X M pc L (.ref a :: S) (hp u) r := ev_alen3 hd (at103 ht) (by rw [hn]; exact kk)
theorem px_aald3 {a n : Nat} {i : Int32} (hd : decode M.2.1 pc = .ok (.aaload, 1)) (ht : tg a = 103) (hn : am_ln a = n) (hi : am_in i n = true) (kk : am_Ev X M (pc + 1) L (.ref (a + 1 + 2 * i.toNatClampNeg) :: S) (hp u) r) : am_Ev X M pc L (.int i :: .ref a :: S) (hp u) r := ev_aald3 hd (at103 ht) (by rw [hn]; exact am_in_vp hi) (by
  have h9 : i.toNatClampNeg < n := by simp only [am_in, Bool.and_eq_true, decide_eq_true_eq] at hi; exact hi.2
  rw [rf103, if_pos (by rw [hn]; exact h9)]) kk
theorem px_aald4 {a n : Nat} {i : Int32} (hd : decode M.2.1 pc = .ok (.aaload, 1)) (ht : tg a = 104) (hn : am_ln a = n) (hi : am_in i n = true) (kk : am_Ev X M (pc + 1) L (.ref (a + 9 + 2 * i.toNatClampNeg) :: S) (hp u) r) : am_Ev X M pc L (.int i :: .ref a :: S) (hp u) r := ev_aald4 hd (at104 ht) (by rw [hn]; exact am_in_vp hi) (by
  have h9 : i.toNatClampNeg < n := by simp only [am_in, Bool.and_eq_true, decide_eq_true_eq] at hi; exact hi.2
  rw [rf104, if_pos (by rw [hn]; exact h9)]) kk
theorem px_aald5 {a n : Nat} {i : Int32} (hd : decode M.2.1 pc = .ok (.aaload, 1)) (ht : tg a = 105) (hn : am_ln a = n) (hi : am_in i n = true) (kk : am_Ev X M (pc + 1) L (.ref (a + 31 + 2 * i.toNatClampNeg) :: S) (hp u) r) : am_Ev X M pc L (.int i :: .ref a :: S) (hp u) r := ev_aald5 hd (at105 ht) (by rw [hn]; exact am_in_vp hi) (by
  have h9 : i.toNatClampNeg < n := by simp only [am_in, Bool.and_eq_true, decide_eq_true_eq] at hi; exact hi.2
  rw [rf105, if_pos (by rw [hn]; exact h9)]) kk
theorem px_aald6 {a n : Nat} {i : Int32} (hd : decode M.2.1 pc = .ok (.aaload, 1)) (ht : tg a = 106) (hn : am_ln a = n) (hi : am_in i n = true) (kk : am_Ev X M (pc + 1) L (.ref (a + 38 + 5 * i.toNatClampNeg) :: S) (hp u) r) : am_Ev X M pc L (.int i :: .ref a :: S) (hp u) r := ev_aald6 hd (at106 ht) (by rw [hn]; exact am_in_vp hi) (by
  have h9 : i.toNatClampNeg < n := by simp only [am_in, Bool.and_eq_true, decide_eq_true_eq] at hi; exact hi.2
  rw [rf106, if_pos (by rw [hn]; exact h9)]) kk
/-- what arraycopy asks -/
def am_cpok (a b : Nat) (sp dp k : Int32) : Bool := decide (0 ≤ sp) && decide (0 ≤ dp) && decide (0 ≤ k) && decide (sp.toNatClampNeg + k.toNatClampNeg ≤ il a) && decide (dp.toNatClampNeg + k.toNatClampNeg ≤ il b) && decide (il a ≠ 0) && decide (il b ≠ 0)
theorem px_acopy {idx a b : Nat} {sp dp k : Int32} (hd : decode M.2.1 pc = .ok (.invokestatic idx, 3)) (hw : Cond.methodLink M.1.cls idx arraycopyName ∈ am_Tg) (hw2 : Cond.native arraycopyName ∈ am_Tg) (hw3 : Cond.static arraycopyName ∈ am_Tg) (hw4 : Cond.initialized "java/lang/System" ∈ am_Tg) (hg : 1 ≤ M.2.2.2.2) (hrs : (S.map fun v => v.category).sum ≤ 8) (ho : am_cpok a b sp dp k = true) {u1 : am_MU} (e1 : u1 = am_ur u b (va_cpy (u a) (u b) sp.toNatClampNeg dp.toNatClampNeg k.toNatClampNeg)) (kk : am_Ev X M (pc + 3) L S (hp u1) r) : am_Ev X M pc L (.int k :: .int dp :: .ref b :: .int sp :: .ref a :: S) (hp u) r := by
  simp only [am_cpok, Bool.and_eq_true, decide_eq_true_eq] at ho
  obtain ⟨⟨⟨⟨⟨⟨h1, h2⟩, h3⟩, h4⟩, h5⟩, h6⟩, h7⟩ := ho
  exact ev_acopy hd hw (at100' rfl h6) (at100' rfl h7) (Int32.not_lt.mpr h1) (Int32.not_lt.mpr h2) (Int32.not_lt.mpr h3) h4 h5 hg hrs hw2 hw3 hw4 (by rw [e1] at kk; exact kk)
theorem px_top {x y : Int32} {h : am_H} (e : y = x) (kk : am_Ev X M pc L (.int y :: S) h r) : am_Ev X M pc L (.int x :: S) h r := by rw [e] at kk; exact kk
theorem px_topl {x y : Int64} {h : am_H} (e : y = x) (kk : am_Ev X M pc L (.long y :: S) h r) : am_Ev X M pc L (.long x :: S) h r := by rw [e] at kk; exact kk
theorem px_tb {k : Nat} {i : Int32} (hd : decode M.2.1 pc = .ok (.baload, 1)) (hk : 10 ≤ k ∧ k < 16) (hi : am_in i (am_kb.getD (k - 10) []).length = true) (kk : am_Ev X M (pc + 1) L (.int ((am_kb.getD (k - 10) []).getD i.toNatClampNeg 0) :: S) (hp u) r) : am_Ev X M pc L (.int i :: .retAddr k :: S) (hp u) r := by
  rcases (show k = 10 ∨ k = 11 ∨ k = 12 ∨ k = 13 ∨ k = 14 ∨ k = 15 by omega) with z | z | z | z | z | z <;> subst z <;> exact ev_tb hd (fun G _ => rfl) (am_in_vp hi) kk
theorem px_tbl {k : Nat} (hd : decode M.2.1 pc = .ok (.arraylength, 1)) (hk : 10 ≤ k ∧ k < 16) (kk : am_Ev X M (pc + 1) L (.int (Int32.ofNat (am_kb.getD (k - 10) []).length) :: S) (hp u) r) : am_Ev X M pc L (.retAddr k :: S) (hp u) r := by
  rcases (show k = 10 ∨ k = 11 ∨ k = 12 ∨ k = 13 ∨ k = 14 ∨ k = 15 by omega) with z | z | z | z | z | z <;> subst z <;> exact ev_tlen hd (fun G _ => rfl) kk
end PX
