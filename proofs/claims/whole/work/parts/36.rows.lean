/-! rows of sand: nothing is lost when grains move -/
def smZ (f : Nat → Int) : Nat → Int
  | 0 => 0
  | n + 1 => smZ f n + f n
theorem smZ_congr {f g : Nat → Int} : ∀ n, (∀ c, c < n → f c = g c) → smZ f n = smZ g n := by
  intro n
  induction n with
  | zero => intro _; rfl
  | succ n ih => intro h; rw [smZ, smZ, ih (fun c hc => h c (by omega)), h n (by omega)]
def zr (r : Nat → Int32) : Nat → Int := fun c => (r c).toInt
theorem smZ_upd (r : Nat → Int32) (i : Nat) (v : Int32) : ∀ n, smZ (zr (upd r i v)) n = smZ (zr r) n + (if i < n then v.toInt - (r i).toInt else 0) := by
  intro n
  induction n with
  | zero => rfl
  | succ n ih =>
    rw [smZ, smZ, ih]
    by_cases h : n = i
    · subst h
      have : zr (upd r n v) n = v.toInt := by simp [zr, upd]
      rw [this, if_neg (by omega), if_pos (by omega)]
      show _ = smZ (zr r) n + (r n).toInt + _
      omega
    · have : zr (upd r i v) n = zr r n := by simp [zr, upd, h]
      rw [this]
      by_cases h2 : i < n
      · rw [if_pos h2, if_pos (by omega)]; omega
      · rw [if_neg h2, if_neg (by omega)]; omega
theorem smZ_nonneg {f : Nat → Int} : ∀ n, (∀ c, c < n → 0 ≤ f c) → 0 ≤ smZ f n := by
  intro n
  induction n with
  | zero => intro _; exact Int.le_refl 0
  | succ n ih => intro h; have := ih (fun c hc => h c (by omega)); have := h n (by omega); rw [smZ]; omega
theorem smZ_ge {f : Nat → Int} : ∀ n, (∀ c, c < n → 0 ≤ f c) → ∀ c, c < n → f c ≤ smZ f n := by
  intro n
  induction n with
  | zero => intro _ c hc; omega
  | succ n ih =>
    intro h c hc
    have h1 := h n (by omega)
    rw [smZ]
    by_cases hcn : c = n
    · subst hcn; have := smZ_nonneg c (fun j hj => h j (by omega)); omega
    · have := ih (fun j hj => h j (by omega)) c (by omega); omega
theorem smZ_le {f g : Nat → Int} : ∀ n, (∀ c, c < n → f c ≤ g c) → smZ f n ≤ smZ g n := by
  intro n
  induction n with
  | zero => intro _; exact Int.le_refl 0
  | succ n ih => intro h; have := ih (fun c hc => h c (by omega)); have := h n (by omega); rw [smZ, smZ]; omega
theorem smZ_const (k : Int) : ∀ n : Nat, smZ (fun _ => k) n = k * n := by
  intro n
  induction n with
  | zero => simp [smZ]
  | succ n ih => rw [smZ, ih, Int.natCast_succ, Int.mul_add, Int.mul_one]
/-- a row that is fit: no cell below 0, no sand outside, all of it at most B -/
def rOK (r : Nat → Int32) (B : Nat) : Prop := (∀ c, c < 24 → 0 ≤ (r c).toInt) ∧ smZ (zr r) 24 ≤ B ∧ ∀ c, 24 ≤ c → r c = 0
theorem rOK_mono {r : Nat → Int32} {B C : Nat} (h : rOK r B) (hb : B ≤ C) : rOK r C := ⟨h.1, by have := h.2.1; omega, h.2.2⟩
theorem rOK_le {r : Nat → Int32} {B : Nat} (h : rOK r B) (c : Nat) : 0 ≤ (r c).toInt ∧ (r c).toInt ≤ B := by
  by_cases hc : c < 24
  · exact ⟨h.1 c hc, Int.le_trans (smZ_ge 24 (f := zr r) h.1 c hc) h.2.1⟩
  · rw [h.2.2 c (by omega)]; exact ⟨by decide, by show (0 : Int) ≤ B; omega⟩
theorem rOK_20 {r : Nat → Int32} {B : Nat} (h : rOK r B) (hB : B < 1000000) : ok20 r := fun c => ⟨(rOK_le h c).1, by have := (rOK_le h c).2; omega⟩
theorem p_addT {a b : Int32} (ha : 0 ≤ a.toInt) (ha2 : a.toInt < 1048576) (hb : 0 ≤ b.toInt) (hb2 : b.toInt < 1048576) : (a + b).toInt = a.toInt + b.toInt := by
  rw [Int32.toInt_add]
  exact Int.bmod_eq_of_le (by omega) (by omega)
/-- n grains go from c to d -/
def mvs (r : Nat → Int32) (c d : Nat) (n : Int32) : Nat → Int32 := upd (upd r c (r c - n)) d (upd r c (r c - n) d + n)
theorem upd_sm {r : Nat → Int32} {i : Nat} {v : Int32} : upd r i v i = v := by simp [upd]
theorem upd_ne {r : Nat → Int32} {i j : Nat} {v : Int32} (h : j ≠ i) : upd r i v j = r j := by simp [upd, h]
theorem upd_self (r : Nat → Int32) (i : Nat) : upd r i (r i) = r := by
  funext j
  by_cases h : j = i
  · subst h; exact upd_sm
  · exact upd_ne h
theorem mvs_0 (r : Nat → Int32) (c d : Nat) : mvs r c d 0 = r := by
  unfold mvs
  rw [Int32.sub_zero, upd_self, Int32.add_zero, upd_self]
theorem mvs_at {r : Nat → Int32} {B c d : Nat} {n : Int32} (h : rOK r B) (hB : B < 1000000) (h0 : 0 ≤ n.toInt) (h1 : n.toInt ≤ (r c).toInt) : ∀ j, (mvs r c d n j).toInt = (r j).toInt - (if j = c then n.toInt else 0) + (if j = d then n.toInt else 0) := by
  intro j
  have hc := rOK_le h c
  have hd := rOK_le h d
  have e1 : (r c - n).toInt = (r c).toInt - n.toInt := p_sub_toInt (by omega) (by omega) h0 (by omega)
  unfold mvs
  by_cases hjd : j = d
  · subst hjd
    rw [upd_sm, if_pos rfl]
    by_cases hjc : j = c
    · subst hjc
      rw [upd_sm, if_pos rfl, p_addT (by omega) (by omega) h0 (by omega), e1]
    · rw [upd_ne hjc, if_neg hjc, p_addT (by omega) (by omega) h0 (by omega)]; omega
  · rw [upd_ne hjd, if_neg hjd]
    by_cases hjc : j = c
    · subst hjc
      rw [upd_sm, if_pos rfl, e1]; omega
    · rw [upd_ne hjc, if_neg hjc]; omega
theorem mvs_OK {r : Nat → Int32} {B c d : Nat} {n : Int32} (h : rOK r B) (hB : B < 1000000) (hc : c < 24) (hd : d < 24) (h0 : 0 ≤ n.toInt) (h1 : n.toInt ≤ (r c).toInt) : rOK (mvs r c d n) B := by
  have hq := mvs_at (d := d) h hB h0 h1
  refine ⟨fun j hj => ?_, ?_, fun j hj => ?_⟩
  · rw [hq j]
    have := h.1 j hj
    by_cases hjc : j = c
    · subst hjc; rw [if_pos rfl]; split <;> omega
    · rw [if_neg hjc]; split <;> omega
  · have hcc := rOK_le h c
    have hdd := rOK_le h d
    have e1 : (r c - n).toInt = (r c).toInt - n.toInt := p_sub_toInt (by omega) (by omega) h0 (by omega)
    have := h.2.1
    unfold mvs
    rw [smZ_upd, smZ_upd, if_pos hc, if_pos hd, e1]
    by_cases hdc : d = c
    · subst hdc
      rw [upd_sm, p_addT (by omega) (by omega) h0 (by omega)]; omega
    · rw [upd_ne hdc, p_addT (by omega) (by omega) h0 (by omega)]; omega
  · unfold mvs
    rw [upd_ne (by omega), upd_ne (by omega)]; exact h.2.2 j hj
/-- writing into a row of a floor -/
theorem cut_upd {r : Nat → Int32} {c : Nat} {v : Int32} (hc : c < 24) : cut (upd r c v) = upd (cut r) c v := by
  funext j
  unfold cut
  by_cases h : j = c
  · subst h; rw [if_pos hc, upd_sm, upd_sm]
  · rw [upd_ne h, upd_ne h]
theorem rc_u2 (u : am_MU) {a c : Nat} {v : Int32} (hc : c < 24) : rc (am_u2 u (a + 1) c v) a = upd (rc u a) c v := by
  unfold rc; rw [u2_row, cut_upd hc]
theorem rc_congr {u v : am_MU} {a : Nat} (h : v (a + 1) = u (a + 1)) : rc v a = rc u a := by unfold rc; rw [h]
def rmR (R : Nat → Int32) (f : Nat) : Nat → Int32 := cut (fun c => R (9 + 26 * f + c))
theorem rm_eq (u : am_MU) (A f : Nat) : rm u A f = rmR (u A) f := rfl
theorem rmR_upd (R : Nat → Int32) {f c : Nat} {v : Int32} (hc : c < 24) : rmR (upd R (9 + 26 * f + c) v) f = upd (rmR R f) c v := by
  unfold rmR
  rw [← cut_upd hc]
  congr 1
  funext j
  by_cases h : j = c
  · subst h; rw [upd_sm, upd_sm]
  · rw [upd_ne h, upd_ne (by omega)]
theorem rmR_ne (R : Nat → Int32) {f i : Nat} {v : Int32} (h : i < 9 + 26 * f ∨ 33 + 26 * f ≤ i) : rmR (upd R i v) f = rmR R f := by
  unfold rmR cut
  funext j
  by_cases hj : j < 24
  · rw [if_pos hj, if_pos hj]; exact upd_ne (by omega)
  · rw [if_neg hj, if_neg hj]
/-- the sea and the laws -/
abbrev SE : Type := Int32 × Int32 × Int32 × Int32 × LW × LW × LW
abbrev SE.far (e : SE) : Int32 := e.1
abbrev SE.pace (e : SE) : Int32 := e.2.1
abbrev SE.sec (e : SE) : Int32 := e.2.2.1
abbrev SE.steep (e : SE) : Int32 := e.2.2.2.1
abbrev SE.o0 (e : SE) : LW := e.2.2.2.2.1
abbrev SE.o1 (e : SE) : LW := e.2.2.2.2.2.1
abbrev SE.o2 (e : SE) : LW := e.2.2.2.2.2.2
/-- a floor: kind, tick, row -/
abbrev FS : Type := Int32 × Int32 × (Nat → Int32)
abbrev FS.k (s : FS) : Int32 := s.1
abbrev FS.t (s : FS) : Int32 := s.2.1
abbrev FS.r (s : FS) : Nat → Int32 := s.2.2
def eOK (e : SE) : Prop := 0 ≤ e.far ∧ e.far ≤ 11 ∧ 0 ≤ e.sec ∧ e.sec ≤ 11
def CE (u : am_MU) (w : Nat) (e : SE) : Prop := u (w + 1) 0 = e.far ∧ u (w + 1) 1 = e.pace ∧ u (w + 1) 2 = e.sec ∧ u (w + 1) 3 = e.steep ∧ LawC u w 0 3 e.o0 ∧ LawC u w 1 2 e.o1 ∧ LawC u w 2 2 e.o2
def CF (u : am_MU) (a : Nat) (s : FS) : Prop := u a 2 = s.k ∧ u a 1 = s.t ∧ rc u a = s.r
def ME (R : Nat → Int32) (e : SE) : Prop := R 2 = e.far ∧ R 3 = e.pace ∧ R 4 = e.sec ∧ R 5 = e.steep ∧ LawM R 0 3 e.o0 ∧ LawM R 1 2 e.o1 ∧ LawM R 2 2 e.o2
def MF (R : Nat → Int32) (f : Nat) (s : FS) : Prop := R (7 + 26 * f) = s.k ∧ R (8 + 26 * f) = s.t ∧ rmR R f = s.r
theorem LawC_congr {u v : am_MU} {w key nn : Nat} {o : LW} (h : v (w + 2) = u (w + 2)) (ht : ∀ a, 49 ≤ a → a < 77 → v a = u a) (hl : LawC u w key nn o) : LawC v w key nn o := by
  cases o with
  | none => show v (w + 2) key = _; rw [h]; exact hl
  | some q =>
    obtain ⟨t, a1, a2, a3, a4, a5, a6⟩ := hl
    exact ⟨t, a1, by rw [h]; exact a2, a3, a4, by rw [ht _ (by omega) (by omega)]; exact a5, fun k hk => by rw [ht _ (by omega) (by omega)]; exact a6 k hk⟩
theorem CE_congr {u v : am_MU} {w : Nat} {e : SE} (h1 : v (w + 1) = u (w + 1)) (h2 : v (w + 2) = u (w + 2)) (ht : ∀ a, 49 ≤ a → a < 77 → v a = u a) (h : CE u w e) : CE v w e := by
  obtain ⟨a1, a2, a3, a4, a5, a6, a7⟩ := h
  exact ⟨by rw [h1]; exact a1, by rw [h1]; exact a2, by rw [h1]; exact a3, by rw [h1]; exact a4, LawC_congr h2 ht a5, LawC_congr h2 ht a6, LawC_congr h2 ht a7⟩
theorem CF_congr {u v : am_MU} {a : Nat} {s : FS} (h1 : v a = u a) (h2 : v (a + 1) = u (a + 1)) (h : CF u a s) : CF v a s :=
  ⟨by rw [h1]; exact h.1, by rw [h1]; exact h.2.1, by rw [rc_congr h2]; exact h.2.2⟩
theorem ME_congr {R Q : Nat → Int32} {e : SE} (h1 : ∀ j, 2 ≤ j → j ≤ 6 → Q j = R j) (h2 : ∀ j, 163 ≤ j → Q j = R j) (h : ME R e) : ME Q e := by
  obtain ⟨a1, a2, a3, a4, a5, a6, a7⟩ := h
  have h6 := (h1 6 (by decide) (by decide)).symm
  have h7 : ∀ j, 163 ≤ j → R j = Q j := fun j hj => (h2 j hj).symm
  exact ⟨by rw [h1 2 (by decide) (by decide)]; exact a1, by rw [h1 3 (by decide) (by decide)]; exact a2, by rw [h1 4 (by decide) (by decide)]; exact a3, by rw [h1 5 (by decide) (by decide)]; exact a4, LawM_congr h6 h7 a5, LawM_congr h6 h7 a6, LawM_congr h6 h7 a7⟩
theorem MF_congr {R Q : Nat → Int32} {f : Nat} {s : FS} (h : ∀ j, 7 + 26 * f ≤ j → j < 33 + 26 * f → Q j = R j) (hm : MF R f s) : MF Q f s := by
  refine ⟨by rw [h _ (by omega) (by omega)]; exact hm.1, by rw [h _ (by omega) (by omega)]; exact hm.2.1, ?_⟩
  rw [← hm.2.2]
  unfold rmR cut
  funext c
  by_cases hc : c < 24
  · rw [if_pos hc, if_pos hc]; exact h _ (by omega) (by omega)
  · rw [if_neg hc, if_neg hc]
