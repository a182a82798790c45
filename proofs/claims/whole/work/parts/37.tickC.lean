/-! one tick: the spec, then the class -/
def WA (w : Nat) : Prop := w = 1 ∨ w = 33
def FA (a : Nat) : Prop := a = 37 ∨ ∃ i, i < 6 ∧ a = 5 + 2 * i
theorem FA_tg {a : Nat} (h : FA a) : tg a = 0 := by
  have q : ∀ i, i < 6 → tg (5 + 2 * i) = 0 := by decide +kernel
  rcases h with rfl | ⟨i, h, rfl⟩
  · decide
  · exact q i h
theorem FA_b {a : Nat} (h : FA a) : 5 ≤ a ∧ (a ≤ 15 ∨ a = 37) := by
  rcases h with rfl | ⟨i, h, rfl⟩ <;> omega
theorem WA_tg {w : Nat} (h : WA w) : tg w = 5 := by rcases h with rfl | rfl <;> decide
def FS.way (s : FS) : Int32 := wyI s.k s.t
def FS.reach (e : SE) (s : FS) : Int32 := reI s.k s.t e.far e.sec
theorem wy_pm (k t : Int32) : wyI k t = 1 ∨ wyI k t = -1 := by
  unfold wyI
  split
  · exact Or.inl rfl
  · split
    · exact Or.inl rfl
    · split
      · exact Or.inl rfl
      · exact Or.inr rfl
/-- how far all go, as a number of cells in the ring, 24 ahead -/
theorem p_off1 : ∀ j, j < 13 → 1 * nI j + 24 = nI (24 + j) ∧ -1 * nI j + 24 = nI (24 - j) := by decide +kernel
theorem p_re12 : ∀ j, j < 12 → (∃ i, i < 13 ∧ 2 * nI j / 3 = nI i) ∧ (∃ i, i < 13 ∧ nI j + 1 = nI i) ∧ (∃ i, i < 13 ∧ (if 2 * nI j / 3 - 1 < 0 then 0 else 2 * nI j / 3 - 1) = nI i) ∧ (∃ i, i < 13 ∧ (nI j + 1) / 2 = nI i) := by decide +kernel
theorem p_reB {e : SE} (h : eOK e) (k t : Int32) : ∃ i, i < 13 ∧ reI k t e.far e.sec = nI i := by
  obtain ⟨h1, h2, h3, h4⟩ := h
  obtain ⟨j, hj, ej⟩ := p_far h1 h2
  obtain ⟨j', hj', ej'⟩ := p_far h3 h4
  obtain ⟨q1, q2, q3, q4⟩ := p_re12 j hj
  unfold reI
  rw [ej, ej']
  split
  · exact q1
  · split
    · exact q2
    · split
      · exact q3
      · split
        · exact q4
        · split
          · split
            · exact ⟨j, by omega, rfl⟩
            · exact ⟨j', by omega, rfl⟩
          · exact ⟨j, by omega, rfl⟩
theorem p_off {e : SE} (h : eOK e) (s : FS) : ∃ off, 12 ≤ off ∧ off ≤ 36 ∧ s.way * FS.reach e s + 24 = nI off := by
  obtain ⟨i, hi, ei⟩ := p_reB h s.k s.t
  unfold FS.way FS.reach
  rw [ei]
  rcases wy_pm s.k s.t with q | q
  · rw [q]; exact ⟨24 + i, by omega, by omega, (p_off1 i hi).1⟩
  · rw [q]; exact ⟨24 - i, by omega, by omega, (p_off1 i hi).2⟩
/-- all lifts, from the row as it was -/
def liS (e : SE) (s : FS) : Nat → Int32 := fun c => liI e.o0 s.k s.way e.pace s.r c
theorem gr_in {k g h : Int32} (h0 : 0 ≤ g) (h1 : g ≤ h) : 0 ≤ (grI k g).toInt ∧ (grI k g).toInt ≤ h.toInt := by
  have g0 : 0 ≤ g.toInt := p_ge0.mp h0
  have g1 : g.toInt ≤ h.toInt := Int32.le_iff_toInt_le.mp h1
  unfold grI
  split
  · obtain ⟨n, hn, rfl⟩ := nI_of (Int32.not_lt.mpr h0)
    rw [show (2 : Int32) = nI 2 from rfl, pk_div hn (by decide) (by decide), nI_toInt (by omega)]
    rw [nI_toInt hn] at g1
    omega
  · split
    · split
      · exact ⟨by decide, by show (0 : Int) ≤ _; omega⟩
      · rename_i z
        have := p_ge0.mp (Int32.not_lt.mp z)
        rw [p_pm g h0] at this ⊢
        omega
    · exact ⟨g0, g1⟩
theorem li_in {e : SE} {s : FS} {B : Nat} (h : rOK s.r B) {c : Nat} : 0 ≤ (liS e s c).toInt ∧ (liS e s c).toInt ≤ (s.r c).toInt := by
  have h0 : 0 ≤ s.r c := p_ge0.mpr (rOK_le h c).1
  obtain ⟨q1, q2⟩ := wi_in (v := lv3 e.o0 (s.r c) (s.r c - s.r (rg c s.way)) e.pace e.pace) h0
  exact gr_in q1 q2
/-- they come down, cell by cell -/
def mvN (L r : Nat → Int32) (off : Nat) : Nat → Nat → Int32
  | 0 => r
  | c + 1 => mvs (mvN L r off c) c ((c + off) % 24) (L c)
theorem mvN_OK {L r : Nat → Int32} {B off : Nat} (h : rOK r B) (hB : B < 1000000) (hL : ∀ c, c < 24 → 0 ≤ (L c).toInt ∧ (L c).toInt ≤ (r c).toInt) : ∀ c, c ≤ 24 → rOK (mvN L r off c) B ∧ ∀ j, c ≤ j → (r j).toInt ≤ (mvN L r off c j).toInt := by
  intro c
  induction c with
  | zero => intro _; exact ⟨h, fun j _ => Int.le_refl _⟩
  | succ c ih =>
    intro hc
    obtain ⟨i1, i2⟩ := ih (by omega)
    obtain ⟨l1, l2⟩ := hL c (by omega)
    have l3 := i2 c (Nat.le_refl c)
    refine ⟨mvs_OK i1 hB (by omega) (by omega) l1 (by omega), fun j hj => ?_⟩
    show (r j).toInt ≤ (mvs _ c _ (L c) j).toInt
    rw [mvs_at i1 hB l1 (by omega) j, if_neg (by omega)]
    have := i2 j (by omega)
    split <;> omega
/-- slides, cell by cell; the row and how many moved -/
def toI (r : Nat → Int32) (c : Nat) : Nat := if r ((c + 1) % 24) < r c then (c + 1) % 24 else (c + 23) % 24
theorem toI_lt (r : Nat → Int32) (c : Nat) : toI r c < 24 := by unfold toI; split <;> omega
def slS (o : LW) (steep : Int32) (r : Nat → Int32) (c : Nat) : Int32 := if r c - r (toI r c) ≤ 0 then 0 else slI o steep (r c - r (toI r c))
def slN (o : LW) (steep : Int32) (r : Nat → Int32) : Nat → (Nat → Int32) × Int32
  | 0 => (r, 0)
  | c + 1 => let p := slN o steep r c; (mvs p.1 c (toI p.1 c) (slS o steep p.1 c), p.2 + slS o steep p.1 c)
theorem d2_in {d : Int32} (h : ¬ d ≤ 0) : 0 ≤ d / 2 ∧ (d / 2).toInt ≤ d.toInt := by
  have h0 : ¬ d < 0 := fun q => h (Int32.le_of_lt q)
  obtain ⟨n, hn, rfl⟩ := nI_of h0
  rw [show (2 : Int32) = nI 2 from rfl, pk_div hn (by decide) (by decide)]
  exact ⟨nI_pos' (by omega), by rw [nI_toInt (by omega), nI_toInt hn]; omega⟩
theorem sl_in {o : LW} {steep d : Int32} (h : ¬ d ≤ 0) : 0 ≤ (slI o steep d).toInt ∧ (slI o steep d).toInt ≤ d.toInt := by
  have hd : 0 < d.toInt := by rw [p_le0] at h; omega
  cases o with
  | none =>
    show 0 ≤ (if d ≤ steep then (0 : Int32) else 1).toInt ∧ (if d ≤ steep then (0 : Int32) else 1).toInt ≤ d.toInt
    split
    · exact ⟨by decide, by show (0 : Int) ≤ _; omega⟩
    · exact ⟨by decide, by show (1 : Int) ≤ _; omega⟩
  | some q =>
    show 0 ≤ (wiI (vl q.1 (F3 d steep 0) q.2.1) 0 (d / 2)).toInt ∧ (wiI (vl q.1 (F3 d steep 0) q.2.1) 0 (d / 2)).toInt ≤ d.toInt
    obtain ⟨z1, z2⟩ := d2_in h
    obtain ⟨y1, y2⟩ := wi_in (v := vl q.1 (F3 d steep 0) q.2.1) z1
    rw [Int32.le_iff_toInt_le] at y2
    exact ⟨p_ge0.mp y1, by omega⟩
theorem slS_in {o : LW} {steep : Int32} {r : Nat → Int32} {B c : Nat} (h : rOK r B) (hB : B < 1000000) : 0 ≤ (slS o steep r c).toInt ∧ (slS o steep r c).toInt ≤ (r c).toInt := by
  have hc := rOK_le h c
  have hd := rOK_le h (toI r c)
  unfold slS
  split
  · exact ⟨by decide, by show (0 : Int) ≤ _; omega⟩
  · rename_i z
    have e1 : (r c - r (toI r c)).toInt = (r c).toInt - (r (toI r c)).toInt := p_sub_toInt (by omega) (by omega) (by omega) (by omega)
    obtain ⟨q1, q2⟩ := sl_in (o := o) (steep := steep) z
    exact ⟨q1, by omega⟩
theorem slN_OK {o : LW} {steep : Int32} {r : Nat → Int32} {B : Nat} (h : rOK r B) (hB : B < 1000000) : ∀ c, c ≤ 24 → rOK (slN o steep r c).1 B := by
  intro c
  induction c with
  | zero => intro _; exact h
  | succ c ih =>
    intro hc
    have i1 := ih (by omega)
    obtain ⟨q1, q2⟩ := slS_in (o := o) (steep := steep) (c := c) i1 hB
    exact mvs_OK i1 hB (by omega) (toI_lt _ _) q1 q2
def offN (e : SE) (s : FS) : Nat := (s.way * FS.reach e s + 24).toNatClampNeg
theorem p_offN {e : SE} (h : eOK e) (s : FS) : offN e s ≤ 36 ∧ s.way * FS.reach e s + 24 = nI (offN e s) := by
  obtain ⟨off, h1, h2, h3⟩ := p_off h s
  have : offN e s = off := by unfold offN; rw [h3, nI_clamp (by omega)]
  rw [this]
  exact ⟨h2, h3⟩
def lifted (e : SE) (s : FS) : Nat → Int32 := mvN (liS e s) s.r (offN e s) 24
/-- ONE TICK -/
def tkS (e : SE) (s : FS) : FS := ⟨s.k, s.t + 1, (slN e.o1 e.steep (lifted e s) 24).1⟩
def tkM (e : SE) (s : FS) : Int32 := (if FS.reach e s ≤ 0 then 0 else sm (liS e s) 24) + (slN e.o1 e.steep (lifted e s) 24).2
theorem lifted_OK {e : SE} {s : FS} {B : Nat} (h : rOK s.r B) (hB : B < 1000000) : rOK (lifted e s) B := (mvN_OK h hB (fun c _ => li_in h) 24 (Nat.le_refl _)).1
theorem tkS_OK {e : SE} {s : FS} {B : Nat} (h : rOK s.r B) (hB : B < 1000000) : rOK (tkS e s).r B := slN_OK (lifted_OK h hB) hB 24 (Nat.le_refl _)
/-! the class's tick -/
theorem p_X6_li20 {w a B : Nat} {e : SE} {s : FS} (hw : WA w) (ha : FA a) (hr : rOK s.r B) {re on : Int32} : ∀ (m c n : Nat) (u : am_MU), c + m = 24 → m < n → CE u w e → CF u a s → (∀ j, j < c → u 39 j = liS e s j) → ∃ u', g_X6_liftAll_20 n u w a re on 0 (nI c) = g_X6_liftAll_51 1700 u' a re on 0 0 ∧ same [39, 44] u u' ∧ (∀ j, j < 24 → u' 39 j = liS e s j) := by
  have fb := FA_b ha
  intro m
  induction m with
  | zero =>
    intro c n u h1 h2 hE hF hL
    obtain ⟨n, rfl⟩ : ∃ k, n = k + 1 := ⟨n - 1, by omega⟩
    obtain rfl : c = 24 := by omega
    refine ⟨u, ?_, same_rf, hL⟩
    rw [g_X6_liftAll_20]
    dsimp only
    rw [if_pos (show (24 : Int32) ≤ nI 24 by decide)]
  | succ m ih =>
    intro c n u h1 h2 hE hF hL
    obtain ⟨n, rfl⟩ : ∃ k, n = k + 1 := ⟨n - 1, by omega⟩
    have hc : c < 24 := by omega
    obtain ⟨v, r1, r2⟩ := p_X6_liftOf (w0 := w) (a := a) (c := c) (WA_tg hw) (FA_tg ha) hc hE.2.2.2.2.1 (by rw [hF.2.2]; exact p_ge0.mpr (rOK_le hr c).1)
    rw [g_X6_liftAll_20]
    dsimp only
    rw [if_neg (p_ge24 hc), r1, p_some]
    dsimp only
    rw [if_pos (p_inT (by omega) hc), nI_clamp (by omega), p_let, p_let, nI_1, hF.1, hF.2.1, hF.2.2, hE.2.1]
    show ∃ u', g_X6_liftAll_20 n (am_u2 v 39 c (liS e s c)) w a re on 0 (nI (c + 1)) = _ ∧ _
    have sv : same [39, 44] u (am_u2 v 39 c (liS e s c)) := same_tr (same_mono r2 (by decide)) (same_u2 v 39 c _ (by decide))
    generalize hv2 : am_u2 v 39 c (liS e s c) = v2 at sv
    obtain ⟨u', g1, g2, g3⟩ := ih (c + 1) n v2 (by omega) (by omega) (CE_congr (sv _ (by rcases hw with rfl | rfl <;> decide)) (sv _ (by rcases hw with rfl | rfl <;> decide)) (fun x hx1 hx2 => sv x (by simp; omega)) hE) (CF_congr (sv _ (by simp; omega)) (sv _ (by simp; omega)) hF) (fun j hj => by
      rw [← hv2]
      by_cases hjc : j = c
      · subst hjc; exact u2_same _ _ _ _
      · rw [u2_nei _ _ (Or.inr hjc), r2 39 (by decide)]; exact hL j (by omega))
    exact ⟨u', g1, same_tr sv g2, g3⟩
theorem p_X6_li51 {a off : Nat} {L r : Nat → Int32} (ta : tg a = 0) (ha : FA a) {re on : Int32} (hoff : off ≤ 36) (hon : on + 24 = nI off) : ∀ (m c n : Nat) (u : am_MU), c + m = 24 → m < n → (∀ j, j < 24 → u 39 j = L j) → rc u a = mvN L r off c → ∃ u', g_X6_liftAll_51 n u a re on (sm L c) (nI c) = some (u', if re ≤ 0 then 0 else sm L 24) ∧ same [a + 1] u u' ∧ rc u' a = mvN L r off 24 := by
  have fb := FA_b ha
  intro m
  induction m with
  | zero =>
    intro c n u h1 h2 hL hR
    obtain ⟨n, rfl⟩ : ∃ k, n = k + 1 := ⟨n - 1, by omega⟩
    obtain rfl : c = 24 := by omega
    refine ⟨u, ?_, same_rf, hR⟩
    rw [g_X6_liftAll_51]
    dsimp only
    rw [if_pos (show (24 : Int32) ≤ nI 24 by decide)]
    split <;> rfl
  | succ m ih =>
    intro c n u h1 h2 hL hR
    obtain ⟨n, rfl⟩ : ∃ k, n = k + 1 := ⟨n - 1, by omega⟩
    have hc : c < 24 := by omega
    have n39 : (39 : Nat) ≠ a + 1 := by omega
    have hd : (c + off) % 24 < 24 := by omega
    rw [g_X6_liftAll_51]
    dsimp only
    rw [if_neg (p_ge24 hc), if_pos ta, if_pos (p_inT (by omega) hc), nI_clamp (by omega), p_let, p_X6_inRing _ (i := c + off) (by rw [Int32.add_assoc, hon, nI_add]) (by omega), p_some]
    dsimp only
    rw [if_pos (p_inT (by omega) hd), nI_clamp (by omega), p_let, p_let, p_let, nI_1]
    rw [u2_ne _ _ n39, u2_ne _ _ n39, hL c hc, p_rc u hc, hR]
    generalize hv1 : am_u2 u (a + 1) c (mvN L r off c c - L c) = v1
    have e1 : rc v1 a = upd (mvN L r off c) c (mvN L r off c c - L c) := by rw [← hv1, rc_u2 u hc, hR]
    rw [p_rc v1 hd, e1]
    generalize hv2 : am_u2 v1 (a + 1) ((c + off) % 24) (upd (mvN L r off c) c (mvN L r off c c - L c) ((c + off) % 24) + L c) = v2
    have e2 : rc v2 a = mvN L r off (c + 1) := by rw [← hv2, rc_u2 v1 hd, e1]; rfl
    have s2 : same [a + 1] u v2 := by rw [← hv2, ← hv1]; exact same_tr (same_u2 u _ _ _ (by simp)) (same_u2 _ _ _ _ (by simp))
    obtain ⟨u', g1, g2, g3⟩ := ih (c + 1) n v2 (by omega) (by omega) (fun j hj => by rw [s2 39 (by simpa using n39)]; exact hL j hj) e2
    rw [show v1 39 c = L c from by rw [← hv1, u2_ne _ _ n39, hL c hc]]
    exact ⟨u', g1, same_tr s2 g2, g3⟩
theorem p_X6_liftAll {w a B : Nat} {e : SE} {s : FS} {u : am_MU} (hw : WA w) (ha : FA a) (he : eOK e) (hr : rOK s.r B) (hE : CE u w e) (hF : CF u a s) : ∃ u', f_X6_liftAll u w a = some (u', if FS.reach e s ≤ 0 then 0 else sm (liS e s) 24) ∧ same [39, 44, a + 1] u u' ∧ rc u' a = lifted e s := by
  have fb := FA_b ha
  obtain ⟨o1, o2⟩ := p_offN he s
  unfold f_X6_liftAll
  rw [p_X6_reachOf u (WA_tg hw) (FA_tg ha), p_some]
  dsimp only
  rw [if_pos (FA_tg ha), p_X0_way u (FA_tg ha), p_some, p_let]
  dsimp only
  rw [hF.1, hF.2.1, hE.1, hE.2.2.1]
  show ∃ u', g_X6_liftAll_20 1700 u w a (FS.reach e s) (s.way * FS.reach e s) 0 (nI 0) = _ ∧ _
  obtain ⟨v, g1, g2, g3⟩ := p_X6_li20 (re := FS.reach e s) (on := s.way * FS.reach e s) hw ha hr 24 0 1700 u (by decide) (by decide) hE hF (fun j hj => by omega)
  rw [g1]
  obtain ⟨u', k1, k2, k3⟩ := p_X6_li51 (re := FS.reach e s) (L := liS e s) (r := s.r) (FA_tg ha) ha o1 o2 24 0 1700 v (by decide) (by decide) g3 (by rw [rc_congr (g2 _ (by simp; omega)), hF.2.2]; rfl)
  exact ⟨u', k1, same_tr (same_mono g2 (by simp)) (same_mono k2 (by simp)), k3⟩
theorem p_X6_sl5 {w a B : Nat} {e : SE} {r : Nat → Int32} (hw : WA w) (ha : FA a) (hB : B < 1000000) (hr : rOK r B) : ∀ (m c n : Nat) (u : am_MU), c + m = 24 → m < n → CE u w e → rc u a = (slN e.o1 e.steep r c).1 → ∃ u', g_X6_slideAll_5 n u w a (slN e.o1 e.steep r c).2 (nI c) = some (u', (slN e.o1 e.steep r 24).2) ∧ same [44, a + 1] u u' ∧ rc u' a = (slN e.o1 e.steep r 24).1 := by
  have fb := FA_b ha
  have ta := FA_tg ha
  intro m
  induction m with
  | zero =>
    intro c n u h1 h2 hE hR
    obtain ⟨n, rfl⟩ : ∃ k, n = k + 1 := ⟨n - 1, by omega⟩
    obtain rfl : c = 24 := by omega
    refine ⟨u, ?_, same_rf, hR⟩
    rw [g_X6_slideAll_5]
    dsimp only
    rw [if_pos (show (24 : Int32) ≤ nI 24 by decide)]
  | succ m ih =>
    intro c n u h1 h2 hE hR
    obtain ⟨n, rfl⟩ : ∃ k, n = k + 1 := ⟨n - 1, by omega⟩
    have hc : c < 24 := by omega
    have hOK := slN_OK (o := e.o1) (steep := e.steep) hr hB c (by omega)
    have ih := fun v => ih (c + 1) n v (by omega) (by omega)
    have es : slN e.o1 e.steep r (c + 1) = (mvs (slN e.o1 e.steep r c).1 c (toI (slN e.o1 e.steep r c).1 c) (slS e.o1 e.steep (slN e.o1 e.steep r c).1 c), (slN e.o1 e.steep r c).2 + slS e.o1 e.steep (slN e.o1 e.steep r c).1 c) := rfl
    rw [es] at ih
    generalize slN e.o1 e.steep r c = p at hR hOK ih
    obtain ⟨q, mo⟩ := p
    dsimp only at hR hOK ih ⊢
    have key : ∃ u', g_X6_slideAll_43 (g_X6_slideAll_5 n) u w a mo (nI c) (nI (toI q c)) = some (u', (slN e.o1 e.steep r 24).2) ∧ same [44, a + 1] u u' ∧ rc u' a = (slN e.o1 e.steep r 24).1 := by
      have ht := toI_lt q c
      unfold g_X6_slideAll_43
      rw [if_pos ta, if_pos (p_inT (by omega) hc), if_pos (p_inT (by omega) ht), nI_clamp (by omega), nI_clamp (by omega), p_let, p_rc u hc, p_rc u ht, hR]
      unfold slS at ih
      by_cases z : q c - q (toI q c) ≤ 0
      · rw [if_pos z]
        simp only [if_pos z] at ih
        rw [mvs_0, Int32.add_zero] at ih
        simp only [g_X6_slideAll_103, p_let, nI_1]
        exact ih u hE hR
      · rw [if_neg z]
        simp only [if_neg z] at ih
        obtain ⟨v, r1, r2⟩ := p_X6_slideOf (w0 := w) (WA_tg hw) hE.2.2.2.2.2.1 (d2_in z).1
        rw [hE.2.2.2.1] at r1
        rw [r1, p_some]
        simp only [p_let, g_X6_slideAll_103, nI_1]
        have hv : rc v a = q := by rw [rc_congr (r2 _ (by simp; omega)), hR]
        rw [p_rc v hc, hv]
        generalize slI e.o1 e.steep (q c - q (toI q c)) = g at ih
        generalize hv1 : am_u2 v (a + 1) c (q c - g) = v1
        have e1 : rc v1 a = upd q c (q c - g) := by rw [← hv1, rc_u2 v hc, hv]
        rw [p_rc v1 ht, e1]
        generalize hv2 : am_u2 v1 (a + 1) (toI q c) (upd q c (q c - g) (toI q c) + g) = v2
        have e2 : rc v2 a = mvs q c (toI q c) g := by rw [← hv2, rc_u2 v1 ht, e1]; rfl
        have s2 : same [44, a + 1] u v2 := by rw [← hv2, ← hv1]; exact same_tr (same_mono r2 (by simp)) (same_tr (same_u2 v _ _ _ (by simp)) (same_u2 _ _ _ _ (by simp)))
        obtain ⟨u', g1, g2, g3⟩ := ih v2 (CE_congr (s2 _ (by rcases hw with rfl | rfl <;> simp <;> omega)) (s2 _ (by rcases hw with rfl | rfl <;> simp <;> omega)) (fun x hx1 hx2 => s2 x (by simp; omega)) hE) e2
        exact ⟨u', g1, same_tr s2 g2, g3⟩
    rw [g_X6_slideAll_5]
    dsimp only
    rw [if_neg (p_ge24 hc), p_next u hc, p_some]
    dsimp only
    rw [if_pos ta, if_pos (p_inT (by omega) hc), if_pos (p_inT (by omega) (by omega)), nI_clamp (by omega), nI_clamp (by omega)]
    have z1 : u (a + 1) ((c + 1) % 24) = q ((c + 1) % 24) := by rw [p_rc u (show (c + 1) % 24 < 24 by omega), hR]
    have z2 : u (a + 1) c = q c := by rw [p_rc u hc, hR]
    unfold toI at key
    by_cases z : q ((c + 1) % 24) < q c
    · rw [if_pos (by rw [z1, z2]; exact z)]; rw [if_pos z] at key; exact key
    · rw [if_neg (by rw [z1, z2]; exact z), p_ahead u hc, p_some]; rw [if_neg z] at key; exact key
theorem p_X6_oneTick {w a B : Nat} {e : SE} {s : FS} {u : am_MU} (hw : WA w) (ha : FA a) (he : eOK e) (hB : B < 1000000) (hr : rOK s.r B) (hE : CE u w e) (hF : CF u a s) : ∃ u', f_X6_oneTick u w a = some (u', tkM e s) ∧ same [39, 44, a, a + 1] u u' ∧ CE u' w e ∧ CF u' a (tkS e s) := by
  have fb := FA_b ha
  obtain ⟨v, g1, g2, g3⟩ := p_X6_liftAll hw ha he hr hE hF
  have hE2 : CE v w e := CE_congr (g2 _ (by rcases hw with rfl | rfl <;> simp <;> omega)) (g2 _ (by rcases hw with rfl | rfl <;> simp <;> omega)) (fun x hx1 hx2 => g2 x (by simp; omega)) hE
  obtain ⟨v2, k1, k2, k3⟩ := p_X6_sl5 (e := e) (r := lifted e s) hw ha hB (lifted_OK hr hB) 24 0 1700 v (by decide) (by decide) hE2 g3
  have k1 : f_X6_slideAll v w a = some (v2, (slN e.o1 e.steep (lifted e s) 24).2) := k1
  unfold f_X6_oneTick
  rw [g1, p_some]
  dsimp only
  rw [k1, p_some, p_let, if_pos (FA_tg ha), p_let]
  dsimp only
  have s2 : same [39, 44, a, a + 1] u (am_u2 v2 a 1 (v2 a 1 + 1)) := same_tr (same_mono g2 (by simp)) (same_tr (same_mono k2 (by simp)) (same_u2 _ _ _ _ (by simp)))
  have s3 : v2 a = u a := by rw [k2 a (by simp; omega), g2 a (by simp; omega)]
  refine ⟨_, rfl, s2, CE_congr (s2 _ (by rcases hw with rfl | rfl <;> simp <;> omega)) (s2 _ (by rcases hw with rfl | rfl <;> simp <;> omega)) (fun x hx1 hx2 => s2 x (by simp; omega)) hE, ?_, ?_, ?_⟩
  · rw [u2_nei _ _ (Or.inr (by decide)), s3]; exact hF.1
  · rw [u2_same, s3, hF.2.1]; rfl
  · rw [rc_congr (u2_ne _ _ (by omega)), k3]; rfl
