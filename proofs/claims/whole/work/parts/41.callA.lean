/-! calls that read floors -/
theorem bG1 {β : Type} {x : Option (am_MU × Int32)} {u : am_MU} (h : x = some (u, 1)) (A B : am_MU × Int32 → Option β) : (x.bind fun q => if q.2 = 0 then A q else B q) = B (u, 1) := by rw [h, p_some]; exact if_neg (show ¬ (1 : Int32) = 0 by decide)
theorem bG0 {β : Type} {x : Option (am_MU × Int32)} {u : am_MU} (h : x = some (u, 0)) (A B : am_MU × Int32 → Option β) : (x.bind fun q => if q.2 = 0 then A q else B q) = A (u, 0) := by rw [h, p_some]; exact if_pos (show (0 : Int32) = 0 from rfl)
theorem k_sand (x y : Int32) : Call (fun u => f_X6_sand u x y) (fun u => f_X7_sand u x y) := by
  intro S B hS hB
  have hn := hS.now.n
  rcases rng x (show S.now.n < 2 ^ 31 by omega) with ⟨i, hi, rfl⟩ | hx
  · skip
    have hi6 : i < 6 := by omega
    rcases rng y (show 24 < 2 ^ 31 by omega) with ⟨c, hc, rfl⟩ | hy
    · skip
      refine Cro hS ((S.now.fl i).r c) (fun u hu => ?_) (fun u hu => ?_)
      · simp only [f_X6_sand, fC1 hu.now.n hn hi, cC1 u hc, p_some, one0, ↓reduceIte, p_inT (show i < 2 ^ 31 by omega) hi6, nI_clamp (show i < 2 ^ 31 by omega), tg5 i hi6, p_inT (show c < 2 ^ 31 by omega) hc, nI_clamp (show c < 2 ^ 31 by omega)]
        rw [CF_at (fl1 hu hi) hc]
      · simp only [f_X7_sand, fM1 hu.now.n hn hi, cM1 u hc, p_some, one0, ↓reduceIte, p_sand0 u hi6 hc]
        rw [rm_eq, (hu.now.fl i hi).2.2]
    · exact Cro hS (-1000000001) (fun u hu => by simp only [f_X6_sand, fC1 hu.now.n hn hi, cC0 u hy, p_some, one0, ↓reduceIte]) (fun u hu => by simp only [f_X7_sand, fM1 hu.now.n hn hi, cM0 u hy, p_some, one0, ↓reduceIte])
  · exact Cro hS (-1000000001) (fun u hu => by simp only [f_X6_sand, fC0 hu.now.n hx, p_some, one0, ↓reduceIte]) (fun u hu => by simp only [f_X7_sand, fM0 hu.now.n hn hx, p_some, one0, ↓reduceIte])
def unI (k one : Int32) : Int32 := if one = 0 then 1 else if k = one then 1 else if one = 1 then (if k = 3 then 1 else if one = 2 then (if k = 4 then 1 else 0) else 0) else if one = 2 then (if k = 4 then 1 else 0) else 0
theorem p_X7_isUnder (u : am_MU) (k one : Int32) : f_X7_isUnder u k one = some (u, unI k one) := by
  unfold f_X7_isUnder g_X7_isUnder_19 unI
  repeat' split
  all_goals first | rfl | contradiction
theorem p_X6_isUnder (u : am_MU) {a b : Nat} (ha : a < 6) (hb : b < 6) : f_X6_isUnder u (nI a) (nI b) = some (u, unI (nI a) (nI b)) := by
  rcases (show a = 0 ∨ a = 1 ∨ a = 2 ∨ a = 3 ∨ a = 4 ∨ a = 5 by omega) with rfl | rfl | rfl | rfl | rfl | rfl <;> rcases (show b = 0 ∨ b = 1 ∨ b = 2 ∨ b = 3 ∨ b = 4 ∨ b = 5 by omega) with rfl | rfl | rfl | rfl | rfl | rfl <;> rfl
theorem k_as (x y : Int32) : Call (fun u => f_X6_as u x y) (fun u => f_X7_as u x y) := by
  intro S B hS hB
  have hn := hS.now.n
  rcases rng x (show S.now.n < 2 ^ 31 by omega) with ⟨i, hi, rfl⟩ | hx
  · skip
    have hi6 : i < 6 := by omega
    rcases rng y (show 6 < 2 ^ 31 by omega) with ⟨k, hk, rfl⟩ | hy
    · skip
      obtain ⟨k2, hk2, ek⟩ := hS.now.k i hi
      by_cases hz : unI (nI k2) (nI k) = 0
      · refine Cro hS (-1000000012) (fun u hu => ?_) (fun u hu => ?_)
        · simp only [f_X6_as, fC1 hu.now.n hn hi, kC1 u hk, p_some, one0, ↓reduceIte, p_inT (show i < 2 ^ 31 by omega) hi6, nI_clamp (show i < 2 ^ 31 by omega), tg5 i hi6, (fl1 hu hi).1, (fl1 hu hi).2.1, ek, p_X6_isUnder u hk2 hk]
          rw [if_pos hz]
        · simp only [f_X7_as, fM1 hu.now.n hn hi, in_in u 5 (n := 5) rfl (by decide) hk, p_some, one0, ↓reduceIte, p_X7_kindOf u hi6, p_X7_tickOf u hi6, (hu.now.fl i hi).1, (hu.now.fl i hi).2.1, ek, p_X7_isUnder]
          rw [if_pos hz]
      · refine Cro hS ((S.now.fl i).t) (fun u hu => ?_) (fun u hu => ?_)
        · simp only [f_X6_as, fC1 hu.now.n hn hi, kC1 u hk, p_some, one0, ↓reduceIte, p_inT (show i < 2 ^ 31 by omega) hi6, nI_clamp (show i < 2 ^ 31 by omega), tg5 i hi6, (fl1 hu hi).1, (fl1 hu hi).2.1, ek, p_X6_isUnder u hk2 hk]
          rw [if_neg hz]
        · simp only [f_X7_as, fM1 hu.now.n hn hi, in_in u 5 (n := 5) rfl (by decide) hk, p_some, one0, ↓reduceIte, p_X7_kindOf u hi6, p_X7_tickOf u hi6, (hu.now.fl i hi).1, (hu.now.fl i hi).2.1, ek, p_X7_isUnder]
          rw [if_neg hz]
    · exact Cro hS (-1000000001) (fun u hu => by simp only [f_X6_as, fC1 hu.now.n hn hi, kC0 u hy, p_some, one0, ↓reduceIte]) (fun u hu => by simp only [f_X7_as, fM1 hu.now.n hn hi, out_in u 5 (n := 5) rfl (by decide) hy, p_some, one0, ↓reduceIte])
  · exact Cro hS (-1000000001) (fun u hu => by simp only [f_X6_as, fC0 hu.now.n hx, p_some, one0, ↓reduceIte]) (fun u hu => by simp only [f_X7_as, fM0 hu.now.n hn hx, p_some, one0, ↓reduceIte])
def crF (r : Nat → Int32) (x : Int32) : Nat → Nat → Int32 → Int32
  | 0, _, _ => -1000000005
  | m + 1, c, b => if crI r c = 0 then crF r x m (c + 1) b else if b = x then nI c else crF r x m (c + 1) (b + 1)
theorem p_X6_crestL (u : am_MU) {a : Nat} (ta : tg a = 0) (x : Int32) : ∀ (m c n : Nat) (b : Int32), c + m = 24 → m < n → g_X6_crest_31 n u x a b (nI c) = some (u, crF (rc u a) x m c b) := by
  intro m
  induction m with
  | zero =>
    intro c n b h1 h2
    obtain ⟨n, rfl⟩ : ∃ k, n = k + 1 := ⟨n - 1, by omega⟩
    obtain rfl : c = 24 := by omega
    rw [g_X6_crest_31]
    dsimp only
    rw [if_pos (show (24 : Int32) ≤ nI 24 by decide)]
    rfl
  | succ m ih =>
    intro c n b h1 h2
    obtain ⟨n, rfl⟩ : ∃ k, n = k + 1 := ⟨n - 1, by omega⟩
    have hc : c < 24 := by omega
    rw [g_X6_crest_31]
    dsimp only
    rw [if_neg (p_ge24 hc), if_pos ta, p_X0_isCrest u ta hc, p_some, crF]
    simp only [g_X6_crest_59, p_let, nI_1]
    split
    · exact ih (c + 1) n b (by omega) (by omega)
    · split
      · rfl
      · exact ih (c + 1) n (b + 1) (by omega) (by omega)
theorem p_X7_crestL2 (u : am_MU) {f : Nat} (hf : f < 6) (x : Int32) : ∀ (m c n : Nat) (b : Int32), c + m = 24 → m < n → ¬ b - 1 = x → g_X7_crest_20 n u (nI f) x (b - 1) (nI c) = some (u, crF (rm u 111 f) x m c b) := by
  intro m
  induction m with
  | zero =>
    intro c n b h1 h2 h3
    obtain ⟨n, rfl⟩ : ∃ k, n = k + 1 := ⟨n - 1, by omega⟩
    obtain rfl : c = 24 := by omega
    rw [g_X7_crest_20]
    dsimp only
    rw [if_pos (show (24 : Int32) ≤ nI 24 by decide)]
    rfl
  | succ m ih =>
    intro c n b h1 h2 h3
    obtain ⟨n, rfl⟩ : ∃ k, n = k + 1 := ⟨n - 1, by omega⟩
    have hc : c < 24 := by omega
    rw [g_X7_crest_20]
    dsimp only
    rw [if_neg (p_ge24 hc), p_X7_isCrest u hf hc, p_some, crF]
    simp only [g_X7_crest_43, p_let, nI_1, Int32.add_zero, Int32.sub_add_cancel]
    split
    · exact ih (c + 1) n b (by omega) (by omega) h3
    · split
      · rfl
      · rename_i h4
        have := ih (c + 1) n (b + 1) (by omega) (by omega) (by rw [Int32.add_sub_cancel]; exact h4)
        rw [Int32.add_sub_cancel] at this
        exact this
theorem k_crest (x y : Int32) : Call (fun u => f_X6_crest u x y) (fun u => f_X7_crest u x y) := by
  intro S B hS hB
  have hn := hS.now.n
  rcases rng x (show S.now.n < 2 ^ 31 by omega) with ⟨i, hi, rfl⟩ | hx
  · skip
    have hi6 : i < 6 := by omega
    by_cases hy : 0 ≤ y
    · refine Cro hS (crF (S.now.fl i).r y 24 0 0) (fun u hu => ?_) (fun u hu => ?_)
      · simp only [f_X6_crest, fC1 hu.now.n hn hi, p_some, one0, ↓reduceIte, p_inT (show i < 2 ^ 31 by omega) hi6, nI_clamp (show i < 2 ^ 31 by omega), tg5 i hi6, if_pos hy]
        have := p_X6_crestL u (tg5 i hi6) y 24 0 1700 0 rfl (by decide)
        rw [(fl1 hu hi).2.2] at this
        exact this
      · simp only [f_X7_crest, fM1 hu.now.n hn hi, p_some, one0, ↓reduceIte, if_pos hy]
        have := p_X7_crestL2 u hi6 y 24 0 1700 0 rfl (by decide) (fun e => by rw [← e] at hy; exact absurd hy (by decide))
        rw [rm_eq, (hu.now.fl i hi).2.2] at this
        exact this
    · refine Cro hS (-1000000001) (fun u hu => ?_) (fun u hu => ?_)
      · simp only [f_X6_crest, fC1 hu.now.n hn hi, p_some, one0, ↓reduceIte, p_inT (show i < 2 ^ 31 by omega) hi6, nI_clamp (show i < 2 ^ 31 by omega), tg5 i hi6, if_neg hy]
      · simp only [f_X7_crest, fM1 hu.now.n hn hi, p_some, one0, ↓reduceIte, if_neg hy]
  · exact Cro hS (-1000000001) (fun u hu => by simp only [f_X6_crest, fC0 hu.now.n hx, p_some, one0, ↓reduceIte]) (fun u hu => by simp only [f_X7_crest, fM0 hu.now.n hn hx, p_some, one0, ↓reduceIte])
theorem k_apart (x : Int32) : Call (fun u => f_X6_apart u x) (fun u => f_X7_apart u x) := by
  intro S B hS hB
  have hn := hS.now.n
  rcases rng x (show S.now.n < 2 ^ 31 by omega) with ⟨i, hi, rfl⟩ | hx
  · skip
    have hi6 : i < 6 := by omega
    by_cases hz : sm (crI (S.now.fl i).r) 24 = 0
    · refine Cro hS (-1000000005) (fun u hu => ?_) (fun u hu => ?_)
      · simp only [f_X6_apart, fC1 hu.now.n hn hi, p_some, one0, ↓reduceIte, p_inT (show i < 2 ^ 31 by omega) hi6, nI_clamp (show i < 2 ^ 31 by omega), tg5 i hi6, p_X0_crests u (tg5 i hi6), (fl1 hu hi).2.2]
        rw [if_pos hz]
      · simp only [f_X7_apart, fM1 hu.now.n hn hi, p_some, one0, ↓reduceIte, p_X7_crests u hi6, rm_eq, (hu.now.fl i hi).2.2]
        rw [if_pos hz]
    · refine Cro hS (2400 / sm (crI (S.now.fl i).r) 24) (fun u hu => ?_) (fun u hu => ?_)
      · simp only [f_X6_apart, fC1 hu.now.n hn hi, p_some, one0, ↓reduceIte, p_inT (show i < 2 ^ 31 by omega) hi6, nI_clamp (show i < 2 ^ 31 by omega), tg5 i hi6, p_X0_crests u (tg5 i hi6), (fl1 hu hi).2.2]
        rw [if_neg hz, if_pos hz]
      · simp only [f_X7_apart, fM1 hu.now.n hn hi, p_some, one0, ↓reduceIte, p_X7_crests u hi6, rm_eq, (hu.now.fl i hi).2.2]
        rw [if_neg hz, if_pos hz]
  · exact Cro hS (-1000000001) (fun u hu => by simp only [f_X6_apart, fC0 hu.now.n hx, p_some, one0, ↓reduceIte]) (fun u hu => by simp only [f_X7_apart, fM0 hu.now.n hn hx, p_some, one0, ↓reduceIte])
def flF (r : Nat → Int32) (d : Int32) : Nat → Nat → Int32
  | 0, _ => 1
  | m + 1, c => if r c - r ((c + 1) % 24) < -d ∨ d < r c - r ((c + 1) % 24) then 0 else flF r d m (c + 1)
theorem p_abd {x d : Int32} (h0 : -2000000 ≤ x.toInt) (h1 : x.toInt ≤ 2000000) (hd : 0 ≤ d.toInt) (hd2 : d.toInt ≤ 1000) : (if 0 ≤ x then x else -x) ≤ d ↔ ¬ (x < -d ∨ d < x) := by
  have e1 : (-d).toInt = - d.toInt := by rw [Int32.toInt_neg]; exact Int.bmod_eq_of_le (by omega) (by omega)
  have e2 : (-x).toInt = - x.toInt := by rw [Int32.toInt_neg]; exact Int.bmod_eq_of_le (by omega) (by omega)
  by_cases h : 0 ≤ x
  · rw [if_pos h]
    rw [p_ge0] at h
    simp only [Int32.le_iff_toInt_le, Int32.lt_iff_toInt_lt, e1]
    omega
  · rw [if_neg h]
    rw [p_ge0] at h
    simp only [Int32.le_iff_toInt_le, Int32.lt_iff_toInt_lt, e1, e2]
    omega
theorem p_X6_flatL (u : am_MU) {a B : Nat} (ta : tg a = 0) {d : Int32} (hr : rOK (rc u a) B) (hB : B < 1000000) (hd : 0 ≤ d.toInt) (hd2 : d.toInt ≤ 1000) : ∀ (m c n : Nat), c + m = 24 → m < n → g_X6_flat_34 n u d a (nI c) = some (u, flF (rc u a) d m c) := by
  intro m
  induction m with
  | zero =>
    intro c n h1 h2
    obtain ⟨n, rfl⟩ : ∃ k, n = k + 1 := ⟨n - 1, by omega⟩
    obtain rfl : c = 24 := by omega
    rw [g_X6_flat_34]
    dsimp only
    rw [if_pos (show (24 : Int32) ≤ nI 24 by decide)]
    rfl
  | succ m ih =>
    intro c n h1 h2
    obtain ⟨n, rfl⟩ : ∃ k, n = k + 1 := ⟨n - 1, by omega⟩
    have hc : c < 24 := by omega
    have q1 := rOK_le hr c
    have q2 := rOK_le hr ((c + 1) % 24)
    have e := p_sub_toInt (a := rc u a c) (b := rc u a ((c + 1) % 24)) (by omega) (by omega) (by omega) (by omega)
    rw [g_X6_flat_34]
    dsimp only
    rw [if_neg (p_ge24 hc), if_pos ta, if_pos (p_inT (by omega) hc), p_next u hc, p_some]
    dsimp only
    rw [if_pos (p_inT (by omega) (by omega)), nI_clamp (by omega), nI_clamp (by omega), p_rc u hc, p_rc u (show (c + 1) % 24 < 24 by omega), p_abs, p_some, flF]
    simp only [p_let, nI_1]
    have k := p_abd (x := rc u a c - rc u a ((c + 1) % 24)) (d := d) (by omega) (by omega) hd hd2
    by_cases z : rc u a c - rc u a ((c + 1) % 24) < -d ∨ d < rc u a c - rc u a ((c + 1) % 24)
    · rw [if_pos z, if_neg (fun q => k.mp q z)]
    · rw [if_neg z, if_pos (k.mpr z)]
      exact ih (c + 1) n (by omega) (by omega)
theorem p_X7_flatL (u : am_MU) {f : Nat} (hf : f < 6) {d : Int32} : ∀ (m c n : Nat), c + m = 24 → m < n → g_X7_flat_23 n u (nI f) d (nI c) = some (u, flF (rm u 111 f) d m c) := by
  intro m
  induction m with
  | zero =>
    intro c n h1 h2
    obtain ⟨n, rfl⟩ : ∃ k, n = k + 1 := ⟨n - 1, by omega⟩
    obtain rfl : c = 24 := by omega
    rw [g_X7_flat_23]
    dsimp only
    rw [if_pos (show (24 : Int32) ≤ nI 24 by decide)]
    rfl
  | succ m ih =>
    intro c n h1 h2
    obtain ⟨n, rfl⟩ : ∃ k, n = k + 1 := ⟨n - 1, by omega⟩
    have hc : c < 24 := by omega
    rw [g_X7_flat_23]
    dsimp only
    rw [if_neg (p_ge24 hc), p_sand0 u hf hc, p_some]
    dsimp only
    rw [p_sandP u hf hc, p_some]
    dsimp only
    rw [p_X7_in, p_some, flF]
    simp only [p_let, nI_1]
    by_cases z : rm u 111 f c - rm u 111 f ((c + 1) % 24) < -d ∨ d < rm u 111 f c - rm u 111 f ((c + 1) % 24)
    · rw [if_pos z, if_pos z, if_pos rfl]
    · rw [if_neg z, if_neg z, if_neg (by decide)]
      exact ih (c + 1) n (by omega) (by omega)
theorem k_flat (x y : Int32) : Call (fun u => f_X6_flat u x y) (fun u => f_X7_flat u x y) := by
  intro S B hS hB
  have hn := hS.now.n
  rcases rng x (show S.now.n < 2 ^ 31 by omega) with ⟨i, hi, rfl⟩ | hx
  · skip
    have hi6 : i < 6 := by omega
    rcases rng y (show 100 < 2 ^ 31 by omega) with ⟨d, hd, rfl⟩ | hy
    · skip
      have hr := hS.now.r i hi
      refine Cro hS (flF (S.now.fl i).r (nI d) 24 0) (fun u hu => ?_) (fun u hu => ?_)
      · simp only [f_X6_flat, fC1 hu.now.n hn hi, ii hd (show 99 < 1000000 by decide) 99 rfl, p_some, one0, ↓reduceIte, p_inT (show i < 2 ^ 31 by omega) hi6, nI_clamp (show i < 2 ^ 31 by omega), tg5 i hi6]
        have e := (fl1 hu hi).2.2
        have := p_X6_flatL u (B := B) (d := nI d) (tg5 i hi6) (by rw [e]; exact hr) (by omega) (by rw [nI_toInt (by omega)]; omega) (by rw [nI_toInt (by omega)]; omega) 24 0 1700 rfl (by decide)
        rw [e] at this
        exact this
      · simp only [f_X7_flat, fM1 hu.now.n hn hi, in_in u 99 (n := 99) rfl (by decide) hd, p_some, one0, ↓reduceIte]
        have := p_X7_flatL u (d := nI d) hi6 24 0 1700 rfl (by decide)
        rw [rm_eq, (hu.now.fl i hi).2.2] at this
        exact this
    · exact Cro hS (-1000000001) (fun u hu => by simp only [f_X6_flat, fC1 hu.now.n hn hi, oi hy (show 99 < 1000000 by decide) 99 rfl, p_some, one0, ↓reduceIte]) (fun u hu => by simp only [f_X7_flat, fM1 hu.now.n hn hi, out_in u 99 (n := 99) rfl (by decide) hy, p_some, one0, ↓reduceIte])
  · exact Cro hS (-1000000001) (fun u hu => by simp only [f_X6_flat, fC0 hu.now.n hx, p_some, one0, ↓reduceIte]) (fun u hu => by simp only [f_X7_flat, fM0 hu.now.n hn hx, p_some, one0, ↓reduceIte])
def unS (r q : Nat → Int32) (t : Nat) : Nat → Int32 := fun c => if r c = q ((c + t) % 24) then 0 else 1
theorem p_X0_unL (u : am_MU) {a b t : Nat} (ta : tg a = 0) (tb : tg b = 0) (ht : t < 24) : ∀ (m c n : Nat), c + m = 24 → m < n → g_X0_unlikeTurned_5 n u a b (nI t) (sm (unS (rc u a) (rc u b) t) c) (nI c) = some (u, sm (unS (rc u a) (rc u b) t) 24) := by
  intro m
  induction m with
  | zero =>
    intro c n h1 h2
    obtain ⟨n, rfl⟩ : ∃ k, n = k + 1 := ⟨n - 1, by omega⟩
    obtain rfl : c = 24 := by omega
    rw [g_X0_unlikeTurned_5]
    dsimp only
    rw [if_pos (show (24 : Int32) ≤ nI 24 by decide)]
  | succ m ih =>
    intro c n h1 h2
    obtain ⟨n, rfl⟩ : ∃ k, n = k + 1 := ⟨n - 1, by omega⟩
    have hc : c < 24 := by omega
    have hd : (c + t) % 24 < 24 := by omega
    have ih := ih (c + 1) n (by omega) (by omega)
    rw [g_X0_unlikeTurned_5]
    dsimp only
    rw [if_neg (p_ge24 hc), if_pos ta, if_pos (p_inT (by omega) hc), if_pos tb, p_X6_inRing u (i := c + t + 24) (by rw [nI_add, show (24 : Int32) = nI 24 from rfl, nI_add]) (by omega), p_some, show (c + t + 24) % 24 = (c + t) % 24 by omega]
    dsimp only
    rw [if_pos (p_inT (by omega) hd), nI_clamp (by omega), nI_clamp (by omega)]
    simp only [p_rc u hc, p_rc u hd, g_X0_unlikeTurned_37, p_let, nI_1]
    rw [sm] at ih
    by_cases z : rc u a c = rc u b ((c + t) % 24)
    · rw [if_pos z]
      rw [show unS (rc u a) (rc u b) t c = 0 from if_pos z, Int32.add_zero] at ih
      exact ih
    · rw [if_neg z]
      rw [show unS (rc u a) (rc u b) t c = 1 from if_neg z] at ih
      exact ih
theorem p_X0_un (u : am_MU) {a b t : Nat} (ta : tg a = 0) (tb : tg b = 0) (ht : t < 24) : f_X0_unlikeTurned u a b (nI t) = some (u, sm (unS (rc u a) (rc u b) t) 24) := p_X0_unL u ta tb ht 24 0 1700 rfl (by decide)
theorem p_X7_unL (u : am_MU) {f g t : Nat} (hf : f < 6) (hg : g < 6) (ht : t < 24) : ∀ (m c n : Nat), c + m = 24 → m < n → g_X7_unlikeBy_6 n u (nI f) (nI g) (nI t) (sm (unS (rm u 111 f) (rm u 111 g) t) c) (nI c) = some (u, sm (unS (rm u 111 f) (rm u 111 g) t) 24) := by
  intro m
  induction m with
  | zero =>
    intro c n h1 h2
    obtain ⟨n, rfl⟩ : ∃ k, n = k + 1 := ⟨n - 1, by omega⟩
    obtain rfl : c = 24 := by omega
    rw [g_X7_unlikeBy_6]
    dsimp only
    rw [if_pos (show (24 : Int32) ≤ nI 24 by decide)]
  | succ m ih =>
    intro c n h1 h2
    obtain ⟨n, rfl⟩ : ∃ k, n = k + 1 := ⟨n - 1, by omega⟩
    have hc : c < 24 := by omega
    have hd : (c + t) % 24 < 24 := by omega
    have ih := ih (c + 1) n (by omega) (by omega)
    rw [g_X7_unlikeBy_6]
    dsimp only
    rw [if_neg (p_ge24 hc), p_sand0 u hf hc, p_some]
    dsimp only
    rw [p_X7_sandOf u g (c + t + 48) _ hg (by rw [nI_add, p_48]) (by omega), p_some, show (c + t + 48) % 24 = (c + t) % 24 by omega]
    dsimp only
    rw [show u 111 (9 + 26 * g + (c + t) % 24) = rm u 111 g ((c + t) % 24) from by rw [rm, cut_lt hd]]
    simp only [g_X7_unlikeBy_39, p_let, nI_1]
    rw [sm] at ih
    by_cases z : rm u 111 f c = rm u 111 g ((c + t) % 24)
    · rw [if_pos z]
      rw [show unS (rm u 111 f) (rm u 111 g) t c = 0 from if_pos z] at ih
      exact ih
    · rw [if_neg z]
      rw [show unS (rm u 111 f) (rm u 111 g) t c = 1 from if_neg z] at ih
      exact ih
theorem p_X7_un (u : am_MU) {f g t : Nat} (hf : f < 6) (hg : g < 6) (ht : t < 24) : f_X7_unlikeBy u (nI f) (nI g) (nI t) = some (u, sm (unS (rm u 111 f) (rm u 111 g) t) 24) := p_X7_unL u hf hg ht 24 0 1700 rfl (by decide)
theorem sm_01 {f : Nat → Int32} (hf : ∀ c, f c = 0 ∨ f c = 1) : ∀ n, ∃ k, k ≤ n ∧ sm f n = nI k := by
  intro n
  induction n with
  | zero => exact ⟨0, Nat.le_refl _, rfl⟩
  | succ n ih =>
    obtain ⟨k, h1, h2⟩ := ih
    rw [sm, h2]
    rcases hf n with h | h
    · rw [h, Int32.add_zero]; exact ⟨k, by omega, rfl⟩
    · rw [h, nI_1]; exact ⟨k + 1, by omega, rfl⟩
theorem un_01 (r q : Nat → Int32) (t c : Nat) : unS r q t c = 0 ∨ unS r q t c = 1 := by
  unfold unS
  split
  · exact Or.inl rfl
  · exact Or.inr rfl
/-- the turn with the fewest, the first of them -/
def tuB (U : Nat → Int32) : Nat → Nat → Nat
  | 0, b => b
  | m + 1, b => tuB U m (if U (24 - (m + 1)) < U b then 24 - (m + 1) else b)
theorem p_X6_tuL (u : am_MU) {i j : Nat} (hi : i < 6) (hj : j < 6) {w : Int32} {U : Nat → Int32} (hU : ∀ t, t < 24 → sm (unS (rc u (5 + 2 * i)) (rc u (5 + 2 * j)) t) 24 = U t) : ∀ (m n b : Nat), m ≤ 24 → m < n → b < 24 → g_X6_turned_38 n u (nI i) (nI j) w (nI b) (U b) (nI (24 - m)) = some (u, if w = 0 then nI (tuB U m b) else U (tuB U m b)) := by
  intro m
  induction m with
  | zero =>
    intro n b h0 h2 hb
    obtain ⟨n, rfl⟩ : ∃ k, n = k + 1 := ⟨n - 1, by omega⟩
    rw [g_X6_turned_38]
    dsimp only
    rw [if_pos (show (24 : Int32) ≤ nI 24 by decide)]
    show _ = some (u, if w = 0 then nI b else U b)
    split <;> rfl
  | succ m ih =>
    intro n b h0 h2 hb
    obtain ⟨n, rfl⟩ : ∃ k, n = k + 1 := ⟨n - 1, by omega⟩
    have ht : 24 - (m + 1) < 24 := by omega
    rw [g_X6_turned_38]
    dsimp only
    rw [if_neg (p_ge24 ht), if_pos (p_inT (by omega) hi), if_pos (p_inT (by omega) hj), nI_clamp (by omega), nI_clamp (by omega), if_pos (tg5 i hi), p_X0_un u (tg5 i hi) (tg5 j hj) ht, p_some, tuB]
    simp only [g_X6_turned_85, p_let, nI_1, hU _ ht]
    rw [show 24 - (m + 1) + 1 = 24 - m by omega]
    by_cases z : U (24 - (m + 1)) < U b
    · rw [if_pos z, if_neg (Int32.not_le.mpr z)]
      exact ih n _ (by omega) (by omega) ht
    · rw [if_neg z, if_pos (Int32.not_lt.mp z)]
      exact ih n _ (by omega) (by omega) hb
theorem p_X7_tuL (u : am_MU) {i j : Nat} (hi : i < 6) (hj : j < 6) {w : Int32} {U : Nat → Int32} (hU : ∀ t, t < 24 → sm (unS (rm u 111 i) (rm u 111 j) t) 24 = U t) : ∀ (m n b : Nat), m ≤ 24 → m < n → b < 24 → g_X7_turned_34 n u (nI i) (nI j) w (nI b) (nI (24 - m)) = some (u, if w = 0 then nI (tuB U m b) else U (tuB U m b)) := by
  intro m
  induction m with
  | zero =>
    intro n b h0 h2 hb
    obtain ⟨n, rfl⟩ : ∃ k, n = k + 1 := ⟨n - 1, by omega⟩
    rw [g_X7_turned_34]
    dsimp only
    rw [if_pos (show (24 : Int32) ≤ nI 24 by decide), p_X7_un u hi hj hb, p_some]
    show _ = some (u, if w = 0 then nI b else U b)
    rw [hU b hb]
    split <;> rfl
  | succ m ih =>
    intro n b h0 h2 hb
    obtain ⟨n, rfl⟩ : ∃ k, n = k + 1 := ⟨n - 1, by omega⟩
    have ht : 24 - (m + 1) < 24 := by omega
    rw [g_X7_turned_34]
    dsimp only
    rw [if_neg (p_ge24 ht), p_X7_un u hi hj ht, p_some]
    dsimp only
    rw [p_X7_un u hi hj hb, p_some, tuB]
    simp only [g_X7_turned_67, p_let, nI_1, hU _ ht, hU _ hb]
    rw [show 24 - (m + 1) + 1 = 24 - m by omega]
    by_cases z : U (24 - (m + 1)) < U b
    · rw [if_pos z, if_neg (Int32.not_le.mpr z)]
      exact ih n _ (by omega) (by omega) ht
    · rw [if_neg z, if_pos (Int32.not_lt.mp z)]
      exact ih n _ (by omega) (by omega) hb
theorem k_unlike (x y : Int32) : Call (fun u => f_X6_unlike u x y) (fun u => f_X7_unlike u x y) := by
  intro S B hS hB
  have hn := hS.now.n
  rcases rng x (show S.now.n < 2 ^ 31 by omega) with ⟨i, hi, rfl⟩ | hx
  · skip
    have hi6 : i < 6 := by omega
    rcases rng y (show S.now.n < 2 ^ 31 by omega) with ⟨j, hj, rfl⟩ | hy
    · skip
      have hj6 : j < 6 := by omega
      refine Cro hS (sm (unS (S.now.fl i).r (S.now.fl j).r 0) 24) (fun u hu => ?_) (fun u hu => ?_)
      · have e := p_X0_un u (t := 0) (tg5 i hi6) (tg5 j hj6) (by decide)
        rw [show nI 0 = (0 : Int32) from rfl, (fl1 hu hi).2.2, (fl1 hu hj).2.2] at e
        simp only [f_X6_unlike, fC1 hu.now.n hn hi, fC1 hu.now.n hn hj, p_some, one0, ↓reduceIte, p_inT (show i < 2 ^ 31 by omega) hi6, nI_clamp (show i < 2 ^ 31 by omega), tg5 i hi6, p_inT (show j < 2 ^ 31 by omega) hj6, nI_clamp (show j < 2 ^ 31 by omega), tg5 j hj6, e]
      · have e := p_X7_un u (t := 0) hi6 hj6 (by decide)
        rw [show nI 0 = (0 : Int32) from rfl, rm_eq, rm_eq, (hu.now.fl i hi).2.2, (hu.now.fl j hj).2.2] at e
        simp only [f_X7_unlike, fM1 hu.now.n hn hi, fM1 hu.now.n hn hj, p_some, one0, ↓reduceIte, e]
    · exact Cro hS (-1000000001) (fun u hu => by simp only [f_X6_unlike, fC1 hu.now.n hn hi, fC0 hu.now.n hy, p_some, one0, ↓reduceIte]) (fun u hu => by simp only [f_X7_unlike, fM1 hu.now.n hn hi, fM0 hu.now.n hn hy, p_some, one0, ↓reduceIte])
  · exact Cro hS (-1000000001) (fun u hu => by simp only [f_X6_unlike, fC0 hu.now.n hx, p_some, one0, ↓reduceIte]) (fun u hu => by simp only [f_X7_unlike, fM0 hu.now.n hn hx, p_some, one0, ↓reduceIte])
theorem k_turned (x y z : Int32) : Call (fun u => f_X6_turned u x y z) (fun u => f_X7_turned u x y z) := by
  intro S B hS hB
  have hn := hS.now.n
  rcases rng x (show S.now.n < 2 ^ 31 by omega) with ⟨i, hi, rfl⟩ | hx
  · skip
    have hi6 : i < 6 := by omega
    rcases rng y (show S.now.n < 2 ^ 31 by omega) with ⟨j, hj, rfl⟩ | hy
    · skip
      have hj6 : j < 6 := by omega
      rcases rng z (show 2 < 2 ^ 31 by omega) with ⟨w, hw, rfl⟩ | hz
      · skip
        refine Cro hS (if nI w = 0 then nI (tuB (fun t => sm (unS (S.now.fl i).r (S.now.fl j).r t) 24) 23 0) else (fun t => sm (unS (S.now.fl i).r (S.now.fl j).r t) 24) (tuB (fun t => sm (unS (S.now.fl i).r (S.now.fl j).r t) 24) 23 0)) (fun u hu => ?_) (fun u hu => ?_)
        · simp only [f_X6_turned, fC1 hu.now.n hn hi, fC1 hu.now.n hn hj, ii hw (show 1 < 1000000 by decide) 1 rfl, p_some, one0, ↓reduceIte]
          have ei := (fl1 hu hi).2.2
          have ej := (fl1 hu hj).2.2
          have hU : ∀ t, t < 24 → sm (unS (rc u (5 + 2 * i)) (rc u (5 + 2 * j)) t) 24 = (fun t => sm (unS (S.now.fl i).r (S.now.fl j).r t) 24) t := fun t _ => by rw [ei, ej]
          have := p_X6_tuL u hi6 hj6 (w := nI w) hU 23 1699 0 (by decide) (by decide) (by decide)
          rw [← this]
          obtain ⟨k, k1, k2⟩ := sm_01 (un_01 (S.now.fl i).r (S.now.fl j).r 0) 24
          rw [show g_X6_turned_38 1700 = g_X6_turned_38 (1699 + 1) from rfl, g_X6_turned_38]
          dsimp only
          rw [if_neg (by decide), if_pos (p_inT (by omega) hi6), if_pos (p_inT (by omega) hj6), nI_clamp (by omega), nI_clamp (by omega), if_pos (tg5 i hi6), show (0 : Int32) = nI 0 from rfl, p_X0_un u (t := 0) (tg5 i hi6) (tg5 j hj6) (by decide), p_some, ei, ej, k2]
          simp only [g_X6_turned_85, p_let, nI_1]
          rw [if_neg (show ¬ (25 : Int32) ≤ nI k from nI_ge (show k < 25 by omega) (by decide))]
        · simp only [f_X7_turned, fM1 hu.now.n hn hi, fM1 hu.now.n hn hj, in_in u 1 (n := 1) rfl (by decide) hw, p_some, one0, ↓reduceIte]
          have hU : ∀ t, t < 24 → sm (unS (rm u 111 i) (rm u 111 j) t) 24 = (fun t => sm (unS (S.now.fl i).r (S.now.fl j).r t) 24) t := fun t _ => by rw [rm_eq, rm_eq, (hu.now.fl i hi).2.2, (hu.now.fl j hj).2.2]
          exact p_X7_tuL u hi6 hj6 (w := nI w) hU 23 1700 0 (by decide) (by decide) (by decide)
      · exact Cro hS (-1000000001) (fun u hu => by simp only [f_X6_turned, fC1 hu.now.n hn hi, fC1 hu.now.n hn hj, oi hz (show 1 < 1000000 by decide) 1 rfl, p_some, one0, ↓reduceIte]) (fun u hu => by simp only [f_X7_turned, fM1 hu.now.n hn hi, fM1 hu.now.n hn hj, out_in u 1 (n := 1) rfl (by decide) hz, p_some, one0, ↓reduceIte])
    · exact Cro hS (-1000000001) (fun u hu => by simp only [f_X6_turned, fC1 hu.now.n hn hi, fC0 hu.now.n hy, p_some, one0, ↓reduceIte]) (fun u hu => by simp only [f_X7_turned, fM1 hu.now.n hn hi, fM0 hu.now.n hn hy, p_some, one0, ↓reduceIte])
  · exact Cro hS (-1000000001) (fun u hu => by simp only [f_X6_turned, fC0 hu.now.n hx, p_some, one0, ↓reduceIte]) (fun u hu => by simp only [f_X7_turned, fM0 hu.now.n hn hx, p_some, one0, ↓reduceIte])
