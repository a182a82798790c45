/-! ALL OF THE STATE, and how both halves of the memory hold it -/
abbrev TX : Type := Nat × Int32 × Nat × (Nat → Int32) × (Nat → Nat)
abbrev TX.key (x : TX) : Nat := x.1
abbrev TX.lv (x : TX) : Int32 := x.2.1
abbrev TX.len (x : TX) : Nat := x.2.2.1
abbrev TX.code (x : TX) : Nat → Int32 := x.2.2.2.1
abbrev TX.hg (x : TX) : Nat → Nat := x.2.2.2.2
def nnO (k : Nat) : Nat := if k = 0 then 3 else 2
def TXOK (t : TX) : Prop := t.key < 3 ∧ VP t.code t.len t.hg ∧ names (nnO t.key) t.code t.len
abbrev WS : Type := Nat × (Nat → Int32) × Int32 × Nat × (Nat → FS)
abbrev WS.n (x : WS) : Nat := x.1
abbrev WS.sea (x : WS) : Nat → Int32 := x.2.1
abbrev WS.z (x : WS) : Int32 := x.2.2.1
abbrev WS.m (x : WS) : Nat := x.2.2.2.1
abbrev WS.fl (x : WS) : Nat → FS := x.2.2.2.2
abbrev SH : Type := Int32 × Nat × (Nat → Int32)
abbrev SH.so (x : SH) : Int32 := x.1
abbrev SH.ln (x : SH) : Nat := x.2.1
abbrev SH.ce (x : SH) : Nat → Int32 := x.2.2
abbrev SL : Type := Nat × FS × Nat × (Nat → Int32) × Int32
abbrev SL.th (x : SL) : Nat := x.1
abbrev SL.fs (x : SL) : FS := x.2.1
abbrev SL.ln (x : SL) : Nat := x.2.2.1
abbrev SL.ce (x : SL) : Nat → Int32 := x.2.2.2.1
abbrev SL.nu (x : SL) : Int32 := x.2.2.2.2
abbrev AS : Type := (Nat → TX) × WS × (Option WS) × Nat × (Nat → Int32) × (Nat → SH) × (Nat → SL) × Nat × (Nat → Int32)
abbrev AS.T (x : AS) : Nat → TX := x.1
abbrev AS.now (x : AS) : WS := x.2.1
abbrev AS.img (x : AS) : Option WS := x.2.2.1
abbrev AS.tl (x : AS) : Nat := x.2.2.2.1
abbrev AS.tp (x : AS) : Nat → Int32 := x.2.2.2.2.1
abbrev AS.sh (x : AS) : Nat → SH := x.2.2.2.2.2.1
abbrev AS.sl (x : AS) : Nat → SL := x.2.2.2.2.2.2.1
abbrev AS.wc (x : AS) : Nat := x.2.2.2.2.2.2.2.1
abbrev AS.wt (x : AS) : Nat → Int32 := x.2.2.2.2.2.2.2.2
abbrev AS.wNow (S : AS) (W : WS) : AS := (S.T, W, S.img, S.tl, S.tp, S.sh, S.sl, S.wc, S.wt)
/-- the last text below m with that key -/
def lawT (T : Nat → TX) : Nat → Nat → Option Nat
  | 0, _ => none
  | m + 1, k => if (T m).key = k then some m else lawT T m k
def lawI (o : Option Nat) : Int32 := match o with
  | none => -1000000005
  | some t => nI t
def lwO (T : Nat → TX) (m k : Nat) : LW := (lawT T m k).map fun t => ((T t).code, (T t).len, (T t).hg)
theorem lawT_lt {T : Nat → TX} {k t : Nat} : ∀ {m : Nat}, lawT T m k = some t → t < m ∧ (T t).key = k := by
  intro m
  induction m with
  | zero => intro h; exact absurd h (by simp [lawT])
  | succ m ih =>
    intro h
    rw [lawT] at h
    by_cases hk : (T m).key = k
    · rw [if_pos hk] at h
      obtain rfl : m = t := by injection h
      exact ⟨Nat.lt_succ_self _, hk⟩
    · rw [if_neg hk] at h
      have := ih h
      exact ⟨by omega, this.2⟩
theorem lawT_congr {T T' : Nat → TX} {k : Nat} : ∀ {m : Nat}, (∀ t, t < m → T' t = T t) → lawT T' m k = lawT T m k := by
  intro m
  induction m with
  | zero => intro _; rfl
  | succ m ih =>
    intro h
    rw [lawT, lawT, h m (by omega), ih (fun t ht => h t (by omega))]
def WS.env (T : Nat → TX) (W : WS) : SE := ⟨W.sea 0, W.sea 1, W.sea 2, W.sea 3, lwO T W.m 0, lwO T W.m 1, lwO T W.m 2⟩
def WOK (T : Nat → TX) (W : WS) (B : Nat) : Prop := (W.n ≤ 6) ∧ (W.m ≤ 14) ∧ (0 ≤ W.sea 0 ∧ W.sea 0 ≤ 11) ∧ (0 ≤ W.sea 2 ∧ W.sea 2 ≤ 11) ∧ (∀ i, i < W.n → ∃ k, k < 6 ∧ (W.fl i).k = nI k) ∧ (∀ i, i < W.n → rOK (W.fl i).r B) ∧ (∀ t, t < W.m → TXOK (T t))
theorem WOK.n {T : Nat → TX} {W : WS} {B : Nat} (h : WOK T W B) : W.n ≤ 6 := h.1
theorem WOK.m {T : Nat → TX} {W : WS} {B : Nat} (h : WOK T W B) : W.m ≤ 14 := h.2.1
theorem WOK.s0 {T : Nat → TX} {W : WS} {B : Nat} (h : WOK T W B) : 0 ≤ W.sea 0 ∧ W.sea 0 ≤ 11 := h.2.2.1
theorem WOK.s2 {T : Nat → TX} {W : WS} {B : Nat} (h : WOK T W B) : 0 ≤ W.sea 2 ∧ W.sea 2 ≤ 11 := h.2.2.2.1
theorem WOK.k {T : Nat → TX} {W : WS} {B : Nat} (h : WOK T W B) : ∀ i, i < W.n → ∃ k, k < 6 ∧ (W.fl i).k = nI k := h.2.2.2.2.1
theorem WOK.r {T : Nat → TX} {W : WS} {B : Nat} (h : WOK T W B) : ∀ i, i < W.n → rOK (W.fl i).r B := h.2.2.2.2.2.1
theorem WOK.t {T : Nat → TX} {W : WS} {B : Nat} (h : WOK T W B) : ∀ t, t < W.m → TXOK (T t) := h.2.2.2.2.2.2
def big (x : Int32) : Prop := x = -1000000005 ∨ (-100000 ≤ x.toInt ∧ x.toInt ≤ 100000)
def OK (S : AS) (B : Nat) : Prop := (WOK S.T S.now B) ∧ (∀ W, S.img = some W → WOK S.T W B ∧ W.m ≤ S.now.m) ∧ (S.tl ≤ 96) ∧ (∀ s, s < 4 → (S.sh s).ln ≤ 24 ∧ ((S.sh s).so = -1 ∨ (S.sh s).so = 0 ∨ (S.sh s).so = 1) ∧ ∀ c, c < 24 → big ((S.sh s).ce c)) ∧ (∀ k, k < 5 → (S.sl k).th < 4 ∧ (S.sl k).ln ≤ 24 ∧ ((S.sl k).th = 1 → (∃ j, j < 6 ∧ (S.sl k).fs.k = nI j))) ∧ (S.wc ≤ 60)
theorem OK.now {S : AS} {B : Nat} (h : OK S B) : WOK S.T S.now B := h.1
theorem OK.img {S : AS} {B : Nat} (h : OK S B) : ∀ W, S.img = some W → WOK S.T W B ∧ W.m ≤ S.now.m := h.2.1
theorem OK.tl {S : AS} {B : Nat} (h : OK S B) : S.tl ≤ 96 := h.2.2.1
theorem OK.sh {S : AS} {B : Nat} (h : OK S B) : ∀ s, s < 4 → (S.sh s).ln ≤ 24 ∧ ((S.sh s).so = -1 ∨ (S.sh s).so = 0 ∨ (S.sh s).so = 1) ∧ ∀ c, c < 24 → big ((S.sh s).ce c) := h.2.2.2.1
theorem OK.sl {S : AS} {B : Nat} (h : OK S B) : ∀ k, k < 5 → (S.sl k).th < 4 ∧ (S.sl k).ln ≤ 24 ∧ ((S.sl k).th = 1 → (∃ j, j < 6 ∧ (S.sl k).fs.k = nI j)) := h.2.2.2.2.1
theorem OK.wc {S : AS} {B : Nat} (h : OK S B) : S.wc ≤ 60 := h.2.2.2.2.2
theorem WOK_mono {T : Nat → TX} {W : WS} {B C : Nat} (h : WOK T W B) (hb : B ≤ C) : WOK T W C := ⟨h.n, h.m, h.s0, h.s2, h.k, fun i hi => rOK_mono (h.r i hi) hb, h.t⟩
theorem OK_mono {S : AS} {B C : Nat} (h : OK S B) (hb : B ≤ C) : OK S C := ⟨WOK_mono h.now hb, fun W hW => ⟨WOK_mono (h.img W hW).1 hb, (h.img W hW).2⟩, h.tl, h.sh, h.sl, h.wc⟩
/-- a world of the class's -/
def CW (u : am_MU) (w : Nat) (T : Nat → TX) (W : WS) : Prop := (u w 1 = nI W.n) ∧ (∀ j, j < 4 → u (w + 1) j = W.sea j) ∧ (u w 3 = W.z) ∧ (u w 4 = nI W.m) ∧ (∀ k, k < 3 → u (w + 2) k = lawI (lawT T W.m k)) ∧ (∀ i, i < W.n → CF u (w + 4 + 2 * i) (W.fl i))
theorem CW.n {u : am_MU} {w : Nat} {T : Nat → TX} {W : WS} (h : CW u w T W) : u w 1 = nI W.n := h.1
theorem CW.sea {u : am_MU} {w : Nat} {T : Nat → TX} {W : WS} (h : CW u w T W) : ∀ j, j < 4 → u (w + 1) j = W.sea j := h.2.1
theorem CW.z {u : am_MU} {w : Nat} {T : Nat → TX} {W : WS} (h : CW u w T W) : u w 3 = W.z := h.2.2.1
theorem CW.m {u : am_MU} {w : Nat} {T : Nat → TX} {W : WS} (h : CW u w T W) : u w 4 = nI W.m := h.2.2.2.1
theorem CW.law {u : am_MU} {w : Nat} {T : Nat → TX} {W : WS} (h : CW u w T W) : ∀ k, k < 3 → u (w + 2) k = lawI (lawT T W.m k) := h.2.2.2.2.1
theorem CW.fl {u : am_MU} {w : Nat} {T : Nat → TX} {W : WS} (h : CW u w T W) : ∀ i, i < W.n → CF u (w + 4 + 2 * i) (W.fl i) := h.2.2.2.2.2
def CT (u : am_MU) (t : Nat) (x : TX) : Prop := (u (49 + 2 * t) 0 = nI x.key) ∧ (u (49 + 2 * t) 1 = x.lv) ∧ (u (49 + 2 * t) 2 = nI x.len) ∧ (∀ k, k < x.len → u (50 + 2 * t) k = trc (x.code k))
theorem CT.key {u : am_MU} {t : Nat} {x : TX} (h : CT u t x) : u (49 + 2 * t) 0 = nI x.key := h.1
theorem CT.lv {u : am_MU} {t : Nat} {x : TX} (h : CT u t x) : u (49 + 2 * t) 1 = x.lv := h.2.1
theorem CT.len {u : am_MU} {t : Nat} {x : TX} (h : CT u t x) : u (49 + 2 * t) 2 = nI x.len := h.2.2.1
theorem CT.code {u : am_MU} {t : Nat} {x : TX} (h : CT u t x) : ∀ k, k < x.len → u (50 + 2 * t) k = trc (x.code k) := h.2.2.2
def CS (u : am_MU) (a : Nat) (s : SL) : Prop := (u a 0 = nI s.th) ∧ (s.th = 1 → CF u (a + 1) s.fs) ∧ (s.th = 2 → u (a + 3) 1 = nI s.ln) ∧ (s.th = 2 → ∀ i, i < 24 → u (a + 4) i = s.ce i) ∧ (s.th = 3 → u a 3 = s.nu)
theorem CS.th {u : am_MU} {a : Nat} {s : SL} (h : CS u a s) : u a 0 = nI s.th := h.1
theorem CS.f {u : am_MU} {a : Nat} {s : SL} (h : CS u a s) : s.th = 1 → CF u (a + 1) s.fs := h.2.1
theorem CS.l {u : am_MU} {a : Nat} {s : SL} (h : CS u a s) : s.th = 2 → u (a + 3) 1 = nI s.ln := h.2.2.1
theorem CS.c {u : am_MU} {a : Nat} {s : SL} (h : CS u a s) : s.th = 2 → ∀ i, i < 24 → u (a + 4) i = s.ce i := h.2.2.2.1
theorem CS.n {u : am_MU} {a : Nat} {s : SL} (h : CS u a s) : s.th = 3 → u a 3 = s.nu := h.2.2.2.2
def CI (u : am_MU) (S : AS) : Prop := (CW u 1 S.T S.now) ∧ (u 0 2 = if S.img.isSome then 1 else 0) ∧ (∀ W, S.img = some W → CW u 17 S.T W) ∧ (∀ t, t < S.now.m → CT u t (S.T t)) ∧ (u 0 9 = nI S.tl) ∧ (∀ k, k < S.tl → u 45 k = S.tp k) ∧ (∀ s, s < 4 → u (77 + 2 * s) 0 = (S.sh s).so) ∧ (∀ s, s < 4 → u (77 + 2 * s) 1 = nI (S.sh s).ln) ∧ (∀ s, s < 4 → ∀ c, c < 24 → u (78 + 2 * s) c = (S.sh s).ce c) ∧ (∀ k, k < 5 → CS u (85 + 5 * k) (S.sl k)) ∧ (u 0 13 = nI S.wc) ∧ (∀ k, k < S.wc → u 48 k = S.wt k)
theorem CI.now {u : am_MU} {S : AS} (h : CI u S) : CW u 1 S.T S.now := h.1
theorem CI.kept {u : am_MU} {S : AS} (h : CI u S) : u 0 2 = if S.img.isSome then 1 else 0 := h.2.1
theorem CI.img {u : am_MU} {S : AS} (h : CI u S) : ∀ W, S.img = some W → CW u 17 S.T W := h.2.2.1
theorem CI.tx {u : am_MU} {S : AS} (h : CI u S) : ∀ t, t < S.now.m → CT u t (S.T t) := h.2.2.2.1
theorem CI.tl {u : am_MU} {S : AS} (h : CI u S) : u 0 9 = nI S.tl := h.2.2.2.2.1
theorem CI.tp {u : am_MU} {S : AS} (h : CI u S) : ∀ k, k < S.tl → u 45 k = S.tp k := h.2.2.2.2.2.1
theorem CI.so {u : am_MU} {S : AS} (h : CI u S) : ∀ s, s < 4 → u (77 + 2 * s) 0 = (S.sh s).so := h.2.2.2.2.2.2.1
theorem CI.ln {u : am_MU} {S : AS} (h : CI u S) : ∀ s, s < 4 → u (77 + 2 * s) 1 = nI (S.sh s).ln := h.2.2.2.2.2.2.2.1
theorem CI.ce {u : am_MU} {S : AS} (h : CI u S) : ∀ s, s < 4 → ∀ c, c < 24 → u (78 + 2 * s) c = (S.sh s).ce c := h.2.2.2.2.2.2.2.2.1
theorem CI.sl {u : am_MU} {S : AS} (h : CI u S) : ∀ k, k < 5 → CS u (85 + 5 * k) (S.sl k) := h.2.2.2.2.2.2.2.2.2.1
theorem CI.wc {u : am_MU} {S : AS} (h : CI u S) : u 0 13 = nI S.wc := h.2.2.2.2.2.2.2.2.2.2.1
theorem CI.wt {u : am_MU} {S : AS} (h : CI u S) : ∀ k, k < S.wc → u 48 k = S.wt k := h.2.2.2.2.2.2.2.2.2.2.2
/-- a world of the reference's -/
def MW (R : Nat → Int32) (T : Nat → TX) (W : WS) : Prop := (R 0 = W.z) ∧ (R 1 = nI W.n) ∧ (∀ j, j < 4 → R (2 + j) = W.sea j) ∧ (R 6 = nI W.m) ∧ (∀ i, i < W.n → MF R i (W.fl i)) ∧ (∀ t, t < W.m → R (163 + 2 * t) = nI (1000 * (T t).key + (T t).len)) ∧ (∀ t, t < W.m → R (164 + 2 * t) = (T t).lv) ∧ (∀ t, t < W.m → ∀ k, k < (T t).len → R (191 + 96 * t + k) = (T t).code k)
theorem MW.z {R : Nat → Int32} {T : Nat → TX} {W : WS} (h : MW R T W) : R 0 = W.z := h.1
theorem MW.n {R : Nat → Int32} {T : Nat → TX} {W : WS} (h : MW R T W) : R 1 = nI W.n := h.2.1
theorem MW.sea {R : Nat → Int32} {T : Nat → TX} {W : WS} (h : MW R T W) : ∀ j, j < 4 → R (2 + j) = W.sea j := h.2.2.1
theorem MW.m {R : Nat → Int32} {T : Nat → TX} {W : WS} (h : MW R T W) : R 6 = nI W.m := h.2.2.2.1
theorem MW.fl {R : Nat → Int32} {T : Nat → TX} {W : WS} (h : MW R T W) : ∀ i, i < W.n → MF R i (W.fl i) := h.2.2.2.2.1
theorem MW.t1 {R : Nat → Int32} {T : Nat → TX} {W : WS} (h : MW R T W) : ∀ t, t < W.m → R (163 + 2 * t) = nI (1000 * (T t).key + (T t).len) := h.2.2.2.2.2.1
theorem MW.t2 {R : Nat → Int32} {T : Nat → TX} {W : WS} (h : MW R T W) : ∀ t, t < W.m → R (164 + 2 * t) = (T t).lv := h.2.2.2.2.2.2.1
theorem MW.t3 {R : Nat → Int32} {T : Nat → TX} {W : WS} (h : MW R T W) : ∀ t, t < W.m → ∀ k, k < (T t).len → R (191 + 96 * t + k) = (T t).code k := h.2.2.2.2.2.2.2
def MS (u : am_MU) (k : Nat) (s : SL) : Prop := (u 127 k = nI s.th) ∧ (s.th = 1 → u 128 k = s.fs.k ∧ u 129 k = woI s.fs.k s.fs.r) ∧ (s.th = 2 → u 128 k = nI s.ln) ∧ (s.th = 2 → ∀ i, i < 24 → u 130 (24 * k + i) = s.ce i) ∧ (s.th = 3 → u 128 k = s.nu)
theorem MS.th {u : am_MU} {k : Nat} {s : SL} (h : MS u k s) : u 127 k = nI s.th := h.1
theorem MS.f {u : am_MU} {k : Nat} {s : SL} (h : MS u k s) : s.th = 1 → u 128 k = s.fs.k ∧ u 129 k = woI s.fs.k s.fs.r := h.2.1
theorem MS.l {u : am_MU} {k : Nat} {s : SL} (h : MS u k s) : s.th = 2 → u 128 k = nI s.ln := h.2.2.1
theorem MS.c {u : am_MU} {k : Nat} {s : SL} (h : MS u k s) : s.th = 2 → ∀ i, i < 24 → u 130 (24 * k + i) = s.ce i := h.2.2.2.1
theorem MS.n {u : am_MU} {k : Nat} {s : SL} (h : MS u k s) : s.th = 3 → u 128 k = s.nu := h.2.2.2.2
def keysL : List Int32 := [108, 105, 102, 116, 115, 108, 105, 100, 101, 109, 97, 114, 107]
def keyAtL : List Int32 := [0, 4, 9, 13]
def MI (u : am_MU) (S : AS) : Prop := (MW (u 111) S.T S.now) ∧ (u 110 3 = if S.img.isSome then 1 else 0) ∧ (∀ W, S.img = some W → MW (u 112) S.T W) ∧ (u 110 7 = nI S.tl) ∧ (∀ k, k < S.tl → u 116 k = S.tp k) ∧ (∀ s, s < 4 → u 124 s = (S.sh s).so) ∧ (∀ s, s < 4 → u 125 s = nI (S.sh s).ln) ∧ (∀ s, s < 4 → ∀ c, c < 24 → u 126 (24 * s + c) = (S.sh s).ce c) ∧ (∀ k, k < 5 → MS u k (S.sl k)) ∧ (u 110 33 = nI S.wc) ∧ (∀ k, k < S.wc → u 132 k = S.wt k) ∧ (∀ k, k < 13 → u 117 k = keysL.getD k 0) ∧ (∀ k, k < 4 → u 118 k = keyAtL.getD k 0)
theorem MI.now {u : am_MU} {S : AS} (h : MI u S) : MW (u 111) S.T S.now := h.1
theorem MI.kept {u : am_MU} {S : AS} (h : MI u S) : u 110 3 = if S.img.isSome then 1 else 0 := h.2.1
theorem MI.img {u : am_MU} {S : AS} (h : MI u S) : ∀ W, S.img = some W → MW (u 112) S.T W := h.2.2.1
theorem MI.tl {u : am_MU} {S : AS} (h : MI u S) : u 110 7 = nI S.tl := h.2.2.2.1
theorem MI.tp {u : am_MU} {S : AS} (h : MI u S) : ∀ k, k < S.tl → u 116 k = S.tp k := h.2.2.2.2.1
theorem MI.so {u : am_MU} {S : AS} (h : MI u S) : ∀ s, s < 4 → u 124 s = (S.sh s).so := h.2.2.2.2.2.1
theorem MI.ln {u : am_MU} {S : AS} (h : MI u S) : ∀ s, s < 4 → u 125 s = nI (S.sh s).ln := h.2.2.2.2.2.2.1
theorem MI.ce {u : am_MU} {S : AS} (h : MI u S) : ∀ s, s < 4 → ∀ c, c < 24 → u 126 (24 * s + c) = (S.sh s).ce c := h.2.2.2.2.2.2.2.1
theorem MI.sl {u : am_MU} {S : AS} (h : MI u S) : ∀ k, k < 5 → MS u k (S.sl k) := h.2.2.2.2.2.2.2.2.1
theorem MI.wc {u : am_MU} {S : AS} (h : MI u S) : u 110 33 = nI S.wc := h.2.2.2.2.2.2.2.2.2.1
theorem MI.wt {u : am_MU} {S : AS} (h : MI u S) : ∀ k, k < S.wc → u 132 k = S.wt k := h.2.2.2.2.2.2.2.2.2.2.1
theorem MI.ky {u : am_MU} {S : AS} (h : MI u S) : ∀ k, k < 13 → u 117 k = keysL.getD k 0 := h.2.2.2.2.2.2.2.2.2.2.2.1
theorem MI.ka {u : am_MU} {S : AS} (h : MI u S) : ∀ k, k < 4 → u 118 k = keyAtL.getD k 0 := h.2.2.2.2.2.2.2.2.2.2.2.2
def lo (u u' : am_MU) : Prop := ∀ a, 110 ≤ a → u' a = u a
def hi (u u' : am_MU) : Prop := ∀ a, a < 110 → u' a = u a
theorem lo_rf {u : am_MU} : lo u u := fun _ _ => rfl
theorem hi_rf {u : am_MU} : hi u u := fun _ _ => rfl
theorem lo_same {L : List Nat} {u u' : am_MU} (h : same L u u') (hL : ∀ a ∈ L, a < 110) : lo u u' := fun a ha => h a (fun q => by have := hL a q; omega)
theorem hi_same {L : List Nat} {u u' : am_MU} (h : same L u u') (hL : ∀ a ∈ L, 110 ≤ a) : hi u u' := fun a ha => h a (fun q => by have := hL a q; omega)
theorem lo_tr {u v w : am_MU} (h1 : lo u v) (h2 : lo v w) : lo u w := fun a ha => (h2 a ha).trans (h1 a ha)
theorem hi_tr {u v w : am_MU} (h1 : hi u v) (h2 : hi v w) : hi u w := fun a ha => (h2 a ha).trans (h1 a ha)
/-- ONE CALL: both answer alike, and both halves hold the same state behind it -/
def Res (fc fm : am_MU → Option (am_MU × Int32)) (S : AS) (B : Nat) : Prop := ∃ S' r, OK S' (B + 2400) ∧ (∀ u, CI u S → ∃ u', fc u = some (u', r) ∧ CI u' S' ∧ lo u u') ∧ (∀ u, MI u S → ∃ u', fm u = some (u', r) ∧ MI u' S' ∧ hi u u')
def Call (fc fm : am_MU → Option (am_MU × Int32)) : Prop := ∀ S B, OK S B → B < 900000 → Res fc fm S B
theorem Cro {fc fm : am_MU → Option (am_MU × Int32)} {S : AS} {B : Nat} (hS : OK S B) (r : Int32) (h1 : ∀ u, CI u S → fc u = some (u, r)) (h2 : ∀ u, MI u S → fm u = some (u, r)) : Res fc fm S B :=
  ⟨S, r, OK_mono hS (by omega), fun u hu => ⟨u, h1 u hu, hu, lo_rf⟩, fun u hu => ⟨u, h2 u hu, hu, hi_rf⟩⟩
/-- what is untouched stays -/
theorem CW_congr {u v : am_MU} {w : Nat} {T : Nat → TX} {W : WS} (h0 : v w = u w) (h1 : v (w + 1) = u (w + 1)) (h2 : v (w + 2) = u (w + 2)) (hf : ∀ a, w + 4 ≤ a → a < w + 16 → v a = u a) (hn : W.n ≤ 6) (h : CW u w T W) : CW v w T W :=
  ⟨by rw [h0]; exact h.n, fun j hj => by rw [h1]; exact h.sea j hj, by rw [h0]; exact h.z, by rw [h0]; exact h.m, fun k hk => by rw [h2]; exact h.law k hk, fun i hi => CF_congr (hf _ (by omega) (by omega)) (hf _ (by omega) (by omega)) (h.fl i hi)⟩
theorem CT_congr {u v : am_MU} {t : Nat} {x : TX} (h0 : v (49 + 2 * t) = u (49 + 2 * t)) (h1 : v (50 + 2 * t) = u (50 + 2 * t)) (h : CT u t x) : CT v t x :=
  ⟨by rw [h0]; exact h.key, by rw [h0]; exact h.lv, by rw [h0]; exact h.len, fun k hk => by rw [h1]; exact h.code k hk⟩
theorem CS_congr {u v : am_MU} {a : Nat} {s : SL} (h0 : ∀ b, a ≤ b → b < a + 5 → v b = u b) (h : CS u a s) : CS v a s :=
  ⟨by rw [h0 a (by omega) (by omega)]; exact h.th, fun q => CF_congr (h0 _ (by omega) (by omega)) (h0 _ (by omega) (by omega)) (h.f q), fun q => by rw [h0 (a + 3) (by omega) (by omega)]; exact h.l q, fun q i hi => by rw [h0 (a + 4) (by omega) (by omega)]; exact h.c q i hi, fun q => by rw [h0 a (by omega) (by omega)]; exact h.n q⟩
/-- rows of the class that hold nothing between calls -/
def scr (a : Nat) : Prop := (33 ≤ a ∧ a ≤ 44) ∨ 110 ≤ a
theorem CI_congr {u v : am_MU} {S : AS} {B : Nat} (hS : OK S B) (h : ∀ a, ¬ scr a → v a = u a) (hu : CI u S) : CI v S := by
  have h' : ∀ a, a < 33 ∨ (44 < a ∧ a < 110) → v a = u a := fun a ha => h a (by unfold scr; omega)
  have hm := hS.now.m
  exact ⟨CW_congr (h' _ (by omega)) (h' _ (by omega)) (h' _ (by omega)) (fun a h1 h2 => h' a (by omega)) hS.now.n hu.now, by rw [h' 0 (by omega)]; exact hu.kept, fun W hW => CW_congr (h' _ (by omega)) (h' _ (by omega)) (h' _ (by omega)) (fun a h1 h2 => h' a (by omega)) (hS.img W hW).1.n (hu.img W hW), fun t ht => CT_congr (h' _ (by omega)) (h' _ (by omega)) (hu.tx t ht), by rw [h' 0 (by omega)]; exact hu.tl, fun k hk => by rw [h' 45 (by omega)]; exact hu.tp k hk, fun s hs => by rw [h' _ (by omega)]; exact hu.so s hs, fun s hs => by rw [h' _ (by omega)]; exact hu.ln s hs, fun s hs c hc => by rw [h' _ (by omega)]; exact hu.ce s hs c hc, fun k hk => CS_congr (fun b h1 h2 => h' b (by omega)) (hu.sl k hk), by rw [h' 0 (by omega)]; exact hu.wc, fun k hk => by rw [h' 48 (by omega)]; exact hu.wt k hk⟩
theorem CI_same {u v : am_MU} {S : AS} {B : Nat} {L : List Nat} (hS : OK S B) (h : same L u v) (hL : ∀ a ∈ L, scr a) (hu : CI u S) : CI v S := CI_congr hS (fun a ha => h a (fun q => ha (hL a q))) hu
theorem MS_congr {u v : am_MU} {k : Nat} {s : SL} (h7 : v 127 k = u 127 k) (h8 : v 128 k = u 128 k) (h9 : v 129 k = u 129 k) (h0 : ∀ i, i < 24 → v 130 (24 * k + i) = u 130 (24 * k + i)) (h : MS u k s) : MS v k s :=
  ⟨by rw [h7]; exact h.th, fun q => by rw [h8, h9]; exact h.f q, fun q => by rw [h8]; exact h.l q, fun q i hi => by rw [h0 i hi]; exact h.c q i hi, fun q => by rw [h8]; exact h.n q⟩
/-- rows of the reference that hold nothing between calls (row 110 is looked at field by field) -/
def scm (a : Nat) : Prop := a < 110 ∨ a = 113 ∨ a = 114 ∨ a = 115 ∨ a = 119 ∨ a = 120 ∨ a = 121 ∨ a = 122 ∨ a = 123 ∨ a = 131
theorem MI_congr {u v : am_MU} {S : AS} (h : ∀ a, ¬ scm a → a ≠ 110 → v a = u a) (h3 : v 110 3 = u 110 3) (h7 : v 110 7 = u 110 7) (h33 : v 110 33 = u 110 33) (hu : MI u S) : MI v S := by
  have h' : ∀ a, a = 111 ∨ a = 112 ∨ (116 ≤ a ∧ a ≤ 118) ∨ (124 ≤ a ∧ a ≤ 130) ∨ a = 132 → v a = u a := fun a ha => h a (by unfold scm; omega) (by omega)
  exact ⟨by rw [h' 111 (by omega)]; exact hu.now, by rw [h3]; exact hu.kept, fun W hW => by rw [h' 112 (by omega)]; exact hu.img W hW, by rw [h7]; exact hu.tl, fun k hk => by rw [h' 116 (by omega)]; exact hu.tp k hk, fun s hs => by rw [h' 124 (by omega)]; exact hu.so s hs, fun s hs => by rw [h' 125 (by omega)]; exact hu.ln s hs, fun s hs c hc => by rw [h' 126 (by omega)]; exact hu.ce s hs c hc, fun k hk => MS_congr (by rw [h' 127 (by omega)]) (by rw [h' 128 (by omega)]) (by rw [h' 129 (by omega)]) (fun i hi => by rw [h' 130 (by omega)]) (hu.sl k hk), by rw [h33]; exact hu.wc, fun k hk => by rw [h' 132 (by omega)]; exact hu.wt k hk, fun k hk => by rw [h' 117 (by omega)]; exact hu.ky k hk, fun k hk => by rw [h' 118 (by omega)]; exact hu.ka k hk⟩
theorem MI_same {u v : am_MU} {S : AS} {L : List Nat} (h : same L u v) (hL : ∀ a ∈ L, scm a) (hu : MI u S) : MI v S := by
  have h110 : v 110 = u 110 := h 110 (fun q => by have := hL _ q; unfold scm at this; omega)
  exact MI_congr (fun a ha _ => h a (fun q => ha (hL a q))) (by rw [h110]) (by rw [h110]) (by rw [h110]) hu
/-- only the array of now has changed -/
theorem MI_now {u v : am_MU} {S : AS} {W : WS} {L : List Nat} (h : same L u v) (hL : ∀ a ∈ L, scm a ∨ a = 111) (hu : MI u S) (hw : MW (v 111) S.T W) : MI v (S.wNow W) := by
  have h' : ∀ a, a = 110 ∨ a = 112 ∨ (116 ≤ a ∧ a ≤ 118) ∨ (124 ≤ a ∧ a ≤ 130) ∨ a = 132 → v a = u a := fun a ha => h a (fun q => by have := hL _ q; unfold scm at this; omega)
  exact ⟨hw, by rw [h' 110 (by omega)]; exact hu.kept, fun W hW => by rw [h' 112 (by omega)]; exact hu.img W hW, by rw [h' 110 (by omega)]; exact hu.tl, fun k hk => by rw [h' 116 (by omega)]; exact hu.tp k hk, fun s hs => by rw [h' 124 (by omega)]; exact hu.so s hs, fun s hs => by rw [h' 125 (by omega)]; exact hu.ln s hs, fun s hs c hc => by rw [h' 126 (by omega)]; exact hu.ce s hs c hc, fun k hk => MS_congr (by rw [h' 127 (by omega)]) (by rw [h' 128 (by omega)]) (by rw [h' 129 (by omega)]) (fun i hi => by rw [h' 130 (by omega)]) (hu.sl k hk), by rw [h' 110 (by omega)]; exact hu.wc, fun k hk => by rw [h' 132 (by omega)]; exact hu.wt k hk, fun k hk => by rw [h' 117 (by omega)]; exact hu.ky k hk, fun k hk => by rw [h' 118 (by omega)]; exact hu.ka k hk⟩
/-- only the class's world of now has changed -/
theorem CI_now {u v : am_MU} {S : AS} {W : WS} {B : Nat} (hS : OK S B) (h : ∀ a, ¬ scr a → ¬ (1 ≤ a ∧ a ≤ 16) → v a = u a) (hu : CI u S) (hm : W.m = S.now.m) (hw : CW v 1 S.T W) : CI v (S.wNow W) := by
  have h' : ∀ a, a = 0 ∨ (17 ≤ a ∧ a < 33) ∨ (44 < a ∧ a < 110) → v a = u a := fun a ha => h a (by unfold scr; omega) (by omega)
  have hmm := hS.now.m
  exact ⟨hw, by rw [h' 0 (by omega)]; exact hu.kept, fun W hW => CW_congr (h' _ (by omega)) (h' _ (by omega)) (h' _ (by omega)) (fun a h1 h2 => h' a (by omega)) (hS.img W hW).1.n (hu.img W hW), fun t ht => by have ht : t < S.now.m := hm ▸ ht; exact CT_congr (h' _ (by omega)) (h' _ (by omega)) (hu.tx t ht), by rw [h' 0 (by omega)]; exact hu.tl, fun k hk => by rw [h' 45 (by omega)]; exact hu.tp k hk, fun s hs => by rw [h' _ (by omega)]; exact hu.so s hs, fun s hs => by rw [h' _ (by omega)]; exact hu.ln s hs, fun s hs c hc => by rw [h' _ (by omega)]; exact hu.ce s hs c hc, fun k hk => CS_congr (fun b h1 h2 => h' b (by omega)) (hu.sl k hk), by rw [h' 0 (by omega)]; exact hu.wc, fun k hk => by rw [h' 48 (by omega)]; exact hu.wt k hk⟩
/-- one floor of now is another -/
def setF (W : WS) (i : Nat) (s : FS) : WS := (W.n, W.sea, W.z, W.m, fun j => if j = i then s else W.fl j)
theorem setF_at {W : WS} {i : Nat} {s : FS} : (setF W i s).fl i = s := if_pos rfl
theorem setF_ne {W : WS} {i j : Nat} {s : FS} (h : j ≠ i) : (setF W i s).fl j = W.fl j := if_neg h
theorem OK_setF {S : AS} {B C : Nat} {i : Nat} {s : FS} (hS : OK S B) (hb : B ≤ C) (hk : ∃ k, k < 6 ∧ s.k = nI k) (hr : rOK s.r C) : OK (S.wNow (setF S.now i s)) C := by
  have hS := OK_mono hS hb
  refine ⟨⟨hS.now.n, hS.now.m, hS.now.s0, hS.now.s2, fun j hj => ?_, fun j hj => ?_, hS.now.t⟩, hS.img, hS.tl, hS.sh, hS.sl, hS.wc⟩
  · by_cases h : j = i
    · subst h; show ∃ k, k < 6 ∧ ((setF S.now j s).fl j).k = nI k; rw [setF_at]; exact hk
    · show ∃ k, k < 6 ∧ ((setF S.now i s).fl j).k = nI k; rw [setF_ne h]; exact hS.now.k j hj
  · by_cases h : j = i
    · subst h; show rOK ((setF S.now j s).fl j).r C; rw [setF_at]; exact hr
    · show rOK ((setF S.now i s).fl j).r C; rw [setF_ne h]; exact hS.now.r j hj
theorem CI_setF {u v : am_MU} {S : AS} {B i : Nat} {s : FS} {L : List Nat} (hS : OK S B) (hi : i < S.now.n) (h : same L u v) (hL : ∀ a ∈ L, scr a ∨ a = 5 + 2 * i ∨ a = 6 + 2 * i) (hu : CI u S) (hf : CF v (5 + 2 * i) s) : CI v (S.wNow (setF S.now i s)) := by
  have h' : ∀ a, ¬ scr a → a ≠ 5 + 2 * i → a ≠ 6 + 2 * i → v a = u a := fun a h1 h2 h3 => h a (fun q => by rcases hL a q with r | r | r <;> contradiction)
  have hn := hS.now.n
  refine CI_now hS (fun a h1 h2 => h' a h1 (by omega) (by omega)) hu rfl ?_
  have e1 : v 1 = u 1 := h' 1 (by unfold scr; omega) (by omega) (by omega)
  have e2 : v 2 = u 2 := h' 2 (by unfold scr; omega) (by omega) (by omega)
  have e3 : v 3 = u 3 := h' 3 (by unfold scr; omega) (by omega) (by omega)
  refine ⟨by rw [e1]; exact hu.now.n, fun j hj => by rw [e2]; exact hu.now.sea j hj, by rw [e1]; exact hu.now.z, by rw [e1]; exact hu.now.m, fun k hk => by rw [e3]; exact hu.now.law k hk, fun j hj => ?_⟩
  by_cases hji : j = i
  · subst hji; rw [setF_at]; exact hf
  · have hj : j < S.now.n := hj
    rw [setF_ne hji]; exact CF_congr (h' _ (by unfold scr; omega) (by omega) (by omega)) (h' _ (by unfold scr; omega) (by omega) (by omega)) (hu.now.fl j hj)
theorem MW_setF {R Q : Nat → Int32} {T : Nat → TX} {W : WS} {i : Nat} {s : FS} (hn : W.n ≤ 6) (hi : i < W.n) (h : ∀ j, (j < 7 + 26 * i ∨ 33 + 26 * i ≤ j) → Q j = R j) (hw : MW R T W) (hf : MF Q i s) : MW Q T (setF W i s) := by
  refine ⟨by rw [h 0 (by omega)]; exact hw.z, by rw [h 1 (by omega)]; exact hw.n, fun j hj => by rw [h _ (by omega)]; exact hw.sea j hj, by rw [h 6 (by omega)]; exact hw.m, fun j hj => ?_, fun t ht => by rw [h _ (by omega)]; exact hw.t1 t ht, fun t ht => by rw [h _ (by omega)]; exact hw.t2 t ht, fun t ht k hk => by rw [h _ (by omega)]; exact hw.t3 t ht k hk⟩
  by_cases hji : j = i
  · subst hji; rw [setF_at]; exact hf
  · have hj : j < W.n := hj
    rw [setF_ne hji]; exact MF_congr (fun x h1 h2 => h x (by omega)) (hw.fl j hj)
theorem MI_setF {u v : am_MU} {S : AS} {B i : Nat} {s : FS} {L : List Nat} (hS : OK S B) (hi : i < S.now.n) (h : same L u v) (hL : ∀ a ∈ L, scm a ∨ a = 111) (hR : ∀ j, (j < 7 + 26 * i ∨ 33 + 26 * i ≤ j) → v 111 j = u 111 j) (hu : MI u S) (hf : MF (v 111) i s) : MI v (S.wNow (setF S.now i s)) :=
  MI_now h hL hu (MW_setF hS.now.n hi hR hu.now hf)
/-! the sea and the laws of a world -/
theorem nnO_0 : nnO 0 = 3 := rfl
theorem LawC_of {u : am_MU} {w : Nat} {T : Nat → TX} {m key : Nat} (hm : m ≤ 14) (ht : ∀ t, t < m → TXOK (T t)) (hc : ∀ t, t < m → CT u t (T t)) (hl : u (w + 2) key = lawI (lawT T m key)) : LawC u w key (nnO key) (lwO T m key) := by
  unfold lwO
  cases h : lawT T m key with
  | none => rw [h] at hl; exact hl
  | some t =>
    rw [h] at hl
    obtain ⟨h1, h2⟩ := lawT_lt h
    obtain ⟨t1, t2, t3⟩ := ht t h1
    rw [h2] at t3
    exact ⟨t, by omega, hl, t2, t3, (hc t h1).len, (hc t h1).code⟩
theorem CE_of {u : am_MU} {w : Nat} {T : Nat → TX} {W : WS} {B : Nat} (hW : WOK T W B) (hc : ∀ t, t < W.m → CT u t (T t)) (h : CW u w T W) : CE u w (W.env T) :=
  ⟨h.sea 0 (by decide), h.sea 1 (by decide), h.sea 2 (by decide), h.sea 3 (by decide), LawC_of (key := 0) hW.m hW.t hc (h.law 0 (by decide)), LawC_of (key := 1) hW.m hW.t hc (h.law 1 (by decide)), LawC_of (key := 2) hW.m hW.t hc (h.law 2 (by decide))⟩
theorem cntI_eq {R : Nat → Int32} {T : Nat → TX} {key : Nat} (hkey : key < 3) : ∀ (m : Nat), m ≤ 14 → (∀ t, t < m → TXOK (T t)) → (∀ t, t < m → R (163 + 2 * t) = nI (1000 * (T t).key + (T t).len)) → cntI R m (nI key) = (match lawT T m key with | none => -1 | some t => nI t) := by
  intro m
  induction m with
  | zero => intro _ _ _; rfl
  | succ m ih =>
    intro hm ht hr
    obtain ⟨t1, t2, t3⟩ := ht m (by omega)
    have t4 := t2.1
    rw [cntI, lawT, hr m (by omega), show (1000 : Int32) = nI 1000 from rfl, pk_div (by omega) (by decide) (by decide), show (1000 * (T m).key + (T m).len) / 1000 = (T m).key by omega]
    by_cases h : (T m).key = key
    · rw [if_pos h, if_pos (by rw [h])]
    · rw [if_neg h, if_neg (fun q => h ((nI_eq (by omega) (by omega)).mp q)), ih (by omega) (fun t h => ht t (by omega)) (fun t h => hr t (by omega))]
theorem LawM_of {R : Nat → Int32} {T : Nat → TX} {W : WS} {B key : Nat} (hkey : key < 3) (hW : WOK T W B) (h : MW R T W) : LawM R key (nnO key) (lwO T W.m key) := by
  refine ⟨W.m, hW.m, h.m, ?_⟩
  have e := cntI_eq (R := R) hkey W.m hW.m hW.t h.t1
  unfold lwO
  cases hl : lawT T W.m key with
  | none => rw [hl] at e; exact e
  | some t =>
    rw [hl] at e
    obtain ⟨h1, h2⟩ := lawT_lt hl
    obtain ⟨t1, t2, t3⟩ := hW.t t h1
    rw [h2] at t3
    have := hW.m
    exact ⟨t, (T t).key, by omega, t1, e, t2, t3, h.t1 t h1, h.t3 t h1⟩
theorem ME_of {R : Nat → Int32} {T : Nat → TX} {W : WS} {B : Nat} (hW : WOK T W B) (h : MW R T W) : ME R (W.env T) :=
  ⟨h.sea 0 (by decide), h.sea 1 (by decide), h.sea 2 (by decide), h.sea 3 (by decide), LawM_of (key := 0) (by decide) hW h, LawM_of (key := 1) (by decide) hW h, LawM_of (key := 2) (by decide) hW h⟩
theorem eOK_of {T : Nat → TX} {W : WS} {B : Nat} (hW : WOK T W B) : eOK (W.env T) := ⟨hW.s0.1, hW.s0.2, hW.s2.1, hW.s2.2⟩
/-! guards -/
def out (x : Int32) (n : Nat) : Prop := x < 0 ∨ nI n ≤ x
theorem rng (x : Int32) {n : Nat} (hn : n < 2 ^ 31) : (∃ j : Nat, j < n ∧ x = nI j) ∨ out x n := by
  rcases pk_ix x hn with h | h | h
  · exact Or.inr (Or.inl h)
  · exact Or.inr (Or.inr h)
  · exact Or.inl h
theorem one0 : ((1 : Int32) = 0) = False := by simp
theorem m01 : ((0 : Int32) = 0 ∨ (0 : Int32) = 1) = True := by simp
theorem m11 : ((1 : Int32) = 0 ∨ (1 : Int32) = 1) = True := by simp
theorem out_in (u : am_MU) (M : Int32) {x : Int32} {n : Nat} (hM : M = nI n) (hn : n < 1000000) (h : out x (n + 1)) : f_X7_in u x 0 M = some (u, 0) := by
  subst hM
  rw [p_X7_in]
  rcases h with h | h
  · rw [if_pos (Or.inl h)]
  · rw [if_pos (Or.inr (Int32.lt_of_lt_of_le (nI_lt (Nat.lt_succ_self n) (by omega)) h))]
theorem in_in (u : am_MU) (M : Int32) {n j : Nat} (hM : M = nI n) (hn : n < 1000000) (h : j < n + 1) : f_X7_in u (nI j) 0 M = some (u, 1) := by
  subst hM
  rw [p_X7_in, if_neg]
  intro q
  rcases q with q | q
  · exact nI_pos (by omega) q
  · exact nI_nlt (show j ≤ n by omega) (by omega) q
theorem out_neg (M : Int32) {x : Int32} {n : Nat} (hM : M = nI n) (hn : n < 1000000) (h : out x (n + 1)) (h0 : ¬ x < 0) : M < x ∧ ¬ x ≤ M := by
  subst hM
  rcases h with h | h
  · exact absurd h h0
  · have := Int32.lt_of_lt_of_le (nI_lt (Nat.lt_succ_self n) (by omega)) h
    exact ⟨this, Int32.not_le.mpr this⟩
theorem fC1 {u : am_MU} {n i : Nat} (h : u 1 1 = nI n) (hn : n ≤ 6) (hi : i < n) : f_X6_isFloor u (nI i) = some (u, 1) := by
  unfold f_X6_isFloor
  rw [if_neg (nI_pos (by omega)), h, if_neg (nI_ge hi (by omega))]
theorem fC0 {u : am_MU} {n : Nat} {x : Int32} (h : u 1 1 = nI n) (hx : out x n) : f_X6_isFloor u x = some (u, 0) := by
  unfold f_X6_isFloor
  by_cases h0 : x < 0
  · rw [if_pos h0]
  · rw [if_neg h0, h, if_pos (hx.resolve_left h0)]
theorem fM1 {u : am_MU} {n i : Nat} (h : u 111 1 = nI n) (hn : n ≤ 6) (hi : i < n) : f_X7_isFloor u (nI i) = some (u, 1) := by
  unfold f_X7_isFloor
  obtain ⟨m, rfl⟩ : ∃ m, n = m + 1 := ⟨n - 1, by omega⟩
  rw [h, nI_pred, in_in u _ rfl (by omega) hi, p_some]
  exact if_pos (Or.inr rfl)
theorem fM0 {u : am_MU} {n : Nat} {x : Int32} (h : u 111 1 = nI n) (hn : n ≤ 6) (hx : out x n) : f_X7_isFloor u x = some (u, 0) := by
  unfold f_X7_isFloor
  rcases Nat.eq_zero_or_pos n with rfl | hp
  · rw [h, p_X7_in, if_pos, p_some]
    · exact if_pos (Or.inl rfl)
    · rcases hx with q | q
      · exact Or.inl q
      · exact Or.inr (Int32.lt_of_lt_of_le (by decide) q)
  · obtain ⟨m, rfl⟩ : ∃ m, n = m + 1 := ⟨n - 1, by omega⟩
    rw [h, nI_pred, out_in u _ rfl (by omega) hx, p_some]
    exact if_pos (Or.inl rfl)
theorem cC1 (u : am_MU) {c : Nat} (hc : c < 24) : f_X6_isCell u (nI c) = some (u, 1) := by
  unfold f_X6_isCell
  rw [if_neg (nI_pos (by omega)), if_neg (p_ge24 hc)]
theorem cC0 (u : am_MU) {x : Int32} (hx : out x 24) : f_X6_isCell u x = some (u, 0) := by
  unfold f_X6_isCell
  by_cases h0 : x < 0
  · rw [if_pos h0]
  · rw [if_neg h0, if_pos (show (24 : Int32) ≤ x from hx.resolve_left h0)]
theorem cM1 (u : am_MU) {c : Nat} (hc : c < 24) : f_X7_isCell u (nI c) = some (u, 1) := by
  unfold f_X7_isCell
  rw [in_in u 23 (n := 23) rfl (by decide) hc, p_some]
  exact if_pos (Or.inr rfl)
theorem cM0 (u : am_MU) {x : Int32} (hx : out x 24) : f_X7_isCell u x = some (u, 0) := by
  unfold f_X7_isCell
  rw [out_in u 23 (n := 23) rfl (by decide) hx, p_some]
  exact if_pos (Or.inl rfl)
theorem kC1 (u : am_MU) {k : Nat} (hk : k < 6) : f_X6_isKind u (nI k) = some (u, 1) := by
  unfold f_X6_isKind
  rw [if_neg (nI_pos (by omega)), if_neg (show ¬ (5 : Int32) < nI k from nI_nlt (show k ≤ 5 by omega) (by decide))]
theorem kC0 (u : am_MU) {x : Int32} (hx : out x 6) : f_X6_isKind u x = some (u, 0) := by
  unfold f_X6_isKind
  by_cases h0 : x < 0
  · rw [if_pos h0]
  · rw [if_neg h0, if_pos (out_neg 5 (n := 5) rfl (by decide) hx h0).1]
theorem tg5 : ∀ i, i < 6 → tg (5 + 2 * i) = 0 := by decide +kernel
theorem FA5 {i : Nat} (h : i < 6) : FA (5 + 2 * i) := Or.inr ⟨i, h, rfl⟩
theorem CF_at {u : am_MU} {a : Nat} {s : FS} (h : CF u a s) {c : Nat} (hc : c < 24) : u (a + 1) c = s.r c := by rw [p_rc u hc, h.2.2]
theorem MF_at {R : Nat → Int32} {f : Nat} {s : FS} (h : MF R f s) {c : Nat} (hc : c < 24) : R (9 + 26 * f + c) = s.r c := by rw [p_rmR R f hc, h.2.2]
theorem nIne {a b : Nat} (h : a ≠ b) (ha : a < 1000000) (hb : b < 1000000) : ¬ nI a = nI b := fun e => h ((nI_eq (by omega) (by omega)).mp e)
/-! shapes of a call -/
theorem scC_of {a : Nat} (h : 33 ≤ a ∧ a ≤ 44) : scr a ∧ a < 110 := ⟨Or.inl h, by omega⟩
/-- only scratch changes -/
theorem Csc {fc fm : am_MU → Option (am_MU × Int32)} {S : AS} {B : Nat} {L M : List Nat} (hS : OK S B) (r : Int32) (hL : ∀ a ∈ L, 33 ≤ a ∧ a ≤ 44) (hM : ∀ a ∈ M, scm a ∧ 110 ≤ a) (h1 : ∀ u, CI u S → ∃ u', fc u = some (u', r) ∧ same L u u') (h2 : ∀ u, MI u S → ∃ u', fm u = some (u', r) ∧ same M u u') : Res fc fm S B := by
  refine ⟨S, r, OK_mono hS (by omega), fun u hu => ?_, fun u hu => ?_⟩
  · obtain ⟨u', e, s⟩ := h1 u hu
    exact ⟨u', e, CI_same hS s (fun a ha => (scC_of (hL a ha)).1) hu, lo_same s (fun a ha => (scC_of (hL a ha)).2)⟩
  · obtain ⟨u', e, s⟩ := h2 u hu
    exact ⟨u', e, MI_same s (fun a ha => (hM a ha).1) hu, hi_same s (fun a ha => (hM a ha).2)⟩
/-- one floor changes -/
theorem Cfl {fc fm : am_MU → Option (am_MU × Int32)} {S : AS} {B i : Nat} {L M : List Nat} (hS : OK S B) (hi : i < S.now.n) (s : FS) (r : Int32) (hk : ∃ k, k < 6 ∧ s.k = nI k) (hr : rOK s.r (B + 2400)) (hL : ∀ a ∈ L, (33 ≤ a ∧ a ≤ 44) ∨ a = 5 + 2 * i ∨ a = 6 + 2 * i) (hM : ∀ a ∈ M, (scm a ∧ 110 ≤ a) ∨ a = 111) (hc : ∀ u, CI u S → ∃ u', fc u = some (u', r) ∧ same L u u' ∧ CF u' (5 + 2 * i) s) (hm : ∀ u, MI u S → ∃ u', fm u = some (u', r) ∧ same M u u' ∧ (∀ j, (j < 7 + 26 * i ∨ 33 + 26 * i ≤ j) → u' 111 j = u 111 j) ∧ MF (u' 111) i s) : Res fc fm S B := by
  have hn := hS.now.n
  refine ⟨S.wNow (setF S.now i s), r, OK_setF hS (by omega) hk hr, fun u hu => ?_, fun u hu => ?_⟩
  · obtain ⟨u', e1, e2, e3⟩ := hc u hu
    exact ⟨u', e1, CI_setF hS hi e2 (fun a ha => (hL a ha).elim (fun q => Or.inl (scC_of q).1) Or.inr) hu e3, lo_same e2 (fun a ha => by have := hL a ha; omega)⟩
  · obtain ⟨u', e1, e2, e3, e4⟩ := hm u hu
    exact ⟨u', e1, MI_setF hS hi e2 (fun a ha => (hM a ha).elim (fun q => Or.inl q.1) Or.inr) e3 hu e4, hi_same e2 (fun a ha => by rcases hM a ha with q | q <;> omega)⟩
theorem fl1 {u : am_MU} {S : AS} (hu : CI u S) {i : Nat} (hi : i < S.now.n) : CF u (5 + 2 * i) (S.now.fl i) := hu.now.fl i hi
theorem ii {α : Type} {j n : Nat} (h : j < n + 1) (hn : n < 1000000) (M : Int32) (hM : M = nI n) (a b : α) : (if nI j < 0 then a else if nI j ≤ M then b else a) = b := by
  subst hM
  rw [if_neg (nI_pos (by omega)), if_pos (nI_le (by omega) (by omega))]
theorem oi {α : Type} {x : Int32} {n : Nat} (h : out x (n + 1)) (hn : n < 1000000) (M : Int32) (hM : M = nI n) (a b : α) : (if x < 0 then a else if x ≤ M then b else a) = a := by
  by_cases h0 : x < 0
  · rw [if_pos h0]
  · rw [if_neg h0, if_neg (out_neg M hM hn h h0).2]
theorem sC1 (u : am_MU) {c : Nat} (hc : c < 4) : f_X6_isSheet u (nI c) = some (u, 1) := by
  unfold f_X6_isSheet
  rw [if_neg (nI_pos (by omega)), if_neg (show ¬ (4 : Int32) ≤ nI c from nI_ge hc (by decide))]
theorem sC0 (u : am_MU) {x : Int32} (hx : out x 4) : f_X6_isSheet u x = some (u, 0) := by
  unfold f_X6_isSheet
  by_cases h0 : x < 0
  · rw [if_pos h0]
  · rw [if_neg h0, if_pos (show (4 : Int32) ≤ x from hx.resolve_left h0)]
theorem sM1 (u : am_MU) {c : Nat} (hc : c < 4) : f_X7_isSheet u (nI c) = some (u, 1) := by
  unfold f_X7_isSheet
  rw [in_in u 3 (n := 3) rfl (by decide) hc, p_some]
  exact if_pos (Or.inr rfl)
theorem sM0 (u : am_MU) {x : Int32} (hx : out x 4) : f_X7_isSheet u x = some (u, 0) := by
  unfold f_X7_isSheet
  rw [out_in u 3 (n := 3) rfl (by decide) hx, p_some]
  exact if_pos (Or.inl rfl)
theorem lC1 (u : am_MU) {c : Nat} (hc : c < 5) : f_X6_isSlot u (nI c) = some (u, 1) := by
  unfold f_X6_isSlot
  rw [if_neg (nI_pos (by omega)), if_neg (show ¬ (5 : Int32) ≤ nI c from nI_ge hc (by decide))]
theorem lC0 (u : am_MU) {x : Int32} (hx : out x 5) : f_X6_isSlot u x = some (u, 0) := by
  unfold f_X6_isSlot
  by_cases h0 : x < 0
  · rw [if_pos h0]
  · rw [if_neg h0, if_pos (show (5 : Int32) ≤ x from hx.resolve_left h0)]
theorem lM1 (u : am_MU) {c : Nat} (hc : c < 5) : f_X7_isSlot u (nI c) = some (u, 1) := by
  unfold f_X7_isSlot
  rw [in_in u 4 (n := 4) rfl (by decide) hc, p_some]
  exact if_pos (Or.inr rfl)
theorem lM0 (u : am_MU) {x : Int32} (hx : out x 5) : f_X7_isSlot u x = some (u, 0) := by
  unfold f_X7_isSlot
  rw [out_in u 4 (n := 4) rfl (by decide) hx, p_some]
  exact if_pos (Or.inl rfl)
theorem tg77 : ∀ i, i < 4 → tg (77 + 2 * i) = 2 := by decide +kernel
theorem tg85 : ∀ i, i < 5 → tg (85 + 5 * i) = 3 := by decide +kernel
theorem tg86 : ∀ i, i < 5 → tg (85 + 5 * i + 1) = 0 := by decide +kernel
theorem tg88 : ∀ i, i < 5 → tg (85 + 5 * i + 3) = 2 := by decide +kernel
