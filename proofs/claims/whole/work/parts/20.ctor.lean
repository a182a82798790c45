/-! constructors: a heap as a list of cells, P ahead and Q what is being made -/
abbrev am_K : Type := am_S × (Nat → Int32)
def am_kd : am_K := ((999, 0, fun _ => none), fun _ => 0)
def hl (L : List am_K) : am_H := (L.length, (L.map (fun c => c.1.2.1)).sum, fun k => (L.getD k am_kd).1, fun k => (L.getD k am_kd).2)
def am_qs (Q : List am_K) : Nat := (Q.map (fun c => c.1.2.1)).sum
theorem hl_get {L : List am_K} {a : Nat} {c : am_K} (h : L[a]? = some c) : L.getD a am_kd = c := by rw [List.getD_eq_getElem?_getD, h]; rfl
theorem hl_at {L : List am_K} {a : Nat} {c : am_K} (h : L[a]? = some c) : am_at (hl L) a c.1 := ⟨(List.getElem?_eq_some_iff.mp h).1, by show (L.getD a am_kd).1 = c.1; rw [hl_get h]⟩
theorem hl_set {L : List am_K} {a : Nat} {c : am_K} (S : am_S) (f : Nat → Int32) (h : L[a]? = some c) (hS : S.2.1 = c.1.2.1) : ((hl L).1, (hl L).2.1, am_us (hl L).2.2.1 a S, am_ur (hl L).2.2.2 a f) = hl (L.set a (S, f)) := by
  have hl0 := (List.getElem?_eq_some_iff.mp h).1
  have e1 : (L.set a (S, f)).length = L.length := by simp
  have e2 : ((L.set a (S, f)).map (fun c => c.1.2.1)) = L.map (fun c => c.1.2.1) := by
    refine List.ext_getElem? fun k => ?_
    rw [List.getElem?_map, List.getElem?_map]
    by_cases hk : k = a
    · subst hk
      rw [List.getElem?_set_self hl0, h]
      simp [hS]
    · rw [List.getElem?_set_ne (Ne.symm hk)]
  have e3 : ∀ k, (L.set a (S, f)).getD k am_kd = if k = a then (S, f) else L.getD k am_kd := by
    intro k
    rw [List.getD_eq_getElem?_getD, List.getD_eq_getElem?_getD]
    by_cases hk : k = a
    · subst hk
      rw [List.getElem?_set_self hl0, if_pos rfl]; rfl
    · rw [List.getElem?_set_ne (Ne.symm hk), if_neg hk]
  unfold hl
  rw [e1, e2]
  refine Prod.ext rfl (Prod.ext rfl (Prod.ext ?_ ?_))
  · funext k
    show am_us _ a S k = ((L.set a (S, f)).getD k am_kd).1
    rw [e3]
    by_cases hk : k = a <;> simp [am_us, hk]
  · funext k
    show am_ur _ a f k = ((L.set a (S, f)).getD k am_kd).2
    rw [e3]
    by_cases hk : k = a <;> simp [am_ur, hk]
theorem hl_put {L : List am_K} {a : Nat} {c : am_K} (f : Nat → Int32) (h : L[a]? = some c) : am_hm (hl L) (am_ur (hl L).2.2.2 a f) = hl (L.set a (c.1, f)) := by
  have e := hl_set c.1 f h rfl
  have e2 : am_us (hl L).2.2.1 a c.1 = (hl L).2.2.1 := by rw [← (hl_at h).2]; exact am_us_self _ _
  rw [e2] at e
  exact e
theorem hl_sh {L : List am_K} {a : Nat} {c : am_K} (S : am_S) (h : L[a]? = some c) (hS : S.2.1 = c.1.2.1) : am_hs (hl L) a S = hl (L.set a (S, c.2)) := by
  have e := hl_set S c.2 h hS
  have e2 : am_ur (hl L).2.2.2 a c.2 = (hl L).2.2.2 := by
    have : (hl L).2.2.2 a = c.2 := by show (L.getD a am_kd).2 = c.2; rw [hl_get h]
    rw [← this]; exact am_ur_self _ _
  rw [e2] at e
  exact e
theorem hl_new {L : List am_K} (n : Nat) (S : am_S) (hS : S.2.1 = n) : am_hn (hl L) n S = hl (L ++ [(S, fun _ => 0)]) := by
  have e3 : ∀ k, (L ++ [(S, fun _ => (0 : Int32))]).getD k am_kd = if k = L.length then (S, fun _ => 0) else L.getD k am_kd := by
    intro k
    rw [List.getD_eq_getElem?_getD, List.getD_eq_getElem?_getD]
    by_cases hk : k = L.length
    · subst hk
      rw [if_pos rfl, List.getElem?_append_right (Nat.le_refl _), Nat.sub_self]; rfl
    · rw [if_neg hk]
      by_cases hl2 : k < L.length
      · rw [List.getElem?_append_left hl2]
      · rw [List.getElem?_eq_none (by simp; omega), List.getElem?_eq_none (by omega)]
  unfold hl am_hn
  refine Prod.ext (by simp) (Prod.ext (by simp [hS]) (Prod.ext ?_ ?_))
  · funext k
    show am_us _ _ S k = ((L ++ [(S, fun _ => 0)]).getD k am_kd).1
    rw [e3]
    by_cases hk : k = L.length <;> simp [am_us, hk]
  · funext k
    show am_ur _ _ (fun _ => 0) k = ((L ++ [(S, fun _ => 0)]).getD k am_kd).2
    rw [e3]
    by_cases hk : k = L.length <;> simp [am_ur, hk]
theorem pq_at {P Q : List am_K} {k : Nat} {c : am_K} (h : Q[k]? = some c) : (P ++ Q)[P.length + k]? = some c := by
  rw [List.getElem?_append_right (by omega), Nat.add_sub_cancel_left]; exact h
theorem pq_set {P Q : List am_K} {k : Nat} {c : am_K} : (P ++ Q).set (P.length + k) c = P ++ Q.set k c := by
  rw [List.set_append_right _ _ (by omega), Nat.add_sub_cancel_left]
theorem pq_len {P Q Qf : List am_K} (h : Q.length + 1 ≤ Qf.length) : (hl (P ++ Q)).1 + 1 ≤ (hl (P ++ Qf)).1 := by
  show (P ++ Q).length + 1 ≤ (P ++ Qf).length
  simp only [List.length_append]; omega
theorem pq_sl {P Q Qf : List am_K} {n : Nat} (h : am_qs Q + n ≤ am_qs Qf) : (hl (P ++ Q)).2.1 + n ≤ (hl (P ++ Qf)).2.1 := by
  show ((P ++ Q).map _).sum + n ≤ ((P ++ Qf).map _).sum
  unfold am_qs at h
  simp only [List.map_append, List.sum_append]; omega
theorem qs_set {Q : List am_K} {a : Nat} {c c' : am_K} (h : Q[a]? = some c) (e : c'.1.2.1 = c.1.2.1) : am_qs (Q.set a c') = am_qs Q := by
  have hl0 := (List.getElem?_eq_some_iff.mp h).1
  unfold am_qs
  congr 1
  refine List.ext_getElem? fun k => ?_
  rw [List.getElem?_map, List.getElem?_map]
  by_cases hk : k = a
  · subst hk
    rw [List.getElem?_set_self hl0, h]
    simp [e]
  · rw [List.getElem?_set_ne (Ne.symm hk)]
theorem qs_app {Q R : List am_K} : am_qs (Q ++ R) = am_qs Q + am_qs R := by simp [am_qs]
section CX
variable {q s fq fs : Nat} {Q Qf : List am_K}
variable {X : Nat × (Nat → Int32)} {M : am_M} {pc : Nat} {L : List (Nat × Value)} {S : List Value} {P : List am_K} {vr : Option Value}
theorem cx_new {idx ci N : Nat} {C : String} {T : u_T} {ty : Nat → FieldType} (rf : Nat → Option (Option Nat)) (hd : decode M.2.1 pc = .ok (.new idx, 3)) (hci : ci < 100) (hC : am_okC ci C T N ty) (hcl : Cond.classLink M.1.cls idx C ∈ am_Tg) (hrf : ∀ j, j < N → (match rf j with | none => defaultValue (ty j) = .int 0 | some q => q = none ∧ defaultValue (ty j) = .null)) (q' s' : Nat) (hq : Q.length = q) (hs : am_qs Q = s) (hf : Qf.length = fq) (hg : am_qs Qf = fs) (eq1 : q + 1 = q') (es1 : s + N = s') (h1 : q' ≤ fq) (h2 : s' ≤ fs) (kk : (Q ++ [((ci, N, rf), fun _ => 0)]).length = q' → am_qs (Q ++ [((ci, N, rf), fun _ => 0)]) = s' → am_Ev X M (pc + 3) L (.ref (P.length + q) :: S) (hl (P ++ (Q ++ [((ci, N, rf), fun _ => 0)]))) (hl (P ++ Qf), vr)) : am_Ev X M pc L S (hl (P ++ Q)) (hl (P ++ Qf), vr) := by
  refine ev_new rf hd hci hC hcl hrf (pq_len (by omega)) (pq_sl (by omega)) ?_
  rw [hl_new N (ci, N, rf) rfl, List.append_assoc]
  have e : (hl (P ++ Q)).1 = P.length + q := by rw [← hq]; show (P ++ Q).length = _; simp
  rw [e]; exact kk (by simp [hq, eq1]) (by rw [qs_app, hs, ← es1]; rfl)
theorem cx_newa0 {n : Int32} (N : Nat) (hd : decode M.2.1 pc = .ok (.newarray .int, 2)) (hw : Cond.arrayClass .int ∈ am_Tg) (h0 : ¬ n < 0) (hN : n.toNatClampNeg = N) (hbig : N ≤ 60000) (q' s' : Nat) (hq : Q.length = q) (hs : am_qs Q = s) (hf : Qf.length = fq) (hg : am_qs Qf = fs) (eq1 : q + 1 = q') (es1 : s + N = s') (h1 : q' ≤ fq) (h2 : s' ≤ fs) (kk : (Q ++ [((100, N, fun _ => none), fun _ => 0)]).length = q' → am_qs (Q ++ [((100, N, fun _ => none), fun _ => 0)]) = s' → am_Ev X M (pc + 2) L (.ref (P.length + q) :: S) (hl (P ++ (Q ++ [((100, N, fun _ => none), fun _ => 0)]))) (hl (P ++ Qf), vr)) : am_Ev X M pc L (.int n :: S) (hl (P ++ Q)) (hl (P ++ Qf), vr) := by
  refine ev_newa0 N hd hw h0 hN hbig (pq_len (by omega)) (pq_sl (by omega)) ?_
  rw [hl_new N (100, N, fun _ => none) rfl, List.append_assoc]
  have e : (hl (P ++ Q)).1 = P.length + q := by rw [← hq]; show (P ++ Q).length = _; simp
  rw [e]; exact kk (by simp [hq, eq1]) (by rw [qs_app, hs, ← es1]; rfl)
theorem cx_newa1 {n : Int32} (N : Nat) (hd : decode M.2.1 pc = .ok (.newarray .boolean, 2)) (hw : Cond.arrayClass .boolean ∈ am_Tg) (h0 : ¬ n < 0) (hN : n.toNatClampNeg = N) (hbig : N ≤ 60000) (q' s' : Nat) (hq : Q.length = q) (hs : am_qs Q = s) (hf : Qf.length = fq) (hg : am_qs Qf = fs) (eq1 : q + 1 = q') (es1 : s + N = s') (h1 : q' ≤ fq) (h2 : s' ≤ fs) (kk : (Q ++ [((101, N, fun _ => none), fun _ => 0)]).length = q' → am_qs (Q ++ [((101, N, fun _ => none), fun _ => 0)]) = s' → am_Ev X M (pc + 2) L (.ref (P.length + q) :: S) (hl (P ++ (Q ++ [((101, N, fun _ => none), fun _ => 0)]))) (hl (P ++ Qf), vr)) : am_Ev X M pc L (.int n :: S) (hl (P ++ Q)) (hl (P ++ Qf), vr) := by
  refine ev_newa1 N hd hw h0 hN hbig (pq_len (by omega)) (pq_sl (by omega)) ?_
  rw [hl_new N (101, N, fun _ => none) rfl, List.append_assoc]
  have e : (hl (P ++ Q)).1 = P.length + q := by rw [← hq]; show (P ++ Q).length = _; simp
  rw [e]; exact kk (by simp [hq, eq1]) (by rw [qs_app, hs, ← es1]; rfl)
theorem cx_newa2 {n : Int32} (N : Nat) (hd : decode M.2.1 pc = .ok (.newarray .char, 2)) (hw : Cond.arrayClass .char ∈ am_Tg) (h0 : ¬ n < 0) (hN : n.toNatClampNeg = N) (hbig : N ≤ 60000) (q' s' : Nat) (hq : Q.length = q) (hs : am_qs Q = s) (hf : Qf.length = fq) (hg : am_qs Qf = fs) (eq1 : q + 1 = q') (es1 : s + N = s') (h1 : q' ≤ fq) (h2 : s' ≤ fs) (kk : (Q ++ [((102, N, fun _ => none), fun _ => 0)]).length = q' → am_qs (Q ++ [((102, N, fun _ => none), fun _ => 0)]) = s' → am_Ev X M (pc + 2) L (.ref (P.length + q) :: S) (hl (P ++ (Q ++ [((102, N, fun _ => none), fun _ => 0)]))) (hl (P ++ Qf), vr)) : am_Ev X M pc L (.int n :: S) (hl (P ++ Q)) (hl (P ++ Qf), vr) := by
  refine ev_newa2 N hd hw h0 hN hbig (pq_len (by omega)) (pq_sl (by omega)) ?_
  rw [hl_new N (102, N, fun _ => none) rfl, List.append_assoc]
  have e : (hl (P ++ Q)).1 = P.length + q := by rw [← hq]; show (P ++ Q).length = _; simp
  rw [e]; exact kk (by simp [hq, eq1]) (by rw [qs_app, hs, ← es1]; rfl)
theorem cx_anew3 {n : Int32} {idx : Nat} (N : Nat) (hd : decode M.2.1 pc = .ok (.anewarray idx, 3)) (hw : Cond.classLink M.1.cls idx "SandRipples$Floor" ∈ am_Tg) (h0 : ¬ n < 0) (hN : n.toNatClampNeg = N) (hbig : N ≤ 60000) (q' s' : Nat) (hq : Q.length = q) (hs : am_qs Q = s) (hf : Qf.length = fq) (hg : am_qs Qf = fs) (eq1 : q + 1 = q') (es1 : s + N = s') (h1 : q' ≤ fq) (h2 : s' ≤ fs) (kk : (Q ++ [((103, N, fun _ => some none), fun _ => 0)]).length = q' → am_qs (Q ++ [((103, N, fun _ => some none), fun _ => 0)]) = s' → am_Ev X M (pc + 3) L (.ref (P.length + q) :: S) (hl (P ++ (Q ++ [((103, N, fun _ => some none), fun _ => 0)]))) (hl (P ++ Qf), vr)) : am_Ev X M pc L (.int n :: S) (hl (P ++ Q)) (hl (P ++ Qf), vr) := by
  refine ev_anew3 N hd hw h0 hN hbig (pq_len (by omega)) (pq_sl (by omega)) ?_
  rw [hl_new N (103, N, fun _ => some none) rfl, List.append_assoc]
  have e : (hl (P ++ Q)).1 = P.length + q := by rw [← hq]; show (P ++ Q).length = _; simp
  rw [e]; exact kk (by simp [hq, eq1]) (by rw [qs_app, hs, ← es1]; rfl)
theorem cx_anew4 {n : Int32} {idx : Nat} (N : Nat) (hd : decode M.2.1 pc = .ok (.anewarray idx, 3)) (hw : Cond.classLink M.1.cls idx "SandRipples$Text" ∈ am_Tg) (h0 : ¬ n < 0) (hN : n.toNatClampNeg = N) (hbig : N ≤ 60000) (q' s' : Nat) (hq : Q.length = q) (hs : am_qs Q = s) (hf : Qf.length = fq) (hg : am_qs Qf = fs) (eq1 : q + 1 = q') (es1 : s + N = s') (h1 : q' ≤ fq) (h2 : s' ≤ fs) (kk : (Q ++ [((104, N, fun _ => some none), fun _ => 0)]).length = q' → am_qs (Q ++ [((104, N, fun _ => some none), fun _ => 0)]) = s' → am_Ev X M (pc + 3) L (.ref (P.length + q) :: S) (hl (P ++ (Q ++ [((104, N, fun _ => some none), fun _ => 0)]))) (hl (P ++ Qf), vr)) : am_Ev X M pc L (.int n :: S) (hl (P ++ Q)) (hl (P ++ Qf), vr) := by
  refine ev_anew4 N hd hw h0 hN hbig (pq_len (by omega)) (pq_sl (by omega)) ?_
  rw [hl_new N (104, N, fun _ => some none) rfl, List.append_assoc]
  have e : (hl (P ++ Q)).1 = P.length + q := by rw [← hq]; show (P ++ Q).length = _; simp
  rw [e]; exact kk (by simp [hq, eq1]) (by rw [qs_app, hs, ← es1]; rfl)
theorem cx_anew5 {n : Int32} {idx : Nat} (N : Nat) (hd : decode M.2.1 pc = .ok (.anewarray idx, 3)) (hw : Cond.classLink M.1.cls idx "SandRipples$Sheet" ∈ am_Tg) (h0 : ¬ n < 0) (hN : n.toNatClampNeg = N) (hbig : N ≤ 60000) (q' s' : Nat) (hq : Q.length = q) (hs : am_qs Q = s) (hf : Qf.length = fq) (hg : am_qs Qf = fs) (eq1 : q + 1 = q') (es1 : s + N = s') (h1 : q' ≤ fq) (h2 : s' ≤ fs) (kk : (Q ++ [((105, N, fun _ => some none), fun _ => 0)]).length = q' → am_qs (Q ++ [((105, N, fun _ => some none), fun _ => 0)]) = s' → am_Ev X M (pc + 3) L (.ref (P.length + q) :: S) (hl (P ++ (Q ++ [((105, N, fun _ => some none), fun _ => 0)]))) (hl (P ++ Qf), vr)) : am_Ev X M pc L (.int n :: S) (hl (P ++ Q)) (hl (P ++ Qf), vr) := by
  refine ev_anew5 N hd hw h0 hN hbig (pq_len (by omega)) (pq_sl (by omega)) ?_
  rw [hl_new N (105, N, fun _ => some none) rfl, List.append_assoc]
  have e : (hl (P ++ Q)).1 = P.length + q := by rw [← hq]; show (P ++ Q).length = _; simp
  rw [e]; exact kk (by simp [hq, eq1]) (by rw [qs_app, hs, ← es1]; rfl)
theorem cx_anew6 {n : Int32} {idx : Nat} (N : Nat) (hd : decode M.2.1 pc = .ok (.anewarray idx, 3)) (hw : Cond.classLink M.1.cls idx "SandRipples$Slot" ∈ am_Tg) (h0 : ¬ n < 0) (hN : n.toNatClampNeg = N) (hbig : N ≤ 60000) (q' s' : Nat) (hq : Q.length = q) (hs : am_qs Q = s) (hf : Qf.length = fq) (hg : am_qs Qf = fs) (eq1 : q + 1 = q') (es1 : s + N = s') (h1 : q' ≤ fq) (h2 : s' ≤ fs) (kk : (Q ++ [((106, N, fun _ => some none), fun _ => 0)]).length = q' → am_qs (Q ++ [((106, N, fun _ => some none), fun _ => 0)]) = s' → am_Ev X M (pc + 3) L (.ref (P.length + q) :: S) (hl (P ++ (Q ++ [((106, N, fun _ => some none), fun _ => 0)]))) (hl (P ++ Qf), vr)) : am_Ev X M pc L (.int n :: S) (hl (P ++ Q)) (hl (P ++ Qf), vr) := by
  refine ev_anew6 N hd hw h0 hN hbig (pq_len (by omega)) (pq_sl (by omega)) ?_
  rw [hl_new N (106, N, fun _ => some none) rfl, List.append_assoc]
  have e : (hl (P ++ Q)).1 = P.length + q := by rw [← hq]; show (P ++ Q).length = _; simp
  rw [e]; exact kk (by simp [hq, eq1]) (by rw [qs_app, hs, ← es1]; rfl)
theorem cx_putI {idx ci n k a : Nat} {rf : Nat → Option (Option Nat)} {row : Nat → Int32} {t : FieldType} {v : Int32} (hd : decode M.2.1 pc = .ok (.putfield idx, 3)) (hf : am_pf M.1.cls idx ci k t) (ha : Q[a]? = some ((ci, n, rf), row)) (hk : k < n) (hv : rf k = none) (hn : narrow t (.int v) = .int v) (hfit : fits t (.int v) = true) (hq : Q.length = q) (hs : am_qs Q = s) (kk : (Q.set a ((ci, n, rf), upd row k v)).length = q → am_qs (Q.set a ((ci, n, rf), upd row k v)) = s → am_Ev X M (pc + 3) L S (hl (P ++ Q.set a ((ci, n, rf), upd row k v))) (hl (P ++ Qf), vr)) : am_Ev X M pc L (.int v :: .ref (P.length + a) :: S) (hl (P ++ Q)) (hl (P ++ Qf), vr) := by
  have h1 := pq_at (P := P) ha
  refine ev_putI hd hf (hl_at h1) hk hv hn hfit ?_
  have e0 : (hl (P ++ Q)).2.2.2 (P.length + a) = row := by show ((P ++ Q).getD (P.length + a) am_kd).2 = row; rw [hl_get h1]
  unfold am_u2
  rw [e0, hl_put _ h1, pq_set]; exact kk (by simp [hq]) ((qs_set ha (by rfl)).trans hs)
theorem cx_putFI {idx ci n k a : Nat} {rf : Nat → Option (Option Nat)} {row : Nat → Int32} {t : FieldType} {v : Int32} (hd : decode M.2.1 pc = .ok (.putfield idx, 3)) (hf : am_pF M.1.cls idx ci k t) (hM : M.1.name = "<init>") (ha : Q[a]? = some ((ci, n, rf), row)) (hk : k < n) (hv : rf k = none) (hn : narrow t (.int v) = .int v) (hfit : fits t (.int v) = true) (hq : Q.length = q) (hs : am_qs Q = s) (kk : (Q.set a ((ci, n, rf), upd row k v)).length = q → am_qs (Q.set a ((ci, n, rf), upd row k v)) = s → am_Ev X M (pc + 3) L S (hl (P ++ Q.set a ((ci, n, rf), upd row k v))) (hl (P ++ Qf), vr)) : am_Ev X M pc L (.int v :: .ref (P.length + a) :: S) (hl (P ++ Q)) (hl (P ++ Qf), vr) := by
  have h1 := pq_at (P := P) ha
  refine ev_putFI hd hf hM (hl_at h1) hk hv hn hfit ?_
  have e0 : (hl (P ++ Q)).2.2.2 (P.length + a) = row := by show ((P ++ Q).getD (P.length + a) am_kd).2 = row; rw [hl_get h1]
  unfold am_u2
  rw [e0, hl_put _ h1, pq_set]; exact kk (by simp [hq]) ((qs_set ha (by rfl)).trans hs)
theorem cx_putFR {idx ci n k a b : Nat} {rf : Nat → Option (Option Nat)} {row : Nat → Int32} {t : FieldType} (hd : decode M.2.1 pc = .ok (.putfield idx, 3)) (hf : am_pF M.1.cls idx ci k t) (hM : M.1.name = "<init>") (ha : Q[a]? = some ((ci, n, rf), row)) (hk : k < n) (hn : ∀ q, narrow t (.ref q) = .ref q) (hfit : ∀ q, fits t (.ref q) = true) (hq : Q.length = q) (hs : am_qs Q = s) (kk : (Q.set a ((ci, n, am_rs rf k b), row)).length = q → am_qs (Q.set a ((ci, n, am_rs rf k b), row)) = s → am_Ev X M (pc + 3) L S (hl (P ++ Q.set a ((ci, n, am_rs rf k b), row))) (hl (P ++ Qf), vr)) : am_Ev X M pc L (.ref b :: .ref (P.length + a) :: S) (hl (P ++ Q)) (hl (P ++ Qf), vr) := by
  have h1 := pq_at (P := P) ha
  refine ev_putFR hd hf hM (hl_at h1) hk hn hfit ?_
  rw [hl_sh (ci, n, am_rs rf k b) h1 rfl, pq_set]; exact kk (by simp [hq]) ((qs_set ha (by rfl)).trans hs)
theorem cx_iast {n a : Nat} {i x : Int32} {rf : Nat → Option (Option Nat)} {row : Nat → Int32} (j : Nat) (hd : decode M.2.1 pc = .ok (.iastore, 1)) (ha : Q[a]? = some ((100, n, rf), row)) (hi : am_in i n = true) (hj : i.toNatClampNeg = j) (hq : Q.length = q) (hs : am_qs Q = s) (kk : (Q.set a ((100, n, rf), upd row j x)).length = q → am_qs (Q.set a ((100, n, rf), upd row j x)) = s → am_Ev X M (pc + 1) L S (hl (P ++ Q.set a ((100, n, rf), upd row j x))) (hl (P ++ Qf), vr)) : am_Ev X M pc L (.int x :: .int i :: .ref (P.length + a) :: S) (hl (P ++ Q)) (hl (P ++ Qf), vr) := by
  have h1 := pq_at (P := P) ha
  refine ev_iast hd (hl_at h1) (am_in_vp hi) ?_
  have e0 : (hl (P ++ Q)).2.2.2 (P.length + a) = row := by show ((P ++ Q).getD (P.length + a) am_kd).2 = row; rw [hl_get h1]
  unfold am_u2
  rw [e0, hj, hl_put _ h1, pq_set]; exact kk (by simp [hq]) ((qs_set ha (by rfl)).trans hs)
theorem cx_cast {n a : Nat} {i x : Int32} {rf : Nat → Option (Option Nat)} {row : Nat → Int32} (j : Nat) (hd : decode M.2.1 pc = .ok (.castore, 1)) (ha : Q[a]? = some ((102, n, rf), row)) (hi : am_in i n = true) (hj : i.toNatClampNeg = j) (hx : vp_nar .char x = x) (hq : Q.length = q) (hs : am_qs Q = s) (kk : (Q.set a ((102, n, rf), upd row j x)).length = q → am_qs (Q.set a ((102, n, rf), upd row j x)) = s → am_Ev X M (pc + 1) L S (hl (P ++ Q.set a ((102, n, rf), upd row j x))) (hl (P ++ Qf), vr)) : am_Ev X M pc L (.int x :: .int i :: .ref (P.length + a) :: S) (hl (P ++ Q)) (hl (P ++ Qf), vr) := by
  have h1 := pq_at (P := P) ha
  refine ev_cast hd (hl_at h1) (am_in_vp hi) ?_
  have e0 : (hl (P ++ Q)).2.2.2 (P.length + a) = row := by show ((P ++ Q).getD (P.length + a) am_kd).2 = row; rw [hl_get h1]
  unfold am_u2
  rw [e0, hj, hx, hl_put _ h1, pq_set]; exact kk (by simp [hq]) ((qs_set ha (by rfl)).trans hs)
theorem cx_getR {idx ci n k a b : Nat} {rf : Nat → Option (Option Nat)} {row : Nat → Int32} (hd : decode M.2.1 pc = .ok (.getfield idx, 3)) (hf : am_gf M.1.cls idx ci k) (ha : Q[a]? = some ((ci, n, rf), row)) (hk : k < n) (hv : rf k = some (some b)) (kk : am_Ev X M (pc + 3) L (.ref b :: S) (hl (P ++ Q)) (hl (P ++ Qf), vr)) : am_Ev X M pc L (.ref (P.length + a) :: S) (hl (P ++ Q)) (hl (P ++ Qf), vr) := ev_getR hd hf (hl_at (pq_at (P := P) ha)) hk hv kk
theorem cx_alen3 {n a : Nat} {rf : Nat → Option (Option Nat)} {row : Nat → Int32} (hd : decode M.2.1 pc = .ok (.arraylength, 1)) (ha : Q[a]? = some ((103, n, rf), row)) (kk : am_Ev X M (pc + 1) L (.int (Int32.ofNat n) :: S) (hl (P ++ Q)) (hl (P ++ Qf), vr)) : am_Ev X M pc L (.ref (P.length + a) :: S) (hl (P ++ Q)) (hl (P ++ Qf), vr) := ev_alen3 hd (hl_at (pq_at (P := P) ha)) kk
theorem cx_aast3 {n a b nb : Nat} {i : Int32} {rf rb : Nat → Option (Option Nat)} {row rowb : Nat → Int32} (j : Nat) (hd : decode M.2.1 pc = .ok (.aastore, 1)) (ha : Q[a]? = some ((103, n, rf), row)) (hi : am_in i n = true) (hj : i.toNatClampNeg = j) (hb : Q[b]? = some ((0, nb, rb), rowb)) (hq : Q.length = q) (hs : am_qs Q = s) (kk : (Q.set a ((103, n, am_rs rf j (P.length + b)), row)).length = q → am_qs (Q.set a ((103, n, am_rs rf j (P.length + b)), row)) = s → am_Ev X M (pc + 1) L S (hl (P ++ Q.set a ((103, n, am_rs rf j (P.length + b)), row))) (hl (P ++ Qf), vr)) : am_Ev X M pc L (.ref (P.length + b) :: .int i :: .ref (P.length + a) :: S) (hl (P ++ Q)) (hl (P ++ Qf), vr) := by
  have h1 := pq_at (P := P) ha
  refine ev_aast3 hd (hl_at h1) (am_in_vp hi) (hl_at (pq_at (P := P) hb)) ?_
  rw [hj, hl_sh (103, n, am_rs rf j (P.length + b)) h1 rfl, pq_set]; exact kk (by simp [hq]) ((qs_set ha (by rfl)).trans hs)
theorem cx_aast4 {n a b nb : Nat} {i : Int32} {rf rb : Nat → Option (Option Nat)} {row rowb : Nat → Int32} (j : Nat) (hd : decode M.2.1 pc = .ok (.aastore, 1)) (ha : Q[a]? = some ((104, n, rf), row)) (hi : am_in i n = true) (hj : i.toNatClampNeg = j) (hb : Q[b]? = some ((4, nb, rb), rowb)) (hq : Q.length = q) (hs : am_qs Q = s) (kk : (Q.set a ((104, n, am_rs rf j (P.length + b)), row)).length = q → am_qs (Q.set a ((104, n, am_rs rf j (P.length + b)), row)) = s → am_Ev X M (pc + 1) L S (hl (P ++ Q.set a ((104, n, am_rs rf j (P.length + b)), row))) (hl (P ++ Qf), vr)) : am_Ev X M pc L (.ref (P.length + b) :: .int i :: .ref (P.length + a) :: S) (hl (P ++ Q)) (hl (P ++ Qf), vr) := by
  have h1 := pq_at (P := P) ha
  refine ev_aast4 hd (hl_at h1) (am_in_vp hi) (hl_at (pq_at (P := P) hb)) ?_
  rw [hj, hl_sh (104, n, am_rs rf j (P.length + b)) h1 rfl, pq_set]; exact kk (by simp [hq]) ((qs_set ha (by rfl)).trans hs)
theorem cx_aast5 {n a b nb : Nat} {i : Int32} {rf rb : Nat → Option (Option Nat)} {row rowb : Nat → Int32} (j : Nat) (hd : decode M.2.1 pc = .ok (.aastore, 1)) (ha : Q[a]? = some ((105, n, rf), row)) (hi : am_in i n = true) (hj : i.toNatClampNeg = j) (hb : Q[b]? = some ((2, nb, rb), rowb)) (hq : Q.length = q) (hs : am_qs Q = s) (kk : (Q.set a ((105, n, am_rs rf j (P.length + b)), row)).length = q → am_qs (Q.set a ((105, n, am_rs rf j (P.length + b)), row)) = s → am_Ev X M (pc + 1) L S (hl (P ++ Q.set a ((105, n, am_rs rf j (P.length + b)), row))) (hl (P ++ Qf), vr)) : am_Ev X M pc L (.ref (P.length + b) :: .int i :: .ref (P.length + a) :: S) (hl (P ++ Q)) (hl (P ++ Qf), vr) := by
  have h1 := pq_at (P := P) ha
  refine ev_aast5 hd (hl_at h1) (am_in_vp hi) (hl_at (pq_at (P := P) hb)) ?_
  rw [hj, hl_sh (105, n, am_rs rf j (P.length + b)) h1 rfl, pq_set]; exact kk (by simp [hq]) ((qs_set ha (by rfl)).trans hs)
theorem cx_aast6 {n a b nb : Nat} {i : Int32} {rf rb : Nat → Option (Option Nat)} {row rowb : Nat → Int32} (j : Nat) (hd : decode M.2.1 pc = .ok (.aastore, 1)) (ha : Q[a]? = some ((106, n, rf), row)) (hi : am_in i n = true) (hj : i.toNatClampNeg = j) (hb : Q[b]? = some ((3, nb, rb), rowb)) (hq : Q.length = q) (hs : am_qs Q = s) (kk : (Q.set a ((106, n, am_rs rf j (P.length + b)), row)).length = q → am_qs (Q.set a ((106, n, am_rs rf j (P.length + b)), row)) = s → am_Ev X M (pc + 1) L S (hl (P ++ Q.set a ((106, n, am_rs rf j (P.length + b)), row))) (hl (P ++ Qf), vr)) : am_Ev X M pc L (.ref (P.length + b) :: .int i :: .ref (P.length + a) :: S) (hl (P ++ Q)) (hl (P ++ Qf), vr) := by
  have h1 := pq_at (P := P) ha
  refine ev_aast6 hd (hl_at h1) (am_in_vp hi) (hl_at (pq_at (P := P) hb)) ?_
  rw [hj, hl_sh (106, n, am_rs rf j (P.length + b)) h1 rfl, pq_set]; exact kk (by simp [hq]) ((qs_set ha (by rfl)).trans hs)
theorem cx_nm {r : am_H × Option Value} {Q' : List am_K} (e : Q = Q') (kk : Q'.length = q → am_qs Q' = s → am_Ev X M pc L S (hl (P ++ Q')) r) (hq : Q.length = q) (hs : am_qs Q = s) : am_Ev X M pc L S (hl (P ++ Q)) r := by subst e; exact kk hq hs
theorem cx_calli {idx n : Nat} {M' : am_M} {bl : am_K} {Q0 : List am_K} (Qc : Nat → List am_K) (As : List Value) {st : List Value} {c0 cs : Nat} (hd : decode M.2.1 pc = .ok (.invokespecial idx, 3)) (hM : am_okM M' n) (hret0 : M'.2.2.2.1 = none) (hlk : am_lk M.1.cls idx M'.1) (hst : Cond.instanceMethod M'.1 ∈ am_Tg) (hnm : M'.1.name = "<init>") (hgt : M'.2.2.2.2 + 1 ≤ M.2.2.2.2) (hlen : As.length = n) (hC : am_Cn X M' (.ref (P ++ Q0).length :: As) (hl ((P ++ Q0) ++ [bl])) (hl ((P ++ Q0) ++ Qc (P ++ Q0).length), none)) (q' s' : Nat) (hQ : Q = Q0 ++ [bl]) (hq : Q.length = q + 1) (hs : am_qs Q = s) (hf : Qf.length = fq) (hg : am_qs Qf = fs) (hcl : ∀ a, (Qc a).length = c0) (hcs : ∀ a, am_qs (Qc a) = cs) (eq1 : q + c0 = q') (es1 : s + cs = s' + bl.1.2.1) (h1 : q' ≤ fq) (h2 : s' ≤ fs) (hstk : st = As.reverse ++ .ref (P.length + q) :: S) (hrs : (S.map fun v => v.category).sum ≤ 8) (kk : (Q0 ++ Qc (P.length + q)).length = q' → am_qs (Q0 ++ Qc (P.length + q)) = s' → am_Ev X M (pc + 3) L S (hl (P ++ (Q0 ++ Qc (P.length + q)))) (hl (P ++ Qf), vr)) : am_Ev X M pc L st (hl (P ++ Q)) (hl (P ++ Qf), vr) := by
  subst hQ
  have hq0 : Q0.length = q := by simp at hq; exact hq
  have hs0 : am_qs Q0 + bl.1.2.1 = s := by rw [qs_app] at hs; simpa [am_qs] using hs
  have e : (P ++ Q0).length = P.length + q := by rw [← hq0]; simp
  have k1 : (Q0 ++ Qc (P.length + q)).length = q' := by rw [List.length_append, hcl, hq0]; exact eq1
  have k2 : am_qs (Q0 ++ Qc (P.length + q)) = s' := by rw [qs_app, hcs]; omega
  have kk := kk k1 k2
  rw [e] at hC
  rw [← List.append_assoc] at kk ⊢
  have hn : (hl (P ++ Q0 ++ Qc (P.length + q))).1 ≤ (hl (P ++ Qf)).1 := by
    show (P ++ Q0 ++ Qc (P.length + q)).length ≤ (P ++ Qf).length
    simp only [List.length_append] at k1 ⊢; omega
  have hn2 : (hl (P ++ Q0 ++ Qc (P.length + q))).2.1 ≤ (hl (P ++ Qf)).2.1 := by
    show ((P ++ Q0 ++ Qc (P.length + q)).map _).sum ≤ ((P ++ Qf).map _).sum
    unfold am_qs at k2 hg
    simp only [List.map_append, List.sum_append] at k2 ⊢; omega
  exact ev_calli As hd hM hret0 hlk hst hnm hgt hlen hC hstk hrs hn hn2 kk
theorem cx_le {Q Qf : List am_K} (P : List am_K) (h : Q.length ≤ Qf.length) : (hl (P ++ Q)).1 ≤ (hl (P ++ Qf)).1 := by
  show (P ++ Q).length ≤ (P ++ Qf).length
  simp only [List.length_append]; omega
theorem cx_le2 {Q Qf : List am_K} (P : List am_K) (h : am_qs Q ≤ am_qs Qf) : (hl (P ++ Q)).2.1 ≤ (hl (P ++ Qf)).2.1 := by
  show ((P ++ Q).map _).sum ≤ ((P ++ Qf).map _).sum
  unfold am_qs at h
  simp only [List.map_append, List.sum_append]; omega
end CX
