/-! A LIGHT MACHINE over the kit's rows: a heap is a shape (classes, lengths, references) and one table of ints; am_Ev says that a frame of a method comes to its end. -/
/-- tag (a class below 100, an array from 100 on), length, which places are references and which -/
abbrev am_S : Type := Nat × Nat × (Nat → Option (Option Nat))
/-- cells made, slots made, shapes, ints -/
abbrev am_H : Type := Nat × Nat × (Nat → am_S) × (Nat → Nat → Int32)
/-- name, code, maxLocals, what it returns, height -/
abbrev am_M : Type := MethodName × ByteArray × Nat × Option FieldType × Nat
/-- classes and slots, array classes, the first address, what constants stand for, the script's length and ints -/
abbrev am_G : Type := va_G × (Nat → ClassId) × Nat × (Nat → Value) × Nat × (Nat → Int32)
def am_A (G : am_G) : Nat → Prop := fun q => G.2.2.1 ≤ q
def am_tr (G : am_G) (v : Value) : Value := match v with
  | .ref a => .ref (G.2.2.1 + a)
  | .retAddr k => G.2.2.2.1 k
  | .int x => .int x
  | .long x => .long x
  | .float x => .float x
  | .double x => .double x
  | .null => .null
def am_rf (G : am_G) (r : Option Nat) : Option Nat := match r with
  | none => none
  | some a => some (G.2.2.1 + a)
def am_fv (G : am_G) (rf : Nat → Option (Option Nat)) (m : Nat → Int32) (i : Nat) : Value := match rf i with
  | none => .int (m i)
  | some r => va_rf (am_rf G r)
def am_rq (G : am_G) (rf : Nat → Option (Option Nat)) (j : Nat) : Option Nat := match rf j with
  | none => none
  | some r => am_rf G r
def am_c (G : am_G) (S : am_S) (m : Nat → Int32) : va_E :=
  if S.1 < 100 then .inr (S.1, (List.range S.2.1).map (am_fv G S.2.2 m))
  else if S.1 < 103 then .inl (G.2.1 (S.1 - 100), S.2.1, .inl m)
  else .inl (G.2.1 (S.1 - 100), S.2.1, .inr (.inr (.inr (.inr (am_rq G S.2.2)))))
def am_ws (G : am_G) (h : am_H) : va_W := (List.range h.1).map (fun k => (G.2.2.1 + k, am_c G (h.2.2.1 k) (h.2.2.2 k)))
def am_tys (G : am_G) : List (ClassId × FieldType) := [(G.2.1 0, .int), (G.2.1 1, .boolean), (G.2.1 2, .char), (G.2.1 3, .object "SandRipples$Floor"), (G.2.1 4, .object "SandRipples$Text"), (G.2.1 5, .object "SandRipples$Sheet"), (G.2.1 6, .object "SandRipples$Slot")]
def am_at (h : am_H) (a : Nat) (S : am_S) : Prop := a < h.1 ∧ h.2.2.1 a = S
/-- one row of ints becomes f -/
def am_ur (μ : Nat → Nat → Int32) (a : Nat) (f : Nat → Int32) : Nat → Nat → Int32 := fun b => if b = a then f else μ b
def am_u2 (μ : Nat → Nat → Int32) (a i : Nat) (v : Int32) : Nat → Nat → Int32 := am_ur μ a (upd (μ a) i v)
def am_us (sh : Nat → am_S) (a : Nat) (S : am_S) : Nat → am_S := fun b => if b = a then S else sh b
def am_hm (h : am_H) (μ : Nat → Nat → Int32) : am_H := (h.1, h.2.1, h.2.2.1, μ)
def am_hs (h : am_H) (a : Nat) (S : am_S) : am_H := (h.1, h.2.1, am_us h.2.2.1 a S, h.2.2.2)
/-- a new cell, of n slots, all 0 or null -/
def am_hn (h : am_H) (n : Nat) (S : am_S) : am_H := (h.1 + 1, h.2.1 + n, am_us h.2.2.1 h.1 S, am_ur h.2.2.2 h.1 (fun _ => 0))
theorem am_ws_at {G : am_G} {h : am_H} {a : Nat} (ha : a < h.1) : (am_ws G h)[a]? = some (G.2.2.1 + a, am_c G (h.2.2.1 a) (h.2.2.2 a)) := by
  simp [am_ws, List.getElem?_map, List.getElem?_range ha]
theorem am_ws_len {G : am_G} {h : am_H} : (am_ws G h).length = h.1 := by simp [am_ws]
theorem am_ws_set {G : am_G} {h : am_H} {a : Nat} {S : am_S} {f : Nat → Int32} (ha : a < h.1) : (am_ws G h).set a (G.2.2.1 + a, am_c G S f) = am_ws G (h.1, h.2.1, am_us h.2.2.1 a S, am_ur h.2.2.2 a f) := by
  refine List.ext_getElem? fun k => ?_
  by_cases hk : k = a
  · subst hk
    rw [List.getElem?_set_self (by rw [am_ws_len]; exact ha), am_ws_at (h := (h.1, h.2.1, am_us h.2.2.1 k S, am_ur h.2.2.2 k f)) ha]
    simp [am_us, am_ur]
  · rw [List.getElem?_set_ne (Ne.symm hk)]
    by_cases hl : k < h.1
    · rw [am_ws_at hl, am_ws_at (h := (h.1, h.2.1, am_us h.2.2.1 a S, am_ur h.2.2.2 a f)) hl]
      simp [am_us, am_ur, hk]
    · rw [List.getElem?_eq_none (by rw [am_ws_len]; omega), List.getElem?_eq_none (by rw [am_ws_len]; show h.1 ≤ k; omega)]
theorem am_us_self (sh : Nat → am_S) (a : Nat) : am_us sh a (sh a) = sh := by
  funext b
  by_cases h : b = a
  · subst h; simp [am_us]
  · simp [am_us, h]
theorem am_ur_self (μ : Nat → Nat → Int32) (a : Nat) : am_ur μ a (μ a) = μ := by
  funext b
  by_cases h : b = a
  · subst h; simp [am_ur]
  · simp [am_ur, h]
theorem am_ws_push {G : am_G} {h : am_H} {n : Nat} {S : am_S} : am_ws G (am_hn h n S) = am_ws G h ++ [(G.2.2.1 + h.1, am_c G S (fun _ => 0))] := by
  refine List.ext_getElem? fun k => ?_
  by_cases hl : k < h.1
  · rw [List.getElem?_append_left (by rw [am_ws_len]; exact hl), am_ws_at hl, am_ws_at (h := am_hn h n S) (show k < h.1 + 1 by omega)]
    have : ¬ k = h.1 := by omega
    simp [am_hn, am_us, am_ur, this]
  · rw [List.getElem?_append_right (by rw [am_ws_len]; omega), am_ws_len]
    by_cases hk : k = h.1
    · subst hk
      rw [am_ws_at (h := am_hn h n S) (show h.1 < h.1 + 1 by omega)]
      simp [am_hn, am_us, am_ur]
    · rw [List.getElem?_eq_none (by rw [am_ws_len]; show h.1 + 1 ≤ k; omega), List.getElem?_eq_none (by simp; omega)]
theorem am_ws_D {G : am_G} {h : am_H} : va_D (am_A G) (am_ws G h) := by
  have key : ∀ (k : Nat) (q : Nat × va_E), (am_ws G h)[k]? = some q → q.1 = G.2.2.1 + k := by
    intro k q hk
    have hl : k < h.1 := by
      have := (List.getElem?_eq_some_iff.mp hk).1
      rwa [am_ws_len] at this
    rw [am_ws_at hl] at hk
    cases hk
    rfl
  refine ⟨fun i j p q hi hj e => ?_, fun k q hk => ?_⟩
  · have h1 := key i p hi
    have h2 := key j q hj
    omega
  · show G.2.2.1 ≤ q.1
    rw [key k q hk]
    omega
/-- what holds of the tables all the time: words that may travel, words of nest mates -/
def am_Tg : List Cond := lw_tbl.filter goodWord
def am_nwq (w : Cond) : Bool := match w with
  | .fieldLinkNest _ _ _ _ _ _ => true
  | .methodLinkNest _ _ _ _ => true
  | _ => false
def am_nw : List Cond := tables_1.filter am_nwq
theorem am_Tg_good {ws : List Cond} (h : ∀ w ∈ ws, w ∈ am_Tg) : GoodIn am_Tg ws := fun w hw => ⟨h w hw, good_of_word (List.mem_filter.mp (h w hw)).2⟩
theorem am_nw_warm {s U : State} (hW : s.WarmedH U.vm) (h : ∀ w ∈ am_nw, va_Nw w s) : ∀ w ∈ am_nw, va_Nw w U := by
  intro w hw
  have h1 := h w hw
  have h2 := (List.mem_filter.mp hw).2
  unfold am_nwq at h2
  split at h2
  · exact va_Nw.warmF hW h1
  · exact va_Nw.warmM hW h1
  · cases h2
/-- constants: const 0 the script; 1 KIND_ABOVE, 2 SEA_LEAST, 3 SEA_MOST; 4 .. 9 the texts, 10 .. 15 their bytes; 16 a formatter -/
def am_kb : List (List Int32) := [[108, 105, 102, 116], [115, 108, 105, 100, 101], [109, 97, 114, 107], [104, 115, 112], [100, 103], [99, 104]]
def am_KA (G : am_G) (k : Nat) : Option (FieldType × Nat × (Nat → Int32)) := match k with
  | 0 => some (.int, G.2.2.2.2.1, G.2.2.2.2.2)
  | 1 => some (.int, 6, fun j => ([-1, 0, 0, 1, 2, 0] : List Int32).getD j 0)
  | 2 => some (.int, 4, fun j => ([0, 0, 0, 1] : List Int32).getD j 0)
  | 3 => some (.int, 4, fun j => ([11, 9, 11, 20] : List Int32).getD j 0)
  | 10 => some (.byte, 4, fun j => (am_kb.getD 0 []).getD j 0)
  | 11 => some (.byte, 5, fun j => (am_kb.getD 1 []).getD j 0)
  | 12 => some (.byte, 4, fun j => (am_kb.getD 2 []).getD j 0)
  | 13 => some (.byte, 3, fun j => (am_kb.getD 3 []).getD j 0)
  | 14 => some (.byte, 2, fun j => (am_kb.getD 4 []).getD j 0)
  | 15 => some (.byte, 2, fun j => (am_kb.getD 5 []).getD j 0)
  | _ => none
/-- a static field: class, name, descriptor, what it holds -/
def am_KZ : List (String × String × String × Value) := [("SandRipples", "KIND_ABOVE", "[I", .retAddr 1), ("SandRipples", "SEA_LEAST", "[I", .retAddr 2), ("SandRipples", "SEA_MOST", "[I", .retAddr 3), ("java/lang/String", "COMPACT_STRINGS", "Z", .int 1), ("jdk/internal/util/Preconditions", "SIOOBE_FORMATTER", "Ljava/util/function/BiFunction;", .retAddr 16)]
/-- a text: its entry in the Reader's file, its words, its constant -/
def am_KS : List (Nat × String × Nat) := [(120, "lift", 4), (122, "slide", 5), (124, "mark", 6), (126, "hsp", 7), (128, "dg", 8), (130, "ch", 9)]
def am_W (G : am_G) (U : State) : Prop :=
  va_K G.1 vwCl (am_tys G) U ∧ (∀ w ∈ am_nw, va_Nw w U) ∧ G.2.2.1 ≤ U.heap.size ∧ (∀ k, (G.2.2.2.1 k).category = 1 ∧ (G.2.2.2.1 k = .null ∨ ∃ a, G.2.2.2.1 k = .ref a)) ∧
  (∀ k q, am_KA G k = some q → ∃ t, G.2.2.2.1 k = .ref t ∧ va_T q.1 t q.2.1 (fun j => .int (q.2.2 j)) (am_A G) U U.heap) ∧
  (∀ q ∈ am_KZ, va_Z q.1 q.2.1 q.2.2.1 (am_tr G q.2.2.2) (am_A G) U U.heap) ∧
  (∀ q ∈ am_KS, ∃ t, G.2.2.2.1 q.2.2 = .ref t ∧ vk_R "SandRipples$Reader" q.1 q.2.1 t U ∧ va_O "java/lang/String" t (am_A G) U U.heap ∧ va_OF "java/lang/String" "coder" "B" (.int 0) t (am_A G) U U.heap ∧ va_OF "java/lang/String" "value" "[B" (am_tr G (.retAddr (q.2.2 + 6))) t (am_A G) U U.heap) ∧
  (∀ C ∈ (["SandRipples$Floor", "SandRipples$Text", "SandRipples$Sheet", "SandRipples$Slot"] : List String), va_AO C U)
/-- the same words at a state whose tables are as warm, and whose heap below the first address is the same -/
theorem am_W.move {G : am_G} {s U : State} (h : am_W G s) (hW : s.WarmedH U.vm) (hz : s.heap.size ≤ U.heap.size) (hq : ∀ a : Nat, a < s.heap.size → ¬ am_A G a → U.heap[a]? = s.heap[a]?) : am_W G U := by
  obtain ⟨h1, h2, h3, h4, h5, h6, h7, h8⟩ := h
  have hv := hW.alike
  refine ⟨va_K.moved hv h1, am_nw_warm hW h2, Nat.le_trans h3 hz, h4, fun k q hk => ?_, fun q hk => ((h6 q hk).kept hq).moved hv, fun q hk => ?_, fun C hC => (h8 C hC).moved hv⟩
  · obtain ⟨t, a, b⟩ := h5 k q hk
    exact ⟨t, a, (b.kept hq).moved hv⟩
  · obtain ⟨t, a, b, c, d, e⟩ := h7 q hk
    exact ⟨t, a, b.warm hW, (c.kept hq).moved hv, (d.kept hq).moved hv, (e.kept hq).moved hv⟩
theorem am_W.calling {G : am_G} {U : State} {g : JFrame} {mk : MethodId} {a : Array Value} (h : am_W G U) : am_W G (U.calling g mk a) := by
  obtain ⟨h1, h2, h3, h4, h5, h6, h7, h8⟩ := h
  have hv : U.vm.Alike (U.calling g mk a).vm := Vm.Alike.refl U.vm
  have hvm : (U.calling g mk a).vm = U.vm := rfl
  refine ⟨va_K.moved hv h1, fun w hw => ?_, h3, h4, fun k q hk => ?_, fun q hk => (h6 q hk).moved hv, fun q hk => ?_, fun C hC => (h8 C hC).moved hv⟩
  · have h9 := (List.mem_filter.mp hw).2
    refine va_Nw.same ?_ hvm.symm (h2 w hw)
    unfold am_nwq at h9
    split at h9
    · rfl
    · rfl
    · cases h9
  · obtain ⟨t, a, b⟩ := h5 k q hk
    exact ⟨t, a, b.moved hv⟩
  · obtain ⟨t, a, b, c, d, e⟩ := h7 q hk
    exact ⟨t, a, b.same hvm, c.moved hv, d.moved hv, e.moved hv⟩
theorem am_cat {G : am_G} {U : State} (h : am_W G U) (v : Value) : (am_tr G v).category = v.category := by
  cases v <;> first | rfl | exact (h.2.2.2.1 _).1
def am_Hp (G : am_G) (h : am_H) (H : Heap) : Prop := va_P G.1 vwCl (am_ws G h) H
def am_lv (G : am_G) (L : List (Nat × Value)) : List (Nat × Value) := L.map (fun q => (q.1, am_tr G q.2))
/-- what a return leaves, and by which instruction -/
def am_isR (ret : Option FieldType) (ins : Instr) (v : Option Value) : Prop := match v with
  | none => ins = .return_ ∧ ret = none
  | some (.int x) => ins = .ireturn ∧ ∃ ty, ret = some ty ∧ narrow ty (.int x) = .int x
  | some (.long _) => ins = .lreturn ∧ ret = some .long
  | some (.ref _) => ins = .areturn ∧ ∃ ty, ret = some ty ∧ ((∃ n, ty = .object n) ∨ ∃ t, ty = .array t)
  | some (.retAddr _) => ins = .areturn ∧ ∃ ty, ret = some ty ∧ ((∃ n, ty = .object n) ∨ ∃ t, ty = .array t)
  | _ => False
def am_At (M : am_M) (G : am_G) (p : Program) (R : Room) (s : State) (m : MethodId) (args : Array Value) (meth : Method) (c : Code) : Prop :=
  p.tables.exec = Jvm.exec ∧ c.code = M.2.1 ∧ meth.sig.returnType = M.2.2.2.1 ∧ c.maxLocals = M.2.2.1 ∧ s.vm.findClass M.1.cls = some m.cls ∧ (∀ w ∈ am_Tg, w.before args s = true) ∧ meth.locks = false ∧ (M.1.name = "<init>" → meth.name = "<init>") ∧ am_W G s ∧ M.2.2.2.2 ≤ R.frames ∧ 39 * M.2.2.2.2 ≤ R.locals
def am_Ev (X : Nat × (Nat → Int32)) (M : am_M) (pc : Nat) (L : List (Nat × Value)) (S : List Value) (h : am_H) (r : am_H × Option Value) : Prop :=
  ∀ (G : am_G) (p : Program) (l : Launch) (e : Env) (R : Room) (s : State) (m : MethodId) (args : Array Value) (below : List Frame) (meth : Method) (c : Code) (Q : State → Prop) (n0 s0 : Nat) (H : Heap) (locs : List Loc) (cells slots : Nat) (ls : Array Slot),
  am_At M G p R s m args meth c → G.2.2.2.2 = X → s.heap.size = G.2.2.1 + n0 → r.1.1 ≤ n0 + R.cells → r.1.2.1 ≤ s0 + R.slots →
  (∀ (H' : Heap) (locs' : List Loc) (pc' : Nat) (ls' : Array Slot) (ins : Instr), decode M.2.1 pc' = .ok (ins, 1) → am_isR M.2.2.2.1 ins r.2 → am_Hp G r.1 H' → va_S (am_A G) s.heap H' locs' → W p l e R s m args below meth c H' locs' (r.1.1 - n0) (r.1.2.1 - s0) Q (F0 m pc' ls' (r.2.toList.map (am_tr G)))) →
  n0 + cells = h.1 → s0 + slots = h.2.1 → am_Hp G h H → va_S (am_A G) s.heap H locs → lv_has ls M.2.2.1 (am_lv G L) →
  W p l e R s m args below meth c H locs cells slots Q (F0 m pc ls (S.map (am_tr G)))

theorem am_lv_at {G : am_G} {ls : Array Slot} {nL : Nat} {L : List (Nat × Value)} (hl : lv_has ls nL (am_lv G L)) (k : Nat) {i : Nat} {v : Value} (hk : L[k]? = some (i, v)) : ls[i]? = some (.val (am_tr G v)) := lv_at hl k (by simp [am_lv, List.getElem?_map, hk])
theorem am_lv_f {G : am_G} {U : State} (hW : am_W G U) (L : List (Nat × Value)) (i : Nat) : (am_lv G L).filter (fun q => !(q.1 == i) && !(q.1 + 1 == i && q.2.category == 2)) = am_lv G (L.filter (fun q => !(q.1 == i) && !(q.1 + 1 == i && q.2.category == 2))) := by
  induction L with
  | nil => rfl
  | cons q L ih =>
    show List.filter _ ((q.1, am_tr G q.2) :: am_lv G L) = _
    rw [List.filter_cons, List.filter_cons]
    simp only [am_cat hW]
    split
    · rw [ih]; rfl
    · exact ih
theorem am_lv_f2 {G : am_G} {U : State} (hW : am_W G U) (L : List (Nat × Value)) (i : Nat) : (am_lv G L).filter (fun q => !(q.1 == i) && (!(q.1 == i + 1) && !(q.1 + 1 == i && q.2.category == 2))) = am_lv G (L.filter (fun q => !(q.1 == i) && (!(q.1 == i + 1) && !(q.1 + 1 == i && q.2.category == 2)))) := by
  induction L with
  | nil => rfl
  | cons q L ih =>
    show List.filter _ ((q.1, am_tr G q.2) :: am_lv G L) = _
    rw [List.filter_cons, List.filter_cons]
    simp only [am_cat hW]
    split
    · rw [ih]; rfl
    · exact ih
theorem am_lv_args {G : am_G} {U : State} (hW : am_W G U) (vs : List Value) : ∀ i, lv_args i (vs.map (am_tr G)) = am_lv G (lv_args i vs) := by
  induction vs with
  | nil => intro i; rfl
  | cons v vs ih =>
    intro i
    show (i, am_tr G v) :: lv_args _ (vs.map (am_tr G)) = _
    rw [ih, am_cat hW]
    rfl
theorem am_sl_len {G : am_G} {U : State} (hW : am_W G U) (vs : List Value) : (lg_sl (vs.map (am_tr G))).length = (lg_sl vs).length := by
  induction vs with
  | nil => rfl
  | cons v vs ih =>
    simp only [lg_sl, List.map_cons, List.flatMap_cons, List.length_append] at ih ⊢
    rw [ih, am_cat hW]
    split <;> rfl
theorem am_rest {G : am_G} {U : State} (hW : am_W G U) (S : List Value) : ((S.map (am_tr G)).map fun v => v.category) = S.map fun v => v.category := by
  rw [List.map_map]
  exact List.map_congr_left fun v _ => am_cat hW v
theorem am_pt {D : va_G} {cl : List vw_C} {ws : va_W} {H : Heap} (h : va_P D cl ws H) {k : Nat} {q : Nat × va_E} (hk : ws[k]? = some q) : va_at D cl q H := h k q hk
section AM
variable {X : Nat × (Nat → Int32)} {M : am_M} {pc : Nat} {L : List (Nat × Value)} {S : List Value} {h : am_H} {r : am_H × Option Value}
/-- fewer listed locals, in any order -/
theorem ev_loc {L' : List (Nat × Value)} (ks : List Nat) (hL : lv_pick L ks = L') (kk : am_Ev X M pc L' S h r) : am_Ev X M pc L S h r := by
  intro G p l e R s m args below meth c Q n0 s0 H locs cells slots ls At hX hz hr1 hr2 hret hc hs hp hS hl
  refine kk G p l e R s m args below meth c Q n0 s0 H locs cells slots ls At hX hz hr1 hr2 hret hc hs hp hS (lv_sub hl ks ?_)
  rw [← hL]
  simp only [lv_pick, am_lv]
  rw [List.map_filterMap]
  congr 1
  funext k
  rw [List.getElem?_map]
theorem ev_iconst {n : Int} {v : Int32} (hd : decode M.2.1 pc = .ok (.iconst n, 1)) (hv : Int32.ofInt n = v) (kk : am_Ev X M (pc + 1) L (.int v :: S) h r) : am_Ev X M pc L (S) h r := by
  intro G p l e R s m args below meth c Q n0 s0 H locs cells slots ls At hX hz hr1 hr2 hret hc hs hp hS hl
  exact lv_iconst At.1 At.2.1 hd hv (kk G p l e R s m args below meth c Q n0 s0 H locs cells slots ls At hX hz hr1 hr2 hret hc hs hp hS hl)
theorem ev_bipush {n : Int} {v : Int32} (hd : decode M.2.1 pc = .ok (.bipush n, 2)) (hv : (Int8.ofInt n).toInt32 = v) (kk : am_Ev X M (pc + 2) L (.int v :: S) h r) : am_Ev X M pc L (S) h r := by
  intro G p l e R s m args below meth c Q n0 s0 H locs cells slots ls At hX hz hr1 hr2 hret hc hs hp hS hl
  exact lv_bipush At.1 At.2.1 hd hv (kk G p l e R s m args below meth c Q n0 s0 H locs cells slots ls At hX hz hr1 hr2 hret hc hs hp hS hl)
theorem ev_sipush {n : Int} {v : Int32} (hd : decode M.2.1 pc = .ok (.sipush n, 3)) (hv : (Int16.ofInt n).toInt32 = v) (kk : am_Ev X M (pc + 3) L (.int v :: S) h r) : am_Ev X M pc L (S) h r := by
  intro G p l e R s m args below meth c Q n0 s0 H locs cells slots ls At hX hz hr1 hr2 hret hc hs hp hS hl
  exact lv_sipush At.1 At.2.1 hd hv (kk G p l e R s m args below meth c Q n0 s0 H locs cells slots ls At hX hz hr1 hr2 hret hc hs hp hS hl)
theorem ev_lconst {n : Fin 2} {v : Int64} (hd : decode M.2.1 pc = .ok (.lconst n, 1)) (hv : Int64.ofNat (n : Nat) = v) (kk : am_Ev X M (pc + 1) L (.long v :: S) h r) : am_Ev X M pc L (S) h r := by
  intro G p l e R s m args below meth c Q n0 s0 H locs cells slots ls At hX hz hr1 hr2 hret hc hs hp hS hl
  exact lv_lconst At.1 At.2.1 hd hv (kk G p l e R s m args below meth c Q n0 s0 H locs cells slots ls At hX hz hr1 hr2 hret hc hs hp hS hl)
theorem ev_ldc {idx : Nat} {v : Int32} (hd : decode M.2.1 pc = .ok (.ldc idx, 2)) (hw : Cond.constant M.1.cls idx v ∈ am_Tg) (kk : am_Ev X M (pc + 2) L (.int v :: S) h r) : am_Ev X M pc L (S) h r := by
  intro G p l e R s m args below meth c Q n0 s0 H locs cells slots ls At hX hz hr1 hr2 hret hc hs hp hS hl
  exact lv_ldc At.1 At.2.1 At.2.2.2.2.1 (At.2.2.2.2.2.1 _ hw) hd (kk G p l e R s m args below meth c Q n0 s0 H locs cells slots ls At hX hz hr1 hr2 hret hc hs hp hS hl)
theorem ev_ldcw {idx : Nat} {v : Int32} (hd : decode M.2.1 pc = .ok (.ldc_w idx, 3)) (hw : Cond.constant M.1.cls idx v ∈ am_Tg) (kk : am_Ev X M (pc + 3) L (.int v :: S) h r) : am_Ev X M pc L (S) h r := by
  intro G p l e R s m args below meth c Q n0 s0 H locs cells slots ls At hX hz hr1 hr2 hret hc hs hp hS hl
  exact lv_ldcw At.1 At.2.1 At.2.2.2.2.1 (At.2.2.2.2.2.1 _ hw) hd (kk G p l e R s m args below meth c Q n0 s0 H locs cells slots ls At hX hz hr1 hr2 hret hc hs hp hS hl)
theorem ev_ldcS {idx k : Nat} {tx : String} (hd : decode M.2.1 pc = .ok (.ldc idx, 2)) (hM : M.1.cls = "SandRipples$Reader") (hw : (idx, tx, k) ∈ am_KS) (kk : am_Ev X M (pc + 2) L (.retAddr k :: S) h r) : am_Ev X M pc L S h r := by
  intro G p l e R s m args below meth c Q n0 s0 H locs cells slots ls At hX hz hr1 hr2 hret hc hs hp hS hl
  obtain ⟨t, e1, e2, -⟩ := At.2.2.2.2.2.2.2.2.1.2.2.2.2.2.2.1 _ hw
  have k2 := (kk G p l e R s m args below meth c Q n0 s0 H locs cells slots ls At hX hz hr1 hr2 hret hc hs hp hS hl)
  have e3 : am_tr G (.retAddr k) = .ref t := e1
  rw [List.map_cons, e3] at k2
  exact va_ldcS At.1 At.2.1 At.2.2.2.2.1 (by rw [hM]; exact e2) hd k2
theorem ev_iload_n {j : Fin 4} {x : Int32} (hd : decode M.2.1 pc = .ok (.iload_n j, 1)) (k : Nat) (hk : L[k]? = some ((j : Nat), .int x)) (kk : am_Ev X M (pc + 1) L (.int x :: S) h r) : am_Ev X M pc L S h r := by
  intro G p l e R s m args below meth c Q n0 s0 H locs cells slots ls At hX hz hr1 hr2 hret hc hs hp hS hl
  exact lv_iload_n At.1 At.2.1 hd rfl (am_lv_at hl k hk) (kk G p l e R s m args below meth c Q n0 s0 H locs cells slots ls At hX hz hr1 hr2 hret hc hs hp hS hl)
theorem ev_iload {i : Nat} {x : Int32} (hd : decode M.2.1 pc = .ok (.iload i, 2)) (k : Nat) (hk : L[k]? = some (i, .int x)) (kk : am_Ev X M (pc + 2) L (.int x :: S) h r) : am_Ev X M pc L S h r := by
  intro G p l e R s m args below meth c Q n0 s0 H locs cells slots ls At hX hz hr1 hr2 hret hc hs hp hS hl
  exact lv_iload At.1 At.2.1 hd (am_lv_at hl k hk) (kk G p l e R s m args below meth c Q n0 s0 H locs cells slots ls At hX hz hr1 hr2 hret hc hs hp hS hl)
theorem ev_lload_n {j : Fin 4} {x : Int64} (hd : decode M.2.1 pc = .ok (.lload_n j, 1)) (k : Nat) (hk : L[k]? = some ((j : Nat), .long x)) (kk : am_Ev X M (pc + 1) L (.long x :: S) h r) : am_Ev X M pc L S h r := by
  intro G p l e R s m args below meth c Q n0 s0 H locs cells slots ls At hX hz hr1 hr2 hret hc hs hp hS hl
  exact lv_lload_n At.1 At.2.1 hd rfl (am_lv_at hl k hk) (kk G p l e R s m args below meth c Q n0 s0 H locs cells slots ls At hX hz hr1 hr2 hret hc hs hp hS hl)
theorem ev_lload {i : Nat} {x : Int64} (hd : decode M.2.1 pc = .ok (.lload i, 2)) (k : Nat) (hk : L[k]? = some (i, .long x)) (kk : am_Ev X M (pc + 2) L (.long x :: S) h r) : am_Ev X M pc L S h r := by
  intro G p l e R s m args below meth c Q n0 s0 H locs cells slots ls At hX hz hr1 hr2 hret hc hs hp hS hl
  exact lv_lload At.1 At.2.1 hd (am_lv_at hl k hk) (kk G p l e R s m args below meth c Q n0 s0 H locs cells slots ls At hX hz hr1 hr2 hret hc hs hp hS hl)
def am_isA (v : Value) : Prop := match v with
  | .ref _ => True
  | .retAddr _ => True
  | .null => True
  | _ => False
theorem am_isA_tr {G : am_G} {U : State} (hW : am_W G U) {v : Value} (hv : am_isA v) : am_tr G v = .null ∨ ∃ a, am_tr G v = .ref a := by
  cases v <;> first | exact Or.inl rfl | exact Or.inr ⟨_, rfl⟩ | exact (hW.2.2.2.1 _).2 | exact hv.elim
theorem ev_aload_n {j : Fin 4} {v : Value} (hd : decode M.2.1 pc = .ok (.aload_n j, 1)) (k : Nat) (hk : L[k]? = some ((j : Nat), v)) (hv : am_isA v) (kk : am_Ev X M (pc + 1) L (v :: S) h r) : am_Ev X M pc L S h r := by
  intro G p l e R s m args below meth c Q n0 s0 H locs cells slots ls At hX hz hr1 hr2 hret hc hs hp hS hl
  have k1 := am_lv_at hl k hk
  have k2 := (kk G p l e R s m args below meth c Q n0 s0 H locs cells slots ls At hX hz hr1 hr2 hret hc hs hp hS hl)
  rw [List.map_cons] at k2
  rcases am_isA_tr At.2.2.2.2.2.2.2.2.1 hv with e0 | ⟨a, e0⟩
  · rw [e0] at k1 k2
    exact lv_aload_nN At.1 At.2.1 hd rfl k1 k2
  · rw [e0] at k1 k2
    exact lv_aload_n At.1 At.2.1 hd rfl k1 k2
theorem ev_aload {i : Nat} {v : Value} (hd : decode M.2.1 pc = .ok (.aload i, 2)) (k : Nat) (hk : L[k]? = some (i, v)) (hv : am_isA v) (kk : am_Ev X M (pc + 2) L (v :: S) h r) : am_Ev X M pc L S h r := by
  intro G p l e R s m args below meth c Q n0 s0 H locs cells slots ls At hX hz hr1 hr2 hret hc hs hp hS hl
  have k1 := am_lv_at hl k hk
  have k2 := (kk G p l e R s m args below meth c Q n0 s0 H locs cells slots ls At hX hz hr1 hr2 hret hc hs hp hS hl)
  rw [List.map_cons] at k2
  rcases am_isA_tr At.2.2.2.2.2.2.2.2.1 hv with e0 | ⟨a, e0⟩
  · rw [e0] at k1 k2
    exact lv_aloadN At.1 At.2.1 hd k1 k2
  · rw [e0] at k1 k2
    exact lv_aload At.1 At.2.1 hd k1 k2
theorem ev_istore_n {j : Fin 4} {x : Int32} {L' : List (Nat × Value)} (hd : decode M.2.1 pc = .ok (.istore_n j, 1)) (hn : (j : Nat) < M.2.2.1) (hL : ((j : Nat), Value.int x) :: L.filter (fun q => !(q.1 == (j : Nat)) && !(q.1 + 1 == (j : Nat) && q.2.category == 2)) = L') (kk : am_Ev X M (pc + 1) L' S h r) : am_Ev X M pc L (.int x :: S) h r := by
  intro G p l e R s m args below meth c Q n0 s0 H locs cells slots ls At hX hz hr1 hr2 hret hc hs hp hS hl
  refine lv_istore_n At.1 At.2.1 hd rfl hl hn (lv' := am_lv G L') ?_ (fun ls' hl' => (kk G p l e R s m args below meth c Q n0 s0 H locs cells slots ls' At hX hz hr1 hr2 hret hc hs hp hS hl'))
  rw [← hL, am_lv_f At.2.2.2.2.2.2.2.2.1]; rfl
theorem ev_istore {i : Nat} {x : Int32} {L' : List (Nat × Value)} (hd : decode M.2.1 pc = .ok (.istore i, 2)) (hn : i < M.2.2.1) (hL : (i, Value.int x) :: L.filter (fun q => !(q.1 == i) && !(q.1 + 1 == i && q.2.category == 2)) = L') (kk : am_Ev X M (pc + 2) L' S h r) : am_Ev X M pc L (.int x :: S) h r := by
  intro G p l e R s m args below meth c Q n0 s0 H locs cells slots ls At hX hz hr1 hr2 hret hc hs hp hS hl
  refine lv_istore At.1 At.2.1 hd hl hn (lv' := am_lv G L') ?_ (fun ls' hl' => (kk G p l e R s m args below meth c Q n0 s0 H locs cells slots ls' At hX hz hr1 hr2 hret hc hs hp hS hl'))
  rw [← hL, am_lv_f At.2.2.2.2.2.2.2.2.1]; rfl
theorem ev_lstore_n {j : Fin 4} {x : Int64} {L' : List (Nat × Value)} (hd : decode M.2.1 pc = .ok (.lstore_n j, 1)) (hn : (j : Nat) + 1 < M.2.2.1) (hL : ((j : Nat), Value.long x) :: L.filter (fun q => !(q.1 == (j : Nat)) && (!(q.1 == (j : Nat) + 1) && !(q.1 + 1 == (j : Nat) && q.2.category == 2))) = L') (kk : am_Ev X M (pc + 1) L' S h r) : am_Ev X M pc L (.long x :: S) h r := by
  intro G p l e R s m args below meth c Q n0 s0 H locs cells slots ls At hX hz hr1 hr2 hret hc hs hp hS hl
  refine lv_lstore_n At.1 At.2.1 hd rfl hl hn (lv' := am_lv G L') ?_ (fun ls' hl' => (kk G p l e R s m args below meth c Q n0 s0 H locs cells slots ls' At hX hz hr1 hr2 hret hc hs hp hS hl'))
  rw [← hL, am_lv_f2 At.2.2.2.2.2.2.2.2.1]; rfl
theorem ev_lstore {i : Nat} {x : Int64} {L' : List (Nat × Value)} (hd : decode M.2.1 pc = .ok (.lstore i, 2)) (hn : i + 1 < M.2.2.1) (hL : (i, Value.long x) :: L.filter (fun q => !(q.1 == i) && (!(q.1 == i + 1) && !(q.1 + 1 == i && q.2.category == 2))) = L') (kk : am_Ev X M (pc + 2) L' S h r) : am_Ev X M pc L (.long x :: S) h r := by
  intro G p l e R s m args below meth c Q n0 s0 H locs cells slots ls At hX hz hr1 hr2 hret hc hs hp hS hl
  refine lv_lstore At.1 At.2.1 hd hl hn (lv' := am_lv G L') ?_ (fun ls' hl' => (kk G p l e R s m args below meth c Q n0 s0 H locs cells slots ls' At hX hz hr1 hr2 hret hc hs hp hS hl'))
  rw [← hL, am_lv_f2 At.2.2.2.2.2.2.2.2.1]; rfl
theorem ev_astore_n {j : Fin 4} {v : Value} {L' : List (Nat × Value)} (hd : decode M.2.1 pc = .ok (.astore_n j, 1)) (hv : am_isA v) (hn : (j : Nat) < M.2.2.1) (hL : ((j : Nat), v) :: L.filter (fun q => !(q.1 == (j : Nat)) && !(q.1 + 1 == (j : Nat) && q.2.category == 2)) = L') (kk : am_Ev X M (pc + 1) L' S h r) : am_Ev X M pc L (v :: S) h r := by
  intro G p l e R s m args below meth c Q n0 s0 H locs cells slots ls At hX hz hr1 hr2 hret hc hs hp hS hl
  have hL2 : ((j : Nat), am_tr G v) :: (am_lv G L).filter (fun q => !(q.1 == (j : Nat)) && !(q.1 + 1 == (j : Nat) && q.2.category == 2)) = am_lv G L' := by
    rw [← hL, am_lv_f At.2.2.2.2.2.2.2.2.1]; rfl
  rw [List.map_cons]
  rcases am_isA_tr At.2.2.2.2.2.2.2.2.1 hv with e0 | ⟨a, e0⟩
  · rw [e0] at hL2 ⊢
    exact lv_astore_nN At.1 At.2.1 hd rfl hl hn hL2 (fun ls' hl' => (kk G p l e R s m args below meth c Q n0 s0 H locs cells slots ls' At hX hz hr1 hr2 hret hc hs hp hS hl'))
  · rw [e0] at hL2 ⊢
    exact lv_astore_n At.1 At.2.1 hd rfl hl hn hL2 (fun ls' hl' => (kk G p l e R s m args below meth c Q n0 s0 H locs cells slots ls' At hX hz hr1 hr2 hret hc hs hp hS hl'))
theorem ev_astore {i : Nat} {v : Value} {L' : List (Nat × Value)} (hd : decode M.2.1 pc = .ok (.astore i, 2)) (hv : am_isA v) (hn : i < M.2.2.1) (hL : (i, v) :: L.filter (fun q => !(q.1 == i) && !(q.1 + 1 == i && q.2.category == 2)) = L') (kk : am_Ev X M (pc + 2) L' S h r) : am_Ev X M pc L (v :: S) h r := by
  intro G p l e R s m args below meth c Q n0 s0 H locs cells slots ls At hX hz hr1 hr2 hret hc hs hp hS hl
  have hL2 : (i, am_tr G v) :: (am_lv G L).filter (fun q => !(q.1 == i) && !(q.1 + 1 == i && q.2.category == 2)) = am_lv G L' := by
    rw [← hL, am_lv_f At.2.2.2.2.2.2.2.2.1]; rfl
  rw [List.map_cons]
  rcases am_isA_tr At.2.2.2.2.2.2.2.2.1 hv with e0 | ⟨a, e0⟩
  · rw [e0] at hL2 ⊢
    exact lv_astoreN At.1 At.2.1 hd hl hn hL2 (fun ls' hl' => (kk G p l e R s m args below meth c Q n0 s0 H locs cells slots ls' At hX hz hr1 hr2 hret hc hs hp hS hl'))
  · rw [e0] at hL2 ⊢
    exact lv_astore At.1 At.2.1 hd hl hn hL2 (fun ls' hl' => (kk G p l e R s m args below meth c Q n0 s0 H locs cells slots ls' At hX hz hr1 hr2 hret hc hs hp hS hl'))
theorem ev_iinc {i : Nat} {n : Int} {x v : Int32} {L' : List (Nat × Value)} (hd : decode M.2.1 pc = .ok (.iinc i n, 3)) (k : Nat) (hk : L[k]? = some (i, .int x)) (hv : x + Int32.ofInt n = v) (hn : i < M.2.2.1) (hL : (i, Value.int v) :: L.filter (fun q => !(q.1 == i) && !(q.1 + 1 == i && q.2.category == 2)) = L') (kk : am_Ev X M (pc + 3) L' S h r) : am_Ev X M pc L S h r := by
  intro G p l e R s m args below meth c Q n0 s0 H locs cells slots ls At hX hz hr1 hr2 hret hc hs hp hS hl
  refine lv_iinc At.1 At.2.1 hd hl (k := k) (x := x) (by simp [am_lv, List.getElem?_map, hk, am_tr]) hv hn (lv' := am_lv G L') ?_ (fun ls' hl' => (kk G p l e R s m args below meth c Q n0 s0 H locs cells slots ls' At hX hz hr1 hr2 hret hc hs hp hS hl'))
  rw [← hL, am_lv_f At.2.2.2.2.2.2.2.2.1]; rfl
theorem ev_iadd {x y : Int32} (hd : decode M.2.1 pc = .ok (.iadd, 1))  (kk : am_Ev X M (pc + 1) L (.int (x + y) :: S) h r) : am_Ev X M pc L (.int y :: .int x :: S) h r := by
  intro G p l e R s m args below meth c Q n0 s0 H locs cells slots ls At hX hz hr1 hr2 hret hc hs hp hS hl
  exact lv_iadd At.1 At.2.1 hd (kk G p l e R s m args below meth c Q n0 s0 H locs cells slots ls At hX hz hr1 hr2 hret hc hs hp hS hl)
theorem ev_isub {x y : Int32} (hd : decode M.2.1 pc = .ok (.isub, 1))  (kk : am_Ev X M (pc + 1) L (.int (x - y) :: S) h r) : am_Ev X M pc L (.int y :: .int x :: S) h r := by
  intro G p l e R s m args below meth c Q n0 s0 H locs cells slots ls At hX hz hr1 hr2 hret hc hs hp hS hl
  exact lv_isub At.1 At.2.1 hd (kk G p l e R s m args below meth c Q n0 s0 H locs cells slots ls At hX hz hr1 hr2 hret hc hs hp hS hl)
theorem ev_imul {x y : Int32} (hd : decode M.2.1 pc = .ok (.imul, 1))  (kk : am_Ev X M (pc + 1) L (.int (x * y) :: S) h r) : am_Ev X M pc L (.int y :: .int x :: S) h r := by
  intro G p l e R s m args below meth c Q n0 s0 H locs cells slots ls At hX hz hr1 hr2 hret hc hs hp hS hl
  exact lv_imul At.1 At.2.1 hd (kk G p l e R s m args below meth c Q n0 s0 H locs cells slots ls At hX hz hr1 hr2 hret hc hs hp hS hl)
theorem ev_iand {x y : Int32} (hd : decode M.2.1 pc = .ok (.iand, 1))  (kk : am_Ev X M (pc + 1) L (.int (x &&& y) :: S) h r) : am_Ev X M pc L (.int y :: .int x :: S) h r := by
  intro G p l e R s m args below meth c Q n0 s0 H locs cells slots ls At hX hz hr1 hr2 hret hc hs hp hS hl
  exact lv_iand At.1 At.2.1 hd (kk G p l e R s m args below meth c Q n0 s0 H locs cells slots ls At hX hz hr1 hr2 hret hc hs hp hS hl)
theorem ev_ior {x y : Int32} (hd : decode M.2.1 pc = .ok (.ior, 1))  (kk : am_Ev X M (pc + 1) L (.int (x ||| y) :: S) h r) : am_Ev X M pc L (.int y :: .int x :: S) h r := by
  intro G p l e R s m args below meth c Q n0 s0 H locs cells slots ls At hX hz hr1 hr2 hret hc hs hp hS hl
  exact lv_ior At.1 At.2.1 hd (kk G p l e R s m args below meth c Q n0 s0 H locs cells slots ls At hX hz hr1 hr2 hret hc hs hp hS hl)
theorem ev_ixor {x y : Int32} (hd : decode M.2.1 pc = .ok (.ixor, 1))  (kk : am_Ev X M (pc + 1) L (.int (x ^^^ y) :: S) h r) : am_Ev X M pc L (.int y :: .int x :: S) h r := by
  intro G p l e R s m args below meth c Q n0 s0 H locs cells slots ls At hX hz hr1 hr2 hret hc hs hp hS hl
  exact lv_ixor At.1 At.2.1 hd (kk G p l e R s m args below meth c Q n0 s0 H locs cells slots ls At hX hz hr1 hr2 hret hc hs hp hS hl)
theorem ev_ishl {x y : Int32} (hd : decode M.2.1 pc = .ok (.ishl, 1))  (kk : am_Ev X M (pc + 1) L (.int (x <<< (y &&& 31)) :: S) h r) : am_Ev X M pc L (.int y :: .int x :: S) h r := by
  intro G p l e R s m args below meth c Q n0 s0 H locs cells slots ls At hX hz hr1 hr2 hret hc hs hp hS hl
  exact lv_ishl At.1 At.2.1 hd (kk G p l e R s m args below meth c Q n0 s0 H locs cells slots ls At hX hz hr1 hr2 hret hc hs hp hS hl)
theorem ev_ishr {x y : Int32} (hd : decode M.2.1 pc = .ok (.ishr, 1))  (kk : am_Ev X M (pc + 1) L (.int (x >>> (y &&& 31)) :: S) h r) : am_Ev X M pc L (.int y :: .int x :: S) h r := by
  intro G p l e R s m args below meth c Q n0 s0 H locs cells slots ls At hX hz hr1 hr2 hret hc hs hp hS hl
  exact lv_ishr At.1 At.2.1 hd (kk G p l e R s m args below meth c Q n0 s0 H locs cells slots ls At hX hz hr1 hr2 hret hc hs hp hS hl)
theorem ev_idiv {x y : Int32} (hd : decode M.2.1 pc = .ok (.idiv, 1)) (hne : ¬ y = 0) (kk : am_Ev X M (pc + 1) L (.int (x / y) :: S) h r) : am_Ev X M pc L (.int y :: .int x :: S) h r := by
  intro G p l e R s m args below meth c Q n0 s0 H locs cells slots ls At hX hz hr1 hr2 hret hc hs hp hS hl
  exact lv_idiv At.1 At.2.1 hd hne (kk G p l e R s m args below meth c Q n0 s0 H locs cells slots ls At hX hz hr1 hr2 hret hc hs hp hS hl)
theorem ev_irem {x y : Int32} (hd : decode M.2.1 pc = .ok (.irem, 1)) (hne : ¬ y = 0) (kk : am_Ev X M (pc + 1) L (.int (x - x / y * y) :: S) h r) : am_Ev X M pc L (.int y :: .int x :: S) h r := by
  intro G p l e R s m args below meth c Q n0 s0 H locs cells slots ls At hX hz hr1 hr2 hret hc hs hp hS hl
  exact lv_irem At.1 At.2.1 hd hne (kk G p l e R s m args below meth c Q n0 s0 H locs cells slots ls At hX hz hr1 hr2 hret hc hs hp hS hl)
theorem ev_ladd {x y : Int64} (hd : decode M.2.1 pc = .ok (.ladd, 1))  (kk : am_Ev X M (pc + 1) L (.long (x + y) :: S) h r) : am_Ev X M pc L (.long y :: .long x :: S) h r := by
  intro G p l e R s m args below meth c Q n0 s0 H locs cells slots ls At hX hz hr1 hr2 hret hc hs hp hS hl
  exact lv_ladd At.1 At.2.1 hd (kk G p l e R s m args below meth c Q n0 s0 H locs cells slots ls At hX hz hr1 hr2 hret hc hs hp hS hl)
theorem ev_lsub {x y : Int64} (hd : decode M.2.1 pc = .ok (.lsub, 1))  (kk : am_Ev X M (pc + 1) L (.long (x - y) :: S) h r) : am_Ev X M pc L (.long y :: .long x :: S) h r := by
  intro G p l e R s m args below meth c Q n0 s0 H locs cells slots ls At hX hz hr1 hr2 hret hc hs hp hS hl
  exact lv_lsub At.1 At.2.1 hd (kk G p l e R s m args below meth c Q n0 s0 H locs cells slots ls At hX hz hr1 hr2 hret hc hs hp hS hl)
theorem ev_ineg {x : Int32} (hd : decode M.2.1 pc = .ok (.ineg, 1))  (kk : am_Ev X M (pc + 1) L (.int (-x) :: S) h r) : am_Ev X M pc L (.int x :: S) h r := by
  intro G p l e R s m args below meth c Q n0 s0 H locs cells slots ls At hX hz hr1 hr2 hret hc hs hp hS hl
  exact lv_ineg At.1 At.2.1 hd (kk G p l e R s m args below meth c Q n0 s0 H locs cells slots ls At hX hz hr1 hr2 hret hc hs hp hS hl)
theorem ev_lneg {x : Int64} (hd : decode M.2.1 pc = .ok (.lneg, 1))  (kk : am_Ev X M (pc + 1) L (.long (-x) :: S) h r) : am_Ev X M pc L (.long x :: S) h r := by
  intro G p l e R s m args below meth c Q n0 s0 H locs cells slots ls At hX hz hr1 hr2 hret hc hs hp hS hl
  exact lv_lneg At.1 At.2.1 hd (kk G p l e R s m args below meth c Q n0 s0 H locs cells slots ls At hX hz hr1 hr2 hret hc hs hp hS hl)
theorem ev_iushr {x y : Int32} (hd : decode M.2.1 pc = .ok (.iushr, 1))  (kk : am_Ev X M (pc + 1) L (.int ((x.toUInt32 >>> (y.toUInt32 &&& Int32.toUInt32 31)).toInt32) :: S) h r) : am_Ev X M pc L (.int y :: .int x :: S) h r := by
  intro G p l e R s m args below meth c Q n0 s0 H locs cells slots ls At hX hz hr1 hr2 hret hc hs hp hS hl
  exact lv_iushr At.1 At.2.1 hd rfl (kk G p l e R s m args below meth c Q n0 s0 H locs cells slots ls At hX hz hr1 hr2 hret hc hs hp hS hl)
theorem ev_i2l {x : Int32} (hd : decode M.2.1 pc = .ok (.i2l, 1))  (kk : am_Ev X M (pc + 1) L (.long x.toInt64 :: S) h r) : am_Ev X M pc L (.int x :: S) h r := by
  intro G p l e R s m args below meth c Q n0 s0 H locs cells slots ls At hX hz hr1 hr2 hret hc hs hp hS hl
  exact lv_i2l At.1 At.2.1 hd rfl (kk G p l e R s m args below meth c Q n0 s0 H locs cells slots ls At hX hz hr1 hr2 hret hc hs hp hS hl)
theorem ev_i2b {x : Int32} (hd : decode M.2.1 pc = .ok (.i2b, 1))  (kk : am_Ev X M (pc + 1) L (.int x.toInt8.toInt32 :: S) h r) : am_Ev X M pc L (.int x :: S) h r := by
  intro G p l e R s m args below meth c Q n0 s0 H locs cells slots ls At hX hz hr1 hr2 hret hc hs hp hS hl
  exact lv_i2b At.1 At.2.1 hd rfl (kk G p l e R s m args below meth c Q n0 s0 H locs cells slots ls At hX hz hr1 hr2 hret hc hs hp hS hl)
theorem ev_i2s {x : Int32} (hd : decode M.2.1 pc = .ok (.i2s, 1))  (kk : am_Ev X M (pc + 1) L (.int x.toInt16.toInt32 :: S) h r) : am_Ev X M pc L (.int x :: S) h r := by
  intro G p l e R s m args below meth c Q n0 s0 H locs cells slots ls At hX hz hr1 hr2 hret hc hs hp hS hl
  exact lv_i2s At.1 At.2.1 hd rfl (kk G p l e R s m args below meth c Q n0 s0 H locs cells slots ls At hX hz hr1 hr2 hret hc hs hp hS hl)
theorem ev_i2c {x : Int32} (hd : decode M.2.1 pc = .ok (.i2c, 1))  (kk : am_Ev X M (pc + 1) L (.int (x.toUInt32 % 65536).toInt32 :: S) h r) : am_Ev X M pc L (.int x :: S) h r := by
  intro G p l e R s m args below meth c Q n0 s0 H locs cells slots ls At hX hz hr1 hr2 hret hc hs hp hS hl
  exact lv_i2c At.1 At.2.1 hd rfl (kk G p l e R s m args below meth c Q n0 s0 H locs cells slots ls At hX hz hr1 hr2 hret hc hs hp hS hl)
theorem ev_lcmp {x y : Int64} (hd : decode M.2.1 pc = .ok (.lcmp, 1))  (kk : am_Ev X M (pc + 1) L (.int (lg_cmp x y) :: S) h r) : am_Ev X M pc L (.long y :: .long x :: S) h r := by
  intro G p l e R s m args below meth c Q n0 s0 H locs cells slots ls At hX hz hr1 hr2 hret hc hs hp hS hl
  exact W.lcmp At.1 At.2.1 hd (kk G p l e R s m args below meth c Q n0 s0 H locs cells slots ls At hX hz hr1 hr2 hret hc hs hp hS hl)
theorem ev_dup {v : Value} (hd : decode M.2.1 pc = .ok (.dup, 1)) (hv : v.category = 1) (kk : am_Ev X M (pc + 1) L (v :: v :: S) h r) : am_Ev X M pc L (v :: S) h r := by
  intro G p l e R s m args below meth c Q n0 s0 H locs cells slots ls At hX hz hr1 hr2 hret hc hs hp hS hl
  exact lv_dup At.1 At.2.1 hd ((am_cat At.2.2.2.2.2.2.2.2.1 v).trans hv) (kk G p l e R s m args below meth c Q n0 s0 H locs cells slots ls At hX hz hr1 hr2 hret hc hs hp hS hl)
theorem ev_pop {v : Value} (hd : decode M.2.1 pc = .ok (.pop, 1)) (hv : v.category = 1) (kk : am_Ev X M (pc + 1) L S h r) : am_Ev X M pc L (v :: S) h r := by
  intro G p l e R s m args below meth c Q n0 s0 H locs cells slots ls At hX hz hr1 hr2 hret hc hs hp hS hl
  exact lv_pop At.1 At.2.1 hd ((am_cat At.2.2.2.2.2.2.2.2.1 v).trans hv) (kk G p l e R s m args below meth c Q n0 s0 H locs cells slots ls At hX hz hr1 hr2 hret hc hs hp hS hl)
theorem ev_dup2 {v w : Value} (hd : decode M.2.1 pc = .ok (.dup2, 1)) (hv : v.category = 1) (hw : w.category = 1) (kk : am_Ev X M (pc + 1) L (v :: w :: v :: w :: S) h r) : am_Ev X M pc L (v :: w :: S) h r := by
  intro G p l e R s m args below meth c Q n0 s0 H locs cells slots ls At hX hz hr1 hr2 hret hc hs hp hS hl
  exact lv_dup2_11 At.1 At.2.1 hd ((am_cat At.2.2.2.2.2.2.2.2.1 v).trans hv) ((am_cat At.2.2.2.2.2.2.2.2.1 w).trans hw) (kk G p l e R s m args below meth c Q n0 s0 H locs cells slots ls At hX hz hr1 hr2 hret hc hs hp hS hl)
theorem ev_dup_x1 {v w : Value} (hd : decode M.2.1 pc = .ok (.dup_x1, 1)) (hv : v.category = 1) (hw : w.category = 1) (kk : am_Ev X M (pc + 1) L (v :: w :: v :: S) h r) : am_Ev X M pc L (v :: w :: S) h r := by
  intro G p l e R s m args below meth c Q n0 s0 H locs cells slots ls At hX hz hr1 hr2 hret hc hs hp hS hl
  exact lv_dup_x1 At.1 At.2.1 hd ((am_cat At.2.2.2.2.2.2.2.2.1 v).trans hv) ((am_cat At.2.2.2.2.2.2.2.2.1 w).trans hw) (kk G p l e R s m args below meth c Q n0 s0 H locs cells slots ls At hX hz hr1 hr2 hret hc hs hp hS hl)
theorem ev_if_eq {x : Int32} {off : Int} (tgt : Nat) (hd : decode M.2.1 pc = .ok (.ifCond .eq off, 3)) (ht : (pc : Int) + off = (tgt : Int)) (k1 : x = 0 → am_Ev X M tgt L S h r) (k2 : ¬ x = 0 → am_Ev X M (pc + 3) L S h r) : am_Ev X M pc L (.int x :: S) h r := by
  intro G p l e R s m args below meth c Q n0 s0 H locs cells slots ls At hX hz hr1 hr2 hret hc hs hp hS hl
  exact lv_if_eq At.1 At.2.1 hd ht (fun hcd => k1 hcd G p l e R s m args below meth c Q n0 s0 H locs cells slots ls At hX hz hr1 hr2 hret hc hs hp hS hl) (fun hcd => k2 hcd G p l e R s m args below meth c Q n0 s0 H locs cells slots ls At hX hz hr1 hr2 hret hc hs hp hS hl)
theorem ev_icmp_eq {x y : Int32} {off : Int} (tgt : Nat) (hd : decode M.2.1 pc = .ok (.if_icmp .eq off, 3)) (ht : (pc : Int) + off = (tgt : Int)) (k1 : x = y → am_Ev X M tgt L S h r) (k2 : ¬ x = y → am_Ev X M (pc + 3) L S h r) : am_Ev X M pc L (.int y :: .int x :: S) h r := by
  intro G p l e R s m args below meth c Q n0 s0 H locs cells slots ls At hX hz hr1 hr2 hret hc hs hp hS hl
  exact lv_icmp_eq At.1 At.2.1 hd ht (fun hcd => k1 hcd G p l e R s m args below meth c Q n0 s0 H locs cells slots ls At hX hz hr1 hr2 hret hc hs hp hS hl) (fun hcd => k2 hcd G p l e R s m args below meth c Q n0 s0 H locs cells slots ls At hX hz hr1 hr2 hret hc hs hp hS hl)
theorem ev_if_ne {x : Int32} {off : Int} (tgt : Nat) (hd : decode M.2.1 pc = .ok (.ifCond .ne off, 3)) (ht : (pc : Int) + off = (tgt : Int)) (k1 : ¬ x = 0 → am_Ev X M tgt L S h r) (k2 : x = 0 → am_Ev X M (pc + 3) L S h r) : am_Ev X M pc L (.int x :: S) h r := by
  intro G p l e R s m args below meth c Q n0 s0 H locs cells slots ls At hX hz hr1 hr2 hret hc hs hp hS hl
  exact lv_if_ne At.1 At.2.1 hd ht (fun hcd => k1 hcd G p l e R s m args below meth c Q n0 s0 H locs cells slots ls At hX hz hr1 hr2 hret hc hs hp hS hl) (fun hcd => k2 hcd G p l e R s m args below meth c Q n0 s0 H locs cells slots ls At hX hz hr1 hr2 hret hc hs hp hS hl)
theorem ev_icmp_ne {x y : Int32} {off : Int} (tgt : Nat) (hd : decode M.2.1 pc = .ok (.if_icmp .ne off, 3)) (ht : (pc : Int) + off = (tgt : Int)) (k1 : ¬ x = y → am_Ev X M tgt L S h r) (k2 : x = y → am_Ev X M (pc + 3) L S h r) : am_Ev X M pc L (.int y :: .int x :: S) h r := by
  intro G p l e R s m args below meth c Q n0 s0 H locs cells slots ls At hX hz hr1 hr2 hret hc hs hp hS hl
  exact lv_icmp_ne At.1 At.2.1 hd ht (fun hcd => k1 hcd G p l e R s m args below meth c Q n0 s0 H locs cells slots ls At hX hz hr1 hr2 hret hc hs hp hS hl) (fun hcd => k2 hcd G p l e R s m args below meth c Q n0 s0 H locs cells slots ls At hX hz hr1 hr2 hret hc hs hp hS hl)
theorem ev_if_lt {x : Int32} {off : Int} (tgt : Nat) (hd : decode M.2.1 pc = .ok (.ifCond .lt off, 3)) (ht : (pc : Int) + off = (tgt : Int)) (k1 : x < 0 → am_Ev X M tgt L S h r) (k2 : ¬ x < 0 → am_Ev X M (pc + 3) L S h r) : am_Ev X M pc L (.int x :: S) h r := by
  intro G p l e R s m args below meth c Q n0 s0 H locs cells slots ls At hX hz hr1 hr2 hret hc hs hp hS hl
  exact lv_if_lt At.1 At.2.1 hd ht (fun hcd => k1 hcd G p l e R s m args below meth c Q n0 s0 H locs cells slots ls At hX hz hr1 hr2 hret hc hs hp hS hl) (fun hcd => k2 hcd G p l e R s m args below meth c Q n0 s0 H locs cells slots ls At hX hz hr1 hr2 hret hc hs hp hS hl)
theorem ev_icmp_lt {x y : Int32} {off : Int} (tgt : Nat) (hd : decode M.2.1 pc = .ok (.if_icmp .lt off, 3)) (ht : (pc : Int) + off = (tgt : Int)) (k1 : x < y → am_Ev X M tgt L S h r) (k2 : ¬ x < y → am_Ev X M (pc + 3) L S h r) : am_Ev X M pc L (.int y :: .int x :: S) h r := by
  intro G p l e R s m args below meth c Q n0 s0 H locs cells slots ls At hX hz hr1 hr2 hret hc hs hp hS hl
  exact lv_icmp_lt At.1 At.2.1 hd ht (fun hcd => k1 hcd G p l e R s m args below meth c Q n0 s0 H locs cells slots ls At hX hz hr1 hr2 hret hc hs hp hS hl) (fun hcd => k2 hcd G p l e R s m args below meth c Q n0 s0 H locs cells slots ls At hX hz hr1 hr2 hret hc hs hp hS hl)
theorem ev_if_ge {x : Int32} {off : Int} (tgt : Nat) (hd : decode M.2.1 pc = .ok (.ifCond .ge off, 3)) (ht : (pc : Int) + off = (tgt : Int)) (k1 : 0 ≤ x → am_Ev X M tgt L S h r) (k2 : ¬ 0 ≤ x → am_Ev X M (pc + 3) L S h r) : am_Ev X M pc L (.int x :: S) h r := by
  intro G p l e R s m args below meth c Q n0 s0 H locs cells slots ls At hX hz hr1 hr2 hret hc hs hp hS hl
  exact lv_if_ge At.1 At.2.1 hd ht (fun hcd => k1 hcd G p l e R s m args below meth c Q n0 s0 H locs cells slots ls At hX hz hr1 hr2 hret hc hs hp hS hl) (fun hcd => k2 hcd G p l e R s m args below meth c Q n0 s0 H locs cells slots ls At hX hz hr1 hr2 hret hc hs hp hS hl)
theorem ev_icmp_ge {x y : Int32} {off : Int} (tgt : Nat) (hd : decode M.2.1 pc = .ok (.if_icmp .ge off, 3)) (ht : (pc : Int) + off = (tgt : Int)) (k1 : y ≤ x → am_Ev X M tgt L S h r) (k2 : ¬ y ≤ x → am_Ev X M (pc + 3) L S h r) : am_Ev X M pc L (.int y :: .int x :: S) h r := by
  intro G p l e R s m args below meth c Q n0 s0 H locs cells slots ls At hX hz hr1 hr2 hret hc hs hp hS hl
  exact lv_icmp_ge At.1 At.2.1 hd ht (fun hcd => k1 hcd G p l e R s m args below meth c Q n0 s0 H locs cells slots ls At hX hz hr1 hr2 hret hc hs hp hS hl) (fun hcd => k2 hcd G p l e R s m args below meth c Q n0 s0 H locs cells slots ls At hX hz hr1 hr2 hret hc hs hp hS hl)
theorem ev_if_gt {x : Int32} {off : Int} (tgt : Nat) (hd : decode M.2.1 pc = .ok (.ifCond .gt off, 3)) (ht : (pc : Int) + off = (tgt : Int)) (k1 : 0 < x → am_Ev X M tgt L S h r) (k2 : ¬ 0 < x → am_Ev X M (pc + 3) L S h r) : am_Ev X M pc L (.int x :: S) h r := by
  intro G p l e R s m args below meth c Q n0 s0 H locs cells slots ls At hX hz hr1 hr2 hret hc hs hp hS hl
  exact lv_if_gt At.1 At.2.1 hd ht (fun hcd => k1 hcd G p l e R s m args below meth c Q n0 s0 H locs cells slots ls At hX hz hr1 hr2 hret hc hs hp hS hl) (fun hcd => k2 hcd G p l e R s m args below meth c Q n0 s0 H locs cells slots ls At hX hz hr1 hr2 hret hc hs hp hS hl)
theorem ev_icmp_gt {x y : Int32} {off : Int} (tgt : Nat) (hd : decode M.2.1 pc = .ok (.if_icmp .gt off, 3)) (ht : (pc : Int) + off = (tgt : Int)) (k1 : y < x → am_Ev X M tgt L S h r) (k2 : ¬ y < x → am_Ev X M (pc + 3) L S h r) : am_Ev X M pc L (.int y :: .int x :: S) h r := by
  intro G p l e R s m args below meth c Q n0 s0 H locs cells slots ls At hX hz hr1 hr2 hret hc hs hp hS hl
  exact lv_icmp_gt At.1 At.2.1 hd ht (fun hcd => k1 hcd G p l e R s m args below meth c Q n0 s0 H locs cells slots ls At hX hz hr1 hr2 hret hc hs hp hS hl) (fun hcd => k2 hcd G p l e R s m args below meth c Q n0 s0 H locs cells slots ls At hX hz hr1 hr2 hret hc hs hp hS hl)
theorem ev_if_le {x : Int32} {off : Int} (tgt : Nat) (hd : decode M.2.1 pc = .ok (.ifCond .le off, 3)) (ht : (pc : Int) + off = (tgt : Int)) (k1 : x ≤ 0 → am_Ev X M tgt L S h r) (k2 : ¬ x ≤ 0 → am_Ev X M (pc + 3) L S h r) : am_Ev X M pc L (.int x :: S) h r := by
  intro G p l e R s m args below meth c Q n0 s0 H locs cells slots ls At hX hz hr1 hr2 hret hc hs hp hS hl
  exact lv_if_le At.1 At.2.1 hd ht (fun hcd => k1 hcd G p l e R s m args below meth c Q n0 s0 H locs cells slots ls At hX hz hr1 hr2 hret hc hs hp hS hl) (fun hcd => k2 hcd G p l e R s m args below meth c Q n0 s0 H locs cells slots ls At hX hz hr1 hr2 hret hc hs hp hS hl)
theorem ev_icmp_le {x y : Int32} {off : Int} (tgt : Nat) (hd : decode M.2.1 pc = .ok (.if_icmp .le off, 3)) (ht : (pc : Int) + off = (tgt : Int)) (k1 : x ≤ y → am_Ev X M tgt L S h r) (k2 : ¬ x ≤ y → am_Ev X M (pc + 3) L S h r) : am_Ev X M pc L (.int y :: .int x :: S) h r := by
  intro G p l e R s m args below meth c Q n0 s0 H locs cells slots ls At hX hz hr1 hr2 hret hc hs hp hS hl
  exact lv_icmp_le At.1 At.2.1 hd ht (fun hcd => k1 hcd G p l e R s m args below meth c Q n0 s0 H locs cells slots ls At hX hz hr1 hr2 hret hc hs hp hS hl) (fun hcd => k2 hcd G p l e R s m args below meth c Q n0 s0 H locs cells slots ls At hX hz hr1 hr2 hret hc hs hp hS hl)
theorem ev_goto {off : Int} (tgt : Nat) (hd : decode M.2.1 pc = .ok (.goto off, 3)) (ht : (pc : Int) + off = (tgt : Int)) (kk : am_Ev X M tgt L S h r) : am_Ev X M pc L S h r := by
  intro G p l e R s m args below meth c Q n0 s0 H locs cells slots ls At hX hz hr1 hr2 hret hc hs hp hS hl
  exact lv_goto At.1 At.2.1 hd ht (kk G p l e R s m args below meth c Q n0 s0 H locs cells slots ls At hX hz hr1 hr2 hret hc hs hp hS hl)
theorem ev_lookup {dflt : Int} {ps : Array (Int × Int)} {len : Nat} {x : Int32} (tgt : Nat) (off : Int) (hd : decode M.2.1 pc = .ok (.lookupswitch dflt ps, len)) (hp0 : (ps.toList.zip (ps.toList.drop 1)).all (fun (a, next) => a.1 < next.1) = true) (ho : Op.lookupswitch.offset ps.toList dflt x.toInt = off) (ht : (pc : Int) + off = (tgt : Int)) (kk : am_Ev X M tgt L S h r) : am_Ev X M pc L (.int x :: S) h r := by
  intro G p l e R s m args below meth c Q n0 s0 H locs cells slots ls At hX hz hr1 hr2 hret hc hs hp hS hl
  exact lv_lookup At.1 At.2.1 hd hp0 ho ht (kk G p l e R s m args below meth c Q n0 s0 H locs cells slots ls At hX hz hr1 hr2 hret hc hs hp hS hl)
theorem ev_tableOut {dflt lo hi : Int} {offs : Array Int} {len : Nat} {x : Int32} (tgt : Nat) (hd : decode M.2.1 pc = .ok (.tableswitch dflt lo hi offs, len)) (hx : x.toInt < lo ∨ hi < x.toInt) (ht : (pc : Int) + dflt = (tgt : Int)) (kk : am_Ev X M tgt L S h r) : am_Ev X M pc L (.int x :: S) h r := by
  intro G p l e R s m args below meth c Q n0 s0 H locs cells slots ls At hX hz hr1 hr2 hret hc hs hp hS hl
  exact lv_tableOut At.1 At.2.1 hd hx ht (kk G p l e R s m args below meth c Q n0 s0 H locs cells slots ls At hX hz hr1 hr2 hret hc hs hp hS hl)
theorem ev_tableIn {dflt lo hi : Int} {offs : Array Int} {len : Nat} {x : Int32} (tgt : Nat) (off : Int) (hd : decode M.2.1 pc = .ok (.tableswitch dflt lo hi offs, len)) (h1 : ¬ x.toInt < lo) (h2 : ¬ hi < x.toInt) (ho : offs[(x.toInt - lo).toNat]? = some off) (ht : (pc : Int) + off = (tgt : Int)) (kk : am_Ev X M tgt L S h r) : am_Ev X M pc L (.int x :: S) h r := by
  intro G p l e R s m args below meth c Q n0 s0 H locs cells slots ls At hX hz hr1 hr2 hret hc hs hp hS hl
  exact lv_tableIn At.1 At.2.1 hd h1 h2 ho ht (kk G p l e R s m args below meth c Q n0 s0 H locs cells slots ls At hX hz hr1 hr2 hret hc hs hp hS hl)

/-- what a class of ours needs to be known -/
def am_okC (ci : Nat) (C : String) (T : u_T) (N : Nat) (ty : Nat → FieldType) : Prop := vwCl[ci]? = some (C, T, N) ∧ (∀ w ∈ u_ws C T N, w ∈ am_Tg) ∧ (∀ k, k < N → parseFieldDescriptor (T k).2.2.1 = some (ty k)) ∧ (∀ a, a < N → ∀ b, b < N → a ≠ b → (T a).2.1 ≠ (T b).2.1) ∧ Cond.instantiable C N ∈ am_Tg ∧ Cond.initialized C ∈ am_Tg
/-- the entry idx of own's file is the field k of class ci -/
def am_gf (own : String) (idx ci k : Nat) : Prop := ci < 100 ∧ ∃ (C : String) (T : u_T) (N : Nat) (ty : Nat → FieldType), am_okC ci C T N ty ∧ k < N ∧ (Cond.fieldLink own idx (T k).1 (T k).2.1 (T k).2.2.1 ∈ am_Tg ∨ ∃ host, Cond.fieldLinkNest own idx (T k).1 (T k).2.1 (T k).2.2.1 host ∈ am_nw)
/-- the same for a write: not final, of type ty -/
def am_pf (own : String) (idx ci k : Nat) (t : FieldType) : Prop := ci < 100 ∧ ∃ (C : String) (T : u_T) (N : Nat) (ty : Nat → FieldType), am_okC ci C T N ty ∧ k < N ∧ (Cond.fieldLink own idx (T k).1 (T k).2.1 (T k).2.2.1 ∈ am_Tg ∨ ∃ host, Cond.fieldLinkNest own idx (T k).1 (T k).2.1 (T k).2.2.1 host ∈ am_nw) ∧ (T k).2.2.2 = false ∧ ty k = t
/-- a final field, written by the class's own constructor -/
def am_pF (own : String) (idx ci k : Nat) (t : FieldType) : Prop := ci < 100 ∧ ∃ (C : String) (T : u_T) (N : Nat) (ty : Nat → FieldType), am_okC ci C T N ty ∧ k < N ∧ Cond.fieldLink own idx (T k).1 (T k).2.1 (T k).2.2.1 ∈ am_Tg ∧ (T k).2.2.2 = true ∧ (T k).1 = own ∧ ty k = t
theorem am_c_obj {G : am_G} {h : am_H} {a ci n : Nat} {rf : Nat → Option (Option Nat)} (hci : ci < 100) (ha : am_at h a (ci, n, rf)) : (am_ws G h)[a]? = some (G.2.2.1 + a, .inr (ci, (List.range n).map (am_fv G rf (h.2.2.2 a)))) := by
  rw [am_ws_at ha.1, ha.2]
  simp [am_c, hci]
theorem am_c_int {G : am_G} {h : am_H} {a t n : Nat} {rf : Nat → Option (Option Nat)} (ht : t < 3) (ha : am_at h a (100 + t, n, rf)) : (am_ws G h)[a]? = some (G.2.2.1 + a, .inl (G.2.1 t, n, .inl (h.2.2.2 a))) := by
  rw [am_ws_at ha.1, ha.2]
  have h1 : ¬ 100 + t < 100 := by omega
  have h2 : 100 + t < 103 := by omega
  have h3 : 100 + t - 100 = t := by omega
  simp [am_c, h1, h2, h3]
theorem am_c_ref {G : am_G} {h : am_H} {a t n : Nat} {rf : Nat → Option (Option Nat)} (ht : 3 ≤ t) (ha : am_at h a (100 + t, n, rf)) : (am_ws G h)[a]? = some (G.2.2.1 + a, .inl (G.2.1 t, n, .inr (.inr (.inr (.inr (am_rq G rf)))))) := by
  rw [am_ws_at ha.1, ha.2]
  have h1 : ¬ 100 + t < 100 := by omega
  have h2 : ¬ 100 + t < 103 := by omega
  have h3 : 100 + t - 100 = t := by omega
  simp [am_c, h1, h2, h3]
theorem am_set_int {G : am_G} {h : am_H} {a t n : Nat} {rf : Nat → Option (Option Nat)} {f : Nat → Int32} (ht : t < 3) (ha : am_at h a (100 + t, n, rf)) : (am_ws G h).set a (G.2.2.1 + a, .inl (G.2.1 t, n, .inl f)) = am_ws G (am_hm h (am_ur h.2.2.2 a f)) := by
  have h1 : ¬ 100 + t < 100 := by omega
  have h2 : 100 + t < 103 := by omega
  have h3 : 100 + t - 100 = t := by omega
  have e : (.inl (G.2.1 t, n, .inl f) : va_E) = am_c G (100 + t, n, rf) f := by simp [am_c, h1, h2, h3]
  rw [e, am_ws_set ha.1]
  have e2 : am_us h.2.2.1 a (100 + t, n, rf) = h.2.2.1 := by rw [← ha.2]; exact am_us_self _ _
  rw [e2]
  rfl
theorem am_fs_at {G : am_G} {n k : Nat} {rf : Nat → Option (Option Nat)} {m : Nat → Int32} (hk : k < n) : ((List.range n).map (am_fv G rf m))[k]? = some (am_fv G rf m k) := by
  simp [List.getElem?_map, List.getElem?_range hk]
theorem am_fs_set {G : am_G} {n k : Nat} {rf rf' : Nat → Option (Option Nat)} {m m' : Nat → Int32} {v : Value} (hv : am_fv G rf' m' k = v) (ho : ∀ j, j ≠ k → am_fv G rf' m' j = am_fv G rf m j) : ((List.range n).map (am_fv G rf m)).set k v = (List.range n).map (am_fv G rf' m') := by
  refine List.ext_getElem? fun j => ?_
  by_cases hj : j = k
  · subst hj
    by_cases hl : j < n
    · rw [List.getElem?_set_self (by simp; exact hl), am_fs_at hl, hv]
    · rw [List.getElem?_eq_none (by simp; omega), List.getElem?_eq_none (by simp; omega)]
  · rw [List.getElem?_set_ne (Ne.symm hj), List.getElem?_map, List.getElem?_map]
    cases hq : (List.range n)[j]? with
    | none => rfl
    | some x =>
      have hx : x = j := by
        have := (List.getElem?_eq_some_iff.mp hq)
        obtain ⟨w, e⟩ := this
        simpa using e.symm
      subst hx
      simp [ho x hj]
theorem am_set_obj {G : am_G} {h : am_H} {a ci n k : Nat} {rf rf' : Nat → Option (Option Nat)} {m' : Nat → Int32} {v : Value} (hci : ci < 100) (ha : am_at h a (ci, n, rf)) (hv : am_fv G rf' m' k = v) (ho : ∀ j, j ≠ k → am_fv G rf' m' j = am_fv G rf (h.2.2.2 a) j) : (am_ws G h).set a (G.2.2.1 + a, .inr (ci, ((List.range n).map (am_fv G rf (h.2.2.2 a))).set k v)) = am_ws G (h.1, h.2.1, am_us h.2.2.1 a (ci, n, rf'), am_ur h.2.2.2 a m') := by
  rw [am_fs_set hv ho]
  have e : (.inr (ci, (List.range n).map (am_fv G rf' m')) : va_E) = am_c G (ci, n, rf') m' := by simp [am_c, hci]
  rw [e, am_ws_set ha.1]
theorem ev_getI {idx ci n k a : Nat} {rf : Nat → Option (Option Nat)}  (hd : decode M.2.1 pc = .ok (.getfield idx, 3)) (hf : am_gf M.1.cls idx ci k) (ha : am_at h a (ci, n, rf)) (hk : k < n) (hv : rf k = none) (kk : am_Ev X M (pc + 3) L (.int (h.2.2.2 a k) :: S) h r) : am_Ev X M pc L (.ref a :: S) h r := by
  intro G p l e R s m args below meth c Q n0 s0 H locs cells slots ls At hX hz hr1 hr2 hret hc hs hp hS hl
  obtain ⟨hci, C, T, N, ty, ⟨c1, c2, -⟩, hkN, hlk⟩ := hf
  have k2 := (kk G p l e R s m args below meth c Q n0 s0 H locs cells slots ls At hX hz hr1 hr2 hret hc hs hp hS hl)
  have e0 := am_c_obj (G := G) hci ha
  have e1 : ((List.range n).map (am_fv G rf (h.2.2.2 a)))[k]? = some (am_tr G (.int (h.2.2.2 a k))) := by
    rw [am_fs_at hk]
    simp [am_fv, hv, am_tr, va_rf, am_rf]
  rcases hlk with hlk | ⟨host, hlk⟩
  · exact va_get At.1 At.2.1 At.2.2.2.2.2.1 c2 At.2.2.2.2.1 At.2.2.2.2.2.2.2.2.1.1 hp a e0 c1 k hkN (At.2.2.2.2.2.1 _ hlk) (fun _ z => z) e1 hd k2
  · exact va_getN At.1 At.2.1 At.2.2.2.2.2.1 c2 At.2.2.2.2.1 At.2.2.2.2.2.2.2.2.1.1 hp a e0 c1 k hkN (va_Nw.use rfl (At.2.2.2.2.2.2.2.2.1.2.1 _ hlk)) (fun _ z => z) e1 hd k2
theorem ev_getR {idx ci n k a : Nat} {rf : Nat → Option (Option Nat)} {b : Nat} (hd : decode M.2.1 pc = .ok (.getfield idx, 3)) (hf : am_gf M.1.cls idx ci k) (ha : am_at h a (ci, n, rf)) (hk : k < n) (hv : rf k = some (some b)) (kk : am_Ev X M (pc + 3) L (.ref b :: S) h r) : am_Ev X M pc L (.ref a :: S) h r := by
  intro G p l e R s m args below meth c Q n0 s0 H locs cells slots ls At hX hz hr1 hr2 hret hc hs hp hS hl
  obtain ⟨hci, C, T, N, ty, ⟨c1, c2, -⟩, hkN, hlk⟩ := hf
  have k2 := (kk G p l e R s m args below meth c Q n0 s0 H locs cells slots ls At hX hz hr1 hr2 hret hc hs hp hS hl)
  have e0 := am_c_obj (G := G) hci ha
  have e1 : ((List.range n).map (am_fv G rf (h.2.2.2 a)))[k]? = some (am_tr G (.ref b)) := by
    rw [am_fs_at hk]
    simp [am_fv, hv, am_tr, va_rf, am_rf]
  rcases hlk with hlk | ⟨host, hlk⟩
  · exact va_get At.1 At.2.1 At.2.2.2.2.2.1 c2 At.2.2.2.2.1 At.2.2.2.2.2.2.2.2.1.1 hp a e0 c1 k hkN (At.2.2.2.2.2.1 _ hlk) (fun _ z => z) e1 hd k2
  · exact va_getN At.1 At.2.1 At.2.2.2.2.2.1 c2 At.2.2.2.2.1 At.2.2.2.2.2.2.2.2.1.1 hp a e0 c1 k hkN (va_Nw.use rfl (At.2.2.2.2.2.2.2.2.1.2.1 _ hlk)) (fun _ z => z) e1 hd k2
theorem ev_getSV {idx k : Nat} (hd : decode M.2.1 pc = .ok (.getfield idx, 3)) (hw : Cond.fieldLink M.1.cls idx "java/lang/String" "value" "[B" ∈ am_Tg) (hk : 4 ≤ k ∧ k < 10) (kk : am_Ev X M (pc + 3) L (.retAddr (k + 6) :: S) h r) : am_Ev X M pc L (.retAddr k :: S) h r := by
  intro G p l e R s m args below meth c Q n0 s0 H locs cells slots ls At hX hz hr1 hr2 hret hc hs hp hS hl
  have hm : ∃ q ∈ am_KS, q.2.2 = k := by
    rcases (show k = 4 ∨ k = 5 ∨ k = 6 ∨ k = 7 ∨ k = 8 ∨ k = 9 by omega) with z | z | z | z | z | z <;> subst z <;> decide
  obtain ⟨q, hq, rfl⟩ := hm
  obtain ⟨t, e1, -, -, -, e5⟩ := At.2.2.2.2.2.2.2.2.1.2.2.2.2.2.2.1 q hq
  have k2 := (kk G p l e R s m args below meth c Q n0 s0 H locs cells slots ls At hX hz hr1 hr2 hret hc hs hp hS hl)
  have e3 : am_tr G (.retAddr q.2.2) = .ref t := e1
  rw [List.map_cons, e3]
  exact vk_getf At.1 At.2.1 e5 hS At.2.2.2.2.1 (At.2.2.2.2.2.1 _ hw) (fun _ z => z) hd k2
theorem ev_getSC {idx k : Nat} (hd : decode M.2.1 pc = .ok (.getfield idx, 3)) (hw : Cond.fieldLink M.1.cls idx "java/lang/String" "coder" "B" ∈ am_Tg) (hk : 4 ≤ k ∧ k < 10) (kk : am_Ev X M (pc + 3) L (.int 0 :: S) h r) : am_Ev X M pc L (.retAddr k :: S) h r := by
  intro G p l e R s m args below meth c Q n0 s0 H locs cells slots ls At hX hz hr1 hr2 hret hc hs hp hS hl
  have hm : ∃ q ∈ am_KS, q.2.2 = k := by
    rcases (show k = 4 ∨ k = 5 ∨ k = 6 ∨ k = 7 ∨ k = 8 ∨ k = 9 by omega) with z | z | z | z | z | z <;> subst z <;> decide
  obtain ⟨q, hq, rfl⟩ := hm
  obtain ⟨t, e1, -, -, e4, -⟩ := At.2.2.2.2.2.2.2.2.1.2.2.2.2.2.2.1 q hq
  have k2 := (kk G p l e R s m args below meth c Q n0 s0 H locs cells slots ls At hX hz hr1 hr2 hret hc hs hp hS hl)
  have e3 : am_tr G (.retAddr q.2.2) = .ref t := e1
  rw [List.map_cons, e3]
  exact vk_getf At.1 At.2.1 e4 hS At.2.2.2.2.1 (At.2.2.2.2.2.1 _ hw) (fun _ z => z) hd k2
theorem ev_gets {idx : Nat} {C n d : String} {v : Value} (hd : decode M.2.1 pc = .ok (.getstatic idx, 3)) (hw : Cond.fieldLink M.1.cls idx C n d ∈ am_Tg) (hzz : (C, n, d, v) ∈ am_KZ) (kk : am_Ev X M (pc + 3) L (v :: S) h r) : am_Ev X M pc L S h r := by
  intro G p l e R s m args below meth c Q n0 s0 H locs cells slots ls At hX hz hr1 hr2 hret hc hs hp hS hl
  exact va_gets At.1 At.2.1 (At.2.2.2.2.2.2.2.2.1.2.2.2.2.2.1 (C, n, d, v) hzz) hS At.2.2.2.2.1 (At.2.2.2.2.2.1 _ hw) (fun _ z => z) hd (kk G p l e R s m args below meth c Q n0 s0 H locs cells slots ls At hX hz hr1 hr2 hret hc hs hp hS hl)
theorem ev_putI {idx ci n k a : Nat} {rf : Nat → Option (Option Nat)} {t : FieldType} {v : Int32} (hd : decode M.2.1 pc = .ok (.putfield idx, 3)) (hf : am_pf M.1.cls idx ci k t) (ha : am_at h a (ci, n, rf)) (hk : k < n) (hv : rf k = none) (hn : narrow t (.int v) = .int v) (hfit : fits t (.int v) = true) (kk : am_Ev X M (pc + 3) L S (am_hm h (am_u2 h.2.2.2 a k v)) r) : am_Ev X M pc L (.int v :: .ref a :: S) h r := by
  intro G p l e R s m args below meth c Q n0 s0 H locs cells slots ls At hX hz hr1 hr2 hret hc hs hp hS hl
  obtain ⟨hci, C, T, N, ty, ⟨c1, c2, c3, c4, -⟩, hkN, hlk, hfin, hty⟩ := hf
  have e0 := am_c_obj (G := G) hci ha
  have es := am_set_obj (G := G) (k := k) (rf' := rf) (m' := upd (h.2.2.2 a) k v) (v := .int v) hci ha (by simp [am_fv, hv, upd]) (fun j hj => by simp [am_fv, upd, hj])
  have e2 : am_us h.2.2.1 a (ci, n, rf) = h.2.2.1 := by rw [← ha.2]; exact am_us_self _ _
  rw [e2] at es
  have hl0 : k < ((List.range n).map (am_fv G rf (h.2.2.2 a))).length := by simp; exact hk
  have hsz : ∀ {H1 : Heap}, va_P G.1 vwCl ((am_ws G h).set a (G.2.2.1 + a, .inr (ci, ((List.range n).map (am_fv G rf (h.2.2.2 a))).set k (.int v)))) H1 → am_Hp G (am_hm h (am_u2 h.2.2.2 a k v)) H1 := fun q1 => by rw [es] at q1; exact q1
  rcases hlk with hlk | ⟨host, hlk⟩
  · exact va_put At.1 At.2.1 At.2.2.2.2.2.1 c2 ty c3 c4 At.2.2.2.2.1 At.2.2.2.2.2.2.2.2.1.1 hp am_ws_D hS a e0 c1 k hkN (At.2.2.2.2.2.1 _ hlk) (fun _ z => z) hfin (by rw [c3 k hkN, hty]) hn hfit hl0 hd (fun H1 locs1 q1 q2 q3 => (kk G p l e R s m args below meth c Q n0 s0 H1 locs1 cells slots ls At hX hz hr1 hr2 hret hc hs (hsz q1) q3 hl))
  · exact va_putN At.1 At.2.1 At.2.2.2.2.2.1 c2 ty c3 c4 At.2.2.2.2.1 At.2.2.2.2.2.2.2.2.1.1 hp am_ws_D hS a e0 c1 k hkN (va_Nw.use rfl (At.2.2.2.2.2.2.2.2.1.2.1 _ hlk)) (fun _ z => z) hfin (by rw [c3 k hkN, hty]) hn hfit hl0 hd (fun H1 locs1 q1 q2 q3 => (kk G p l e R s m args below meth c Q n0 s0 H1 locs1 cells slots ls At hX hz hr1 hr2 hret hc hs (hsz q1) q3 hl))
theorem ev_putFI {idx ci n k a : Nat} {rf : Nat → Option (Option Nat)} {t : FieldType} {v : Int32} (hd : decode M.2.1 pc = .ok (.putfield idx, 3)) (hf : am_pF M.1.cls idx ci k t) (hM : M.1.name = "<init>") (ha : am_at h a (ci, n, rf)) (hk : k < n) (hv : rf k = none) (hn : narrow t (.int v) = .int v) (hfit : fits t (.int v) = true) (kk : am_Ev X M (pc + 3) L S (am_hm h (am_u2 h.2.2.2 a k v)) r) : am_Ev X M pc L (.int v :: .ref a :: S) h r := by
  intro G p l e R s m args below meth c Q n0 s0 H locs cells slots ls At hX hz hr1 hr2 hret hc hs hp hS hl
  obtain ⟨hci, C, T, N, ty, ⟨c1, c2, c3, c4, -⟩, hkN, hlk, hfin, hdc, hty⟩ := hf
  have e0 := am_c_obj (G := G) hci ha
  have es := am_set_obj (G := G) (k := k) (rf' := rf) (m' := upd (h.2.2.2 a) k v) (v := .int v) hci ha (by simp [am_fv, hv, upd]) (fun j hj => by simp [am_fv, upd, hj])
  have e2 : am_us h.2.2.1 a (ci, n, rf) = h.2.2.1 := by rw [← ha.2]; exact am_us_self _ _
  rw [e2] at es
  have hl0 : k < ((List.range n).map (am_fv G rf (h.2.2.2 a))).length := by simp; exact hk
  have hsz : ∀ {H1 : Heap}, va_P G.1 vwCl ((am_ws G h).set a (G.2.2.1 + a, .inr (ci, ((List.range n).map (am_fv G rf (h.2.2.2 a))).set k (.int v)))) H1 → am_Hp G (am_hm h (am_u2 h.2.2.2 a k v)) H1 := fun q1 => by rw [es] at q1; exact q1
  exact va_putF At.1 At.2.1 At.2.2.2.2.2.1 c2 ty c3 c4 At.2.2.2.2.1 At.2.2.2.2.2.2.2.2.1.1 hp am_ws_D hS a e0 c1 k hkN (At.2.2.2.2.2.1 _ hlk) (fun _ z => z) hfin (At.2.2.2.2.2.2.2.1 hM) hdc (by rw [c3 k hkN, hty]) hn hfit hl0 hd (fun H1 locs1 q1 q2 q3 => (kk G p l e R s m args below meth c Q n0 s0 H1 locs1 cells slots ls At hX hz hr1 hr2 hret hc hs (hsz q1) q3 hl))
def am_rs (rf : Nat → Option (Option Nat)) (k b : Nat) : Nat → Option (Option Nat) := fun j => if j = k then some (some b) else rf j
theorem ev_putFR {idx ci n k a b : Nat} {rf : Nat → Option (Option Nat)} {t : FieldType} (hd : decode M.2.1 pc = .ok (.putfield idx, 3)) (hf : am_pF M.1.cls idx ci k t) (hM : M.1.name = "<init>") (ha : am_at h a (ci, n, rf)) (hk : k < n) (hn : ∀ q, narrow t (.ref q) = .ref q) (hfit : ∀ q, fits t (.ref q) = true) (kk : am_Ev X M (pc + 3) L S (am_hs h a (ci, n, am_rs rf k b)) r) : am_Ev X M pc L (.ref b :: .ref a :: S) h r := by
  intro G p l e R s m args below meth c Q n0 s0 H locs cells slots ls At hX hz hr1 hr2 hret hc hs hp hS hl
  obtain ⟨hci, C, T, N, ty, ⟨c1, c2, c3, c4, -⟩, hkN, hlk, hfin, hdc, hty⟩ := hf
  have e0 := am_c_obj (G := G) hci ha
  have es := am_set_obj (G := G) (k := k) (rf' := am_rs rf k b) (m' := h.2.2.2 a) (v := .ref (G.2.2.1 + b)) hci ha (by simp [am_fv, am_rs, va_rf, am_rf]) (fun j hj => by simp [am_fv, am_rs, hj])
  rw [am_ur_self] at es
  have hl0 : k < ((List.range n).map (am_fv G rf (h.2.2.2 a))).length := by simp; exact hk
  have hsz : ∀ {H1 : Heap}, va_P G.1 vwCl ((am_ws G h).set a (G.2.2.1 + a, .inr (ci, ((List.range n).map (am_fv G rf (h.2.2.2 a))).set k (.ref (G.2.2.1 + b))))) H1 → am_Hp G (am_hs h a (ci, n, am_rs rf k b)) H1 := fun q1 => by rw [es] at q1; exact q1
  exact va_putF At.1 At.2.1 At.2.2.2.2.2.1 c2 ty c3 c4 At.2.2.2.2.1 At.2.2.2.2.2.2.2.2.1.1 hp am_ws_D hS a e0 c1 k hkN (At.2.2.2.2.2.1 _ hlk) (fun _ z => z) hfin (At.2.2.2.2.2.2.2.1 hM) hdc (by rw [c3 k hkN, hty]) (hn _) (hfit _) hl0 hd (fun H1 locs1 q1 q2 q3 => (kk G p l e R s m args below meth c Q n0 s0 H1 locs1 cells slots ls At hX hz hr1 hr2 hret hc hs (hsz q1) q3 hl))
theorem ev_iald {n a : Nat} {i : Int32} {rf : Nat → Option (Option Nat)} (hd : decode M.2.1 pc = .ok (.iaload, 1)) (ha : am_at h a (100, n, rf)) (hi : vp_in i n) (kk : am_Ev X M (pc + 1) L (.int (h.2.2.2 a i.toNatClampNeg) :: S) h r) : am_Ev X M pc L (.int i :: .ref a :: S) h r := by
  intro G p l e R s m args below meth c Q n0 s0 H locs cells slots ls At hX hz hr1 hr2 hret hc hs hp hS hl
  exact va_iald At.1 At.2.1 At.2.2.2.2.2.2.2.2.1.1 hp a 0 (am_c_int (t := 0) (by decide) ha) rfl hi hd (kk G p l e R s m args below meth c Q n0 s0 H locs cells slots ls At hX hz hr1 hr2 hret hc hs hp hS hl)
theorem ev_zald {n a : Nat} {i : Int32} {rf : Nat → Option (Option Nat)} (hd : decode M.2.1 pc = .ok (.baload, 1)) (ha : am_at h a (101, n, rf)) (hi : vp_in i n) (kk : am_Ev X M (pc + 1) L (.int (h.2.2.2 a i.toNatClampNeg) :: S) h r) : am_Ev X M pc L (.int i :: .ref a :: S) h r := by
  intro G p l e R s m args below meth c Q n0 s0 H locs cells slots ls At hX hz hr1 hr2 hret hc hs hp hS hl
  exact va_zald At.1 At.2.1 At.2.2.2.2.2.2.2.2.1.1 hp a 1 (am_c_int (t := 1) (by decide) ha) rfl hi hd (kk G p l e R s m args below meth c Q n0 s0 H locs cells slots ls At hX hz hr1 hr2 hret hc hs hp hS hl)
theorem ev_cald {n a : Nat} {i : Int32} {rf : Nat → Option (Option Nat)} (hd : decode M.2.1 pc = .ok (.caload, 1)) (ha : am_at h a (102, n, rf)) (hi : vp_in i n) (kk : am_Ev X M (pc + 1) L (.int (h.2.2.2 a i.toNatClampNeg) :: S) h r) : am_Ev X M pc L (.int i :: .ref a :: S) h r := by
  intro G p l e R s m args below meth c Q n0 s0 H locs cells slots ls At hX hz hr1 hr2 hret hc hs hp hS hl
  exact va_cald At.1 At.2.1 At.2.2.2.2.2.2.2.2.1.1 hp a 2 (am_c_int (t := 2) (by decide) ha) rfl hi hd (kk G p l e R s m args below meth c Q n0 s0 H locs cells slots ls At hX hz hr1 hr2 hret hc hs hp hS hl)
theorem ev_iast {n a : Nat} {i x : Int32} {rf : Nat → Option (Option Nat)} (hd : decode M.2.1 pc = .ok (.iastore, 1)) (ha : am_at h a (100, n, rf)) (hi : vp_in i n) (kk : am_Ev X M (pc + 1) L S (am_hm h (am_u2 h.2.2.2 a i.toNatClampNeg x)) r) : am_Ev X M pc L (.int x :: .int i :: .ref a :: S) h r := by
  intro G p l e R s m args below meth c Q n0 s0 H locs cells slots ls At hX hz hr1 hr2 hret hc hs hp hS hl
  have es := am_set_int (G := G) (t := 0) (f := upd (h.2.2.2 a) i.toNatClampNeg x) (by decide) ha
  exact va_iast At.1 At.2.1 At.2.2.2.2.2.2.2.2.1.1 hp am_ws_D hS a 0 (am_c_int (t := 0) (by decide) ha) rfl hi hd (fun H1 locs1 q1 q2 q3 => (kk G p l e R s m args below meth c Q n0 s0 H1 locs1 cells slots ls At hX hz hr1 hr2 hret hc hs (by rw [es] at q1; exact q1) q3 hl))
theorem ev_zast {n a : Nat} {i x : Int32} {rf : Nat → Option (Option Nat)} (hd : decode M.2.1 pc = .ok (.bastore, 1)) (ha : am_at h a (101, n, rf)) (hi : vp_in i n) (kk : am_Ev X M (pc + 1) L S (am_hm h (am_u2 h.2.2.2 a i.toNatClampNeg (vp_nar .boolean x))) r) : am_Ev X M pc L (.int x :: .int i :: .ref a :: S) h r := by
  intro G p l e R s m args below meth c Q n0 s0 H locs cells slots ls At hX hz hr1 hr2 hret hc hs hp hS hl
  have es := am_set_int (G := G) (t := 1) (f := upd (h.2.2.2 a) i.toNatClampNeg (vp_nar .boolean x)) (by decide) ha
  exact va_zast At.1 At.2.1 At.2.2.2.2.2.2.2.2.1.1 hp am_ws_D hS a 1 (am_c_int (t := 1) (by decide) ha) rfl hi hd (fun H1 locs1 q1 q2 q3 => (kk G p l e R s m args below meth c Q n0 s0 H1 locs1 cells slots ls At hX hz hr1 hr2 hret hc hs (by rw [es] at q1; exact q1) q3 hl))
theorem ev_cast {n a : Nat} {i x : Int32} {rf : Nat → Option (Option Nat)} (hd : decode M.2.1 pc = .ok (.castore, 1)) (ha : am_at h a (102, n, rf)) (hi : vp_in i n) (kk : am_Ev X M (pc + 1) L S (am_hm h (am_u2 h.2.2.2 a i.toNatClampNeg (vp_nar .char x))) r) : am_Ev X M pc L (.int x :: .int i :: .ref a :: S) h r := by
  intro G p l e R s m args below meth c Q n0 s0 H locs cells slots ls At hX hz hr1 hr2 hret hc hs hp hS hl
  have es := am_set_int (G := G) (t := 2) (f := upd (h.2.2.2 a) i.toNatClampNeg (vp_nar .char x)) (by decide) ha
  exact va_cast At.1 At.2.1 At.2.2.2.2.2.2.2.2.1.1 hp am_ws_D hS a 2 (am_c_int (t := 2) (by decide) ha) rfl hi hd (fun H1 locs1 q1 q2 q3 => (kk G p l e R s m args below meth c Q n0 s0 H1 locs1 cells slots ls At hX hz hr1 hr2 hret hc hs (by rw [es] at q1; exact q1) q3 hl))
theorem ev_alen0 {n a : Nat} {rf : Nat → Option (Option Nat)} (hd : decode M.2.1 pc = .ok (.arraylength, 1)) (ha : am_at h a (100, n, rf)) (kk : am_Ev X M (pc + 1) L (.int (Int32.ofNat n) :: S) h r) : am_Ev X M pc L (.ref a :: S) h r := by
  intro G p l e R s m args below meth c Q n0 s0 H locs cells slots ls At hX hz hr1 hr2 hret hc hs hp hS hl
  exact va_alen At.1 At.2.1 At.2.2.2.2.2.2.2.2.1.1 hp a 0 (am_c_int (t := 0) (by decide) ha) (ty := .int) rfl rfl hd (kk G p l e R s m args below meth c Q n0 s0 H locs cells slots ls At hX hz hr1 hr2 hret hc hs hp hS hl)
theorem ev_alen1 {n a : Nat} {rf : Nat → Option (Option Nat)} (hd : decode M.2.1 pc = .ok (.arraylength, 1)) (ha : am_at h a (101, n, rf)) (kk : am_Ev X M (pc + 1) L (.int (Int32.ofNat n) :: S) h r) : am_Ev X M pc L (.ref a :: S) h r := by
  intro G p l e R s m args below meth c Q n0 s0 H locs cells slots ls At hX hz hr1 hr2 hret hc hs hp hS hl
  exact va_alen At.1 At.2.1 At.2.2.2.2.2.2.2.2.1.1 hp a 1 (am_c_int (t := 1) (by decide) ha) (ty := .boolean) rfl rfl hd (kk G p l e R s m args below meth c Q n0 s0 H locs cells slots ls At hX hz hr1 hr2 hret hc hs hp hS hl)
theorem ev_alen2 {n a : Nat} {rf : Nat → Option (Option Nat)} (hd : decode M.2.1 pc = .ok (.arraylength, 1)) (ha : am_at h a (102, n, rf)) (kk : am_Ev X M (pc + 1) L (.int (Int32.ofNat n) :: S) h r) : am_Ev X M pc L (.ref a :: S) h r := by
  intro G p l e R s m args below meth c Q n0 s0 H locs cells slots ls At hX hz hr1 hr2 hret hc hs hp hS hl
  exact va_alen At.1 At.2.1 At.2.2.2.2.2.2.2.2.1.1 hp a 2 (am_c_int (t := 2) (by decide) ha) (ty := .char) rfl rfl hd (kk G p l e R s m args below meth c Q n0 s0 H locs cells slots ls At hX hz hr1 hr2 hret hc hs hp hS hl)
theorem ev_alen3 {n a : Nat} {rf : Nat → Option (Option Nat)} (hd : decode M.2.1 pc = .ok (.arraylength, 1)) (ha : am_at h a (103, n, rf)) (kk : am_Ev X M (pc + 1) L (.int (Int32.ofNat n) :: S) h r) : am_Ev X M pc L (.ref a :: S) h r := by
  intro G p l e R s m args below meth c Q n0 s0 H locs cells slots ls At hX hz hr1 hr2 hret hc hs hp hS hl
  exact va_alen At.1 At.2.1 At.2.2.2.2.2.2.2.2.1.1 hp a 3 (am_c_ref (t := 3) (by decide) ha) (ty := .object "SandRipples$Floor") rfl rfl hd (kk G p l e R s m args below meth c Q n0 s0 H locs cells slots ls At hX hz hr1 hr2 hret hc hs hp hS hl)
theorem ev_aald3 {n a b : Nat} {i : Int32} {rf : Nat → Option (Option Nat)} (hd : decode M.2.1 pc = .ok (.aaload, 1)) (ha : am_at h a (103, n, rf)) (hi : vp_in i n) (hb : rf i.toNatClampNeg = some (some b)) (kk : am_Ev X M (pc + 1) L (.ref b :: S) h r) : am_Ev X M pc L (.int i :: .ref a :: S) h r := by
  intro G p l e R s m args below meth c Q n0 s0 H locs cells slots ls At hX hz hr1 hr2 hret hc hs hp hS hl
  have k2 := (kk G p l e R s m args below meth c Q n0 s0 H locs cells slots ls At hX hz hr1 hr2 hret hc hs hp hS hl)
  refine va_aldq At.1 At.2.1 At.2.2.2.2.2.2.2.2.1.1 hp a 3 (am_c_ref (t := 3) (by decide) ha) rfl hi hd ?_
  have e1 : am_rq G rf i.toNatClampNeg = some (G.2.2.1 + b) := by simp [am_rq, hb, am_rf]
  rw [e1]
  exact k2
theorem ev_alen4 {n a : Nat} {rf : Nat → Option (Option Nat)} (hd : decode M.2.1 pc = .ok (.arraylength, 1)) (ha : am_at h a (104, n, rf)) (kk : am_Ev X M (pc + 1) L (.int (Int32.ofNat n) :: S) h r) : am_Ev X M pc L (.ref a :: S) h r := by
  intro G p l e R s m args below meth c Q n0 s0 H locs cells slots ls At hX hz hr1 hr2 hret hc hs hp hS hl
  exact va_alen At.1 At.2.1 At.2.2.2.2.2.2.2.2.1.1 hp a 4 (am_c_ref (t := 4) (by decide) ha) (ty := .object "SandRipples$Text") rfl rfl hd (kk G p l e R s m args below meth c Q n0 s0 H locs cells slots ls At hX hz hr1 hr2 hret hc hs hp hS hl)
theorem ev_aald4 {n a b : Nat} {i : Int32} {rf : Nat → Option (Option Nat)} (hd : decode M.2.1 pc = .ok (.aaload, 1)) (ha : am_at h a (104, n, rf)) (hi : vp_in i n) (hb : rf i.toNatClampNeg = some (some b)) (kk : am_Ev X M (pc + 1) L (.ref b :: S) h r) : am_Ev X M pc L (.int i :: .ref a :: S) h r := by
  intro G p l e R s m args below meth c Q n0 s0 H locs cells slots ls At hX hz hr1 hr2 hret hc hs hp hS hl
  have k2 := (kk G p l e R s m args below meth c Q n0 s0 H locs cells slots ls At hX hz hr1 hr2 hret hc hs hp hS hl)
  refine va_aldq At.1 At.2.1 At.2.2.2.2.2.2.2.2.1.1 hp a 4 (am_c_ref (t := 4) (by decide) ha) rfl hi hd ?_
  have e1 : am_rq G rf i.toNatClampNeg = some (G.2.2.1 + b) := by simp [am_rq, hb, am_rf]
  rw [e1]
  exact k2
theorem ev_alen5 {n a : Nat} {rf : Nat → Option (Option Nat)} (hd : decode M.2.1 pc = .ok (.arraylength, 1)) (ha : am_at h a (105, n, rf)) (kk : am_Ev X M (pc + 1) L (.int (Int32.ofNat n) :: S) h r) : am_Ev X M pc L (.ref a :: S) h r := by
  intro G p l e R s m args below meth c Q n0 s0 H locs cells slots ls At hX hz hr1 hr2 hret hc hs hp hS hl
  exact va_alen At.1 At.2.1 At.2.2.2.2.2.2.2.2.1.1 hp a 5 (am_c_ref (t := 5) (by decide) ha) (ty := .object "SandRipples$Sheet") rfl rfl hd (kk G p l e R s m args below meth c Q n0 s0 H locs cells slots ls At hX hz hr1 hr2 hret hc hs hp hS hl)
theorem ev_aald5 {n a b : Nat} {i : Int32} {rf : Nat → Option (Option Nat)} (hd : decode M.2.1 pc = .ok (.aaload, 1)) (ha : am_at h a (105, n, rf)) (hi : vp_in i n) (hb : rf i.toNatClampNeg = some (some b)) (kk : am_Ev X M (pc + 1) L (.ref b :: S) h r) : am_Ev X M pc L (.int i :: .ref a :: S) h r := by
  intro G p l e R s m args below meth c Q n0 s0 H locs cells slots ls At hX hz hr1 hr2 hret hc hs hp hS hl
  have k2 := (kk G p l e R s m args below meth c Q n0 s0 H locs cells slots ls At hX hz hr1 hr2 hret hc hs hp hS hl)
  refine va_aldq At.1 At.2.1 At.2.2.2.2.2.2.2.2.1.1 hp a 5 (am_c_ref (t := 5) (by decide) ha) rfl hi hd ?_
  have e1 : am_rq G rf i.toNatClampNeg = some (G.2.2.1 + b) := by simp [am_rq, hb, am_rf]
  rw [e1]
  exact k2
theorem ev_alen6 {n a : Nat} {rf : Nat → Option (Option Nat)} (hd : decode M.2.1 pc = .ok (.arraylength, 1)) (ha : am_at h a (106, n, rf)) (kk : am_Ev X M (pc + 1) L (.int (Int32.ofNat n) :: S) h r) : am_Ev X M pc L (.ref a :: S) h r := by
  intro G p l e R s m args below meth c Q n0 s0 H locs cells slots ls At hX hz hr1 hr2 hret hc hs hp hS hl
  exact va_alen At.1 At.2.1 At.2.2.2.2.2.2.2.2.1.1 hp a 6 (am_c_ref (t := 6) (by decide) ha) (ty := .object "SandRipples$Slot") rfl rfl hd (kk G p l e R s m args below meth c Q n0 s0 H locs cells slots ls At hX hz hr1 hr2 hret hc hs hp hS hl)
theorem ev_aald6 {n a b : Nat} {i : Int32} {rf : Nat → Option (Option Nat)} (hd : decode M.2.1 pc = .ok (.aaload, 1)) (ha : am_at h a (106, n, rf)) (hi : vp_in i n) (hb : rf i.toNatClampNeg = some (some b)) (kk : am_Ev X M (pc + 1) L (.ref b :: S) h r) : am_Ev X M pc L (.int i :: .ref a :: S) h r := by
  intro G p l e R s m args below meth c Q n0 s0 H locs cells slots ls At hX hz hr1 hr2 hret hc hs hp hS hl
  have k2 := (kk G p l e R s m args below meth c Q n0 s0 H locs cells slots ls At hX hz hr1 hr2 hret hc hs hp hS hl)
  refine va_aldq At.1 At.2.1 At.2.2.2.2.2.2.2.2.1.1 hp a 6 (am_c_ref (t := 6) (by decide) ha) rfl hi hd ?_
  have e1 : am_rq G rf i.toNatClampNeg = some (G.2.2.1 + b) := by simp [am_rq, hb, am_rf]
  rw [e1]
  exact k2
theorem ev_ti {n k : Nat} {f : Nat → Int32} {i : Int32} (hd : decode M.2.1 pc = .ok (.iaload, 1)) (ha : ∀ G : am_G, G.2.2.2.2 = X → am_KA G k = some (.int, n, f)) (hi : vp_in i n) (kk : am_Ev X M (pc + 1) L (.int (f i.toNatClampNeg) :: S) h r) : am_Ev X M pc L (.int i :: .retAddr k :: S) h r := by
  intro G p l e R s m args below meth c Q n0 s0 H locs cells slots ls At hX hz hr1 hr2 hret hc hs hp hS hl
  obtain ⟨t, e1, e2⟩ := At.2.2.2.2.2.2.2.2.1.2.2.2.2.1 k _ (ha G hX)
  have e3 : am_tr G (.retAddr k) = .ref t := e1
  rw [List.map_cons, List.map_cons, e3]
  exact va_ti At.1 At.2.1 e2 hS hi rfl hd (kk G p l e R s m args below meth c Q n0 s0 H locs cells slots ls At hX hz hr1 hr2 hret hc hs hp hS hl)
theorem ev_tb {n k : Nat} {f : Nat → Int32} {i : Int32} (hd : decode M.2.1 pc = .ok (.baload, 1)) (ha : ∀ G : am_G, G.2.2.2.2 = X → am_KA G k = some (.byte, n, f)) (hi : vp_in i n) (kk : am_Ev X M (pc + 1) L (.int (f i.toNatClampNeg) :: S) h r) : am_Ev X M pc L (.int i :: .retAddr k :: S) h r := by
  intro G p l e R s m args below meth c Q n0 s0 H locs cells slots ls At hX hz hr1 hr2 hret hc hs hp hS hl
  obtain ⟨t, e1, e2⟩ := At.2.2.2.2.2.2.2.2.1.2.2.2.2.1 k _ (ha G hX)
  have e3 : am_tr G (.retAddr k) = .ref t := e1
  rw [List.map_cons, List.map_cons, e3]
  exact va_tb At.1 At.2.1 e2 hS hi rfl hd (kk G p l e R s m args below meth c Q n0 s0 H locs cells slots ls At hX hz hr1 hr2 hret hc hs hp hS hl)
theorem ev_tlen {n k : Nat} {f : Nat → Int32} {ty : FieldType} (hd : decode M.2.1 pc = .ok (.arraylength, 1)) (ha : ∀ G : am_G, G.2.2.2.2 = X → am_KA G k = some (ty, n, f)) (kk : am_Ev X M (pc + 1) L (.int (Int32.ofNat n) :: S) h r) : am_Ev X M pc L (.retAddr k :: S) h r := by
  intro G p l e R s m args below meth c Q n0 s0 H locs cells slots ls At hX hz hr1 hr2 hret hc hs hp hS hl
  obtain ⟨t, e1, e2⟩ := At.2.2.2.2.2.2.2.2.1.2.2.2.2.1 k _ (ha G hX)
  have e3 : am_tr G (.retAddr k) = .ref t := e1
  rw [List.map_cons, e3]
  exact va_tlen At.1 At.2.1 e2 hS rfl hd (kk G p l e R s m args below meth c Q n0 s0 H locs cells slots ls At hX hz hr1 hr2 hret hc hs hp hS hl)
theorem ev_iret {x : Int32} {ty : FieldType} (hd : decode M.2.1 pc = .ok (.ireturn, 1)) (hr : M.2.2.2.1 = some ty) (hn : narrow ty (.int x) = .int x) : am_Ev X M pc L [.int x] h (h, some (.int x)) := by
  intro G p l e R s m args below meth c Q n0 s0 H locs cells slots ls At hX hz hr1 hr2 hret hc hs hp hS hl
  have k2 := hret H locs pc ls _ hd ⟨rfl, ty, hr, hn⟩ hp hS
  rw [show h.1 - n0 = cells by omega, show h.2.1 - s0 = slots by omega] at k2
  exact k2
theorem ev_lret {x : Int64} (hd : decode M.2.1 pc = .ok (.lreturn, 1)) (hr : M.2.2.2.1 = some .long) : am_Ev X M pc L [.long x] h (h, some (.long x)) := by
  intro G p l e R s m args below meth c Q n0 s0 H locs cells slots ls At hX hz hr1 hr2 hret hc hs hp hS hl
  have k2 := hret H locs pc ls _ hd ⟨rfl, hr⟩ hp hS
  rw [show h.1 - n0 = cells by omega, show h.2.1 - s0 = slots by omega] at k2
  exact k2
theorem ev_aret {a : Nat} {ty : FieldType} (hd : decode M.2.1 pc = .ok (.areturn, 1)) (hr : M.2.2.2.1 = some ty) (ht : (∃ n, ty = .object n) ∨ ∃ t, ty = .array t) : am_Ev X M pc L [.ref a] h (h, some (.ref a)) := by
  intro G p l e R s m args below meth c Q n0 s0 H locs cells slots ls At hX hz hr1 hr2 hret hc hs hp hS hl
  have k2 := hret H locs pc ls _ hd ⟨rfl, ty, hr, ht⟩ hp hS
  rw [show h.1 - n0 = cells by omega, show h.2.1 - s0 = slots by omega] at k2
  exact k2
theorem ev_aretC {a : Nat} {ty : FieldType} (hd : decode M.2.1 pc = .ok (.areturn, 1)) (hr : M.2.2.2.1 = some ty) (ht : (∃ n, ty = .object n) ∨ ∃ t, ty = .array t) : am_Ev X M pc L [.retAddr a] h (h, some (.retAddr a)) := by
  intro G p l e R s m args below meth c Q n0 s0 H locs cells slots ls At hX hz hr1 hr2 hret hc hs hp hS hl
  have k2 := hret H locs pc ls _ hd ⟨rfl, ty, hr, ht⟩ hp hS
  rw [show h.1 - n0 = cells by omega, show h.2.1 - s0 = slots by omega] at k2
  exact k2
theorem ev_vret (hd : decode M.2.1 pc = .ok (.return_, 1)) (hr : M.2.2.2.1 = none) : am_Ev X M pc L [] h (h, none) := by
  intro G p l e R s m args below meth c Q n0 s0 H locs cells slots ls At hX hz hr1 hr2 hret hc hs hp hS hl
  have k2 := hret H locs pc ls _ hd ⟨rfl, hr⟩ hp hS
  rw [show h.1 - n0 = cells by omega, show h.2.1 - s0 = slots by omega] at k2
  exact k2
theorem ev_aast3 {n a b nb : Nat} {i : Int32} {rf rb : Nat → Option (Option Nat)} (hd : decode M.2.1 pc = .ok (.aastore, 1)) (ha : am_at h a (103, n, rf)) (hi : vp_in i n) (hb : am_at h b (0, nb, rb)) (kk : am_Ev X M (pc + 1) L S (am_hs h a (103, n, am_rs rf i.toNatClampNeg b)) r) : am_Ev X M pc L (.ref b :: .int i :: .ref a :: S) h r := by
  intro G p l e R s m args below meth c Q n0 s0 H locs cells slots ls At hX hz hr1 hr2 hret hc hs hp hS hl
  refine va_astq (r := (RX0, TX0, 3)) At.1 At.2.1 At.2.2.2.2.2.2.2.2.1.1 hp am_ws_D hS a 3 b 0 (am_c_ref (t := 3) (by decide) ha) rfl (am_c_obj (by decide) hb) rfl hi hd (fun H1 locs1 q1 q2 q3 => (kk G p l e R s m args below meth c Q n0 s0 H1 locs1 cells slots ls At hX hz hr1 hr2 hret hc hs ?_ q3 hl))
  have e1 : (.inl (G.2.1 3, n, .inr (.inr (.inr (.inr (va_up (am_rq G rf) i.toNatClampNeg (some (G.2.2.1 + b))))))) : va_E) = am_c G (103, n, am_rs rf i.toNatClampNeg b) (h.2.2.2 a) := by
    have e2 : va_up (am_rq G rf) i.toNatClampNeg (some (G.2.2.1 + b)) = am_rq G (am_rs rf i.toNatClampNeg b) := by
      funext j
      by_cases hj : j = i.toNatClampNeg
      · subst hj; simp [va_up, am_rq, am_rs, am_rf]
      · simp [va_up, am_rq, am_rs, hj]
    rw [e2]
    simp [am_c]
  rw [e1, am_ws_set ha.1, am_ur_self] at q1
  exact q1
theorem ev_aast4 {n a b nb : Nat} {i : Int32} {rf rb : Nat → Option (Option Nat)} (hd : decode M.2.1 pc = .ok (.aastore, 1)) (ha : am_at h a (104, n, rf)) (hi : vp_in i n) (hb : am_at h b (4, nb, rb)) (kk : am_Ev X M (pc + 1) L S (am_hs h a (104, n, am_rs rf i.toNatClampNeg b)) r) : am_Ev X M pc L (.ref b :: .int i :: .ref a :: S) h r := by
  intro G p l e R s m args below meth c Q n0 s0 H locs cells slots ls At hX hz hr1 hr2 hret hc hs hp hS hl
  refine va_astq (r := (RX4, TX4, 4)) At.1 At.2.1 At.2.2.2.2.2.2.2.2.1.1 hp am_ws_D hS a 4 b 4 (am_c_ref (t := 4) (by decide) ha) rfl (am_c_obj (by decide) hb) rfl hi hd (fun H1 locs1 q1 q2 q3 => (kk G p l e R s m args below meth c Q n0 s0 H1 locs1 cells slots ls At hX hz hr1 hr2 hret hc hs ?_ q3 hl))
  have e1 : (.inl (G.2.1 4, n, .inr (.inr (.inr (.inr (va_up (am_rq G rf) i.toNatClampNeg (some (G.2.2.1 + b))))))) : va_E) = am_c G (104, n, am_rs rf i.toNatClampNeg b) (h.2.2.2 a) := by
    have e2 : va_up (am_rq G rf) i.toNatClampNeg (some (G.2.2.1 + b)) = am_rq G (am_rs rf i.toNatClampNeg b) := by
      funext j
      by_cases hj : j = i.toNatClampNeg
      · subst hj; simp [va_up, am_rq, am_rs, am_rf]
      · simp [va_up, am_rq, am_rs, hj]
    rw [e2]
    simp [am_c]
  rw [e1, am_ws_set ha.1, am_ur_self] at q1
  exact q1
theorem ev_aast5 {n a b nb : Nat} {i : Int32} {rf rb : Nat → Option (Option Nat)} (hd : decode M.2.1 pc = .ok (.aastore, 1)) (ha : am_at h a (105, n, rf)) (hi : vp_in i n) (hb : am_at h b (2, nb, rb)) (kk : am_Ev X M (pc + 1) L S (am_hs h a (105, n, am_rs rf i.toNatClampNeg b)) r) : am_Ev X M pc L (.ref b :: .int i :: .ref a :: S) h r := by
  intro G p l e R s m args below meth c Q n0 s0 H locs cells slots ls At hX hz hr1 hr2 hret hc hs hp hS hl
  refine va_astq (r := (RX2, TX2, 3)) At.1 At.2.1 At.2.2.2.2.2.2.2.2.1.1 hp am_ws_D hS a 5 b 2 (am_c_ref (t := 5) (by decide) ha) rfl (am_c_obj (by decide) hb) rfl hi hd (fun H1 locs1 q1 q2 q3 => (kk G p l e R s m args below meth c Q n0 s0 H1 locs1 cells slots ls At hX hz hr1 hr2 hret hc hs ?_ q3 hl))
  have e1 : (.inl (G.2.1 5, n, .inr (.inr (.inr (.inr (va_up (am_rq G rf) i.toNatClampNeg (some (G.2.2.1 + b))))))) : va_E) = am_c G (105, n, am_rs rf i.toNatClampNeg b) (h.2.2.2 a) := by
    have e2 : va_up (am_rq G rf) i.toNatClampNeg (some (G.2.2.1 + b)) = am_rq G (am_rs rf i.toNatClampNeg b) := by
      funext j
      by_cases hj : j = i.toNatClampNeg
      · subst hj; simp [va_up, am_rq, am_rs, am_rf]
      · simp [va_up, am_rq, am_rs, hj]
    rw [e2]
    simp [am_c]
  rw [e1, am_ws_set ha.1, am_ur_self] at q1
  exact q1
theorem ev_aast6 {n a b nb : Nat} {i : Int32} {rf rb : Nat → Option (Option Nat)} (hd : decode M.2.1 pc = .ok (.aastore, 1)) (ha : am_at h a (106, n, rf)) (hi : vp_in i n) (hb : am_at h b (3, nb, rb)) (kk : am_Ev X M (pc + 1) L S (am_hs h a (106, n, am_rs rf i.toNatClampNeg b)) r) : am_Ev X M pc L (.ref b :: .int i :: .ref a :: S) h r := by
  intro G p l e R s m args below meth c Q n0 s0 H locs cells slots ls At hX hz hr1 hr2 hret hc hs hp hS hl
  refine va_astq (r := (RX3, TX3, 4)) At.1 At.2.1 At.2.2.2.2.2.2.2.2.1.1 hp am_ws_D hS a 6 b 3 (am_c_ref (t := 6) (by decide) ha) rfl (am_c_obj (by decide) hb) rfl hi hd (fun H1 locs1 q1 q2 q3 => (kk G p l e R s m args below meth c Q n0 s0 H1 locs1 cells slots ls At hX hz hr1 hr2 hret hc hs ?_ q3 hl))
  have e1 : (.inl (G.2.1 6, n, .inr (.inr (.inr (.inr (va_up (am_rq G rf) i.toNatClampNeg (some (G.2.2.1 + b))))))) : va_E) = am_c G (106, n, am_rs rf i.toNatClampNeg b) (h.2.2.2 a) := by
    have e2 : va_up (am_rq G rf) i.toNatClampNeg (some (G.2.2.1 + b)) = am_rq G (am_rs rf i.toNatClampNeg b) := by
      funext j
      by_cases hj : j = i.toNatClampNeg
      · subst hj; simp [va_up, am_rq, am_rs, am_rf]
      · simp [va_up, am_rq, am_rs, hj]
    rw [e2]
    simp [am_c]
  rw [e1, am_ws_set ha.1, am_ur_self] at q1
  exact q1
theorem ev_acopy {idx a b n0' n1 : Nat} {rf rb : Nat → Option (Option Nat)} {sp dp k : Int32} (hd : decode M.2.1 pc = .ok (.invokestatic idx, 3)) (hw : Cond.methodLink M.1.cls idx arraycopyName ∈ am_Tg) (ha : am_at h a (100, n0', rf)) (hb : am_at h b (100, n1, rb)) (h1 : ¬ sp < 0) (h2 : ¬ dp < 0) (h3 : ¬ k < 0) (h4 : sp.toNatClampNeg + k.toNatClampNeg ≤ n0') (h5 : dp.toNatClampNeg + k.toNatClampNeg ≤ n1) (hg : 1 ≤ M.2.2.2.2) (hrs : (S.map fun v => v.category).sum ≤ 8) (hw2 : Cond.native arraycopyName ∈ am_Tg) (hw3 : Cond.static arraycopyName ∈ am_Tg) (hw4 : Cond.initialized "java/lang/System" ∈ am_Tg) (kk : am_Ev X M (pc + 3) L S (am_hm h (am_ur h.2.2.2 b (va_cpy (h.2.2.2 a) (h.2.2.2 b) sp.toNatClampNeg dp.toNatClampNeg k.toNatClampNeg))) r) : am_Ev X M pc L (.int k :: .int dp :: .ref b :: .int sp :: .ref a :: S) h r := by
  intro G p l e R s m args below meth c Q n0 s0 H locs cells slots ls At hX hz hr1 hr2 hret hc hs hp hS hl
  have es := am_set_int (G := G) (t := 0) (f := va_cpy (h.2.2.2 a) (h.2.2.2 b) sp.toNatClampNeg dp.toNatClampNeg k.toNatClampNeg) (by decide) hb
  have hfr := At.2.2.2.2.2.2.2.2.2.1
  have hlo := At.2.2.2.2.2.2.2.2.2.2
  have hnf : nativeFrameWords "java/lang/System" "arraycopy" 5 ≤ 20 := by decide +kernel
  refine va_copyi (ty := .int) At.1 At.2.1 (At.2.2.2.1.trans hl.1.symm) At.2.2.2.2.1 (At.2.2.2.2.2.1 _ hw) (At.2.2.2.2.2.1 _ hw2) (At.2.2.2.2.2.1 _ hw3) (At.2.2.2.2.2.1 _ hw4) At.2.2.2.2.2.2.2.2.1.1 hp am_ws_D hS a b 0 0 (am_c_int (t := 0) (by decide) ha) (am_c_int (t := 0) (by decide) hb) rfl rfl rfl h1 h2 h3 h4 h5 (fun i hi => rfl) (by omega) ?_ hd (fun H1 locs1 q1 q2 q3 => (kk G p l e R s m args below meth c Q n0 s0 H1 locs1 cells slots ls At hX hz hr1 hr2 hret hc hs (by rw [es] at q1; exact q1) q3 hl))
  rw [am_rest At.2.2.2.2.2.2.2.2.1]
  omega
/-- the heap's size is known -/
theorem am_size {p : Program} {l : Launch} {e : Env} {R : Room} {s : State} {m : MethodId} {args : Array Value} {below : List Frame} {meth : Method} {c : Code} {Q : State → Prop} {H : Heap} {locs : List Loc} {cells slots n0 : Nat} {g : JFrame} {G : am_G} {A : Nat → Prop} (hz : s.heap.size = G.2.2.1 + n0) (hc : n0 + cells = h.1) (hp : am_Hp G h H) (hS : va_S A s.heap H locs) (k : H.size = G.2.2.1 + h.1 → W p l e R s m args below meth c H locs cells slots Q g) : W p l e R s m args below meth c H locs cells slots Q g := by
  intro T hT X
  refine k ?_ T hT X
  have h1 : T.heap.size ≤ s.heap.size + cells := X.same.2.2.1
  rw [hT] at h1
  by_cases h0 : h.1 = 0
  · have := hS.1
    omega
  · have h2 := (hp (h.1 - 1) _ (am_ws_at (G := G) (h := h) (by omega))).lt
    have h3 : G.2.2.1 + (h.1 - 1) < H.size := h2
    omega
theorem am_kept {G : am_G} {H H1 : Heap} (hp : am_Hp G h H) (o : ∀ q : Nat, q < H.size → H1[q]? = H[q]?) : am_Hp G h H1 := hp.kept (fun k x hx => o x.1 ((hp k x hx).lt))
theorem ev_new {idx ci N : Nat} {C : String} {T : u_T} {ty : Nat → FieldType} (rf : Nat → Option (Option Nat)) (hd : decode M.2.1 pc = .ok (.new idx, 3)) (hci : ci < 100) (hC : am_okC ci C T N ty) (hcl : Cond.classLink M.1.cls idx C ∈ am_Tg) (hrf : ∀ j, j < N → (match rf j with | none => defaultValue (ty j) = .int 0 | some q => q = none ∧ defaultValue (ty j) = .null)) (hn : h.1 + 1 ≤ r.1.1) (hn2 : h.2.1 + N ≤ r.1.2.1) (kk : am_Ev X M (pc + 3) L (.ref h.1 :: S) (am_hn h N (ci, N, rf)) r) : am_Ev X M pc L S h r := by
  intro G p l e R s m args below meth c Q n0 s0 H locs cells slots ls At hX hz hr1 hr2 hret hc hs hp hS hl
  obtain ⟨c1, c2, c3, c4, c5, c6⟩ := hC
  refine am_size hz hc hp hS (fun hsz => ?_)
  have hKn := At.2.2.2.2.2.2.2.2.1.1.1 ci _ c1
  refine W.newcK At.1 At.2.1 At.2.2.2.2.1 (At.2.2.2.2.2.1 _ hcl) (At.2.2.2.2.2.1 _ c5) (At.2.2.2.2.2.1 _ c6) rfl hd (by omega) (by omega) hKn.2.1 hsz fun H1 kC hkC e1 z1 o1 => ?_
  refine (kk G p l e R s m args below meth c Q n0 s0 H1 locs (cells + 1) (slots + N) ls At hX hz hr1 hr2 hret ?_ ?_ ?_ ?_ hl)
  · show n0 + (cells + 1) = h.1 + 1
    omega
  · show s0 + (slots + N) = h.2.1 + N
    omega
  · show va_P G.1 vwCl (am_ws G (am_hn h N (ci, N, rf))) H1
    rw [am_ws_push]
    refine va_P.app (am_kept hp (fun q hq => o1 q (by omega))) (fun k x hx => ?_)
    have hz1 : k < 1 := (List.getElem?_eq_some_iff.mp hx).1
    rw [show k = 0 by omega] at hx
    cases hx
    have e3 : am_c G (ci, N, rf) (fun _ => 0) = .inr (ci, (List.range N).map (am_fv G rf (fun _ => 0))) := by simp [am_c, hci]
    rw [e3]
    refine ⟨_, c1, (u_born ty At.2.2.2.2.2.1 c2 hKn hkC e1 c3).to (fun j hj => ?_)⟩
    have h9 := hrf j hj
    show defaultValue (ty j) = vp_V ((List.range N).map (am_fv G rf (fun _ => 0))) j
    have e4 := am_fs_at (G := G) (rf := rf) (m := fun _ => 0) hj
    simp only [vp_V, List.getD_eq_getElem?_getD, e4, Option.getD_some, am_fv]
    cases hq : rf j with
    | none => rw [hq] at h9; exact h9
    | some z => rw [hq] at h9; rw [h9.1, h9.2]; rfl
  · exact ⟨Nat.le_trans hS.1 (by omega), fun x g1 g2 => (o1 x (by have := hS.1; omega)).trans (hS.2.1 x g1 g2), hS.2.2⟩
theorem ev_newa0 {n : Int32} (N : Nat) (hd : decode M.2.1 pc = .ok (.newarray .int, 2)) (hw : Cond.arrayClass .int ∈ am_Tg) (h0 : ¬ n < 0) (hN : n.toNatClampNeg = N) (hbig : N ≤ 60000) (hn : h.1 + 1 ≤ r.1.1) (hn2 : h.2.1 + N ≤ r.1.2.1) (kk : am_Ev X M (pc + 2) L (.ref h.1 :: S) (am_hn h N (100, N, fun _ => none)) r) : am_Ev X M pc L (.int n :: S) h r := by
  intro G p l e R s m args below meth c Q n0 s0 H locs cells slots ls At hX hz hr1 hr2 hret hc hs hp hS hl
  refine am_size hz hc hp hS (fun hsz => ?_)
  have hcb : componentBytes (newarray.typeOf .int) ≤ 8 := by decide +kernel
  have hmul : N * componentBytes (newarray.typeOf .int) ≤ 60000 * 8 := Nat.mul_le_mul hbig hcb
  refine va_newaK (atype := .int) At.1 At.2.1 (At.2.2.2.2.2.1 _ hw) rfl hd rfl h0 hN (by omega) (by omega) (by omega) hsz fun H1 cA e1 z1 o1 hAr hNm => ?_
  have hcA : cA = G.2.1 0 := Option.some.inj (hNm.symm.trans (At.2.2.2.2.2.2.2.2.1.1.2 0 (G.2.1 0, .int) rfl).2)
  subst hcA
  refine (kk G p l e R s m args below meth c Q n0 s0 H1 locs (cells + 1) (slots + N) ls At hX hz hr1 hr2 hret ?_ ?_ ?_ ?_ hl)
  · show n0 + (cells + 1) = h.1 + 1
    omega
  · show s0 + (slots + N) = h.2.1 + N
    omega
  · show va_P G.1 vwCl (am_ws G (am_hn h N (100, N, fun _ => none))) H1
    rw [am_ws_push]
    refine va_P.app (am_kept hp (fun q hq => o1 q (by omega))) (fun k x hx => ?_)
    have hz1 : k < 1 := (List.getElem?_eq_some_iff.mp hx).1
    rw [show k = 0 by omega] at hx
    cases hx
    exact e1
  · exact ⟨Nat.le_trans hS.1 (by omega), fun x g1 g2 => (o1 x (by have := hS.1; omega)).trans (hS.2.1 x g1 g2), hS.2.2⟩
theorem ev_newa1 {n : Int32} (N : Nat) (hd : decode M.2.1 pc = .ok (.newarray .boolean, 2)) (hw : Cond.arrayClass .boolean ∈ am_Tg) (h0 : ¬ n < 0) (hN : n.toNatClampNeg = N) (hbig : N ≤ 60000) (hn : h.1 + 1 ≤ r.1.1) (hn2 : h.2.1 + N ≤ r.1.2.1) (kk : am_Ev X M (pc + 2) L (.ref h.1 :: S) (am_hn h N (101, N, fun _ => none)) r) : am_Ev X M pc L (.int n :: S) h r := by
  intro G p l e R s m args below meth c Q n0 s0 H locs cells slots ls At hX hz hr1 hr2 hret hc hs hp hS hl
  refine am_size hz hc hp hS (fun hsz => ?_)
  have hcb : componentBytes (newarray.typeOf .boolean) ≤ 8 := by decide +kernel
  have hmul : N * componentBytes (newarray.typeOf .boolean) ≤ 60000 * 8 := Nat.mul_le_mul hbig hcb
  refine va_newaK (atype := .boolean) At.1 At.2.1 (At.2.2.2.2.2.1 _ hw) rfl hd rfl h0 hN (by omega) (by omega) (by omega) hsz fun H1 cA e1 z1 o1 hAr hNm => ?_
  have hcA : cA = G.2.1 1 := Option.some.inj (hNm.symm.trans (At.2.2.2.2.2.2.2.2.1.1.2 1 (G.2.1 1, .boolean) rfl).2)
  subst hcA
  refine (kk G p l e R s m args below meth c Q n0 s0 H1 locs (cells + 1) (slots + N) ls At hX hz hr1 hr2 hret ?_ ?_ ?_ ?_ hl)
  · show n0 + (cells + 1) = h.1 + 1
    omega
  · show s0 + (slots + N) = h.2.1 + N
    omega
  · show va_P G.1 vwCl (am_ws G (am_hn h N (101, N, fun _ => none))) H1
    rw [am_ws_push]
    refine va_P.app (am_kept hp (fun q hq => o1 q (by omega))) (fun k x hx => ?_)
    have hz1 : k < 1 := (List.getElem?_eq_some_iff.mp hx).1
    rw [show k = 0 by omega] at hx
    cases hx
    exact e1
  · exact ⟨Nat.le_trans hS.1 (by omega), fun x g1 g2 => (o1 x (by have := hS.1; omega)).trans (hS.2.1 x g1 g2), hS.2.2⟩
theorem ev_newa2 {n : Int32} (N : Nat) (hd : decode M.2.1 pc = .ok (.newarray .char, 2)) (hw : Cond.arrayClass .char ∈ am_Tg) (h0 : ¬ n < 0) (hN : n.toNatClampNeg = N) (hbig : N ≤ 60000) (hn : h.1 + 1 ≤ r.1.1) (hn2 : h.2.1 + N ≤ r.1.2.1) (kk : am_Ev X M (pc + 2) L (.ref h.1 :: S) (am_hn h N (102, N, fun _ => none)) r) : am_Ev X M pc L (.int n :: S) h r := by
  intro G p l e R s m args below meth c Q n0 s0 H locs cells slots ls At hX hz hr1 hr2 hret hc hs hp hS hl
  refine am_size hz hc hp hS (fun hsz => ?_)
  have hcb : componentBytes (newarray.typeOf .char) ≤ 8 := by decide +kernel
  have hmul : N * componentBytes (newarray.typeOf .char) ≤ 60000 * 8 := Nat.mul_le_mul hbig hcb
  refine va_newaK (atype := .char) At.1 At.2.1 (At.2.2.2.2.2.1 _ hw) rfl hd rfl h0 hN (by omega) (by omega) (by omega) hsz fun H1 cA e1 z1 o1 hAr hNm => ?_
  have hcA : cA = G.2.1 2 := Option.some.inj (hNm.symm.trans (At.2.2.2.2.2.2.2.2.1.1.2 2 (G.2.1 2, .char) rfl).2)
  subst hcA
  refine (kk G p l e R s m args below meth c Q n0 s0 H1 locs (cells + 1) (slots + N) ls At hX hz hr1 hr2 hret ?_ ?_ ?_ ?_ hl)
  · show n0 + (cells + 1) = h.1 + 1
    omega
  · show s0 + (slots + N) = h.2.1 + N
    omega
  · show va_P G.1 vwCl (am_ws G (am_hn h N (102, N, fun _ => none))) H1
    rw [am_ws_push]
    refine va_P.app (am_kept hp (fun q hq => o1 q (by omega))) (fun k x hx => ?_)
    have hz1 : k < 1 := (List.getElem?_eq_some_iff.mp hx).1
    rw [show k = 0 by omega] at hx
    cases hx
    exact e1
  · exact ⟨Nat.le_trans hS.1 (by omega), fun x g1 g2 => (o1 x (by have := hS.1; omega)).trans (hS.2.1 x g1 g2), hS.2.2⟩
theorem ev_anew3 {n : Int32} {idx : Nat} (N : Nat) (hd : decode M.2.1 pc = .ok (.anewarray idx, 3)) (hw : Cond.classLink M.1.cls idx "SandRipples$Floor" ∈ am_Tg) (h0 : ¬ n < 0) (hN : n.toNatClampNeg = N) (hbig : N ≤ 60000) (hn : h.1 + 1 ≤ r.1.1) (hn2 : h.2.1 + N ≤ r.1.2.1) (kk : am_Ev X M (pc + 3) L (.ref h.1 :: S) (am_hn h N (103, N, fun _ => some none)) r) : am_Ev X M pc L (.int n :: S) h r := by
  intro G p l e R s m args below meth c Q n0 s0 H locs cells slots ls At hX hz hr1 hr2 hret hc hs hp hS hl
  subst hN
  refine am_size hz hc hp hS (fun hsz => ?_)
  refine W.anew At.1 At.2.1 At.2.2.2.2.1 (At.2.2.2.2.2.1 _ hw) (va_AO.use (At.2.2.2.2.2.2.2.2.1.2.2.2.2.2.2.2 "SandRipples$Floor" (by decide))) rfl hd rfl h0 (by omega) (by omega) (by omega) fun cA kA comp f1 f2 f3 f4 => ?_
  generalize hH1 : H.push ({ cls := cA, slots := Array.replicate n.toNatClampNeg .null, vm := .none } : Cell) = H1
  have z1 : H1.size = H.size + 1 := by rw [← hH1, Array.size_push]
  have e1 : H1[H.size]? = some (arrV cA n.toNatClampNeg (fun _ => .null)) := by rw [← hH1, Array.getElem?_push_size, ← arrV_new]
  have o1 : ∀ q : Nat, q < H.size → H1[q]? = H[q]? := fun q hq => by rw [← hH1, Array.getElem?_push, if_neg (Nat.ne_of_lt hq)]
  obtain ⟨kA', comp', -, -, -, g4⟩ := (At.2.2.2.2.2.2.2.2.1.1.2 3 (G.2.1 3, .object "SandRipples$Floor") rfl).2
  have hcA : cA = G.2.1 3 := Option.some.inj (f1.symm.trans g4)
  subst hcA
  have k2 := fun hp' hS' hc' hs' => (kk G p l e R s m args below meth c Q n0 s0 H1 locs (cells + 1) (slots + n.toNatClampNeg) ls At hX hz hr1 hr2 hret hc' hs' hp' hS' hl)
  have e9 : am_tr G (.ref h.1) = .ref H.size := by rw [hsz]; rfl
  rw [List.map_cons, e9] at k2
  refine k2 ?_ ?_ ?_ ?_
  · show va_P G.1 vwCl (am_ws G (am_hn h n.toNatClampNeg (103, n.toNatClampNeg, fun _ => some none))) H1
    rw [am_ws_push]
    refine va_P.app (am_kept hp (fun q hq => o1 q hq)) (fun k x hx => ?_)
    have hz1 : k < 1 := (List.getElem?_eq_some_iff.mp hx).1
    rw [show k = 0 by omega] at hx
    cases hx
    show H1[G.2.2.1 + h.1]? = some (vp_cell _ _)
    rw [← hsz, vp_cell_q]
    exact e1
  · exact ⟨Nat.le_trans hS.1 (by omega), fun x g1 g2 => (o1 x (by have := hS.1; omega)).trans (hS.2.1 x g1 g2), hS.2.2⟩
  · show n0 + (cells + 1) = h.1 + 1
    omega
  · show s0 + (slots + n.toNatClampNeg) = h.2.1 + n.toNatClampNeg
    omega
theorem ev_anew4 {n : Int32} {idx : Nat} (N : Nat) (hd : decode M.2.1 pc = .ok (.anewarray idx, 3)) (hw : Cond.classLink M.1.cls idx "SandRipples$Text" ∈ am_Tg) (h0 : ¬ n < 0) (hN : n.toNatClampNeg = N) (hbig : N ≤ 60000) (hn : h.1 + 1 ≤ r.1.1) (hn2 : h.2.1 + N ≤ r.1.2.1) (kk : am_Ev X M (pc + 3) L (.ref h.1 :: S) (am_hn h N (104, N, fun _ => some none)) r) : am_Ev X M pc L (.int n :: S) h r := by
  intro G p l e R s m args below meth c Q n0 s0 H locs cells slots ls At hX hz hr1 hr2 hret hc hs hp hS hl
  subst hN
  refine am_size hz hc hp hS (fun hsz => ?_)
  refine W.anew At.1 At.2.1 At.2.2.2.2.1 (At.2.2.2.2.2.1 _ hw) (va_AO.use (At.2.2.2.2.2.2.2.2.1.2.2.2.2.2.2.2 "SandRipples$Text" (by decide))) rfl hd rfl h0 (by omega) (by omega) (by omega) fun cA kA comp f1 f2 f3 f4 => ?_
  generalize hH1 : H.push ({ cls := cA, slots := Array.replicate n.toNatClampNeg .null, vm := .none } : Cell) = H1
  have z1 : H1.size = H.size + 1 := by rw [← hH1, Array.size_push]
  have e1 : H1[H.size]? = some (arrV cA n.toNatClampNeg (fun _ => .null)) := by rw [← hH1, Array.getElem?_push_size, ← arrV_new]
  have o1 : ∀ q : Nat, q < H.size → H1[q]? = H[q]? := fun q hq => by rw [← hH1, Array.getElem?_push, if_neg (Nat.ne_of_lt hq)]
  obtain ⟨kA', comp', -, -, -, g4⟩ := (At.2.2.2.2.2.2.2.2.1.1.2 4 (G.2.1 4, .object "SandRipples$Text") rfl).2
  have hcA : cA = G.2.1 4 := Option.some.inj (f1.symm.trans g4)
  subst hcA
  have k2 := fun hp' hS' hc' hs' => (kk G p l e R s m args below meth c Q n0 s0 H1 locs (cells + 1) (slots + n.toNatClampNeg) ls At hX hz hr1 hr2 hret hc' hs' hp' hS' hl)
  have e9 : am_tr G (.ref h.1) = .ref H.size := by rw [hsz]; rfl
  rw [List.map_cons, e9] at k2
  refine k2 ?_ ?_ ?_ ?_
  · show va_P G.1 vwCl (am_ws G (am_hn h n.toNatClampNeg (104, n.toNatClampNeg, fun _ => some none))) H1
    rw [am_ws_push]
    refine va_P.app (am_kept hp (fun q hq => o1 q hq)) (fun k x hx => ?_)
    have hz1 : k < 1 := (List.getElem?_eq_some_iff.mp hx).1
    rw [show k = 0 by omega] at hx
    cases hx
    show H1[G.2.2.1 + h.1]? = some (vp_cell _ _)
    rw [← hsz, vp_cell_q]
    exact e1
  · exact ⟨Nat.le_trans hS.1 (by omega), fun x g1 g2 => (o1 x (by have := hS.1; omega)).trans (hS.2.1 x g1 g2), hS.2.2⟩
  · show n0 + (cells + 1) = h.1 + 1
    omega
  · show s0 + (slots + n.toNatClampNeg) = h.2.1 + n.toNatClampNeg
    omega
theorem ev_anew5 {n : Int32} {idx : Nat} (N : Nat) (hd : decode M.2.1 pc = .ok (.anewarray idx, 3)) (hw : Cond.classLink M.1.cls idx "SandRipples$Sheet" ∈ am_Tg) (h0 : ¬ n < 0) (hN : n.toNatClampNeg = N) (hbig : N ≤ 60000) (hn : h.1 + 1 ≤ r.1.1) (hn2 : h.2.1 + N ≤ r.1.2.1) (kk : am_Ev X M (pc + 3) L (.ref h.1 :: S) (am_hn h N (105, N, fun _ => some none)) r) : am_Ev X M pc L (.int n :: S) h r := by
  intro G p l e R s m args below meth c Q n0 s0 H locs cells slots ls At hX hz hr1 hr2 hret hc hs hp hS hl
  subst hN
  refine am_size hz hc hp hS (fun hsz => ?_)
  refine W.anew At.1 At.2.1 At.2.2.2.2.1 (At.2.2.2.2.2.1 _ hw) (va_AO.use (At.2.2.2.2.2.2.2.2.1.2.2.2.2.2.2.2 "SandRipples$Sheet" (by decide))) rfl hd rfl h0 (by omega) (by omega) (by omega) fun cA kA comp f1 f2 f3 f4 => ?_
  generalize hH1 : H.push ({ cls := cA, slots := Array.replicate n.toNatClampNeg .null, vm := .none } : Cell) = H1
  have z1 : H1.size = H.size + 1 := by rw [← hH1, Array.size_push]
  have e1 : H1[H.size]? = some (arrV cA n.toNatClampNeg (fun _ => .null)) := by rw [← hH1, Array.getElem?_push_size, ← arrV_new]
  have o1 : ∀ q : Nat, q < H.size → H1[q]? = H[q]? := fun q hq => by rw [← hH1, Array.getElem?_push, if_neg (Nat.ne_of_lt hq)]
  obtain ⟨kA', comp', -, -, -, g4⟩ := (At.2.2.2.2.2.2.2.2.1.1.2 5 (G.2.1 5, .object "SandRipples$Sheet") rfl).2
  have hcA : cA = G.2.1 5 := Option.some.inj (f1.symm.trans g4)
  subst hcA
  have k2 := fun hp' hS' hc' hs' => (kk G p l e R s m args below meth c Q n0 s0 H1 locs (cells + 1) (slots + n.toNatClampNeg) ls At hX hz hr1 hr2 hret hc' hs' hp' hS' hl)
  have e9 : am_tr G (.ref h.1) = .ref H.size := by rw [hsz]; rfl
  rw [List.map_cons, e9] at k2
  refine k2 ?_ ?_ ?_ ?_
  · show va_P G.1 vwCl (am_ws G (am_hn h n.toNatClampNeg (105, n.toNatClampNeg, fun _ => some none))) H1
    rw [am_ws_push]
    refine va_P.app (am_kept hp (fun q hq => o1 q hq)) (fun k x hx => ?_)
    have hz1 : k < 1 := (List.getElem?_eq_some_iff.mp hx).1
    rw [show k = 0 by omega] at hx
    cases hx
    show H1[G.2.2.1 + h.1]? = some (vp_cell _ _)
    rw [← hsz, vp_cell_q]
    exact e1
  · exact ⟨Nat.le_trans hS.1 (by omega), fun x g1 g2 => (o1 x (by have := hS.1; omega)).trans (hS.2.1 x g1 g2), hS.2.2⟩
  · show n0 + (cells + 1) = h.1 + 1
    omega
  · show s0 + (slots + n.toNatClampNeg) = h.2.1 + n.toNatClampNeg
    omega
theorem ev_anew6 {n : Int32} {idx : Nat} (N : Nat) (hd : decode M.2.1 pc = .ok (.anewarray idx, 3)) (hw : Cond.classLink M.1.cls idx "SandRipples$Slot" ∈ am_Tg) (h0 : ¬ n < 0) (hN : n.toNatClampNeg = N) (hbig : N ≤ 60000) (hn : h.1 + 1 ≤ r.1.1) (hn2 : h.2.1 + N ≤ r.1.2.1) (kk : am_Ev X M (pc + 3) L (.ref h.1 :: S) (am_hn h N (106, N, fun _ => some none)) r) : am_Ev X M pc L (.int n :: S) h r := by
  intro G p l e R s m args below meth c Q n0 s0 H locs cells slots ls At hX hz hr1 hr2 hret hc hs hp hS hl
  subst hN
  refine am_size hz hc hp hS (fun hsz => ?_)
  refine W.anew At.1 At.2.1 At.2.2.2.2.1 (At.2.2.2.2.2.1 _ hw) (va_AO.use (At.2.2.2.2.2.2.2.2.1.2.2.2.2.2.2.2 "SandRipples$Slot" (by decide))) rfl hd rfl h0 (by omega) (by omega) (by omega) fun cA kA comp f1 f2 f3 f4 => ?_
  generalize hH1 : H.push ({ cls := cA, slots := Array.replicate n.toNatClampNeg .null, vm := .none } : Cell) = H1
  have z1 : H1.size = H.size + 1 := by rw [← hH1, Array.size_push]
  have e1 : H1[H.size]? = some (arrV cA n.toNatClampNeg (fun _ => .null)) := by rw [← hH1, Array.getElem?_push_size, ← arrV_new]
  have o1 : ∀ q : Nat, q < H.size → H1[q]? = H[q]? := fun q hq => by rw [← hH1, Array.getElem?_push, if_neg (Nat.ne_of_lt hq)]
  obtain ⟨kA', comp', -, -, -, g4⟩ := (At.2.2.2.2.2.2.2.2.1.1.2 6 (G.2.1 6, .object "SandRipples$Slot") rfl).2
  have hcA : cA = G.2.1 6 := Option.some.inj (f1.symm.trans g4)
  subst hcA
  have k2 := fun hp' hS' hc' hs' => (kk G p l e R s m args below meth c Q n0 s0 H1 locs (cells + 1) (slots + n.toNatClampNeg) ls At hX hz hr1 hr2 hret hc' hs' hp' hS' hl)
  have e9 : am_tr G (.ref h.1) = .ref H.size := by rw [hsz]; rfl
  rw [List.map_cons, e9] at k2
  refine k2 ?_ ?_ ?_ ?_
  · show va_P G.1 vwCl (am_ws G (am_hn h n.toNatClampNeg (106, n.toNatClampNeg, fun _ => some none))) H1
    rw [am_ws_push]
    refine va_P.app (am_kept hp (fun q hq => o1 q hq)) (fun k x hx => ?_)
    have hz1 : k < 1 := (List.getElem?_eq_some_iff.mp hx).1
    rw [show k = 0 by omega] at hx
    cases hx
    show H1[G.2.2.1 + h.1]? = some (vp_cell _ _)
    rw [← hsz, vp_cell_q]
    exact e1
  · exact ⟨Nat.le_trans hS.1 (by omega), fun x g1 g2 => (o1 x (by have := hS.1; omega)).trans (hS.2.1 x g1 g2), hS.2.2⟩
  · show n0 + (cells + 1) = h.1 + 1
    omega
  · show s0 + (slots + n.toNatClampNeg) = h.2.1 + n.toNatClampNeg
    omega
theorem ev_objInit {idx a : Nat} (hd : decode M.2.1 pc = .ok (.invokespecial idx, 3)) (hw : Cond.methodLink M.1.cls idx Lib.objectInit ∈ am_Tg) (hw2 : Cond.instanceMethod Lib.objectInit ∈ am_Tg) (hw3 : Cond.code Lib.objectInit ⟨#[0xb1]⟩ 1 none ∈ am_Tg) (hg : 1 ≤ M.2.2.2.2) (hrs : (S.map fun v => v.category).sum ≤ 8) (kk : am_Ev X M (pc + 3) L S h r) : am_Ev X M pc L (.ref a :: S) h r := by
  intro G p l e R s m args below meth c Q n0 s0 H locs cells slots ls At hX hz hr1 hr2 hret hc hs hp hS hl
  have hfr := At.2.2.2.2.2.2.2.2.2.1
  have hlo := At.2.2.2.2.2.2.2.2.2.2
  refine W.objInit At.1 At.2.1 At.2.2.2.2.1 (At.2.2.2.2.2.1 _ hw) (At.2.2.2.2.2.1 _ hw2) (At.2.2.2.2.2.1 _ hw3) rfl (hl.1.trans At.2.2.2.1.symm) rfl hd (by omega) ?_ (kk G p l e R s m args below meth c Q n0 s0 H locs cells slots ls At hX hz hr1 hr2 hret hc hs hp hS hl)
  have e0 := am_rest At.2.2.2.2.2.2.2.2.1 S
  show 2 * 0 + _ + 12 ≤ _
  rw [e0]
  omega

def am_Pc (G : am_G) (As : List Value) (h : am_H) : Array Value → State → Prop := va_Pc (As.map (am_tr G)) (fun U => am_W G U ∧ U.heap.size = G.2.2.1 + h.1 ∧ am_Hp G h U.heap)
def am_Qc (G : am_G) (r : am_H × Option Value) : Array Value → State → Outcome → State → Prop := fun _ st oc t => oc = .returned (r.2.map (am_tr G)) ∧ am_Hp G r.1 t.heap ∧ va_F (am_A G) st t
/-- THE CONTRACT of a method at these arguments and this heap: it returns, and leaves r -/
def am_Cn (X : Nat × (Nat → Int32)) (M : am_M) (As : List Value) (h : am_H) (r : am_H × Option Value) : Prop := h.1 ≤ r.1.1 ∧ h.2.1 ≤ r.1.2.1 ∧ ∀ (l : Launch) (G : am_G), G.2.2.2.2 = X → Met l M.1 (Cond.code M.1 M.2.1 M.2.2.1 M.2.2.2.1 :: am_Tg) ({ frames := M.2.2.2.2, cells := r.1.1 - h.1, slots := r.1.2.1 - h.2.1, locals := 39 * M.2.2.2.2 }) (am_Pc G As h) (am_Qc G r) (r.1.1 - h.1) (r.1.2.1 - h.2.1) (am_A G)
/-- what a method of ours needs to be known, n its parameters -/
def am_okM (M : am_M) (n : Nat) : Prop := plainFor M.1 = true ∧ (M.1.cls ≠ "java/lang/invoke/MethodHandle" ∧ M.1.cls ≠ "java/lang/invoke/VarHandle" ∧ (parseMethodDescriptor M.1.desc).map (fun d => d.parameters.length) = some n) ∧ Cond.code M.1 M.2.1 M.2.2.1 M.2.2.2.1 ∈ am_Tg ∧ M.2.2.1 ≤ 20 ∧ Cond.initialized M.1.cls ∈ am_Tg
theorem am_Pc_blind {G : am_G} {As : List Value} {h : am_H} : FrameBlind (am_Pc G As h) := fun a U g mk q => ⟨q.1, q.2.1.calling, q.2.2.1, q.2.2.2⟩
set_option maxHeartbeats 1000000 in
theorem am_Cn.of {As : List Value} {n : Nat} (hM : am_okM M n) (h1 : h.1 ≤ r.1.1) (h2 : h.2.1 ≤ r.1.2.1) (hs0 : (lg_sl As).length ≤ M.2.2.1) (E : am_Ev X M 0 (lv_args 0 As) [] h r) : am_Cn X M As h r := by
  refine ⟨h1, h2, fun l G hX => ?_⟩
  refine va_MetF (cc := M.2.1) (maxL := M.2.2.1) (ret := M.2.2.2.1) hM.1 rfl ?_
  intro p e s m args below meth c s₁ B hml hv
  obtain ⟨rfl, hW, hsz, hP⟩ := hv
  have hts0 := atoms_spec (ws := Cond.code M.1 M.2.1 M.2.2.1 M.2.2.2.1 :: am_Tg) B.pre
  have hts : ∀ w ∈ am_Tg, w.before (As.map (am_tr G)).toArray s = true := fun w hw => hts0 w (List.mem_cons_of_mem _ hw)
  have hown : s.vm.findClass M.1.cls = some m.cls := findClass_of_methodNamed B.named
  have hlocks := B.notSynchronized
  have hin : meth.name = M.1.name := (name_of_methodNamed B.named B.method).1
  have hl := lv_entry (As.map (am_tr G)) (n := M.2.2.1) (by rw [am_sl_len hW]; exact hs0)
  rw [lg_entry_eq]
  rw [am_lv_args hW] at hl
  have At : am_At M G p ({ frames := M.2.2.2.2, cells := r.1.1 - h.1, slots := r.1.2.1 - h.2.1, locals := 39 * M.2.2.2.2 }) s m (As.map (am_tr G)).toArray meth c := ⟨B.exec, B.bytes, B.returns, hml, hown, hts, hlocks, (fun z => hin.trans z), hW, Nat.le_refl _, Nat.le_refl _⟩
  refine E G p l e _ s m _ below meth c _ h.1 h.2.1 s.heap [] 0 0 _ At hX hsz (by show r.1.1 ≤ h.1 + (r.1.1 - h.1); omega) (by show r.1.2.1 ≤ h.2.1 + (r.1.2.1 - h.2.1); omega) ?_ rfl rfl hP va_S.rf hl
  intro H' locs' pc' ls' ins hdec hisR hp' hS'
  obtain ⟨hx1, rv⟩ := r
  have hx := B.exec
  have hb := B.bytes
  have hr := B.returns
  have q0 : ∀ t : State, t.heap = H' → am_Hp G hx1 t.heap ∧ va_F (am_A G) s t := fun t ht => ⟨by rw [ht]; exact hp', hS'.F ht⟩
  have hf : ∀ q ∈ locs', am_A G q.base := hS'.2.2
  cases rv with
  | none =>
    obtain ⟨rfl, e2⟩ := hisR
    exact W.vret hx hb (hr.trans e2) (fun t ht hW => ⟨rfl, q0 t ht⟩) hf hdec
  | some v =>
    cases v with
    | int x =>
      obtain ⟨rfl, ty, e2, e3⟩ := hisR
      exact W.zret hx hb (hr.trans e2) e3 (fun t ht hW => ⟨rfl, q0 t ht⟩) hf hdec
    | long x =>
      obtain ⟨rfl, e2⟩ := hisR
      exact W.lret hx hb (hr.trans e2) (fun t ht hW => ⟨rfl, q0 t ht⟩) hf hdec
    | ref a =>
      obtain ⟨rfl, ty, e2, e3⟩ := hisR
      exact W.aret hx hb (hr.trans e2) e3 (Or.inr ⟨_, rfl⟩) (fun t ht hW => ⟨rfl, q0 t ht⟩) hf hdec
    | retAddr a =>
      obtain ⟨rfl, ty, e2, e3⟩ := hisR
      exact W.aret (v := am_tr G (.retAddr a)) hx hb (hr.trans e2) e3 ((hW.2.2.2.1 a).2) (fun t ht hW => ⟨rfl, q0 t ht⟩) hf hdec
    | null => exact hisR.elim
    | float x => exact hisR.elim
    | double x => exact hisR.elim
theorem am_run {p : Program} {l : Launch} {e : Env} {R : Room} {s : State} {m : MethodId} {args : Array Value} {below : List Frame} {meth : Method} {c : Code} {Q : State → Prop} {H : Heap} {locs : List Loc} {cells slots mc ms pc : Nat} {ls : Array Slot} {st0 rest : List Value} {G : am_G} {r1 : am_H × Option Value} {a : Array Value} (hr : va_Run p l e R s m args below meth c H locs cells slots mc ms (F0 m pc ls st0) rest (am_Qc G r1 a) (am_A G)) (hS : va_S (am_A G) s.heap H locs)
    (kk : ∀ (H1 : Heap) (locs1 : List Loc), am_Hp G r1.1 H1 → va_S (am_A G) s.heap H1 locs1 → W p l e R s m args below meth c H1 locs1 (cells + mc) (slots + ms) Q (F0 m (pc + 3) ls ((r1.2.map (am_tr G)).toList ++ rest))) : W p l e R s m args below meth c H locs cells slots Q (F0 m pc ls st0) := by
  intro T hT X
  obtain ⟨v, st₀, t, T', L, h0, X', hL, e1, e2, ⟨hv, hp, hz, hk⟩, st⟩ := hr T hT X
  cases hv
  rw [h0] at hz hk
  obtain ⟨t2, a1, b1⟩ := kk T'.heap (locs ++ L) (by rw [e1]; exact hp) ⟨Nat.le_trans hS.1 (by rw [e1]; exact hz), fun q h1 h2 => by rw [e1, hk q (Nat.lt_of_lt_of_le h1 hS.1) h2]; exact hS.2.1 q h1 h2, fun q hq => by
      rcases List.mem_append.mp hq with h | h
      · exact hS.2.2 q h
      · exact hL q h⟩ T' rfl X'
  exact ⟨t2, st t2 a1, b1⟩
def am_lk (own : String) (idx : Nat) (y : MethodName) : Prop := Cond.methodLink own idx y ∈ am_Tg ∨ ∃ host, Cond.methodLinkNest own idx y host ∈ am_nw
theorem am_Tg_cons {w : Cond} (hw : w ∈ am_Tg) {ws : List Cond} (h : ∀ x ∈ ws, x ∈ am_Tg) : ∀ x ∈ w :: ws, x ∈ am_Tg := fun x hx => (List.mem_cons.mp hx).elim (fun e => e ▸ hw) (h x)
theorem am_tl {G : am_G} (rv : Option Value) (S : List Value) : (rv.map (am_tr G)).toList ++ S.map (am_tr G) = (rv.toList ++ S).map (am_tr G) := by cases rv <;> rfl
set_option maxHeartbeats 1000000 in
theorem ev_calls {idx n : Nat} {M' : am_M} (As : List Value) {st : List Value} {r1 : am_H × Option Value} (hd : decode M.2.1 pc = .ok (.invokestatic idx, 3)) (hM : am_okM M' n) (hlk : am_lk M.1.cls idx M'.1) (hst : Cond.static M'.1 ∈ am_Tg) (hgt : M'.2.2.2.2 + 1 ≤ M.2.2.2.2) (hlen : As.length = n) (hC : am_Cn X M' As h r1) (hstk : st = As.reverse ++ S) (hrs : (S.map fun v => v.category).sum ≤ 8) (hn : r1.1.1 ≤ r.1.1) (hn2 : r1.1.2.1 ≤ r.1.2.1) (kk : am_Ev X M (pc + 3) L (r1.2.toList ++ S) r1.1 r) : am_Ev X M pc L st h r := by
  intro G p l e R s m args below meth c Q n0 s0 H locs cells slots ls At hX hz hr1 hr2 hret hc hs hp hS hl
  subst hstk
  obtain ⟨g1, g2, hMet⟩ := hC
  have hW := At.2.2.2.2.2.2.2.2.1
  have hfr := At.2.2.2.2.2.2.2.2.2.1
  have hlo := At.2.2.2.2.2.2.2.2.2.2
  have hmx := hM.2.2.2.1
  refine am_size hz hc hp hS (fun hsz => ?_)
  have hpre : PreS s H (am_Pc G As h) (As.map (am_tr G)) := ⟨am_Pc_blind, fun U hU hWU => ⟨rfl, hW.move hWU (by rw [hU]; exact hS.1) (fun a h1 h2 => by rw [hU]; exact hS.2.1 a h1 h2), by rw [hU]; exact hsz, by rw [hU]; exact hp⟩⟩
  have hstack : (As.reverse ++ S).map (am_tr G) = (As.map (am_tr G)).reverse ++ S.map (am_tr G) := by rw [List.map_append, List.map_reverse]
  have hroom : 2 * (F0 m pc ls ((As.reverse ++ S).map (am_tr G))).monitorRoom + ((S.map (am_tr G)).map fun v => v.category).sum ≤ 8 := lv_room (by rw [am_rest hW]; exact hrs)
  have kk2 : ∀ (H1 : Heap) (locs1 : List Loc), am_Hp G r1.1 H1 → va_S (am_A G) s.heap H1 locs1 → W p l e R s m args below meth c H1 locs1 (cells + (r1.1.1 - h.1)) (slots + (r1.1.2.1 - h.2.1)) Q (F0 m (pc + 3) ls ((r1.2.map (am_tr G)).toList ++ S.map (am_tr G))) := fun H1 locs1 q1 q3 => by
    rw [am_tl]
    exact (kk G p l e R s m args below meth c Q n0 s0 H1 locs1 _ _ ls At hX hz hr1 hr2 hret (by omega) (by omega) q1 q3 hl)
  have hgood : ∀ x ∈ Cond.code M'.1 M'.2.1 M'.2.2.1 M'.2.2.2.1 :: am_Tg, x ∈ am_Tg := am_Tg_cons hM.2.2.1 (fun _ z => z)
  have hfix : CallFix p m c M.2.1 M.2.2.1 s args am_Tg M.1.cls := ⟨At.1, At.2.1, At.2.2.2.1, At.2.2.2.2.1, At.2.2.2.2.2.1⟩
  rcases hlk with hlk | ⟨host, hlk⟩
  · refine am_run (va_runS (As := As.map (am_tr G)) (rest := S.map (am_tr G)) hfix (hMet l G hX) (va_cwS n At.2.2.2.2.2.1 (am_Tg_good (am_Tg_cons hlk (am_Tg_cons hst (am_Tg_cons hM.2.2.2.2 hgood)))) rfl rfl rfl hM.2.1 ⟨Nat.le_trans hgt hfr, by show 8 + (M'.2.2.1 + 11) + 39 * M'.2.2.2.2 ≤ R.locals; omega⟩) hpre rfl (by rw [List.length_map]; exact hlen) hl.1 hstack hroom hd ⟨by omega, by omega⟩) hS kk2
  · refine am_run (va_runSN (As := As.map (am_tr G)) (rest := S.map (am_tr G)) hfix (hMet l G hX) ⟨va_cnB n At.2.2.2.2.2.1 (am_Tg_good hgood) rfl rfl rfl (hW.2.1 _ hlk) (At.2.2.2.2.2.1 _ hM.2.2.2.2) hM.2.1 ⟨Nat.le_trans hgt hfr, by show 8 + (M'.2.2.1 + 11) + 39 * M'.2.2.2.2 ≤ R.locals; omega⟩, At.2.2.2.2.2.1 _ hst, trivial⟩ hpre rfl (by rw [List.length_map]; exact hlen) hl.1 hstack hroom hd ⟨by omega, by omega⟩) hS kk2
set_option maxHeartbeats 1000000 in
theorem ev_callv {idx n a ci nf : Nat} {M' : am_M} (As : List Value) {st : List Value} {r1 : am_H × Option Value} {rf : Nat → Option (Option Nat)} {T : u_T} {N : Nat} (hci : ci < 100) (hcl : vwCl[ci]? = some (M'.1.cls, T, N)) (ha : am_at h a (ci, nf, rf)) (hd : decode M.2.1 pc = .ok (.invokevirtual idx, 3)) (hM : am_okM M' n) (hlk : am_lk M.1.cls idx M'.1) (hst : Cond.instanceMethod M'.1 ∈ am_Tg) (hsel : Cond.selects M'.1.cls M'.1 M'.1 ∈ am_Tg) (hgt : M'.2.2.2.2 + 1 ≤ M.2.2.2.2) (hlen : As.length = n) (hC : am_Cn X M' (.ref a :: As) h r1) (hstk : st = As.reverse ++ .ref a :: S) (hrs : (S.map fun v => v.category).sum ≤ 8) (hn : r1.1.1 ≤ r.1.1) (hn2 : r1.1.2.1 ≤ r.1.2.1) (kk : am_Ev X M (pc + 3) L (r1.2.toList ++ S) r1.1 r) : am_Ev X M pc L st h r := by
  intro G p l e R s m args below meth c Q n0 s0 H locs cells slots ls At hX hz hr1 hr2 hret hc hs hp hS hl
  subst hstk
  obtain ⟨g1, g2, hMet⟩ := hC
  have hW := At.2.2.2.2.2.2.2.2.1
  have hfr := At.2.2.2.2.2.2.2.2.2.1
  have hlo := At.2.2.2.2.2.2.2.2.2.2
  have hmx := hM.2.2.2.1
  have hrc := va_recv hW.1 hp hcl (am_c_obj (G := G) hci ha)
  obtain ⟨ra, hra, hrae⟩ : ∃ ra : Nat, am_tr G (.ref a) = .ref ra ∧ ra = G.2.2.1 + a := ⟨_, rfl, rfl⟩
  rw [← hrae] at hrc
  refine am_size hz hc hp hS (fun hsz => ?_)
  have hpre : PreV s H M'.1.cls ra (am_Pc G (.ref a :: As) h) (As.map (am_tr G)) := ⟨am_Pc_blind, hrc, fun U hU hWU => ⟨by rw [List.map_cons, hra], hW.move hWU (by rw [hU]; exact hS.1) (fun a h1 h2 => by rw [hU]; exact hS.2.1 a h1 h2), by rw [hU]; exact hsz, by rw [hU]; exact hp⟩⟩
  have hstack : (As.reverse ++ .ref a :: S).map (am_tr G) = (As.map (am_tr G)).reverse ++ .ref ra :: S.map (am_tr G) := by rw [List.map_append, List.map_reverse, List.map_cons, hra]
  have hroom : 2 * (F0 m pc ls ((As.reverse ++ .ref a :: S).map (am_tr G))).monitorRoom + ((S.map (am_tr G)).map fun v => v.category).sum ≤ 8 := lv_room (by rw [am_rest hW]; exact hrs)
  have kk2 : ∀ (H1 : Heap) (locs1 : List Loc), am_Hp G r1.1 H1 → va_S (am_A G) s.heap H1 locs1 → W p l e R s m args below meth c H1 locs1 (cells + (r1.1.1 - h.1)) (slots + (r1.1.2.1 - h.2.1)) Q (F0 m (pc + 3) ls ((r1.2.map (am_tr G)).toList ++ S.map (am_tr G))) := fun H1 locs1 q1 q3 => by
    rw [am_tl]
    exact (kk G p l e R s m args below meth c Q n0 s0 H1 locs1 _ _ ls At hX hz hr1 hr2 hret (by omega) (by omega) q1 q3 hl)
  have hgood : ∀ x ∈ Cond.code M'.1 M'.2.1 M'.2.2.1 M'.2.2.2.1 :: am_Tg, x ∈ am_Tg := am_Tg_cons hM.2.2.1 (fun _ z => z)
  have hfix : CallFix p m c M.2.1 M.2.2.1 s args am_Tg M.1.cls := ⟨At.1, At.2.1, At.2.2.2.1, At.2.2.2.2.1, At.2.2.2.2.2.1⟩
  rcases hlk with hlk | ⟨host, hlk⟩
  · refine am_run (va_runV (As := As.map (am_tr G)) (rest := S.map (am_tr G)) hfix (hMet l G hX) (cwV n At.2.2.2.2.2.1 (am_Tg_good (am_Tg_cons hlk (am_Tg_cons hst (am_Tg_cons hsel (am_Tg_cons hM.2.2.2.2 hgood))))) rfl rfl rfl ⟨rfl, hM.2.1⟩ ⟨Nat.le_trans hgt hfr, by show 8 + (M'.2.2.1 + 11) + 39 * M'.2.2.2.2 ≤ R.locals; omega⟩) hpre rfl (by rw [List.length_map]; exact hlen) hl.1 hstack hroom hd ⟨by omega, by omega⟩) hS kk2
  · refine am_run (va_runVN (As := As.map (am_tr G)) (rest := S.map (am_tr G)) hfix (hMet l G hX) ⟨va_cnB n At.2.2.2.2.2.1 (am_Tg_good hgood) rfl rfl rfl (hW.2.1 _ hlk) (At.2.2.2.2.2.1 _ hM.2.2.2.2) hM.2.1 ⟨Nat.le_trans hgt hfr, by show 8 + (M'.2.2.1 + 11) + 39 * M'.2.2.2.2 ≤ R.locals; omega⟩, At.2.2.2.2.2.1 _ hst, At.2.2.2.2.2.1 _ hsel⟩ hpre rfl (by rw [List.length_map]; exact hlen) hl.1 hstack hroom hd ⟨by omega, by omega⟩) hS kk2
set_option maxHeartbeats 1000000 in
theorem ev_callvS {idx n a : Nat} {M' : am_M} (As : List Value) {st : List Value} {r1 : am_H × Option Value} (hS0 : M'.1.cls = "java/lang/String") (ha : 4 ≤ a ∧ a < 10) (hd : decode M.2.1 pc = .ok (.invokevirtual idx, 3)) (hM : am_okM M' n) (hlk : am_lk M.1.cls idx M'.1) (hst : Cond.instanceMethod M'.1 ∈ am_Tg) (hsel : Cond.selects M'.1.cls M'.1 M'.1 ∈ am_Tg) (hgt : M'.2.2.2.2 + 1 ≤ M.2.2.2.2) (hlen : As.length = n) (hC : am_Cn X M' (.retAddr a :: As) h r1) (hstk : st = As.reverse ++ .retAddr a :: S) (hrs : (S.map fun v => v.category).sum ≤ 8) (hn : r1.1.1 ≤ r.1.1) (hn2 : r1.1.2.1 ≤ r.1.2.1) (kk : am_Ev X M (pc + 3) L (r1.2.toList ++ S) r1.1 r) : am_Ev X M pc L st h r := by
  intro G p l e R s m args below meth c Q n0 s0 H locs cells slots ls At hX hz hr1 hr2 hret hc hs hp hS hl
  subst hstk
  obtain ⟨g1, g2, hMet⟩ := hC
  have hW := At.2.2.2.2.2.2.2.2.1
  have hfr := At.2.2.2.2.2.2.2.2.2.1
  have hlo := At.2.2.2.2.2.2.2.2.2.2
  have hmx := hM.2.2.2.1
  have hm : ∃ q ∈ am_KS, q.2.2 = a := by
    rcases (show a = 4 ∨ a = 5 ∨ a = 6 ∨ a = 7 ∨ a = 8 ∨ a = 9 by omega) with z | z | z | z | z | z <;> subst z <;> decide
  obtain ⟨q, hq, hqa⟩ := hm
  obtain ⟨ra, hra, -, e3, -⟩ := hW.2.2.2.2.2.2.1 q hq
  have hra : am_tr G (.retAddr a) = .ref ra := by rw [← hqa]; exact hra
  have hrc : ∃ cell : Cell, H[ra]? = some cell ∧ cell.vm.isStatics = false ∧ s.vm.findClass M'.1.cls = some cell.cls := by
    obtain ⟨cell, f1, f2, f3, -⟩ := e3.kept hS.2.1
    exact ⟨cell, f1, f2, by rw [hS0]; exact f3⟩
  refine am_size hz hc hp hS (fun hsz => ?_)
  have hpre : PreV s H M'.1.cls ra (am_Pc G (.retAddr a :: As) h) (As.map (am_tr G)) := ⟨am_Pc_blind, hrc, fun U hU hWU => ⟨by rw [List.map_cons, hra], hW.move hWU (by rw [hU]; exact hS.1) (fun a h1 h2 => by rw [hU]; exact hS.2.1 a h1 h2), by rw [hU]; exact hsz, by rw [hU]; exact hp⟩⟩
  have hstack : (As.reverse ++ .retAddr a :: S).map (am_tr G) = (As.map (am_tr G)).reverse ++ .ref ra :: S.map (am_tr G) := by rw [List.map_append, List.map_reverse, List.map_cons, hra]
  have hroom : 2 * (F0 m pc ls ((As.reverse ++ .retAddr a :: S).map (am_tr G))).monitorRoom + ((S.map (am_tr G)).map fun v => v.category).sum ≤ 8 := lv_room (by rw [am_rest hW]; exact hrs)
  have kk2 : ∀ (H1 : Heap) (locs1 : List Loc), am_Hp G r1.1 H1 → va_S (am_A G) s.heap H1 locs1 → W p l e R s m args below meth c H1 locs1 (cells + (r1.1.1 - h.1)) (slots + (r1.1.2.1 - h.2.1)) Q (F0 m (pc + 3) ls ((r1.2.map (am_tr G)).toList ++ S.map (am_tr G))) := fun H1 locs1 q1 q3 => by
    rw [am_tl]
    exact (kk G p l e R s m args below meth c Q n0 s0 H1 locs1 _ _ ls At hX hz hr1 hr2 hret (by omega) (by omega) q1 q3 hl)
  have hgood : ∀ x ∈ Cond.code M'.1 M'.2.1 M'.2.2.1 M'.2.2.2.1 :: am_Tg, x ∈ am_Tg := am_Tg_cons hM.2.2.1 (fun _ z => z)
  have hfix : CallFix p m c M.2.1 M.2.2.1 s args am_Tg M.1.cls := ⟨At.1, At.2.1, At.2.2.2.1, At.2.2.2.2.1, At.2.2.2.2.2.1⟩
  rcases hlk with hlk | ⟨host, hlk⟩
  · refine am_run (va_runV (As := As.map (am_tr G)) (rest := S.map (am_tr G)) hfix (hMet l G hX) (cwV n At.2.2.2.2.2.1 (am_Tg_good (am_Tg_cons hlk (am_Tg_cons hst (am_Tg_cons hsel (am_Tg_cons hM.2.2.2.2 hgood))))) rfl rfl rfl ⟨rfl, hM.2.1⟩ ⟨Nat.le_trans hgt hfr, by show 8 + (M'.2.2.1 + 11) + 39 * M'.2.2.2.2 ≤ R.locals; omega⟩) hpre rfl (by rw [List.length_map]; exact hlen) hl.1 hstack hroom hd ⟨by omega, by omega⟩) hS kk2
  · refine am_run (va_runVN (As := As.map (am_tr G)) (rest := S.map (am_tr G)) hfix (hMet l G hX) ⟨va_cnB n At.2.2.2.2.2.1 (am_Tg_good hgood) rfl rfl rfl (hW.2.1 _ hlk) (At.2.2.2.2.2.1 _ hM.2.2.2.2) hM.2.1 ⟨Nat.le_trans hgt hfr, by show 8 + (M'.2.2.1 + 11) + 39 * M'.2.2.2.2 ≤ R.locals; omega⟩, At.2.2.2.2.2.1 _ hst, At.2.2.2.2.2.1 _ hsel⟩ hpre rfl (by rw [List.length_map]; exact hlen) hl.1 hstack hroom hd ⟨by omega, by omega⟩) hS kk2
set_option maxHeartbeats 1000000 in
theorem ev_calli {idx n a : Nat} {M' : am_M} (As : List Value) {st : List Value} {h1 : am_H} (hd : decode M.2.1 pc = .ok (.invokespecial idx, 3)) (hM : am_okM M' n) (hret0 : M'.2.2.2.1 = none) (hlk : am_lk M.1.cls idx M'.1) (hst : Cond.instanceMethod M'.1 ∈ am_Tg) (hnm : M'.1.name = "<init>") (hgt : M'.2.2.2.2 + 1 ≤ M.2.2.2.2) (hlen : As.length = n) (hC : am_Cn X M' (.ref a :: As) h (h1, none)) (hstk : st = As.reverse ++ .ref a :: S) (hrs : (S.map fun v => v.category).sum ≤ 8) (hn : h1.1 ≤ r.1.1) (hn2 : h1.2.1 ≤ r.1.2.1) (kk : am_Ev X M (pc + 3) L S h1 r) : am_Ev X M pc L st h r := by
  intro G p l e R s m args below meth c Q n0 s0 H locs cells slots ls At hX hz hr1 hr2 hret hc hs hp hS hl
  subst hstk
  obtain ⟨y', code', maxL', ret', hg'⟩ := M'
  obtain rfl : ret' = none := hret0
  obtain ⟨g1, g2, hMet⟩ := hC
  have hW := At.2.2.2.2.2.2.2.2.1
  have hfr := At.2.2.2.2.2.2.2.2.2.1
  have hlo := At.2.2.2.2.2.2.2.2.2.2
  have hmx : maxL' ≤ 20 := hM.2.2.2.1
  have hgt : hg' + 1 ≤ M.2.2.2.2 := hgt
  refine am_size hz hc hp hS (fun hsz => ?_)
  have hpre : PreS s H (am_Pc G (.ref a :: As) h) (.ref (G.2.2.1 + a) :: As.map (am_tr G)) := ⟨am_Pc_blind, fun U hU hWU => ⟨rfl, hW.move hWU (by rw [hU]; exact hS.1) (fun a h1 h2 => by rw [hU]; exact hS.2.1 a h1 h2), by rw [hU]; exact hsz, by rw [hU]; exact hp⟩⟩
  have hstack : (As.reverse ++ .ref a :: S).map (am_tr G) = (As.map (am_tr G)).reverse ++ .ref (G.2.2.1 + a) :: S.map (am_tr G) := by rw [List.map_append, List.map_reverse, List.map_cons]; rfl
  have hroom : 2 * (F0 m pc ls ((As.reverse ++ .ref a :: S).map (am_tr G))).monitorRoom + ((S.map (am_tr G)).map fun v => v.category).sum ≤ 8 := lv_room (by rw [am_rest hW]; exact hrs)
  have g1 : h.1 ≤ h1.1 := g1
  have g2 : h.2.1 ≤ h1.2.1 := g2
  have kk2 : ∀ (H1 : Heap) (locs1 : List Loc), am_Hp G h1 H1 → va_S (am_A G) s.heap H1 locs1 → W p l e R s m args below meth c H1 locs1 (cells + (h1.1 - h.1)) (slots + (h1.2.1 - h.2.1)) Q (F0 m (pc + 3) ls (((none : Option Value).map (am_tr G)).toList ++ S.map (am_tr G))) := fun H1 locs1 q1 q3 =>
    (kk G p l e R s m args below meth c Q n0 s0 H1 locs1 _ _ ls At hX hz hr1 hr2 hret (by omega) (by omega) q1 q3 hl)
  have hgood : ∀ x ∈ Cond.code y' code' maxL' none :: am_Tg, x ∈ am_Tg := am_Tg_cons hM.2.2.1 (fun _ z => z)
  have hfix : CallFix p m c M.2.1 M.2.2.1 s args am_Tg M.1.cls := ⟨At.1, At.2.1, At.2.2.2.1, At.2.2.2.2.1, At.2.2.2.2.2.1⟩
  rcases hlk with hlk | ⟨host, hlk⟩
  · exact am_run (r1 := (h1, none)) (va_runI (As := As.map (am_tr G)) (rest := S.map (am_tr G)) hfix (hMet l G hX) (cwI n At.2.2.2.2.2.1 (am_Tg_good hgood) rfl rfl rfl (At.2.2.2.2.2.1 _ hM.2.2.2.2) (At.2.2.2.2.2.1 _ hlk) (At.2.2.2.2.2.1 _ hst) hnm hM.2.1 ⟨Nat.le_trans hgt hfr, by show 8 + (maxL' + 11) + 39 * hg' ≤ R.locals; omega⟩) hpre rfl (by rw [List.length_map]; exact hlen) hl.1 hstack hroom hd ⟨by show cells + (h1.1 - h.1) ≤ _; omega, by show slots + (h1.2.1 - h.2.1) ≤ _; omega⟩) hS kk2
  · exact am_run (r1 := (h1, none)) (va_runIN (As := As.map (am_tr G)) (rest := S.map (am_tr G)) hfix (hMet l G hX) ⟨va_cnB n At.2.2.2.2.2.1 (am_Tg_good hgood) rfl rfl rfl (hW.2.1 _ hlk) (At.2.2.2.2.2.1 _ hM.2.2.2.2) hM.2.1 ⟨Nat.le_trans hgt hfr, by show 8 + (maxL' + 11) + 39 * hg' ≤ R.locals; omega⟩, hnm, At.2.2.2.2.2.1 _ hst⟩ hpre rfl (by rw [List.length_map]; exact hlen) hl.1 hstack hroom hd ⟨by show cells + (h1.1 - h.1) ≤ _; omega, by show slots + (h1.2.1 - h.2.1) ≤ _; omega⟩) hS kk2
end AM
