/-! THE CLAIM OUT OF ONE WALK OF THE LAW'S BODY. Your part is whole_start (and what it stands on); all else here is the same for every law, but numbers. -/
def R_law : String := "SandRipplesLaw"
def lw_P (b : Addr) (xs : List Int32) (args : Array Value) (s : State) : Prop := args = #[.ref b] ∧ s.IntsAt b xs ∧ xs.length ≤ 384 ∧ (Jvm.Cond.and given_1 narrow_1).before args s = true
def lw_Q (_ : Array Value) (s : State) (o : Outcome) (t : State) : Prop := o = .returned (some (.int 1)) ∧ Framed s o t [] 600000 7302250
def lw_Z (below : List Frame) (a : Array Value) (s : State) : State → Prop := fun t => ∃ o, t.status = .running ∧ Ended t below o ∧ lw_Q a s o t
/-- the law's own end, with 1 on the stack, nothing written that was there before, its room as the claim has it -/
theorem lw_ret {p : Program} {l : Launch} {e : Env} {s : State} {m : MethodId} {below : List Frame} {meth : Method} {c : Code} {b : Nat} (hx : p.tables.exec = Jvm.exec) (hb : c.code = code) (hr : meth.sig.returnType = ret) (hlocks : meth.locks = false) {pc : Nat} {H : Heap} {ls : Array Slot} (hdg : decode code pc = .ok (.ireturn, 1)) : W p l e room_1 s m #[Value.ref b] below meth c H [] 600000 7302250 (lw_Z below #[Value.ref b] s) (F0 m pc ls [.int 1]) := by
  intro T hT X
  obtain ⟨fs, hret, hrun, hended, hW, hframe⟩ := X.leave (v := some (.int 1)) (hlocks := hlocks) (fun h => by rw [hr] at h; cases h)
  have hmeth' : T.vm.method? m = some meth := X.method'
  refine ⟨T.setFrames fs, ?_, .returned (some (.int 1)), hrun, hended, rfl, ⟨_, rfl⟩, hW, hframe⟩
  jvm_step X.here [X.here.top, hx, hb, hdg, hmeth', hr, ret, narrow_b1]
  (try refine ⟨rfl, ?_⟩); (try refine ⟨rfl, ?_⟩)
  first | (intro acts; rw [hret _ acts rfl rfl rfl]) | rw [hret _ _ rfl rfl rfl]
  exact Steps.refl _
/-- what holds at the law's entry: the machine, the code, the tables' words (any of lw_tbl by 'hts w (by decide +kernel)'), the script of L ints xs at the cell b, what the Statement gives of the start (any of its parts by flat_of_before) -/
def lw_At (p : Program) (s : State) (m : MethodId) (meth : Method) (c : Code) (b L : Nat) (xs : Nat → Int32) : Prop :=
  p.tables.exec = Jvm.exec ∧ c.code = code ∧ meth.sig.returnType = ret ∧ c.maxLocals = 4 ∧ s.vm.findClass R_law = some m.cls ∧ (∀ w ∈ lw_tbl, w.before #[Value.ref b] s = true) ∧ va_X b L xs s s.heap ∧ b < s.heap.size ∧ meth.locks = false ∧ (Jvm.Cond.and given_1 narrow_1).before #[Value.ref b] s = true
/-- what is left to be shown: pure -/
def PureGoal : Prop := ∀ X : Nat × (Nat → Int32), X.1 ≤ 384 → ∃ u' : am_MU, g_L_law_18 X 1700 u0 0 = some (u', 1)
theorem st_arr {s : State} {args : Array Value} {ty : FieldType} (h : (Cond.arrayClass ty).before args s = true) : ∃ cA, ArrOfT s cA ty ∧ s.vm.findClass ("[" ++ ty.toString) = some cA := by
  obtain ⟨cA, kA, comp, h1, h2, h3⟩ := Cond.arrayClass_spec h
  exact ⟨cA, fun n z => ⟨fun k h => (by cases h), kA, h2, comp, h3⟩, h1⟩
theorem st_ref {s : State} {C : String} (h : va_AO C s) : ∃ cA, ArrOfT s cA (.object C) ∧ va_RA s cA (.object C) := by
  obtain ⟨comp, cA, kA, h1, h2, h3, h4, h5⟩ := Cond.arrayOver_spec h
  exact ⟨cA, fun n z => ⟨fun k h => (by cases h), kA, h3, comp, h4⟩, kA, comp, h3, h4, h1, h5⟩
theorem st_x {b L : Nat} {xs : Nat → Int32} {s : State} {A : Nat → Prop} (h : va_X b L xs s s.heap) (hA : ¬ A b) : va_T .int b L (fun j => .int (xs j)) A s s.heap := by
  obtain ⟨scr, h1, h2, h3, h4, h5⟩ := h
  exact ⟨scr, h1, h2, h3, by omega, by rw [h4], h5, hA⟩
theorem st_tab {args : Array Value} {s : State} {C n : String} {N : Nat} (f : Nat → Int32) {A : Nat → Prop} (hN : N < 2 ^ 31) (harr : (Cond.arrayOf (.static C n "[I") .int).before args s = true) (hlen : (Cond.eq (.length (.static C n "[I")) (.int (Int32.ofNat N))).before args s = true) (hel : ∀ j : Nat, j < N → (Cond.eq (.elem (.static C n "[I") (.int (Int32.ofNat j))) (.int (f j))).before args s = true) (hA : ∀ a : Nat, a < s.heap.size → ¬ A a) (hl : (Cond.laysStatic C n "[I").before args s = true) (hini : (Cond.initialized C).before args s = true) : ∃ t : Nat, va_T .int t N (fun j => .int (f j)) A s s.heap ∧ va_Z C n "[I" (.ref t) A s s.heap := by
  obtain ⟨t, h1, h2⟩ := va_Tof (f := fun j => .int (f j)) hN harr (va_eqt hlen) (fun j hj => va_eqt (hel j hj)) hA
  exact ⟨t, h2, va_Zref hl hini h1 hA⟩
set_option maxHeartbeats 4000000 in
set_option maxRecDepth 100000 in
theorem whole_start_of (PG : PureGoal) {p : Program} {e : Env} {s : State} {m : MethodId} {below : List Frame} {meth : Method} {c : Code} (l : Launch) {b L : Nat} {xs : Nat → Int32} (hL : L ≤ 384) (C0 : lw_At p s m meth c b L xs) : W p l e room_1 s m #[Value.ref b] below meth c s.heap [] 0 0 (lw_Z below #[Value.ref b] s) (entryFrame m ([Value.ref b] : List Value).toArray 4) := by
  obtain ⟨hx, hb, hr, hml, hown, hts, hXs, hbl, hlocks, hgv⟩ := id C0
  have htg : ∀ w ∈ am_Tg, w.before #[Value.ref b] s = true := fun w hw => hts w (List.mem_filter.mp hw).1
  have htt : ∀ w ∈ tables_1, w.before #[Value.ref b] s = true := fun w hw => hts w (List.mem_append_right _ hw)
  have hn := flat_of_before _ hgv
  have hA : ∀ a : Nat, a < s.heap.size → ¬ (fun q : Nat => s.heap.size ≤ q) a := fun a h1 h2 => by have h2 : s.heap.size ≤ a := h2; omega
  obtain ⟨c0, iS0, hKn0⟩ := u_known (C := RX0) (T := TX0) (N := 3) (n := 3) htg okC_0.2.1 (htg _ okC_0.2.2.2.2.1)
  obtain ⟨c1, iS1, hKn1⟩ := u_known (C := RX1) (T := TX1) (N := 9) (n := 9) htg okC_1.2.1 (htg _ okC_1.2.2.2.2.1)
  obtain ⟨c2, iS2, hKn2⟩ := u_known (C := RX2) (T := TX2) (N := 3) (n := 3) htg okC_2.2.1 (htg _ okC_2.2.2.2.2.1)
  obtain ⟨c3, iS3, hKn3⟩ := u_known (C := RX3) (T := TX3) (N := 4) (n := 4) htg okC_3.2.1 (htg _ okC_3.2.2.2.2.1)
  obtain ⟨c4, iS4, hKn4⟩ := u_known (C := RX4) (T := TX4) (N := 4) (n := 4) htg okC_4.2.1 (htg _ okC_4.2.2.2.2.1)
  obtain ⟨c5, iS5, hKn5⟩ := u_known (C := RX5) (T := TX5) (N := 6) (n := 6) htg okC_5.2.1 (htg _ okC_5.2.2.2.2.1)
  obtain ⟨c6, iS6, hKn6⟩ := u_known (C := RX6) (T := TX6) (N := 14) (n := 14) htg okC_6.2.1 (htg _ okC_6.2.2.2.2.1)
  obtain ⟨c7, iS7, hKn7⟩ := u_known (C := RX7) (T := TX7) (N := 34) (n := 34) htg okC_7.2.1 (htg _ okC_7.2.2.2.2.1)
  obtain ⟨dC, dI, hKc⟩ : ∃ (dC : Nat → ClassId) (dI : Nat → Nat → Nat), ∀ (k : Nat) (q : vw_C), vwCl[k]? = some q → u_Kn s q.1 q.2.1 q.2.2 (dC k) (dI k) := by
    refine ⟨fun k => match k with
      | 0 => c0
      | 1 => c1
      | 2 => c2
      | 3 => c3
      | 4 => c4
      | 5 => c5
      | 6 => c6
      | _ => c7, fun k => match k with
      | 0 => iS0
      | 1 => iS1
      | 2 => iS2
      | 3 => iS3
      | 4 => iS4
      | 5 => iS5
      | 6 => iS6
      | _ => iS7, ?_⟩
    intro k q hq
    match k, hq with
    | 0, hq => cases hq; exact hKn0
    | 1, hq => cases hq; exact hKn1
    | 2, hq => cases hq; exact hKn2
    | 3, hq => cases hq; exact hKn3
    | 4, hq => cases hq; exact hKn4
    | 5, hq => cases hq; exact hKn5
    | 6, hq => cases hq; exact hKn6
    | 7, hq => cases hq; exact hKn7
    | k + 8, hq => simp [vwCl] at hq
  obtain ⟨a0, ha0, hb0⟩ := st_arr (htg _ w_ac0)
  obtain ⟨a1, ha1, hb1⟩ := st_arr (htg _ w_ac1)
  obtain ⟨a2, ha2, hb2⟩ := st_arr (htg _ w_ac2)
  have hao : ∀ C ∈ (["SandRipples$Floor", "SandRipples$Text", "SandRipples$Sheet", "SandRipples$Slot"] : List String), va_AO C s := by
    intro C hC
    refine va_AO.of (htt (.arrayOver (.object C)) ?_)
    simp only [List.mem_cons, List.mem_nil_iff, or_false] at hC
    rcases hC with rfl | rfl | rfl | rfl
    · exact List.mem_of_getElem? tq_36
    · exact List.mem_of_getElem? tq_83
    · exact List.mem_of_getElem? tq_123
    · exact List.mem_of_getElem? tq_125
  obtain ⟨a3, ha3⟩ := st_ref (hao "SandRipples$Floor" (by decide))
  obtain ⟨a4, ha4⟩ := st_ref (hao "SandRipples$Text" (by decide))
  obtain ⟨a5, ha5⟩ := st_ref (hao "SandRipples$Sheet" (by decide))
  obtain ⟨a6, ha6⟩ := st_ref (hao "SandRipples$Slot" (by decide))
  obtain ⟨t1, ht1, hz1⟩ := st_tab (N := 6) (f := fun j => ([-1, 0, 0, 1, 2, 0] : List Int32).getD j 0) (A := fun q : Nat => s.heap.size ≤ q) (by decide) (hn (.arrayOf (.static "SandRipples" "KIND_ABOVE" "[I") .int) (by decide +kernel)) (hn _ (by decide +kernel)) (fun j hj => by rcases (show j = 0 ∨ j = 1 ∨ j = 2 ∨ j = 3 ∨ j = 4 ∨ j = 5 by omega) with rfl | rfl | rfl | rfl | rfl | rfl <;> exact hn _ (by decide +kernel)) hA (htt _ (List.mem_of_getElem? tq_335)) (htg _ tw_1)
  obtain ⟨t2, ht2, hz2⟩ := st_tab (N := 4) (f := fun j => ([0, 0, 0, 1] : List Int32).getD j 0) (A := fun q : Nat => s.heap.size ≤ q) (by decide) (hn (.arrayOf (.static "SandRipples" "SEA_LEAST" "[I") .int) (by decide +kernel)) (hn _ (by decide +kernel)) (fun j hj => by rcases (show j = 0 ∨ j = 1 ∨ j = 2 ∨ j = 3 by omega) with rfl | rfl | rfl | rfl <;> exact hn _ (by decide +kernel)) hA (htt _ (List.mem_of_getElem? tq_346)) (htg _ tw_1)
  obtain ⟨t3, ht3, hz3⟩ := st_tab (N := 4) (f := fun j => ([11, 9, 11, 20] : List Int32).getD j 0) (A := fun q : Nat => s.heap.size ≤ q) (by decide) (hn (.arrayOf (.static "SandRipples" "SEA_MOST" "[I") .int) (by decide +kernel)) (hn _ (by decide +kernel)) (fun j hj => by rcases (show j = 0 ∨ j = 1 ∨ j = 2 ∨ j = 3 by omega) with rfl | rfl | rfl | rfl <;> exact hn _ (by decide +kernel)) hA (htt _ (List.mem_of_getElem? tq_348)) (htg _ tw_1)
  have hz4 : va_Z "java/lang/String" "COMPACT_STRINGS" "Z" (.int 1) (fun q : Nat => s.heap.size ≤ q) s s.heap := va_Zof (htt _ (List.mem_of_getElem? tq_561)) (htg _ tw_12) (va_eqi (hn _ (by decide +kernel))) hA
  have hzq : va_Zq "jdk/internal/util/Preconditions" "SIOOBE_FORMATTER" "Ljava/util/function/BiFunction;" (fun q : Nat => s.heap.size ≤ q) s s.heap := va_Zqof (htt _ (List.mem_of_getElem? tq_577)) (htg _ tw_14) (hn _ (by decide +kernel)) hA
  obtain ⟨v16, hv16, hz5⟩ : ∃ v : Value, (v = .null ∨ ∃ a, v = .ref a) ∧ va_Z "jdk/internal/util/Preconditions" "SIOOBE_FORMATTER" "Ljava/util/function/BiFunction;" v (fun q : Nat => s.heap.size ≤ q) s s.heap := by
    rcases hzq with h | ⟨t, h⟩
    · exact ⟨_, Or.inl rfl, h⟩
    · exact ⟨_, Or.inr ⟨t, rfl⟩, h⟩
  obtain ⟨adK, adV, hS6, hev⟩ := vk_Sof (args := #[Value.ref b]) (s := s) (N := 6) (tm := fun i => .string "SandRipples$Reader" (120 + 2 * i)) (len := [4, 5, 4, 3, 2, 2]) (byt := am_kb) (A := fun q : Nat => s.heap.size ≤ q) (fun i hi => by rcases (show i = 0 ∨ i = 1 ∨ i = 2 ∨ i = 3 ∨ i = 4 ∨ i = 5 by omega) with rfl | rfl | rfl | rfl | rfl | rfl <;> decide)
    (fun i hi => by rcases (show i = 0 ∨ i = 1 ∨ i = 2 ∨ i = 3 ∨ i = 4 ∨ i = 5 by omega) with rfl | rfl | rfl | rfl | rfl | rfl <;> exact hn _ (by decide +kernel))
    (fun i hi => by rcases (show i = 0 ∨ i = 1 ∨ i = 2 ∨ i = 3 ∨ i = 4 ∨ i = 5 by omega) with rfl | rfl | rfl | rfl | rfl | rfl <;> exact hn _ (by decide +kernel))
    (fun i hi => by rcases (show i = 0 ∨ i = 1 ∨ i = 2 ∨ i = 3 ∨ i = 4 ∨ i = 5 by omega) with rfl | rfl | rfl | rfl | rfl | rfl <;> exact hn _ (by decide +kernel))
    (fun i hi => by rcases (show i = 0 ∨ i = 1 ∨ i = 2 ∨ i = 3 ∨ i = 4 ∨ i = 5 by omega) with rfl | rfl | rfl | rfl | rfl | rfl <;> exact hn _ (by decide +kernel))
    (fun i hi j hj => by
      rcases (show i = 0 ∨ i = 1 ∨ i = 2 ∨ i = 3 ∨ i = 4 ∨ i = 5 by omega) with rfl | rfl | rfl | rfl | rfl | rfl <;> have hj5 : j < 5 := Nat.lt_of_lt_of_le hj (by decide) <;>
        rcases (show j = 0 ∨ j = 1 ∨ j = 2 ∨ j = 3 ∨ j = 4 by omega) with rfl | rfl | rfl | rfl | rfl <;> first | exact hn _ (by decide +kernel) | exact absurd hj (by decide))
    (fun i j hi hj hij => by
      rcases (show i = 0 ∨ i = 1 ∨ i = 2 ∨ i = 3 ∨ i = 4 ∨ i = 5 by omega) with rfl | rfl | rfl | rfl | rfl | rfl <;> rcases (show j = 0 ∨ j = 1 ∨ j = 2 ∨ j = 3 ∨ j = 4 ∨ j = 5 by omega) with rfl | rfl | rfl | rfl | rfl | rfl <;> first | exact absurd rfl hij | exact Or.inl (hn _ (by decide +kernel)) | exact Or.inr (hn _ (by decide +kernel)))
    hA
  obtain ⟨cK, hcK⟩ : ∃ cK : Nat → Value, (∀ k, cK k = .null ∨ ∃ a, cK k = .ref a) ∧ cK 0 = .ref b ∧ cK 1 = .ref t1 ∧ cK 2 = .ref t2 ∧ cK 3 = .ref t3 ∧ (∀ i, i < 6 → cK (4 + i) = .ref (adK i)) ∧ (∀ i, i < 6 → cK (10 + i) = .ref (adV i)) ∧ cK 16 = v16 := by
    refine ⟨fun k => if k = 0 then .ref b else if k = 1 then .ref t1 else if k = 2 then .ref t2 else if k = 3 then .ref t3 else if k < 10 then .ref (adK (k - 4)) else if k < 16 then .ref (adV (k - 10)) else v16, fun k => ?_, rfl, rfl, rfl, rfl, fun i hi => ?_, fun i hi => ?_, rfl⟩
    · dsimp only
      repeat' split
      all_goals first | exact Or.inr ⟨_, rfl⟩ | exact hv16
    · dsimp only
      rw [if_neg (by omega), if_neg (by omega), if_neg (by omega), if_neg (by omega), if_pos (by omega), Nat.add_sub_cancel_left]
    · dsimp only
      rw [if_neg (by omega), if_neg (by omega), if_neg (by omega), if_neg (by omega), if_neg (by omega), if_pos (by omega), Nat.add_sub_cancel_left]
  obtain ⟨k0, k1, k2, k3, k4, k5, k6, k7⟩ := hcK
  obtain ⟨aT, haT⟩ : ∃ aT : Nat → ClassId, aT 0 = a0 ∧ aT 1 = a1 ∧ aT 2 = a2 ∧ aT 3 = a3 ∧ aT 4 = a4 ∧ aT 5 = a5 ∧ aT 6 = a6 := ⟨fun k => ([a0, a1, a2, a3, a4, a5, a6] : List ClassId).getD k a0, rfl, rfl, rfl, rfl, rfl, rfl, rfl⟩
  obtain ⟨rfl, rfl, rfl, rfl, rfl, rfl, rfl⟩ := haT
  have hW : am_W ((dC, dI), aT, s.heap.size, cK, L, xs) s := by
    refine ⟨⟨hKc, fun k q hk => ?_⟩, fun w hw => ?_, Nat.le_refl _, fun k => ?_, fun k q hk => ?_, fun q hq => ?_, fun q hq => ?_, hao⟩
    · match k, hk with
      | 0, hk => cases hk; exact ⟨ha0, hb0⟩
      | 1, hk => cases hk; exact ⟨ha1, hb1⟩
      | 2, hk => cases hk; exact ⟨ha2, hb2⟩
      | 3, hk => cases hk; exact ha3
      | 4, hk => cases hk; exact ha4
      | 5, hk => cases hk; exact ha5
      | 6, hk => cases hk; exact ha6
      | k + 7, hk => simp [am_tys] at hk
    · have h9 := List.mem_filter.mp hw
      have h8 := htt w h9.1
      have h7 := h9.2
      unfold am_nwq at h7
      split at h7
      · exact va_Nw.of rfl h8
      · exact va_Nw.of rfl h8
      · cases h7
    · rcases k0 k with h | ⟨a, h⟩
      · exact ⟨by show (cK k).category = 1; rw [h]; rfl, Or.inl h⟩
      · exact ⟨by show (cK k).category = 1; rw [h]; rfl, Or.inr ⟨a, h⟩⟩
    · match k, hk with
      | 0, hk => cases hk; exact ⟨b, k1, st_x hXs (hA b hbl)⟩
      | 1, hk => cases hk; exact ⟨t1, k2, ht1⟩
      | 2, hk => cases hk; exact ⟨t2, k3, ht2⟩
      | 3, hk => cases hk; exact ⟨t3, k4, ht3⟩
      | 4, hk => cases hk
      | 5, hk => cases hk
      | 6, hk => cases hk
      | 7, hk => cases hk
      | 8, hk => cases hk
      | 9, hk => cases hk
      | 10, hk => cases hk; exact ⟨_, k6 0 (by decide), (hS6.1 0 (by decide)).2.2.2⟩
      | 11, hk => cases hk; exact ⟨_, k6 1 (by decide), (hS6.1 1 (by decide)).2.2.2⟩
      | 12, hk => cases hk; exact ⟨_, k6 2 (by decide), (hS6.1 2 (by decide)).2.2.2⟩
      | 13, hk => cases hk; exact ⟨_, k6 3 (by decide), (hS6.1 3 (by decide)).2.2.2⟩
      | 14, hk => cases hk; exact ⟨_, k6 4 (by decide), (hS6.1 4 (by decide)).2.2.2⟩
      | 15, hk => cases hk; exact ⟨_, k6 5 (by decide), (hS6.1 5 (by decide)).2.2.2⟩
      | k + 16, hk => cases hk
    · simp only [am_KZ, List.mem_cons, List.mem_nil_iff, or_false] at hq
      rcases hq with rfl | rfl | rfl | rfl | rfl
      · show va_Z _ _ _ (cK 1) _ _ _; rw [k2]; exact hz1
      · show va_Z _ _ _ (cK 2) _ _ _; rw [k3]; exact hz2
      · show va_Z _ _ _ (cK 3) _ _ _; rw [k4]; exact hz3
      · exact hz4
      · show va_Z _ _ _ (cK 16) _ _ _; rw [k7]; exact hz5
    · have key : ∀ i, i < 6 → ∀ tx, (Cond.stringRef "SandRipples$Reader" (120 + 2 * i) tx).before #[Value.ref b] s = true → ∃ t, cK (4 + i) = .ref t ∧ vk_R "SandRipples$Reader" (120 + 2 * i) tx t s ∧ va_O "java/lang/String" t (fun q : Nat => s.heap.size ≤ q) s s.heap ∧ va_OF "java/lang/String" "coder" "B" (.int 0) t (fun q : Nat => s.heap.size ≤ q) s s.heap ∧ va_OF "java/lang/String" "value" "[B" (cK (10 + i)) t (fun q : Nat => s.heap.size ≤ q) s s.heap := by
        intro i hi tx h1
        obtain ⟨q1, q2, q3, -⟩ := hS6.1 i hi
        exact ⟨adK i, k5 i hi, vk_R.of h1 (hev i hi), q1, q2, by rw [k6 i hi]; exact q3⟩
      simp only [am_KS, List.mem_cons, List.mem_nil_iff, or_false] at hq
      rcases hq with rfl | rfl | rfl | rfl | rfl | rfl
      · exact key 0 (by decide) _ (htt _ (List.mem_of_getElem? tq_546))
      · exact key 1 (by decide) _ (htt _ (List.mem_of_getElem? tq_547))
      · exact key 2 (by decide) _ (htt _ (List.mem_of_getElem? tq_548))
      · exact key 3 (by decide) _ (htt _ (List.mem_of_getElem? tq_630))
      · exact key 4 (by decide) _ (htt _ (List.mem_of_getElem? tq_631))
      · exact key 5 (by decide) _ (htt _ (List.mem_of_getElem? tq_632))
  obtain ⟨u', hpure⟩ := PG (L, xs) hL
  have E := law_start u' hpure
  have At : am_At M_L_law ((dC, dI), aT, s.heap.size, cK, L, xs) p room_1 s m #[Value.ref b] meth c := ⟨hx, hb, hr, hml, hown, htg, hlocks, fun h => absurd h (by decide), hW, by decide, by decide⟩
  rw [lg_entry_eq]
  have hl0 := lv_entry ([.ref b]) (n := 4) (Nat.le_of_ble_eq_true rfl)
  refine E ((dC, dI), aT, s.heap.size, cK, L, xs) p l e room_1 s m #[Value.ref b] below meth c _ 0 0 s.heap [] 0 0 _ At rfl rfl (show 133 ≤ 0 + 600000 by decide) (show am_sl ≤ 0 + 7302250 by rw [am_sl_v]; decide) ?_ rfl rfl (fun k q hk => by simp [am_ws, hl] at hk) va_S.rf ?_
  · intro H' locs' pc' ls' ins hdec hisR hp' hS'
    obtain ⟨rfl, -⟩ := hisR
    refine va_forget (fun q hq => hS'.2.2 q hq) ?_
    refine W.widen (k := 600000) (n := 7302250) (show 133 - 0 ≤ 600000 by decide) (show am_sl - 0 ≤ 7302250 by rw [am_sl_v]; decide) ?_
    exact lw_ret hx hb hr hlocks hdec
  · have e1 : lv_args 0 [Value.ref b] = am_lv ((dC, dI), aT, s.heap.size, cK, L, xs) [(0, .retAddr 0)] := by
      show [(0, Value.ref b)] = [(0, cK 0)]
      rw [k1]
    rw [e1] at hl0
    exact hl0
