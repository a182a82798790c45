-- java/lang/Math.max(II)I
def f_J9_max_7cf53  (u : am_MU) (l0 : Int32) (l1 : Int32) : Option (am_MU × Int32) :=
if l0 < l1 then (some (u, l1))
else (some (u, l0))

theorem l_J9_max_7cf53_0 {X : Nat × (Nat → Int32)}   (u : am_MU) (l0 : Int32) (l1 : Int32) (r : am_MU × Int32) (h : f_J9_max_7cf53  u l0 l1 = some r) : am_Ev X M_J9_max_7cf53 0 [(0, .int l0), (1, .int l1)] [] (hp u) (hp r.1, some (.int r.2)) := by
  unfold f_J9_max_7cf53 at h
  refine ev_iload_n dJ9_max_7cf53_0 0 rfl ?_
  refine ev_iload_n dJ9_max_7cf53_1 1 rfl ?_
  refine ev_icmp_lt 9 dJ9_max_7cf53_2 (by decide) (fun c1 => ?_) (fun c1 => ?_)
  · have h := am_t c1 h
    refine ev_iload_n dJ9_max_7cf53_9 1 rfl ?_
    obtain rfl := Option.some.inj h
    exact ev_iret dJ9_max_7cf53_10 rfl rfl
  · have h := am_e c1 h
    refine ev_iload_n dJ9_max_7cf53_5 0 rfl ?_
    refine ev_goto 10 dJ9_max_7cf53_6 (by decide) ?_
    obtain rfl := Option.some.inj h
    exact ev_iret dJ9_max_7cf53_10 rfl rfl

theorem c_J9_max_7cf53 {X : Nat × (Nat → Int32)} {u : am_MU} {l0 : Int32} {l1 : Int32} {r : am_MU × Int32} (h : f_J9_max_7cf53 u l0 l1 = some r) : am_Cn X M_J9_max_7cf53 [.int l0, .int l1] (hp u) (hp r.1, some (.int r.2)) := by
  refine am_Cn.of ok_J9_max_7cf53 (Nat.le_refl _) (Nat.le_refl _) (Nat.le_of_ble_eq_true rfl) ?_
  refine ev_loc [0, 1] rfl ?_
  exact l_J9_max_7cf53_0 u l0 l1 r h

-- java/lang/Math.min(II)I
def f_J9_min_7cf53  (u : am_MU) (l0 : Int32) (l1 : Int32) : Option (am_MU × Int32) :=
if l1 < l0 then (some (u, l1))
else (some (u, l0))

theorem l_J9_min_7cf53_0 {X : Nat × (Nat → Int32)}   (u : am_MU) (l0 : Int32) (l1 : Int32) (r : am_MU × Int32) (h : f_J9_min_7cf53  u l0 l1 = some r) : am_Ev X M_J9_min_7cf53 0 [(0, .int l0), (1, .int l1)] [] (hp u) (hp r.1, some (.int r.2)) := by
  unfold f_J9_min_7cf53 at h
  refine ev_iload_n dJ9_min_7cf53_0 0 rfl ?_
  refine ev_iload_n dJ9_min_7cf53_1 1 rfl ?_
  refine ev_icmp_gt 9 dJ9_min_7cf53_2 (by decide) (fun c1 => ?_) (fun c1 => ?_)
  · have h := am_t c1 h
    refine ev_iload_n dJ9_min_7cf53_9 1 rfl ?_
    obtain rfl := Option.some.inj h
    exact ev_iret dJ9_min_7cf53_10 rfl rfl
  · have h := am_e c1 h
    refine ev_iload_n dJ9_min_7cf53_5 0 rfl ?_
    refine ev_goto 10 dJ9_min_7cf53_6 (by decide) ?_
    obtain rfl := Option.some.inj h
    exact ev_iret dJ9_min_7cf53_10 rfl rfl

theorem c_J9_min_7cf53 {X : Nat × (Nat → Int32)} {u : am_MU} {l0 : Int32} {l1 : Int32} {r : am_MU × Int32} (h : f_J9_min_7cf53 u l0 l1 = some r) : am_Cn X M_J9_min_7cf53 [.int l0, .int l1] (hp u) (hp r.1, some (.int r.2)) := by
  refine am_Cn.of ok_J9_min_7cf53 (Nat.le_refl _) (Nat.le_refl _) (Nat.le_of_ble_eq_true rfl) ?_
  refine ev_loc [0, 1] rfl ?_
  exact l_J9_min_7cf53_0 u l0 l1 r h

-- java/lang/Integer.compare(II)I
def f_J6_compare_7cf53  (u : am_MU) (l0 : Int32) (l1 : Int32) : Option (am_MU × Int32) :=
if l1 ≤ l0 then (if l0 = l1 then (some (u, (0 : Int32)))
else (some (u, (1 : Int32))))
else (some (u, ((-1) : Int32)))

theorem l_J6_compare_7cf53_0 {X : Nat × (Nat → Int32)}   (u : am_MU) (l0 : Int32) (l1 : Int32) (r : am_MU × Int32) (h : f_J6_compare_7cf53  u l0 l1 = some r) : am_Ev X M_J6_compare_7cf53 0 [(0, .int l0), (1, .int l1)] [] (hp u) (hp r.1, some (.int r.2)) := by
  unfold f_J6_compare_7cf53 at h
  refine ev_iload_n dJ6_compare_7cf53_0 0 rfl ?_
  refine ev_iload_n dJ6_compare_7cf53_1 1 rfl ?_
  refine ev_icmp_ge 9 dJ6_compare_7cf53_2 (by decide) (fun c1 => ?_) (fun c1 => ?_)
  · have h := am_t c1 h
    refine ev_iload_n dJ6_compare_7cf53_9 0 rfl ?_
    refine ev_iload_n dJ6_compare_7cf53_10 1 rfl ?_
    refine ev_icmp_ne 18 dJ6_compare_7cf53_11 (by decide) (fun c2 => ?_) (fun c2 => ?_)
    · have h := am_e c2 h
      refine ev_iconst (v := (1 : Int32)) dJ6_compare_7cf53_18 kI_1 ?_
      obtain rfl := Option.some.inj h
      exact ev_iret dJ6_compare_7cf53_19 rfl rfl
    · have h := am_t c2 h
      refine ev_iconst (v := (0 : Int32)) dJ6_compare_7cf53_14 kI_0 ?_
      refine ev_goto 19 dJ6_compare_7cf53_15 (by decide) ?_
      obtain rfl := Option.some.inj h
      exact ev_iret dJ6_compare_7cf53_19 rfl rfl
  · have h := am_e c1 h
    refine ev_iconst (v := ((-1) : Int32)) dJ6_compare_7cf53_5 kI_m1 ?_
    refine ev_goto 19 dJ6_compare_7cf53_6 (by decide) ?_
    obtain rfl := Option.some.inj h
    exact ev_iret dJ6_compare_7cf53_19 rfl rfl

theorem c_J6_compare_7cf53 {X : Nat × (Nat → Int32)} {u : am_MU} {l0 : Int32} {l1 : Int32} {r : am_MU × Int32} (h : f_J6_compare_7cf53 u l0 l1 = some r) : am_Cn X M_J6_compare_7cf53 [.int l0, .int l1] (hp u) (hp r.1, some (.int r.2)) := by
  refine am_Cn.of ok_J6_compare_7cf53 (Nat.le_refl _) (Nat.le_refl _) (Nat.le_of_ble_eq_true rfl) ?_
  refine ev_loc [0, 1] rfl ?_
  exact l_J6_compare_7cf53_0 u l0 l1 r h

-- java/lang/Math.floorMod(II)I
def f_J9_floorMod_7cf53  (u : am_MU) (l0 : Int32) (l1 : Int32) : Option (am_MU × Int32) :=
if ¬ l1 = 0 then (
am_let (l0 - l0 / l1 * l1) fun x2 =>
if 0 ≤ (l0 ^^^ l1) then (some (u, x2))
else (if x2 = 0 then (some (u, x2))
else (some (u, x2 + l1)))) else none

theorem l_J9_floorMod_7cf53_0 {X : Nat × (Nat → Int32)}   (u : am_MU) (l0 : Int32) (l1 : Int32) (r : am_MU × Int32) (h : f_J9_floorMod_7cf53  u l0 l1 = some r) : am_Ev X M_J9_floorMod_7cf53 0 [(0, .int l0), (1, .int l1)] [] (hp u) (hp r.1, some (.int r.2)) := by
  unfold f_J9_floorMod_7cf53 at h
  refine ev_iload_n dJ9_floorMod_7cf53_0 0 rfl ?_
  refine ev_iload_n dJ9_floorMod_7cf53_1 1 rfl ?_
  obtain ⟨g1, h⟩ := am_gd h
  refine ev_irem dJ9_floorMod_7cf53_2 g1 ?_
  obtain ⟨x2, ex2, h⟩ := am_lt h
  refine px_top ex2 ?_
  refine ev_istore_n (L' := [(2, .int x2), (0, .int l0), (1, .int l1)]) dJ9_floorMod_7cf53_3 (by decide) rfl ?_
  refine ev_iload_n dJ9_floorMod_7cf53_4 1 rfl ?_
  refine ev_iload_n dJ9_floorMod_7cf53_5 2 rfl ?_
  refine ev_ixor dJ9_floorMod_7cf53_6 ?_
  refine ev_if_ge 18 dJ9_floorMod_7cf53_7 (by decide) (fun c3 => ?_) (fun c3 => ?_)
  · have h := am_t c3 h
    refine ev_iload_n dJ9_floorMod_7cf53_18 0 rfl ?_
    obtain rfl := Option.some.inj h
    exact ev_iret dJ9_floorMod_7cf53_19 rfl rfl
  · have h := am_e c3 h
    refine ev_iload_n dJ9_floorMod_7cf53_10 0 rfl ?_
    refine ev_if_eq 18 dJ9_floorMod_7cf53_11 (by decide) (fun c4 => ?_) (fun c4 => ?_)
    · have h := am_t c4 h
      refine ev_iload_n dJ9_floorMod_7cf53_18 0 rfl ?_
      obtain rfl := Option.some.inj h
      exact ev_iret dJ9_floorMod_7cf53_19 rfl rfl
    · have h := am_e c4 h
      refine ev_iload_n dJ9_floorMod_7cf53_14 0 rfl ?_
      refine ev_iload_n dJ9_floorMod_7cf53_15 2 rfl ?_
      refine ev_iadd dJ9_floorMod_7cf53_16 ?_
      obtain rfl := Option.some.inj h
      exact ev_iret dJ9_floorMod_7cf53_17 rfl rfl

theorem c_J9_floorMod_7cf53 {X : Nat × (Nat → Int32)} {u : am_MU} {l0 : Int32} {l1 : Int32} {r : am_MU × Int32} (h : f_J9_floorMod_7cf53 u l0 l1 = some r) : am_Cn X M_J9_floorMod_7cf53 [.int l0, .int l1] (hp u) (hp r.1, some (.int r.2)) := by
  refine am_Cn.of ok_J9_floorMod_7cf53 (Nat.le_refl _) (Nat.le_refl _) (Nat.le_of_ble_eq_true rfl) ?_
  refine ev_loc [0, 1] rfl ?_
  exact l_J9_floorMod_7cf53_0 u l0 l1 r h

-- java/lang/Math.abs(I)I
def f_J9_abs_0f7a4  (u : am_MU) (l0 : Int32) : Option (am_MU × Int32) :=
if 0 ≤ l0 then (some (u, l0))
else (some (u, -l0))

theorem l_J9_abs_0f7a4_0 {X : Nat × (Nat → Int32)}   (u : am_MU) (l0 : Int32) (r : am_MU × Int32) (h : f_J9_abs_0f7a4  u l0 = some r) : am_Ev X M_J9_abs_0f7a4 0 [(0, .int l0)] [] (hp u) (hp r.1, some (.int r.2)) := by
  unfold f_J9_abs_0f7a4 at h
  refine ev_iload_n dJ9_abs_0f7a4_0 0 rfl ?_
  refine ev_if_ge 9 dJ9_abs_0f7a4_1 (by decide) (fun c1 => ?_) (fun c1 => ?_)
  · have h := am_t c1 h
    refine ev_iload_n dJ9_abs_0f7a4_9 0 rfl ?_
    obtain rfl := Option.some.inj h
    exact ev_iret dJ9_abs_0f7a4_10 rfl rfl
  · have h := am_e c1 h
    refine ev_iload_n dJ9_abs_0f7a4_4 0 rfl ?_
    refine ev_ineg dJ9_abs_0f7a4_5 ?_
    refine ev_goto 10 dJ9_abs_0f7a4_6 (by decide) ?_
    obtain rfl := Option.some.inj h
    exact ev_iret dJ9_abs_0f7a4_10 rfl rfl

theorem c_J9_abs_0f7a4 {X : Nat × (Nat → Int32)} {u : am_MU} {l0 : Int32} {r : am_MU × Int32} (h : f_J9_abs_0f7a4 u l0 = some r) : am_Cn X M_J9_abs_0f7a4 [.int l0] (hp u) (hp r.1, some (.int r.2)) := by
  refine am_Cn.of ok_J9_abs_0f7a4 (Nat.le_refl _) (Nat.le_refl _) (Nat.le_of_ble_eq_true rfl) ?_
  refine ev_loc [0] rfl ?_
  exact l_J9_abs_0f7a4_0 u l0 r h

-- java/lang/String.coder()B
def f_J0_coder_7d493  (u : am_MU) (l0 : Nat) : Option (am_MU × Int32) :=
if (1 : Int32) = 0 then (if (1 : Int32).toInt8.toInt32 = (1 : Int32) then (
some (u, (1 : Int32))) else none)
else (if 4 ≤ l0 ∧ l0 < 10 then (
if (0 : Int32).toInt8.toInt32 = (0 : Int32) then (
some (u, (0 : Int32))) else none) else none)

theorem l_J0_coder_7d493_0 {X : Nat × (Nat → Int32)}   (u : am_MU) (l0 : Nat) (r : am_MU × Int32) (h : f_J0_coder_7d493  u l0 = some r) : am_Ev X M_J0_coder_7d493 0 [(0, .retAddr l0)] [] (hp u) (hp r.1, some (.int r.2)) := by
  unfold f_J0_coder_7d493 at h
  refine ev_gets (v := .int 1) dJ0_coder_7d493_0 tw_560 (List.mem_of_getElem? (i := 3) rfl) ?_
  refine ev_if_eq 13 dJ0_coder_7d493_3 (by decide) (fun c1 => ?_) (fun c1 => ?_)
  · have h := am_t c1 h
    refine ev_iconst (v := (1 : Int32)) dJ0_coder_7d493_13 kI_1 ?_
    obtain ⟨g2, h⟩ := am_gd h
    obtain rfl := Option.some.inj h
    exact ev_iret dJ0_coder_7d493_14 rfl (am_bn g2)
  · have h := am_e c1 h
    refine ev_aload_n dJ0_coder_7d493_6 0 rfl trivial ?_
    obtain ⟨g3, h⟩ := am_gd h
    refine ev_getSC dJ0_coder_7d493_7 tw_1283 g3 ?_
    refine ev_goto 14 dJ0_coder_7d493_10 (by decide) ?_
    obtain ⟨g4, h⟩ := am_gd h
    obtain rfl := Option.some.inj h
    exact ev_iret dJ0_coder_7d493_14 rfl (am_bn g4)

theorem c_J0_coder_7d493 {X : Nat × (Nat → Int32)} {u : am_MU} {l0 : Nat} {r : am_MU × Int32} (h : f_J0_coder_7d493 u l0 = some r) : am_Cn X M_J0_coder_7d493 [.retAddr l0] (hp u) (hp r.1, some (.int r.2)) := by
  refine am_Cn.of ok_J0_coder_7d493 (Nat.le_refl _) (Nat.le_refl _) (Nat.le_of_ble_eq_true rfl) ?_
  refine ev_loc [0] rfl ?_
  exact l_J0_coder_7d493_0 u l0 r h

-- java/lang/String.length()I
def f_J0_length_8abf5  (u : am_MU) (l0 : Nat) : Option (am_MU × Int32) :=
if 4 ≤ l0 ∧ l0 < 10 then (
if 10 ≤ (l0 + 6) ∧ (l0 + 6) < 16 then (
(f_J0_coder_7d493 u l0).bind fun q3 =>
some (q3.1, (Int32.ofNat (am_kb.getD ((l0 + 6) - 10) []).length) >>> (q3.2 &&& 31))) else none) else none

theorem l_J0_length_8abf5_0 {X : Nat × (Nat → Int32)}   (u : am_MU) (l0 : Nat) (r : am_MU × Int32) (h : f_J0_length_8abf5  u l0 = some r) : am_Ev X M_J0_length_8abf5 0 [(0, .retAddr l0)] [] (hp u) (hp r.1, some (.int r.2)) := by
  unfold f_J0_length_8abf5 at h
  refine ev_aload_n dJ0_length_8abf5_0 0 rfl trivial ?_
  obtain ⟨g1, h⟩ := am_gd h
  refine ev_getSV dJ0_length_8abf5_1 tw_1282 g1 ?_
  obtain ⟨g2, h⟩ := am_gd h
  refine px_tbl dJ0_length_8abf5_4 g2 ?_
  refine ev_aload_n dJ0_length_8abf5_5 0 rfl trivial ?_
  obtain ⟨q3, eq3, h⟩ := am_bd h
  refine px_callSi [] rfl g1 dJ0_length_8abf5_6 ok_J0_coder_7d493 lk_RJ0_335 in_J0_coder_7d493 se_J0_coder_7d493 (by decide) rfl (c_J0_coder_7d493 eq3) rfl (Nat.le_of_ble_eq_true rfl) ?_
  refine ev_ishr dJ0_length_8abf5_9 ?_
  obtain rfl := Option.some.inj h
  exact ev_iret dJ0_length_8abf5_10 rfl rfl

theorem c_J0_length_8abf5 {X : Nat × (Nat → Int32)} {u : am_MU} {l0 : Nat} {r : am_MU × Int32} (h : f_J0_length_8abf5 u l0 = some r) : am_Cn X M_J0_length_8abf5 [.retAddr l0] (hp u) (hp r.1, some (.int r.2)) := by
  refine am_Cn.of ok_J0_length_8abf5 (Nat.le_refl _) (Nat.le_refl _) (Nat.le_of_ble_eq_true rfl) ?_
  refine ev_loc [0] rfl ?_
  exact l_J0_length_8abf5_0 u l0 r h

-- java/lang/String.isLatin1()Z
def f_J0_isLatin1_aae02  (u : am_MU) (l0 : Nat) : Option (am_MU × Int32) :=
if (1 : Int32) = 0 then (some (u, (0 : Int32)))
else (if 4 ≤ l0 ∧ l0 < 10 then (
if (0 : Int32) = 0 then (some (u, (1 : Int32)))
else (some (u, (0 : Int32)))) else none)

theorem l_J0_isLatin1_aae02_0 {X : Nat × (Nat → Int32)}   (u : am_MU) (l0 : Nat) (r : am_MU × Int32) (h : f_J0_isLatin1_aae02  u l0 = some r) : am_Ev X M_J0_isLatin1_aae02 0 [(0, .retAddr l0)] [] (hp u) (hp r.1, some (.int r.2)) := by
  unfold f_J0_isLatin1_aae02 at h
  refine ev_gets (v := .int 1) dJ0_isLatin1_aae02_0 tw_560 (List.mem_of_getElem? (i := 3) rfl) ?_
  refine ev_if_eq 17 dJ0_isLatin1_aae02_3 (by decide) (fun c1 => ?_) (fun c1 => ?_)
  · have h := am_t c1 h
    refine ev_iconst (v := (0 : Int32)) dJ0_isLatin1_aae02_17 kI_0 ?_
    obtain rfl := Option.some.inj h
    exact ev_iret dJ0_isLatin1_aae02_18 rfl (am_zn (Or.inl rfl))
  · have h := am_e c1 h
    refine ev_aload_n dJ0_isLatin1_aae02_6 0 rfl trivial ?_
    obtain ⟨g2, h⟩ := am_gd h
    refine ev_getSC dJ0_isLatin1_aae02_7 tw_1283 g2 ?_
    refine ev_if_ne 17 dJ0_isLatin1_aae02_10 (by decide) (fun c3 => ?_) (fun c3 => ?_)
    · have h := am_e c3 h
      refine ev_iconst (v := (0 : Int32)) dJ0_isLatin1_aae02_17 kI_0 ?_
      obtain rfl := Option.some.inj h
      exact ev_iret dJ0_isLatin1_aae02_18 rfl (am_zn (Or.inl rfl))
    · have h := am_t c3 h
      refine ev_iconst (v := (1 : Int32)) dJ0_isLatin1_aae02_13 kI_1 ?_
      refine ev_goto 18 dJ0_isLatin1_aae02_14 (by decide) ?_
      obtain rfl := Option.some.inj h
      exact ev_iret dJ0_isLatin1_aae02_18 rfl (am_zn (Or.inr rfl))

theorem c_J0_isLatin1_aae02 {X : Nat × (Nat → Int32)} {u : am_MU} {l0 : Nat} {r : am_MU × Int32} (h : f_J0_isLatin1_aae02 u l0 = some r) : am_Cn X M_J0_isLatin1_aae02 [.retAddr l0] (hp u) (hp r.1, some (.int r.2)) := by
  refine am_Cn.of ok_J0_isLatin1_aae02 (Nat.le_refl _) (Nat.le_refl _) (Nat.le_of_ble_eq_true rfl) ?_
  refine ev_loc [0] rfl ?_
  exact l_J0_isLatin1_aae02_0 u l0 r h

-- jdk/internal/util/Preconditions.checkIndex(IILjava/util/function/BiFunction;)I
def g_J3_checkIndex_8e157_9  (u : am_MU) (l0 : Int32) (l1 : Int32) (l2 : Nat) : Option (am_MU × Int32) :=
none

def f_J3_checkIndex_8e157  (u : am_MU) (l0 : Int32) (l1 : Int32) (l2 : Nat) : Option (am_MU × Int32) :=
if l0 < 0 then (g_J3_checkIndex_8e157_9 u l0 l1 l2)
else (if l0 < l1 then (some (u, l0))
else (g_J3_checkIndex_8e157_9 u l0 l1 l2))

theorem l_J3_checkIndex_8e157_9 {X : Nat × (Nat → Int32)}   (u : am_MU) (l0 : Int32) (l1 : Int32) (l2 : Nat) (r : am_MU × Int32) (h : g_J3_checkIndex_8e157_9  u l0 l1 l2 = some r) : am_Ev X M_J3_checkIndex_8e157 9 [(0, .int l0), (1, .int l1), (2, .retAddr l2)] [] (hp u) (hp r.1, some (.int r.2)) := by
  unfold g_J3_checkIndex_8e157_9 at h
  refine ev_aload_n dJ3_checkIndex_8e157_9 2 rfl trivial ?_
  refine ev_iload_n dJ3_checkIndex_8e157_10 0 rfl ?_
  refine ev_iload_n dJ3_checkIndex_8e157_11 1 rfl ?_
  cases h

theorem l_J3_checkIndex_8e157_0 {X : Nat × (Nat → Int32)}   (u : am_MU) (l0 : Int32) (l1 : Int32) (l2 : Nat) (r : am_MU × Int32) (h : f_J3_checkIndex_8e157  u l0 l1 l2 = some r) : am_Ev X M_J3_checkIndex_8e157 0 [(0, .int l0), (1, .int l1), (2, .retAddr l2)] [] (hp u) (hp r.1, some (.int r.2)) := by
  unfold f_J3_checkIndex_8e157 at h
  refine ev_iload_n dJ3_checkIndex_8e157_0 0 rfl ?_
  refine ev_if_lt 9 dJ3_checkIndex_8e157_1 (by decide) (fun c1 => ?_) (fun c1 => ?_)
  · have h := am_t c1 h
    refine ev_loc [0, 1, 2] rfl ?_
    exact l_J3_checkIndex_8e157_9   u l0 l1 l2 _ h
  · have h := am_e c1 h
    refine ev_iload_n dJ3_checkIndex_8e157_4 0 rfl ?_
    refine ev_iload_n dJ3_checkIndex_8e157_5 1 rfl ?_
    refine ev_icmp_lt 16 dJ3_checkIndex_8e157_6 (by decide) (fun c2 => ?_) (fun c2 => ?_)
    · have h := am_t c2 h
      refine ev_iload_n dJ3_checkIndex_8e157_16 0 rfl ?_
      obtain rfl := Option.some.inj h
      exact ev_iret dJ3_checkIndex_8e157_17 rfl rfl
    · have h := am_e c2 h
      refine ev_loc [0, 1, 2] rfl ?_
      exact l_J3_checkIndex_8e157_9   u l0 l1 l2 _ h

theorem c_J3_checkIndex_8e157 {X : Nat × (Nat → Int32)} {u : am_MU} {l0 : Int32} {l1 : Int32} {l2 : Nat} {r : am_MU × Int32} (h : f_J3_checkIndex_8e157 u l0 l1 l2 = some r) : am_Cn X M_J3_checkIndex_8e157 [.int l0, .int l1, .retAddr l2] (hp u) (hp r.1, some (.int r.2)) := by
  refine am_Cn.of ok_J3_checkIndex_8e157 (Nat.le_refl _) (Nat.le_refl _) (Nat.le_of_ble_eq_true rfl) ?_
  refine ev_loc [0, 1, 2] rfl ?_
  exact l_J3_checkIndex_8e157_0 u l0 l1 l2 r h

-- java/lang/String.checkIndex(II)V
def f_J0_checkIndex_df160  (u : am_MU) (l0 : Int32) (l1 : Int32) : Option (am_MU) :=
(f_J3_checkIndex_8e157 u l0 l1 16).bind fun q1 =>
some q1.1

theorem l_J0_checkIndex_df160_0 {X : Nat × (Nat → Int32)}   (u : am_MU) (l0 : Int32) (l1 : Int32) (r : am_MU) (h : f_J0_checkIndex_df160  u l0 l1 = some r) : am_Ev X M_J0_checkIndex_df160 0 [(0, .int l0), (1, .int l1)] [] (hp u) (hp r, none) := by
  unfold f_J0_checkIndex_df160 at h
  refine ev_iload_n dJ0_checkIndex_df160_0 0 rfl ?_
  refine ev_iload_n dJ0_checkIndex_df160_1 1 rfl ?_
  refine ev_gets (v := .retAddr 16) dJ0_checkIndex_df160_2 tw_576 (List.mem_of_getElem? (i := 4) rfl) ?_
  obtain ⟨q1, eq1, h⟩ := am_bd h
  refine px_callsi [.int l0, .int l1, .retAddr 16] dJ0_checkIndex_df160_5 ok_J3_checkIndex_8e157 lk_RJ0_1059 st_J3_checkIndex_8e157 (by decide) rfl (c_J3_checkIndex_8e157 eq1) rfl (Nat.le_of_ble_eq_true rfl) ?_
  refine ev_pop dJ0_checkIndex_df160_8 rfl ?_
  obtain rfl := Option.some.inj h
  exact ev_vret dJ0_checkIndex_df160_9 rfl

theorem c_J0_checkIndex_df160 {X : Nat × (Nat → Int32)} {u : am_MU} {l0 : Int32} {l1 : Int32} {r : am_MU} (h : f_J0_checkIndex_df160 u l0 l1 = some r) : am_Cn X M_J0_checkIndex_df160 [.int l0, .int l1] (hp u) (hp r, none) := by
  refine am_Cn.of ok_J0_checkIndex_df160 (Nat.le_refl _) (Nat.le_refl _) (Nat.le_of_ble_eq_true rfl) ?_
  refine ev_loc [0, 1] rfl ?_
  exact l_J0_checkIndex_df160_0 u l0 l1 r h

-- java/lang/StringLatin1.charAt([BI)C
def f_J1_charAt_3b067  (u : am_MU) (l0 : Nat) (l1 : Int32) : Option (am_MU × Int32) :=
if 10 ≤ l0 ∧ l0 < 16 then (
(f_J0_checkIndex_df160 u l1 (Int32.ofNat (am_kb.getD (l0 - 10) []).length)).bind fun q2 =>
if am_in l1 (am_kb.getD (l0 - 10) []).length then (
if ((((((am_kb.getD (l0 - 10) []).getD l1.toNatClampNeg 0) &&& (255 : Int32)).toUInt32 % 65536).toInt32).toUInt32 % 65536).toInt32 = (((((am_kb.getD (l0 - 10) []).getD l1.toNatClampNeg 0) &&& (255 : Int32)).toUInt32 % 65536).toInt32) then (
some (q2, ((((am_kb.getD (l0 - 10) []).getD l1.toNatClampNeg 0) &&& (255 : Int32)).toUInt32 % 65536).toInt32)) else none) else none) else none

theorem l_J1_charAt_3b067_0 {X : Nat × (Nat → Int32)}   (u : am_MU) (l0 : Nat) (l1 : Int32) (r : am_MU × Int32) (h : f_J1_charAt_3b067  u l0 l1 = some r) : am_Ev X M_J1_charAt_3b067 0 [(0, .retAddr l0), (1, .int l1)] [] (hp u) (hp r.1, some (.int r.2)) := by
  unfold f_J1_charAt_3b067 at h
  refine ev_iload_n dJ1_charAt_3b067_0 1 rfl ?_
  refine ev_aload_n dJ1_charAt_3b067_1 0 rfl trivial ?_
  obtain ⟨g1, h⟩ := am_gd h
  refine px_tbl dJ1_charAt_3b067_2 g1 ?_
  obtain ⟨q2, eq2, h⟩ := am_bd h
  refine px_callsv [.int l1, .int (Int32.ofNat (am_kb.getD (l0 - 10) []).length)] dJ1_charAt_3b067_3 ok_J0_checkIndex_df160 lk_RJ1_9 st_J0_checkIndex_df160 (by decide) rfl (c_J0_checkIndex_df160 eq2) rfl (Nat.le_of_ble_eq_true rfl) ?_
  refine ev_aload_n dJ1_charAt_3b067_6 0 rfl trivial ?_
  refine ev_iload_n dJ1_charAt_3b067_7 1 rfl ?_
  obtain ⟨g3, h⟩ := am_gd h
  refine px_tb dJ1_charAt_3b067_8 g1 g3 ?_
  refine ev_sipush (v := (255 : Int32)) dJ1_charAt_3b067_9 kS_255 ?_
  refine ev_iand dJ1_charAt_3b067_12 ?_
  refine ev_i2c dJ1_charAt_3b067_13 ?_
  obtain ⟨g4, h⟩ := am_gd h
  obtain rfl := Option.some.inj h
  exact ev_iret dJ1_charAt_3b067_14 rfl (am_cn g4)

theorem c_J1_charAt_3b067 {X : Nat × (Nat → Int32)} {u : am_MU} {l0 : Nat} {l1 : Int32} {r : am_MU × Int32} (h : f_J1_charAt_3b067 u l0 l1 = some r) : am_Cn X M_J1_charAt_3b067 [.retAddr l0, .int l1] (hp u) (hp r.1, some (.int r.2)) := by
  refine am_Cn.of ok_J1_charAt_3b067 (Nat.le_refl _) (Nat.le_refl _) (Nat.le_of_ble_eq_true rfl) ?_
  refine ev_loc [0, 1] rfl ?_
  exact l_J1_charAt_3b067_0 u l0 l1 r h

-- java/lang/String.charAt(I)C
def f_J0_charAt_5068e  (u : am_MU) (l0 : Nat) (l1 : Int32) : Option (am_MU × Int32) :=
if 4 ≤ l0 ∧ l0 < 10 then (
(f_J0_isLatin1_aae02 u l0).bind fun q1 =>
if q1.2 = 0 then (none)
else ((f_J1_charAt_3b067 q1.1 (l0 + 6) l1).bind fun q4 =>
if (q4.2.toUInt32 % 65536).toInt32 = q4.2 then (
some (q4.1, q4.2)) else none)) else none

theorem l_J0_charAt_5068e_0 {X : Nat × (Nat → Int32)}   (u : am_MU) (l0 : Nat) (l1 : Int32) (r : am_MU × Int32) (h : f_J0_charAt_5068e  u l0 l1 = some r) : am_Ev X M_J0_charAt_5068e 0 [(0, .retAddr l0), (1, .int l1)] [] (hp u) (hp r.1, some (.int r.2)) := by
  unfold f_J0_charAt_5068e at h
  refine ev_aload_n dJ0_charAt_5068e_0 0 rfl trivial ?_
  obtain ⟨g2, h⟩ := am_gd h
  obtain ⟨q1, eq1, h⟩ := am_bd h
  refine px_callSi [] rfl g2 dJ0_charAt_5068e_1 ok_J0_isLatin1_aae02 lk_RJ0_492 in_J0_isLatin1_aae02 se_J0_isLatin1_aae02 (by decide) rfl (c_J0_isLatin1_aae02 eq1) rfl (Nat.le_of_ble_eq_true rfl) ?_
  refine ev_if_eq 16 dJ0_charAt_5068e_4 (by decide) (fun c3 => ?_) (fun c3 => ?_)
  · have h := am_t c3 h
    refine ev_aload_n dJ0_charAt_5068e_16 0 rfl trivial ?_
    refine ev_getSV dJ0_charAt_5068e_17 tw_1282 g2 ?_
    refine ev_iload_n dJ0_charAt_5068e_20 1 rfl ?_
    cases h
  · have h := am_e c3 h
    refine ev_aload_n dJ0_charAt_5068e_7 0 rfl trivial ?_
    refine ev_getSV dJ0_charAt_5068e_8 tw_1282 g2 ?_
    refine ev_iload_n dJ0_charAt_5068e_11 1 rfl ?_
    obtain ⟨q4, eq4, h⟩ := am_bd h
    refine px_callsi [.retAddr (l0 + 6), .int l1] dJ0_charAt_5068e_12 ok_J1_charAt_3b067 lk_RJ0_495 st_J1_charAt_3b067 (by decide) rfl (c_J1_charAt_3b067 eq4) rfl (Nat.le_of_ble_eq_true rfl) ?_
    obtain ⟨g5, h⟩ := am_gd h
    obtain rfl := Option.some.inj h
    exact ev_iret dJ0_charAt_5068e_15 rfl (am_cn g5)

theorem c_J0_charAt_5068e {X : Nat × (Nat → Int32)} {u : am_MU} {l0 : Nat} {l1 : Int32} {r : am_MU × Int32} (h : f_J0_charAt_5068e u l0 l1 = some r) : am_Cn X M_J0_charAt_5068e [.retAddr l0, .int l1] (hp u) (hp r.1, some (.int r.2)) := by
  refine am_Cn.of ok_J0_charAt_5068e (Nat.le_refl _) (Nat.le_refl _) (Nat.le_of_ble_eq_true rfl) ?_
  refine ev_loc [0, 1] rfl ?_
  exact l_J0_charAt_5068e_0 u l0 l1 r h

-- java/lang/StringLatin1.canEncode(I)Z
def f_J1_canEncode_9a6ad  (u : am_MU) (l0 : Int32) : Option (am_MU × Int32) :=
if l0 < 0 then (some (u, (0 : Int32)))
else (if (255 : Int32) < l0 then (some (u, (0 : Int32)))
else (some (u, (1 : Int32))))

theorem l_J1_canEncode_9a6ad_0 {X : Nat × (Nat → Int32)}   (u : am_MU) (l0 : Int32) (r : am_MU × Int32) (h : f_J1_canEncode_9a6ad  u l0 = some r) : am_Ev X M_J1_canEncode_9a6ad 0 [(0, .int l0)] [] (hp u) (hp r.1, some (.int r.2)) := by
  unfold f_J1_canEncode_9a6ad at h
  refine ev_iload_n dJ1_canEncode_9a6ad_0 0 rfl ?_
  refine ev_if_lt 15 dJ1_canEncode_9a6ad_1 (by decide) (fun c1 => ?_) (fun c1 => ?_)
  · have h := am_t c1 h
    refine ev_iconst (v := (0 : Int32)) dJ1_canEncode_9a6ad_15 kI_0 ?_
    obtain rfl := Option.some.inj h
    exact ev_iret dJ1_canEncode_9a6ad_16 rfl (am_zn (Or.inl rfl))
  · have h := am_e c1 h
    refine ev_iload_n dJ1_canEncode_9a6ad_4 0 rfl ?_
    refine ev_sipush (v := (255 : Int32)) dJ1_canEncode_9a6ad_5 kS_255 ?_
    refine ev_icmp_gt 15 dJ1_canEncode_9a6ad_8 (by decide) (fun c2 => ?_) (fun c2 => ?_)
    · have h := am_t c2 h
      refine ev_iconst (v := (0 : Int32)) dJ1_canEncode_9a6ad_15 kI_0 ?_
      obtain rfl := Option.some.inj h
      exact ev_iret dJ1_canEncode_9a6ad_16 rfl (am_zn (Or.inl rfl))
    · have h := am_e c2 h
      refine ev_iconst (v := (1 : Int32)) dJ1_canEncode_9a6ad_11 kI_1 ?_
      refine ev_goto 16 dJ1_canEncode_9a6ad_12 (by decide) ?_
      obtain rfl := Option.some.inj h
      exact ev_iret dJ1_canEncode_9a6ad_16 rfl (am_zn (Or.inr rfl))

theorem c_J1_canEncode_9a6ad {X : Nat × (Nat → Int32)} {u : am_MU} {l0 : Int32} {r : am_MU × Int32} (h : f_J1_canEncode_9a6ad u l0 = some r) : am_Cn X M_J1_canEncode_9a6ad [.int l0] (hp u) (hp r.1, some (.int r.2)) := by
  refine am_Cn.of ok_J1_canEncode_9a6ad (Nat.le_refl _) (Nat.le_refl _) (Nat.le_of_ble_eq_true rfl) ?_
  refine ev_loc [0] rfl ?_
  exact l_J1_canEncode_9a6ad_0 u l0 r h

-- java/lang/StringLatin1.indexOfChar([BIII)I
def g_J1_indexOfChar_4cfef_7  : Nat → am_MU → Nat → Int32 → Int32 → Int32 → Option (am_MU × Int32)
  | 0 => fun _ _ _ _ _ => none
  | n + 1 => fun u l0 l3 l4 l5 =>
if l3 ≤ l5 then (some (u, ((-1) : Int32)))
else (if 10 ≤ l0 ∧ l0 < 16 then (
if am_in l5 (am_kb.getD (l0 - 10) []).length then (
if ((am_kb.getD (l0 - 10) []).getD l5.toNatClampNeg 0) = l4 then (some (u, l5))
else (am_let (l5 + (1 : Int32)) fun x5 =>
g_J1_indexOfChar_4cfef_7 n u l0 l3 l4 x5)) else none) else none)

def f_J1_indexOfChar_4cfef  (u : am_MU) (l0 : Nat) (l1 : Int32) (l2 : Int32) (l3 : Int32) : Option (am_MU × Int32) :=
g_J1_indexOfChar_4cfef_7 1700 u l0 l3 l1.toInt8.toInt32 l2

theorem l_J1_indexOfChar_4cfef_7 {X : Nat × (Nat → Int32)}   : ∀ (n : Nat) (u : am_MU) (l0 : Nat) (l3 : Int32) (l4 : Int32) (l5 : Int32) (r : am_MU × Int32), g_J1_indexOfChar_4cfef_7  n u l0 l3 l4 l5 = some r → am_Ev X M_J1_indexOfChar_4cfef 7 [(0, .retAddr l0), (3, .int l3), (4, .int l4), (5, .int l5)] [] (hp u) (hp r.1, some (.int r.2)) := by
  intro n
  induction n with
  | zero => intro u l0 l3 l4 l5 r h; cases h
  | succ n ih =>
    intro u l0 l3 l4 l5 r h
    rw [g_J1_indexOfChar_4cfef_7] at h
    refine ev_iload dJ1_indexOfChar_4cfef_7 3 rfl ?_
    refine ev_iload_n dJ1_indexOfChar_4cfef_9 1 rfl ?_
    refine ev_icmp_ge 31 dJ1_indexOfChar_4cfef_10 (by decide) (fun c1 => ?_) (fun c1 => ?_)
    · have h := am_t c1 h
      refine ev_iconst (v := ((-1) : Int32)) dJ1_indexOfChar_4cfef_31 kI_m1 ?_
      obtain rfl := Option.some.inj h
      exact ev_iret dJ1_indexOfChar_4cfef_32 rfl rfl
    · have h := am_e c1 h
      refine ev_aload_n dJ1_indexOfChar_4cfef_13 0 rfl trivial ?_
      refine ev_iload dJ1_indexOfChar_4cfef_14 3 rfl ?_
      obtain ⟨g2, h⟩ := am_gd h
      obtain ⟨g3, h⟩ := am_gd h
      refine px_tb dJ1_indexOfChar_4cfef_16 g2 g3 ?_
      refine ev_iload dJ1_indexOfChar_4cfef_17 2 rfl ?_
      refine ev_icmp_ne 25 dJ1_indexOfChar_4cfef_19 (by decide) (fun c4 => ?_) (fun c4 => ?_)
      · have h := am_e c4 h
        obtain ⟨x5, ex5, h⟩ := am_lt h
        refine ev_iinc (v := x5) (L' := [(5, .int x5), (0, .retAddr l0), (3, .int l3), (4, .int l4)]) dJ1_indexOfChar_4cfef_25 3 rfl (by rw [kI_1, ex5]) (by decide) rfl ?_
        refine ev_goto 7 dJ1_indexOfChar_4cfef_28 (by decide) ?_
        refine ev_loc [1, 2, 3, 0] rfl ?_
        exact ih u l0 l3 l4 x5 _ h
      · have h := am_t c4 h
        refine ev_iload dJ1_indexOfChar_4cfef_22 3 rfl ?_
        obtain rfl := Option.some.inj h
        exact ev_iret dJ1_indexOfChar_4cfef_24 rfl rfl

theorem l_J1_indexOfChar_4cfef_0 {X : Nat × (Nat → Int32)}   (u : am_MU) (l0 : Nat) (l1 : Int32) (l2 : Int32) (l3 : Int32) (r : am_MU × Int32) (h : f_J1_indexOfChar_4cfef  u l0 l1 l2 l3 = some r) : am_Ev X M_J1_indexOfChar_4cfef 0 [(0, .retAddr l0), (1, .int l1), (2, .int l2), (3, .int l3)] [] (hp u) (hp r.1, some (.int r.2)) := by
  unfold f_J1_indexOfChar_4cfef at h
  refine ev_iload_n dJ1_indexOfChar_4cfef_0 1 rfl ?_
  refine ev_i2b dJ1_indexOfChar_4cfef_1 ?_
  refine ev_istore (L' := [(4, .int l1.toInt8.toInt32), (0, .retAddr l0), (1, .int l1), (2, .int l2), (3, .int l3)]) dJ1_indexOfChar_4cfef_2 (by decide) rfl ?_
  refine ev_iload_n dJ1_indexOfChar_4cfef_4 3 rfl ?_
  refine ev_istore (L' := [(5, .int l2), (4, .int l1.toInt8.toInt32), (0, .retAddr l0), (1, .int l1), (2, .int l2), (3, .int l3)]) dJ1_indexOfChar_4cfef_5 (by decide) rfl ?_
  refine ev_loc [2, 5, 1, 0] rfl ?_
  exact l_J1_indexOfChar_4cfef_7   1700 u l0 l3 l1.toInt8.toInt32 l2 _ h

theorem c_J1_indexOfChar_4cfef {X : Nat × (Nat → Int32)} {u : am_MU} {l0 : Nat} {l1 : Int32} {l2 : Int32} {l3 : Int32} {r : am_MU × Int32} (h : f_J1_indexOfChar_4cfef u l0 l1 l2 l3 = some r) : am_Cn X M_J1_indexOfChar_4cfef [.retAddr l0, .int l1, .int l2, .int l3] (hp u) (hp r.1, some (.int r.2)) := by
  refine am_Cn.of ok_J1_indexOfChar_4cfef (Nat.le_refl _) (Nat.le_refl _) (Nat.le_of_ble_eq_true rfl) ?_
  refine ev_loc [0, 1, 2, 3] rfl ?_
  exact l_J1_indexOfChar_4cfef_0 u l0 l1 l2 l3 r h

-- java/lang/StringLatin1.indexOf([BIII)I
def f_J1_indexOf_4cfef  (u : am_MU) (l0 : Nat) (l1 : Int32) (l2 : Int32) (l3 : Int32) : Option (am_MU × Int32) :=
(f_J1_canEncode_9a6ad u l1).bind fun q1 =>
if q1.2 = 0 then (some (q1.1, ((-1) : Int32)))
else ((f_J9_max_7cf53 q1.1 l2 (0 : Int32)).bind fun q3 =>
if 10 ≤ l0 ∧ l0 < 16 then (
(f_J9_min_7cf53 q3.1 l3 (Int32.ofNat (am_kb.getD (l0 - 10) []).length)).bind fun q5 =>
if q3.2 < q5.2 then ((f_J1_indexOfChar_4cfef q5.1 l0 l1 q3.2 q5.2).bind fun q7 =>
some (q7.1, q7.2))
else (some (q5.1, ((-1) : Int32)))) else none)

theorem l_J1_indexOf_4cfef_0 {X : Nat × (Nat → Int32)}   (u : am_MU) (l0 : Nat) (l1 : Int32) (l2 : Int32) (l3 : Int32) (r : am_MU × Int32) (h : f_J1_indexOf_4cfef  u l0 l1 l2 l3 = some r) : am_Ev X M_J1_indexOf_4cfef 0 [(0, .retAddr l0), (1, .int l1), (2, .int l2), (3, .int l3)] [] (hp u) (hp r.1, some (.int r.2)) := by
  unfold f_J1_indexOf_4cfef at h
  refine ev_iload_n dJ1_indexOf_4cfef_0 1 rfl ?_
  obtain ⟨q1, eq1, h⟩ := am_bd h
  refine px_callsi [.int l1] dJ1_indexOf_4cfef_1 ok_J1_canEncode_9a6ad lk_RJ1_88 st_J1_canEncode_9a6ad (by decide) rfl (c_J1_canEncode_9a6ad eq1) rfl (Nat.le_of_ble_eq_true rfl) ?_
  refine ev_if_ne 9 dJ1_indexOf_4cfef_4 (by decide) (fun c2 => ?_) (fun c2 => ?_)
  · have h := am_e c2 h
    refine ev_iload_n dJ1_indexOf_4cfef_9 2 rfl ?_
    refine ev_iconst (v := (0 : Int32)) dJ1_indexOf_4cfef_10 kI_0 ?_
    obtain ⟨q3, eq3, h⟩ := am_bd h
    refine px_callsi [.int l2, .int (0 : Int32)] dJ1_indexOf_4cfef_11 ok_J9_max_7cf53 lk_RJ1_92 st_J9_max_7cf53 (by decide) rfl (c_J9_max_7cf53 eq3) rfl (Nat.le_of_ble_eq_true rfl) ?_
    refine ev_istore_n (L' := [(2, .int q3.2), (0, .retAddr l0), (1, .int l1), (3, .int l3)]) dJ1_indexOf_4cfef_14 (by decide) rfl ?_
    refine ev_iload_n dJ1_indexOf_4cfef_15 3 rfl ?_
    refine ev_aload_n dJ1_indexOf_4cfef_16 1 rfl trivial ?_
    obtain ⟨g4, h⟩ := am_gd h
    refine px_tbl dJ1_indexOf_4cfef_17 g4 ?_
    obtain ⟨q5, eq5, h⟩ := am_bd h
    refine px_callsi [.int l3, .int (Int32.ofNat (am_kb.getD (l0 - 10) []).length)] dJ1_indexOf_4cfef_18 ok_J9_min_7cf53 lk_RJ1_38 st_J9_min_7cf53 (by decide) rfl (c_J9_min_7cf53 eq5) rfl (Nat.le_of_ble_eq_true rfl) ?_
    refine ev_istore_n (L' := [(3, .int q5.2), (2, .int q3.2), (0, .retAddr l0), (1, .int l1)]) dJ1_indexOf_4cfef_21 (by decide) rfl ?_
    refine ev_iload_n dJ1_indexOf_4cfef_22 1 rfl ?_
    refine ev_iload_n dJ1_indexOf_4cfef_23 0 rfl ?_
    refine ev_icmp_lt 29 dJ1_indexOf_4cfef_24 (by decide) (fun c6 => ?_) (fun c6 => ?_)
    · have h := am_t c6 h
      refine ev_aload_n dJ1_indexOf_4cfef_29 2 rfl trivial ?_
      refine ev_iload_n dJ1_indexOf_4cfef_30 3 rfl ?_
      refine ev_iload_n dJ1_indexOf_4cfef_31 1 rfl ?_
      refine ev_iload_n dJ1_indexOf_4cfef_32 0 rfl ?_
      obtain ⟨q7, eq7, h⟩ := am_bd h
      refine px_callsi [.retAddr l0, .int l1, .int q3.2, .int q5.2] dJ1_indexOf_4cfef_33 ok_J1_indexOfChar_4cfef lk_RJ1_95 st_J1_indexOfChar_4cfef (by decide) rfl (c_J1_indexOfChar_4cfef eq7) rfl (Nat.le_of_ble_eq_true rfl) ?_
      obtain rfl := Option.some.inj h
      exact ev_iret dJ1_indexOf_4cfef_36 rfl rfl
    · have h := am_e c6 h
      refine ev_iconst (v := ((-1) : Int32)) dJ1_indexOf_4cfef_27 kI_m1 ?_
      obtain rfl := Option.some.inj h
      exact ev_iret dJ1_indexOf_4cfef_28 rfl rfl
  · have h := am_t c2 h
    refine ev_iconst (v := ((-1) : Int32)) dJ1_indexOf_4cfef_7 kI_m1 ?_
    obtain rfl := Option.some.inj h
    exact ev_iret dJ1_indexOf_4cfef_8 rfl rfl

theorem c_J1_indexOf_4cfef {X : Nat × (Nat → Int32)} {u : am_MU} {l0 : Nat} {l1 : Int32} {l2 : Int32} {l3 : Int32} {r : am_MU × Int32} (h : f_J1_indexOf_4cfef u l0 l1 l2 l3 = some r) : am_Cn X M_J1_indexOf_4cfef [.retAddr l0, .int l1, .int l2, .int l3] (hp u) (hp r.1, some (.int r.2)) := by
  refine am_Cn.of ok_J1_indexOf_4cfef (Nat.le_refl _) (Nat.le_refl _) (Nat.le_of_ble_eq_true rfl) ?_
  refine ev_loc [0, 1, 2, 3] rfl ?_
  exact l_J1_indexOf_4cfef_0 u l0 l1 l2 l3 r h

-- java/lang/String.indexOf(II)I
def f_J0_indexOf_7cf53  (u : am_MU) (l0 : Nat) (l1 : Int32) (l2 : Int32) : Option (am_MU × Int32) :=
if 4 ≤ l0 ∧ l0 < 10 then (
(f_J0_isLatin1_aae02 u l0).bind fun q1 =>
if q1.2 = 0 then ((f_J0_length_8abf5 q1.1 l0).bind fun q4 =>
none)
else ((f_J0_length_8abf5 q1.1 l0).bind fun q5 =>
(f_J1_indexOf_4cfef q5.1 (l0 + 6) l1 l2 q5.2).bind fun q6 =>
some (q6.1, q6.2))) else none

theorem l_J0_indexOf_7cf53_0 {X : Nat × (Nat → Int32)}   (u : am_MU) (l0 : Nat) (l1 : Int32) (l2 : Int32) (r : am_MU × Int32) (h : f_J0_indexOf_7cf53  u l0 l1 l2 = some r) : am_Ev X M_J0_indexOf_7cf53 0 [(0, .retAddr l0), (1, .int l1), (2, .int l2)] [] (hp u) (hp r.1, some (.int r.2)) := by
  unfold f_J0_indexOf_7cf53 at h
  refine ev_aload_n dJ0_indexOf_7cf53_0 0 rfl trivial ?_
  obtain ⟨g2, h⟩ := am_gd h
  obtain ⟨q1, eq1, h⟩ := am_bd h
  refine px_callSi [] rfl g2 dJ0_indexOf_7cf53_1 ok_J0_isLatin1_aae02 lk_RJ0_492 in_J0_isLatin1_aae02 se_J0_isLatin1_aae02 (by decide) rfl (c_J0_isLatin1_aae02 eq1) rfl (Nat.le_of_ble_eq_true rfl) ?_
  refine ev_if_eq 23 dJ0_indexOf_7cf53_4 (by decide) (fun c3 => ?_) (fun c3 => ?_)
  · have h := am_t c3 h
    refine ev_aload_n dJ0_indexOf_7cf53_23 0 rfl trivial ?_
    refine ev_getSV dJ0_indexOf_7cf53_24 tw_1282 g2 ?_
    refine ev_iload_n dJ0_indexOf_7cf53_27 1 rfl ?_
    refine ev_iload_n dJ0_indexOf_7cf53_28 2 rfl ?_
    refine ev_aload_n dJ0_indexOf_7cf53_29 0 rfl trivial ?_
    obtain ⟨q4, eq4, h⟩ := am_bd h
    refine px_callSi [] rfl g2 dJ0_indexOf_7cf53_30 ok_J0_length_8abf5 lk_RJ0_505 in_J0_length_8abf5 se_J0_length_8abf5 (by decide) rfl (c_J0_length_8abf5 eq4) rfl (Nat.le_of_ble_eq_true rfl) ?_
    cases h
  · have h := am_e c3 h
    refine ev_aload_n dJ0_indexOf_7cf53_7 0 rfl trivial ?_
    refine ev_getSV dJ0_indexOf_7cf53_8 tw_1282 g2 ?_
    refine ev_iload_n dJ0_indexOf_7cf53_11 1 rfl ?_
    refine ev_iload_n dJ0_indexOf_7cf53_12 2 rfl ?_
    refine ev_aload_n dJ0_indexOf_7cf53_13 0 rfl trivial ?_
    obtain ⟨q5, eq5, h⟩ := am_bd h
    refine px_callSi [] rfl g2 dJ0_indexOf_7cf53_14 ok_J0_length_8abf5 lk_RJ0_505 in_J0_length_8abf5 se_J0_length_8abf5 (by decide) rfl (c_J0_length_8abf5 eq5) rfl (Nat.le_of_ble_eq_true rfl) ?_
    obtain ⟨q6, eq6, h⟩ := am_bd h
    refine px_callsi [.retAddr (l0 + 6), .int l1, .int l2, .int q5.2] dJ0_indexOf_7cf53_17 ok_J1_indexOf_4cfef lk_RJ0_637 st_J1_indexOf_4cfef (by decide) rfl (c_J1_indexOf_4cfef eq6) rfl (Nat.le_of_ble_eq_true rfl) ?_
    refine ev_goto 36 dJ0_indexOf_7cf53_20 (by decide) ?_
    obtain rfl := Option.some.inj h
    exact ev_iret dJ0_indexOf_7cf53_36 rfl rfl

theorem c_J0_indexOf_7cf53 {X : Nat × (Nat → Int32)} {u : am_MU} {l0 : Nat} {l1 : Int32} {l2 : Int32} {r : am_MU × Int32} (h : f_J0_indexOf_7cf53 u l0 l1 l2 = some r) : am_Cn X M_J0_indexOf_7cf53 [.retAddr l0, .int l1, .int l2] (hp u) (hp r.1, some (.int r.2)) := by
  refine am_Cn.of ok_J0_indexOf_7cf53 (Nat.le_refl _) (Nat.le_refl _) (Nat.le_of_ble_eq_true rfl) ?_
  refine ev_loc [0, 1, 2] rfl ?_
  exact l_J0_indexOf_7cf53_0 u l0 l1 l2 r h

-- java/lang/String.indexOf(I)I
def f_J0_indexOf_0f7a4  (u : am_MU) (l0 : Nat) (l1 : Int32) : Option (am_MU × Int32) :=
if 4 ≤ l0 ∧ l0 < 10 then (
(f_J0_indexOf_7cf53 u l0 l1 (0 : Int32)).bind fun q1 =>
some (q1.1, q1.2)) else none

theorem l_J0_indexOf_0f7a4_0 {X : Nat × (Nat → Int32)}   (u : am_MU) (l0 : Nat) (l1 : Int32) (r : am_MU × Int32) (h : f_J0_indexOf_0f7a4  u l0 l1 = some r) : am_Ev X M_J0_indexOf_0f7a4 0 [(0, .retAddr l0), (1, .int l1)] [] (hp u) (hp r.1, some (.int r.2)) := by
  unfold f_J0_indexOf_0f7a4 at h
  refine ev_aload_n dJ0_indexOf_0f7a4_0 0 rfl trivial ?_
  refine ev_iload_n dJ0_indexOf_0f7a4_1 1 rfl ?_
  refine ev_iconst (v := (0 : Int32)) dJ0_indexOf_0f7a4_2 kI_0 ?_
  obtain ⟨g2, h⟩ := am_gd h
  obtain ⟨q1, eq1, h⟩ := am_bd h
  refine px_callSi [.int l1, .int (0 : Int32)] rfl g2 dJ0_indexOf_0f7a4_3 ok_J0_indexOf_7cf53 lk_RJ0_633 in_J0_indexOf_7cf53 se_J0_indexOf_7cf53 (by decide) rfl (c_J0_indexOf_7cf53 eq1) rfl (Nat.le_of_ble_eq_true rfl) ?_
  obtain rfl := Option.some.inj h
  exact ev_iret dJ0_indexOf_0f7a4_6 rfl rfl

theorem c_J0_indexOf_0f7a4 {X : Nat × (Nat → Int32)} {u : am_MU} {l0 : Nat} {l1 : Int32} {r : am_MU × Int32} (h : f_J0_indexOf_0f7a4 u l0 l1 = some r) : am_Cn X M_J0_indexOf_0f7a4 [.retAddr l0, .int l1] (hp u) (hp r.1, some (.int r.2)) := by
  refine am_Cn.of ok_J0_indexOf_0f7a4 (Nat.le_refl _) (Nat.le_refl _) (Nat.le_of_ble_eq_true rfl) ?_
  refine ev_loc [0, 1] rfl ?_
  exact l_J0_indexOf_0f7a4_0 u l0 l1 r h

