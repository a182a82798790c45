-- SandRipplesModel.soon(II)I
def g_X7_soon_56  (u : am_MU) (l1 : Int32) (l3 : Int32) : Option (am_MU × Int32) :=
(f_X7_putsBack u l1).bind fun q1 =>
if (100 : Int32) < l3 then (some (q1, ((-1000000005) : Int32)))
else (some (q1, l3))

def g_X7_soon_28  : Nat → am_MU → Int32 → Int32 → Int32 → Option (am_MU × Int32)
  | 0 => fun _ _ _ _ => none
  | n + 1 => fun u l1 l2 l3 =>
if (100 : Int32) < l3 then (g_X7_soon_56 u l1 l3)
else ((f_X7_crestsOf u l1).bind fun q2 =>
if l2 ≤ q2.2 then (g_X7_soon_56 q2.1 l1 l3)
else ((f_X7_tick q2.1 l1).bind fun q4 =>
am_let (l3 + (1 : Int32)) fun x5 =>
g_X7_soon_28 n q4.1 l1 l2 x5))

def f_X7_soon  (u : am_MU) (l1 : Int32) (l2 : Int32) : Option (am_MU × Int32) :=
(f_X7_isFloor u l1).bind fun q1 =>
if q1.2 = 0 then (some (q1.1, ((-1000000001) : Int32)))
else ((f_X7_in q1.1 l2 (0 : Int32) (24 : Int32)).bind fun q3 =>
if q3.2 = 0 then (some (q3.1, ((-1000000001) : Int32)))
else ((f_X7_thinks q3.1 l1).bind fun q5 =>
g_X7_soon_28 1700 q5 l1 l2 (0 : Int32)))

theorem l_X7_soon_56 {X : Nat × (Nat → Int32)}   (u : am_MU) (l1 : Int32) (l3 : Int32) (r : am_MU × Int32) (h : g_X7_soon_56  u l1 l3 = some r) : am_Ev X M_X7_soon 56 [(0, .ref 110), (1, .int l1), (3, .int l3)] [] (hp u) (hp r.1, some (.int r.2)) := by
  unfold g_X7_soon_56 at h
  refine ev_aload_n dX7_soon_56 0 rfl trivial ?_
  refine ev_iload_n dX7_soon_57 1 rfl ?_
  obtain ⟨q1, eq1, h⟩ := am_bd h
  refine px_callvv [.int l1] (by decide) cl_7 (at7 rfl) dX7_soon_58 ok_X7_putsBack lk_RX7_176 in_X7_putsBack se_X7_putsBack (by decide) rfl (c_X7_putsBack eq1) rfl (Nat.le_of_ble_eq_true rfl) ?_
  refine ev_iload_n dX7_soon_61 2 rfl ?_
  refine ev_bipush (v := (100 : Int32)) dX7_soon_62 kB_100 ?_
  refine ev_icmp_gt 71 dX7_soon_64 (by decide) (fun c2 => ?_) (fun c2 => ?_)
  · have h := am_t c2 h
    refine ev_ldc (v := ((-1000000005) : Int32)) dX7_soon_71 tw_1083 ?_
    obtain rfl := Option.some.inj h
    exact ev_iret dX7_soon_73 rfl rfl
  · have h := am_e c2 h
    refine ev_iload_n dX7_soon_67 2 rfl ?_
    refine ev_goto 73 dX7_soon_68 (by decide) ?_
    obtain rfl := Option.some.inj h
    exact ev_iret dX7_soon_73 rfl rfl

theorem l_X7_soon_28 {X : Nat × (Nat → Int32)}   : ∀ (n : Nat) (u : am_MU) (l1 : Int32) (l2 : Int32) (l3 : Int32) (r : am_MU × Int32), g_X7_soon_28  n u l1 l2 l3 = some r → am_Ev X M_X7_soon 28 [(0, .ref 110), (1, .int l1), (2, .int l2), (3, .int l3)] [] (hp u) (hp r.1, some (.int r.2)) := by
  intro n
  induction n with
  | zero => intro u l1 l2 l3 r h; cases h
  | succ n ih =>
    intro u l1 l2 l3 r h
    rw [g_X7_soon_28] at h
    refine ev_iload_n dX7_soon_28 3 rfl ?_
    refine ev_bipush (v := (100 : Int32)) dX7_soon_29 kB_100 ?_
    refine ev_icmp_gt 56 dX7_soon_31 (by decide) (fun c1 => ?_) (fun c1 => ?_)
    · have h := am_t c1 h
      refine ev_loc [0, 1, 3] rfl ?_
      exact l_X7_soon_56   u l1 l3 _ h
    · have h := am_e c1 h
      refine ev_aload_n dX7_soon_34 0 rfl trivial ?_
      refine ev_iload_n dX7_soon_35 1 rfl ?_
      obtain ⟨q2, eq2, h⟩ := am_bd h
      refine px_callvi [.int l1] (by decide) cl_7 (at7 rfl) dX7_soon_36 ok_X7_crestsOf lk_RX7_119 in_X7_crestsOf se_X7_crestsOf (by decide) rfl (c_X7_crestsOf eq2) rfl (Nat.le_of_ble_eq_true rfl) ?_
      refine ev_iload_n dX7_soon_39 2 rfl ?_
      refine ev_icmp_ge 56 dX7_soon_40 (by decide) (fun c3 => ?_) (fun c3 => ?_)
      · have h := am_t c3 h
        refine ev_loc [0, 1, 3] rfl ?_
        exact l_X7_soon_56   q2.1 l1 l3 _ h
      · have h := am_e c3 h
        refine ev_aload_n dX7_soon_43 0 rfl trivial ?_
        refine ev_iload_n dX7_soon_44 1 rfl ?_
        obtain ⟨q4, eq4, h⟩ := am_bd h
        refine px_callvi [.int l1] (by decide) cl_7 (at7 rfl) dX7_soon_45 ok_X7_tick lk_RX7_165 in_X7_tick se_X7_tick (by decide) rfl (c_X7_tick eq4) rfl (Nat.le_of_ble_eq_true rfl) ?_
        refine ev_istore (L' := [(4, .int q4.2), (0, .ref 110), (1, .int l1), (2, .int l2), (3, .int l3)]) dX7_soon_48 (by decide) rfl ?_
        obtain ⟨x5, ex5, h⟩ := am_lt h
        refine ev_iinc (v := x5) (L' := [(3, .int x5), (4, .int q4.2), (0, .ref 110), (1, .int l1), (2, .int l2)]) dX7_soon_50 4 rfl (by rw [kI_1, ex5]) (by decide) rfl ?_
        refine ev_goto 28 dX7_soon_53 (by decide) ?_
        refine ev_loc [2, 3, 4, 0] rfl ?_
        exact ih q4.1 l1 l2 x5 _ h

theorem l_X7_soon_0 {X : Nat × (Nat → Int32)}   (u : am_MU) (l1 : Int32) (l2 : Int32) (r : am_MU × Int32) (h : f_X7_soon  u l1 l2 = some r) : am_Ev X M_X7_soon 0 [(0, .ref 110), (1, .int l1), (2, .int l2)] [] (hp u) (hp r.1, some (.int r.2)) := by
  unfold f_X7_soon at h
  refine ev_aload_n dX7_soon_0 0 rfl trivial ?_
  refine ev_iload_n dX7_soon_1 1 rfl ?_
  obtain ⟨q1, eq1, h⟩ := am_bd h
  refine px_callvi [.int l1] (by decide) cl_7 (at7 rfl) dX7_soon_2 ok_X7_isFloor lk_RX7_128 in_X7_isFloor se_X7_isFloor (by decide) rfl (c_X7_isFloor eq1) rfl (Nat.le_of_ble_eq_true rfl) ?_
  refine ev_if_eq 18 dX7_soon_5 (by decide) (fun c2 => ?_) (fun c2 => ?_)
  · have h := am_t c2 h
    refine ev_ldc (v := ((-1000000001) : Int32)) dX7_soon_18 tw_933 ?_
    obtain rfl := Option.some.inj h
    exact ev_iret dX7_soon_20 rfl rfl
  · have h := am_e c2 h
    refine ev_iload_n dX7_soon_8 2 rfl ?_
    refine ev_iconst (v := (0 : Int32)) dX7_soon_9 kI_0 ?_
    refine ev_bipush (v := (24 : Int32)) dX7_soon_10 kB_24 ?_
    obtain ⟨q3, eq3, h⟩ := am_bd h
    refine px_callsi [.int l2, .int (0 : Int32), .int (24 : Int32)] dX7_soon_12 ok_X7_in lk_RX7_78 st_X7_in (by decide) rfl (c_X7_in eq3) rfl (Nat.le_of_ble_eq_true rfl) ?_
    refine ev_if_ne 21 dX7_soon_15 (by decide) (fun c4 => ?_) (fun c4 => ?_)
    · have h := am_e c4 h
      refine ev_aload_n dX7_soon_21 0 rfl trivial ?_
      refine ev_iload_n dX7_soon_22 1 rfl ?_
      obtain ⟨q5, eq5, h⟩ := am_bd h
      refine px_callvv [.int l1] (by decide) cl_7 (at7 rfl) dX7_soon_23 ok_X7_thinks lk_RX7_172 in_X7_thinks se_X7_thinks (by decide) rfl (c_X7_thinks eq5) rfl (Nat.le_of_ble_eq_true rfl) ?_
      refine ev_iconst (v := (0 : Int32)) dX7_soon_26 kI_0 ?_
      refine ev_istore_n (L' := [(3, .int (0 : Int32)), (0, .ref 110), (1, .int l1), (2, .int l2)]) dX7_soon_27 (by decide) rfl ?_
      refine ev_loc [1, 2, 3, 0] rfl ?_
      exact l_X7_soon_28   1700 q5 l1 l2 (0 : Int32) _ h
    · have h := am_t c4 h
      refine ev_ldc (v := ((-1000000001) : Int32)) dX7_soon_18 tw_933 ?_
      obtain rfl := Option.some.inj h
      exact ev_iret dX7_soon_20 rfl rfl

theorem c_X7_soon {X : Nat × (Nat → Int32)} {u : am_MU} {l1 : Int32} {l2 : Int32} {r : am_MU × Int32} (h : f_X7_soon u l1 l2 = some r) : am_Cn X M_X7_soon [.ref 110, .int l1, .int l2] (hp u) (hp r.1, some (.int r.2)) := by
  refine am_Cn.of ok_X7_soon (Nat.le_refl _) (Nat.le_refl _) (Nat.le_of_ble_eq_true rfl) ?_
  refine ev_loc [0, 1, 2] rfl ?_
  exact l_X7_soon_0 u l1 l2 r h

-- SandRipplesModel.isAsBefore(I)Z
def g_X7_isAsBefore_2  : Nat → am_MU → Int32 → Int32 → Option (am_MU × Int32)
  | 0 => fun _ _ _ => none
  | n + 1 => fun u l1 l2 =>
if (26 : Int32) ≤ l2 then (some (u, (1 : Int32)))
else ((f_X7_at u l1).bind fun q2 =>
if am_in (q2.2 + l2) 1535 then (
if am_in l2 26 then (
if (q2.1 111 ((q2.2 + l2).toNatClampNeg)) = (q2.1 115 l2.toNatClampNeg) then (am_let (l2 + (1 : Int32)) fun x6 =>
g_X7_isAsBefore_2 n q2.1 l1 x6)
else (some (q2.1, (0 : Int32)))) else none) else none)

def f_X7_isAsBefore  (u : am_MU) (l1 : Int32) : Option (am_MU × Int32) :=
g_X7_isAsBefore_2 1700 u l1 (2 : Int32)

theorem l_X7_isAsBefore_2 {X : Nat × (Nat → Int32)}   : ∀ (n : Nat) (u : am_MU) (l1 : Int32) (l2 : Int32) (r : am_MU × Int32), g_X7_isAsBefore_2  n u l1 l2 = some r → am_Ev X M_X7_isAsBefore 2 [(0, .ref 110), (1, .int l1), (2, .int l2)] [] (hp u) (hp r.1, some (.int r.2)) := by
  intro n
  induction n with
  | zero => intro u l1 l2 r h; cases h
  | succ n ih =>
    intro u l1 l2 r h
    rw [g_X7_isAsBefore_2] at h
    refine ev_iload_n dX7_isAsBefore_2 2 rfl ?_
    refine ev_bipush (v := (26 : Int32)) dX7_isAsBefore_3 kB_26 ?_
    refine ev_icmp_ge 36 dX7_isAsBefore_5 (by decide) (fun c1 => ?_) (fun c1 => ?_)
    · have h := am_t c1 h
      refine ev_iconst (v := (1 : Int32)) dX7_isAsBefore_36 kI_1 ?_
      obtain rfl := Option.some.inj h
      exact ev_iret dX7_isAsBefore_37 rfl (am_zn (Or.inr rfl))
    · have h := am_e c1 h
      refine ev_aload_n dX7_isAsBefore_8 0 rfl trivial ?_
      refine px_getR dX7_isAsBefore_9 gf_RX7_9 (at7 rfl) (by decide) rfl ?_
      refine ev_iload_n dX7_isAsBefore_12 1 rfl ?_
      obtain ⟨q2, eq2, h⟩ := am_bd h
      refine px_callsi [.int l1] dX7_isAsBefore_13 ok_X7_at lk_RX7_82 st_X7_at (by decide) rfl (c_X7_at eq2) rfl (Nat.le_of_ble_eq_true rfl) ?_
      refine ev_iload_n dX7_isAsBefore_16 2 rfl ?_
      refine ev_iadd dX7_isAsBefore_17 ?_
      obtain ⟨g3, h⟩ := am_gd h
      refine px_iald (n := 1535) ((q2.2 + l2).toNatClampNeg) dX7_isAsBefore_18 rfl g3 rfl ?_
      refine ev_aload_n dX7_isAsBefore_19 0 rfl trivial ?_
      refine px_getR dX7_isAsBefore_20 gf_RX7_22 (at7 rfl) (by decide) rfl ?_
      refine ev_iload_n dX7_isAsBefore_23 2 rfl ?_
      obtain ⟨g4, h⟩ := am_gd h
      refine px_iald (n := 26) l2.toNatClampNeg dX7_isAsBefore_24 rfl g4 rfl ?_
      refine ev_icmp_eq 30 dX7_isAsBefore_25 (by decide) (fun c5 => ?_) (fun c5 => ?_)
      · have h := am_t c5 h
        obtain ⟨x6, ex6, h⟩ := am_lt h
        refine ev_iinc (v := x6) (L' := [(2, .int x6), (0, .ref 110), (1, .int l1)]) dX7_isAsBefore_30 2 rfl (by rw [kI_1, ex6]) (by decide) rfl ?_
        refine ev_goto 2 dX7_isAsBefore_33 (by decide) ?_
        refine ev_loc [1, 2, 0] rfl ?_
        exact ih q2.1 l1 x6 _ h
      · have h := am_e c5 h
        refine ev_iconst (v := (0 : Int32)) dX7_isAsBefore_28 kI_0 ?_
        obtain rfl := Option.some.inj h
        exact ev_iret dX7_isAsBefore_29 rfl (am_zn (Or.inl rfl))

theorem l_X7_isAsBefore_0 {X : Nat × (Nat → Int32)}   (u : am_MU) (l1 : Int32) (r : am_MU × Int32) (h : f_X7_isAsBefore  u l1 = some r) : am_Ev X M_X7_isAsBefore 0 [(0, .ref 110), (1, .int l1)] [] (hp u) (hp r.1, some (.int r.2)) := by
  unfold f_X7_isAsBefore at h
  refine ev_iconst (v := (2 : Int32)) dX7_isAsBefore_0 kI_2 ?_
  refine ev_istore_n (L' := [(2, .int (2 : Int32)), (0, .ref 110), (1, .int l1)]) dX7_isAsBefore_1 (by decide) rfl ?_
  refine ev_loc [1, 2, 0] rfl ?_
  exact l_X7_isAsBefore_2   1700 u l1 (2 : Int32) _ h

theorem c_X7_isAsBefore {X : Nat × (Nat → Int32)} {u : am_MU} {l1 : Int32} {r : am_MU × Int32} (h : f_X7_isAsBefore u l1 = some r) : am_Cn X M_X7_isAsBefore [.ref 110, .int l1] (hp u) (hp r.1, some (.int r.2)) := by
  refine am_Cn.of ok_X7_isAsBefore (Nat.le_refl _) (Nat.le_refl _) (Nat.le_of_ble_eq_true rfl) ?_
  refine ev_loc [0, 1] rfl ?_
  exact l_X7_isAsBefore_0 u l1 r h

-- SandRipplesModel.period(I)I
def g_X7_period_61  (u : am_MU) (l1 : Int32) (l2 : Int32) : Option (am_MU × Int32) :=
(f_X7_putsBack u l1).bind fun q1 =>
some (q1, l2)

def g_X7_period_54 (K21 : am_MU → Int32 → Int32 → Int32 → Option (am_MU × Int32)) (u : am_MU) (l1 : Int32) (l3 : Int32) (s0 : Int32) : Option (am_MU × Int32) :=
am_let (l3 + (1 : Int32)) fun x1 =>
K21 u l1 s0 x1

def g_X7_period_21  : Nat → am_MU → Int32 → Int32 → Int32 → Option (am_MU × Int32)
  | 0 => fun _ _ _ _ => none
  | n + 1 => fun u l1 l2 l3 =>
if (100 : Int32) < l3 then (g_X7_period_61 u l1 l2)
else (if l2 = ((-1000000005) : Int32) then ((f_X7_tick u l1).bind fun q3 =>
(f_X7_isAsBefore q3.1 l1).bind fun q4 =>
if q4.2 = 0 then (g_X7_period_54 (g_X7_period_21 n) q4.1 l1 l3 ((-1000000005) : Int32))
else (g_X7_period_54 (g_X7_period_21 n) q4.1 l1 l3 l3))
else (g_X7_period_61 u l1 l2))

def f_X7_period  (u : am_MU) (l1 : Int32) : Option (am_MU × Int32) :=
(f_X7_isFloor u l1).bind fun q1 =>
if q1.2 = 0 then (some (q1.1, ((-1000000001) : Int32)))
else ((f_X7_thinks q1.1 l1).bind fun q3 =>
g_X7_period_21 1700 q3 l1 ((-1000000005) : Int32) (1 : Int32))

theorem l_X7_period_61 {X : Nat × (Nat → Int32)}   (u : am_MU) (l1 : Int32) (l2 : Int32) (r : am_MU × Int32) (h : g_X7_period_61  u l1 l2 = some r) : am_Ev X M_X7_period 61 [(0, .ref 110), (1, .int l1), (2, .int l2)] [] (hp u) (hp r.1, some (.int r.2)) := by
  unfold g_X7_period_61 at h
  refine ev_aload_n dX7_period_61 0 rfl trivial ?_
  refine ev_iload_n dX7_period_62 1 rfl ?_
  obtain ⟨q1, eq1, h⟩ := am_bd h
  refine px_callvv [.int l1] (by decide) cl_7 (at7 rfl) dX7_period_63 ok_X7_putsBack lk_RX7_176 in_X7_putsBack se_X7_putsBack (by decide) rfl (c_X7_putsBack eq1) rfl (Nat.le_of_ble_eq_true rfl) ?_
  refine ev_iload_n dX7_period_66 2 rfl ?_
  obtain rfl := Option.some.inj h
  exact ev_iret dX7_period_67 rfl rfl

theorem l_X7_period_54 {X : Nat × (Nat → Int32)} (K21 : am_MU → Int32 → Int32 → Int32 → Option (am_MU × Int32)) (hK21 : ∀ (u : am_MU) (l1 : Int32) (l2 : Int32) (l3 : Int32) (r : am_MU × Int32), K21 u l1 l2 l3 = some r → am_Ev X M_X7_period 21 [(0, .ref 110), (1, .int l1), (2, .int l2), (3, .int l3)] [] (hp u) (hp r.1, some (.int r.2))) (u : am_MU) (l1 : Int32) (l3 : Int32) (s0 : Int32) (r : am_MU × Int32) (h : g_X7_period_54 K21 u l1 l3 s0 = some r) : am_Ev X M_X7_period 54 [(0, .ref 110), (1, .int l1), (3, .int l3)] [.int s0] (hp u) (hp r.1, some (.int r.2)) := by
  unfold g_X7_period_54 at h
  refine ev_istore_n (L' := [(2, .int s0), (0, .ref 110), (1, .int l1), (3, .int l3)]) dX7_period_54 (by decide) rfl ?_
  obtain ⟨x1, ex1, h⟩ := am_lt h
  refine ev_iinc (v := x1) (L' := [(3, .int x1), (2, .int s0), (0, .ref 110), (1, .int l1)]) dX7_period_55 3 rfl (by rw [kI_1, ex1]) (by decide) rfl ?_
  refine ev_goto 21 dX7_period_58 (by decide) ?_
  refine ev_loc [2, 3, 1, 0] rfl ?_
  exact hK21 u l1 s0 x1 _ h

theorem l_X7_period_21 {X : Nat × (Nat → Int32)}   : ∀ (n : Nat) (u : am_MU) (l1 : Int32) (l2 : Int32) (l3 : Int32) (r : am_MU × Int32), g_X7_period_21  n u l1 l2 l3 = some r → am_Ev X M_X7_period 21 [(0, .ref 110), (1, .int l1), (2, .int l2), (3, .int l3)] [] (hp u) (hp r.1, some (.int r.2)) := by
  intro n
  induction n with
  | zero => intro u l1 l2 l3 r h; cases h
  | succ n ih =>
    intro u l1 l2 l3 r h
    rw [g_X7_period_21] at h
    refine ev_iload_n dX7_period_21 3 rfl ?_
    refine ev_bipush (v := (100 : Int32)) dX7_period_22 kB_100 ?_
    refine ev_icmp_gt 61 dX7_period_24 (by decide) (fun c1 => ?_) (fun c1 => ?_)
    · have h := am_t c1 h
      refine ev_loc [0, 1, 2] rfl ?_
      exact l_X7_period_61   u l1 l2 _ h
    · have h := am_e c1 h
      refine ev_iload_n dX7_period_27 2 rfl ?_
      refine ev_ldc (v := ((-1000000005) : Int32)) dX7_period_28 tw_1083 ?_
      refine ev_icmp_ne 61 dX7_period_30 (by decide) (fun c2 => ?_) (fun c2 => ?_)
      · have h := am_e c2 h
        refine ev_loc [0, 1, 2] rfl ?_
        exact l_X7_period_61   u l1 l2 _ h
      · have h := am_t c2 h
        refine ev_aload_n dX7_period_33 0 rfl trivial ?_
        refine ev_iload_n dX7_period_34 1 rfl ?_
        obtain ⟨q3, eq3, h⟩ := am_bd h
        refine px_callvi [.int l1] (by decide) cl_7 (at7 rfl) dX7_period_35 ok_X7_tick lk_RX7_165 in_X7_tick se_X7_tick (by decide) rfl (c_X7_tick eq3) rfl (Nat.le_of_ble_eq_true rfl) ?_
        refine ev_istore (L' := [(4, .int q3.2), (0, .ref 110), (1, .int l1), (2, .int l2), (3, .int l3)]) dX7_period_38 (by decide) rfl ?_
        refine ev_aload_n dX7_period_40 1 rfl trivial ?_
        refine ev_iload_n dX7_period_41 2 rfl ?_
        obtain ⟨q4, eq4, h⟩ := am_bd h
        refine px_callvi [.int l1] (by decide) cl_7 (at7 rfl) dX7_period_42 ok_X7_isAsBefore lk_RX7_179 in_X7_isAsBefore se_X7_isAsBefore (by decide) rfl (c_X7_isAsBefore eq4) rfl (Nat.le_of_ble_eq_true rfl) ?_
        refine ev_if_eq 52 dX7_period_45 (by decide) (fun c5 => ?_) (fun c5 => ?_)
        · have h := am_t c5 h
          refine ev_ldc (v := ((-1000000005) : Int32)) dX7_period_52 tw_1083 ?_
          refine ev_loc [1, 2, 4] rfl ?_
          exact l_X7_period_54 (g_X7_period_21 n) (fun u l1 l2 l3 r h => ih u l1 l2 l3 r h) q4.1 l1 l3 ((-1000000005) : Int32) _ h
        · have h := am_e c5 h
          refine ev_iload_n dX7_period_48 4 rfl ?_
          refine ev_goto 54 dX7_period_49 (by decide) ?_
          refine ev_loc [1, 2, 4] rfl ?_
          exact l_X7_period_54 (g_X7_period_21 n) (fun u l1 l2 l3 r h => ih u l1 l2 l3 r h) q4.1 l1 l3 l3 _ h

theorem l_X7_period_0 {X : Nat × (Nat → Int32)}   (u : am_MU) (l1 : Int32) (r : am_MU × Int32) (h : f_X7_period  u l1 = some r) : am_Ev X M_X7_period 0 [(0, .ref 110), (1, .int l1)] [] (hp u) (hp r.1, some (.int r.2)) := by
  unfold f_X7_period at h
  refine ev_aload_n dX7_period_0 0 rfl trivial ?_
  refine ev_iload_n dX7_period_1 1 rfl ?_
  obtain ⟨q1, eq1, h⟩ := am_bd h
  refine px_callvi [.int l1] (by decide) cl_7 (at7 rfl) dX7_period_2 ok_X7_isFloor lk_RX7_128 in_X7_isFloor se_X7_isFloor (by decide) rfl (c_X7_isFloor eq1) rfl (Nat.le_of_ble_eq_true rfl) ?_
  refine ev_if_ne 11 dX7_period_5 (by decide) (fun c2 => ?_) (fun c2 => ?_)
  · have h := am_e c2 h
    refine ev_aload_n dX7_period_11 0 rfl trivial ?_
    refine ev_iload_n dX7_period_12 1 rfl ?_
    obtain ⟨q3, eq3, h⟩ := am_bd h
    refine px_callvv [.int l1] (by decide) cl_7 (at7 rfl) dX7_period_13 ok_X7_thinks lk_RX7_172 in_X7_thinks se_X7_thinks (by decide) rfl (c_X7_thinks eq3) rfl (Nat.le_of_ble_eq_true rfl) ?_
    refine ev_ldc (v := ((-1000000005) : Int32)) dX7_period_16 tw_1083 ?_
    refine ev_istore_n (L' := [(2, .int ((-1000000005) : Int32)), (0, .ref 110), (1, .int l1)]) dX7_period_18 (by decide) rfl ?_
    refine ev_iconst (v := (1 : Int32)) dX7_period_19 kI_1 ?_
    refine ev_istore_n (L' := [(3, .int (1 : Int32)), (2, .int ((-1000000005) : Int32)), (0, .ref 110), (1, .int l1)]) dX7_period_20 (by decide) rfl ?_
    refine ev_loc [2, 3, 1, 0] rfl ?_
    exact l_X7_period_21   1700 q3 l1 ((-1000000005) : Int32) (1 : Int32) _ h
  · have h := am_t c2 h
    refine ev_ldc (v := ((-1000000001) : Int32)) dX7_period_8 tw_933 ?_
    obtain rfl := Option.some.inj h
    exact ev_iret dX7_period_10 rfl rfl

theorem c_X7_period {X : Nat × (Nat → Int32)} {u : am_MU} {l1 : Int32} {r : am_MU × Int32} (h : f_X7_period u l1 = some r) : am_Cn X M_X7_period [.ref 110, .int l1] (hp u) (hp r.1, some (.int r.2)) := by
  refine am_Cn.of ok_X7_period (Nat.le_refl _) (Nat.le_refl _) (Nat.le_of_ble_eq_true rfl) ?_
  refine ev_loc [0, 1] rfl ?_
  exact l_X7_period_0 u l1 r h

-- SandRipplesModel.foot(III)I
def f_X7_foot  (u : am_MU) (l1 : Int32) (l2 : Int32) (l3 : Int32) : Option (am_MU × Int32) :=
(f_X7_isFloor u l1).bind fun q1 =>
if q1.2 = 0 then (some (q1.1, ((-1000000001) : Int32)))
else ((f_X7_isCell q1.1 l2).bind fun q3 =>
if q3.2 = 0 then (some (q3.1, ((-1000000001) : Int32)))
else ((f_X7_in q3.1 l3 (0 : Int32) (99 : Int32)).bind fun q5 =>
if q5.2 = 0 then (some (q5.1, ((-1000000001) : Int32)))
else ((f_X7_sandOf q5.1 l1 l2).bind fun q7 =>
(f_X7_within q7.1 l3 (0 : Int32) q7.2).bind fun q8 =>
(f_X7_spot q8.1 l1 l2).bind fun q9 =>
if am_in q9.2 1535 then (
am_let (am_u2 q9.1 111 q9.2.toNatClampNeg ((q9.1 111 q9.2.toNatClampNeg) - q8.2)) fun u11 =>
(f_X7_spot u11 l1 (l2 + (1 : Int32))).bind fun q12 =>
if am_in q12.2 1535 then (
am_let (am_u2 q12.1 111 q12.2.toNatClampNeg ((q12.1 111 q12.2.toNatClampNeg) + ((q8.2 + (1 : Int32)) / (2 : Int32)))) fun u14 =>
(f_X7_spot u14 l1 (l2 - (1 : Int32))).bind fun q15 =>
if am_in q15.2 1535 then (
am_let (am_u2 q15.1 111 q15.2.toNatClampNeg ((q15.1 111 q15.2.toNatClampNeg) + (q8.2 / (2 : Int32)))) fun u17 =>
some (u17, q8.2)) else none) else none) else none)))

theorem l_X7_foot_0 {X : Nat × (Nat → Int32)}   (u : am_MU) (l1 : Int32) (l2 : Int32) (l3 : Int32) (r : am_MU × Int32) (h : f_X7_foot  u l1 l2 l3 = some r) : am_Ev X M_X7_foot 0 [(0, .ref 110), (1, .int l1), (2, .int l2), (3, .int l3)] [] (hp u) (hp r.1, some (.int r.2)) := by
  unfold f_X7_foot at h
  refine ev_aload_n dX7_foot_0 0 rfl trivial ?_
  refine ev_iload_n dX7_foot_1 1 rfl ?_
  obtain ⟨q1, eq1, h⟩ := am_bd h
  refine px_callvi [.int l1] (by decide) cl_7 (at7 rfl) dX7_foot_2 ok_X7_isFloor lk_RX7_128 in_X7_isFloor se_X7_isFloor (by decide) rfl (c_X7_isFloor eq1) rfl (Nat.le_of_ble_eq_true rfl) ?_
  refine ev_if_eq 25 dX7_foot_5 (by decide) (fun c2 => ?_) (fun c2 => ?_)
  · have h := am_t c2 h
    refine ev_ldc (v := ((-1000000001) : Int32)) dX7_foot_25 tw_933 ?_
    obtain rfl := Option.some.inj h
    exact ev_iret dX7_foot_27 rfl rfl
  · have h := am_e c2 h
    refine ev_iload_n dX7_foot_8 2 rfl ?_
    obtain ⟨q3, eq3, h⟩ := am_bd h
    refine px_callsi [.int l2] dX7_foot_9 ok_X7_isCell lk_RX7_151 st_X7_isCell (by decide) rfl (c_X7_isCell eq3) rfl (Nat.le_of_ble_eq_true rfl) ?_
    refine ev_if_eq 25 dX7_foot_12 (by decide) (fun c4 => ?_) (fun c4 => ?_)
    · have h := am_t c4 h
      refine ev_ldc (v := ((-1000000001) : Int32)) dX7_foot_25 tw_933 ?_
      obtain rfl := Option.some.inj h
      exact ev_iret dX7_foot_27 rfl rfl
    · have h := am_e c4 h
      refine ev_iload_n dX7_foot_15 3 rfl ?_
      refine ev_iconst (v := (0 : Int32)) dX7_foot_16 kI_0 ?_
      refine ev_bipush (v := (99 : Int32)) dX7_foot_17 kB_99 ?_
      obtain ⟨q5, eq5, h⟩ := am_bd h
      refine px_callsi [.int l3, .int (0 : Int32), .int (99 : Int32)] dX7_foot_19 ok_X7_in lk_RX7_78 st_X7_in (by decide) rfl (c_X7_in eq5) rfl (Nat.le_of_ble_eq_true rfl) ?_
      refine ev_if_ne 28 dX7_foot_22 (by decide) (fun c6 => ?_) (fun c6 => ?_)
      · have h := am_e c6 h
        refine ev_iload_n dX7_foot_28 3 rfl ?_
        refine ev_iconst (v := (0 : Int32)) dX7_foot_29 kI_0 ?_
        refine ev_aload_n dX7_foot_30 0 rfl trivial ?_
        refine ev_iload_n dX7_foot_31 1 rfl ?_
        refine ev_iload_n dX7_foot_32 2 rfl ?_
        obtain ⟨q7, eq7, h⟩ := am_bd h
        refine px_callvi [.int l1, .int l2] (by decide) cl_7 (at7 rfl) dX7_foot_33 ok_X7_sandOf lk_RX7_102 in_X7_sandOf se_X7_sandOf (by decide) rfl (c_X7_sandOf eq7) rfl (Nat.le_of_ble_eq_true rfl) ?_
        obtain ⟨q8, eq8, h⟩ := am_bd h
        refine px_callsi [.int l3, .int (0 : Int32), .int q7.2] dX7_foot_36 ok_X7_within lk_RX7_95 st_X7_within (by decide) rfl (c_X7_within eq8) rfl (Nat.le_of_ble_eq_true rfl) ?_
        refine ev_istore (L' := [(4, .int q8.2), (0, .ref 110), (1, .int l1), (2, .int l2), (3, .int l3)]) dX7_foot_39 (by decide) rfl ?_
        refine ev_aload_n dX7_foot_41 1 rfl trivial ?_
        refine px_getR dX7_foot_42 gf_RX7_9 (at7 rfl) (by decide) rfl ?_
        refine ev_iload_n dX7_foot_45 2 rfl ?_
        refine ev_iload_n dX7_foot_46 3 rfl ?_
        obtain ⟨q9, eq9, h⟩ := am_bd h
        refine px_callsi [.int l1, .int l2] dX7_foot_47 ok_X7_spot lk_RX7_86 st_X7_spot (by decide) rfl (c_X7_spot eq9) rfl (Nat.le_of_ble_eq_true rfl) ?_
        refine ev_dup2 dX7_foot_50 rfl rfl ?_
        obtain ⟨g10, h⟩ := am_gd h
        refine px_iald (n := 1535) q9.2.toNatClampNeg dX7_foot_51 rfl g10 rfl ?_
        refine ev_iload dX7_foot_52 0 rfl ?_
        refine ev_isub dX7_foot_54 ?_
        obtain ⟨u11, eu11, h⟩ := am_lt h
        refine px_iast (n := 1535) q9.2.toNatClampNeg dX7_foot_55 rfl g10 rfl eu11 ?_
        refine ev_aload_n dX7_foot_56 1 rfl trivial ?_
        refine px_getR dX7_foot_57 gf_RX7_9 (at7 rfl) (by decide) rfl ?_
        refine ev_iload_n dX7_foot_60 2 rfl ?_
        refine ev_iload_n dX7_foot_61 3 rfl ?_
        refine ev_iconst (v := (1 : Int32)) dX7_foot_62 kI_1 ?_
        refine ev_iadd dX7_foot_63 ?_
        obtain ⟨q12, eq12, h⟩ := am_bd h
        refine px_callsi [.int l1, .int (l2 + (1 : Int32))] dX7_foot_64 ok_X7_spot lk_RX7_86 st_X7_spot (by decide) rfl (c_X7_spot eq12) rfl (Nat.le_of_ble_eq_true rfl) ?_
        refine ev_dup2 dX7_foot_67 rfl rfl ?_
        obtain ⟨g13, h⟩ := am_gd h
        refine px_iald (n := 1535) q12.2.toNatClampNeg dX7_foot_68 rfl g13 rfl ?_
        refine ev_iload dX7_foot_69 0 rfl ?_
        refine ev_iconst (v := (1 : Int32)) dX7_foot_71 kI_1 ?_
        refine ev_iadd dX7_foot_72 ?_
        refine ev_iconst (v := (2 : Int32)) dX7_foot_73 kI_2 ?_
        refine ev_idiv dX7_foot_74 (by decide) ?_
        refine ev_iadd dX7_foot_75 ?_
        obtain ⟨u14, eu14, h⟩ := am_lt h
        refine px_iast (n := 1535) q12.2.toNatClampNeg dX7_foot_76 rfl g13 rfl eu14 ?_
        refine ev_aload_n dX7_foot_77 1 rfl trivial ?_
        refine px_getR dX7_foot_78 gf_RX7_9 (at7 rfl) (by decide) rfl ?_
        refine ev_iload_n dX7_foot_81 2 rfl ?_
        refine ev_iload_n dX7_foot_82 3 rfl ?_
        refine ev_iconst (v := (1 : Int32)) dX7_foot_83 kI_1 ?_
        refine ev_isub dX7_foot_84 ?_
        obtain ⟨q15, eq15, h⟩ := am_bd h
        refine px_callsi [.int l1, .int (l2 - (1 : Int32))] dX7_foot_85 ok_X7_spot lk_RX7_86 st_X7_spot (by decide) rfl (c_X7_spot eq15) rfl (Nat.le_of_ble_eq_true rfl) ?_
        refine ev_dup2 dX7_foot_88 rfl rfl ?_
        obtain ⟨g16, h⟩ := am_gd h
        refine px_iald (n := 1535) q15.2.toNatClampNeg dX7_foot_89 rfl g16 rfl ?_
        refine ev_iload dX7_foot_90 0 rfl ?_
        refine ev_iconst (v := (2 : Int32)) dX7_foot_92 kI_2 ?_
        refine ev_idiv dX7_foot_93 (by decide) ?_
        refine ev_iadd dX7_foot_94 ?_
        obtain ⟨u17, eu17, h⟩ := am_lt h
        refine px_iast (n := 1535) q15.2.toNatClampNeg dX7_foot_95 rfl g16 rfl eu17 ?_
        refine ev_iload dX7_foot_96 0 rfl ?_
        obtain rfl := Option.some.inj h
        exact ev_iret dX7_foot_98 rfl rfl
      · have h := am_t c6 h
        refine ev_ldc (v := ((-1000000001) : Int32)) dX7_foot_25 tw_933 ?_
        obtain rfl := Option.some.inj h
        exact ev_iret dX7_foot_27 rfl rfl

theorem c_X7_foot {X : Nat × (Nat → Int32)} {u : am_MU} {l1 : Int32} {l2 : Int32} {l3 : Int32} {r : am_MU × Int32} (h : f_X7_foot u l1 l2 l3 = some r) : am_Cn X M_X7_foot [.ref 110, .int l1, .int l2, .int l3] (hp u) (hp r.1, some (.int r.2)) := by
  refine am_Cn.of ok_X7_foot (Nat.le_refl _) (Nat.le_refl _) (Nat.le_of_ble_eq_true rfl) ?_
  refine ev_loc [0, 1, 2, 3] rfl ?_
  exact l_X7_foot_0 u l1 l2 l3 r h

-- SandRipplesModel.worm(II)I
def f_X7_worm  (u : am_MU) (l1 : Int32) (l2 : Int32) : Option (am_MU × Int32) :=
(f_X7_isFloor u l1).bind fun q1 =>
if q1.2 = 0 then (some (q1.1, ((-1000000001) : Int32)))
else ((f_X7_isCell q1.1 l2).bind fun q3 =>
if q3.2 = 0 then (some (q3.1, ((-1000000001) : Int32)))
else ((f_X7_sandOf q3.1 l1 (l2 - (1 : Int32))).bind fun q5 =>
(f_X7_sandOf q5.1 l1 l2).bind fun q6 =>
(f_X7_sandOf q6.1 l1 (l2 + (1 : Int32))).bind fun q7 =>
am_let ((q5.2 + q6.2) + q7.2) fun x8 =>
(f_X7_spot q7.1 l1 (l2 - (1 : Int32))).bind fun q9 =>
if am_in q9.2 1535 then (
am_let (am_u2 q9.1 111 q9.2.toNatClampNeg (x8 / (3 : Int32))) fun u11 =>
(f_X7_spot u11 l1 (l2 + (1 : Int32))).bind fun q12 =>
if am_in q12.2 1535 then (
am_let (am_u2 q12.1 111 q12.2.toNatClampNeg (x8 / (3 : Int32))) fun u14 =>
(f_X7_spot u14 l1 l2).bind fun q15 =>
if am_in q15.2 1535 then (
am_let (am_u2 q15.1 111 q15.2.toNatClampNeg (x8 - ((2 : Int32) * (x8 / (3 : Int32))))) fun u17 =>
(f_X7_sandOf u17 l1 l2).bind fun q18 =>
some (q18.1, q18.2)) else none) else none) else none))

theorem l_X7_worm_0 {X : Nat × (Nat → Int32)}   (u : am_MU) (l1 : Int32) (l2 : Int32) (r : am_MU × Int32) (h : f_X7_worm  u l1 l2 = some r) : am_Ev X M_X7_worm 0 [(0, .ref 110), (1, .int l1), (2, .int l2)] [] (hp u) (hp r.1, some (.int r.2)) := by
  unfold f_X7_worm at h
  refine ev_aload_n dX7_worm_0 0 rfl trivial ?_
  refine ev_iload_n dX7_worm_1 1 rfl ?_
  obtain ⟨q1, eq1, h⟩ := am_bd h
  refine px_callvi [.int l1] (by decide) cl_7 (at7 rfl) dX7_worm_2 ok_X7_isFloor lk_RX7_128 in_X7_isFloor se_X7_isFloor (by decide) rfl (c_X7_isFloor eq1) rfl (Nat.le_of_ble_eq_true rfl) ?_
  refine ev_if_eq 15 dX7_worm_5 (by decide) (fun c2 => ?_) (fun c2 => ?_)
  · have h := am_t c2 h
    refine ev_ldc (v := ((-1000000001) : Int32)) dX7_worm_15 tw_933 ?_
    obtain rfl := Option.some.inj h
    exact ev_iret dX7_worm_17 rfl rfl
  · have h := am_e c2 h
    refine ev_iload_n dX7_worm_8 2 rfl ?_
    obtain ⟨q3, eq3, h⟩ := am_bd h
    refine px_callsi [.int l2] dX7_worm_9 ok_X7_isCell lk_RX7_151 st_X7_isCell (by decide) rfl (c_X7_isCell eq3) rfl (Nat.le_of_ble_eq_true rfl) ?_
    refine ev_if_ne 18 dX7_worm_12 (by decide) (fun c4 => ?_) (fun c4 => ?_)
    · have h := am_e c4 h
      refine ev_aload_n dX7_worm_18 0 rfl trivial ?_
      refine ev_iload_n dX7_worm_19 1 rfl ?_
      refine ev_iload_n dX7_worm_20 2 rfl ?_
      refine ev_iconst (v := (1 : Int32)) dX7_worm_21 kI_1 ?_
      refine ev_isub dX7_worm_22 ?_
      obtain ⟨q5, eq5, h⟩ := am_bd h
      refine px_callvi [.int l1, .int (l2 - (1 : Int32))] (by decide) cl_7 (at7 rfl) dX7_worm_23 ok_X7_sandOf lk_RX7_102 in_X7_sandOf se_X7_sandOf (by decide) rfl (c_X7_sandOf eq5) rfl (Nat.le_of_ble_eq_true rfl) ?_
      refine ev_aload_n dX7_worm_26 0 rfl trivial ?_
      refine ev_iload_n dX7_worm_27 1 rfl ?_
      refine ev_iload_n dX7_worm_28 2 rfl ?_
      obtain ⟨q6, eq6, h⟩ := am_bd h
      refine px_callvi [.int l1, .int l2] (by decide) cl_7 (at7 rfl) dX7_worm_29 ok_X7_sandOf lk_RX7_102 in_X7_sandOf se_X7_sandOf (by decide) rfl (c_X7_sandOf eq6) rfl (Nat.le_of_ble_eq_true rfl) ?_
      refine ev_iadd dX7_worm_32 ?_
      refine ev_aload_n dX7_worm_33 0 rfl trivial ?_
      refine ev_iload_n dX7_worm_34 1 rfl ?_
      refine ev_iload_n dX7_worm_35 2 rfl ?_
      refine ev_iconst (v := (1 : Int32)) dX7_worm_36 kI_1 ?_
      refine ev_iadd dX7_worm_37 ?_
      obtain ⟨q7, eq7, h⟩ := am_bd h
      refine px_callvi [.int l1, .int (l2 + (1 : Int32))] (by decide) cl_7 (at7 rfl) dX7_worm_38 ok_X7_sandOf lk_RX7_102 in_X7_sandOf se_X7_sandOf (by decide) rfl (c_X7_sandOf eq7) rfl (Nat.le_of_ble_eq_true rfl) ?_
      refine ev_iadd dX7_worm_41 ?_
      obtain ⟨x8, ex8, h⟩ := am_lt h
      refine px_top ex8 ?_
      refine ev_istore_n (L' := [(3, .int x8), (0, .ref 110), (1, .int l1), (2, .int l2)]) dX7_worm_42 (by decide) rfl ?_
      refine ev_aload_n dX7_worm_43 1 rfl trivial ?_
      refine px_getR dX7_worm_44 gf_RX7_9 (at7 rfl) (by decide) rfl ?_
      refine ev_iload_n dX7_worm_47 2 rfl ?_
      refine ev_iload_n dX7_worm_48 3 rfl ?_
      refine ev_iconst (v := (1 : Int32)) dX7_worm_49 kI_1 ?_
      refine ev_isub dX7_worm_50 ?_
      obtain ⟨q9, eq9, h⟩ := am_bd h
      refine px_callsi [.int l1, .int (l2 - (1 : Int32))] dX7_worm_51 ok_X7_spot lk_RX7_86 st_X7_spot (by decide) rfl (c_X7_spot eq9) rfl (Nat.le_of_ble_eq_true rfl) ?_
      refine ev_iload_n dX7_worm_54 0 rfl ?_
      refine ev_iconst (v := (3 : Int32)) dX7_worm_55 kI_3 ?_
      refine ev_idiv dX7_worm_56 (by decide) ?_
      obtain ⟨g10, h⟩ := am_gd h
      obtain ⟨u11, eu11, h⟩ := am_lt h
      refine px_iast (n := 1535) q9.2.toNatClampNeg dX7_worm_57 rfl g10 rfl eu11 ?_
      refine ev_aload_n dX7_worm_58 1 rfl trivial ?_
      refine px_getR dX7_worm_59 gf_RX7_9 (at7 rfl) (by decide) rfl ?_
      refine ev_iload_n dX7_worm_62 2 rfl ?_
      refine ev_iload_n dX7_worm_63 3 rfl ?_
      refine ev_iconst (v := (1 : Int32)) dX7_worm_64 kI_1 ?_
      refine ev_iadd dX7_worm_65 ?_
      obtain ⟨q12, eq12, h⟩ := am_bd h
      refine px_callsi [.int l1, .int (l2 + (1 : Int32))] dX7_worm_66 ok_X7_spot lk_RX7_86 st_X7_spot (by decide) rfl (c_X7_spot eq12) rfl (Nat.le_of_ble_eq_true rfl) ?_
      refine ev_iload_n dX7_worm_69 0 rfl ?_
      refine ev_iconst (v := (3 : Int32)) dX7_worm_70 kI_3 ?_
      refine ev_idiv dX7_worm_71 (by decide) ?_
      obtain ⟨g13, h⟩ := am_gd h
      obtain ⟨u14, eu14, h⟩ := am_lt h
      refine px_iast (n := 1535) q12.2.toNatClampNeg dX7_worm_72 rfl g13 rfl eu14 ?_
      refine ev_aload_n dX7_worm_73 1 rfl trivial ?_
      refine px_getR dX7_worm_74 gf_RX7_9 (at7 rfl) (by decide) rfl ?_
      refine ev_iload_n dX7_worm_77 2 rfl ?_
      refine ev_iload_n dX7_worm_78 3 rfl ?_
      obtain ⟨q15, eq15, h⟩ := am_bd h
      refine px_callsi [.int l1, .int l2] dX7_worm_79 ok_X7_spot lk_RX7_86 st_X7_spot (by decide) rfl (c_X7_spot eq15) rfl (Nat.le_of_ble_eq_true rfl) ?_
      refine ev_iload_n dX7_worm_82 0 rfl ?_
      refine ev_iconst (v := (2 : Int32)) dX7_worm_83 kI_2 ?_
      refine ev_iload_n dX7_worm_84 0 rfl ?_
      refine ev_iconst (v := (3 : Int32)) dX7_worm_85 kI_3 ?_
      refine ev_idiv dX7_worm_86 (by decide) ?_
      refine ev_imul dX7_worm_87 ?_
      refine ev_isub dX7_worm_88 ?_
      obtain ⟨g16, h⟩ := am_gd h
      obtain ⟨u17, eu17, h⟩ := am_lt h
      refine px_iast (n := 1535) q15.2.toNatClampNeg dX7_worm_89 rfl g16 rfl eu17 ?_
      refine ev_aload_n dX7_worm_90 1 rfl trivial ?_
      refine ev_iload_n dX7_worm_91 2 rfl ?_
      refine ev_iload_n dX7_worm_92 3 rfl ?_
      obtain ⟨q18, eq18, h⟩ := am_bd h
      refine px_callvi [.int l1, .int l2] (by decide) cl_7 (at7 rfl) dX7_worm_93 ok_X7_sandOf lk_RX7_102 in_X7_sandOf se_X7_sandOf (by decide) rfl (c_X7_sandOf eq18) rfl (Nat.le_of_ble_eq_true rfl) ?_
      obtain rfl := Option.some.inj h
      exact ev_iret dX7_worm_96 rfl rfl
    · have h := am_t c4 h
      refine ev_ldc (v := ((-1000000001) : Int32)) dX7_worm_15 tw_933 ?_
      obtain rfl := Option.some.inj h
      exact ev_iret dX7_worm_17 rfl rfl

theorem c_X7_worm {X : Nat × (Nat → Int32)} {u : am_MU} {l1 : Int32} {l2 : Int32} {r : am_MU × Int32} (h : f_X7_worm u l1 l2 = some r) : am_Cn X M_X7_worm [.ref 110, .int l1, .int l2] (hp u) (hp r.1, some (.int r.2)) := by
  refine am_Cn.of ok_X7_worm (Nat.le_refl _) (Nat.le_refl _) (Nat.le_of_ble_eq_true rfl) ?_
  refine ev_loc [0, 1, 2] rfl ?_
  exact l_X7_worm_0 u l1 l2 r h

-- SandRipplesModel.press(II)I
def g_X7_press_30  : Nat → am_MU → Int32 → Int32 → Int32 → Int32 → Option (am_MU × Int32)
  | 0 => fun _ _ _ _ _ => none
  | n + 1 => fun u l1 l2 l3 l4 =>
if (24 : Int32) ≤ l4 then ((f_X7_sumOf u l1).bind fun q2 =>
some (q2.1, l3 - q2.2))
else ((f_X7_spot u l1 l4).bind fun q3 =>
(f_X7_sandOf q3.1 l1 l4).bind fun q4 =>
if am_in q3.2 1535 then (
am_let (am_u2 q4.1 111 q3.2.toNatClampNeg ((q4.2 * l2) / (100 : Int32))) fun u6 =>
am_let (l4 + (1 : Int32)) fun x7 =>
g_X7_press_30 n u6 l1 l2 l3 x7) else none)

def f_X7_press  (u : am_MU) (l1 : Int32) (l2 : Int32) : Option (am_MU × Int32) :=
(f_X7_isFloor u l1).bind fun q1 =>
if q1.2 = 0 then (some (q1.1, ((-1000000001) : Int32)))
else ((f_X7_in q1.1 l2 (0 : Int32) (100 : Int32)).bind fun q3 =>
if q3.2 = 0 then (some (q3.1, ((-1000000001) : Int32)))
else ((f_X7_sumOf q3.1 l1).bind fun q5 =>
g_X7_press_30 1700 q5.1 l1 l2 q5.2 (0 : Int32)))

theorem l_X7_press_30 {X : Nat × (Nat → Int32)}   : ∀ (n : Nat) (u : am_MU) (l1 : Int32) (l2 : Int32) (l3 : Int32) (l4 : Int32) (r : am_MU × Int32), g_X7_press_30  n u l1 l2 l3 l4 = some r → am_Ev X M_X7_press 30 [(0, .ref 110), (1, .int l1), (2, .int l2), (3, .int l3), (4, .int l4)] [] (hp u) (hp r.1, some (.int r.2)) := by
  intro n
  induction n with
  | zero => intro u l1 l2 l3 l4 r h; cases h
  | succ n ih =>
    intro u l1 l2 l3 l4 r h
    rw [g_X7_press_30] at h
    refine ev_iload dX7_press_30 4 rfl ?_
    refine ev_bipush (v := (24 : Int32)) dX7_press_32 kB_24 ?_
    refine ev_icmp_ge 66 dX7_press_34 (by decide) (fun c1 => ?_) (fun c1 => ?_)
    · have h := am_t c1 h
      refine ev_iload_n dX7_press_66 3 rfl ?_
      refine ev_aload_n dX7_press_67 0 rfl trivial ?_
      refine ev_iload_n dX7_press_68 1 rfl ?_
      obtain ⟨q2, eq2, h⟩ := am_bd h
      refine px_callvi [.int l1] (by decide) cl_7 (at7 rfl) dX7_press_69 ok_X7_sumOf lk_RX7_125 in_X7_sumOf se_X7_sumOf (by decide) rfl (c_X7_sumOf eq2) rfl (Nat.le_of_ble_eq_true rfl) ?_
      refine ev_isub dX7_press_72 ?_
      obtain rfl := Option.some.inj h
      exact ev_iret dX7_press_73 rfl rfl
    · have h := am_e c1 h
      refine ev_aload_n dX7_press_37 0 rfl trivial ?_
      refine px_getR dX7_press_38 gf_RX7_9 (at7 rfl) (by decide) rfl ?_
      refine ev_iload_n dX7_press_41 1 rfl ?_
      refine ev_iload dX7_press_42 4 rfl ?_
      obtain ⟨q3, eq3, h⟩ := am_bd h
      refine px_callsi [.int l1, .int l4] dX7_press_44 ok_X7_spot lk_RX7_86 st_X7_spot (by decide) rfl (c_X7_spot eq3) rfl (Nat.le_of_ble_eq_true rfl) ?_
      refine ev_aload_n dX7_press_47 0 rfl trivial ?_
      refine ev_iload_n dX7_press_48 1 rfl ?_
      refine ev_iload dX7_press_49 4 rfl ?_
      obtain ⟨q4, eq4, h⟩ := am_bd h
      refine px_callvi [.int l1, .int l4] (by decide) cl_7 (at7 rfl) dX7_press_51 ok_X7_sandOf lk_RX7_102 in_X7_sandOf se_X7_sandOf (by decide) rfl (c_X7_sandOf eq4) rfl (Nat.le_of_ble_eq_true rfl) ?_
      refine ev_iload_n dX7_press_54 2 rfl ?_
      refine ev_imul dX7_press_55 ?_
      refine ev_bipush (v := (100 : Int32)) dX7_press_56 kB_100 ?_
      refine ev_idiv dX7_press_58 (by decide) ?_
      obtain ⟨g5, h⟩ := am_gd h
      obtain ⟨u6, eu6, h⟩ := am_lt h
      refine px_iast (n := 1535) q3.2.toNatClampNeg dX7_press_59 rfl g5 rfl eu6 ?_
      obtain ⟨x7, ex7, h⟩ := am_lt h
      refine ev_iinc (v := x7) (L' := [(4, .int x7), (0, .ref 110), (1, .int l1), (2, .int l2), (3, .int l3)]) dX7_press_60 4 rfl (by rw [kI_1, ex7]) (by decide) rfl ?_
      refine ev_goto 30 dX7_press_63 (by decide) ?_
      refine ev_loc [1, 2, 3, 4, 0] rfl ?_
      exact ih u6 l1 l2 l3 x7 _ h

theorem l_X7_press_0 {X : Nat × (Nat → Int32)}   (u : am_MU) (l1 : Int32) (l2 : Int32) (r : am_MU × Int32) (h : f_X7_press  u l1 l2 = some r) : am_Ev X M_X7_press 0 [(0, .ref 110), (1, .int l1), (2, .int l2)] [] (hp u) (hp r.1, some (.int r.2)) := by
  unfold f_X7_press at h
  refine ev_aload_n dX7_press_0 0 rfl trivial ?_
  refine ev_iload_n dX7_press_1 1 rfl ?_
  obtain ⟨q1, eq1, h⟩ := am_bd h
  refine px_callvi [.int l1] (by decide) cl_7 (at7 rfl) dX7_press_2 ok_X7_isFloor lk_RX7_128 in_X7_isFloor se_X7_isFloor (by decide) rfl (c_X7_isFloor eq1) rfl (Nat.le_of_ble_eq_true rfl) ?_
  refine ev_if_eq 18 dX7_press_5 (by decide) (fun c2 => ?_) (fun c2 => ?_)
  · have h := am_t c2 h
    refine ev_ldc (v := ((-1000000001) : Int32)) dX7_press_18 tw_933 ?_
    obtain rfl := Option.some.inj h
    exact ev_iret dX7_press_20 rfl rfl
  · have h := am_e c2 h
    refine ev_iload_n dX7_press_8 2 rfl ?_
    refine ev_iconst (v := (0 : Int32)) dX7_press_9 kI_0 ?_
    refine ev_bipush (v := (100 : Int32)) dX7_press_10 kB_100 ?_
    obtain ⟨q3, eq3, h⟩ := am_bd h
    refine px_callsi [.int l2, .int (0 : Int32), .int (100 : Int32)] dX7_press_12 ok_X7_in lk_RX7_78 st_X7_in (by decide) rfl (c_X7_in eq3) rfl (Nat.le_of_ble_eq_true rfl) ?_
    refine ev_if_ne 21 dX7_press_15 (by decide) (fun c4 => ?_) (fun c4 => ?_)
    · have h := am_e c4 h
      refine ev_aload_n dX7_press_21 0 rfl trivial ?_
      refine ev_iload_n dX7_press_22 1 rfl ?_
      obtain ⟨q5, eq5, h⟩ := am_bd h
      refine px_callvi [.int l1] (by decide) cl_7 (at7 rfl) dX7_press_23 ok_X7_sumOf lk_RX7_125 in_X7_sumOf se_X7_sumOf (by decide) rfl (c_X7_sumOf eq5) rfl (Nat.le_of_ble_eq_true rfl) ?_
      refine ev_istore_n (L' := [(3, .int q5.2), (0, .ref 110), (1, .int l1), (2, .int l2)]) dX7_press_26 (by decide) rfl ?_
      refine ev_iconst (v := (0 : Int32)) dX7_press_27 kI_0 ?_
      refine ev_istore (L' := [(4, .int (0 : Int32)), (3, .int q5.2), (0, .ref 110), (1, .int l1), (2, .int l2)]) dX7_press_28 (by decide) rfl ?_
      refine ev_loc [2, 3, 4, 1, 0] rfl ?_
      exact l_X7_press_30   1700 q5.1 l1 l2 q5.2 (0 : Int32) _ h
    · have h := am_t c4 h
      refine ev_ldc (v := ((-1000000001) : Int32)) dX7_press_18 tw_933 ?_
      obtain rfl := Option.some.inj h
      exact ev_iret dX7_press_20 rfl rfl

theorem c_X7_press {X : Nat × (Nat → Int32)} {u : am_MU} {l1 : Int32} {l2 : Int32} {r : am_MU × Int32} (h : f_X7_press u l1 l2 = some r) : am_Cn X M_X7_press [.ref 110, .int l1, .int l2] (hp u) (hp r.1, some (.int r.2)) := by
  refine am_Cn.of ok_X7_press (Nat.le_refl _) (Nat.le_refl _) (Nat.le_of_ble_eq_true rfl) ?_
  refine ev_loc [0, 1, 2] rfl ?_
  exact l_X7_press_0 u l1 l2 r h

-- SandRipplesModel.unlikeBy(III)I
def g_X7_unlikeBy_39 (K6 : am_MU → Int32 → Int32 → Int32 → Int32 → Int32 → Option (am_MU × Int32)) (u : am_MU) (l1 : Int32) (l2 : Int32) (l3 : Int32) (l5 : Int32) (s0 : Int32) (s1 : Int32) : Option (am_MU × Int32) :=
am_let (s0 + s1) fun x1 =>
am_let (l5 + (1 : Int32)) fun x2 =>
K6 u l1 l2 l3 x1 x2

def g_X7_unlikeBy_6  : Nat → am_MU → Int32 → Int32 → Int32 → Int32 → Int32 → Option (am_MU × Int32)
  | 0 => fun _ _ _ _ _ _ => none
  | n + 1 => fun u l1 l2 l3 l4 l5 =>
if (24 : Int32) ≤ l5 then (some (u, l4))
else ((f_X7_sandOf u l1 l5).bind fun q2 =>
(f_X7_sandOf q2.1 l2 (l5 + l3)).bind fun q3 =>
if q2.2 = q3.2 then (g_X7_unlikeBy_39 (g_X7_unlikeBy_6 n) q3.1 l1 l2 l3 l5 l4 (0 : Int32))
else (g_X7_unlikeBy_39 (g_X7_unlikeBy_6 n) q3.1 l1 l2 l3 l5 l4 (1 : Int32)))

def f_X7_unlikeBy  (u : am_MU) (l1 : Int32) (l2 : Int32) (l3 : Int32) : Option (am_MU × Int32) :=
g_X7_unlikeBy_6 1700 u l1 l2 l3 (0 : Int32) (0 : Int32)

theorem l_X7_unlikeBy_39 {X : Nat × (Nat → Int32)} (K6 : am_MU → Int32 → Int32 → Int32 → Int32 → Int32 → Option (am_MU × Int32)) (hK6 : ∀ (u : am_MU) (l1 : Int32) (l2 : Int32) (l3 : Int32) (l4 : Int32) (l5 : Int32) (r : am_MU × Int32), K6 u l1 l2 l3 l4 l5 = some r → am_Ev X M_X7_unlikeBy 6 [(0, .ref 110), (1, .int l1), (2, .int l2), (3, .int l3), (4, .int l4), (5, .int l5)] [] (hp u) (hp r.1, some (.int r.2))) (u : am_MU) (l1 : Int32) (l2 : Int32) (l3 : Int32) (l5 : Int32) (s0 : Int32) (s1 : Int32) (r : am_MU × Int32) (h : g_X7_unlikeBy_39 K6 u l1 l2 l3 l5 s0 s1 = some r) : am_Ev X M_X7_unlikeBy 39 [(0, .ref 110), (1, .int l1), (2, .int l2), (3, .int l3), (5, .int l5)] [.int s1, .int s0] (hp u) (hp r.1, some (.int r.2)) := by
  unfold g_X7_unlikeBy_39 at h
  refine ev_iadd dX7_unlikeBy_39 ?_
  obtain ⟨x1, ex1, h⟩ := am_lt h
  refine px_top ex1 ?_
  refine ev_istore (L' := [(4, .int x1), (0, .ref 110), (1, .int l1), (2, .int l2), (3, .int l3), (5, .int l5)]) dX7_unlikeBy_40 (by decide) rfl ?_
  obtain ⟨x2, ex2, h⟩ := am_lt h
  refine ev_iinc (v := x2) (L' := [(5, .int x2), (4, .int x1), (0, .ref 110), (1, .int l1), (2, .int l2), (3, .int l3)]) dX7_unlikeBy_42 5 rfl (by rw [kI_1, ex2]) (by decide) rfl ?_
  refine ev_goto 6 dX7_unlikeBy_45 (by decide) ?_
  refine ev_loc [2, 3, 4, 5, 1, 0] rfl ?_
  exact hK6 u l1 l2 l3 x1 x2 _ h

theorem l_X7_unlikeBy_6 {X : Nat × (Nat → Int32)}   : ∀ (n : Nat) (u : am_MU) (l1 : Int32) (l2 : Int32) (l3 : Int32) (l4 : Int32) (l5 : Int32) (r : am_MU × Int32), g_X7_unlikeBy_6  n u l1 l2 l3 l4 l5 = some r → am_Ev X M_X7_unlikeBy 6 [(0, .ref 110), (1, .int l1), (2, .int l2), (3, .int l3), (4, .int l4), (5, .int l5)] [] (hp u) (hp r.1, some (.int r.2)) := by
  intro n
  induction n with
  | zero => intro u l1 l2 l3 l4 l5 r h; cases h
  | succ n ih =>
    intro u l1 l2 l3 l4 l5 r h
    rw [g_X7_unlikeBy_6] at h
    refine ev_iload dX7_unlikeBy_6 5 rfl ?_
    refine ev_bipush (v := (24 : Int32)) dX7_unlikeBy_8 kB_24 ?_
    refine ev_icmp_ge 48 dX7_unlikeBy_10 (by decide) (fun c1 => ?_) (fun c1 => ?_)
    · have h := am_t c1 h
      refine ev_iload dX7_unlikeBy_48 4 rfl ?_
      obtain rfl := Option.some.inj h
      exact ev_iret dX7_unlikeBy_50 rfl rfl
    · have h := am_e c1 h
      refine ev_iload dX7_unlikeBy_13 4 rfl ?_
      refine ev_aload_n dX7_unlikeBy_15 0 rfl trivial ?_
      refine ev_iload_n dX7_unlikeBy_16 1 rfl ?_
      refine ev_iload dX7_unlikeBy_17 5 rfl ?_
      obtain ⟨q2, eq2, h⟩ := am_bd h
      refine px_callvi [.int l1, .int l5] (by decide) cl_7 (at7 rfl) dX7_unlikeBy_19 ok_X7_sandOf lk_RX7_102 in_X7_sandOf se_X7_sandOf (by decide) rfl (c_X7_sandOf eq2) rfl (Nat.le_of_ble_eq_true rfl) ?_
      refine ev_aload_n dX7_unlikeBy_22 0 rfl trivial ?_
      refine ev_iload_n dX7_unlikeBy_23 2 rfl ?_
      refine ev_iload dX7_unlikeBy_24 5 rfl ?_
      refine ev_iload_n dX7_unlikeBy_26 3 rfl ?_
      refine ev_iadd dX7_unlikeBy_27 ?_
      obtain ⟨q3, eq3, h⟩ := am_bd h
      refine px_callvi [.int l2, .int (l5 + l3)] (by decide) cl_7 (at7 rfl) dX7_unlikeBy_28 ok_X7_sandOf lk_RX7_102 in_X7_sandOf se_X7_sandOf (by decide) rfl (c_X7_sandOf eq3) rfl (Nat.le_of_ble_eq_true rfl) ?_
      refine ev_icmp_ne 38 dX7_unlikeBy_31 (by decide) (fun c4 => ?_) (fun c4 => ?_)
      · have h := am_e c4 h
        refine ev_iconst (v := (1 : Int32)) dX7_unlikeBy_38 kI_1 ?_
        refine ev_loc [0, 1, 2, 3, 5] rfl ?_
        exact l_X7_unlikeBy_39 (g_X7_unlikeBy_6 n) (fun u l1 l2 l3 l4 l5 r h => ih u l1 l2 l3 l4 l5 r h) q3.1 l1 l2 l3 l5 l4 (1 : Int32) _ h
      · have h := am_t c4 h
        refine ev_iconst (v := (0 : Int32)) dX7_unlikeBy_34 kI_0 ?_
        refine ev_goto 39 dX7_unlikeBy_35 (by decide) ?_
        refine ev_loc [0, 1, 2, 3, 5] rfl ?_
        exact l_X7_unlikeBy_39 (g_X7_unlikeBy_6 n) (fun u l1 l2 l3 l4 l5 r h => ih u l1 l2 l3 l4 l5 r h) q3.1 l1 l2 l3 l5 l4 (0 : Int32) _ h

theorem l_X7_unlikeBy_0 {X : Nat × (Nat → Int32)}   (u : am_MU) (l1 : Int32) (l2 : Int32) (l3 : Int32) (r : am_MU × Int32) (h : f_X7_unlikeBy  u l1 l2 l3 = some r) : am_Ev X M_X7_unlikeBy 0 [(0, .ref 110), (1, .int l1), (2, .int l2), (3, .int l3)] [] (hp u) (hp r.1, some (.int r.2)) := by
  unfold f_X7_unlikeBy at h
  refine ev_iconst (v := (0 : Int32)) dX7_unlikeBy_0 kI_0 ?_
  refine ev_istore (L' := [(4, .int (0 : Int32)), (0, .ref 110), (1, .int l1), (2, .int l2), (3, .int l3)]) dX7_unlikeBy_1 (by decide) rfl ?_
  refine ev_iconst (v := (0 : Int32)) dX7_unlikeBy_3 kI_0 ?_
  refine ev_istore (L' := [(5, .int (0 : Int32)), (4, .int (0 : Int32)), (0, .ref 110), (1, .int l1), (2, .int l2), (3, .int l3)]) dX7_unlikeBy_4 (by decide) rfl ?_
  refine ev_loc [2, 3, 4, 5, 1, 0] rfl ?_
  exact l_X7_unlikeBy_6   1700 u l1 l2 l3 (0 : Int32) (0 : Int32) _ h

theorem c_X7_unlikeBy {X : Nat × (Nat → Int32)} {u : am_MU} {l1 : Int32} {l2 : Int32} {l3 : Int32} {r : am_MU × Int32} (h : f_X7_unlikeBy u l1 l2 l3 = some r) : am_Cn X M_X7_unlikeBy [.ref 110, .int l1, .int l2, .int l3] (hp u) (hp r.1, some (.int r.2)) := by
  refine am_Cn.of ok_X7_unlikeBy (Nat.le_refl _) (Nat.le_refl _) (Nat.le_of_ble_eq_true rfl) ?_
  refine ev_loc [0, 1, 2, 3] rfl ?_
  exact l_X7_unlikeBy_0 u l1 l2 l3 r h

-- SandRipplesModel.unlike(II)I
def f_X7_unlike  (u : am_MU) (l1 : Int32) (l2 : Int32) : Option (am_MU × Int32) :=
(f_X7_isFloor u l1).bind fun q1 =>
if q1.2 = 0 then (some (q1.1, ((-1000000001) : Int32)))
else ((f_X7_isFloor q1.1 l2).bind fun q3 =>
if q3.2 = 0 then (some (q3.1, ((-1000000001) : Int32)))
else ((f_X7_unlikeBy q3.1 l1 l2 (0 : Int32)).bind fun q5 =>
some (q5.1, q5.2)))

theorem l_X7_unlike_0 {X : Nat × (Nat → Int32)}   (u : am_MU) (l1 : Int32) (l2 : Int32) (r : am_MU × Int32) (h : f_X7_unlike  u l1 l2 = some r) : am_Ev X M_X7_unlike 0 [(0, .ref 110), (1, .int l1), (2, .int l2)] [] (hp u) (hp r.1, some (.int r.2)) := by
  unfold f_X7_unlike at h
  refine ev_aload_n dX7_unlike_0 0 rfl trivial ?_
  refine ev_iload_n dX7_unlike_1 1 rfl ?_
  obtain ⟨q1, eq1, h⟩ := am_bd h
  refine px_callvi [.int l1] (by decide) cl_7 (at7 rfl) dX7_unlike_2 ok_X7_isFloor lk_RX7_128 in_X7_isFloor se_X7_isFloor (by decide) rfl (c_X7_isFloor eq1) rfl (Nat.le_of_ble_eq_true rfl) ?_
  refine ev_if_eq 26 dX7_unlike_5 (by decide) (fun c2 => ?_) (fun c2 => ?_)
  · have h := am_t c2 h
    refine ev_ldc (v := ((-1000000001) : Int32)) dX7_unlike_26 tw_933 ?_
    obtain rfl := Option.some.inj h
    exact ev_iret dX7_unlike_28 rfl rfl
  · have h := am_e c2 h
    refine ev_aload_n dX7_unlike_8 0 rfl trivial ?_
    refine ev_iload_n dX7_unlike_9 2 rfl ?_
    obtain ⟨q3, eq3, h⟩ := am_bd h
    refine px_callvi [.int l2] (by decide) cl_7 (at7 rfl) dX7_unlike_10 ok_X7_isFloor lk_RX7_128 in_X7_isFloor se_X7_isFloor (by decide) rfl (c_X7_isFloor eq3) rfl (Nat.le_of_ble_eq_true rfl) ?_
    refine ev_if_eq 26 dX7_unlike_13 (by decide) (fun c4 => ?_) (fun c4 => ?_)
    · have h := am_t c4 h
      refine ev_ldc (v := ((-1000000001) : Int32)) dX7_unlike_26 tw_933 ?_
      obtain rfl := Option.some.inj h
      exact ev_iret dX7_unlike_28 rfl rfl
    · have h := am_e c4 h
      refine ev_aload_n dX7_unlike_16 0 rfl trivial ?_
      refine ev_iload_n dX7_unlike_17 1 rfl ?_
      refine ev_iload_n dX7_unlike_18 2 rfl ?_
      refine ev_iconst (v := (0 : Int32)) dX7_unlike_19 kI_0 ?_
      obtain ⟨q5, eq5, h⟩ := am_bd h
      refine px_callvi [.int l1, .int l2, .int (0 : Int32)] (by decide) cl_7 (at7 rfl) dX7_unlike_20 ok_X7_unlikeBy lk_RX7_182 in_X7_unlikeBy se_X7_unlikeBy (by decide) rfl (c_X7_unlikeBy eq5) rfl (Nat.le_of_ble_eq_true rfl) ?_
      refine ev_goto 28 dX7_unlike_23 (by decide) ?_
      obtain rfl := Option.some.inj h
      exact ev_iret dX7_unlike_28 rfl rfl

theorem c_X7_unlike {X : Nat × (Nat → Int32)} {u : am_MU} {l1 : Int32} {l2 : Int32} {r : am_MU × Int32} (h : f_X7_unlike u l1 l2 = some r) : am_Cn X M_X7_unlike [.ref 110, .int l1, .int l2] (hp u) (hp r.1, some (.int r.2)) := by
  refine am_Cn.of ok_X7_unlike (Nat.le_refl _) (Nat.le_refl _) (Nat.le_of_ble_eq_true rfl) ?_
  refine ev_loc [0, 1, 2] rfl ?_
  exact l_X7_unlike_0 u l1 l2 r h

-- SandRipplesModel.turned(III)I
def g_X7_turned_67 (K34 : am_MU → Int32 → Int32 → Int32 → Int32 → Int32 → Option (am_MU × Int32)) (u : am_MU) (l1 : Int32) (l2 : Int32) (l3 : Int32) (l5 : Int32) (s0 : Int32) : Option (am_MU × Int32) :=
am_let (l5 + (1 : Int32)) fun x1 =>
K34 u l1 l2 l3 s0 x1

def g_X7_turned_34  : Nat → am_MU → Int32 → Int32 → Int32 → Int32 → Int32 → Option (am_MU × Int32)
  | 0 => fun _ _ _ _ _ _ => none
  | n + 1 => fun u l1 l2 l3 l4 l5 =>
if (24 : Int32) ≤ l5 then (if l3 = 0 then (some (u, l4))
else ((f_X7_unlikeBy u l1 l2 l4).bind fun q3 =>
some (q3.1, q3.2)))
else ((f_X7_unlikeBy u l1 l2 l5).bind fun q4 =>
(f_X7_unlikeBy q4.1 l1 l2 l4).bind fun q5 =>
if q5.2 ≤ q4.2 then (g_X7_turned_67 (g_X7_turned_34 n) q5.1 l1 l2 l3 l5 l4)
else (g_X7_turned_67 (g_X7_turned_34 n) q5.1 l1 l2 l3 l5 l5))

def f_X7_turned  (u : am_MU) (l1 : Int32) (l2 : Int32) (l3 : Int32) : Option (am_MU × Int32) :=
(f_X7_isFloor u l1).bind fun q1 =>
if q1.2 = 0 then (some (q1.1, ((-1000000001) : Int32)))
else ((f_X7_isFloor q1.1 l2).bind fun q3 =>
if q3.2 = 0 then (some (q3.1, ((-1000000001) : Int32)))
else ((f_X7_in q3.1 l3 (0 : Int32) (1 : Int32)).bind fun q5 =>
if q5.2 = 0 then (some (q5.1, ((-1000000001) : Int32)))
else (g_X7_turned_34 1700 q5.1 l1 l2 l3 (0 : Int32) (1 : Int32))))

theorem l_X7_turned_67 {X : Nat × (Nat → Int32)} (K34 : am_MU → Int32 → Int32 → Int32 → Int32 → Int32 → Option (am_MU × Int32)) (hK34 : ∀ (u : am_MU) (l1 : Int32) (l2 : Int32) (l3 : Int32) (l4 : Int32) (l5 : Int32) (r : am_MU × Int32), K34 u l1 l2 l3 l4 l5 = some r → am_Ev X M_X7_turned 34 [(0, .ref 110), (1, .int l1), (2, .int l2), (3, .int l3), (4, .int l4), (5, .int l5)] [] (hp u) (hp r.1, some (.int r.2))) (u : am_MU) (l1 : Int32) (l2 : Int32) (l3 : Int32) (l5 : Int32) (s0 : Int32) (r : am_MU × Int32) (h : g_X7_turned_67 K34 u l1 l2 l3 l5 s0 = some r) : am_Ev X M_X7_turned 67 [(0, .ref 110), (1, .int l1), (2, .int l2), (3, .int l3), (5, .int l5)] [.int s0] (hp u) (hp r.1, some (.int r.2)) := by
  unfold g_X7_turned_67 at h
  refine ev_istore (L' := [(4, .int s0), (0, .ref 110), (1, .int l1), (2, .int l2), (3, .int l3), (5, .int l5)]) dX7_turned_67 (by decide) rfl ?_
  obtain ⟨x1, ex1, h⟩ := am_lt h
  refine ev_iinc (v := x1) (L' := [(5, .int x1), (4, .int s0), (0, .ref 110), (1, .int l1), (2, .int l2), (3, .int l3)]) dX7_turned_69 5 rfl (by rw [kI_1, ex1]) (by decide) rfl ?_
  refine ev_goto 34 dX7_turned_72 (by decide) ?_
  refine ev_loc [2, 3, 4, 5, 1, 0] rfl ?_
  exact hK34 u l1 l2 l3 s0 x1 _ h

theorem l_X7_turned_34 {X : Nat × (Nat → Int32)}   : ∀ (n : Nat) (u : am_MU) (l1 : Int32) (l2 : Int32) (l3 : Int32) (l4 : Int32) (l5 : Int32) (r : am_MU × Int32), g_X7_turned_34  n u l1 l2 l3 l4 l5 = some r → am_Ev X M_X7_turned 34 [(0, .ref 110), (1, .int l1), (2, .int l2), (3, .int l3), (4, .int l4), (5, .int l5)] [] (hp u) (hp r.1, some (.int r.2)) := by
  intro n
  induction n with
  | zero => intro u l1 l2 l3 l4 l5 r h; cases h
  | succ n ih =>
    intro u l1 l2 l3 l4 l5 r h
    rw [g_X7_turned_34] at h
    refine ev_iload dX7_turned_34 5 rfl ?_
    refine ev_bipush (v := (24 : Int32)) dX7_turned_36 kB_24 ?_
    refine ev_icmp_ge 75 dX7_turned_38 (by decide) (fun c1 => ?_) (fun c1 => ?_)
    · have h := am_t c1 h
      refine ev_iload_n dX7_turned_75 3 rfl ?_
      refine ev_if_ne 84 dX7_turned_76 (by decide) (fun c2 => ?_) (fun c2 => ?_)
      · have h := am_e c2 h
        refine ev_aload_n dX7_turned_84 0 rfl trivial ?_
        refine ev_iload_n dX7_turned_85 1 rfl ?_
        refine ev_iload_n dX7_turned_86 2 rfl ?_
        refine ev_iload dX7_turned_87 4 rfl ?_
        obtain ⟨q3, eq3, h⟩ := am_bd h
        refine px_callvi [.int l1, .int l2, .int l4] (by decide) cl_7 (at7 rfl) dX7_turned_89 ok_X7_unlikeBy lk_RX7_182 in_X7_unlikeBy se_X7_unlikeBy (by decide) rfl (c_X7_unlikeBy eq3) rfl (Nat.le_of_ble_eq_true rfl) ?_
        obtain rfl := Option.some.inj h
        exact ev_iret dX7_turned_92 rfl rfl
      · have h := am_t c2 h
        refine ev_iload dX7_turned_79 4 rfl ?_
        refine ev_goto 92 dX7_turned_81 (by decide) ?_
        obtain rfl := Option.some.inj h
        exact ev_iret dX7_turned_92 rfl rfl
    · have h := am_e c1 h
      refine ev_aload_n dX7_turned_41 0 rfl trivial ?_
      refine ev_iload_n dX7_turned_42 1 rfl ?_
      refine ev_iload_n dX7_turned_43 2 rfl ?_
      refine ev_iload dX7_turned_44 5 rfl ?_
      obtain ⟨q4, eq4, h⟩ := am_bd h
      refine px_callvi [.int l1, .int l2, .int l5] (by decide) cl_7 (at7 rfl) dX7_turned_46 ok_X7_unlikeBy lk_RX7_182 in_X7_unlikeBy se_X7_unlikeBy (by decide) rfl (c_X7_unlikeBy eq4) rfl (Nat.le_of_ble_eq_true rfl) ?_
      refine ev_aload_n dX7_turned_49 0 rfl trivial ?_
      refine ev_iload_n dX7_turned_50 1 rfl ?_
      refine ev_iload_n dX7_turned_51 2 rfl ?_
      refine ev_iload dX7_turned_52 4 rfl ?_
      obtain ⟨q5, eq5, h⟩ := am_bd h
      refine px_callvi [.int l1, .int l2, .int l4] (by decide) cl_7 (at7 rfl) dX7_turned_54 ok_X7_unlikeBy lk_RX7_182 in_X7_unlikeBy se_X7_unlikeBy (by decide) rfl (c_X7_unlikeBy eq5) rfl (Nat.le_of_ble_eq_true rfl) ?_
      refine ev_icmp_ge 65 dX7_turned_57 (by decide) (fun c6 => ?_) (fun c6 => ?_)
      · have h := am_t c6 h
        refine ev_iload dX7_turned_65 4 rfl ?_
        refine ev_loc [0, 1, 2, 3, 5] rfl ?_
        exact l_X7_turned_67 (g_X7_turned_34 n) (fun u l1 l2 l3 l4 l5 r h => ih u l1 l2 l3 l4 l5 r h) q5.1 l1 l2 l3 l5 l4 _ h
      · have h := am_e c6 h
        refine ev_iload dX7_turned_60 5 rfl ?_
        refine ev_goto 67 dX7_turned_62 (by decide) ?_
        refine ev_loc [0, 1, 2, 3, 5] rfl ?_
        exact l_X7_turned_67 (g_X7_turned_34 n) (fun u l1 l2 l3 l4 l5 r h => ih u l1 l2 l3 l4 l5 r h) q5.1 l1 l2 l3 l5 l5 _ h

theorem l_X7_turned_0 {X : Nat × (Nat → Int32)}   (u : am_MU) (l1 : Int32) (l2 : Int32) (l3 : Int32) (r : am_MU × Int32) (h : f_X7_turned  u l1 l2 l3 = some r) : am_Ev X M_X7_turned 0 [(0, .ref 110), (1, .int l1), (2, .int l2), (3, .int l3)] [] (hp u) (hp r.1, some (.int r.2)) := by
  unfold f_X7_turned at h
  refine ev_aload_n dX7_turned_0 0 rfl trivial ?_
  refine ev_iload_n dX7_turned_1 1 rfl ?_
  obtain ⟨q1, eq1, h⟩ := am_bd h
  refine px_callvi [.int l1] (by decide) cl_7 (at7 rfl) dX7_turned_2 ok_X7_isFloor lk_RX7_128 in_X7_isFloor se_X7_isFloor (by decide) rfl (c_X7_isFloor eq1) rfl (Nat.le_of_ble_eq_true rfl) ?_
  refine ev_if_eq 25 dX7_turned_5 (by decide) (fun c2 => ?_) (fun c2 => ?_)
  · have h := am_t c2 h
    refine ev_ldc (v := ((-1000000001) : Int32)) dX7_turned_25 tw_933 ?_
    obtain rfl := Option.some.inj h
    exact ev_iret dX7_turned_27 rfl rfl
  · have h := am_e c2 h
    refine ev_aload_n dX7_turned_8 0 rfl trivial ?_
    refine ev_iload_n dX7_turned_9 2 rfl ?_
    obtain ⟨q3, eq3, h⟩ := am_bd h
    refine px_callvi [.int l2] (by decide) cl_7 (at7 rfl) dX7_turned_10 ok_X7_isFloor lk_RX7_128 in_X7_isFloor se_X7_isFloor (by decide) rfl (c_X7_isFloor eq3) rfl (Nat.le_of_ble_eq_true rfl) ?_
    refine ev_if_eq 25 dX7_turned_13 (by decide) (fun c4 => ?_) (fun c4 => ?_)
    · have h := am_t c4 h
      refine ev_ldc (v := ((-1000000001) : Int32)) dX7_turned_25 tw_933 ?_
      obtain rfl := Option.some.inj h
      exact ev_iret dX7_turned_27 rfl rfl
    · have h := am_e c4 h
      refine ev_iload_n dX7_turned_16 3 rfl ?_
      refine ev_iconst (v := (0 : Int32)) dX7_turned_17 kI_0 ?_
      refine ev_iconst (v := (1 : Int32)) dX7_turned_18 kI_1 ?_
      obtain ⟨q5, eq5, h⟩ := am_bd h
      refine px_callsi [.int l3, .int (0 : Int32), .int (1 : Int32)] dX7_turned_19 ok_X7_in lk_RX7_78 st_X7_in (by decide) rfl (c_X7_in eq5) rfl (Nat.le_of_ble_eq_true rfl) ?_
      refine ev_if_ne 28 dX7_turned_22 (by decide) (fun c6 => ?_) (fun c6 => ?_)
      · have h := am_e c6 h
        refine ev_iconst (v := (0 : Int32)) dX7_turned_28 kI_0 ?_
        refine ev_istore (L' := [(4, .int (0 : Int32)), (0, .ref 110), (1, .int l1), (2, .int l2), (3, .int l3)]) dX7_turned_29 (by decide) rfl ?_
        refine ev_iconst (v := (1 : Int32)) dX7_turned_31 kI_1 ?_
        refine ev_istore (L' := [(5, .int (1 : Int32)), (4, .int (0 : Int32)), (0, .ref 110), (1, .int l1), (2, .int l2), (3, .int l3)]) dX7_turned_32 (by decide) rfl ?_
        refine ev_loc [2, 3, 4, 5, 1, 0] rfl ?_
        exact l_X7_turned_34   1700 q5.1 l1 l2 l3 (0 : Int32) (1 : Int32) _ h
      · have h := am_t c6 h
        refine ev_ldc (v := ((-1000000001) : Int32)) dX7_turned_25 tw_933 ?_
        obtain rfl := Option.some.inj h
        exact ev_iret dX7_turned_27 rfl rfl

theorem c_X7_turned {X : Nat × (Nat → Int32)} {u : am_MU} {l1 : Int32} {l2 : Int32} {l3 : Int32} {r : am_MU × Int32} (h : f_X7_turned u l1 l2 l3 = some r) : am_Cn X M_X7_turned [.ref 110, .int l1, .int l2, .int l3] (hp u) (hp r.1, some (.int r.2)) := by
  refine am_Cn.of ok_X7_turned (Nat.le_refl _) (Nat.le_refl _) (Nat.le_of_ble_eq_true rfl) ?_
  refine ev_loc [0, 1, 2, 3] rfl ?_
  exact l_X7_turned_0 u l1 l2 l3 r h

-- SandRipplesModel.isSheet(I)Z
def f_X7_isSheet  (u : am_MU) (l0 : Int32) : Option (am_MU × Int32) :=
(f_X7_in u l0 (0 : Int32) (3 : Int32)).bind fun q1 =>
if q1.2 = 0 ∨ q1.2 = 1 then (
some (q1.1, q1.2)) else none

theorem l_X7_isSheet_0 {X : Nat × (Nat → Int32)}   (u : am_MU) (l0 : Int32) (r : am_MU × Int32) (h : f_X7_isSheet  u l0 = some r) : am_Ev X M_X7_isSheet 0 [(0, .int l0)] [] (hp u) (hp r.1, some (.int r.2)) := by
  unfold f_X7_isSheet at h
  refine ev_iload_n dX7_isSheet_0 0 rfl ?_
  refine ev_iconst (v := (0 : Int32)) dX7_isSheet_1 kI_0 ?_
  refine ev_iconst (v := (3 : Int32)) dX7_isSheet_2 kI_3 ?_
  obtain ⟨q1, eq1, h⟩ := am_bd h
  refine px_callsi [.int l0, .int (0 : Int32), .int (3 : Int32)] dX7_isSheet_3 ok_X7_in lk_RX7_78 st_X7_in (by decide) rfl (c_X7_in eq1) rfl (Nat.le_of_ble_eq_true rfl) ?_
  obtain ⟨g2, h⟩ := am_gd h
  obtain rfl := Option.some.inj h
  exact ev_iret dX7_isSheet_6 rfl (am_zn g2)

theorem c_X7_isSheet {X : Nat × (Nat → Int32)} {u : am_MU} {l0 : Int32} {r : am_MU × Int32} (h : f_X7_isSheet u l0 = some r) : am_Cn X M_X7_isSheet [.int l0] (hp u) (hp r.1, some (.int r.2)) := by
  refine am_Cn.of ok_X7_isSheet (Nat.le_refl _) (Nat.le_refl _) (Nat.le_of_ble_eq_true rfl) ?_
  refine ev_loc [0] rfl ?_
  exact l_X7_isSheet_0 u l0 r h

-- SandRipplesModel.offBy(II)J
def g_X7_offBy_77 (K5 : am_MU → Int32 → Int32 → Int64 → Int32 → Option (am_MU × Int64)) (u : am_MU) (l1 : Int32) (l2 : Int32) (l5 : Int32) (s0 : Int64) (s1 : Int64) : Option (am_MU × Int64) :=
am_let (s0 + s1) fun x1 =>
am_let (l5 + (1 : Int32)) fun x2 =>
K5 u l1 l2 x1 x2

def g_X7_offBy_5  : Nat → am_MU → Int32 → Int32 → Int64 → Int32 → Option (am_MU × Int64)
  | 0 => fun _ _ _ _ _ => none
  | n + 1 => fun u l1 l2 l3 l5 =>
if am_in l1 4 then (
if (u 125 l1.toNatClampNeg) ≤ l5 then (some (u, l3))
else (if am_in (((24 : Int32) * l1) + l5) 96 then (
(f_X7_sandOf u l2 l5).bind fun q4 =>
am_let (((u 126 ((((24 : Int32) * l1) + l5).toNatClampNeg)).toInt64) - q4.2.toInt64) fun x5 =>
if (q4.1 126 ((((24 : Int32) * l1) + l5).toNatClampNeg)) = ((-1000000005) : Int32) then (g_X7_offBy_77 (g_X7_offBy_5 n) q4.1 l1 l2 l5 l3 (0 : Int64))
else (if 0 ≤ (lg_cmp x5 (0 : Int64)) then (g_X7_offBy_77 (g_X7_offBy_5 n) q4.1 l1 l2 l5 l3 x5)
else (g_X7_offBy_77 (g_X7_offBy_5 n) q4.1 l1 l2 l5 l3 (-x5)))) else none)) else none

def f_X7_offBy  (u : am_MU) (l1 : Int32) (l2 : Int32) : Option (am_MU × Int64) :=
am_let ((0 : Int64)) fun x1 =>
g_X7_offBy_5 1700 u l1 l2 x1 (0 : Int32)

theorem l_X7_offBy_77 {X : Nat × (Nat → Int32)} (K5 : am_MU → Int32 → Int32 → Int64 → Int32 → Option (am_MU × Int64)) (hK5 : ∀ (u : am_MU) (l1 : Int32) (l2 : Int32) (l3 : Int64) (l5 : Int32) (r : am_MU × Int64), K5 u l1 l2 l3 l5 = some r → am_Ev X M_X7_offBy 5 [(0, .ref 110), (1, .int l1), (2, .int l2), (3, .long l3), (5, .int l5)] [] (hp u) (hp r.1, some (.long r.2))) (u : am_MU) (l1 : Int32) (l2 : Int32) (l5 : Int32) (s0 : Int64) (s1 : Int64) (r : am_MU × Int64) (h : g_X7_offBy_77 K5 u l1 l2 l5 s0 s1 = some r) : am_Ev X M_X7_offBy 77 [(0, .ref 110), (1, .int l1), (2, .int l2), (5, .int l5)] [.long s1, .long s0] (hp u) (hp r.1, some (.long r.2)) := by
  unfold g_X7_offBy_77 at h
  refine ev_ladd dX7_offBy_77 ?_
  obtain ⟨x1, ex1, h⟩ := am_lt h
  refine px_topl ex1 ?_
  refine ev_lstore_n (L' := [(3, .long x1), (0, .ref 110), (1, .int l1), (2, .int l2), (5, .int l5)]) dX7_offBy_78 (by decide) rfl ?_
  obtain ⟨x2, ex2, h⟩ := am_lt h
  refine ev_iinc (v := x2) (L' := [(5, .int x2), (3, .long x1), (0, .ref 110), (1, .int l1), (2, .int l2)]) dX7_offBy_79 4 rfl (by rw [kI_1, ex2]) (by decide) rfl ?_
  refine ev_goto 5 dX7_offBy_82 (by decide) ?_
  refine ev_loc [2, 3, 4, 1, 0] rfl ?_
  exact hK5 u l1 l2 x1 x2 _ h

theorem l_X7_offBy_5 {X : Nat × (Nat → Int32)}   : ∀ (n : Nat) (u : am_MU) (l1 : Int32) (l2 : Int32) (l3 : Int64) (l5 : Int32) (r : am_MU × Int64), g_X7_offBy_5  n u l1 l2 l3 l5 = some r → am_Ev X M_X7_offBy 5 [(0, .ref 110), (1, .int l1), (2, .int l2), (3, .long l3), (5, .int l5)] [] (hp u) (hp r.1, some (.long r.2)) := by
  intro n
  induction n with
  | zero => intro u l1 l2 l3 l5 r h; cases h
  | succ n ih =>
    intro u l1 l2 l3 l5 r h
    rw [g_X7_offBy_5] at h
    refine ev_iload dX7_offBy_5 4 rfl ?_
    refine ev_aload_n dX7_offBy_7 0 rfl trivial ?_
    refine px_getR dX7_offBy_8 gf_RX7_54 (at7 rfl) (by decide) rfl ?_
    refine ev_iload_n dX7_offBy_11 1 rfl ?_
    obtain ⟨g1, h⟩ := am_gd h
    refine px_iald (n := 4) l1.toNatClampNeg dX7_offBy_12 rfl g1 rfl ?_
    refine ev_icmp_ge 85 dX7_offBy_13 (by decide) (fun c2 => ?_) (fun c2 => ?_)
    · have h := am_t c2 h
      refine ev_lload_n dX7_offBy_85 3 rfl ?_
      obtain rfl := Option.some.inj h
      exact ev_lret dX7_offBy_86 rfl
    · have h := am_e c2 h
      refine ev_aload_n dX7_offBy_16 0 rfl trivial ?_
      refine px_getR dX7_offBy_17 gf_RX7_57 (at7 rfl) (by decide) rfl ?_
      refine ev_bipush (v := (24 : Int32)) dX7_offBy_20 kB_24 ?_
      refine ev_iload_n dX7_offBy_22 1 rfl ?_
      refine ev_imul dX7_offBy_23 ?_
      refine ev_iload dX7_offBy_24 4 rfl ?_
      refine ev_iadd dX7_offBy_26 ?_
      obtain ⟨g3, h⟩ := am_gd h
      refine px_iald (n := 96) ((((24 : Int32) * l1) + l5).toNatClampNeg) dX7_offBy_27 rfl g3 rfl ?_
      refine ev_i2l dX7_offBy_28 ?_
      refine ev_aload_n dX7_offBy_29 0 rfl trivial ?_
      refine ev_iload_n dX7_offBy_30 2 rfl ?_
      refine ev_iload dX7_offBy_31 4 rfl ?_
      obtain ⟨q4, eq4, h⟩ := am_bd h
      refine px_callvi [.int l2, .int l5] (by decide) cl_7 (at7 rfl) dX7_offBy_33 ok_X7_sandOf lk_RX7_102 in_X7_sandOf se_X7_sandOf (by decide) rfl (c_X7_sandOf eq4) rfl (Nat.le_of_ble_eq_true rfl) ?_
      refine ev_i2l dX7_offBy_36 ?_
      refine ev_lsub dX7_offBy_37 ?_
      obtain ⟨x5, ex5, h⟩ := am_lt h
      refine px_topl ex5 ?_
      refine ev_lstore (L' := [(6, .long x5), (0, .ref 110), (1, .int l1), (2, .int l2), (3, .long l3), (5, .int l5)]) dX7_offBy_38 (by decide) rfl ?_
      refine ev_lload_n dX7_offBy_40 4 rfl ?_
      refine ev_aload_n dX7_offBy_41 1 rfl trivial ?_
      refine px_getR dX7_offBy_42 gf_RX7_57 (at7 rfl) (by decide) rfl ?_
      refine ev_bipush (v := (24 : Int32)) dX7_offBy_45 kB_24 ?_
      refine ev_iload_n dX7_offBy_47 2 rfl ?_
      refine ev_imul dX7_offBy_48 ?_
      refine ev_iload dX7_offBy_49 5 rfl ?_
      refine ev_iadd dX7_offBy_51 ?_
      refine px_iald (n := 96) ((((24 : Int32) * l1) + l5).toNatClampNeg) dX7_offBy_52 rfl g3 rfl ?_
      refine ev_ldc (v := ((-1000000005) : Int32)) dX7_offBy_53 tw_1083 ?_
      refine ev_icmp_ne 62 dX7_offBy_55 (by decide) (fun c6 => ?_) (fun c6 => ?_)
      · have h := am_e c6 h
        refine ev_lload dX7_offBy_62 0 rfl ?_
        refine ev_lconst (v := (0 : Int64)) dX7_offBy_64 (by decide) ?_
        refine ev_lcmp dX7_offBy_65 ?_
        refine ev_if_ge 75 dX7_offBy_66 (by decide) (fun c7 => ?_) (fun c7 => ?_)
        · have h := am_t c7 h
          refine ev_lload dX7_offBy_75 0 rfl ?_
          refine ev_loc [1, 2, 3, 5] rfl ?_
          exact l_X7_offBy_77 (g_X7_offBy_5 n) (fun u l1 l2 l3 l5 r h => ih u l1 l2 l3 l5 r h) q4.1 l1 l2 l5 l3 x5 _ h
        · have h := am_e c7 h
          refine ev_lload dX7_offBy_69 0 rfl ?_
          refine ev_lneg dX7_offBy_71 ?_
          refine ev_goto 77 dX7_offBy_72 (by decide) ?_
          refine ev_loc [1, 2, 3, 5] rfl ?_
          exact l_X7_offBy_77 (g_X7_offBy_5 n) (fun u l1 l2 l3 l5 r h => ih u l1 l2 l3 l5 r h) q4.1 l1 l2 l5 l3 (-x5) _ h
      · have h := am_t c6 h
        refine ev_lconst (v := (0 : Int64)) dX7_offBy_58 (by decide) ?_
        refine ev_goto 77 dX7_offBy_59 (by decide) ?_
        refine ev_loc [1, 2, 3, 5] rfl ?_
        exact l_X7_offBy_77 (g_X7_offBy_5 n) (fun u l1 l2 l3 l5 r h => ih u l1 l2 l3 l5 r h) q4.1 l1 l2 l5 l3 (0 : Int64) _ h

theorem l_X7_offBy_0 {X : Nat × (Nat → Int32)}   (u : am_MU) (l1 : Int32) (l2 : Int32) (r : am_MU × Int64) (h : f_X7_offBy  u l1 l2 = some r) : am_Ev X M_X7_offBy 0 [(0, .ref 110), (1, .int l1), (2, .int l2)] [] (hp u) (hp r.1, some (.long r.2)) := by
  unfold f_X7_offBy at h
  refine ev_lconst (v := (0 : Int64)) dX7_offBy_0 (by decide) ?_
  obtain ⟨x1, ex1, h⟩ := am_lt h
  refine px_topl ex1 ?_
  refine ev_lstore_n (L' := [(3, .long x1), (0, .ref 110), (1, .int l1), (2, .int l2)]) dX7_offBy_1 (by decide) rfl ?_
  refine ev_iconst (v := (0 : Int32)) dX7_offBy_2 kI_0 ?_
  refine ev_istore (L' := [(5, .int (0 : Int32)), (3, .long x1), (0, .ref 110), (1, .int l1), (2, .int l2)]) dX7_offBy_3 (by decide) rfl ?_
  refine ev_loc [2, 3, 4, 1, 0] rfl ?_
  exact l_X7_offBy_5   1700 u l1 l2 x1 (0 : Int32) _ h

theorem c_X7_offBy {X : Nat × (Nat → Int32)} {u : am_MU} {l1 : Int32} {l2 : Int32} {r : am_MU × Int64} (h : f_X7_offBy u l1 l2 = some r) : am_Cn X M_X7_offBy [.ref 110, .int l1, .int l2] (hp u) (hp r.1, some (.long r.2)) := by
  refine am_Cn.of ok_X7_offBy (Nat.le_refl _) (Nat.le_refl _) (Nat.le_of_ble_eq_true rfl) ?_
  refine ev_loc [0, 1, 2] rfl ?_
  exact l_X7_offBy_0 u l1 l2 r h

-- SandRipplesModel.seen(III)I
def g_X7_seen_134 (K62 : am_MU → Int32 → Int32 → Int32 → Int32 → Int32 → Int64 → Int32 → Option (am_MU × Int32)) (u : am_MU) (l1 : Int32) (l2 : Int32) (l3 : Int32) (l4 : Int32) (l5 : Int32) (l8 : Int32) (s0 : Int64) : Option (am_MU × Int32) :=
am_let (l8 + (1 : Int32)) fun x1 =>
K62 u l1 l2 l3 l4 l5 s0 x1

def g_X7_seen_118 (K62 : am_MU → Int32 → Int32 → Int32 → Int32 → Int32 → Int64 → Int32 → Option (am_MU × Int32)) (u : am_MU) (l1 : Int32) (l2 : Int32) (l3 : Int32) (l4 : Int32) (l6 : Int64) (l8 : Int32) (l10 : Int64) (s0 : Int32) : Option (am_MU × Int32) :=
if s0 = l8 then (g_X7_seen_134 K62 u l1 l2 l3 l4 s0 l8 l10)
else (g_X7_seen_134 K62 u l1 l2 l3 l4 s0 l8 l6)

def g_X7_seen_111 (K62 : am_MU → Int32 → Int32 → Int32 → Int32 → Int32 → Int64 → Int32 → Option (am_MU × Int32)) (u : am_MU) (l1 : Int32) (l2 : Int32) (l3 : Int32) (l4 : Int32) (l6 : Int64) (l8 : Int32) (l10 : Int64) : Option (am_MU × Int32) :=
g_X7_seen_118 K62 u l1 l2 l3 l4 l6 l8 l10 l8

def g_X7_seen_62  : Nat → am_MU → Int32 → Int32 → Int32 → Int32 → Int32 → Int64 → Int32 → Option (am_MU × Int32)
  | 0 => fun _ _ _ _ _ _ _ _ => none
  | n + 1 => fun u l1 l2 l3 l4 l5 l6 l8 =>
if (12 : Int32) ≤ l8 then (am_let (am_u2 u 111 2 l4) fun u2 =>
some (u2, l5))
else (am_let (am_u2 u 111 2 l8) fun u3 =>
(f_X7_ticks u3 l2 l3).bind fun q4 =>
(f_X7_offBy q4.1 l1 l2).bind fun q5 =>
(f_X7_putsBack q5.1 l2).bind fun q6 =>
if l5 < 0 then (g_X7_seen_111 (g_X7_seen_62 n) q6 l1 l2 l3 l4 l6 l8 q5.2)
else (if 0 ≤ (lg_cmp q5.2 l6) then (g_X7_seen_118 (g_X7_seen_62 n) q6 l1 l2 l3 l4 l6 l8 q5.2 l5)
else (g_X7_seen_111 (g_X7_seen_62 n) q6 l1 l2 l3 l4 l6 l8 q5.2)))

def f_X7_seen  (u : am_MU) (l1 : Int32) (l2 : Int32) (l3 : Int32) : Option (am_MU × Int32) :=
(f_X7_isSheet u l1).bind fun q1 =>
if q1.2 = 0 then (some (q1.1, ((-1000000001) : Int32)))
else ((f_X7_isFloor q1.1 l2).bind fun q3 =>
if q3.2 = 0 then (some (q3.1, ((-1000000001) : Int32)))
else ((f_X7_in q3.1 l3 (0 : Int32) (30 : Int32)).bind fun q5 =>
if q5.2 = 0 then (some (q5.1, ((-1000000001) : Int32)))
else (if am_in l1 4 then (
if 0 ≤ (q5.1 124 l1.toNatClampNeg) then (am_let (q5.1 111 2) fun x9 =>
am_let ((0 : Int64)) fun x10 =>
(f_X7_thinks q5.1 l2).bind fun q11 =>
g_X7_seen_62 1700 q11 l1 l2 l3 x9 ((-1) : Int32) x10 (0 : Int32))
else (some (q5.1, ((-1000000011) : Int32)))) else none)))

theorem l_X7_seen_134 {X : Nat × (Nat → Int32)} (K62 : am_MU → Int32 → Int32 → Int32 → Int32 → Int32 → Int64 → Int32 → Option (am_MU × Int32)) (hK62 : ∀ (u : am_MU) (l1 : Int32) (l2 : Int32) (l3 : Int32) (l4 : Int32) (l5 : Int32) (l6 : Int64) (l8 : Int32) (r : am_MU × Int32), K62 u l1 l2 l3 l4 l5 l6 l8 = some r → am_Ev X M_X7_seen 62 [(0, .ref 110), (1, .int l1), (2, .int l2), (3, .int l3), (4, .int l4), (5, .int l5), (6, .long l6), (8, .int l8)] [] (hp u) (hp r.1, some (.int r.2))) (u : am_MU) (l1 : Int32) (l2 : Int32) (l3 : Int32) (l4 : Int32) (l5 : Int32) (l8 : Int32) (s0 : Int64) (r : am_MU × Int32) (h : g_X7_seen_134 K62 u l1 l2 l3 l4 l5 l8 s0 = some r) : am_Ev X M_X7_seen 134 [(0, .ref 110), (1, .int l1), (2, .int l2), (3, .int l3), (4, .int l4), (5, .int l5), (8, .int l8)] [.long s0] (hp u) (hp r.1, some (.int r.2)) := by
  unfold g_X7_seen_134 at h
  refine ev_lstore (L' := [(6, .long s0), (0, .ref 110), (1, .int l1), (2, .int l2), (3, .int l3), (4, .int l4), (5, .int l5), (8, .int l8)]) dX7_seen_134 (by decide) rfl ?_
  obtain ⟨x1, ex1, h⟩ := am_lt h
  refine ev_iinc (v := x1) (L' := [(8, .int x1), (6, .long s0), (0, .ref 110), (1, .int l1), (2, .int l2), (3, .int l3), (4, .int l4), (5, .int l5)]) dX7_seen_136 7 rfl (by rw [kI_1, ex1]) (by decide) rfl ?_
  refine ev_goto 62 dX7_seen_139 (by decide) ?_
  refine ev_loc [2, 3, 4, 5, 6, 7, 1, 0] rfl ?_
  exact hK62 u l1 l2 l3 l4 l5 s0 x1 _ h

theorem l_X7_seen_118 {X : Nat × (Nat → Int32)} (K62 : am_MU → Int32 → Int32 → Int32 → Int32 → Int32 → Int64 → Int32 → Option (am_MU × Int32)) (hK62 : ∀ (u : am_MU) (l1 : Int32) (l2 : Int32) (l3 : Int32) (l4 : Int32) (l5 : Int32) (l6 : Int64) (l8 : Int32) (r : am_MU × Int32), K62 u l1 l2 l3 l4 l5 l6 l8 = some r → am_Ev X M_X7_seen 62 [(0, .ref 110), (1, .int l1), (2, .int l2), (3, .int l3), (4, .int l4), (5, .int l5), (6, .long l6), (8, .int l8)] [] (hp u) (hp r.1, some (.int r.2))) (u : am_MU) (l1 : Int32) (l2 : Int32) (l3 : Int32) (l4 : Int32) (l6 : Int64) (l8 : Int32) (l10 : Int64) (s0 : Int32) (r : am_MU × Int32) (h : g_X7_seen_118 K62 u l1 l2 l3 l4 l6 l8 l10 s0 = some r) : am_Ev X M_X7_seen 118 [(0, .ref 110), (1, .int l1), (2, .int l2), (3, .int l3), (4, .int l4), (6, .long l6), (8, .int l8), (10, .long l10)] [.int s0] (hp u) (hp r.1, some (.int r.2)) := by
  unfold g_X7_seen_118 at h
  refine ev_istore (L' := [(5, .int s0), (0, .ref 110), (1, .int l1), (2, .int l2), (3, .int l3), (4, .int l4), (6, .long l6), (8, .int l8), (10, .long l10)]) dX7_seen_118 (by decide) rfl ?_
  refine ev_iload dX7_seen_120 0 rfl ?_
  refine ev_iload dX7_seen_122 7 rfl ?_
  refine ev_icmp_ne 132 dX7_seen_124 (by decide) (fun c1 => ?_) (fun c1 => ?_)
  · have h := am_e c1 h
    refine ev_lload dX7_seen_132 6 rfl ?_
    refine ev_loc [1, 2, 3, 4, 5, 0, 7] rfl ?_
    exact l_X7_seen_134 K62 hK62 u l1 l2 l3 l4 s0 l8 l6 _ h
  · have h := am_t c1 h
    refine ev_lload dX7_seen_127 8 rfl ?_
    refine ev_goto 134 dX7_seen_129 (by decide) ?_
    refine ev_loc [1, 2, 3, 4, 5, 0, 7] rfl ?_
    exact l_X7_seen_134 K62 hK62 u l1 l2 l3 l4 s0 l8 l10 _ h

theorem l_X7_seen_111 {X : Nat × (Nat → Int32)} (K62 : am_MU → Int32 → Int32 → Int32 → Int32 → Int32 → Int64 → Int32 → Option (am_MU × Int32)) (hK62 : ∀ (u : am_MU) (l1 : Int32) (l2 : Int32) (l3 : Int32) (l4 : Int32) (l5 : Int32) (l6 : Int64) (l8 : Int32) (r : am_MU × Int32), K62 u l1 l2 l3 l4 l5 l6 l8 = some r → am_Ev X M_X7_seen 62 [(0, .ref 110), (1, .int l1), (2, .int l2), (3, .int l3), (4, .int l4), (5, .int l5), (6, .long l6), (8, .int l8)] [] (hp u) (hp r.1, some (.int r.2))) (u : am_MU) (l1 : Int32) (l2 : Int32) (l3 : Int32) (l4 : Int32) (l6 : Int64) (l8 : Int32) (l10 : Int64) (r : am_MU × Int32) (h : g_X7_seen_111 K62 u l1 l2 l3 l4 l6 l8 l10 = some r) : am_Ev X M_X7_seen 111 [(0, .ref 110), (1, .int l1), (2, .int l2), (3, .int l3), (4, .int l4), (6, .long l6), (8, .int l8), (10, .long l10)] [] (hp u) (hp r.1, some (.int r.2)) := by
  unfold g_X7_seen_111 at h
  refine ev_iload dX7_seen_111 6 rfl ?_
  refine ev_goto 118 dX7_seen_113 (by decide) ?_
  refine ev_loc [0, 1, 2, 3, 4, 5, 6, 7] rfl ?_
  exact l_X7_seen_118 K62 hK62 u l1 l2 l3 l4 l6 l8 l10 l8 _ h

theorem l_X7_seen_62 {X : Nat × (Nat → Int32)}   : ∀ (n : Nat) (u : am_MU) (l1 : Int32) (l2 : Int32) (l3 : Int32) (l4 : Int32) (l5 : Int32) (l6 : Int64) (l8 : Int32) (r : am_MU × Int32), g_X7_seen_62  n u l1 l2 l3 l4 l5 l6 l8 = some r → am_Ev X M_X7_seen 62 [(0, .ref 110), (1, .int l1), (2, .int l2), (3, .int l3), (4, .int l4), (5, .int l5), (6, .long l6), (8, .int l8)] [] (hp u) (hp r.1, some (.int r.2)) := by
  intro n
  induction n with
  | zero => intro u l1 l2 l3 l4 l5 l6 l8 r h; cases h
  | succ n ih =>
    intro u l1 l2 l3 l4 l5 l6 l8 r h
    rw [g_X7_seen_62] at h
    refine ev_iload dX7_seen_62 7 rfl ?_
    refine ev_bipush (v := (12 : Int32)) dX7_seen_64 kB_12 ?_
    refine ev_icmp_ge 142 dX7_seen_66 (by decide) (fun c1 => ?_) (fun c1 => ?_)
    · have h := am_t c1 h
      refine ev_aload_n dX7_seen_142 0 rfl trivial ?_
      refine px_getR dX7_seen_143 gf_RX7_9 (at7 rfl) (by decide) rfl ?_
      refine ev_iconst (v := (2 : Int32)) dX7_seen_146 kI_2 ?_
      refine ev_iload dX7_seen_147 4 rfl ?_
      obtain ⟨u2, eu2, h⟩ := am_lt h
      refine px_iast (n := 1535) 2 dX7_seen_149 rfl (by decide) (by decide) eu2 ?_
      refine ev_iload dX7_seen_150 5 rfl ?_
      obtain rfl := Option.some.inj h
      exact ev_iret dX7_seen_152 rfl rfl
    · have h := am_e c1 h
      refine ev_aload_n dX7_seen_69 0 rfl trivial ?_
      refine px_getR dX7_seen_70 gf_RX7_9 (at7 rfl) (by decide) rfl ?_
      refine ev_iconst (v := (2 : Int32)) dX7_seen_73 kI_2 ?_
      refine ev_iload dX7_seen_74 7 rfl ?_
      obtain ⟨u3, eu3, h⟩ := am_lt h
      refine px_iast (n := 1535) 2 dX7_seen_76 rfl (by decide) (by decide) eu3 ?_
      refine ev_aload_n dX7_seen_77 0 rfl trivial ?_
      refine ev_iload_n dX7_seen_78 2 rfl ?_
      refine ev_iload_n dX7_seen_79 3 rfl ?_
      obtain ⟨q4, eq4, h⟩ := am_bd h
      refine px_callvi [.int l2, .int l3] (by decide) cl_7 (at7 rfl) dX7_seen_80 ok_X7_ticks lk_RX7_168 in_X7_ticks se_X7_ticks (by decide) rfl (c_X7_ticks eq4) rfl (Nat.le_of_ble_eq_true rfl) ?_
      refine ev_istore (L' := [(9, .int q4.2), (0, .ref 110), (1, .int l1), (2, .int l2), (3, .int l3), (4, .int l4), (5, .int l5), (6, .long l6), (8, .int l8)]) dX7_seen_83 (by decide) rfl ?_
      refine ev_aload_n dX7_seen_85 1 rfl trivial ?_
      refine ev_iload_n dX7_seen_86 2 rfl ?_
      refine ev_iload_n dX7_seen_87 3 rfl ?_
      obtain ⟨q5, eq5, h⟩ := am_bd h
      refine px_callvl [.int l1, .int l2] (by decide) cl_7 (at7 rfl) dX7_seen_88 ok_X7_offBy lk_RX7_189 in_X7_offBy se_X7_offBy (by decide) rfl (c_X7_offBy eq5) rfl (Nat.le_of_ble_eq_true rfl) ?_
      refine ev_lstore (L' := [(10, .long q5.2), (9, .int q4.2), (0, .ref 110), (1, .int l1), (2, .int l2), (3, .int l3), (4, .int l4), (5, .int l5), (6, .long l6), (8, .int l8)]) dX7_seen_91 (by decide) rfl ?_
      refine ev_aload_n dX7_seen_93 2 rfl trivial ?_
      refine ev_iload_n dX7_seen_94 4 rfl ?_
      obtain ⟨q6, eq6, h⟩ := am_bd h
      refine px_callvv [.int l2] (by decide) cl_7 (at7 rfl) dX7_seen_95 ok_X7_putsBack lk_RX7_176 in_X7_putsBack se_X7_putsBack (by decide) rfl (c_X7_putsBack eq6) rfl (Nat.le_of_ble_eq_true rfl) ?_
      refine ev_iload dX7_seen_98 7 rfl ?_
      refine ev_if_lt 111 dX7_seen_100 (by decide) (fun c7 => ?_) (fun c7 => ?_)
      · have h := am_t c7 h
        refine ev_loc [2, 3, 4, 5, 6, 8, 9, 0] rfl ?_
        exact l_X7_seen_111 (g_X7_seen_62 n) (fun u l1 l2 l3 l4 l5 l6 l8 r h => ih u l1 l2 l3 l4 l5 l6 l8 r h) q6 l1 l2 l3 l4 l6 l8 q5.2 _ h
      · have h := am_e c7 h
        refine ev_lload dX7_seen_103 0 rfl ?_
        refine ev_lload dX7_seen_105 8 rfl ?_
        refine ev_lcmp dX7_seen_107 ?_
        refine ev_if_ge 116 dX7_seen_108 (by decide) (fun c8 => ?_) (fun c8 => ?_)
        · have h := am_t c8 h
          refine ev_iload dX7_seen_116 7 rfl ?_
          refine ev_loc [2, 3, 4, 5, 6, 8, 9, 0] rfl ?_
          exact l_X7_seen_118 (g_X7_seen_62 n) (fun u l1 l2 l3 l4 l5 l6 l8 r h => ih u l1 l2 l3 l4 l5 l6 l8 r h) q6 l1 l2 l3 l4 l6 l8 q5.2 l5 _ h
        · have h := am_e c8 h
          refine ev_loc [2, 3, 4, 5, 6, 8, 9, 0] rfl ?_
          exact l_X7_seen_111 (g_X7_seen_62 n) (fun u l1 l2 l3 l4 l5 l6 l8 r h => ih u l1 l2 l3 l4 l5 l6 l8 r h) q6 l1 l2 l3 l4 l6 l8 q5.2 _ h

theorem l_X7_seen_0 {X : Nat × (Nat → Int32)}   (u : am_MU) (l1 : Int32) (l2 : Int32) (l3 : Int32) (r : am_MU × Int32) (h : f_X7_seen  u l1 l2 l3 = some r) : am_Ev X M_X7_seen 0 [(0, .ref 110), (1, .int l1), (2, .int l2), (3, .int l3)] [] (hp u) (hp r.1, some (.int r.2)) := by
  unfold f_X7_seen at h
  refine ev_iload_n dX7_seen_0 1 rfl ?_
  obtain ⟨q1, eq1, h⟩ := am_bd h
  refine px_callsi [.int l1] dX7_seen_1 ok_X7_isSheet lk_RX7_185 st_X7_isSheet (by decide) rfl (c_X7_isSheet eq1) rfl (Nat.le_of_ble_eq_true rfl) ?_
  refine ev_if_eq 25 dX7_seen_4 (by decide) (fun c2 => ?_) (fun c2 => ?_)
  · have h := am_t c2 h
    refine ev_ldc (v := ((-1000000001) : Int32)) dX7_seen_25 tw_933 ?_
    obtain rfl := Option.some.inj h
    exact ev_iret dX7_seen_27 rfl rfl
  · have h := am_e c2 h
    refine ev_aload_n dX7_seen_7 0 rfl trivial ?_
    refine ev_iload_n dX7_seen_8 2 rfl ?_
    obtain ⟨q3, eq3, h⟩ := am_bd h
    refine px_callvi [.int l2] (by decide) cl_7 (at7 rfl) dX7_seen_9 ok_X7_isFloor lk_RX7_128 in_X7_isFloor se_X7_isFloor (by decide) rfl (c_X7_isFloor eq3) rfl (Nat.le_of_ble_eq_true rfl) ?_
    refine ev_if_eq 25 dX7_seen_12 (by decide) (fun c4 => ?_) (fun c4 => ?_)
    · have h := am_t c4 h
      refine ev_ldc (v := ((-1000000001) : Int32)) dX7_seen_25 tw_933 ?_
      obtain rfl := Option.some.inj h
      exact ev_iret dX7_seen_27 rfl rfl
    · have h := am_e c4 h
      refine ev_iload_n dX7_seen_15 3 rfl ?_
      refine ev_iconst (v := (0 : Int32)) dX7_seen_16 kI_0 ?_
      refine ev_bipush (v := (30 : Int32)) dX7_seen_17 kB_30 ?_
      obtain ⟨q5, eq5, h⟩ := am_bd h
      refine px_callsi [.int l3, .int (0 : Int32), .int (30 : Int32)] dX7_seen_19 ok_X7_in lk_RX7_78 st_X7_in (by decide) rfl (c_X7_in eq5) rfl (Nat.le_of_ble_eq_true rfl) ?_
      refine ev_if_ne 28 dX7_seen_22 (by decide) (fun c6 => ?_) (fun c6 => ?_)
      · have h := am_e c6 h
        refine ev_aload_n dX7_seen_28 0 rfl trivial ?_
        refine px_getR dX7_seen_29 gf_RX7_51 (at7 rfl) (by decide) rfl ?_
        refine ev_iload_n dX7_seen_32 1 rfl ?_
        obtain ⟨g7, h⟩ := am_gd h
        refine px_iald (n := 4) l1.toNatClampNeg dX7_seen_33 rfl g7 rfl ?_
        refine ev_if_ge 40 dX7_seen_34 (by decide) (fun c8 => ?_) (fun c8 => ?_)
        · have h := am_t c8 h
          refine ev_aload_n dX7_seen_40 0 rfl trivial ?_
          refine px_getR dX7_seen_41 gf_RX7_9 (at7 rfl) (by decide) rfl ?_
          refine ev_iconst (v := (2 : Int32)) dX7_seen_44 kI_2 ?_
          refine px_iald (n := 1535) 2 dX7_seen_45 rfl (by decide) (by decide) ?_
          obtain ⟨x9, ex9, h⟩ := am_lt h
          refine px_top ex9 ?_
          refine ev_istore (L' := [(4, .int x9), (0, .ref 110), (1, .int l1), (2, .int l2), (3, .int l3)]) dX7_seen_46 (by decide) rfl ?_
          refine ev_iconst (v := ((-1) : Int32)) dX7_seen_48 kI_m1 ?_
          refine ev_istore (L' := [(5, .int ((-1) : Int32)), (4, .int x9), (0, .ref 110), (1, .int l1), (2, .int l2), (3, .int l3)]) dX7_seen_49 (by decide) rfl ?_
          refine ev_lconst (v := (0 : Int64)) dX7_seen_51 (by decide) ?_
          obtain ⟨x10, ex10, h⟩ := am_lt h
          refine px_topl ex10 ?_
          refine ev_lstore (L' := [(6, .long x10), (5, .int ((-1) : Int32)), (4, .int x9), (0, .ref 110), (1, .int l1), (2, .int l2), (3, .int l3)]) dX7_seen_52 (by decide) rfl ?_
          refine ev_aload_n dX7_seen_54 3 rfl trivial ?_
          refine ev_iload_n dX7_seen_55 5 rfl ?_
          obtain ⟨q11, eq11, h⟩ := am_bd h
          refine px_callvv [.int l2] (by decide) cl_7 (at7 rfl) dX7_seen_56 ok_X7_thinks lk_RX7_172 in_X7_thinks se_X7_thinks (by decide) rfl (c_X7_thinks eq11) rfl (Nat.le_of_ble_eq_true rfl) ?_
          refine ev_iconst (v := (0 : Int32)) dX7_seen_59 kI_0 ?_
          refine ev_istore (L' := [(8, .int (0 : Int32)), (6, .long x10), (5, .int ((-1) : Int32)), (4, .int x9), (0, .ref 110), (1, .int l1), (2, .int l2), (3, .int l3)]) dX7_seen_60 (by decide) rfl ?_
          refine ev_loc [4, 5, 6, 7, 3, 2, 1, 0] rfl ?_
          exact l_X7_seen_62   1700 q11 l1 l2 l3 x9 ((-1) : Int32) x10 (0 : Int32) _ h
        · have h := am_e c8 h
          refine ev_ldc (v := ((-1000000011) : Int32)) dX7_seen_37 tw_1143 ?_
          obtain rfl := Option.some.inj h
          exact ev_iret dX7_seen_39 rfl rfl
      · have h := am_t c6 h
        refine ev_ldc (v := ((-1000000001) : Int32)) dX7_seen_25 tw_933 ?_
        obtain rfl := Option.some.inj h
        exact ev_iret dX7_seen_27 rfl rfl

theorem c_X7_seen {X : Nat × (Nat → Int32)} {u : am_MU} {l1 : Int32} {l2 : Int32} {l3 : Int32} {r : am_MU × Int32} (h : f_X7_seen u l1 l2 l3 = some r) : am_Cn X M_X7_seen [.ref 110, .int l1, .int l2, .int l3] (hp u) (hp r.1, some (.int r.2)) := by
  refine am_Cn.of ok_X7_seen (Nat.le_refl _) (Nat.le_refl _) (Nat.le_of_ble_eq_true rfl) ?_
  refine ev_loc [0, 1, 2, 3] rfl ?_
  exact l_X7_seen_0 u l1 l2 l3 r h

-- SandRipplesModel.best(III)I
def g_X7_best_117 (K52 : am_MU → Int32 → Int32 → Int32 → Int32 → Int32 → Int32 → Int32 → Option (am_MU × Int32)) (u : am_MU) (l1 : Int32) (l2 : Int32) (l3 : Int32) (l4 : Int32) (l5 : Int32) (l7 : Int32) (s0 : Int32) : Option (am_MU × Int32) :=
am_let (l7 + (1 : Int32)) fun x1 =>
K52 u l1 l2 l3 l4 l5 s0 x1

def g_X7_best_101 (K52 : am_MU → Int32 → Int32 → Int32 → Int32 → Int32 → Int32 → Int32 → Option (am_MU × Int32)) (u : am_MU) (l1 : Int32) (l2 : Int32) (l3 : Int32) (l4 : Int32) (l6 : Int32) (l7 : Int32) (l9 : Int32) (s0 : Int32) : Option (am_MU × Int32) :=
if l9 ≤ l6 then (g_X7_best_117 K52 u l1 l2 l3 l4 s0 l7 l6)
else (g_X7_best_117 K52 u l1 l2 l3 l4 s0 l7 l9)

def g_X7_best_52  : Nat → am_MU → Int32 → Int32 → Int32 → Int32 → Int32 → Int32 → Int32 → Option (am_MU × Int32)
  | 0 => fun _ _ _ _ _ _ _ _ => none
  | n + 1 => fun u l1 l2 l3 l4 l5 l6 l7 =>
if (10 : Int32) ≤ l7 then (am_let (am_u2 u 111 3 l4) fun u2 =>
if l3 = 0 then (some (u2, l5))
else (some (u2, l6)))
else (am_let (am_u2 u 111 3 l7) fun u4 =>
(f_X7_ticks u4 l1 l2).bind fun q5 =>
(f_X7_crestsOf q5.1 l1).bind fun q6 =>
(f_X7_putsBack q6.1 l1).bind fun q7 =>
if q6.2 ≤ l6 then (g_X7_best_101 (g_X7_best_52 n) q7 l1 l2 l3 l4 l6 l7 q6.2 l5)
else (g_X7_best_101 (g_X7_best_52 n) q7 l1 l2 l3 l4 l6 l7 q6.2 l7))

def f_X7_best  (u : am_MU) (l1 : Int32) (l2 : Int32) (l3 : Int32) : Option (am_MU × Int32) :=
(f_X7_isFloor u l1).bind fun q1 =>
if q1.2 = 0 then (some (q1.1, ((-1000000001) : Int32)))
else ((f_X7_in q1.1 l2 (0 : Int32) (30 : Int32)).bind fun q3 =>
if q3.2 = 0 then (some (q3.1, ((-1000000001) : Int32)))
else ((f_X7_in q3.1 l3 (0 : Int32) (1 : Int32)).bind fun q5 =>
if q5.2 = 0 then (some (q5.1, ((-1000000001) : Int32)))
else (am_let (q5.1 111 3) fun x7 =>
(f_X7_thinks q5.1 l1).bind fun q8 =>
g_X7_best_52 1700 q8 l1 l2 l3 x7 (0 : Int32) ((-1) : Int32) (0 : Int32))))

theorem l_X7_best_117 {X : Nat × (Nat → Int32)} (K52 : am_MU → Int32 → Int32 → Int32 → Int32 → Int32 → Int32 → Int32 → Option (am_MU × Int32)) (hK52 : ∀ (u : am_MU) (l1 : Int32) (l2 : Int32) (l3 : Int32) (l4 : Int32) (l5 : Int32) (l6 : Int32) (l7 : Int32) (r : am_MU × Int32), K52 u l1 l2 l3 l4 l5 l6 l7 = some r → am_Ev X M_X7_best 52 [(0, .ref 110), (1, .int l1), (2, .int l2), (3, .int l3), (4, .int l4), (5, .int l5), (6, .int l6), (7, .int l7)] [] (hp u) (hp r.1, some (.int r.2))) (u : am_MU) (l1 : Int32) (l2 : Int32) (l3 : Int32) (l4 : Int32) (l5 : Int32) (l7 : Int32) (s0 : Int32) (r : am_MU × Int32) (h : g_X7_best_117 K52 u l1 l2 l3 l4 l5 l7 s0 = some r) : am_Ev X M_X7_best 117 [(0, .ref 110), (1, .int l1), (2, .int l2), (3, .int l3), (4, .int l4), (5, .int l5), (7, .int l7)] [.int s0] (hp u) (hp r.1, some (.int r.2)) := by
  unfold g_X7_best_117 at h
  refine ev_istore (L' := [(6, .int s0), (0, .ref 110), (1, .int l1), (2, .int l2), (3, .int l3), (4, .int l4), (5, .int l5), (7, .int l7)]) dX7_best_117 (by decide) rfl ?_
  obtain ⟨x1, ex1, h⟩ := am_lt h
  refine ev_iinc (v := x1) (L' := [(7, .int x1), (6, .int s0), (0, .ref 110), (1, .int l1), (2, .int l2), (3, .int l3), (4, .int l4), (5, .int l5)]) dX7_best_119 7 rfl (by rw [kI_1, ex1]) (by decide) rfl ?_
  refine ev_goto 52 dX7_best_122 (by decide) ?_
  refine ev_loc [2, 3, 4, 5, 6, 7, 1, 0] rfl ?_
  exact hK52 u l1 l2 l3 l4 l5 s0 x1 _ h

theorem l_X7_best_101 {X : Nat × (Nat → Int32)} (K52 : am_MU → Int32 → Int32 → Int32 → Int32 → Int32 → Int32 → Int32 → Option (am_MU × Int32)) (hK52 : ∀ (u : am_MU) (l1 : Int32) (l2 : Int32) (l3 : Int32) (l4 : Int32) (l5 : Int32) (l6 : Int32) (l7 : Int32) (r : am_MU × Int32), K52 u l1 l2 l3 l4 l5 l6 l7 = some r → am_Ev X M_X7_best 52 [(0, .ref 110), (1, .int l1), (2, .int l2), (3, .int l3), (4, .int l4), (5, .int l5), (6, .int l6), (7, .int l7)] [] (hp u) (hp r.1, some (.int r.2))) (u : am_MU) (l1 : Int32) (l2 : Int32) (l3 : Int32) (l4 : Int32) (l6 : Int32) (l7 : Int32) (l9 : Int32) (s0 : Int32) (r : am_MU × Int32) (h : g_X7_best_101 K52 u l1 l2 l3 l4 l6 l7 l9 s0 = some r) : am_Ev X M_X7_best 101 [(0, .ref 110), (1, .int l1), (2, .int l2), (3, .int l3), (4, .int l4), (6, .int l6), (7, .int l7), (9, .int l9)] [.int s0] (hp u) (hp r.1, some (.int r.2)) := by
  unfold g_X7_best_101 at h
  refine ev_istore (L' := [(5, .int s0), (0, .ref 110), (1, .int l1), (2, .int l2), (3, .int l3), (4, .int l4), (6, .int l6), (7, .int l7), (9, .int l9)]) dX7_best_101 (by decide) rfl ?_
  refine ev_iload dX7_best_103 8 rfl ?_
  refine ev_iload dX7_best_105 6 rfl ?_
  refine ev_icmp_le 115 dX7_best_107 (by decide) (fun c1 => ?_) (fun c1 => ?_)
  · have h := am_t c1 h
    refine ev_iload dX7_best_115 6 rfl ?_
    refine ev_loc [1, 2, 3, 4, 5, 0, 7] rfl ?_
    exact l_X7_best_117 K52 hK52 u l1 l2 l3 l4 s0 l7 l6 _ h
  · have h := am_e c1 h
    refine ev_iload dX7_best_110 8 rfl ?_
    refine ev_goto 117 dX7_best_112 (by decide) ?_
    refine ev_loc [1, 2, 3, 4, 5, 0, 7] rfl ?_
    exact l_X7_best_117 K52 hK52 u l1 l2 l3 l4 s0 l7 l9 _ h

theorem l_X7_best_52 {X : Nat × (Nat → Int32)}   : ∀ (n : Nat) (u : am_MU) (l1 : Int32) (l2 : Int32) (l3 : Int32) (l4 : Int32) (l5 : Int32) (l6 : Int32) (l7 : Int32) (r : am_MU × Int32), g_X7_best_52  n u l1 l2 l3 l4 l5 l6 l7 = some r → am_Ev X M_X7_best 52 [(0, .ref 110), (1, .int l1), (2, .int l2), (3, .int l3), (4, .int l4), (5, .int l5), (6, .int l6), (7, .int l7)] [] (hp u) (hp r.1, some (.int r.2)) := by
  intro n
  induction n with
  | zero => intro u l1 l2 l3 l4 l5 l6 l7 r h; cases h
  | succ n ih =>
    intro u l1 l2 l3 l4 l5 l6 l7 r h
    rw [g_X7_best_52] at h
    refine ev_iload dX7_best_52 7 rfl ?_
    refine ev_bipush (v := (10 : Int32)) dX7_best_54 kB_10 ?_
    refine ev_icmp_ge 125 dX7_best_56 (by decide) (fun c1 => ?_) (fun c1 => ?_)
    · have h := am_t c1 h
      refine ev_aload_n dX7_best_125 0 rfl trivial ?_
      refine px_getR dX7_best_126 gf_RX7_9 (at7 rfl) (by decide) rfl ?_
      refine ev_iconst (v := (3 : Int32)) dX7_best_129 kI_3 ?_
      refine ev_iload dX7_best_130 4 rfl ?_
      obtain ⟨u2, eu2, h⟩ := am_lt h
      refine px_iast (n := 1535) 3 dX7_best_132 rfl (by decide) (by decide) eu2 ?_
      refine ev_iload_n dX7_best_133 3 rfl ?_
      refine ev_if_ne 142 dX7_best_134 (by decide) (fun c3 => ?_) (fun c3 => ?_)
      · have h := am_e c3 h
        refine ev_iload dX7_best_142 6 rfl ?_
        obtain rfl := Option.some.inj h
        exact ev_iret dX7_best_144 rfl rfl
      · have h := am_t c3 h
        refine ev_iload dX7_best_137 5 rfl ?_
        refine ev_goto 144 dX7_best_139 (by decide) ?_
        obtain rfl := Option.some.inj h
        exact ev_iret dX7_best_144 rfl rfl
    · have h := am_e c1 h
      refine ev_aload_n dX7_best_59 0 rfl trivial ?_
      refine px_getR dX7_best_60 gf_RX7_9 (at7 rfl) (by decide) rfl ?_
      refine ev_iconst (v := (3 : Int32)) dX7_best_63 kI_3 ?_
      refine ev_iload dX7_best_64 7 rfl ?_
      obtain ⟨u4, eu4, h⟩ := am_lt h
      refine px_iast (n := 1535) 3 dX7_best_66 rfl (by decide) (by decide) eu4 ?_
      refine ev_aload_n dX7_best_67 0 rfl trivial ?_
      refine ev_iload_n dX7_best_68 1 rfl ?_
      refine ev_iload_n dX7_best_69 2 rfl ?_
      obtain ⟨q5, eq5, h⟩ := am_bd h
      refine px_callvi [.int l1, .int l2] (by decide) cl_7 (at7 rfl) dX7_best_70 ok_X7_ticks lk_RX7_168 in_X7_ticks se_X7_ticks (by decide) rfl (c_X7_ticks eq5) rfl (Nat.le_of_ble_eq_true rfl) ?_
      refine ev_istore (L' := [(8, .int q5.2), (0, .ref 110), (1, .int l1), (2, .int l2), (3, .int l3), (4, .int l4), (5, .int l5), (6, .int l6), (7, .int l7)]) dX7_best_73 (by decide) rfl ?_
      refine ev_aload_n dX7_best_75 1 rfl trivial ?_
      refine ev_iload_n dX7_best_76 2 rfl ?_
      obtain ⟨q6, eq6, h⟩ := am_bd h
      refine px_callvi [.int l1] (by decide) cl_7 (at7 rfl) dX7_best_77 ok_X7_crestsOf lk_RX7_119 in_X7_crestsOf se_X7_crestsOf (by decide) rfl (c_X7_crestsOf eq6) rfl (Nat.le_of_ble_eq_true rfl) ?_
      refine ev_istore (L' := [(9, .int q6.2), (8, .int q5.2), (0, .ref 110), (1, .int l1), (2, .int l2), (3, .int l3), (4, .int l4), (5, .int l5), (6, .int l6), (7, .int l7)]) dX7_best_80 (by decide) rfl ?_
      refine ev_aload_n dX7_best_82 2 rfl trivial ?_
      refine ev_iload_n dX7_best_83 3 rfl ?_
      obtain ⟨q7, eq7, h⟩ := am_bd h
      refine px_callvv [.int l1] (by decide) cl_7 (at7 rfl) dX7_best_84 ok_X7_putsBack lk_RX7_176 in_X7_putsBack se_X7_putsBack (by decide) rfl (c_X7_putsBack eq7) rfl (Nat.le_of_ble_eq_true rfl) ?_
      refine ev_iload dX7_best_87 0 rfl ?_
      refine ev_iload dX7_best_89 8 rfl ?_
      refine ev_icmp_le 99 dX7_best_91 (by decide) (fun c8 => ?_) (fun c8 => ?_)
      · have h := am_t c8 h
        refine ev_iload dX7_best_99 7 rfl ?_
        refine ev_loc [2, 3, 4, 5, 6, 8, 9, 0] rfl ?_
        exact l_X7_best_101 (g_X7_best_52 n) (fun u l1 l2 l3 l4 l5 l6 l7 r h => ih u l1 l2 l3 l4 l5 l6 l7 r h) q7 l1 l2 l3 l4 l6 l7 q6.2 l5 _ h
      · have h := am_e c8 h
        refine ev_iload dX7_best_94 9 rfl ?_
        refine ev_goto 101 dX7_best_96 (by decide) ?_
        refine ev_loc [2, 3, 4, 5, 6, 8, 9, 0] rfl ?_
        exact l_X7_best_101 (g_X7_best_52 n) (fun u l1 l2 l3 l4 l5 l6 l7 r h => ih u l1 l2 l3 l4 l5 l6 l7 r h) q7 l1 l2 l3 l4 l6 l7 q6.2 l7 _ h

theorem l_X7_best_0 {X : Nat × (Nat → Int32)}   (u : am_MU) (l1 : Int32) (l2 : Int32) (l3 : Int32) (r : am_MU × Int32) (h : f_X7_best  u l1 l2 l3 = some r) : am_Ev X M_X7_best 0 [(0, .ref 110), (1, .int l1), (2, .int l2), (3, .int l3)] [] (hp u) (hp r.1, some (.int r.2)) := by
  unfold f_X7_best at h
  refine ev_aload_n dX7_best_0 0 rfl trivial ?_
  refine ev_iload_n dX7_best_1 1 rfl ?_
  obtain ⟨q1, eq1, h⟩ := am_bd h
  refine px_callvi [.int l1] (by decide) cl_7 (at7 rfl) dX7_best_2 ok_X7_isFloor lk_RX7_128 in_X7_isFloor se_X7_isFloor (by decide) rfl (c_X7_isFloor eq1) rfl (Nat.le_of_ble_eq_true rfl) ?_
  refine ev_if_eq 27 dX7_best_5 (by decide) (fun c2 => ?_) (fun c2 => ?_)
  · have h := am_t c2 h
    refine ev_ldc (v := ((-1000000001) : Int32)) dX7_best_27 tw_933 ?_
    obtain rfl := Option.some.inj h
    exact ev_iret dX7_best_29 rfl rfl
  · have h := am_e c2 h
    refine ev_iload_n dX7_best_8 2 rfl ?_
    refine ev_iconst (v := (0 : Int32)) dX7_best_9 kI_0 ?_
    refine ev_bipush (v := (30 : Int32)) dX7_best_10 kB_30 ?_
    obtain ⟨q3, eq3, h⟩ := am_bd h
    refine px_callsi [.int l2, .int (0 : Int32), .int (30 : Int32)] dX7_best_12 ok_X7_in lk_RX7_78 st_X7_in (by decide) rfl (c_X7_in eq3) rfl (Nat.le_of_ble_eq_true rfl) ?_
    refine ev_if_eq 27 dX7_best_15 (by decide) (fun c4 => ?_) (fun c4 => ?_)
    · have h := am_t c4 h
      refine ev_ldc (v := ((-1000000001) : Int32)) dX7_best_27 tw_933 ?_
      obtain rfl := Option.some.inj h
      exact ev_iret dX7_best_29 rfl rfl
    · have h := am_e c4 h
      refine ev_iload_n dX7_best_18 3 rfl ?_
      refine ev_iconst (v := (0 : Int32)) dX7_best_19 kI_0 ?_
      refine ev_iconst (v := (1 : Int32)) dX7_best_20 kI_1 ?_
      obtain ⟨q5, eq5, h⟩ := am_bd h
      refine px_callsi [.int l3, .int (0 : Int32), .int (1 : Int32)] dX7_best_21 ok_X7_in lk_RX7_78 st_X7_in (by decide) rfl (c_X7_in eq5) rfl (Nat.le_of_ble_eq_true rfl) ?_
      refine ev_if_ne 30 dX7_best_24 (by decide) (fun c6 => ?_) (fun c6 => ?_)
      · have h := am_e c6 h
        refine ev_aload_n dX7_best_30 0 rfl trivial ?_
        refine px_getR dX7_best_31 gf_RX7_9 (at7 rfl) (by decide) rfl ?_
        refine ev_iconst (v := (3 : Int32)) dX7_best_34 kI_3 ?_
        refine px_iald (n := 1535) 3 dX7_best_35 rfl (by decide) (by decide) ?_
        obtain ⟨x7, ex7, h⟩ := am_lt h
        refine px_top ex7 ?_
        refine ev_istore (L' := [(4, .int x7), (0, .ref 110), (1, .int l1), (2, .int l2), (3, .int l3)]) dX7_best_36 (by decide) rfl ?_
        refine ev_iconst (v := (0 : Int32)) dX7_best_38 kI_0 ?_
        refine ev_istore (L' := [(5, .int (0 : Int32)), (4, .int x7), (0, .ref 110), (1, .int l1), (2, .int l2), (3, .int l3)]) dX7_best_39 (by decide) rfl ?_
        refine ev_iconst (v := ((-1) : Int32)) dX7_best_41 kI_m1 ?_
        refine ev_istore (L' := [(6, .int ((-1) : Int32)), (5, .int (0 : Int32)), (4, .int x7), (0, .ref 110), (1, .int l1), (2, .int l2), (3, .int l3)]) dX7_best_42 (by decide) rfl ?_
        refine ev_aload_n dX7_best_44 3 rfl trivial ?_
        refine ev_iload_n dX7_best_45 4 rfl ?_
        obtain ⟨q8, eq8, h⟩ := am_bd h
        refine px_callvv [.int l1] (by decide) cl_7 (at7 rfl) dX7_best_46 ok_X7_thinks lk_RX7_172 in_X7_thinks se_X7_thinks (by decide) rfl (c_X7_thinks eq8) rfl (Nat.le_of_ble_eq_true rfl) ?_
        refine ev_iconst (v := (0 : Int32)) dX7_best_49 kI_0 ?_
        refine ev_istore (L' := [(7, .int (0 : Int32)), (6, .int ((-1) : Int32)), (5, .int (0 : Int32)), (4, .int x7), (0, .ref 110), (1, .int l1), (2, .int l2), (3, .int l3)]) dX7_best_50 (by decide) rfl ?_
        refine ev_loc [4, 5, 6, 7, 3, 2, 1, 0] rfl ?_
        exact l_X7_best_52   1700 q8 l1 l2 l3 x7 (0 : Int32) ((-1) : Int32) (0 : Int32) _ h
      · have h := am_t c6 h
        refine ev_ldc (v := ((-1000000001) : Int32)) dX7_best_27 tw_933 ?_
        obtain rfl := Option.some.inj h
        exact ev_iret dX7_best_29 rfl rfl

theorem c_X7_best {X : Nat × (Nat → Int32)} {u : am_MU} {l1 : Int32} {l2 : Int32} {l3 : Int32} {r : am_MU × Int32} (h : f_X7_best u l1 l2 l3 = some r) : am_Cn X M_X7_best [.ref 110, .int l1, .int l2, .int l3] (hp u) (hp r.1, some (.int r.2)) := by
  refine am_Cn.of ok_X7_best (Nat.le_refl _) (Nat.le_refl _) (Nat.le_of_ble_eq_true rfl) ?_
  refine ev_loc [0, 1, 2, 3] rfl ?_
  exact l_X7_best_0 u l1 l2 l3 r h

-- SandRipplesModel.feed(III)I
def g_X7_feed_47 (K18 : am_MU → Int32 → Int32 → Int32 → Int32 → Option (am_MU × Int32)) (u : am_MU) (l1 : Int32) (l2 : Int32) (l3 : Int32) (l4 : Int32) (s0 : Int32) : Option (am_MU × Int32) :=
if am_in ((u 110 7) + l4) 96 then (
am_let (am_u2 u 116 (((u 110 7) + l4).toNatClampNeg) ((s0 >>> (((24 : Int32) - ((8 : Int32) * (l4 - l4 / (4 : Int32) * (4 : Int32)))) &&& 31)) &&& (255 : Int32))) fun u2 =>
am_let (l4 + (1 : Int32)) fun x3 =>
K18 u2 l1 l2 l3 x3) else none

def g_X7_feed_18  : Nat → am_MU → Int32 → Int32 → Int32 → Int32 → Option (am_MU × Int32)
  | 0 => fun _ _ _ _ _ => none
  | n + 1 => fun u l1 l2 l3 l4 =>
if (12 : Int32) ≤ l4 then (am_let (am_u2 u 110 7 ((u 110 7) + (12 : Int32))) fun u2 =>
some (u2, u2 110 7))
else (if (4 : Int32) ≤ l4 then (if (8 : Int32) ≤ l4 then (g_X7_feed_47 (g_X7_feed_18 n) u l1 l2 l3 l4 l3)
else (g_X7_feed_47 (g_X7_feed_18 n) u l1 l2 l3 l4 l2))
else (g_X7_feed_47 (g_X7_feed_18 n) u l1 l2 l3 l4 l1))

def f_X7_feed  (u : am_MU) (l1 : Int32) (l2 : Int32) (l3 : Int32) : Option (am_MU × Int32) :=
if ((u 110 7) + (12 : Int32)) ≤ (96 : Int32) then (g_X7_feed_18 1700 u l1 l2 l3 (0 : Int32))
else (some (u, ((-1000000003) : Int32)))

theorem l_X7_feed_47 {X : Nat × (Nat → Int32)} (K18 : am_MU → Int32 → Int32 → Int32 → Int32 → Option (am_MU × Int32)) (hK18 : ∀ (u : am_MU) (l1 : Int32) (l2 : Int32) (l3 : Int32) (l4 : Int32) (r : am_MU × Int32), K18 u l1 l2 l3 l4 = some r → am_Ev X M_X7_feed 18 [(0, .ref 110), (1, .int l1), (2, .int l2), (3, .int l3), (4, .int l4)] [] (hp u) (hp r.1, some (.int r.2))) (u : am_MU) (l1 : Int32) (l2 : Int32) (l3 : Int32) (l4 : Int32) (s0 : Int32) (r : am_MU × Int32) (h : g_X7_feed_47 K18 u l1 l2 l3 l4 s0 = some r) : am_Ev X M_X7_feed 47 [(0, .ref 110), (1, .int l1), (2, .int l2), (3, .int l3), (4, .int l4)] [.int s0] (hp u) (hp r.1, some (.int r.2)) := by
  unfold g_X7_feed_47 at h
  refine ev_istore (L' := [(5, .int s0), (0, .ref 110), (1, .int l1), (2, .int l2), (3, .int l3), (4, .int l4)]) dX7_feed_47 (by decide) rfl ?_
  refine ev_aload_n dX7_feed_49 1 rfl trivial ?_
  refine px_getR dX7_feed_50 gf_RX7_25 (at7 rfl) (by decide) rfl ?_
  refine ev_aload_n dX7_feed_53 1 rfl trivial ?_
  refine px_getI dX7_feed_54 gf_RX7_193 (at7 rfl) (by decide) rfl ?_
  refine ev_iload dX7_feed_57 5 rfl ?_
  refine ev_iadd dX7_feed_59 ?_
  refine ev_iload dX7_feed_60 0 rfl ?_
  refine ev_bipush (v := (24 : Int32)) dX7_feed_62 kB_24 ?_
  refine ev_bipush (v := (8 : Int32)) dX7_feed_64 kB_8 ?_
  refine ev_iload dX7_feed_66 5 rfl ?_
  refine ev_iconst (v := (4 : Int32)) dX7_feed_68 kI_4 ?_
  refine ev_irem dX7_feed_69 (by decide) ?_
  refine ev_imul dX7_feed_70 ?_
  refine ev_isub dX7_feed_71 ?_
  refine ev_ishr dX7_feed_72 ?_
  refine ev_sipush (v := (255 : Int32)) dX7_feed_73 kS_255 ?_
  refine ev_iand dX7_feed_76 ?_
  obtain ⟨g1, h⟩ := am_gd h
  obtain ⟨u2, eu2, h⟩ := am_lt h
  refine px_iast (n := 96) (((u 110 7) + l4).toNatClampNeg) dX7_feed_77 rfl g1 rfl eu2 ?_
  obtain ⟨x3, ex3, h⟩ := am_lt h
  refine ev_iinc (v := x3) (L' := [(4, .int x3), (5, .int s0), (0, .ref 110), (1, .int l1), (2, .int l2), (3, .int l3)]) dX7_feed_78 5 rfl (by rw [kI_1, ex3]) (by decide) rfl ?_
  refine ev_goto 18 dX7_feed_81 (by decide) ?_
  refine ev_loc [2, 3, 4, 5, 0] rfl ?_
  exact hK18 u2 l1 l2 l3 x3 _ h

theorem l_X7_feed_18 {X : Nat × (Nat → Int32)}   : ∀ (n : Nat) (u : am_MU) (l1 : Int32) (l2 : Int32) (l3 : Int32) (l4 : Int32) (r : am_MU × Int32), g_X7_feed_18  n u l1 l2 l3 l4 = some r → am_Ev X M_X7_feed 18 [(0, .ref 110), (1, .int l1), (2, .int l2), (3, .int l3), (4, .int l4)] [] (hp u) (hp r.1, some (.int r.2)) := by
  intro n
  induction n with
  | zero => intro u l1 l2 l3 l4 r h; cases h
  | succ n ih =>
    intro u l1 l2 l3 l4 r h
    rw [g_X7_feed_18] at h
    refine ev_iload dX7_feed_18 4 rfl ?_
    refine ev_bipush (v := (12 : Int32)) dX7_feed_20 kB_12 ?_
    refine ev_icmp_ge 84 dX7_feed_22 (by decide) (fun c1 => ?_) (fun c1 => ?_)
    · have h := am_t c1 h
      refine ev_aload_n dX7_feed_84 0 rfl trivial ?_
      refine ev_dup dX7_feed_85 rfl ?_
      refine px_getI dX7_feed_86 gf_RX7_193 (at7 rfl) (by decide) rfl ?_
      refine ev_bipush (v := (12 : Int32)) dX7_feed_89 kB_12 ?_
      refine ev_iadd dX7_feed_91 ?_
      obtain ⟨u2, eu2, h⟩ := am_lt h
      refine px_putI dX7_feed_92 pf_RX7_193 (at7 rfl) (by decide) rfl eu2 ?_
      refine ev_aload_n dX7_feed_95 0 rfl trivial ?_
      refine px_getI dX7_feed_96 gf_RX7_193 (at7 rfl) (by decide) rfl ?_
      obtain rfl := Option.some.inj h
      exact ev_iret dX7_feed_99 rfl rfl
    · have h := am_e c1 h
      refine ev_iload dX7_feed_25 4 rfl ?_
      refine ev_iconst (v := (4 : Int32)) dX7_feed_27 kI_4 ?_
      refine ev_icmp_ge 35 dX7_feed_28 (by decide) (fun c3 => ?_) (fun c3 => ?_)
      · have h := am_t c3 h
        refine ev_iload dX7_feed_35 4 rfl ?_
        refine ev_bipush (v := (8 : Int32)) dX7_feed_37 kB_8 ?_
        refine ev_icmp_ge 46 dX7_feed_39 (by decide) (fun c4 => ?_) (fun c4 => ?_)
        · have h := am_t c4 h
          refine ev_iload_n dX7_feed_46 3 rfl ?_
          refine ev_loc [0, 1, 2, 3, 4] rfl ?_
          exact l_X7_feed_47 (g_X7_feed_18 n) (fun u l1 l2 l3 l4 r h => ih u l1 l2 l3 l4 r h) u l1 l2 l3 l4 l3 _ h
        · have h := am_e c4 h
          refine ev_iload_n dX7_feed_42 2 rfl ?_
          refine ev_goto 47 dX7_feed_43 (by decide) ?_
          refine ev_loc [0, 1, 2, 3, 4] rfl ?_
          exact l_X7_feed_47 (g_X7_feed_18 n) (fun u l1 l2 l3 l4 r h => ih u l1 l2 l3 l4 r h) u l1 l2 l3 l4 l2 _ h
      · have h := am_e c3 h
        refine ev_iload_n dX7_feed_31 1 rfl ?_
        refine ev_goto 47 dX7_feed_32 (by decide) ?_
        refine ev_loc [0, 1, 2, 3, 4] rfl ?_
        exact l_X7_feed_47 (g_X7_feed_18 n) (fun u l1 l2 l3 l4 r h => ih u l1 l2 l3 l4 r h) u l1 l2 l3 l4 l1 _ h

theorem l_X7_feed_0 {X : Nat × (Nat → Int32)}   (u : am_MU) (l1 : Int32) (l2 : Int32) (l3 : Int32) (r : am_MU × Int32) (h : f_X7_feed  u l1 l2 l3 = some r) : am_Ev X M_X7_feed 0 [(0, .ref 110), (1, .int l1), (2, .int l2), (3, .int l3)] [] (hp u) (hp r.1, some (.int r.2)) := by
  unfold f_X7_feed at h
  refine ev_aload_n dX7_feed_0 0 rfl trivial ?_
  refine px_getI dX7_feed_1 gf_RX7_193 (at7 rfl) (by decide) rfl ?_
  refine ev_bipush (v := (12 : Int32)) dX7_feed_4 kB_12 ?_
  refine ev_iadd dX7_feed_6 ?_
  refine ev_bipush (v := (96 : Int32)) dX7_feed_7 kB_96 ?_
  refine ev_icmp_le 15 dX7_feed_9 (by decide) (fun c1 => ?_) (fun c1 => ?_)
  · have h := am_t c1 h
    refine ev_iconst (v := (0 : Int32)) dX7_feed_15 kI_0 ?_
    refine ev_istore (L' := [(4, .int (0 : Int32)), (0, .ref 110), (1, .int l1), (2, .int l2), (3, .int l3)]) dX7_feed_16 (by decide) rfl ?_
    refine ev_loc [1, 2, 3, 4, 0] rfl ?_
    exact l_X7_feed_18   1700 u l1 l2 l3 (0 : Int32) _ h
  · have h := am_e c1 h
    refine ev_ldc (v := ((-1000000003) : Int32)) dX7_feed_12 tw_934 ?_
    obtain rfl := Option.some.inj h
    exact ev_iret dX7_feed_14 rfl rfl

theorem c_X7_feed {X : Nat × (Nat → Int32)} {u : am_MU} {l1 : Int32} {l2 : Int32} {l3 : Int32} {r : am_MU × Int32} (h : f_X7_feed u l1 l2 l3 = some r) : am_Cn X M_X7_feed [.ref 110, .int l1, .int l2, .int l3] (hp u) (hp r.1, some (.int r.2)) := by
  refine am_Cn.of ok_X7_feed (Nat.le_refl _) (Nat.le_refl _) (Nat.le_of_ble_eq_true rfl) ?_
  refine ev_loc [0, 1, 2, 3] rfl ?_
  exact l_X7_feed_0 u l1 l2 l3 r h

-- SandRipplesModel.trim(I)I
def f_X7_trim  (u : am_MU) (l1 : Int32) : Option (am_MU × Int32) :=
(f_X7_in u l1 (0 : Int32) (u 110 7)).bind fun q1 =>
if q1.2 = 0 then (some (q1.1, ((-1000000001) : Int32)))
else (am_let (am_u2 q1.1 110 7 l1) fun u3 =>
some (u3, l1))

theorem l_X7_trim_0 {X : Nat × (Nat → Int32)}   (u : am_MU) (l1 : Int32) (r : am_MU × Int32) (h : f_X7_trim  u l1 = some r) : am_Ev X M_X7_trim 0 [(0, .ref 110), (1, .int l1)] [] (hp u) (hp r.1, some (.int r.2)) := by
  unfold f_X7_trim at h
  refine ev_iload_n dX7_trim_0 1 rfl ?_
  refine ev_iconst (v := (0 : Int32)) dX7_trim_1 kI_0 ?_
  refine ev_aload_n dX7_trim_2 0 rfl trivial ?_
  refine px_getI dX7_trim_3 gf_RX7_193 (at7 rfl) (by decide) rfl ?_
  obtain ⟨q1, eq1, h⟩ := am_bd h
  refine px_callsi [.int l1, .int (0 : Int32), .int (u 110 7)] dX7_trim_6 ok_X7_in lk_RX7_78 st_X7_in (by decide) rfl (c_X7_in eq1) rfl (Nat.le_of_ble_eq_true rfl) ?_
  refine ev_if_ne 15 dX7_trim_9 (by decide) (fun c2 => ?_) (fun c2 => ?_)
  · have h := am_e c2 h
    refine ev_aload_n dX7_trim_15 0 rfl trivial ?_
    refine ev_iload_n dX7_trim_16 1 rfl ?_
    obtain ⟨u3, eu3, h⟩ := am_lt h
    refine px_putI dX7_trim_17 pf_RX7_193 (at7 rfl) (by decide) rfl eu3 ?_
    refine ev_iload_n dX7_trim_20 1 rfl ?_
    obtain rfl := Option.some.inj h
    exact ev_iret dX7_trim_21 rfl rfl
  · have h := am_t c2 h
    refine ev_ldc (v := ((-1000000001) : Int32)) dX7_trim_12 tw_933 ?_
    obtain rfl := Option.some.inj h
    exact ev_iret dX7_trim_14 rfl rfl

theorem c_X7_trim {X : Nat × (Nat → Int32)} {u : am_MU} {l1 : Int32} {r : am_MU × Int32} (h : f_X7_trim u l1 = some r) : am_Cn X M_X7_trim [.ref 110, .int l1] (hp u) (hp r.1, some (.int r.2)) := by
  refine am_Cn.of ok_X7_trim (Nat.le_refl _) (Nat.le_refl _) (Nat.le_of_ble_eq_true rfl) ?_
  refine ev_loc [0, 1] rfl ?_
  exact l_X7_trim_0 u l1 r h

-- SandRipplesModel.isLetter(I)Z
def f_X7_isLetter  (u : am_MU) (l1 : Int32) : Option (am_MU × Int32) :=
if (u 110 7) ≤ l1 then (some (u, (0 : Int32)))
else (if am_in l1 96 then (
if (u 116 l1.toNatClampNeg) < (97 : Int32) then (some (u, (0 : Int32)))
else (if (122 : Int32) < (u 116 l1.toNatClampNeg) then (some (u, (0 : Int32)))
else (some (u, (1 : Int32))))) else none)

theorem l_X7_isLetter_0 {X : Nat × (Nat → Int32)}   (u : am_MU) (l1 : Int32) (r : am_MU × Int32) (h : f_X7_isLetter  u l1 = some r) : am_Ev X M_X7_isLetter 0 [(0, .ref 110), (1, .int l1)] [] (hp u) (hp r.1, some (.int r.2)) := by
  unfold f_X7_isLetter at h
  refine ev_iload_n dX7_isLetter_0 1 rfl ?_
  refine ev_aload_n dX7_isLetter_1 0 rfl trivial ?_
  refine px_getI dX7_isLetter_2 gf_RX7_193 (at7 rfl) (by decide) rfl ?_
  refine ev_icmp_ge 34 dX7_isLetter_5 (by decide) (fun c1 => ?_) (fun c1 => ?_)
  · have h := am_t c1 h
    refine ev_iconst (v := (0 : Int32)) dX7_isLetter_34 kI_0 ?_
    obtain rfl := Option.some.inj h
    exact ev_iret dX7_isLetter_35 rfl (am_zn (Or.inl rfl))
  · have h := am_e c1 h
    refine ev_aload_n dX7_isLetter_8 0 rfl trivial ?_
    refine px_getR dX7_isLetter_9 gf_RX7_25 (at7 rfl) (by decide) rfl ?_
    refine ev_iload_n dX7_isLetter_12 1 rfl ?_
    obtain ⟨g2, h⟩ := am_gd h
    refine px_iald (n := 96) l1.toNatClampNeg dX7_isLetter_13 rfl g2 rfl ?_
    refine ev_bipush (v := (97 : Int32)) dX7_isLetter_14 kB_97 ?_
    refine ev_icmp_lt 34 dX7_isLetter_16 (by decide) (fun c3 => ?_) (fun c3 => ?_)
    · have h := am_t c3 h
      refine ev_iconst (v := (0 : Int32)) dX7_isLetter_34 kI_0 ?_
      obtain rfl := Option.some.inj h
      exact ev_iret dX7_isLetter_35 rfl (am_zn (Or.inl rfl))
    · have h := am_e c3 h
      refine ev_aload_n dX7_isLetter_19 0 rfl trivial ?_
      refine px_getR dX7_isLetter_20 gf_RX7_25 (at7 rfl) (by decide) rfl ?_
      refine ev_iload_n dX7_isLetter_23 1 rfl ?_
      refine px_iald (n := 96) l1.toNatClampNeg dX7_isLetter_24 rfl g2 rfl ?_
      refine ev_bipush (v := (122 : Int32)) dX7_isLetter_25 kB_122 ?_
      refine ev_icmp_gt 34 dX7_isLetter_27 (by decide) (fun c4 => ?_) (fun c4 => ?_)
      · have h := am_t c4 h
        refine ev_iconst (v := (0 : Int32)) dX7_isLetter_34 kI_0 ?_
        obtain rfl := Option.some.inj h
        exact ev_iret dX7_isLetter_35 rfl (am_zn (Or.inl rfl))
      · have h := am_e c4 h
        refine ev_iconst (v := (1 : Int32)) dX7_isLetter_30 kI_1 ?_
        refine ev_goto 35 dX7_isLetter_31 (by decide) ?_
        obtain rfl := Option.some.inj h
        exact ev_iret dX7_isLetter_35 rfl (am_zn (Or.inr rfl))

theorem c_X7_isLetter {X : Nat × (Nat → Int32)} {u : am_MU} {l1 : Int32} {r : am_MU × Int32} (h : f_X7_isLetter u l1 = some r) : am_Cn X M_X7_isLetter [.ref 110, .int l1] (hp u) (hp r.1, some (.int r.2)) := by
  refine am_Cn.of ok_X7_isLetter (Nat.le_refl _) (Nat.le_refl _) (Nat.le_of_ble_eq_true rfl) ?_
  refine ev_loc [0, 1] rfl ?_
  exact l_X7_isLetter_0 u l1 r h

-- SandRipplesModel.isFigure(I)Z
def f_X7_isFigure  (u : am_MU) (l1 : Int32) : Option (am_MU × Int32) :=
if (u 110 7) ≤ l1 then (some (u, (0 : Int32)))
else (if am_in l1 96 then (
if (u 116 l1.toNatClampNeg) < (48 : Int32) then (some (u, (0 : Int32)))
else (if (57 : Int32) < (u 116 l1.toNatClampNeg) then (some (u, (0 : Int32)))
else (some (u, (1 : Int32))))) else none)

theorem l_X7_isFigure_0 {X : Nat × (Nat → Int32)}   (u : am_MU) (l1 : Int32) (r : am_MU × Int32) (h : f_X7_isFigure  u l1 = some r) : am_Ev X M_X7_isFigure 0 [(0, .ref 110), (1, .int l1)] [] (hp u) (hp r.1, some (.int r.2)) := by
  unfold f_X7_isFigure at h
  refine ev_iload_n dX7_isFigure_0 1 rfl ?_
  refine ev_aload_n dX7_isFigure_1 0 rfl trivial ?_
  refine px_getI dX7_isFigure_2 gf_RX7_193 (at7 rfl) (by decide) rfl ?_
  refine ev_icmp_ge 34 dX7_isFigure_5 (by decide) (fun c1 => ?_) (fun c1 => ?_)
  · have h := am_t c1 h
    refine ev_iconst (v := (0 : Int32)) dX7_isFigure_34 kI_0 ?_
    obtain rfl := Option.some.inj h
    exact ev_iret dX7_isFigure_35 rfl (am_zn (Or.inl rfl))
  · have h := am_e c1 h
    refine ev_aload_n dX7_isFigure_8 0 rfl trivial ?_
    refine px_getR dX7_isFigure_9 gf_RX7_25 (at7 rfl) (by decide) rfl ?_
    refine ev_iload_n dX7_isFigure_12 1 rfl ?_
    obtain ⟨g2, h⟩ := am_gd h
    refine px_iald (n := 96) l1.toNatClampNeg dX7_isFigure_13 rfl g2 rfl ?_
    refine ev_bipush (v := (48 : Int32)) dX7_isFigure_14 kB_48 ?_
    refine ev_icmp_lt 34 dX7_isFigure_16 (by decide) (fun c3 => ?_) (fun c3 => ?_)
    · have h := am_t c3 h
      refine ev_iconst (v := (0 : Int32)) dX7_isFigure_34 kI_0 ?_
      obtain rfl := Option.some.inj h
      exact ev_iret dX7_isFigure_35 rfl (am_zn (Or.inl rfl))
    · have h := am_e c3 h
      refine ev_aload_n dX7_isFigure_19 0 rfl trivial ?_
      refine px_getR dX7_isFigure_20 gf_RX7_25 (at7 rfl) (by decide) rfl ?_
      refine ev_iload_n dX7_isFigure_23 1 rfl ?_
      refine px_iald (n := 96) l1.toNatClampNeg dX7_isFigure_24 rfl g2 rfl ?_
      refine ev_bipush (v := (57 : Int32)) dX7_isFigure_25 kB_57 ?_
      refine ev_icmp_gt 34 dX7_isFigure_27 (by decide) (fun c4 => ?_) (fun c4 => ?_)
      · have h := am_t c4 h
        refine ev_iconst (v := (0 : Int32)) dX7_isFigure_34 kI_0 ?_
        obtain rfl := Option.some.inj h
        exact ev_iret dX7_isFigure_35 rfl (am_zn (Or.inl rfl))
      · have h := am_e c4 h
        refine ev_iconst (v := (1 : Int32)) dX7_isFigure_30 kI_1 ?_
        refine ev_goto 35 dX7_isFigure_31 (by decide) ?_
        obtain rfl := Option.some.inj h
        exact ev_iret dX7_isFigure_35 rfl (am_zn (Or.inr rfl))

theorem c_X7_isFigure {X : Nat × (Nat → Int32)} {u : am_MU} {l1 : Int32} {r : am_MU × Int32} (h : f_X7_isFigure u l1 = some r) : am_Cn X M_X7_isFigure [.ref 110, .int l1] (hp u) (hp r.1, some (.int r.2)) := by
  refine am_Cn.of ok_X7_isFigure (Nat.le_refl _) (Nat.le_refl _) (Nat.le_of_ble_eq_true rfl) ?_
  refine ev_loc [0, 1] rfl ?_
  exact l_X7_isFigure_0 u l1 r h

-- SandRipplesModel.go()V
def g_X7_go_261  (u : am_MU) (s1 : Int32) : Option (am_MU) :=
am_let (am_u2 u 110 10 s1) fun u1 =>
am_let (am_u2 u1 110 12 (u1 110 8)) fun u2 =>
some u2

def g_X7_go_256  (u : am_MU)  : Option (am_MU) :=
g_X7_go_261 u (4 : Int32)

def g_X7_go_222 (K170 : am_MU → Int32 → Option (am_MU)) (u : am_MU) (l1 : Int32) (s1 : Int32) : Option (am_MU) :=
am_let (am_u2 u 110 11 s1) fun u1 =>
am_let (am_u2 u1 110 8 ((u1 110 8) + (1 : Int32))) fun u2 =>
K170 u2 l1

def g_X7_go_170  : Nat → am_MU → Int32 → Option (am_MU)
  | 0 => fun _ _ => none
  | n + 1 => fun u l1 =>
(f_X7_isFigure u (u 110 8)).bind fun q1 =>
if q1.2 = 0 then (if l1 = 0 then (if ((q1.1 110 8) - (q1.1 110 9)) ≤ (4 : Int32) then (g_X7_go_261 q1.1 (2 : Int32))
else (g_X7_go_256 q1.1 ))
else (g_X7_go_256 q1.1 ))
else (if (4 : Int32) ≤ ((q1.1 110 8) - (q1.1 110 9)) then (g_X7_go_222 (g_X7_go_170 n) q1.1 l1 (q1.1 110 11))
else (if am_in (q1.1 110 8) 96 then (
g_X7_go_222 (g_X7_go_170 n) q1.1 l1 ((((10 : Int32) * (q1.1 110 11)) + (q1.1 116 ((q1.1 110 8).toNatClampNeg))) - (48 : Int32))) else none))

def g_X7_go_127  (u : am_MU) (s1 : Int32) : Option (am_MU) :=
am_let (am_u2 u 110 10 s1) fun u1 =>
if am_in (u1 110 9) 96 then (
am_let (am_u2 u1 110 11 (u1 116 ((u1 110 9).toNatClampNeg))) fun u3 =>
am_let (am_u2 u3 110 12 (u3 110 8)) fun u4 =>
some u4) else none

def g_X7_go_93  : Nat → am_MU → Int32 → Option (am_MU)
  | 0 => fun _ _ => none
  | n + 1 => fun u l1 =>
(f_X7_isLetter u (u 110 8)).bind fun q1 =>
if q1.2 = 0 then (if l1 = 0 then (g_X7_go_127 q1.1 (1 : Int32))
else (g_X7_go_127 q1.1 (4 : Int32)))
else (am_let (am_u2 q1.1 110 8 ((q1.1 110 8) + (1 : Int32))) fun u4 =>
g_X7_go_93 n u4 l1)

def g_X7_go_62  (u : am_MU) (s0 : Int32) : Option (am_MU) :=
if (u 110 9) = (u 110 7) then (am_let (am_u2 u 110 10 (0 : Int32)) fun u11 =>
some u11)
else ((f_X7_isLetter u (u 110 9)).bind fun q2 =>
if q2.2 = 0 then ((f_X7_isFigure q2.1 (q2.1 110 9)).bind fun q4 =>
if q4.2 = 0 then (am_let (am_u2 q4.1 110 10 (3 : Int32)) fun u6 =>
if am_in (u6 110 9) 96 then (
am_let (am_u2 u6 110 11 (u6 116 ((u6 110 9).toNatClampNeg))) fun u8 =>
am_let (am_u2 u8 110 8 ((u8 110 8) + (1 : Int32))) fun u9 =>
some u9) else none)
else (am_let (am_u2 q4.1 110 11 (0 : Int32)) fun u10 =>
g_X7_go_170 1700 u10 s0))
else (g_X7_go_93 1700 q2.1 s0))

def g_X7_go_38  (u : am_MU)  : Option (am_MU) :=
am_let (am_u2 u 110 9 (u 110 8)) fun u1 =>
if (u1 110 9) = (u1 110 12) then (g_X7_go_62 u1 (1 : Int32))
else (g_X7_go_62 u1 (0 : Int32))

def g_X7_go_0  : Nat → am_MU → Option (am_MU)
  | 0 => fun _  => none
  | n + 1 => fun u  =>
if (u 110 7) ≤ (u 110 8) then (g_X7_go_38 u )
else (if am_in (u 110 8) 96 then (
if (u 116 ((u 110 8).toNatClampNeg)) = (32 : Int32) then (am_let (am_u2 u 110 8 ((u 110 8) + (1 : Int32))) fun u4 =>
g_X7_go_0 n u4 )
else (g_X7_go_38 u )) else none)

def f_X7_go (u : am_MU)  : Option (am_MU) := g_X7_go_0 1700 u 

theorem l_X7_go_261 {X : Nat × (Nat → Int32)}   (u : am_MU) (s1 : Int32) (r : am_MU) (h : g_X7_go_261  u s1 = some r) : am_Ev X M_X7_go 261 [(0, .ref 110)] [.int s1, .ref 110] (hp u) (hp r, none) := by
  unfold g_X7_go_261 at h
  obtain ⟨u1, eu1, h⟩ := am_lt h
  refine px_putI dX7_go_261 pf_RX7_206 (at7 rfl) (by decide) rfl eu1 ?_
  refine ev_aload_n dX7_go_264 0 rfl trivial ?_
  refine ev_aload_n dX7_go_265 0 rfl trivial ?_
  refine px_getI dX7_go_266 gf_RX7_197 (at7 rfl) (by decide) rfl ?_
  obtain ⟨u2, eu2, h⟩ := am_lt h
  refine px_putI dX7_go_269 pf_RX7_203 (at7 rfl) (by decide) rfl eu2 ?_
  refine ev_goto 303 dX7_go_272 (by decide) ?_
  obtain rfl := Option.some.inj h
  exact ev_vret dX7_go_303 rfl

theorem l_X7_go_256 {X : Nat × (Nat → Int32)}   (u : am_MU)  (r : am_MU) (h : g_X7_go_256  u  = some r) : am_Ev X M_X7_go 256 [(0, .ref 110)] [.ref 110] (hp u) (hp r, none) := by
  unfold g_X7_go_256 at h
  refine ev_iconst (v := (4 : Int32)) dX7_go_256 kI_4 ?_
  refine ev_goto 261 dX7_go_257 (by decide) ?_
  refine ev_loc [0] rfl ?_
  exact l_X7_go_261   u (4 : Int32) _ h

theorem l_X7_go_222 {X : Nat × (Nat → Int32)} (K170 : am_MU → Int32 → Option (am_MU)) (hK170 : ∀ (u : am_MU) (l1 : Int32) (r : am_MU), K170 u l1 = some r → am_Ev X M_X7_go 170 [(0, .ref 110), (1, .int l1)] [] (hp u) (hp r, none)) (u : am_MU) (l1 : Int32) (s1 : Int32) (r : am_MU) (h : g_X7_go_222 K170 u l1 s1 = some r) : am_Ev X M_X7_go 222 [(0, .ref 110), (1, .int l1)] [.int s1, .ref 110] (hp u) (hp r, none) := by
  unfold g_X7_go_222 at h
  obtain ⟨u1, eu1, h⟩ := am_lt h
  refine px_putI dX7_go_222 pf_RX7_212 (at7 rfl) (by decide) rfl eu1 ?_
  refine ev_aload_n dX7_go_225 0 rfl trivial ?_
  refine ev_dup dX7_go_226 rfl ?_
  refine px_getI dX7_go_227 gf_RX7_197 (at7 rfl) (by decide) rfl ?_
  refine ev_iconst (v := (1 : Int32)) dX7_go_230 kI_1 ?_
  refine ev_iadd dX7_go_231 ?_
  obtain ⟨u2, eu2, h⟩ := am_lt h
  refine px_putI dX7_go_232 pf_RX7_197 (at7 rfl) (by decide) rfl eu2 ?_
  refine ev_goto 170 dX7_go_235 (by decide) ?_
  refine ev_loc [0, 1] rfl ?_
  exact hK170 u2 l1 _ h

theorem l_X7_go_170 {X : Nat × (Nat → Int32)}   : ∀ (n : Nat) (u : am_MU) (l1 : Int32) (r : am_MU), g_X7_go_170  n u l1 = some r → am_Ev X M_X7_go 170 [(0, .ref 110), (1, .int l1)] [] (hp u) (hp r, none) := by
  intro n
  induction n with
  | zero => intro u l1 r h; cases h
  | succ n ih =>
    intro u l1 r h
    rw [g_X7_go_170] at h
    refine ev_aload_n dX7_go_170 0 rfl trivial ?_
    refine ev_aload_n dX7_go_171 0 rfl trivial ?_
    refine px_getI dX7_go_172 gf_RX7_197 (at7 rfl) (by decide) rfl ?_
    obtain ⟨q1, eq1, h⟩ := am_bd h
    refine px_callvi [.int (u 110 8)] (by decide) cl_7 (at7 rfl) dX7_go_175 ok_X7_isFigure lk_RX7_215 in_X7_isFigure se_X7_isFigure (by decide) rfl (c_X7_isFigure eq1) rfl (Nat.le_of_ble_eq_true rfl) ?_
    refine ev_if_eq 238 dX7_go_178 (by decide) (fun c2 => ?_) (fun c2 => ?_)
    · have h := am_t c2 h
      refine ev_aload_n dX7_go_238 0 rfl trivial ?_
      refine ev_iload_n dX7_go_239 1 rfl ?_
      refine ev_if_ne 256 dX7_go_240 (by decide) (fun c3 => ?_) (fun c3 => ?_)
      · have h := am_e c3 h
        refine ev_loc [0] rfl ?_
        exact l_X7_go_256   q1.1  _ h
      · have h := am_t c3 h
        refine ev_aload_n dX7_go_243 0 rfl trivial ?_
        refine px_getI dX7_go_244 gf_RX7_197 (at7 rfl) (by decide) rfl ?_
        refine ev_aload_n dX7_go_247 0 rfl trivial ?_
        refine px_getI dX7_go_248 gf_RX7_200 (at7 rfl) (by decide) rfl ?_
        refine ev_isub dX7_go_251 ?_
        refine ev_iconst (v := (4 : Int32)) dX7_go_252 kI_4 ?_
        refine ev_icmp_le 260 dX7_go_253 (by decide) (fun c4 => ?_) (fun c4 => ?_)
        · have h := am_t c4 h
          refine ev_iconst (v := (2 : Int32)) dX7_go_260 kI_2 ?_
          refine ev_loc [0] rfl ?_
          exact l_X7_go_261   q1.1 (2 : Int32) _ h
        · have h := am_e c4 h
          refine ev_loc [0] rfl ?_
          exact l_X7_go_256   q1.1  _ h
    · have h := am_e c2 h
      refine ev_aload_n dX7_go_181 0 rfl trivial ?_
      refine ev_aload_n dX7_go_182 0 rfl trivial ?_
      refine px_getI dX7_go_183 gf_RX7_197 (at7 rfl) (by decide) rfl ?_
      refine ev_aload_n dX7_go_186 0 rfl trivial ?_
      refine px_getI dX7_go_187 gf_RX7_200 (at7 rfl) (by decide) rfl ?_
      refine ev_isub dX7_go_190 ?_
      refine ev_iconst (v := (4 : Int32)) dX7_go_191 kI_4 ?_
      refine ev_icmp_ge 218 dX7_go_192 (by decide) (fun c5 => ?_) (fun c5 => ?_)
      · have h := am_t c5 h
        refine ev_aload_n dX7_go_218 0 rfl trivial ?_
        refine px_getI dX7_go_219 gf_RX7_212 (at7 rfl) (by decide) rfl ?_
        refine ev_loc [0, 1] rfl ?_
        exact l_X7_go_222 (g_X7_go_170 n) (fun u l1 r h => ih u l1 r h) q1.1 l1 (q1.1 110 11) _ h
      · have h := am_e c5 h
        refine ev_bipush (v := (10 : Int32)) dX7_go_195 kB_10 ?_
        refine ev_aload_n dX7_go_197 0 rfl trivial ?_
        refine px_getI dX7_go_198 gf_RX7_212 (at7 rfl) (by decide) rfl ?_
        refine ev_imul dX7_go_201 ?_
        refine ev_aload_n dX7_go_202 0 rfl trivial ?_
        refine px_getR dX7_go_203 gf_RX7_25 (at7 rfl) (by decide) rfl ?_
        refine ev_aload_n dX7_go_206 0 rfl trivial ?_
        refine px_getI dX7_go_207 gf_RX7_197 (at7 rfl) (by decide) rfl ?_
        obtain ⟨g6, h⟩ := am_gd h
        refine px_iald (n := 96) ((q1.1 110 8).toNatClampNeg) dX7_go_210 rfl g6 rfl ?_
        refine ev_iadd dX7_go_211 ?_
        refine ev_bipush (v := (48 : Int32)) dX7_go_212 kB_48 ?_
        refine ev_isub dX7_go_214 ?_
        refine ev_goto 222 dX7_go_215 (by decide) ?_
        refine ev_loc [0, 1] rfl ?_
        exact l_X7_go_222 (g_X7_go_170 n) (fun u l1 r h => ih u l1 r h) q1.1 l1 ((((10 : Int32) * (q1.1 110 11)) + (q1.1 116 ((q1.1 110 8).toNatClampNeg))) - (48 : Int32)) _ h

theorem l_X7_go_127 {X : Nat × (Nat → Int32)}   (u : am_MU) (s1 : Int32) (r : am_MU) (h : g_X7_go_127  u s1 = some r) : am_Ev X M_X7_go 127 [(0, .ref 110)] [.int s1, .ref 110] (hp u) (hp r, none) := by
  unfold g_X7_go_127 at h
  obtain ⟨u1, eu1, h⟩ := am_lt h
  refine px_putI dX7_go_127 pf_RX7_206 (at7 rfl) (by decide) rfl eu1 ?_
  refine ev_aload_n dX7_go_130 0 rfl trivial ?_
  refine ev_aload_n dX7_go_131 0 rfl trivial ?_
  refine px_getR dX7_go_132 gf_RX7_25 (at7 rfl) (by decide) rfl ?_
  refine ev_aload_n dX7_go_135 0 rfl trivial ?_
  refine px_getI dX7_go_136 gf_RX7_200 (at7 rfl) (by decide) rfl ?_
  obtain ⟨g2, h⟩ := am_gd h
  refine px_iald (n := 96) ((u1 110 9).toNatClampNeg) dX7_go_139 rfl g2 rfl ?_
  obtain ⟨u3, eu3, h⟩ := am_lt h
  refine px_putI dX7_go_140 pf_RX7_212 (at7 rfl) (by decide) rfl eu3 ?_
  refine ev_aload_n dX7_go_143 0 rfl trivial ?_
  refine ev_aload_n dX7_go_144 0 rfl trivial ?_
  refine px_getI dX7_go_145 gf_RX7_197 (at7 rfl) (by decide) rfl ?_
  obtain ⟨u4, eu4, h⟩ := am_lt h
  refine px_putI dX7_go_148 pf_RX7_203 (at7 rfl) (by decide) rfl eu4 ?_
  refine ev_goto 303 dX7_go_151 (by decide) ?_
  obtain rfl := Option.some.inj h
  exact ev_vret dX7_go_303 rfl

theorem l_X7_go_93 {X : Nat × (Nat → Int32)}   : ∀ (n : Nat) (u : am_MU) (l1 : Int32) (r : am_MU), g_X7_go_93  n u l1 = some r → am_Ev X M_X7_go 93 [(0, .ref 110), (1, .int l1)] [] (hp u) (hp r, none) := by
  intro n
  induction n with
  | zero => intro u l1 r h; cases h
  | succ n ih =>
    intro u l1 r h
    rw [g_X7_go_93] at h
    refine ev_aload_n dX7_go_93 0 rfl trivial ?_
    refine ev_aload_n dX7_go_94 0 rfl trivial ?_
    refine px_getI dX7_go_95 gf_RX7_197 (at7 rfl) (by decide) rfl ?_
    obtain ⟨q1, eq1, h⟩ := am_bd h
    refine px_callvi [.int (u 110 8)] (by decide) cl_7 (at7 rfl) dX7_go_98 ok_X7_isLetter lk_RX7_209 in_X7_isLetter se_X7_isLetter (by decide) rfl (c_X7_isLetter eq1) rfl (Nat.le_of_ble_eq_true rfl) ?_
    refine ev_if_eq 117 dX7_go_101 (by decide) (fun c2 => ?_) (fun c2 => ?_)
    · have h := am_t c2 h
      refine ev_aload_n dX7_go_117 0 rfl trivial ?_
      refine ev_iload_n dX7_go_118 1 rfl ?_
      refine ev_if_eq 126 dX7_go_119 (by decide) (fun c3 => ?_) (fun c3 => ?_)
      · have h := am_t c3 h
        refine ev_iconst (v := (1 : Int32)) dX7_go_126 kI_1 ?_
        refine ev_loc [0] rfl ?_
        exact l_X7_go_127   q1.1 (1 : Int32) _ h
      · have h := am_e c3 h
        refine ev_iconst (v := (4 : Int32)) dX7_go_122 kI_4 ?_
        refine ev_goto 127 dX7_go_123 (by decide) ?_
        refine ev_loc [0] rfl ?_
        exact l_X7_go_127   q1.1 (4 : Int32) _ h
    · have h := am_e c2 h
      refine ev_aload_n dX7_go_104 0 rfl trivial ?_
      refine ev_dup dX7_go_105 rfl ?_
      refine px_getI dX7_go_106 gf_RX7_197 (at7 rfl) (by decide) rfl ?_
      refine ev_iconst (v := (1 : Int32)) dX7_go_109 kI_1 ?_
      refine ev_iadd dX7_go_110 ?_
      obtain ⟨u4, eu4, h⟩ := am_lt h
      refine px_putI dX7_go_111 pf_RX7_197 (at7 rfl) (by decide) rfl eu4 ?_
      refine ev_goto 93 dX7_go_114 (by decide) ?_
      refine ev_loc [0, 1] rfl ?_
      exact ih u4 l1 _ h

theorem l_X7_go_62 {X : Nat × (Nat → Int32)}   (u : am_MU) (s0 : Int32) (r : am_MU) (h : g_X7_go_62  u s0 = some r) : am_Ev X M_X7_go 62 [(0, .ref 110)] [.int s0] (hp u) (hp r, none) := by
  unfold g_X7_go_62 at h
  refine ev_istore_n (L' := [(1, .int s0), (0, .ref 110)]) dX7_go_62 (by decide) rfl ?_
  refine ev_aload_n dX7_go_63 1 rfl trivial ?_
  refine px_getI dX7_go_64 gf_RX7_200 (at7 rfl) (by decide) rfl ?_
  refine ev_aload_n dX7_go_67 1 rfl trivial ?_
  refine px_getI dX7_go_68 gf_RX7_193 (at7 rfl) (by decide) rfl ?_
  refine ev_icmp_ne 82 dX7_go_71 (by decide) (fun c1 => ?_) (fun c1 => ?_)
  · have h := am_e c1 h
    refine ev_aload_n dX7_go_82 1 rfl trivial ?_
    refine ev_aload_n dX7_go_83 1 rfl trivial ?_
    refine px_getI dX7_go_84 gf_RX7_200 (at7 rfl) (by decide) rfl ?_
    obtain ⟨q2, eq2, h⟩ := am_bd h
    refine px_callvi [.int (u 110 9)] (by decide) cl_7 (at7 rfl) dX7_go_87 ok_X7_isLetter lk_RX7_209 in_X7_isLetter se_X7_isLetter (by decide) rfl (c_X7_isLetter eq2) rfl (Nat.le_of_ble_eq_true rfl) ?_
    refine ev_if_eq 154 dX7_go_90 (by decide) (fun c3 => ?_) (fun c3 => ?_)
    · have h := am_t c3 h
      refine ev_aload_n dX7_go_154 1 rfl trivial ?_
      refine ev_aload_n dX7_go_155 1 rfl trivial ?_
      refine px_getI dX7_go_156 gf_RX7_200 (at7 rfl) (by decide) rfl ?_
      obtain ⟨q4, eq4, h⟩ := am_bd h
      refine px_callvi [.int (q2.1 110 9)] (by decide) cl_7 (at7 rfl) dX7_go_159 ok_X7_isFigure lk_RX7_215 in_X7_isFigure se_X7_isFigure (by decide) rfl (c_X7_isFigure eq4) rfl (Nat.le_of_ble_eq_true rfl) ?_
      refine ev_if_eq 275 dX7_go_162 (by decide) (fun c5 => ?_) (fun c5 => ?_)
      · have h := am_t c5 h
        refine ev_aload_n dX7_go_275 1 rfl trivial ?_
        refine ev_iconst (v := (3 : Int32)) dX7_go_276 kI_3 ?_
        obtain ⟨u6, eu6, h⟩ := am_lt h
        refine px_putI dX7_go_277 pf_RX7_206 (at7 rfl) (by decide) rfl eu6 ?_
        refine ev_aload_n dX7_go_280 1 rfl trivial ?_
        refine ev_aload_n dX7_go_281 1 rfl trivial ?_
        refine px_getR dX7_go_282 gf_RX7_25 (at7 rfl) (by decide) rfl ?_
        refine ev_aload_n dX7_go_285 1 rfl trivial ?_
        refine px_getI dX7_go_286 gf_RX7_200 (at7 rfl) (by decide) rfl ?_
        obtain ⟨g7, h⟩ := am_gd h
        refine px_iald (n := 96) ((u6 110 9).toNatClampNeg) dX7_go_289 rfl g7 rfl ?_
        obtain ⟨u8, eu8, h⟩ := am_lt h
        refine px_putI dX7_go_290 pf_RX7_212 (at7 rfl) (by decide) rfl eu8 ?_
        refine ev_aload_n dX7_go_293 1 rfl trivial ?_
        refine ev_dup dX7_go_294 rfl ?_
        refine px_getI dX7_go_295 gf_RX7_197 (at7 rfl) (by decide) rfl ?_
        refine ev_iconst (v := (1 : Int32)) dX7_go_298 kI_1 ?_
        refine ev_iadd dX7_go_299 ?_
        obtain ⟨u9, eu9, h⟩ := am_lt h
        refine px_putI dX7_go_300 pf_RX7_197 (at7 rfl) (by decide) rfl eu9 ?_
        obtain rfl := Option.some.inj h
        exact ev_vret dX7_go_303 rfl
      · have h := am_e c5 h
        refine ev_aload_n dX7_go_165 1 rfl trivial ?_
        refine ev_iconst (v := (0 : Int32)) dX7_go_166 kI_0 ?_
        obtain ⟨u10, eu10, h⟩ := am_lt h
        refine px_putI dX7_go_167 pf_RX7_212 (at7 rfl) (by decide) rfl eu10 ?_
        refine ev_loc [1, 0] rfl ?_
        exact l_X7_go_170   1700 u10 s0 _ h
    · have h := am_e c3 h
      refine ev_loc [1, 0] rfl ?_
      exact l_X7_go_93   1700 q2.1 s0 _ h
  · have h := am_t c1 h
    refine ev_aload_n dX7_go_74 1 rfl trivial ?_
    refine ev_iconst (v := (0 : Int32)) dX7_go_75 kI_0 ?_
    obtain ⟨u11, eu11, h⟩ := am_lt h
    refine px_putI dX7_go_76 pf_RX7_206 (at7 rfl) (by decide) rfl eu11 ?_
    refine ev_goto 303 dX7_go_79 (by decide) ?_
    obtain rfl := Option.some.inj h
    exact ev_vret dX7_go_303 rfl

theorem l_X7_go_38 {X : Nat × (Nat → Int32)}   (u : am_MU)  (r : am_MU) (h : g_X7_go_38  u  = some r) : am_Ev X M_X7_go 38 [(0, .ref 110)] [] (hp u) (hp r, none) := by
  unfold g_X7_go_38 at h
  refine ev_aload_n dX7_go_38 0 rfl trivial ?_
  refine ev_aload_n dX7_go_39 0 rfl trivial ?_
  refine px_getI dX7_go_40 gf_RX7_197 (at7 rfl) (by decide) rfl ?_
  obtain ⟨u1, eu1, h⟩ := am_lt h
  refine px_putI dX7_go_43 pf_RX7_200 (at7 rfl) (by decide) rfl eu1 ?_
  refine ev_aload_n dX7_go_46 0 rfl trivial ?_
  refine px_getI dX7_go_47 gf_RX7_200 (at7 rfl) (by decide) rfl ?_
  refine ev_aload_n dX7_go_50 0 rfl trivial ?_
  refine px_getI dX7_go_51 gf_RX7_203 (at7 rfl) (by decide) rfl ?_
  refine ev_icmp_ne 61 dX7_go_54 (by decide) (fun c2 => ?_) (fun c2 => ?_)
  · have h := am_e c2 h
    refine ev_iconst (v := (0 : Int32)) dX7_go_61 kI_0 ?_
    refine ev_loc [0] rfl ?_
    exact l_X7_go_62   u1 (0 : Int32) _ h
  · have h := am_t c2 h
    refine ev_iconst (v := (1 : Int32)) dX7_go_57 kI_1 ?_
    refine ev_goto 62 dX7_go_58 (by decide) ?_
    refine ev_loc [0] rfl ?_
    exact l_X7_go_62   u1 (1 : Int32) _ h

theorem l_X7_go_0 {X : Nat × (Nat → Int32)}   : ∀ (n : Nat) (u : am_MU)  (r : am_MU), g_X7_go_0  n u  = some r → am_Ev X M_X7_go 0 [(0, .ref 110)] [] (hp u) (hp r, none) := by
  intro n
  induction n with
  | zero => intro u  r h; cases h
  | succ n ih =>
    intro u  r h
    rw [g_X7_go_0] at h
    refine ev_aload_n dX7_go_0 0 rfl trivial ?_
    refine px_getI dX7_go_1 gf_RX7_197 (at7 rfl) (by decide) rfl ?_
    refine ev_aload_n dX7_go_4 0 rfl trivial ?_
    refine px_getI dX7_go_5 gf_RX7_193 (at7 rfl) (by decide) rfl ?_
    refine ev_icmp_ge 38 dX7_go_8 (by decide) (fun c1 => ?_) (fun c1 => ?_)
    · have h := am_t c1 h
      refine ev_loc [0] rfl ?_
      exact l_X7_go_38   u  _ h
    · have h := am_e c1 h
      refine ev_aload_n dX7_go_11 0 rfl trivial ?_
      refine px_getR dX7_go_12 gf_RX7_25 (at7 rfl) (by decide) rfl ?_
      refine ev_aload_n dX7_go_15 0 rfl trivial ?_
      refine px_getI dX7_go_16 gf_RX7_197 (at7 rfl) (by decide) rfl ?_
      obtain ⟨g2, h⟩ := am_gd h
      refine px_iald (n := 96) ((u 110 8).toNatClampNeg) dX7_go_19 rfl g2 rfl ?_
      refine ev_bipush (v := (32 : Int32)) dX7_go_20 kB_32 ?_
      refine ev_icmp_ne 38 dX7_go_22 (by decide) (fun c3 => ?_) (fun c3 => ?_)
      · have h := am_e c3 h
        refine ev_loc [0] rfl ?_
        exact l_X7_go_38   u  _ h
      · have h := am_t c3 h
        refine ev_aload_n dX7_go_25 0 rfl trivial ?_
        refine ev_dup dX7_go_26 rfl ?_
        refine px_getI dX7_go_27 gf_RX7_197 (at7 rfl) (by decide) rfl ?_
        refine ev_iconst (v := (1 : Int32)) dX7_go_30 kI_1 ?_
        refine ev_iadd dX7_go_31 ?_
        obtain ⟨u4, eu4, h⟩ := am_lt h
        refine px_putI dX7_go_32 pf_RX7_197 (at7 rfl) (by decide) rfl eu4 ?_
        refine ev_goto 0 dX7_go_35 (by decide) ?_
        refine ev_loc [0] rfl ?_
        exact ih u4  _ h

theorem c_X7_go {X : Nat × (Nat → Int32)} {u : am_MU}  {r : am_MU} (h : f_X7_go u  = some r) : am_Cn X M_X7_go [.ref 110] (hp u) (hp r, none) := by
  refine am_Cn.of ok_X7_go (Nat.le_refl _) (Nat.le_refl _) (Nat.le_of_ble_eq_true rfl) ?_
  refine ev_loc [0] rfl ?_
  exact l_X7_go_0 1700 u  r h

-- SandRipplesModel.takesKey()Z
def g_X7_takesKey_106 (K12 : am_MU → Int32 → Option (am_MU × Int32)) (u : am_MU) (l1 : Int32) (l3 : Int32) : Option (am_MU × Int32) :=
if l3 = 0 then (am_let (l1 + (1 : Int32)) fun x2 =>
K12 u x2)
else (am_let (am_u2 u 110 13 l1) fun u3 =>
(f_X7_go u3 ).bind fun q4 =>
some (q4, (1 : Int32)))

def g_X7_takesKey_99 (K55 : am_MU → Int32 → Int32 → Int32 → Int32 → Option (am_MU × Int32)) (u : am_MU) (l1 : Int32) (l2 : Int32) (l4 : Int32) (s0 : Int32) : Option (am_MU × Int32) :=
am_let (l4 + (1 : Int32)) fun x1 =>
K55 u l1 l2 s0 x1

def g_X7_takesKey_55 (K12 : am_MU → Int32 → Option (am_MU × Int32)) : Nat → am_MU → Int32 → Int32 → Int32 → Int32 → Option (am_MU × Int32)
  | 0 => fun _ _ _ _ _ => none
  | n + 1 => fun u l1 l2 l3 l4 =>
if l2 ≤ l4 then (g_X7_takesKey_106 K12 u l1 l3)
else (if l3 = 0 then (g_X7_takesKey_106 K12 u l1 l3)
else (if am_in ((u 110 9) + l4) 96 then (
if am_in l1 4 then (
if am_in ((u 118 l1.toNatClampNeg) + l4) 13 then (
if (u 116 (((u 110 9) + l4).toNatClampNeg)) = (u 117 (((u 118 l1.toNatClampNeg) + l4).toNatClampNeg)) then (g_X7_takesKey_99 (g_X7_takesKey_55 K12 n) u l1 l2 l4 (1 : Int32))
else (g_X7_takesKey_99 (g_X7_takesKey_55 K12 n) u l1 l2 l4 (0 : Int32))) else none) else none) else none))

def g_X7_takesKey_51 (K12 : am_MU → Int32 → Option (am_MU × Int32)) (u : am_MU) (l1 : Int32) (l2 : Int32) (s0 : Int32) : Option (am_MU × Int32) :=
g_X7_takesKey_55 K12 1700 u l1 l2 s0 (0 : Int32)

def g_X7_takesKey_12  : Nat → am_MU → Int32 → Option (am_MU × Int32)
  | 0 => fun _ _ => none
  | n + 1 => fun u l1 =>
if (3 : Int32) ≤ l1 then (some (u, (0 : Int32)))
else (if am_in (l1 + (1 : Int32)) 4 then (
if am_in l1 4 then (
am_let ((u 118 ((l1 + (1 : Int32)).toNatClampNeg)) - (u 118 l1.toNatClampNeg)) fun x4 =>
if x4 = ((u 110 8) - (u 110 9)) then (g_X7_takesKey_51 (g_X7_takesKey_12 n) u l1 x4 (1 : Int32))
else (g_X7_takesKey_51 (g_X7_takesKey_12 n) u l1 x4 (0 : Int32))) else none) else none)

def f_X7_takesKey  (u : am_MU)  : Option (am_MU × Int32) :=
if (u 110 10) = (1 : Int32) then (g_X7_takesKey_12 1700 u (0 : Int32))
else (some (u, (0 : Int32)))

theorem l_X7_takesKey_106 {X : Nat × (Nat → Int32)} (K12 : am_MU → Int32 → Option (am_MU × Int32)) (hK12 : ∀ (u : am_MU) (l1 : Int32) (r : am_MU × Int32), K12 u l1 = some r → am_Ev X M_X7_takesKey 12 [(0, .ref 110), (1, .int l1)] [] (hp u) (hp r.1, some (.int r.2))) (u : am_MU) (l1 : Int32) (l3 : Int32) (r : am_MU × Int32) (h : g_X7_takesKey_106 K12 u l1 l3 = some r) : am_Ev X M_X7_takesKey 106 [(0, .ref 110), (1, .int l1), (3, .int l3)] [] (hp u) (hp r.1, some (.int r.2)) := by
  unfold g_X7_takesKey_106 at h
  refine ev_iload_n dX7_takesKey_106 2 rfl ?_
  refine ev_if_eq 121 dX7_takesKey_107 (by decide) (fun c1 => ?_) (fun c1 => ?_)
  · have h := am_t c1 h
    obtain ⟨x2, ex2, h⟩ := am_lt h
    refine ev_iinc (v := x2) (L' := [(1, .int x2), (0, .ref 110), (3, .int l3)]) dX7_takesKey_121 1 rfl (by rw [kI_1, ex2]) (by decide) rfl ?_
    refine ev_goto 12 dX7_takesKey_124 (by decide) ?_
    refine ev_loc [1, 0] rfl ?_
    exact hK12 u x2 _ h
  · have h := am_e c1 h
    refine ev_aload_n dX7_takesKey_110 0 rfl trivial ?_
    refine ev_iload_n dX7_takesKey_111 1 rfl ?_
    obtain ⟨u3, eu3, h⟩ := am_lt h
    refine px_putI dX7_takesKey_112 pf_RX7_218 (at7 rfl) (by decide) rfl eu3 ?_
    refine ev_aload_n dX7_takesKey_115 0 rfl trivial ?_
    obtain ⟨q4, eq4, h⟩ := am_bd h
    refine px_callvv [] (by decide) cl_7 (at7 rfl) dX7_takesKey_116 ok_X7_go lk_RX7_221 in_X7_go se_X7_go (by decide) rfl (c_X7_go eq4) rfl (Nat.le_of_ble_eq_true rfl) ?_
    refine ev_iconst (v := (1 : Int32)) dX7_takesKey_119 kI_1 ?_
    obtain rfl := Option.some.inj h
    exact ev_iret dX7_takesKey_120 rfl (am_zn (Or.inr rfl))

theorem l_X7_takesKey_99 {X : Nat × (Nat → Int32)} (K55 : am_MU → Int32 → Int32 → Int32 → Int32 → Option (am_MU × Int32)) (hK55 : ∀ (u : am_MU) (l1 : Int32) (l2 : Int32) (l3 : Int32) (l4 : Int32) (r : am_MU × Int32), K55 u l1 l2 l3 l4 = some r → am_Ev X M_X7_takesKey 55 [(0, .ref 110), (1, .int l1), (2, .int l2), (3, .int l3), (4, .int l4)] [] (hp u) (hp r.1, some (.int r.2))) (u : am_MU) (l1 : Int32) (l2 : Int32) (l4 : Int32) (s0 : Int32) (r : am_MU × Int32) (h : g_X7_takesKey_99 K55 u l1 l2 l4 s0 = some r) : am_Ev X M_X7_takesKey 99 [(0, .ref 110), (1, .int l1), (2, .int l2), (4, .int l4)] [.int s0] (hp u) (hp r.1, some (.int r.2)) := by
  unfold g_X7_takesKey_99 at h
  refine ev_istore_n (L' := [(3, .int s0), (0, .ref 110), (1, .int l1), (2, .int l2), (4, .int l4)]) dX7_takesKey_99 (by decide) rfl ?_
  obtain ⟨x1, ex1, h⟩ := am_lt h
  refine ev_iinc (v := x1) (L' := [(4, .int x1), (3, .int s0), (0, .ref 110), (1, .int l1), (2, .int l2)]) dX7_takesKey_100 4 rfl (by rw [kI_1, ex1]) (by decide) rfl ?_
  refine ev_goto 55 dX7_takesKey_103 (by decide) ?_
  refine ev_loc [2, 3, 4, 1, 0] rfl ?_
  exact hK55 u l1 l2 s0 x1 _ h

theorem l_X7_takesKey_55 {X : Nat × (Nat → Int32)} (K12 : am_MU → Int32 → Option (am_MU × Int32)) (hK12 : ∀ (u : am_MU) (l1 : Int32) (r : am_MU × Int32), K12 u l1 = some r → am_Ev X M_X7_takesKey 12 [(0, .ref 110), (1, .int l1)] [] (hp u) (hp r.1, some (.int r.2))) : ∀ (n : Nat) (u : am_MU) (l1 : Int32) (l2 : Int32) (l3 : Int32) (l4 : Int32) (r : am_MU × Int32), g_X7_takesKey_55 K12 n u l1 l2 l3 l4 = some r → am_Ev X M_X7_takesKey 55 [(0, .ref 110), (1, .int l1), (2, .int l2), (3, .int l3), (4, .int l4)] [] (hp u) (hp r.1, some (.int r.2)) := by
  intro n
  induction n with
  | zero => intro u l1 l2 l3 l4 r h; cases h
  | succ n ih =>
    intro u l1 l2 l3 l4 r h
    rw [g_X7_takesKey_55] at h
    refine ev_iload dX7_takesKey_55 4 rfl ?_
    refine ev_iload_n dX7_takesKey_57 2 rfl ?_
    refine ev_icmp_ge 106 dX7_takesKey_58 (by decide) (fun c1 => ?_) (fun c1 => ?_)
    · have h := am_t c1 h
      refine ev_loc [0, 1, 3] rfl ?_
      exact l_X7_takesKey_106 K12 hK12 u l1 l3 _ h
    · have h := am_e c1 h
      refine ev_iload_n dX7_takesKey_61 3 rfl ?_
      refine ev_if_eq 106 dX7_takesKey_62 (by decide) (fun c2 => ?_) (fun c2 => ?_)
      · have h := am_t c2 h
        refine ev_loc [0, 1, 3] rfl ?_
        exact l_X7_takesKey_106 K12 hK12 u l1 l3 _ h
      · have h := am_e c2 h
        refine ev_aload_n dX7_takesKey_65 0 rfl trivial ?_
        refine px_getR dX7_takesKey_66 gf_RX7_25 (at7 rfl) (by decide) rfl ?_
        refine ev_aload_n dX7_takesKey_69 0 rfl trivial ?_
        refine px_getI dX7_takesKey_70 gf_RX7_200 (at7 rfl) (by decide) rfl ?_
        refine ev_iload dX7_takesKey_73 4 rfl ?_
        refine ev_iadd dX7_takesKey_75 ?_
        obtain ⟨g3, h⟩ := am_gd h
        refine px_iald (n := 96) (((u 110 9) + l4).toNatClampNeg) dX7_takesKey_76 rfl g3 rfl ?_
        refine ev_aload_n dX7_takesKey_77 0 rfl trivial ?_
        refine px_getR dX7_takesKey_78 gf_RX7_28 (at7 rfl) (by decide) rfl ?_
        refine ev_aload_n dX7_takesKey_81 0 rfl trivial ?_
        refine px_getR dX7_takesKey_82 gf_RX7_32 (at7 rfl) (by decide) rfl ?_
        refine ev_iload_n dX7_takesKey_85 1 rfl ?_
        obtain ⟨g4, h⟩ := am_gd h
        refine px_iald (n := 4) l1.toNatClampNeg dX7_takesKey_86 rfl g4 rfl ?_
        refine ev_iload dX7_takesKey_87 4 rfl ?_
        refine ev_iadd dX7_takesKey_89 ?_
        obtain ⟨g5, h⟩ := am_gd h
        refine px_cald (n := 13) (((u 118 l1.toNatClampNeg) + l4).toNatClampNeg) dX7_takesKey_90 rfl rfl g5 rfl ?_
        refine ev_icmp_ne 98 dX7_takesKey_91 (by decide) (fun c6 => ?_) (fun c6 => ?_)
        · have h := am_e c6 h
          refine ev_iconst (v := (0 : Int32)) dX7_takesKey_98 kI_0 ?_
          refine ev_loc [0, 1, 2, 4] rfl ?_
          exact l_X7_takesKey_99 (g_X7_takesKey_55 K12 n) (fun u l1 l2 l3 l4 r h => ih u l1 l2 l3 l4 r h) u l1 l2 l4 (0 : Int32) _ h
        · have h := am_t c6 h
          refine ev_iconst (v := (1 : Int32)) dX7_takesKey_94 kI_1 ?_
          refine ev_goto 99 dX7_takesKey_95 (by decide) ?_
          refine ev_loc [0, 1, 2, 4] rfl ?_
          exact l_X7_takesKey_99 (g_X7_takesKey_55 K12 n) (fun u l1 l2 l3 l4 r h => ih u l1 l2 l3 l4 r h) u l1 l2 l4 (1 : Int32) _ h

theorem l_X7_takesKey_51 {X : Nat × (Nat → Int32)} (K12 : am_MU → Int32 → Option (am_MU × Int32)) (hK12 : ∀ (u : am_MU) (l1 : Int32) (r : am_MU × Int32), K12 u l1 = some r → am_Ev X M_X7_takesKey 12 [(0, .ref 110), (1, .int l1)] [] (hp u) (hp r.1, some (.int r.2))) (u : am_MU) (l1 : Int32) (l2 : Int32) (s0 : Int32) (r : am_MU × Int32) (h : g_X7_takesKey_51 K12 u l1 l2 s0 = some r) : am_Ev X M_X7_takesKey 51 [(0, .ref 110), (1, .int l1), (2, .int l2)] [.int s0] (hp u) (hp r.1, some (.int r.2)) := by
  unfold g_X7_takesKey_51 at h
  refine ev_istore_n (L' := [(3, .int s0), (0, .ref 110), (1, .int l1), (2, .int l2)]) dX7_takesKey_51 (by decide) rfl ?_
  refine ev_iconst (v := (0 : Int32)) dX7_takesKey_52 kI_0 ?_
  refine ev_istore (L' := [(4, .int (0 : Int32)), (3, .int s0), (0, .ref 110), (1, .int l1), (2, .int l2)]) dX7_takesKey_53 (by decide) rfl ?_
  refine ev_loc [2, 3, 4, 1, 0] rfl ?_
  exact l_X7_takesKey_55 K12 hK12 1700 u l1 l2 s0 (0 : Int32) _ h

theorem l_X7_takesKey_12 {X : Nat × (Nat → Int32)}   : ∀ (n : Nat) (u : am_MU) (l1 : Int32) (r : am_MU × Int32), g_X7_takesKey_12  n u l1 = some r → am_Ev X M_X7_takesKey 12 [(0, .ref 110), (1, .int l1)] [] (hp u) (hp r.1, some (.int r.2)) := by
  intro n
  induction n with
  | zero => intro u l1 r h; cases h
  | succ n ih =>
    intro u l1 r h
    rw [g_X7_takesKey_12] at h
    refine ev_iload_n dX7_takesKey_12 1 rfl ?_
    refine ev_iconst (v := (3 : Int32)) dX7_takesKey_13 kI_3 ?_
    refine ev_icmp_ge 127 dX7_takesKey_14 (by decide) (fun c1 => ?_) (fun c1 => ?_)
    · have h := am_t c1 h
      refine ev_iconst (v := (0 : Int32)) dX7_takesKey_127 kI_0 ?_
      obtain rfl := Option.some.inj h
      exact ev_iret dX7_takesKey_128 rfl (am_zn (Or.inl rfl))
    · have h := am_e c1 h
      refine ev_aload_n dX7_takesKey_17 0 rfl trivial ?_
      refine px_getR dX7_takesKey_18 gf_RX7_32 (at7 rfl) (by decide) rfl ?_
      refine ev_iload_n dX7_takesKey_21 1 rfl ?_
      refine ev_iconst (v := (1 : Int32)) dX7_takesKey_22 kI_1 ?_
      refine ev_iadd dX7_takesKey_23 ?_
      obtain ⟨g2, h⟩ := am_gd h
      refine px_iald (n := 4) ((l1 + (1 : Int32)).toNatClampNeg) dX7_takesKey_24 rfl g2 rfl ?_
      refine ev_aload_n dX7_takesKey_25 0 rfl trivial ?_
      refine px_getR dX7_takesKey_26 gf_RX7_32 (at7 rfl) (by decide) rfl ?_
      refine ev_iload_n dX7_takesKey_29 1 rfl ?_
      obtain ⟨g3, h⟩ := am_gd h
      refine px_iald (n := 4) l1.toNatClampNeg dX7_takesKey_30 rfl g3 rfl ?_
      refine ev_isub dX7_takesKey_31 ?_
      obtain ⟨x4, ex4, h⟩ := am_lt h
      refine px_top ex4 ?_
      refine ev_istore_n (L' := [(2, .int x4), (0, .ref 110), (1, .int l1)]) dX7_takesKey_32 (by decide) rfl ?_
      refine ev_iload_n dX7_takesKey_33 0 rfl ?_
      refine ev_aload_n dX7_takesKey_34 1 rfl trivial ?_
      refine px_getI dX7_takesKey_35 gf_RX7_197 (at7 rfl) (by decide) rfl ?_
      refine ev_aload_n dX7_takesKey_38 1 rfl trivial ?_
      refine px_getI dX7_takesKey_39 gf_RX7_200 (at7 rfl) (by decide) rfl ?_
      refine ev_isub dX7_takesKey_42 ?_
      refine ev_icmp_ne 50 dX7_takesKey_43 (by decide) (fun c5 => ?_) (fun c5 => ?_)
      · have h := am_e c5 h
        refine ev_iconst (v := (0 : Int32)) dX7_takesKey_50 kI_0 ?_
        refine ev_loc [1, 2, 0] rfl ?_
        exact l_X7_takesKey_51 (g_X7_takesKey_12 n) (fun u l1 r h => ih u l1 r h) u l1 x4 (0 : Int32) _ h
      · have h := am_t c5 h
        refine ev_iconst (v := (1 : Int32)) dX7_takesKey_46 kI_1 ?_
        refine ev_goto 51 dX7_takesKey_47 (by decide) ?_
        refine ev_loc [1, 2, 0] rfl ?_
        exact l_X7_takesKey_51 (g_X7_takesKey_12 n) (fun u l1 r h => ih u l1 r h) u l1 x4 (1 : Int32) _ h

theorem l_X7_takesKey_0 {X : Nat × (Nat → Int32)}   (u : am_MU)  (r : am_MU × Int32) (h : f_X7_takesKey  u  = some r) : am_Ev X M_X7_takesKey 0 [(0, .ref 110)] [] (hp u) (hp r.1, some (.int r.2)) := by
  unfold f_X7_takesKey at h
  refine ev_aload_n dX7_takesKey_0 0 rfl trivial ?_
  refine px_getI dX7_takesKey_1 gf_RX7_206 (at7 rfl) (by decide) rfl ?_
  refine ev_iconst (v := (1 : Int32)) dX7_takesKey_4 kI_1 ?_
  refine ev_icmp_eq 10 dX7_takesKey_5 (by decide) (fun c1 => ?_) (fun c1 => ?_)
  · have h := am_t c1 h
    refine ev_iconst (v := (0 : Int32)) dX7_takesKey_10 kI_0 ?_
    refine ev_istore_n (L' := [(1, .int (0 : Int32)), (0, .ref 110)]) dX7_takesKey_11 (by decide) rfl ?_
    refine ev_loc [1, 0] rfl ?_
    exact l_X7_takesKey_12   1700 u (0 : Int32) _ h
  · have h := am_e c1 h
    refine ev_iconst (v := (0 : Int32)) dX7_takesKey_8 kI_0 ?_
    obtain rfl := Option.some.inj h
    exact ev_iret dX7_takesKey_9 rfl (am_zn (Or.inl rfl))

theorem c_X7_takesKey {X : Nat × (Nat → Int32)} {u : am_MU}  {r : am_MU × Int32} (h : f_X7_takesKey u  = some r) : am_Cn X M_X7_takesKey [.ref 110] (hp u) (hp r.1, some (.int r.2)) := by
  refine am_Cn.of ok_X7_takesKey (Nat.le_refl _) (Nat.le_refl _) (Nat.le_of_ble_eq_true rfl) ?_
  refine ev_loc [0] rfl ?_
  exact l_X7_takesKey_0 u  r h

-- SandRipplesModel.nameOf(I)I
def f_X7_nameOf  (u : am_MU) (l1 : Int32) : Option (am_MU × Int32) :=
if (u 110 13) = (0 : Int32) then (if l1 = (104 : Int32) then (some (u, (0 : Int32)))
else (if l1 = (115 : Int32) then (some (u, (1 : Int32)))
else (if l1 = (112 : Int32) then (some (u, (2 : Int32)))
else (some (u, ((-1) : Int32))))))
else if (u 110 13) = (1 : Int32) then (if l1 = (100 : Int32) then (some (u, (0 : Int32)))
else (if l1 = (103 : Int32) then (some (u, (1 : Int32)))
else (some (u, ((-1) : Int32)))))
else (if l1 = (99 : Int32) then (some (u, (0 : Int32)))
else (if l1 = (104 : Int32) then (some (u, (1 : Int32)))
else (some (u, ((-1) : Int32)))))

theorem l_X7_nameOf_0 {X : Nat × (Nat → Int32)}   (u : am_MU) (l1 : Int32) (r : am_MU × Int32) (h : f_X7_nameOf  u l1 = some r) : am_Ev X M_X7_nameOf 0 [(0, .ref 110), (1, .int l1)] [] (hp u) (hp r.1, some (.int r.2)) := by
  unfold f_X7_nameOf at h
  refine ev_aload_n dX7_nameOf_0 0 rfl trivial ?_
  refine px_getI dX7_nameOf_1 gf_RX7_218 (at7 rfl) (by decide) rfl ?_
  refine am_cs h (fun c1 h => ?_) (fun c1 h => ?_)
  · refine ev_lookup 32 (28) dX7_nameOf_4 (by decide) (by rw [c1]; decide) (by decide) ?_
    refine ev_iload_n dX7_nameOf_32 1 rfl ?_
    refine ev_bipush (v := (104 : Int32)) dX7_nameOf_33 kB_104 ?_
    refine ev_icmp_ne 42 dX7_nameOf_35 (by decide) (fun c2 => ?_) (fun c2 => ?_)
    · have h := am_e c2 h
      refine ev_iload_n dX7_nameOf_42 1 rfl ?_
      refine ev_bipush (v := (115 : Int32)) dX7_nameOf_43 kB_115 ?_
      refine ev_icmp_ne 52 dX7_nameOf_45 (by decide) (fun c3 => ?_) (fun c3 => ?_)
      · have h := am_e c3 h
        refine ev_iload_n dX7_nameOf_52 1 rfl ?_
        refine ev_bipush (v := (112 : Int32)) dX7_nameOf_53 kB_112 ?_
        refine ev_icmp_ne 62 dX7_nameOf_55 (by decide) (fun c4 => ?_) (fun c4 => ?_)
        · have h := am_e c4 h
          refine ev_iconst (v := ((-1) : Int32)) dX7_nameOf_62 kI_m1 ?_
          obtain rfl := Option.some.inj h
          exact ev_iret dX7_nameOf_63 rfl rfl
        · have h := am_t c4 h
          refine ev_iconst (v := (2 : Int32)) dX7_nameOf_58 kI_2 ?_
          refine ev_goto 63 dX7_nameOf_59 (by decide) ?_
          obtain rfl := Option.some.inj h
          exact ev_iret dX7_nameOf_63 rfl rfl
      · have h := am_t c3 h
        refine ev_iconst (v := (1 : Int32)) dX7_nameOf_48 kI_1 ?_
        refine ev_goto 63 dX7_nameOf_49 (by decide) ?_
        obtain rfl := Option.some.inj h
        exact ev_iret dX7_nameOf_63 rfl rfl
    · have h := am_t c2 h
      refine ev_iconst (v := (0 : Int32)) dX7_nameOf_38 kI_0 ?_
      refine ev_goto 63 dX7_nameOf_39 (by decide) ?_
      obtain rfl := Option.some.inj h
      exact ev_iret dX7_nameOf_63 rfl rfl
  refine am_cs h (fun c5 h => ?_) (fun c5 h => ?_)
  · refine ev_lookup 64 (60) dX7_nameOf_4 (by decide) (by rw [c5]; decide) (by decide) ?_
    refine ev_iload_n dX7_nameOf_64 1 rfl ?_
    refine ev_bipush (v := (100 : Int32)) dX7_nameOf_65 kB_100 ?_
    refine ev_icmp_ne 74 dX7_nameOf_67 (by decide) (fun c6 => ?_) (fun c6 => ?_)
    · have h := am_e c6 h
      refine ev_iload_n dX7_nameOf_74 1 rfl ?_
      refine ev_bipush (v := (103 : Int32)) dX7_nameOf_75 kB_103 ?_
      refine ev_icmp_ne 84 dX7_nameOf_77 (by decide) (fun c7 => ?_) (fun c7 => ?_)
      · have h := am_e c7 h
        refine ev_iconst (v := ((-1) : Int32)) dX7_nameOf_84 kI_m1 ?_
        obtain rfl := Option.some.inj h
        exact ev_iret dX7_nameOf_85 rfl rfl
      · have h := am_t c7 h
        refine ev_iconst (v := (1 : Int32)) dX7_nameOf_80 kI_1 ?_
        refine ev_goto 85 dX7_nameOf_81 (by decide) ?_
        obtain rfl := Option.some.inj h
        exact ev_iret dX7_nameOf_85 rfl rfl
    · have h := am_t c6 h
      refine ev_iconst (v := (0 : Int32)) dX7_nameOf_70 kI_0 ?_
      refine ev_goto 85 dX7_nameOf_71 (by decide) ?_
      obtain rfl := Option.some.inj h
      exact ev_iret dX7_nameOf_85 rfl rfl
  refine ev_lookup 86 (82) dX7_nameOf_4 (by decide) ((lv_osw c1 (by decide)).trans ((lv_osw c5 (by decide)).trans rfl)) (by decide) ?_
  refine ev_iload_n dX7_nameOf_86 1 rfl ?_
  refine ev_bipush (v := (99 : Int32)) dX7_nameOf_87 kB_99 ?_
  refine ev_icmp_ne 96 dX7_nameOf_89 (by decide) (fun c8 => ?_) (fun c8 => ?_)
  · have h := am_e c8 h
    refine ev_iload_n dX7_nameOf_96 1 rfl ?_
    refine ev_bipush (v := (104 : Int32)) dX7_nameOf_97 kB_104 ?_
    refine ev_icmp_ne 106 dX7_nameOf_99 (by decide) (fun c9 => ?_) (fun c9 => ?_)
    · have h := am_e c9 h
      refine ev_iconst (v := ((-1) : Int32)) dX7_nameOf_106 kI_m1 ?_
      obtain rfl := Option.some.inj h
      exact ev_iret dX7_nameOf_107 rfl rfl
    · have h := am_t c9 h
      refine ev_iconst (v := (1 : Int32)) dX7_nameOf_102 kI_1 ?_
      refine ev_goto 107 dX7_nameOf_103 (by decide) ?_
      obtain rfl := Option.some.inj h
      exact ev_iret dX7_nameOf_107 rfl rfl
  · have h := am_t c8 h
    refine ev_iconst (v := (0 : Int32)) dX7_nameOf_92 kI_0 ?_
    refine ev_goto 107 dX7_nameOf_93 (by decide) ?_
    obtain rfl := Option.some.inj h
    exact ev_iret dX7_nameOf_107 rfl rfl

theorem c_X7_nameOf {X : Nat × (Nat → Int32)} {u : am_MU} {l1 : Int32} {r : am_MU × Int32} (h : f_X7_nameOf u l1 = some r) : am_Cn X M_X7_nameOf [.ref 110, .int l1] (hp u) (hp r.1, some (.int r.2)) := by
  refine am_Cn.of ok_X7_nameOf (Nat.le_refl _) (Nat.le_refl _) (Nat.le_of_ble_eq_true rfl) ?_
  refine ev_loc [0, 1] rfl ?_
  exact l_X7_nameOf_0 u l1 r h

-- SandRipplesModel.rank(I)I
def f_X7_rank  (u : am_MU) (l0 : Int32) : Option (am_MU × Int32) :=
if l0 = ((-1) : Int32) then (some (u, (1 : Int32)))
else (if l0 = ((-2) : Int32) then (some (u, (2 : Int32)))
else (if l0 < ((-5) : Int32) then (if l0 < ((-7) : Int32) then (if l0 < ((-9) : Int32) then (some (u, (6 : Int32)))
else (some (u, (5 : Int32))))
else (some (u, (4 : Int32))))
else (some (u, (3 : Int32)))))

theorem l_X7_rank_0 {X : Nat × (Nat → Int32)}   (u : am_MU) (l0 : Int32) (r : am_MU × Int32) (h : f_X7_rank  u l0 = some r) : am_Ev X M_X7_rank 0 [(0, .int l0)] [] (hp u) (hp r.1, some (.int r.2)) := by
  unfold f_X7_rank at h
  refine ev_iload_n dX7_rank_0 0 rfl ?_
  refine ev_iconst (v := ((-1) : Int32)) dX7_rank_1 kI_m1 ?_
  refine ev_icmp_ne 9 dX7_rank_2 (by decide) (fun c1 => ?_) (fun c1 => ?_)
  · have h := am_e c1 h
    refine ev_iload_n dX7_rank_9 0 rfl ?_
    refine ev_bipush (v := ((-2) : Int32)) dX7_rank_10 kB_m2 ?_
    refine ev_icmp_ne 19 dX7_rank_12 (by decide) (fun c2 => ?_) (fun c2 => ?_)
    · have h := am_e c2 h
      refine ev_iload_n dX7_rank_19 0 rfl ?_
      refine ev_bipush (v := ((-5) : Int32)) dX7_rank_20 kB_m5 ?_
      refine ev_icmp_lt 29 dX7_rank_22 (by decide) (fun c3 => ?_) (fun c3 => ?_)
      · have h := am_t c3 h
        refine ev_iload_n dX7_rank_29 0 rfl ?_
        refine ev_bipush (v := ((-7) : Int32)) dX7_rank_30 kB_m7 ?_
        refine ev_icmp_lt 39 dX7_rank_32 (by decide) (fun c4 => ?_) (fun c4 => ?_)
        · have h := am_t c4 h
          refine ev_iload_n dX7_rank_39 0 rfl ?_
          refine ev_bipush (v := ((-9) : Int32)) dX7_rank_40 kB_m9 ?_
          refine ev_icmp_lt 49 dX7_rank_42 (by decide) (fun c5 => ?_) (fun c5 => ?_)
          · have h := am_t c5 h
            refine ev_bipush (v := (6 : Int32)) dX7_rank_49 kB_6 ?_
            obtain rfl := Option.some.inj h
            exact ev_iret dX7_rank_51 rfl rfl
          · have h := am_e c5 h
            refine ev_iconst (v := (5 : Int32)) dX7_rank_45 kI_5 ?_
            refine ev_goto 51 dX7_rank_46 (by decide) ?_
            obtain rfl := Option.some.inj h
            exact ev_iret dX7_rank_51 rfl rfl
        · have h := am_e c4 h
          refine ev_iconst (v := (4 : Int32)) dX7_rank_35 kI_4 ?_
          refine ev_goto 51 dX7_rank_36 (by decide) ?_
          obtain rfl := Option.some.inj h
          exact ev_iret dX7_rank_51 rfl rfl
      · have h := am_e c3 h
        refine ev_iconst (v := (3 : Int32)) dX7_rank_25 kI_3 ?_
        refine ev_goto 51 dX7_rank_26 (by decide) ?_
        obtain rfl := Option.some.inj h
        exact ev_iret dX7_rank_51 rfl rfl
    · have h := am_t c2 h
      refine ev_iconst (v := (2 : Int32)) dX7_rank_15 kI_2 ?_
      refine ev_goto 51 dX7_rank_16 (by decide) ?_
      obtain rfl := Option.some.inj h
      exact ev_iret dX7_rank_51 rfl rfl
  · have h := am_t c1 h
    refine ev_iconst (v := (1 : Int32)) dX7_rank_5 kI_1 ?_
    refine ev_goto 51 dX7_rank_6 (by decide) ?_
    obtain rfl := Option.some.inj h
    exact ev_iret dX7_rank_51 rfl rfl

theorem c_X7_rank {X : Nat × (Nat → Int32)} {u : am_MU} {l0 : Int32} {r : am_MU × Int32} (h : f_X7_rank u l0 = some r) : am_Cn X M_X7_rank [.int l0] (hp u) (hp r.1, some (.int r.2)) := by
  refine am_Cn.of ok_X7_rank (Nat.le_refl _) (Nat.le_refl _) (Nat.le_of_ble_eq_true rfl) ?_
  refine ev_loc [0] rfl ?_
  exact l_X7_rank_0 u l0 r h

-- SandRipplesModel.settle(I)V
def g_X7_settle_0  : Nat → am_MU → Int32 → Option (am_MU)
  | 0 => fun _ _ => none
  | n + 1 => fun u l1 =>
if (u 110 20) ≤ 0 then (some u)
else (if am_in ((u 110 20) - (1 : Int32)) 96 then (
if (u 120 (((u 110 20) - (1 : Int32)).toNatClampNeg)) = ((-11) : Int32) then (some u)
else ((f_X7_rank u (u 120 (((u 110 20) - (1 : Int32)).toNatClampNeg))).bind fun q4 =>
if q4.2 < l1 then (some q4.1)
else (am_let (am_u2 q4.1 110 20 ((q4.1 110 20) - (1 : Int32))) fun u6 =>
if am_in (u6 110 20) 96 then (
if am_in (u6 110 17) 96 then (
am_let (am_u2 u6 119 ((u6 110 17).toNatClampNeg) (u6 120 ((u6 110 20).toNatClampNeg))) fun u9 =>
am_let (am_u2 u9 110 17 ((u9 110 17) + (1 : Int32))) fun u10 =>
g_X7_settle_0 n u10 l1) else none) else none))) else none)

def f_X7_settle (u : am_MU) (l1 : Int32) : Option (am_MU) := g_X7_settle_0 1700 u l1

theorem l_X7_settle_0 {X : Nat × (Nat → Int32)}   : ∀ (n : Nat) (u : am_MU) (l1 : Int32) (r : am_MU), g_X7_settle_0  n u l1 = some r → am_Ev X M_X7_settle 0 [(0, .ref 110), (1, .int l1)] [] (hp u) (hp r, none) := by
  intro n
  induction n with
  | zero => intro u l1 r h; cases h
  | succ n ih =>
    intro u l1 r h
    rw [g_X7_settle_0] at h
    refine ev_aload_n dX7_settle_0 0 rfl trivial ?_
    refine px_getI dX7_settle_1 gf_RX7_224 (at7 rfl) (by decide) rfl ?_
    refine ev_if_le 82 dX7_settle_4 (by decide) (fun c1 => ?_) (fun c1 => ?_)
    · have h := am_t c1 h
      obtain rfl := Option.some.inj h
      exact ev_vret dX7_settle_82 rfl
    · have h := am_e c1 h
      refine ev_aload_n dX7_settle_7 0 rfl trivial ?_
      refine px_getR dX7_settle_8 gf_RX7_38 (at7 rfl) (by decide) rfl ?_
      refine ev_aload_n dX7_settle_11 0 rfl trivial ?_
      refine px_getI dX7_settle_12 gf_RX7_224 (at7 rfl) (by decide) rfl ?_
      refine ev_iconst (v := (1 : Int32)) dX7_settle_15 kI_1 ?_
      refine ev_isub dX7_settle_16 ?_
      obtain ⟨g2, h⟩ := am_gd h
      refine px_iald (n := 96) (((u 110 20) - (1 : Int32)).toNatClampNeg) dX7_settle_17 rfl g2 rfl ?_
      refine ev_bipush (v := ((-11) : Int32)) dX7_settle_18 kB_m11 ?_
      refine ev_icmp_eq 82 dX7_settle_20 (by decide) (fun c3 => ?_) (fun c3 => ?_)
      · have h := am_t c3 h
        obtain rfl := Option.some.inj h
        exact ev_vret dX7_settle_82 rfl
      · have h := am_e c3 h
        refine ev_aload_n dX7_settle_23 0 rfl trivial ?_
        refine px_getR dX7_settle_24 gf_RX7_38 (at7 rfl) (by decide) rfl ?_
        refine ev_aload_n dX7_settle_27 0 rfl trivial ?_
        refine px_getI dX7_settle_28 gf_RX7_224 (at7 rfl) (by decide) rfl ?_
        refine ev_iconst (v := (1 : Int32)) dX7_settle_31 kI_1 ?_
        refine ev_isub dX7_settle_32 ?_
        refine px_iald (n := 96) (((u 110 20) - (1 : Int32)).toNatClampNeg) dX7_settle_33 rfl g2 rfl ?_
        obtain ⟨q4, eq4, h⟩ := am_bd h
        refine px_callsi [.int (u 120 (((u 110 20) - (1 : Int32)).toNatClampNeg))] dX7_settle_34 ok_X7_rank lk_RX7_227 st_X7_rank (by decide) rfl (c_X7_rank eq4) rfl (Nat.le_of_ble_eq_true rfl) ?_
        refine ev_iload_n dX7_settle_37 1 rfl ?_
        refine ev_icmp_lt 82 dX7_settle_38 (by decide) (fun c5 => ?_) (fun c5 => ?_)
        · have h := am_t c5 h
          obtain rfl := Option.some.inj h
          exact ev_vret dX7_settle_82 rfl
        · have h := am_e c5 h
          refine ev_aload_n dX7_settle_41 0 rfl trivial ?_
          refine ev_dup dX7_settle_42 rfl ?_
          refine px_getI dX7_settle_43 gf_RX7_224 (at7 rfl) (by decide) rfl ?_
          refine ev_iconst (v := (1 : Int32)) dX7_settle_46 kI_1 ?_
          refine ev_isub dX7_settle_47 ?_
          obtain ⟨u6, eu6, h⟩ := am_lt h
          refine px_putI dX7_settle_48 pf_RX7_224 (at7 rfl) (by decide) rfl eu6 ?_
          refine ev_aload_n dX7_settle_51 0 rfl trivial ?_
          refine px_getR dX7_settle_52 gf_RX7_35 (at7 rfl) (by decide) rfl ?_
          refine ev_aload_n dX7_settle_55 0 rfl trivial ?_
          refine px_getI dX7_settle_56 gf_RX7_230 (at7 rfl) (by decide) rfl ?_
          refine ev_aload_n dX7_settle_59 0 rfl trivial ?_
          refine px_getR dX7_settle_60 gf_RX7_38 (at7 rfl) (by decide) rfl ?_
          refine ev_aload_n dX7_settle_63 0 rfl trivial ?_
          refine px_getI dX7_settle_64 gf_RX7_224 (at7 rfl) (by decide) rfl ?_
          obtain ⟨g7, h⟩ := am_gd h
          refine px_iald (n := 96) ((u6 110 20).toNatClampNeg) dX7_settle_67 rfl g7 rfl ?_
          obtain ⟨g8, h⟩ := am_gd h
          obtain ⟨u9, eu9, h⟩ := am_lt h
          refine px_iast (n := 96) ((u6 110 17).toNatClampNeg) dX7_settle_68 rfl g8 rfl eu9 ?_
          refine ev_aload_n dX7_settle_69 0 rfl trivial ?_
          refine ev_dup dX7_settle_70 rfl ?_
          refine px_getI dX7_settle_71 gf_RX7_230 (at7 rfl) (by decide) rfl ?_
          refine ev_iconst (v := (1 : Int32)) dX7_settle_74 kI_1 ?_
          refine ev_iadd dX7_settle_75 ?_
          obtain ⟨u10, eu10, h⟩ := am_lt h
          refine px_putI dX7_settle_76 pf_RX7_230 (at7 rfl) (by decide) rfl eu10 ?_
          refine ev_goto 0 dX7_settle_79 (by decide) ?_
          refine ev_loc [0, 1] rfl ?_
          exact ih u10 l1 _ h

theorem c_X7_settle {X : Nat × (Nat → Int32)} {u : am_MU} {l1 : Int32} {r : am_MU} (h : f_X7_settle u l1 = some r) : am_Cn X M_X7_settle [.ref 110, .int l1] (hp u) (hp r, none) := by
  refine am_Cn.of ok_X7_settle (Nat.le_refl _) (Nat.le_refl _) (Nat.le_of_ble_eq_true rfl) ?_
  refine ev_loc [0, 1] rfl ?_
  exact l_X7_settle_0 1700 u l1 r h

-- SandRipplesModel.takesPart()Z
def g_X7_takesPart_87  (u : am_MU) (s1 : Int32) (s2 : Int32) : Option (am_MU × Int32) :=
if am_in s1 96 then (
am_let (am_u2 u 119 s1.toNatClampNeg s2) fun u2 =>
am_let (am_u2 u2 110 17 ((u2 110 17) + (1 : Int32))) fun u3 =>
am_let (am_u2 u3 110 18 ((u3 110 18) + (1 : Int32))) fun u4 =>
(f_X7_settle u4 (6 : Int32)).bind fun q5 =>
(f_X7_go q5 ).bind fun q6 =>
some (q6, (1 : Int32))) else none

def g_X7_takesPart_52  (u : am_MU)  : Option (am_MU × Int32) :=
if (u 110 10) = (2 : Int32) then (g_X7_takesPart_87 u (u 110 17) (u 110 11))
else ((f_X7_nameOf u (u 110 11)).bind fun q2 =>
g_X7_takesPart_87 q2.1 (u 110 17) ((10000 : Int32) + q2.2))

def g_X7_takesPart_37  (u : am_MU) (s0 : Int32) : Option (am_MU × Int32) :=
if (u 110 10) = (2 : Int32) then (g_X7_takesPart_52 u )
else (if s0 = 0 then (some (u, (0 : Int32)))
else (g_X7_takesPart_52 u ))

def g_X7_takesPart_36  (u : am_MU)  : Option (am_MU × Int32) :=
g_X7_takesPart_37 u (0 : Int32)

def f_X7_takesPart  (u : am_MU)  : Option (am_MU × Int32) :=
if (u 110 10) = (1 : Int32) then (if ((u 110 8) - (u 110 9)) = (1 : Int32) then ((f_X7_nameOf u (u 110 11)).bind fun q3 =>
if q3.2 < 0 then (g_X7_takesPart_36 q3.1 )
else (g_X7_takesPart_37 q3.1 (1 : Int32)))
else (g_X7_takesPart_36 u ))
else (g_X7_takesPart_36 u )

theorem l_X7_takesPart_87 {X : Nat × (Nat → Int32)}   (u : am_MU) (s1 : Int32) (s2 : Int32) (r : am_MU × Int32) (h : g_X7_takesPart_87  u s1 s2 = some r) : am_Ev X M_X7_takesPart 87 [(0, .ref 110)] [.int s2, .int s1, .ref 119] (hp u) (hp r.1, some (.int r.2)) := by
  unfold g_X7_takesPart_87 at h
  obtain ⟨g1, h⟩ := am_gd h
  obtain ⟨u2, eu2, h⟩ := am_lt h
  refine px_iast (n := 96) s1.toNatClampNeg dX7_takesPart_87 rfl g1 rfl eu2 ?_
  refine ev_aload_n dX7_takesPart_88 0 rfl trivial ?_
  refine ev_dup dX7_takesPart_89 rfl ?_
  refine px_getI dX7_takesPart_90 gf_RX7_230 (at7 rfl) (by decide) rfl ?_
  refine ev_iconst (v := (1 : Int32)) dX7_takesPart_93 kI_1 ?_
  refine ev_iadd dX7_takesPart_94 ?_
  obtain ⟨u3, eu3, h⟩ := am_lt h
  refine px_putI dX7_takesPart_95 pf_RX7_230 (at7 rfl) (by decide) rfl eu3 ?_
  refine ev_aload_n dX7_takesPart_98 0 rfl trivial ?_
  refine ev_dup dX7_takesPart_99 rfl ?_
  refine px_getI dX7_takesPart_100 gf_RX7_236 (at7 rfl) (by decide) rfl ?_
  refine ev_iconst (v := (1 : Int32)) dX7_takesPart_103 kI_1 ?_
  refine ev_iadd dX7_takesPart_104 ?_
  obtain ⟨u4, eu4, h⟩ := am_lt h
  refine px_putI dX7_takesPart_105 pf_RX7_236 (at7 rfl) (by decide) rfl eu4 ?_
  refine ev_aload_n dX7_takesPart_108 0 rfl trivial ?_
  refine ev_bipush (v := (6 : Int32)) dX7_takesPart_109 kB_6 ?_
  obtain ⟨q5, eq5, h⟩ := am_bd h
  refine px_callvv [.int (6 : Int32)] (by decide) cl_7 (at7 rfl) dX7_takesPart_111 ok_X7_settle lk_RX7_239 in_X7_settle se_X7_settle (by decide) rfl (c_X7_settle eq5) rfl (Nat.le_of_ble_eq_true rfl) ?_
  refine ev_aload_n dX7_takesPart_114 0 rfl trivial ?_
  obtain ⟨q6, eq6, h⟩ := am_bd h
  refine px_callvv [] (by decide) cl_7 (at7 rfl) dX7_takesPart_115 ok_X7_go lk_RX7_221 in_X7_go se_X7_go (by decide) rfl (c_X7_go eq6) rfl (Nat.le_of_ble_eq_true rfl) ?_
  refine ev_iconst (v := (1 : Int32)) dX7_takesPart_118 kI_1 ?_
  obtain rfl := Option.some.inj h
  exact ev_iret dX7_takesPart_119 rfl (am_zn (Or.inr rfl))

theorem l_X7_takesPart_52 {X : Nat × (Nat → Int32)}   (u : am_MU)  (r : am_MU × Int32) (h : g_X7_takesPart_52  u  = some r) : am_Ev X M_X7_takesPart 52 [(0, .ref 110)] [] (hp u) (hp r.1, some (.int r.2)) := by
  unfold g_X7_takesPart_52 at h
  refine ev_aload_n dX7_takesPart_52 0 rfl trivial ?_
  refine px_getR dX7_takesPart_53 gf_RX7_35 (at7 rfl) (by decide) rfl ?_
  refine ev_aload_n dX7_takesPart_56 0 rfl trivial ?_
  refine px_getI dX7_takesPart_57 gf_RX7_230 (at7 rfl) (by decide) rfl ?_
  refine ev_aload_n dX7_takesPart_60 0 rfl trivial ?_
  refine px_getI dX7_takesPart_61 gf_RX7_206 (at7 rfl) (by decide) rfl ?_
  refine ev_iconst (v := (2 : Int32)) dX7_takesPart_64 kI_2 ?_
  refine ev_icmp_ne 75 dX7_takesPart_65 (by decide) (fun c1 => ?_) (fun c1 => ?_)
  · have h := am_e c1 h
    refine ev_sipush (v := (10000 : Int32)) dX7_takesPart_75 kS_10000 ?_
    refine ev_aload_n dX7_takesPart_78 0 rfl trivial ?_
    refine ev_aload_n dX7_takesPart_79 0 rfl trivial ?_
    refine px_getI dX7_takesPart_80 gf_RX7_212 (at7 rfl) (by decide) rfl ?_
    obtain ⟨q2, eq2, h⟩ := am_bd h
    refine px_callvi [.int (u 110 11)] (by decide) cl_7 (at7 rfl) dX7_takesPart_83 ok_X7_nameOf lk_RX7_233 in_X7_nameOf se_X7_nameOf (by decide) rfl (c_X7_nameOf eq2) rfl (Nat.le_of_ble_eq_true rfl) ?_
    refine ev_iadd dX7_takesPart_86 ?_
    refine ev_loc [0] rfl ?_
    exact l_X7_takesPart_87   q2.1 (u 110 17) ((10000 : Int32) + q2.2) _ h
  · have h := am_t c1 h
    refine ev_aload_n dX7_takesPart_68 0 rfl trivial ?_
    refine px_getI dX7_takesPart_69 gf_RX7_212 (at7 rfl) (by decide) rfl ?_
    refine ev_goto 87 dX7_takesPart_72 (by decide) ?_
    refine ev_loc [0] rfl ?_
    exact l_X7_takesPart_87   u (u 110 17) (u 110 11) _ h

theorem l_X7_takesPart_37 {X : Nat × (Nat → Int32)}   (u : am_MU) (s0 : Int32) (r : am_MU × Int32) (h : g_X7_takesPart_37  u s0 = some r) : am_Ev X M_X7_takesPart 37 [(0, .ref 110)] [.int s0] (hp u) (hp r.1, some (.int r.2)) := by
  unfold g_X7_takesPart_37 at h
  refine ev_istore_n (L' := [(1, .int s0), (0, .ref 110)]) dX7_takesPart_37 (by decide) rfl ?_
  refine ev_aload_n dX7_takesPart_38 1 rfl trivial ?_
  refine px_getI dX7_takesPart_39 gf_RX7_206 (at7 rfl) (by decide) rfl ?_
  refine ev_iconst (v := (2 : Int32)) dX7_takesPart_42 kI_2 ?_
  refine ev_icmp_eq 52 dX7_takesPart_43 (by decide) (fun c1 => ?_) (fun c1 => ?_)
  · have h := am_t c1 h
    refine ev_loc [1] rfl ?_
    exact l_X7_takesPart_52   u  _ h
  · have h := am_e c1 h
    refine ev_iload_n dX7_takesPart_46 0 rfl ?_
    refine ev_if_ne 52 dX7_takesPart_47 (by decide) (fun c2 => ?_) (fun c2 => ?_)
    · have h := am_e c2 h
      refine ev_loc [1] rfl ?_
      exact l_X7_takesPart_52   u  _ h
    · have h := am_t c2 h
      refine ev_iconst (v := (0 : Int32)) dX7_takesPart_50 kI_0 ?_
      obtain rfl := Option.some.inj h
      exact ev_iret dX7_takesPart_51 rfl (am_zn (Or.inl rfl))

theorem l_X7_takesPart_36 {X : Nat × (Nat → Int32)}   (u : am_MU)  (r : am_MU × Int32) (h : g_X7_takesPart_36  u  = some r) : am_Ev X M_X7_takesPart 36 [(0, .ref 110)] [] (hp u) (hp r.1, some (.int r.2)) := by
  unfold g_X7_takesPart_36 at h
  refine ev_iconst (v := (0 : Int32)) dX7_takesPart_36 kI_0 ?_
  refine ev_loc [0] rfl ?_
  exact l_X7_takesPart_37   u (0 : Int32) _ h

theorem l_X7_takesPart_0 {X : Nat × (Nat → Int32)}   (u : am_MU)  (r : am_MU × Int32) (h : f_X7_takesPart  u  = some r) : am_Ev X M_X7_takesPart 0 [(0, .ref 110)] [] (hp u) (hp r.1, some (.int r.2)) := by
  unfold f_X7_takesPart at h
  refine ev_aload_n dX7_takesPart_0 0 rfl trivial ?_
  refine px_getI dX7_takesPart_1 gf_RX7_206 (at7 rfl) (by decide) rfl ?_
  refine ev_iconst (v := (1 : Int32)) dX7_takesPart_4 kI_1 ?_
  refine ev_icmp_ne 36 dX7_takesPart_5 (by decide) (fun c1 => ?_) (fun c1 => ?_)
  · have h := am_e c1 h
    refine ev_loc [0] rfl ?_
    exact l_X7_takesPart_36   u  _ h
  · have h := am_t c1 h
    refine ev_aload_n dX7_takesPart_8 0 rfl trivial ?_
    refine px_getI dX7_takesPart_9 gf_RX7_197 (at7 rfl) (by decide) rfl ?_
    refine ev_aload_n dX7_takesPart_12 0 rfl trivial ?_
    refine px_getI dX7_takesPart_13 gf_RX7_200 (at7 rfl) (by decide) rfl ?_
    refine ev_isub dX7_takesPart_16 ?_
    refine ev_iconst (v := (1 : Int32)) dX7_takesPart_17 kI_1 ?_
    refine ev_icmp_ne 36 dX7_takesPart_18 (by decide) (fun c2 => ?_) (fun c2 => ?_)
    · have h := am_e c2 h
      refine ev_loc [0] rfl ?_
      exact l_X7_takesPart_36   u  _ h
    · have h := am_t c2 h
      refine ev_aload_n dX7_takesPart_21 0 rfl trivial ?_
      refine ev_aload_n dX7_takesPart_22 0 rfl trivial ?_
      refine px_getI dX7_takesPart_23 gf_RX7_212 (at7 rfl) (by decide) rfl ?_
      obtain ⟨q3, eq3, h⟩ := am_bd h
      refine px_callvi [.int (u 110 11)] (by decide) cl_7 (at7 rfl) dX7_takesPart_26 ok_X7_nameOf lk_RX7_233 in_X7_nameOf se_X7_nameOf (by decide) rfl (c_X7_nameOf eq3) rfl (Nat.le_of_ble_eq_true rfl) ?_
      refine ev_if_lt 36 dX7_takesPart_29 (by decide) (fun c4 => ?_) (fun c4 => ?_)
      · have h := am_t c4 h
        refine ev_loc [0] rfl ?_
        exact l_X7_takesPart_36   q3.1  _ h
      · have h := am_e c4 h
        refine ev_iconst (v := (1 : Int32)) dX7_takesPart_32 kI_1 ?_
        refine ev_goto 37 dX7_takesPart_33 (by decide) ?_
        refine ev_loc [0] rfl ?_
        exact l_X7_takesPart_37   q3.1 (1 : Int32) _ h

theorem c_X7_takesPart {X : Nat × (Nat → Int32)} {u : am_MU}  {r : am_MU × Int32} (h : f_X7_takesPart u  = some r) : am_Cn X M_X7_takesPart [.ref 110] (hp u) (hp r.1, some (.int r.2)) := by
  refine am_Cn.of ok_X7_takesPart (Nat.le_refl _) (Nat.le_refl _) (Nat.le_of_ble_eq_true rfl) ?_
  refine ev_loc [0] rfl ?_
  exact l_X7_takesPart_0 u  r h

-- SandRipplesModel.notsOpen()I
def g_X7_notsOpen_29 (K4 : am_MU → Int32 → Int32 → Option (am_MU × Int32)) (u : am_MU) (l2 : Int32) (s0 : Int32) (s1 : Int32) : Option (am_MU × Int32) :=
am_let (s0 + s1) fun x1 =>
am_let (l2 + (1 : Int32)) fun x2 =>
K4 u x1 x2

def g_X7_notsOpen_4  : Nat → am_MU → Int32 → Int32 → Option (am_MU × Int32)
  | 0 => fun _ _ _ => none
  | n + 1 => fun u l1 l2 =>
if (u 110 20) ≤ l2 then (some (u, l1))
else (if am_in l2 96 then (
if (u 120 l2.toNatClampNeg) = ((-10) : Int32) then (g_X7_notsOpen_29 (g_X7_notsOpen_4 n) u l2 l1 (1 : Int32))
else (g_X7_notsOpen_29 (g_X7_notsOpen_4 n) u l2 l1 (0 : Int32))) else none)

def f_X7_notsOpen  (u : am_MU)  : Option (am_MU × Int32) :=
g_X7_notsOpen_4 1700 u (0 : Int32) (0 : Int32)

theorem l_X7_notsOpen_29 {X : Nat × (Nat → Int32)} (K4 : am_MU → Int32 → Int32 → Option (am_MU × Int32)) (hK4 : ∀ (u : am_MU) (l1 : Int32) (l2 : Int32) (r : am_MU × Int32), K4 u l1 l2 = some r → am_Ev X M_X7_notsOpen 4 [(0, .ref 110), (1, .int l1), (2, .int l2)] [] (hp u) (hp r.1, some (.int r.2))) (u : am_MU) (l2 : Int32) (s0 : Int32) (s1 : Int32) (r : am_MU × Int32) (h : g_X7_notsOpen_29 K4 u l2 s0 s1 = some r) : am_Ev X M_X7_notsOpen 29 [(0, .ref 110), (2, .int l2)] [.int s1, .int s0] (hp u) (hp r.1, some (.int r.2)) := by
  unfold g_X7_notsOpen_29 at h
  refine ev_iadd dX7_notsOpen_29 ?_
  obtain ⟨x1, ex1, h⟩ := am_lt h
  refine px_top ex1 ?_
  refine ev_istore_n (L' := [(1, .int x1), (0, .ref 110), (2, .int l2)]) dX7_notsOpen_30 (by decide) rfl ?_
  obtain ⟨x2, ex2, h⟩ := am_lt h
  refine ev_iinc (v := x2) (L' := [(2, .int x2), (1, .int x1), (0, .ref 110)]) dX7_notsOpen_31 2 rfl (by rw [kI_1, ex2]) (by decide) rfl ?_
  refine ev_goto 4 dX7_notsOpen_34 (by decide) ?_
  refine ev_loc [2, 1, 0] rfl ?_
  exact hK4 u x1 x2 _ h

theorem l_X7_notsOpen_4 {X : Nat × (Nat → Int32)}   : ∀ (n : Nat) (u : am_MU) (l1 : Int32) (l2 : Int32) (r : am_MU × Int32), g_X7_notsOpen_4  n u l1 l2 = some r → am_Ev X M_X7_notsOpen 4 [(0, .ref 110), (1, .int l1), (2, .int l2)] [] (hp u) (hp r.1, some (.int r.2)) := by
  intro n
  induction n with
  | zero => intro u l1 l2 r h; cases h
  | succ n ih =>
    intro u l1 l2 r h
    rw [g_X7_notsOpen_4] at h
    refine ev_iload_n dX7_notsOpen_4 2 rfl ?_
    refine ev_aload_n dX7_notsOpen_5 0 rfl trivial ?_
    refine px_getI dX7_notsOpen_6 gf_RX7_224 (at7 rfl) (by decide) rfl ?_
    refine ev_icmp_ge 37 dX7_notsOpen_9 (by decide) (fun c1 => ?_) (fun c1 => ?_)
    · have h := am_t c1 h
      refine ev_iload_n dX7_notsOpen_37 1 rfl ?_
      obtain rfl := Option.some.inj h
      exact ev_iret dX7_notsOpen_38 rfl rfl
    · have h := am_e c1 h
      refine ev_iload_n dX7_notsOpen_12 1 rfl ?_
      refine ev_aload_n dX7_notsOpen_13 0 rfl trivial ?_
      refine px_getR dX7_notsOpen_14 gf_RX7_38 (at7 rfl) (by decide) rfl ?_
      refine ev_iload_n dX7_notsOpen_17 2 rfl ?_
      obtain ⟨g2, h⟩ := am_gd h
      refine px_iald (n := 96) l2.toNatClampNeg dX7_notsOpen_18 rfl g2 rfl ?_
      refine ev_bipush (v := ((-10) : Int32)) dX7_notsOpen_19 kB_m10 ?_
      refine ev_icmp_ne 28 dX7_notsOpen_21 (by decide) (fun c3 => ?_) (fun c3 => ?_)
      · have h := am_e c3 h
        refine ev_iconst (v := (0 : Int32)) dX7_notsOpen_28 kI_0 ?_
        refine ev_loc [0, 2] rfl ?_
        exact l_X7_notsOpen_29 (g_X7_notsOpen_4 n) (fun u l1 l2 r h => ih u l1 l2 r h) u l2 l1 (0 : Int32) _ h
      · have h := am_t c3 h
        refine ev_iconst (v := (1 : Int32)) dX7_notsOpen_24 kI_1 ?_
        refine ev_goto 29 dX7_notsOpen_25 (by decide) ?_
        refine ev_loc [0, 2] rfl ?_
        exact l_X7_notsOpen_29 (g_X7_notsOpen_4 n) (fun u l1 l2 r h => ih u l1 l2 r h) u l2 l1 (1 : Int32) _ h

theorem l_X7_notsOpen_0 {X : Nat × (Nat → Int32)}   (u : am_MU)  (r : am_MU × Int32) (h : f_X7_notsOpen  u  = some r) : am_Ev X M_X7_notsOpen 0 [(0, .ref 110)] [] (hp u) (hp r.1, some (.int r.2)) := by
  unfold f_X7_notsOpen at h
  refine ev_iconst (v := (0 : Int32)) dX7_notsOpen_0 kI_0 ?_
  refine ev_istore_n (L' := [(1, .int (0 : Int32)), (0, .ref 110)]) dX7_notsOpen_1 (by decide) rfl ?_
  refine ev_iconst (v := (0 : Int32)) dX7_notsOpen_2 kI_0 ?_
  refine ev_istore_n (L' := [(2, .int (0 : Int32)), (1, .int (0 : Int32)), (0, .ref 110)]) dX7_notsOpen_3 (by decide) rfl ?_
  refine ev_loc [2, 1, 0] rfl ?_
  exact l_X7_notsOpen_4   1700 u (0 : Int32) (0 : Int32) _ h

theorem c_X7_notsOpen {X : Nat × (Nat → Int32)} {u : am_MU}  {r : am_MU × Int32} (h : f_X7_notsOpen u  = some r) : am_Cn X M_X7_notsOpen [.ref 110] (hp u) (hp r.1, some (.int r.2)) := by
  refine am_Cn.of ok_X7_notsOpen (Nat.le_refl _) (Nat.le_refl _) (Nat.le_of_ble_eq_true rfl) ?_
  refine ev_loc [0] rfl ?_
  exact l_X7_notsOpen_0 u  r h

-- SandRipplesModel.signHere()I
def f_X7_signHere  (u : am_MU)  : Option (am_MU × Int32) :=
if (u 110 10) = (3 : Int32) then (if (u 110 11) = (38 : Int32) then (some (u, ((-2) : Int32)))
else if (u 110 11) = (42 : Int32) then (some (u, ((-8) : Int32)))
else if (u 110 11) = (43 : Int32) then (some (u, ((-6) : Int32)))
else if (u 110 11) = (45 : Int32) then (some (u, ((-7) : Int32)))
else if (u 110 11) = (47 : Int32) then (some (u, ((-9) : Int32)))
else if (u 110 11) = (60 : Int32) then (some (u, ((-3) : Int32)))
else if (u 110 11) = (61 : Int32) then (some (u, ((-4) : Int32)))
else if (u 110 11) = (62 : Int32) then (some (u, ((-5) : Int32)))
else if (u 110 11) = (124 : Int32) then (some (u, ((-1) : Int32)))
else (some (u, (0 : Int32))))
else (some (u, (0 : Int32)))

theorem l_X7_signHere_0 {X : Nat × (Nat → Int32)}   (u : am_MU)  (r : am_MU × Int32) (h : f_X7_signHere  u  = some r) : am_Ev X M_X7_signHere 0 [(0, .ref 110)] [] (hp u) (hp r.1, some (.int r.2)) := by
  unfold f_X7_signHere at h
  refine ev_aload_n dX7_signHere_0 0 rfl trivial ?_
  refine px_getI dX7_signHere_1 gf_RX7_206 (at7 rfl) (by decide) rfl ?_
  refine ev_iconst (v := (3 : Int32)) dX7_signHere_4 kI_3 ?_
  refine ev_icmp_eq 10 dX7_signHere_5 (by decide) (fun c1 => ?_) (fun c1 => ?_)
  · have h := am_t c1 h
    refine ev_aload_n dX7_signHere_10 0 rfl trivial ?_
    refine px_getI dX7_signHere_11 gf_RX7_212 (at7 rfl) (by decide) rfl ?_
    refine am_cs h (fun c2 h => ?_) (fun c2 h => ?_)
    · refine ev_lookup 98 (84) dX7_signHere_14 (by decide) (by rw [c2]; decide) (by decide) ?_
      refine ev_bipush (v := ((-2) : Int32)) dX7_signHere_98 kB_m2 ?_
      obtain rfl := Option.some.inj h
      exact ev_iret dX7_signHere_100 rfl rfl
    refine am_cs h (fun c3 h => ?_) (fun c3 h => ?_)
    · refine ev_lookup 116 (102) dX7_signHere_14 (by decide) (by rw [c3]; decide) (by decide) ?_
      refine ev_bipush (v := ((-8) : Int32)) dX7_signHere_116 kB_m8 ?_
      obtain rfl := Option.some.inj h
      exact ev_iret dX7_signHere_118 rfl rfl
    refine am_cs h (fun c4 h => ?_) (fun c4 h => ?_)
    · refine ev_lookup 110 (96) dX7_signHere_14 (by decide) (by rw [c4]; decide) (by decide) ?_
      refine ev_bipush (v := ((-6) : Int32)) dX7_signHere_110 kB_m6 ?_
      obtain rfl := Option.some.inj h
      exact ev_iret dX7_signHere_112 rfl rfl
    refine am_cs h (fun c5 h => ?_) (fun c5 h => ?_)
    · refine ev_lookup 113 (99) dX7_signHere_14 (by decide) (by rw [c5]; decide) (by decide) ?_
      refine ev_bipush (v := ((-7) : Int32)) dX7_signHere_113 kB_m7 ?_
      obtain rfl := Option.some.inj h
      exact ev_iret dX7_signHere_115 rfl rfl
    refine am_cs h (fun c6 h => ?_) (fun c6 h => ?_)
    · refine ev_lookup 119 (105) dX7_signHere_14 (by decide) (by rw [c6]; decide) (by decide) ?_
      refine ev_bipush (v := ((-9) : Int32)) dX7_signHere_119 kB_m9 ?_
      obtain rfl := Option.some.inj h
      exact ev_iret dX7_signHere_121 rfl rfl
    refine am_cs h (fun c7 h => ?_) (fun c7 h => ?_)
    · refine ev_lookup 101 (87) dX7_signHere_14 (by decide) (by rw [c7]; decide) (by decide) ?_
      refine ev_bipush (v := ((-3) : Int32)) dX7_signHere_101 kB_m3 ?_
      obtain rfl := Option.some.inj h
      exact ev_iret dX7_signHere_103 rfl rfl
    refine am_cs h (fun c8 h => ?_) (fun c8 h => ?_)
    · refine ev_lookup 104 (90) dX7_signHere_14 (by decide) (by rw [c8]; decide) (by decide) ?_
      refine ev_bipush (v := ((-4) : Int32)) dX7_signHere_104 kB_m4 ?_
      obtain rfl := Option.some.inj h
      exact ev_iret dX7_signHere_106 rfl rfl
    refine am_cs h (fun c9 h => ?_) (fun c9 h => ?_)
    · refine ev_lookup 107 (93) dX7_signHere_14 (by decide) (by rw [c9]; decide) (by decide) ?_
      refine ev_bipush (v := ((-5) : Int32)) dX7_signHere_107 kB_m5 ?_
      obtain rfl := Option.some.inj h
      exact ev_iret dX7_signHere_109 rfl rfl
    refine am_cs h (fun c10 h => ?_) (fun c10 h => ?_)
    · refine ev_lookup 96 (82) dX7_signHere_14 (by decide) (by rw [c10]; decide) (by decide) ?_
      refine ev_iconst (v := ((-1) : Int32)) dX7_signHere_96 kI_m1 ?_
      obtain rfl := Option.some.inj h
      exact ev_iret dX7_signHere_97 rfl rfl
    refine ev_lookup 122 (108) dX7_signHere_14 (by decide) ((lv_osw c2 (by decide)).trans ((lv_osw c3 (by decide)).trans ((lv_osw c4 (by decide)).trans ((lv_osw c5 (by decide)).trans ((lv_osw c6 (by decide)).trans ((lv_osw c7 (by decide)).trans ((lv_osw c8 (by decide)).trans ((lv_osw c9 (by decide)).trans ((lv_osw c10 (by decide)).trans rfl))))))))) (by decide) ?_
    refine ev_iconst (v := (0 : Int32)) dX7_signHere_122 kI_0 ?_
    obtain rfl := Option.some.inj h
    exact ev_iret dX7_signHere_123 rfl rfl
  · have h := am_e c1 h
    refine ev_iconst (v := (0 : Int32)) dX7_signHere_8 kI_0 ?_
    obtain rfl := Option.some.inj h
    exact ev_iret dX7_signHere_9 rfl rfl

theorem c_X7_signHere {X : Nat × (Nat → Int32)} {u : am_MU}  {r : am_MU × Int32} (h : f_X7_signHere u  = some r) : am_Cn X M_X7_signHere [.ref 110] (hp u) (hp r.1, some (.int r.2)) := by
  refine am_Cn.of ok_X7_signHere (Nat.le_refl _) (Nat.le_refl _) (Nat.le_of_ble_eq_true rfl) ?_
  refine ev_loc [0] rfl ?_
  exact l_X7_signHere_0 u  r h

-- SandRipplesModel.takesE()Z
def g_X7_takesE_305 (K28 : am_MU → Int32 → Int32 → Int32 → Option (am_MU × Int32)) (u : am_MU) (l1 : Int32) (l2 : Int32) (l4 : Int32) (s1 : Int32) (s2 : Int32) : Option (am_MU × Int32) :=
if am_in s1 10 then (
am_let (am_u2 u 121 s1.toNatClampNeg (vp_nar .boolean s2)) fun u2 =>
(f_X7_rank u2 l4).bind fun q3 =>
(f_X7_settle q3.1 q3.2).bind fun q4 =>
if am_in (q4 110 20) 96 then (
am_let (am_u2 q4 120 ((q4 110 20).toNatClampNeg) l4) fun u6 =>
am_let (am_u2 u6 110 20 ((u6 110 20) + (1 : Int32))) fun u7 =>
(f_X7_go u7 ).bind fun q8 =>
K28 q8 l1 l2 (1 : Int32)) else none) else none

def g_X7_takesE_304 (K28 : am_MU → Int32 → Int32 → Int32 → Option (am_MU × Int32)) (u : am_MU) (l1 : Int32) (l2 : Int32) (l4 : Int32) (s1 : Int32) : Option (am_MU × Int32) :=
g_X7_takesE_305 K28 u l1 l2 l4 s1 (0 : Int32)

def g_X7_takesE_300 (K28 : am_MU → Int32 → Int32 → Int32 → Option (am_MU × Int32)) (u : am_MU) (l1 : Int32) (l2 : Int32) (l4 : Int32) (s1 : Int32) : Option (am_MU × Int32) :=
g_X7_takesE_305 K28 u l1 l2 l4 s1 (1 : Int32)

def g_X7_takesE_268 (K28 : am_MU → Int32 → Int32 → Int32 → Option (am_MU × Int32)) (u : am_MU) (l1 : Int32) (l2 : Int32) (l4 : Int32) : Option (am_MU × Int32) :=
(f_X7_rank u l4).bind fun q1 =>
if q1.2 = (3 : Int32) then (g_X7_takesE_300 K28 q1.1 l1 l2 l4 l1)
else ((f_X7_rank q1.1 l4).bind fun q3 =>
if q3.2 ≤ (3 : Int32) then (g_X7_takesE_304 K28 q3.1 l1 l2 l4 l1)
else (if am_in l1 10 then (
if (q3.1 121 l1.toNatClampNeg) = 0 then (g_X7_takesE_304 K28 q3.1 l1 l2 l4 l1)
else (g_X7_takesE_300 K28 q3.1 l1 l2 l4 l1)) else none))

def g_X7_takesE_237 (K28 : am_MU → Int32 → Int32 → Int32 → Option (am_MU × Int32)) (u : am_MU) (l1 : Int32) (l2 : Int32) : Option (am_MU × Int32) :=
(f_X7_signHere u ).bind fun q1 =>
if q1.2 = 0 then (some (q1.1, (0 : Int32)))
else ((f_X7_rank q1.1 q1.2).bind fun q3 =>
if q3.2 = (3 : Int32) then (if am_in l1 10 then (
if (q3.1 121 l1.toNatClampNeg) = 0 then (g_X7_takesE_268 K28 q3.1 l1 l2 q1.2)
else (some (q3.1, (0 : Int32)))) else none)
else (g_X7_takesE_268 K28 q3.1 l1 l2 q1.2))

def g_X7_takesE_172 (K28 : am_MU → Int32 → Int32 → Int32 → Option (am_MU × Int32)) (u : am_MU) (l1 : Int32) (l3 : Int32) : Option (am_MU × Int32) :=
(f_X7_notsOpen u ).bind fun q1 =>
K28 q1.1 l1 q1.2 l3

def g_X7_takesE_158 (K28 : am_MU → Int32 → Int32 → Int32 → Option (am_MU × Int32)) (u : am_MU) (l1 : Int32) : Option (am_MU × Int32) :=
(f_X7_takesPart u ).bind fun q1 =>
if q1.2 = 0 then (some (q1.1, (0 : Int32)))
else (g_X7_takesE_172 K28 q1.1 l1 (0 : Int32))

def g_X7_takesE_97 (K28 : am_MU → Int32 → Int32 → Int32 → Option (am_MU × Int32)) (u : am_MU) (l1 : Int32) (l3 : Int32) : Option (am_MU × Int32) :=
if (u 110 10) = (3 : Int32) then (if (u 110 11) = (40 : Int32) then (if (8 : Int32) ≤ l1 then (g_X7_takesE_158 K28 u l1)
else (if am_in (u 110 20) 96 then (
am_let (am_u2 u 120 ((u 110 20).toNatClampNeg) ((-11) : Int32)) fun u5 =>
am_let (am_u2 u5 110 20 ((u5 110 20) + (1 : Int32))) fun u6 =>
am_let (l1 + (1 : Int32)) fun x7 =>
if am_in x7 10 then (
am_let (am_u2 u6 121 x7.toNatClampNeg (vp_nar .boolean (0 : Int32))) fun u9 =>
(f_X7_go u9 ).bind fun q10 =>
g_X7_takesE_172 K28 q10 x7 l3) else none) else none))
else (g_X7_takesE_158 K28 u l1))
else (g_X7_takesE_158 K28 u l1)

def g_X7_takesE_39 (K28 : am_MU → Int32 → Int32 → Int32 → Option (am_MU × Int32)) (u : am_MU) (l1 : Int32) (l2 : Int32) (l3 : Int32) : Option (am_MU × Int32) :=
if l3 = 0 then (if (u 110 10) = (3 : Int32) then (if (u 110 11) = (41 : Int32) then (if l1 ≤ 0 then (g_X7_takesE_237 K28 u l1 l2)
else ((f_X7_settle u (0 : Int32)).bind fun q5 =>
am_let (am_u2 q5 110 20 ((q5 110 20) - (1 : Int32))) fun u6 =>
am_let (l1 + ((-1) : Int32)) fun x7 =>
(f_X7_settle u6 (6 : Int32)).bind fun q8 =>
(f_X7_notsOpen q8 ).bind fun q9 =>
(f_X7_go q9.1 ).bind fun q10 =>
K28 q10 x7 q9.2 l3))
else (g_X7_takesE_237 K28 u l1 l2))
else (g_X7_takesE_237 K28 u l1 l2))
else (if (u 110 10) = (3 : Int32) then (if (u 110 11) = (33 : Int32) then (if (8 : Int32) ≤ l2 then (g_X7_takesE_97 K28 u l1 l3)
else (if am_in (u 110 20) 96 then (
am_let (am_u2 u 120 ((u 110 20).toNatClampNeg) ((-10) : Int32)) fun u15 =>
am_let (am_u2 u15 110 20 ((u15 110 20) + (1 : Int32))) fun u16 =>
am_let (l2 + (1 : Int32)) fun x17 =>
(f_X7_go u16 ).bind fun q18 =>
g_X7_takesE_172 K28 q18 l1 l3) else none))
else (g_X7_takesE_97 K28 u l1 l3))
else (g_X7_takesE_97 K28 u l1 l3))

def g_X7_takesE_28  : Nat → am_MU → Int32 → Int32 → Int32 → Option (am_MU × Int32)
  | 0 => fun _ _ _ _ => none
  | n + 1 => fun u l1 l2 l3 =>
if l3 = 0 then (if (u 110 10) = 0 then ((f_X7_settle u (0 : Int32)).bind fun q3 =>
if l1 = 0 then (some (q3, (1 : Int32)))
else (some (q3, (0 : Int32))))
else (g_X7_takesE_39 (g_X7_takesE_28 n) u l1 l2 l3))
else (g_X7_takesE_39 (g_X7_takesE_28 n) u l1 l2 l3)

def f_X7_takesE  (u : am_MU)  : Option (am_MU × Int32) :=
am_let (am_u2 u 110 17 (0 : Int32)) fun u1 =>
am_let (am_u2 u1 110 18 (0 : Int32)) fun u2 =>
am_let (am_u2 u2 110 20 (0 : Int32)) fun u3 =>
am_let (am_u2 u3 121 0 (vp_nar .boolean (0 : Int32))) fun u4 =>
g_X7_takesE_28 1700 u4 (0 : Int32) (0 : Int32) (1 : Int32)

theorem l_X7_takesE_305 {X : Nat × (Nat → Int32)} (K28 : am_MU → Int32 → Int32 → Int32 → Option (am_MU × Int32)) (hK28 : ∀ (u : am_MU) (l1 : Int32) (l2 : Int32) (l3 : Int32) (r : am_MU × Int32), K28 u l1 l2 l3 = some r → am_Ev X M_X7_takesE 28 [(0, .ref 110), (1, .int l1), (2, .int l2), (3, .int l3)] [] (hp u) (hp r.1, some (.int r.2))) (u : am_MU) (l1 : Int32) (l2 : Int32) (l4 : Int32) (s1 : Int32) (s2 : Int32) (r : am_MU × Int32) (h : g_X7_takesE_305 K28 u l1 l2 l4 s1 s2 = some r) : am_Ev X M_X7_takesE 305 [(0, .ref 110), (1, .int l1), (2, .int l2), (4, .int l4)] [.int s2, .int s1, .ref 121] (hp u) (hp r.1, some (.int r.2)) := by
  unfold g_X7_takesE_305 at h
  obtain ⟨g1, h⟩ := am_gd h
  obtain ⟨u2, eu2, h⟩ := am_lt h
  refine px_zast (n := 10) s1.toNatClampNeg dX7_takesE_305 rfl rfl g1 rfl eu2 ?_
  refine ev_aload_n dX7_takesE_306 0 rfl trivial ?_
  refine ev_iload dX7_takesE_307 3 rfl ?_
  obtain ⟨q3, eq3, h⟩ := am_bd h
  refine px_callsi [.int l4] dX7_takesE_309 ok_X7_rank lk_RX7_227 st_X7_rank (by decide) rfl (c_X7_rank eq3) rfl (Nat.le_of_ble_eq_true rfl) ?_
  obtain ⟨q4, eq4, h⟩ := am_bd h
  refine px_callvv [.int q3.2] (by decide) cl_7 (at7 rfl) dX7_takesE_312 ok_X7_settle lk_RX7_239 in_X7_settle se_X7_settle (by decide) rfl (c_X7_settle eq4) rfl (Nat.le_of_ble_eq_true rfl) ?_
  refine ev_aload_n dX7_takesE_315 0 rfl trivial ?_
  refine px_getR dX7_takesE_316 gf_RX7_38 (at7 rfl) (by decide) rfl ?_
  refine ev_aload_n dX7_takesE_319 0 rfl trivial ?_
  refine px_getI dX7_takesE_320 gf_RX7_224 (at7 rfl) (by decide) rfl ?_
  refine ev_iload dX7_takesE_323 3 rfl ?_
  obtain ⟨g5, h⟩ := am_gd h
  obtain ⟨u6, eu6, h⟩ := am_lt h
  refine px_iast (n := 96) ((q4 110 20).toNatClampNeg) dX7_takesE_325 rfl g5 rfl eu6 ?_
  refine ev_aload_n dX7_takesE_326 0 rfl trivial ?_
  refine ev_dup dX7_takesE_327 rfl ?_
  refine px_getI dX7_takesE_328 gf_RX7_224 (at7 rfl) (by decide) rfl ?_
  refine ev_iconst (v := (1 : Int32)) dX7_takesE_331 kI_1 ?_
  refine ev_iadd dX7_takesE_332 ?_
  obtain ⟨u7, eu7, h⟩ := am_lt h
  refine px_putI dX7_takesE_333 pf_RX7_224 (at7 rfl) (by decide) rfl eu7 ?_
  refine ev_iconst (v := (1 : Int32)) dX7_takesE_336 kI_1 ?_
  refine ev_istore_n (L' := [(3, .int (1 : Int32)), (0, .ref 110), (1, .int l1), (2, .int l2), (4, .int l4)]) dX7_takesE_337 (by decide) rfl ?_
  refine ev_aload_n dX7_takesE_338 1 rfl trivial ?_
  obtain ⟨q8, eq8, h⟩ := am_bd h
  refine px_callvv [] (by decide) cl_7 (at7 rfl) dX7_takesE_339 ok_X7_go lk_RX7_221 in_X7_go se_X7_go (by decide) rfl (c_X7_go eq8) rfl (Nat.le_of_ble_eq_true rfl) ?_
  refine ev_goto 28 dX7_takesE_342 (by decide) ?_
  refine ev_loc [1, 2, 3, 0] rfl ?_
  exact hK28 q8 l1 l2 (1 : Int32) _ h

theorem l_X7_takesE_304 {X : Nat × (Nat → Int32)} (K28 : am_MU → Int32 → Int32 → Int32 → Option (am_MU × Int32)) (hK28 : ∀ (u : am_MU) (l1 : Int32) (l2 : Int32) (l3 : Int32) (r : am_MU × Int32), K28 u l1 l2 l3 = some r → am_Ev X M_X7_takesE 28 [(0, .ref 110), (1, .int l1), (2, .int l2), (3, .int l3)] [] (hp u) (hp r.1, some (.int r.2))) (u : am_MU) (l1 : Int32) (l2 : Int32) (l4 : Int32) (s1 : Int32) (r : am_MU × Int32) (h : g_X7_takesE_304 K28 u l1 l2 l4 s1 = some r) : am_Ev X M_X7_takesE 304 [(0, .ref 110), (1, .int l1), (2, .int l2), (4, .int l4)] [.int s1, .ref 121] (hp u) (hp r.1, some (.int r.2)) := by
  unfold g_X7_takesE_304 at h
  refine ev_iconst (v := (0 : Int32)) dX7_takesE_304 kI_0 ?_
  refine ev_loc [0, 1, 2, 3] rfl ?_
  exact l_X7_takesE_305 K28 hK28 u l1 l2 l4 s1 (0 : Int32) _ h

theorem l_X7_takesE_300 {X : Nat × (Nat → Int32)} (K28 : am_MU → Int32 → Int32 → Int32 → Option (am_MU × Int32)) (hK28 : ∀ (u : am_MU) (l1 : Int32) (l2 : Int32) (l3 : Int32) (r : am_MU × Int32), K28 u l1 l2 l3 = some r → am_Ev X M_X7_takesE 28 [(0, .ref 110), (1, .int l1), (2, .int l2), (3, .int l3)] [] (hp u) (hp r.1, some (.int r.2))) (u : am_MU) (l1 : Int32) (l2 : Int32) (l4 : Int32) (s1 : Int32) (r : am_MU × Int32) (h : g_X7_takesE_300 K28 u l1 l2 l4 s1 = some r) : am_Ev X M_X7_takesE 300 [(0, .ref 110), (1, .int l1), (2, .int l2), (4, .int l4)] [.int s1, .ref 121] (hp u) (hp r.1, some (.int r.2)) := by
  unfold g_X7_takesE_300 at h
  refine ev_iconst (v := (1 : Int32)) dX7_takesE_300 kI_1 ?_
  refine ev_goto 305 dX7_takesE_301 (by decide) ?_
  refine ev_loc [0, 1, 2, 3] rfl ?_
  exact l_X7_takesE_305 K28 hK28 u l1 l2 l4 s1 (1 : Int32) _ h

theorem l_X7_takesE_268 {X : Nat × (Nat → Int32)} (K28 : am_MU → Int32 → Int32 → Int32 → Option (am_MU × Int32)) (hK28 : ∀ (u : am_MU) (l1 : Int32) (l2 : Int32) (l3 : Int32) (r : am_MU × Int32), K28 u l1 l2 l3 = some r → am_Ev X M_X7_takesE 28 [(0, .ref 110), (1, .int l1), (2, .int l2), (3, .int l3)] [] (hp u) (hp r.1, some (.int r.2))) (u : am_MU) (l1 : Int32) (l2 : Int32) (l4 : Int32) (r : am_MU × Int32) (h : g_X7_takesE_268 K28 u l1 l2 l4 = some r) : am_Ev X M_X7_takesE 268 [(0, .ref 110), (1, .int l1), (2, .int l2), (4, .int l4)] [] (hp u) (hp r.1, some (.int r.2)) := by
  unfold g_X7_takesE_268 at h
  refine ev_aload_n dX7_takesE_268 0 rfl trivial ?_
  refine px_getR dX7_takesE_269 gf_RX7_41 (at7 rfl) (by decide) rfl ?_
  refine ev_iload_n dX7_takesE_272 1 rfl ?_
  refine ev_iload dX7_takesE_273 3 rfl ?_
  obtain ⟨q1, eq1, h⟩ := am_bd h
  refine px_callsi [.int l4] dX7_takesE_275 ok_X7_rank lk_RX7_227 st_X7_rank (by decide) rfl (c_X7_rank eq1) rfl (Nat.le_of_ble_eq_true rfl) ?_
  refine ev_iconst (v := (3 : Int32)) dX7_takesE_278 kI_3 ?_
  refine ev_icmp_eq 300 dX7_takesE_279 (by decide) (fun c2 => ?_) (fun c2 => ?_)
  · have h := am_t c2 h
    refine ev_loc [0, 1, 2, 3] rfl ?_
    exact l_X7_takesE_300 K28 hK28 q1.1 l1 l2 l4 l1 _ h
  · have h := am_e c2 h
    refine ev_iload dX7_takesE_282 3 rfl ?_
    obtain ⟨q3, eq3, h⟩ := am_bd h
    refine px_callsi [.int l4] dX7_takesE_284 ok_X7_rank lk_RX7_227 st_X7_rank (by decide) rfl (c_X7_rank eq3) rfl (Nat.le_of_ble_eq_true rfl) ?_
    refine ev_iconst (v := (3 : Int32)) dX7_takesE_287 kI_3 ?_
    refine ev_icmp_le 304 dX7_takesE_288 (by decide) (fun c4 => ?_) (fun c4 => ?_)
    · have h := am_t c4 h
      refine ev_loc [0, 1, 2, 3] rfl ?_
      exact l_X7_takesE_304 K28 hK28 q3.1 l1 l2 l4 l1 _ h
    · have h := am_e c4 h
      refine ev_aload_n dX7_takesE_291 0 rfl trivial ?_
      refine px_getR dX7_takesE_292 gf_RX7_41 (at7 rfl) (by decide) rfl ?_
      refine ev_iload_n dX7_takesE_295 1 rfl ?_
      obtain ⟨g5, h⟩ := am_gd h
      refine px_zald (n := 10) l1.toNatClampNeg dX7_takesE_296 rfl rfl g5 rfl ?_
      refine ev_if_eq 304 dX7_takesE_297 (by decide) (fun c6 => ?_) (fun c6 => ?_)
      · have h := am_t c6 h
        refine ev_loc [0, 1, 2, 3] rfl ?_
        exact l_X7_takesE_304 K28 hK28 q3.1 l1 l2 l4 l1 _ h
      · have h := am_e c6 h
        refine ev_loc [0, 1, 2, 3] rfl ?_
        exact l_X7_takesE_300 K28 hK28 q3.1 l1 l2 l4 l1 _ h

theorem l_X7_takesE_237 {X : Nat × (Nat → Int32)} (K28 : am_MU → Int32 → Int32 → Int32 → Option (am_MU × Int32)) (hK28 : ∀ (u : am_MU) (l1 : Int32) (l2 : Int32) (l3 : Int32) (r : am_MU × Int32), K28 u l1 l2 l3 = some r → am_Ev X M_X7_takesE 28 [(0, .ref 110), (1, .int l1), (2, .int l2), (3, .int l3)] [] (hp u) (hp r.1, some (.int r.2))) (u : am_MU) (l1 : Int32) (l2 : Int32) (r : am_MU × Int32) (h : g_X7_takesE_237 K28 u l1 l2 = some r) : am_Ev X M_X7_takesE 237 [(0, .ref 110), (1, .int l1), (2, .int l2)] [] (hp u) (hp r.1, some (.int r.2)) := by
  unfold g_X7_takesE_237 at h
  refine ev_aload_n dX7_takesE_237 0 rfl trivial ?_
  obtain ⟨q1, eq1, h⟩ := am_bd h
  refine px_callvi [] (by decide) cl_7 (at7 rfl) dX7_takesE_238 ok_X7_signHere lk_RX7_249 in_X7_signHere se_X7_signHere (by decide) rfl (c_X7_signHere eq1) rfl (Nat.le_of_ble_eq_true rfl) ?_
  refine ev_istore (L' := [(4, .int q1.2), (0, .ref 110), (1, .int l1), (2, .int l2)]) dX7_takesE_241 (by decide) rfl ?_
  refine ev_iload dX7_takesE_243 0 rfl ?_
  refine ev_if_eq 266 dX7_takesE_245 (by decide) (fun c2 => ?_) (fun c2 => ?_)
  · have h := am_t c2 h
    refine ev_iconst (v := (0 : Int32)) dX7_takesE_266 kI_0 ?_
    obtain rfl := Option.some.inj h
    exact ev_iret dX7_takesE_267 rfl (am_zn (Or.inl rfl))
  · have h := am_e c2 h
    refine ev_iload dX7_takesE_248 0 rfl ?_
    obtain ⟨q3, eq3, h⟩ := am_bd h
    refine px_callsi [.int q1.2] dX7_takesE_250 ok_X7_rank lk_RX7_227 st_X7_rank (by decide) rfl (c_X7_rank eq3) rfl (Nat.le_of_ble_eq_true rfl) ?_
    refine ev_iconst (v := (3 : Int32)) dX7_takesE_253 kI_3 ?_
    refine ev_icmp_ne 268 dX7_takesE_254 (by decide) (fun c4 => ?_) (fun c4 => ?_)
    · have h := am_e c4 h
      refine ev_loc [1, 2, 3, 0] rfl ?_
      exact l_X7_takesE_268 K28 hK28 q3.1 l1 l2 q1.2 _ h
    · have h := am_t c4 h
      refine ev_aload_n dX7_takesE_257 1 rfl trivial ?_
      refine px_getR dX7_takesE_258 gf_RX7_41 (at7 rfl) (by decide) rfl ?_
      refine ev_iload_n dX7_takesE_261 2 rfl ?_
      obtain ⟨g5, h⟩ := am_gd h
      refine px_zald (n := 10) l1.toNatClampNeg dX7_takesE_262 rfl rfl g5 rfl ?_
      refine ev_if_eq 268 dX7_takesE_263 (by decide) (fun c6 => ?_) (fun c6 => ?_)
      · have h := am_t c6 h
        refine ev_loc [1, 2, 3, 0] rfl ?_
        exact l_X7_takesE_268 K28 hK28 q3.1 l1 l2 q1.2 _ h
      · have h := am_e c6 h
        refine ev_iconst (v := (0 : Int32)) dX7_takesE_266 kI_0 ?_
        obtain rfl := Option.some.inj h
        exact ev_iret dX7_takesE_267 rfl (am_zn (Or.inl rfl))

theorem l_X7_takesE_172 {X : Nat × (Nat → Int32)} (K28 : am_MU → Int32 → Int32 → Int32 → Option (am_MU × Int32)) (hK28 : ∀ (u : am_MU) (l1 : Int32) (l2 : Int32) (l3 : Int32) (r : am_MU × Int32), K28 u l1 l2 l3 = some r → am_Ev X M_X7_takesE 28 [(0, .ref 110), (1, .int l1), (2, .int l2), (3, .int l3)] [] (hp u) (hp r.1, some (.int r.2))) (u : am_MU) (l1 : Int32) (l3 : Int32) (r : am_MU × Int32) (h : g_X7_takesE_172 K28 u l1 l3 = some r) : am_Ev X M_X7_takesE 172 [(0, .ref 110), (1, .int l1), (3, .int l3)] [] (hp u) (hp r.1, some (.int r.2)) := by
  unfold g_X7_takesE_172 at h
  refine ev_aload_n dX7_takesE_172 0 rfl trivial ?_
  obtain ⟨q1, eq1, h⟩ := am_bd h
  refine px_callvi [] (by decide) cl_7 (at7 rfl) dX7_takesE_173 ok_X7_notsOpen lk_RX7_246 in_X7_notsOpen se_X7_notsOpen (by decide) rfl (c_X7_notsOpen eq1) rfl (Nat.le_of_ble_eq_true rfl) ?_
  refine ev_istore_n (L' := [(2, .int q1.2), (0, .ref 110), (1, .int l1), (3, .int l3)]) dX7_takesE_176 (by decide) rfl ?_
  refine ev_goto 28 dX7_takesE_177 (by decide) ?_
  refine ev_loc [1, 2, 0, 3] rfl ?_
  exact hK28 q1.1 l1 q1.2 l3 _ h

theorem l_X7_takesE_158 {X : Nat × (Nat → Int32)} (K28 : am_MU → Int32 → Int32 → Int32 → Option (am_MU × Int32)) (hK28 : ∀ (u : am_MU) (l1 : Int32) (l2 : Int32) (l3 : Int32) (r : am_MU × Int32), K28 u l1 l2 l3 = some r → am_Ev X M_X7_takesE 28 [(0, .ref 110), (1, .int l1), (2, .int l2), (3, .int l3)] [] (hp u) (hp r.1, some (.int r.2))) (u : am_MU) (l1 : Int32) (r : am_MU × Int32) (h : g_X7_takesE_158 K28 u l1 = some r) : am_Ev X M_X7_takesE 158 [(0, .ref 110), (1, .int l1)] [] (hp u) (hp r.1, some (.int r.2)) := by
  unfold g_X7_takesE_158 at h
  refine ev_aload_n dX7_takesE_158 0 rfl trivial ?_
  obtain ⟨q1, eq1, h⟩ := am_bd h
  refine px_callvi [] (by decide) cl_7 (at7 rfl) dX7_takesE_159 ok_X7_takesPart lk_RX7_242 in_X7_takesPart se_X7_takesPart (by decide) rfl (c_X7_takesPart eq1) rfl (Nat.le_of_ble_eq_true rfl) ?_
  refine ev_if_eq 170 dX7_takesE_162 (by decide) (fun c2 => ?_) (fun c2 => ?_)
  · have h := am_t c2 h
    refine ev_iconst (v := (0 : Int32)) dX7_takesE_170 kI_0 ?_
    obtain rfl := Option.some.inj h
    exact ev_iret dX7_takesE_171 rfl (am_zn (Or.inl rfl))
  · have h := am_e c2 h
    refine ev_iconst (v := (0 : Int32)) dX7_takesE_165 kI_0 ?_
    refine ev_istore_n (L' := [(3, .int (0 : Int32)), (0, .ref 110), (1, .int l1)]) dX7_takesE_166 (by decide) rfl ?_
    refine ev_goto 172 dX7_takesE_167 (by decide) ?_
    refine ev_loc [1, 2, 0] rfl ?_
    exact l_X7_takesE_172 K28 hK28 q1.1 l1 (0 : Int32) _ h

theorem l_X7_takesE_97 {X : Nat × (Nat → Int32)} (K28 : am_MU → Int32 → Int32 → Int32 → Option (am_MU × Int32)) (hK28 : ∀ (u : am_MU) (l1 : Int32) (l2 : Int32) (l3 : Int32) (r : am_MU × Int32), K28 u l1 l2 l3 = some r → am_Ev X M_X7_takesE 28 [(0, .ref 110), (1, .int l1), (2, .int l2), (3, .int l3)] [] (hp u) (hp r.1, some (.int r.2))) (u : am_MU) (l1 : Int32) (l3 : Int32) (r : am_MU × Int32) (h : g_X7_takesE_97 K28 u l1 l3 = some r) : am_Ev X M_X7_takesE 97 [(0, .ref 110), (1, .int l1), (3, .int l3)] [] (hp u) (hp r.1, some (.int r.2)) := by
  unfold g_X7_takesE_97 at h
  refine ev_aload_n dX7_takesE_97 0 rfl trivial ?_
  refine px_getI dX7_takesE_98 gf_RX7_206 (at7 rfl) (by decide) rfl ?_
  refine ev_iconst (v := (3 : Int32)) dX7_takesE_101 kI_3 ?_
  refine ev_icmp_ne 158 dX7_takesE_102 (by decide) (fun c1 => ?_) (fun c1 => ?_)
  · have h := am_e c1 h
    refine ev_loc [0, 1] rfl ?_
    exact l_X7_takesE_158 K28 hK28 u l1 _ h
  · have h := am_t c1 h
    refine ev_aload_n dX7_takesE_105 0 rfl trivial ?_
    refine px_getI dX7_takesE_106 gf_RX7_212 (at7 rfl) (by decide) rfl ?_
    refine ev_bipush (v := (40 : Int32)) dX7_takesE_109 kB_40 ?_
    refine ev_icmp_ne 158 dX7_takesE_111 (by decide) (fun c2 => ?_) (fun c2 => ?_)
    · have h := am_e c2 h
      refine ev_loc [0, 1] rfl ?_
      exact l_X7_takesE_158 K28 hK28 u l1 _ h
    · have h := am_t c2 h
      refine ev_iload_n dX7_takesE_114 1 rfl ?_
      refine ev_bipush (v := (8 : Int32)) dX7_takesE_115 kB_8 ?_
      refine ev_icmp_ge 158 dX7_takesE_117 (by decide) (fun c3 => ?_) (fun c3 => ?_)
      · have h := am_t c3 h
        refine ev_loc [0, 1] rfl ?_
        exact l_X7_takesE_158 K28 hK28 u l1 _ h
      · have h := am_e c3 h
        refine ev_aload_n dX7_takesE_120 0 rfl trivial ?_
        refine px_getR dX7_takesE_121 gf_RX7_38 (at7 rfl) (by decide) rfl ?_
        refine ev_aload_n dX7_takesE_124 0 rfl trivial ?_
        refine px_getI dX7_takesE_125 gf_RX7_224 (at7 rfl) (by decide) rfl ?_
        refine ev_bipush (v := ((-11) : Int32)) dX7_takesE_128 kB_m11 ?_
        obtain ⟨g4, h⟩ := am_gd h
        obtain ⟨u5, eu5, h⟩ := am_lt h
        refine px_iast (n := 96) ((u 110 20).toNatClampNeg) dX7_takesE_130 rfl g4 rfl eu5 ?_
        refine ev_aload_n dX7_takesE_131 0 rfl trivial ?_
        refine ev_dup dX7_takesE_132 rfl ?_
        refine px_getI dX7_takesE_133 gf_RX7_224 (at7 rfl) (by decide) rfl ?_
        refine ev_iconst (v := (1 : Int32)) dX7_takesE_136 kI_1 ?_
        refine ev_iadd dX7_takesE_137 ?_
        obtain ⟨u6, eu6, h⟩ := am_lt h
        refine px_putI dX7_takesE_138 pf_RX7_224 (at7 rfl) (by decide) rfl eu6 ?_
        obtain ⟨x7, ex7, h⟩ := am_lt h
        refine ev_iinc (v := x7) (L' := [(1, .int x7), (0, .ref 110), (3, .int l3)]) dX7_takesE_141 1 rfl (by rw [kI_1, ex7]) (by decide) rfl ?_
        refine ev_aload_n dX7_takesE_144 1 rfl trivial ?_
        refine px_getR dX7_takesE_145 gf_RX7_41 (at7 rfl) (by decide) rfl ?_
        refine ev_iload_n dX7_takesE_148 0 rfl ?_
        refine ev_iconst (v := (0 : Int32)) dX7_takesE_149 kI_0 ?_
        obtain ⟨g8, h⟩ := am_gd h
        obtain ⟨u9, eu9, h⟩ := am_lt h
        refine px_zast (n := 10) x7.toNatClampNeg dX7_takesE_150 rfl rfl g8 rfl eu9 ?_
        refine ev_aload_n dX7_takesE_151 1 rfl trivial ?_
        obtain ⟨q10, eq10, h⟩ := am_bd h
        refine px_callvv [] (by decide) cl_7 (at7 rfl) dX7_takesE_152 ok_X7_go lk_RX7_221 in_X7_go se_X7_go (by decide) rfl (c_X7_go eq10) rfl (Nat.le_of_ble_eq_true rfl) ?_
        refine ev_goto 172 dX7_takesE_155 (by decide) ?_
        refine ev_loc [1, 0, 2] rfl ?_
        exact l_X7_takesE_172 K28 hK28 q10 x7 l3 _ h

theorem l_X7_takesE_39 {X : Nat × (Nat → Int32)} (K28 : am_MU → Int32 → Int32 → Int32 → Option (am_MU × Int32)) (hK28 : ∀ (u : am_MU) (l1 : Int32) (l2 : Int32) (l3 : Int32) (r : am_MU × Int32), K28 u l1 l2 l3 = some r → am_Ev X M_X7_takesE 28 [(0, .ref 110), (1, .int l1), (2, .int l2), (3, .int l3)] [] (hp u) (hp r.1, some (.int r.2))) (u : am_MU) (l1 : Int32) (l2 : Int32) (l3 : Int32) (r : am_MU × Int32) (h : g_X7_takesE_39 K28 u l1 l2 l3 = some r) : am_Ev X M_X7_takesE 39 [(0, .ref 110), (1, .int l1), (2, .int l2), (3, .int l3)] [] (hp u) (hp r.1, some (.int r.2)) := by
  unfold g_X7_takesE_39 at h
  refine ev_iload_n dX7_takesE_39 3 rfl ?_
  refine ev_if_eq 180 dX7_takesE_40 (by decide) (fun c1 => ?_) (fun c1 => ?_)
  · have h := am_t c1 h
    refine ev_aload_n dX7_takesE_180 0 rfl trivial ?_
    refine px_getI dX7_takesE_181 gf_RX7_206 (at7 rfl) (by decide) rfl ?_
    refine ev_iconst (v := (3 : Int32)) dX7_takesE_184 kI_3 ?_
    refine ev_icmp_ne 237 dX7_takesE_185 (by decide) (fun c2 => ?_) (fun c2 => ?_)
    · have h := am_e c2 h
      refine ev_loc [0, 1, 2] rfl ?_
      exact l_X7_takesE_237 K28 hK28 u l1 l2 _ h
    · have h := am_t c2 h
      refine ev_aload_n dX7_takesE_188 0 rfl trivial ?_
      refine px_getI dX7_takesE_189 gf_RX7_212 (at7 rfl) (by decide) rfl ?_
      refine ev_bipush (v := (41 : Int32)) dX7_takesE_192 kB_41 ?_
      refine ev_icmp_ne 237 dX7_takesE_194 (by decide) (fun c3 => ?_) (fun c3 => ?_)
      · have h := am_e c3 h
        refine ev_loc [0, 1, 2] rfl ?_
        exact l_X7_takesE_237 K28 hK28 u l1 l2 _ h
      · have h := am_t c3 h
        refine ev_iload_n dX7_takesE_197 1 rfl ?_
        refine ev_if_le 237 dX7_takesE_198 (by decide) (fun c4 => ?_) (fun c4 => ?_)
        · have h := am_t c4 h
          refine ev_loc [0, 1, 2] rfl ?_
          exact l_X7_takesE_237 K28 hK28 u l1 l2 _ h
        · have h := am_e c4 h
          refine ev_aload_n dX7_takesE_201 0 rfl trivial ?_
          refine ev_iconst (v := (0 : Int32)) dX7_takesE_202 kI_0 ?_
          obtain ⟨q5, eq5, h⟩ := am_bd h
          refine px_callvv [.int (0 : Int32)] (by decide) cl_7 (at7 rfl) dX7_takesE_203 ok_X7_settle lk_RX7_239 in_X7_settle se_X7_settle (by decide) rfl (c_X7_settle eq5) rfl (Nat.le_of_ble_eq_true rfl) ?_
          refine ev_aload_n dX7_takesE_206 0 rfl trivial ?_
          refine ev_dup dX7_takesE_207 rfl ?_
          refine px_getI dX7_takesE_208 gf_RX7_224 (at7 rfl) (by decide) rfl ?_
          refine ev_iconst (v := (1 : Int32)) dX7_takesE_211 kI_1 ?_
          refine ev_isub dX7_takesE_212 ?_
          obtain ⟨u6, eu6, h⟩ := am_lt h
          refine px_putI dX7_takesE_213 pf_RX7_224 (at7 rfl) (by decide) rfl eu6 ?_
          obtain ⟨x7, ex7, h⟩ := am_lt h
          refine ev_iinc (v := x7) (L' := [(1, .int x7), (0, .ref 110), (2, .int l2), (3, .int l3)]) dX7_takesE_216 1 rfl (by rw [kI_m1, ex7]) (by decide) rfl ?_
          refine ev_aload_n dX7_takesE_219 1 rfl trivial ?_
          refine ev_bipush (v := (6 : Int32)) dX7_takesE_220 kB_6 ?_
          obtain ⟨q8, eq8, h⟩ := am_bd h
          refine px_callvv [.int (6 : Int32)] (by decide) cl_7 (at7 rfl) dX7_takesE_222 ok_X7_settle lk_RX7_239 in_X7_settle se_X7_settle (by decide) rfl (c_X7_settle eq8) rfl (Nat.le_of_ble_eq_true rfl) ?_
          refine ev_aload_n dX7_takesE_225 1 rfl trivial ?_
          obtain ⟨q9, eq9, h⟩ := am_bd h
          refine px_callvi [] (by decide) cl_7 (at7 rfl) dX7_takesE_226 ok_X7_notsOpen lk_RX7_246 in_X7_notsOpen se_X7_notsOpen (by decide) rfl (c_X7_notsOpen eq9) rfl (Nat.le_of_ble_eq_true rfl) ?_
          refine ev_istore_n (L' := [(2, .int q9.2), (1, .int x7), (0, .ref 110), (3, .int l3)]) dX7_takesE_229 (by decide) rfl ?_
          refine ev_aload_n dX7_takesE_230 2 rfl trivial ?_
          obtain ⟨q10, eq10, h⟩ := am_bd h
          refine px_callvv [] (by decide) cl_7 (at7 rfl) dX7_takesE_231 ok_X7_go lk_RX7_221 in_X7_go se_X7_go (by decide) rfl (c_X7_go eq10) rfl (Nat.le_of_ble_eq_true rfl) ?_
          refine ev_goto 28 dX7_takesE_234 (by decide) ?_
          refine ev_loc [2, 1, 0, 3] rfl ?_
          exact hK28 q10 x7 q9.2 l3 _ h
  · have h := am_e c1 h
    refine ev_aload_n dX7_takesE_43 0 rfl trivial ?_
    refine px_getI dX7_takesE_44 gf_RX7_206 (at7 rfl) (by decide) rfl ?_
    refine ev_iconst (v := (3 : Int32)) dX7_takesE_47 kI_3 ?_
    refine ev_icmp_ne 97 dX7_takesE_48 (by decide) (fun c11 => ?_) (fun c11 => ?_)
    · have h := am_e c11 h
      refine ev_loc [0, 1, 3] rfl ?_
      exact l_X7_takesE_97 K28 hK28 u l1 l3 _ h
    · have h := am_t c11 h
      refine ev_aload_n dX7_takesE_51 0 rfl trivial ?_
      refine px_getI dX7_takesE_52 gf_RX7_212 (at7 rfl) (by decide) rfl ?_
      refine ev_bipush (v := (33 : Int32)) dX7_takesE_55 kB_33 ?_
      refine ev_icmp_ne 97 dX7_takesE_57 (by decide) (fun c12 => ?_) (fun c12 => ?_)
      · have h := am_e c12 h
        refine ev_loc [0, 1, 3] rfl ?_
        exact l_X7_takesE_97 K28 hK28 u l1 l3 _ h
      · have h := am_t c12 h
        refine ev_iload_n dX7_takesE_60 2 rfl ?_
        refine ev_bipush (v := (8 : Int32)) dX7_takesE_61 kB_8 ?_
        refine ev_icmp_ge 97 dX7_takesE_63 (by decide) (fun c13 => ?_) (fun c13 => ?_)
        · have h := am_t c13 h
          refine ev_loc [0, 1, 3] rfl ?_
          exact l_X7_takesE_97 K28 hK28 u l1 l3 _ h
        · have h := am_e c13 h
          refine ev_aload_n dX7_takesE_66 0 rfl trivial ?_
          refine px_getR dX7_takesE_67 gf_RX7_38 (at7 rfl) (by decide) rfl ?_
          refine ev_aload_n dX7_takesE_70 0 rfl trivial ?_
          refine px_getI dX7_takesE_71 gf_RX7_224 (at7 rfl) (by decide) rfl ?_
          refine ev_bipush (v := ((-10) : Int32)) dX7_takesE_74 kB_m10 ?_
          obtain ⟨g14, h⟩ := am_gd h
          obtain ⟨u15, eu15, h⟩ := am_lt h
          refine px_iast (n := 96) ((u 110 20).toNatClampNeg) dX7_takesE_76 rfl g14 rfl eu15 ?_
          refine ev_aload_n dX7_takesE_77 0 rfl trivial ?_
          refine ev_dup dX7_takesE_78 rfl ?_
          refine px_getI dX7_takesE_79 gf_RX7_224 (at7 rfl) (by decide) rfl ?_
          refine ev_iconst (v := (1 : Int32)) dX7_takesE_82 kI_1 ?_
          refine ev_iadd dX7_takesE_83 ?_
          obtain ⟨u16, eu16, h⟩ := am_lt h
          refine px_putI dX7_takesE_84 pf_RX7_224 (at7 rfl) (by decide) rfl eu16 ?_
          obtain ⟨x17, ex17, h⟩ := am_lt h
          refine ev_iinc (v := x17) (L' := [(2, .int x17), (0, .ref 110), (1, .int l1), (3, .int l3)]) dX7_takesE_87 2 rfl (by rw [kI_1, ex17]) (by decide) rfl ?_
          refine ev_aload_n dX7_takesE_90 1 rfl trivial ?_
          obtain ⟨q18, eq18, h⟩ := am_bd h
          refine px_callvv [] (by decide) cl_7 (at7 rfl) dX7_takesE_91 ok_X7_go lk_RX7_221 in_X7_go se_X7_go (by decide) rfl (c_X7_go eq18) rfl (Nat.le_of_ble_eq_true rfl) ?_
          refine ev_goto 172 dX7_takesE_94 (by decide) ?_
          refine ev_loc [1, 2, 3] rfl ?_
          exact l_X7_takesE_172 K28 hK28 q18 l1 l3 _ h

theorem l_X7_takesE_28 {X : Nat × (Nat → Int32)}   : ∀ (n : Nat) (u : am_MU) (l1 : Int32) (l2 : Int32) (l3 : Int32) (r : am_MU × Int32), g_X7_takesE_28  n u l1 l2 l3 = some r → am_Ev X M_X7_takesE 28 [(0, .ref 110), (1, .int l1), (2, .int l2), (3, .int l3)] [] (hp u) (hp r.1, some (.int r.2)) := by
  intro n
  induction n with
  | zero => intro u l1 l2 l3 r h; cases h
  | succ n ih =>
    intro u l1 l2 l3 r h
    rw [g_X7_takesE_28] at h
    refine ev_iload_n dX7_takesE_28 3 rfl ?_
    refine ev_if_ne 39 dX7_takesE_29 (by decide) (fun c1 => ?_) (fun c1 => ?_)
    · have h := am_e c1 h
      refine ev_loc [0, 1, 2, 3] rfl ?_
      exact l_X7_takesE_39 (g_X7_takesE_28 n) (fun u l1 l2 l3 r h => ih u l1 l2 l3 r h) u l1 l2 l3 _ h
    · have h := am_t c1 h
      refine ev_aload_n dX7_takesE_32 0 rfl trivial ?_
      refine px_getI dX7_takesE_33 gf_RX7_206 (at7 rfl) (by decide) rfl ?_
      refine ev_if_eq 345 dX7_takesE_36 (by decide) (fun c2 => ?_) (fun c2 => ?_)
      · have h := am_t c2 h
        refine ev_aload_n dX7_takesE_345 0 rfl trivial ?_
        refine ev_iconst (v := (0 : Int32)) dX7_takesE_346 kI_0 ?_
        obtain ⟨q3, eq3, h⟩ := am_bd h
        refine px_callvv [.int (0 : Int32)] (by decide) cl_7 (at7 rfl) dX7_takesE_347 ok_X7_settle lk_RX7_239 in_X7_settle se_X7_settle (by decide) rfl (c_X7_settle eq3) rfl (Nat.le_of_ble_eq_true rfl) ?_
        refine ev_iload_n dX7_takesE_350 1 rfl ?_
        refine ev_if_ne 358 dX7_takesE_351 (by decide) (fun c4 => ?_) (fun c4 => ?_)
        · have h := am_e c4 h
          refine ev_iconst (v := (0 : Int32)) dX7_takesE_358 kI_0 ?_
          obtain rfl := Option.some.inj h
          exact ev_iret dX7_takesE_359 rfl (am_zn (Or.inl rfl))
        · have h := am_t c4 h
          refine ev_iconst (v := (1 : Int32)) dX7_takesE_354 kI_1 ?_
          refine ev_goto 359 dX7_takesE_355 (by decide) ?_
          obtain rfl := Option.some.inj h
          exact ev_iret dX7_takesE_359 rfl (am_zn (Or.inr rfl))
      · have h := am_e c2 h
        refine ev_loc [0, 1, 2, 3] rfl ?_
        exact l_X7_takesE_39 (g_X7_takesE_28 n) (fun u l1 l2 l3 r h => ih u l1 l2 l3 r h) u l1 l2 l3 _ h

theorem l_X7_takesE_0 {X : Nat × (Nat → Int32)}   (u : am_MU)  (r : am_MU × Int32) (h : f_X7_takesE  u  = some r) : am_Ev X M_X7_takesE 0 [(0, .ref 110)] [] (hp u) (hp r.1, some (.int r.2)) := by
  unfold f_X7_takesE at h
  refine ev_iconst (v := (0 : Int32)) dX7_takesE_0 kI_0 ?_
  refine ev_istore_n (L' := [(1, .int (0 : Int32)), (0, .ref 110)]) dX7_takesE_1 (by decide) rfl ?_
  refine ev_iconst (v := (0 : Int32)) dX7_takesE_2 kI_0 ?_
  refine ev_istore_n (L' := [(2, .int (0 : Int32)), (1, .int (0 : Int32)), (0, .ref 110)]) dX7_takesE_3 (by decide) rfl ?_
  refine ev_iconst (v := (1 : Int32)) dX7_takesE_4 kI_1 ?_
  refine ev_istore_n (L' := [(3, .int (1 : Int32)), (2, .int (0 : Int32)), (1, .int (0 : Int32)), (0, .ref 110)]) dX7_takesE_5 (by decide) rfl ?_
  refine ev_aload_n dX7_takesE_6 3 rfl trivial ?_
  refine ev_iconst (v := (0 : Int32)) dX7_takesE_7 kI_0 ?_
  obtain ⟨u1, eu1, h⟩ := am_lt h
  refine px_putI dX7_takesE_8 pf_RX7_230 (at7 rfl) (by decide) rfl eu1 ?_
  refine ev_aload_n dX7_takesE_11 3 rfl trivial ?_
  refine ev_iconst (v := (0 : Int32)) dX7_takesE_12 kI_0 ?_
  obtain ⟨u2, eu2, h⟩ := am_lt h
  refine px_putI dX7_takesE_13 pf_RX7_236 (at7 rfl) (by decide) rfl eu2 ?_
  refine ev_aload_n dX7_takesE_16 3 rfl trivial ?_
  refine ev_iconst (v := (0 : Int32)) dX7_takesE_17 kI_0 ?_
  obtain ⟨u3, eu3, h⟩ := am_lt h
  refine px_putI dX7_takesE_18 pf_RX7_224 (at7 rfl) (by decide) rfl eu3 ?_
  refine ev_aload_n dX7_takesE_21 3 rfl trivial ?_
  refine px_getR dX7_takesE_22 gf_RX7_41 (at7 rfl) (by decide) rfl ?_
  refine ev_iconst (v := (0 : Int32)) dX7_takesE_25 kI_0 ?_
  refine ev_iconst (v := (0 : Int32)) dX7_takesE_26 kI_0 ?_
  obtain ⟨u4, eu4, h⟩ := am_lt h
  refine px_zast (n := 10) 0 dX7_takesE_27 rfl rfl (by decide) (by decide) eu4 ?_
  refine ev_loc [3, 2, 1, 0] rfl ?_
  exact l_X7_takesE_28   1700 u4 (0 : Int32) (0 : Int32) (1 : Int32) _ h

theorem c_X7_takesE {X : Nat × (Nat → Int32)} {u : am_MU}  {r : am_MU × Int32} (h : f_X7_takesE u  = some r) : am_Cn X M_X7_takesE [.ref 110] (hp u) (hp r.1, some (.int r.2)) := by
  refine am_Cn.of ok_X7_takesE (Nat.le_refl _) (Nat.le_refl _) (Nat.le_of_ble_eq_true rfl) ?_
  refine ev_loc [0] rfl ?_
  exact l_X7_takesE_0 u  r h

-- SandRipplesModel.text()I
def g_X7_text_119  : Nat → am_MU → Int32 → Int32 → Option (am_MU × Int32)
  | 0 => fun _ _ _ => none
  | n + 1 => fun u l2 l3 =>
if (u 110 17) ≤ l3 then (am_let (am_u2 u 111 6 ((u 111 6) + (1 : Int32))) fun u2 =>
some (u2, l2))
else (if am_in l3 96 then (
if am_in (((191 : Int32) + ((96 : Int32) * l2)) + l3) 1535 then (
am_let (am_u2 u 111 ((((191 : Int32) + ((96 : Int32) * l2)) + l3).toNatClampNeg) (u 119 l3.toNatClampNeg)) fun u5 =>
am_let (l3 + (1 : Int32)) fun x6 =>
g_X7_text_119 n u5 l2 x6) else none) else none)

def g_X7_text_33  (u : am_MU) (s0 : Int32) : Option (am_MU × Int32) :=
am_let (am_u2 u 110 7 (0 : Int32)) fun u1 =>
if s0 = 0 then (some (u1, ((-100) : Int32) - (u1 110 9)))
else (if (u1 111 6) = (14 : Int32) then (some (u1, ((-1000000003) : Int32)))
else (am_let (u1 111 6) fun x4 =>
if am_in ((163 : Int32) + ((2 : Int32) * x4)) 1535 then (
am_let (am_u2 u1 111 (((163 : Int32) + ((2 : Int32) * x4)).toNatClampNeg) (((1000 : Int32) * (u1 110 13)) + (u1 110 17))) fun u6 =>
if am_in (((163 : Int32) + ((2 : Int32) * x4)) + (1 : Int32)) 1535 then (
am_let (am_u2 u6 111 ((((163 : Int32) + ((2 : Int32) * x4)) + (1 : Int32)).toNatClampNeg) (u6 110 18)) fun u8 =>
g_X7_text_119 1700 u8 x4 (0 : Int32)) else none) else none))

def g_X7_text_32  (u : am_MU)  : Option (am_MU × Int32) :=
g_X7_text_33 u (0 : Int32)

def f_X7_text  (u : am_MU)  : Option (am_MU × Int32) :=
am_let (am_u2 u 110 8 (0 : Int32)) fun u1 =>
am_let (am_u2 u1 110 12 ((-1) : Int32)) fun u2 =>
(f_X7_go u2 ).bind fun q3 =>
(f_X7_takesKey q3 ).bind fun q4 =>
if q4.2 = 0 then (g_X7_text_32 q4.1 )
else ((f_X7_takesE q4.1 ).bind fun q6 =>
if q6.2 = 0 then (g_X7_text_32 q6.1 )
else (g_X7_text_33 q6.1 (1 : Int32)))

theorem l_X7_text_119 {X : Nat × (Nat → Int32)}   : ∀ (n : Nat) (u : am_MU) (l2 : Int32) (l3 : Int32) (r : am_MU × Int32), g_X7_text_119  n u l2 l3 = some r → am_Ev X M_X7_text 119 [(0, .ref 110), (2, .int l2), (3, .int l3)] [] (hp u) (hp r.1, some (.int r.2)) := by
  intro n
  induction n with
  | zero => intro u l2 l3 r h; cases h
  | succ n ih =>
    intro u l2 l3 r h
    rw [g_X7_text_119] at h
    refine ev_iload_n dX7_text_119 2 rfl ?_
    refine ev_aload_n dX7_text_120 0 rfl trivial ?_
    refine px_getI dX7_text_121 gf_RX7_230 (at7 rfl) (by decide) rfl ?_
    refine ev_icmp_ge 154 dX7_text_124 (by decide) (fun c1 => ?_) (fun c1 => ?_)
    · have h := am_t c1 h
      refine ev_aload_n dX7_text_154 0 rfl trivial ?_
      refine px_getR dX7_text_155 gf_RX7_9 (at7 rfl) (by decide) rfl ?_
      refine ev_bipush (v := (6 : Int32)) dX7_text_158 kB_6 ?_
      refine ev_dup2 dX7_text_160 rfl rfl ?_
      refine px_iald (n := 1535) 6 dX7_text_161 rfl (by decide) (by decide) ?_
      refine ev_iconst (v := (1 : Int32)) dX7_text_162 kI_1 ?_
      refine ev_iadd dX7_text_163 ?_
      obtain ⟨u2, eu2, h⟩ := am_lt h
      refine px_iast (n := 1535) 6 dX7_text_164 rfl (by decide) (by decide) eu2 ?_
      refine ev_iload_n dX7_text_165 1 rfl ?_
      obtain rfl := Option.some.inj h
      exact ev_iret dX7_text_166 rfl rfl
    · have h := am_e c1 h
      refine ev_aload_n dX7_text_127 0 rfl trivial ?_
      refine px_getR dX7_text_128 gf_RX7_9 (at7 rfl) (by decide) rfl ?_
      refine ev_sipush (v := (191 : Int32)) dX7_text_131 kS_191 ?_
      refine ev_bipush (v := (96 : Int32)) dX7_text_134 kB_96 ?_
      refine ev_iload_n dX7_text_136 1 rfl ?_
      refine ev_imul dX7_text_137 ?_
      refine ev_iadd dX7_text_138 ?_
      refine ev_iload_n dX7_text_139 2 rfl ?_
      refine ev_iadd dX7_text_140 ?_
      refine ev_aload_n dX7_text_141 0 rfl trivial ?_
      refine px_getR dX7_text_142 gf_RX7_35 (at7 rfl) (by decide) rfl ?_
      refine ev_iload_n dX7_text_145 2 rfl ?_
      obtain ⟨g3, h⟩ := am_gd h
      refine px_iald (n := 96) l3.toNatClampNeg dX7_text_146 rfl g3 rfl ?_
      obtain ⟨g4, h⟩ := am_gd h
      obtain ⟨u5, eu5, h⟩ := am_lt h
      refine px_iast (n := 1535) ((((191 : Int32) + ((96 : Int32) * l2)) + l3).toNatClampNeg) dX7_text_147 rfl g4 rfl eu5 ?_
      obtain ⟨x6, ex6, h⟩ := am_lt h
      refine ev_iinc (v := x6) (L' := [(3, .int x6), (0, .ref 110), (2, .int l2)]) dX7_text_148 2 rfl (by rw [kI_1, ex6]) (by decide) rfl ?_
      refine ev_goto 119 dX7_text_151 (by decide) ?_
      refine ev_loc [1, 2, 0] rfl ?_
      exact ih u5 l2 x6 _ h

theorem l_X7_text_33 {X : Nat × (Nat → Int32)}   (u : am_MU) (s0 : Int32) (r : am_MU × Int32) (h : g_X7_text_33  u s0 = some r) : am_Ev X M_X7_text 33 [(0, .ref 110)] [.int s0] (hp u) (hp r.1, some (.int r.2)) := by
  unfold g_X7_text_33 at h
  refine ev_istore_n (L' := [(1, .int s0), (0, .ref 110)]) dX7_text_33 (by decide) rfl ?_
  refine ev_aload_n dX7_text_34 1 rfl trivial ?_
  refine ev_iconst (v := (0 : Int32)) dX7_text_35 kI_0 ?_
  obtain ⟨u1, eu1, h⟩ := am_lt h
  refine px_putI dX7_text_36 pf_RX7_193 (at7 rfl) (by decide) rfl eu1 ?_
  refine ev_iload_n dX7_text_39 0 rfl ?_
  refine ev_if_ne 51 dX7_text_40 (by decide) (fun c2 => ?_) (fun c2 => ?_)
  · have h := am_e c2 h
    refine ev_aload_n dX7_text_51 1 rfl trivial ?_
    refine px_getR dX7_text_52 gf_RX7_9 (at7 rfl) (by decide) rfl ?_
    refine ev_bipush (v := (6 : Int32)) dX7_text_55 kB_6 ?_
    refine px_iald (n := 1535) 6 dX7_text_57 rfl (by decide) (by decide) ?_
    refine ev_bipush (v := (14 : Int32)) dX7_text_58 kB_14 ?_
    refine ev_icmp_ne 66 dX7_text_60 (by decide) (fun c3 => ?_) (fun c3 => ?_)
    · have h := am_e c3 h
      refine ev_aload_n dX7_text_66 1 rfl trivial ?_
      refine px_getR dX7_text_67 gf_RX7_9 (at7 rfl) (by decide) rfl ?_
      refine ev_bipush (v := (6 : Int32)) dX7_text_70 kB_6 ?_
      refine px_iald (n := 1535) 6 dX7_text_72 rfl (by decide) (by decide) ?_
      obtain ⟨x4, ex4, h⟩ := am_lt h
      refine px_top ex4 ?_
      refine ev_istore_n (L' := [(2, .int x4), (1, .int s0), (0, .ref 110)]) dX7_text_73 (by decide) rfl ?_
      refine ev_aload_n dX7_text_74 2 rfl trivial ?_
      refine px_getR dX7_text_75 gf_RX7_9 (at7 rfl) (by decide) rfl ?_
      refine ev_sipush (v := (163 : Int32)) dX7_text_78 kS_163 ?_
      refine ev_iconst (v := (2 : Int32)) dX7_text_81 kI_2 ?_
      refine ev_iload_n dX7_text_82 0 rfl ?_
      refine ev_imul dX7_text_83 ?_
      refine ev_iadd dX7_text_84 ?_
      refine ev_sipush (v := (1000 : Int32)) dX7_text_85 kS_1000 ?_
      refine ev_aload_n dX7_text_88 2 rfl trivial ?_
      refine px_getI dX7_text_89 gf_RX7_218 (at7 rfl) (by decide) rfl ?_
      refine ev_imul dX7_text_92 ?_
      refine ev_aload_n dX7_text_93 2 rfl trivial ?_
      refine px_getI dX7_text_94 gf_RX7_230 (at7 rfl) (by decide) rfl ?_
      refine ev_iadd dX7_text_97 ?_
      obtain ⟨g5, h⟩ := am_gd h
      obtain ⟨u6, eu6, h⟩ := am_lt h
      refine px_iast (n := 1535) (((163 : Int32) + ((2 : Int32) * x4)).toNatClampNeg) dX7_text_98 rfl g5 rfl eu6 ?_
      refine ev_aload_n dX7_text_99 2 rfl trivial ?_
      refine px_getR dX7_text_100 gf_RX7_9 (at7 rfl) (by decide) rfl ?_
      refine ev_sipush (v := (163 : Int32)) dX7_text_103 kS_163 ?_
      refine ev_iconst (v := (2 : Int32)) dX7_text_106 kI_2 ?_
      refine ev_iload_n dX7_text_107 0 rfl ?_
      refine ev_imul dX7_text_108 ?_
      refine ev_iadd dX7_text_109 ?_
      refine ev_iconst (v := (1 : Int32)) dX7_text_110 kI_1 ?_
      refine ev_iadd dX7_text_111 ?_
      refine ev_aload_n dX7_text_112 2 rfl trivial ?_
      refine px_getI dX7_text_113 gf_RX7_236 (at7 rfl) (by decide) rfl ?_
      obtain ⟨g7, h⟩ := am_gd h
      obtain ⟨u8, eu8, h⟩ := am_lt h
      refine px_iast (n := 1535) ((((163 : Int32) + ((2 : Int32) * x4)) + (1 : Int32)).toNatClampNeg) dX7_text_116 rfl g7 rfl eu8 ?_
      refine ev_iconst (v := (0 : Int32)) dX7_text_117 kI_0 ?_
      refine ev_istore_n (L' := [(3, .int (0 : Int32)), (2, .int x4), (1, .int s0), (0, .ref 110)]) dX7_text_118 (by decide) rfl ?_
      refine ev_loc [3, 1, 0] rfl ?_
      exact l_X7_text_119   1700 u8 x4 (0 : Int32) _ h
    · have h := am_t c3 h
      refine ev_ldc (v := ((-1000000003) : Int32)) dX7_text_63 tw_934 ?_
      obtain rfl := Option.some.inj h
      exact ev_iret dX7_text_65 rfl rfl
  · have h := am_t c2 h
    refine ev_bipush (v := ((-100) : Int32)) dX7_text_43 kB_m100 ?_
    refine ev_aload_n dX7_text_45 1 rfl trivial ?_
    refine px_getI dX7_text_46 gf_RX7_200 (at7 rfl) (by decide) rfl ?_
    refine ev_isub dX7_text_49 ?_
    obtain rfl := Option.some.inj h
    exact ev_iret dX7_text_50 rfl rfl

theorem l_X7_text_32 {X : Nat × (Nat → Int32)}   (u : am_MU)  (r : am_MU × Int32) (h : g_X7_text_32  u  = some r) : am_Ev X M_X7_text 32 [(0, .ref 110)] [] (hp u) (hp r.1, some (.int r.2)) := by
  unfold g_X7_text_32 at h
  refine ev_iconst (v := (0 : Int32)) dX7_text_32 kI_0 ?_
  refine ev_loc [0] rfl ?_
  exact l_X7_text_33   u (0 : Int32) _ h

theorem l_X7_text_0 {X : Nat × (Nat → Int32)}   (u : am_MU)  (r : am_MU × Int32) (h : f_X7_text  u  = some r) : am_Ev X M_X7_text 0 [(0, .ref 110)] [] (hp u) (hp r.1, some (.int r.2)) := by
  unfold f_X7_text at h
  refine ev_aload_n dX7_text_0 0 rfl trivial ?_
  refine ev_iconst (v := (0 : Int32)) dX7_text_1 kI_0 ?_
  obtain ⟨u1, eu1, h⟩ := am_lt h
  refine px_putI dX7_text_2 pf_RX7_197 (at7 rfl) (by decide) rfl eu1 ?_
  refine ev_aload_n dX7_text_5 0 rfl trivial ?_
  refine ev_iconst (v := ((-1) : Int32)) dX7_text_6 kI_m1 ?_
  obtain ⟨u2, eu2, h⟩ := am_lt h
  refine px_putI dX7_text_7 pf_RX7_203 (at7 rfl) (by decide) rfl eu2 ?_
  refine ev_aload_n dX7_text_10 0 rfl trivial ?_
  obtain ⟨q3, eq3, h⟩ := am_bd h
  refine px_callvv [] (by decide) cl_7 (at7 rfl) dX7_text_11 ok_X7_go lk_RX7_221 in_X7_go se_X7_go (by decide) rfl (c_X7_go eq3) rfl (Nat.le_of_ble_eq_true rfl) ?_
  refine ev_aload_n dX7_text_14 0 rfl trivial ?_
  obtain ⟨q4, eq4, h⟩ := am_bd h
  refine px_callvi [] (by decide) cl_7 (at7 rfl) dX7_text_15 ok_X7_takesKey lk_RX7_252 in_X7_takesKey se_X7_takesKey (by decide) rfl (c_X7_takesKey eq4) rfl (Nat.le_of_ble_eq_true rfl) ?_
  refine ev_if_eq 32 dX7_text_18 (by decide) (fun c5 => ?_) (fun c5 => ?_)
  · have h := am_t c5 h
    refine ev_loc [0] rfl ?_
    exact l_X7_text_32   q4.1  _ h
  · have h := am_e c5 h
    refine ev_aload_n dX7_text_21 0 rfl trivial ?_
    obtain ⟨q6, eq6, h⟩ := am_bd h
    refine px_callvi [] (by decide) cl_7 (at7 rfl) dX7_text_22 ok_X7_takesE lk_RX7_255 in_X7_takesE se_X7_takesE (by decide) rfl (c_X7_takesE eq6) rfl (Nat.le_of_ble_eq_true rfl) ?_
    refine ev_if_eq 32 dX7_text_25 (by decide) (fun c7 => ?_) (fun c7 => ?_)
    · have h := am_t c7 h
      refine ev_loc [0] rfl ?_
      exact l_X7_text_32   q6.1  _ h
    · have h := am_e c7 h
      refine ev_iconst (v := (1 : Int32)) dX7_text_28 kI_1 ?_
      refine ev_goto 33 dX7_text_29 (by decide) ?_
      refine ev_loc [0] rfl ?_
      exact l_X7_text_33   q6.1 (1 : Int32) _ h

theorem c_X7_text {X : Nat × (Nat → Int32)} {u : am_MU}  {r : am_MU × Int32} (h : f_X7_text u  = some r) : am_Cn X M_X7_text [.ref 110] (hp u) (hp r.1, some (.int r.2)) := by
  refine am_Cn.of ok_X7_text (Nat.le_refl _) (Nat.le_refl _) (Nat.le_of_ble_eq_true rfl) ?_
  refine ev_loc [0] rfl ?_
  exact l_X7_text_0 u  r h

-- SandRipplesModel.textTold(II)I
def f_X7_textTold  (u : am_MU) (l1 : Int32) (l2 : Int32) : Option (am_MU × Int32) :=
(f_X7_in u l1 (0 : Int32) ((u 111 6) - (1 : Int32))).bind fun q1 =>
if q1.2 = 0 then (some (q1.1, ((-1000000001) : Int32)))
else ((f_X7_in q1.1 l2 (0 : Int32) (1 : Int32)).bind fun q3 =>
if q3.2 = 0 then (some (q3.1, ((-1000000001) : Int32)))
else (if l2 = 0 then (if am_in ((163 : Int32) + ((2 : Int32) * l1)) 1535 then (
some (q3.1, (q3.1 111 (((163 : Int32) + ((2 : Int32) * l1)).toNatClampNeg)) / (1000 : Int32))) else none)
else (if am_in (((163 : Int32) + ((2 : Int32) * l1)) + (1 : Int32)) 1535 then (
some (q3.1, q3.1 111 ((((163 : Int32) + ((2 : Int32) * l1)) + (1 : Int32)).toNatClampNeg))) else none)))

theorem l_X7_textTold_0 {X : Nat × (Nat → Int32)}   (u : am_MU) (l1 : Int32) (l2 : Int32) (r : am_MU × Int32) (h : f_X7_textTold  u l1 l2 = some r) : am_Ev X M_X7_textTold 0 [(0, .ref 110), (1, .int l1), (2, .int l2)] [] (hp u) (hp r.1, some (.int r.2)) := by
  unfold f_X7_textTold at h
  refine ev_iload_n dX7_textTold_0 1 rfl ?_
  refine ev_iconst (v := (0 : Int32)) dX7_textTold_1 kI_0 ?_
  refine ev_aload_n dX7_textTold_2 0 rfl trivial ?_
  refine px_getR dX7_textTold_3 gf_RX7_9 (at7 rfl) (by decide) rfl ?_
  refine ev_bipush (v := (6 : Int32)) dX7_textTold_6 kB_6 ?_
  refine px_iald (n := 1535) 6 dX7_textTold_8 rfl (by decide) (by decide) ?_
  refine ev_iconst (v := (1 : Int32)) dX7_textTold_9 kI_1 ?_
  refine ev_isub dX7_textTold_10 ?_
  obtain ⟨q1, eq1, h⟩ := am_bd h
  refine px_callsi [.int l1, .int (0 : Int32), .int ((u 111 6) - (1 : Int32))] dX7_textTold_11 ok_X7_in lk_RX7_78 st_X7_in (by decide) rfl (c_X7_in eq1) rfl (Nat.le_of_ble_eq_true rfl) ?_
  refine ev_if_eq 26 dX7_textTold_14 (by decide) (fun c2 => ?_) (fun c2 => ?_)
  · have h := am_t c2 h
    refine ev_ldc (v := ((-1000000001) : Int32)) dX7_textTold_26 tw_933 ?_
    obtain rfl := Option.some.inj h
    exact ev_iret dX7_textTold_28 rfl rfl
  · have h := am_e c2 h
    refine ev_iload_n dX7_textTold_17 2 rfl ?_
    refine ev_iconst (v := (0 : Int32)) dX7_textTold_18 kI_0 ?_
    refine ev_iconst (v := (1 : Int32)) dX7_textTold_19 kI_1 ?_
    obtain ⟨q3, eq3, h⟩ := am_bd h
    refine px_callsi [.int l2, .int (0 : Int32), .int (1 : Int32)] dX7_textTold_20 ok_X7_in lk_RX7_78 st_X7_in (by decide) rfl (c_X7_in eq3) rfl (Nat.le_of_ble_eq_true rfl) ?_
    refine ev_if_ne 29 dX7_textTold_23 (by decide) (fun c4 => ?_) (fun c4 => ?_)
    · have h := am_e c4 h
      refine ev_iload_n dX7_textTold_29 2 rfl ?_
      refine ev_if_ne 52 dX7_textTold_30 (by decide) (fun c5 => ?_) (fun c5 => ?_)
      · have h := am_e c5 h
        refine ev_aload_n dX7_textTold_52 0 rfl trivial ?_
        refine px_getR dX7_textTold_53 gf_RX7_9 (at7 rfl) (by decide) rfl ?_
        refine ev_sipush (v := (163 : Int32)) dX7_textTold_56 kS_163 ?_
        refine ev_iconst (v := (2 : Int32)) dX7_textTold_59 kI_2 ?_
        refine ev_iload_n dX7_textTold_60 1 rfl ?_
        refine ev_imul dX7_textTold_61 ?_
        refine ev_iadd dX7_textTold_62 ?_
        refine ev_iconst (v := (1 : Int32)) dX7_textTold_63 kI_1 ?_
        refine ev_iadd dX7_textTold_64 ?_
        obtain ⟨g6, h⟩ := am_gd h
        refine px_iald (n := 1535) ((((163 : Int32) + ((2 : Int32) * l1)) + (1 : Int32)).toNatClampNeg) dX7_textTold_65 rfl g6 rfl ?_
        obtain rfl := Option.some.inj h
        exact ev_iret dX7_textTold_66 rfl rfl
      · have h := am_t c5 h
        refine ev_aload_n dX7_textTold_33 0 rfl trivial ?_
        refine px_getR dX7_textTold_34 gf_RX7_9 (at7 rfl) (by decide) rfl ?_
        refine ev_sipush (v := (163 : Int32)) dX7_textTold_37 kS_163 ?_
        refine ev_iconst (v := (2 : Int32)) dX7_textTold_40 kI_2 ?_
        refine ev_iload_n dX7_textTold_41 1 rfl ?_
        refine ev_imul dX7_textTold_42 ?_
        refine ev_iadd dX7_textTold_43 ?_
        obtain ⟨g7, h⟩ := am_gd h
        refine px_iald (n := 1535) (((163 : Int32) + ((2 : Int32) * l1)).toNatClampNeg) dX7_textTold_44 rfl g7 rfl ?_
        refine ev_sipush (v := (1000 : Int32)) dX7_textTold_45 kS_1000 ?_
        refine ev_idiv dX7_textTold_48 (by decide) ?_
        refine ev_goto 66 dX7_textTold_49 (by decide) ?_
        obtain rfl := Option.some.inj h
        exact ev_iret dX7_textTold_66 rfl rfl
    · have h := am_t c4 h
      refine ev_ldc (v := ((-1000000001) : Int32)) dX7_textTold_26 tw_933 ?_
      obtain rfl := Option.some.inj h
      exact ev_iret dX7_textTold_28 rfl rfl

theorem c_X7_textTold {X : Nat × (Nat → Int32)} {u : am_MU} {l1 : Int32} {l2 : Int32} {r : am_MU × Int32} (h : f_X7_textTold u l1 l2 = some r) : am_Cn X M_X7_textTold [.ref 110, .int l1, .int l2] (hp u) (hp r.1, some (.int r.2)) := by
  refine am_Cn.of ok_X7_textTold (Nat.le_refl _) (Nat.le_refl _) (Nat.le_of_ble_eq_true rfl) ?_
  refine ev_loc [0, 1, 2] rfl ?_
  exact l_X7_textTold_0 u l1 l2 r h

-- SandRipplesModel.why(I)I
def f_X7_why  (u : am_MU) (l1 : Int32) : Option (am_MU × Int32) :=
(f_X7_in u l1 (0 : Int32) (2 : Int32)).bind fun q1 =>
if q1.2 = 0 then (some (q1.1, ((-1000000001) : Int32)))
else ((f_X7_counts q1.1 l1).bind fun q3 =>
if 0 ≤ q3.2 then (some (q3.1, q3.2))
else (some (q3.1, ((-1000000005) : Int32))))

theorem l_X7_why_0 {X : Nat × (Nat → Int32)}   (u : am_MU) (l1 : Int32) (r : am_MU × Int32) (h : f_X7_why  u l1 = some r) : am_Ev X M_X7_why 0 [(0, .ref 110), (1, .int l1)] [] (hp u) (hp r.1, some (.int r.2)) := by
  unfold f_X7_why at h
  refine ev_iload_n dX7_why_0 1 rfl ?_
  refine ev_iconst (v := (0 : Int32)) dX7_why_1 kI_0 ?_
  refine ev_iconst (v := (2 : Int32)) dX7_why_2 kI_2 ?_
  obtain ⟨q1, eq1, h⟩ := am_bd h
  refine px_callsi [.int l1, .int (0 : Int32), .int (2 : Int32)] dX7_why_3 ok_X7_in lk_RX7_78 st_X7_in (by decide) rfl (c_X7_in eq1) rfl (Nat.le_of_ble_eq_true rfl) ?_
  refine ev_if_ne 12 dX7_why_6 (by decide) (fun c2 => ?_) (fun c2 => ?_)
  · have h := am_e c2 h
    refine ev_aload_n dX7_why_12 0 rfl trivial ?_
    refine ev_iload_n dX7_why_13 1 rfl ?_
    obtain ⟨q3, eq3, h⟩ := am_bd h
    refine px_callvi [.int l1] (by decide) cl_7 (at7 rfl) dX7_why_14 ok_X7_counts lk_RX7_105 in_X7_counts se_X7_counts (by decide) rfl (c_X7_counts eq3) rfl (Nat.le_of_ble_eq_true rfl) ?_
    refine ev_istore_n (L' := [(2, .int q3.2), (0, .ref 110), (1, .int l1)]) dX7_why_17 (by decide) rfl ?_
    refine ev_iload_n dX7_why_18 0 rfl ?_
    refine ev_if_ge 27 dX7_why_19 (by decide) (fun c4 => ?_) (fun c4 => ?_)
    · have h := am_t c4 h
      refine ev_iload_n dX7_why_27 0 rfl ?_
      obtain rfl := Option.some.inj h
      exact ev_iret dX7_why_28 rfl rfl
    · have h := am_e c4 h
      refine ev_ldc (v := ((-1000000005) : Int32)) dX7_why_22 tw_1083 ?_
      refine ev_goto 28 dX7_why_24 (by decide) ?_
      obtain rfl := Option.some.inj h
      exact ev_iret dX7_why_28 rfl rfl
  · have h := am_t c2 h
    refine ev_ldc (v := ((-1000000001) : Int32)) dX7_why_9 tw_933 ?_
    obtain rfl := Option.some.inj h
    exact ev_iret dX7_why_11 rfl rfl

theorem c_X7_why {X : Nat × (Nat → Int32)} {u : am_MU} {l1 : Int32} {r : am_MU × Int32} (h : f_X7_why u l1 = some r) : am_Cn X M_X7_why [.ref 110, .int l1] (hp u) (hp r.1, some (.int r.2)) := by
  refine am_Cn.of ok_X7_why (Nat.le_refl _) (Nat.le_refl _) (Nat.le_of_ble_eq_true rfl) ?_
  refine ev_loc [0, 1] rfl ?_
  exact l_X7_why_0 u l1 r h

-- SandRipplesModel.sheet(III)I
def g_X7_sheet_66  : Nat → am_MU → Int32 → Int32 → Option (am_MU × Int32)
  | 0 => fun _ _ _ => none
  | n + 1 => fun u l1 l4 =>
if (24 : Int32) ≤ l4 then (if am_in l1 4 then (
some (u, u 125 l1.toNatClampNeg)) else none)
else (if am_in (((24 : Int32) * l1) + l4) 96 then (
am_let (am_u2 u 126 ((((24 : Int32) * l1) + l4).toNatClampNeg) (0 : Int32)) fun u4 =>
am_let (l4 + (1 : Int32)) fun x5 =>
g_X7_sheet_66 n u4 l1 x5) else none)

def g_X7_sheet_62  (u : am_MU) (l1 : Int32) (s1 : Int32) (s2 : Int32) : Option (am_MU × Int32) :=
if am_in s1 4 then (
am_let (am_u2 u 125 s1.toNatClampNeg s2) fun u2 =>
g_X7_sheet_66 1700 u2 l1 (0 : Int32)) else none

def g_X7_sheet_41  (u : am_MU) (l1 : Int32) (l2 : Int32) (l3 : Int32) : Option (am_MU × Int32) :=
if am_in l1 4 then (
am_let (am_u2 u 124 l1.toNatClampNeg l2) fun u2 =>
if 0 ≤ l2 then (g_X7_sheet_62 u2 l1 l1 l3)
else (g_X7_sheet_62 u2 l1 l1 (0 : Int32))) else none

def g_X7_sheet_29  (u : am_MU) (l1 : Int32) (l2 : Int32) (l3 : Int32) : Option (am_MU × Int32) :=
if l2 < 0 then (g_X7_sheet_41 u l1 l2 l3)
else (if 0 ≤ l3 then (g_X7_sheet_41 u l1 l2 l3)
else (some (u, ((-1000000014) : Int32))))

def f_X7_sheet  (u : am_MU) (l1 : Int32) (l2 : Int32) (l3 : Int32) : Option (am_MU × Int32) :=
(f_X7_isSheet u l1).bind fun q1 =>
if q1.2 = 0 then (some (q1.1, ((-1000000001) : Int32)))
else ((f_X7_in q1.1 l2 ((-1) : Int32) (1 : Int32)).bind fun q3 =>
if q3.2 = 0 then (some (q3.1, ((-1000000001) : Int32)))
else (if l2 < 0 then (g_X7_sheet_29 q3.1 l1 l2 l3)
else (if l3 ≤ (24 : Int32) then (g_X7_sheet_29 q3.1 l1 l2 l3)
else (some (q3.1, ((-1000000001) : Int32))))))

theorem l_X7_sheet_66 {X : Nat × (Nat → Int32)}   : ∀ (n : Nat) (u : am_MU) (l1 : Int32) (l4 : Int32) (r : am_MU × Int32), g_X7_sheet_66  n u l1 l4 = some r → am_Ev X M_X7_sheet 66 [(0, .ref 110), (1, .int l1), (4, .int l4)] [] (hp u) (hp r.1, some (.int r.2)) := by
  intro n
  induction n with
  | zero => intro u l1 l4 r h; cases h
  | succ n ih =>
    intro u l1 l4 r h
    rw [g_X7_sheet_66] at h
    refine ev_iload dX7_sheet_66 2 rfl ?_
    refine ev_bipush (v := (24 : Int32)) dX7_sheet_68 kB_24 ?_
    refine ev_icmp_ge 92 dX7_sheet_70 (by decide) (fun c1 => ?_) (fun c1 => ?_)
    · have h := am_t c1 h
      refine ev_aload_n dX7_sheet_92 0 rfl trivial ?_
      refine px_getR dX7_sheet_93 gf_RX7_54 (at7 rfl) (by decide) rfl ?_
      refine ev_iload_n dX7_sheet_96 1 rfl ?_
      obtain ⟨g2, h⟩ := am_gd h
      refine px_iald (n := 4) l1.toNatClampNeg dX7_sheet_97 rfl g2 rfl ?_
      obtain rfl := Option.some.inj h
      exact ev_iret dX7_sheet_98 rfl rfl
    · have h := am_e c1 h
      refine ev_aload_n dX7_sheet_73 0 rfl trivial ?_
      refine px_getR dX7_sheet_74 gf_RX7_57 (at7 rfl) (by decide) rfl ?_
      refine ev_bipush (v := (24 : Int32)) dX7_sheet_77 kB_24 ?_
      refine ev_iload_n dX7_sheet_79 1 rfl ?_
      refine ev_imul dX7_sheet_80 ?_
      refine ev_iload dX7_sheet_81 2 rfl ?_
      refine ev_iadd dX7_sheet_83 ?_
      refine ev_iconst (v := (0 : Int32)) dX7_sheet_84 kI_0 ?_
      obtain ⟨g3, h⟩ := am_gd h
      obtain ⟨u4, eu4, h⟩ := am_lt h
      refine px_iast (n := 96) ((((24 : Int32) * l1) + l4).toNatClampNeg) dX7_sheet_85 rfl g3 rfl eu4 ?_
      obtain ⟨x5, ex5, h⟩ := am_lt h
      refine ev_iinc (v := x5) (L' := [(4, .int x5), (0, .ref 110), (1, .int l1)]) dX7_sheet_86 2 rfl (by rw [kI_1, ex5]) (by decide) rfl ?_
      refine ev_goto 66 dX7_sheet_89 (by decide) ?_
      refine ev_loc [1, 2, 0] rfl ?_
      exact ih u4 l1 x5 _ h

theorem l_X7_sheet_62 {X : Nat × (Nat → Int32)}   (u : am_MU) (l1 : Int32) (s1 : Int32) (s2 : Int32) (r : am_MU × Int32) (h : g_X7_sheet_62  u l1 s1 s2 = some r) : am_Ev X M_X7_sheet 62 [(0, .ref 110), (1, .int l1)] [.int s2, .int s1, .ref 125] (hp u) (hp r.1, some (.int r.2)) := by
  unfold g_X7_sheet_62 at h
  obtain ⟨g1, h⟩ := am_gd h
  obtain ⟨u2, eu2, h⟩ := am_lt h
  refine px_iast (n := 4) s1.toNatClampNeg dX7_sheet_62 rfl g1 rfl eu2 ?_
  refine ev_iconst (v := (0 : Int32)) dX7_sheet_63 kI_0 ?_
  refine ev_istore (L' := [(4, .int (0 : Int32)), (0, .ref 110), (1, .int l1)]) dX7_sheet_64 (by decide) rfl ?_
  refine ev_loc [1, 2, 0] rfl ?_
  exact l_X7_sheet_66   1700 u2 l1 (0 : Int32) _ h

theorem l_X7_sheet_41 {X : Nat × (Nat → Int32)}   (u : am_MU) (l1 : Int32) (l2 : Int32) (l3 : Int32) (r : am_MU × Int32) (h : g_X7_sheet_41  u l1 l2 l3 = some r) : am_Ev X M_X7_sheet 41 [(0, .ref 110), (1, .int l1), (2, .int l2), (3, .int l3)] [] (hp u) (hp r.1, some (.int r.2)) := by
  unfold g_X7_sheet_41 at h
  refine ev_aload_n dX7_sheet_41 0 rfl trivial ?_
  refine px_getR dX7_sheet_42 gf_RX7_51 (at7 rfl) (by decide) rfl ?_
  refine ev_iload_n dX7_sheet_45 1 rfl ?_
  refine ev_iload_n dX7_sheet_46 2 rfl ?_
  obtain ⟨g1, h⟩ := am_gd h
  obtain ⟨u2, eu2, h⟩ := am_lt h
  refine px_iast (n := 4) l1.toNatClampNeg dX7_sheet_47 rfl g1 rfl eu2 ?_
  refine ev_aload_n dX7_sheet_48 0 rfl trivial ?_
  refine px_getR dX7_sheet_49 gf_RX7_54 (at7 rfl) (by decide) rfl ?_
  refine ev_iload_n dX7_sheet_52 1 rfl ?_
  refine ev_iload_n dX7_sheet_53 2 rfl ?_
  refine ev_if_ge 61 dX7_sheet_54 (by decide) (fun c3 => ?_) (fun c3 => ?_)
  · have h := am_t c3 h
    refine ev_iload_n dX7_sheet_61 3 rfl ?_
    refine ev_loc [0, 1] rfl ?_
    exact l_X7_sheet_62   u2 l1 l1 l3 _ h
  · have h := am_e c3 h
    refine ev_iconst (v := (0 : Int32)) dX7_sheet_57 kI_0 ?_
    refine ev_goto 62 dX7_sheet_58 (by decide) ?_
    refine ev_loc [0, 1] rfl ?_
    exact l_X7_sheet_62   u2 l1 l1 (0 : Int32) _ h

theorem l_X7_sheet_29 {X : Nat × (Nat → Int32)}   (u : am_MU) (l1 : Int32) (l2 : Int32) (l3 : Int32) (r : am_MU × Int32) (h : g_X7_sheet_29  u l1 l2 l3 = some r) : am_Ev X M_X7_sheet 29 [(0, .ref 110), (1, .int l1), (2, .int l2), (3, .int l3)] [] (hp u) (hp r.1, some (.int r.2)) := by
  unfold g_X7_sheet_29 at h
  refine ev_iload_n dX7_sheet_29 2 rfl ?_
  refine ev_if_lt 41 dX7_sheet_30 (by decide) (fun c1 => ?_) (fun c1 => ?_)
  · have h := am_t c1 h
    refine ev_loc [0, 1, 2, 3] rfl ?_
    exact l_X7_sheet_41   u l1 l2 l3 _ h
  · have h := am_e c1 h
    refine ev_iload_n dX7_sheet_33 3 rfl ?_
    refine ev_if_ge 41 dX7_sheet_34 (by decide) (fun c2 => ?_) (fun c2 => ?_)
    · have h := am_t c2 h
      refine ev_loc [0, 1, 2, 3] rfl ?_
      exact l_X7_sheet_41   u l1 l2 l3 _ h
    · have h := am_e c2 h
      refine ev_ldcw (v := ((-1000000014) : Int32)) dX7_sheet_37 tw_1219 ?_
      obtain rfl := Option.some.inj h
      exact ev_iret dX7_sheet_40 rfl rfl

theorem l_X7_sheet_0 {X : Nat × (Nat → Int32)}   (u : am_MU) (l1 : Int32) (l2 : Int32) (l3 : Int32) (r : am_MU × Int32) (h : f_X7_sheet  u l1 l2 l3 = some r) : am_Ev X M_X7_sheet 0 [(0, .ref 110), (1, .int l1), (2, .int l2), (3, .int l3)] [] (hp u) (hp r.1, some (.int r.2)) := by
  unfold f_X7_sheet at h
  refine ev_iload_n dX7_sheet_0 1 rfl ?_
  obtain ⟨q1, eq1, h⟩ := am_bd h
  refine px_callsi [.int l1] dX7_sheet_1 ok_X7_isSheet lk_RX7_185 st_X7_isSheet (by decide) rfl (c_X7_isSheet eq1) rfl (Nat.le_of_ble_eq_true rfl) ?_
  refine ev_if_eq 26 dX7_sheet_4 (by decide) (fun c2 => ?_) (fun c2 => ?_)
  · have h := am_t c2 h
    refine ev_ldc (v := ((-1000000001) : Int32)) dX7_sheet_26 tw_933 ?_
    obtain rfl := Option.some.inj h
    exact ev_iret dX7_sheet_28 rfl rfl
  · have h := am_e c2 h
    refine ev_iload_n dX7_sheet_7 2 rfl ?_
    refine ev_iconst (v := ((-1) : Int32)) dX7_sheet_8 kI_m1 ?_
    refine ev_iconst (v := (1 : Int32)) dX7_sheet_9 kI_1 ?_
    obtain ⟨q3, eq3, h⟩ := am_bd h
    refine px_callsi [.int l2, .int ((-1) : Int32), .int (1 : Int32)] dX7_sheet_10 ok_X7_in lk_RX7_78 st_X7_in (by decide) rfl (c_X7_in eq3) rfl (Nat.le_of_ble_eq_true rfl) ?_
    refine ev_if_eq 26 dX7_sheet_13 (by decide) (fun c4 => ?_) (fun c4 => ?_)
    · have h := am_t c4 h
      refine ev_ldc (v := ((-1000000001) : Int32)) dX7_sheet_26 tw_933 ?_
      obtain rfl := Option.some.inj h
      exact ev_iret dX7_sheet_28 rfl rfl
    · have h := am_e c4 h
      refine ev_iload_n dX7_sheet_16 2 rfl ?_
      refine ev_if_lt 29 dX7_sheet_17 (by decide) (fun c5 => ?_) (fun c5 => ?_)
      · have h := am_t c5 h
        refine ev_loc [0, 1, 2, 3] rfl ?_
        exact l_X7_sheet_29   q3.1 l1 l2 l3 _ h
      · have h := am_e c5 h
        refine ev_iload_n dX7_sheet_20 3 rfl ?_
        refine ev_bipush (v := (24 : Int32)) dX7_sheet_21 kB_24 ?_
        refine ev_icmp_le 29 dX7_sheet_23 (by decide) (fun c6 => ?_) (fun c6 => ?_)
        · have h := am_t c6 h
          refine ev_loc [0, 1, 2, 3] rfl ?_
          exact l_X7_sheet_29   q3.1 l1 l2 l3 _ h
        · have h := am_e c6 h
          refine ev_ldc (v := ((-1000000001) : Int32)) dX7_sheet_26 tw_933 ?_
          obtain rfl := Option.some.inj h
          exact ev_iret dX7_sheet_28 rfl rfl

theorem c_X7_sheet {X : Nat × (Nat → Int32)} {u : am_MU} {l1 : Int32} {l2 : Int32} {l3 : Int32} {r : am_MU × Int32} (h : f_X7_sheet u l1 l2 l3 = some r) : am_Cn X M_X7_sheet [.ref 110, .int l1, .int l2, .int l3] (hp u) (hp r.1, some (.int r.2)) := by
  refine am_Cn.of ok_X7_sheet (Nat.le_refl _) (Nat.le_refl _) (Nat.le_of_ble_eq_true rfl) ?_
  refine ev_loc [0, 1, 2, 3] rfl ?_
  exact l_X7_sheet_0 u l1 l2 l3 r h

-- SandRipplesModel.mark(III)I
def g_X7_mark_92  (u : am_MU) (l1 : Int32) (l2 : Int32) (l3 : Int32) : Option (am_MU × Int32) :=
if am_in l1 4 then (
if (u 124 l1.toNatClampNeg) = 0 then (if am_in (((24 : Int32) * l1) + l2) 96 then (
am_let (am_u2 u 126 ((((24 : Int32) * l1) + l2).toNatClampNeg) l3.toInt16.toInt32) fun u6 =>
some (u6, (1 : Int32))) else none)
else (if am_in (((24 : Int32) * l1) + l2) 96 then (
am_let (am_u2 u 126 ((((24 : Int32) * l1) + l2).toNatClampNeg) l3) fun u4 =>
some (u4, (1 : Int32))) else none)) else none

def g_X7_mark_60  (u : am_MU) (l1 : Int32) (l2 : Int32) (l3 : Int32) : Option (am_MU × Int32) :=
if am_in l1 4 then (
if (u 124 l1.toNatClampNeg) = (1 : Int32) then (if l3 = ((-1000000005) : Int32) then (g_X7_mark_92 u l1 l2 l3)
else ((f_X7_in u l3 ((-99999) : Int32) (99999 : Int32)).bind fun q4 =>
if q4.2 = 0 then (some (q4.1, ((-1000000001) : Int32)))
else (g_X7_mark_92 q4.1 l1 l2 l3)))
else (g_X7_mark_92 u l1 l2 l3)) else none

def f_X7_mark  (u : am_MU) (l1 : Int32) (l2 : Int32) (l3 : Int32) : Option (am_MU × Int32) :=
(f_X7_isSheet u l1).bind fun q1 =>
if q1.2 = 0 then (some (q1.1, ((-1000000001) : Int32)))
else (if am_in l1 4 then (
if 0 ≤ (q1.1 124 l1.toNatClampNeg) then ((f_X7_in q1.1 l2 (0 : Int32) ((q1.1 125 l1.toNatClampNeg) - (1 : Int32))).bind fun q5 =>
if q5.2 = 0 then (some (q5.1, ((-1000000013) : Int32)))
else (if (q5.1 124 l1.toNatClampNeg) = 0 then (if l3 = ((-1000000005) : Int32) then (some (q5.1, ((-1000000012) : Int32)))
else (g_X7_mark_60 q5.1 l1 l2 l3))
else (g_X7_mark_60 q5.1 l1 l2 l3)))
else (some (q1.1, ((-1000000011) : Int32)))) else none)

theorem l_X7_mark_92 {X : Nat × (Nat → Int32)}   (u : am_MU) (l1 : Int32) (l2 : Int32) (l3 : Int32) (r : am_MU × Int32) (h : g_X7_mark_92  u l1 l2 l3 = some r) : am_Ev X M_X7_mark 92 [(0, .ref 110), (1, .int l1), (2, .int l2), (3, .int l3)] [] (hp u) (hp r.1, some (.int r.2)) := by
  unfold g_X7_mark_92 at h
  refine ev_aload_n dX7_mark_92 0 rfl trivial ?_
  refine px_getR dX7_mark_93 gf_RX7_57 (at7 rfl) (by decide) rfl ?_
  refine ev_bipush (v := (24 : Int32)) dX7_mark_96 kB_24 ?_
  refine ev_iload_n dX7_mark_98 1 rfl ?_
  refine ev_imul dX7_mark_99 ?_
  refine ev_iload_n dX7_mark_100 2 rfl ?_
  refine ev_iadd dX7_mark_101 ?_
  refine ev_aload_n dX7_mark_102 0 rfl trivial ?_
  refine px_getR dX7_mark_103 gf_RX7_51 (at7 rfl) (by decide) rfl ?_
  refine ev_iload_n dX7_mark_106 1 rfl ?_
  obtain ⟨g1, h⟩ := am_gd h
  refine px_iald (n := 4) l1.toNatClampNeg dX7_mark_107 rfl g1 rfl ?_
  refine ev_if_ne 116 dX7_mark_108 (by decide) (fun c2 => ?_) (fun c2 => ?_)
  · have h := am_e c2 h
    refine ev_iload_n dX7_mark_116 3 rfl ?_
    obtain ⟨g3, h⟩ := am_gd h
    obtain ⟨u4, eu4, h⟩ := am_lt h
    refine px_iast (n := 96) ((((24 : Int32) * l1) + l2).toNatClampNeg) dX7_mark_117 rfl g3 rfl eu4 ?_
    refine ev_iconst (v := (1 : Int32)) dX7_mark_118 kI_1 ?_
    obtain rfl := Option.some.inj h
    exact ev_iret dX7_mark_119 rfl rfl
  · have h := am_t c2 h
    refine ev_iload_n dX7_mark_111 3 rfl ?_
    refine ev_i2s dX7_mark_112 ?_
    refine ev_goto 117 dX7_mark_113 (by decide) ?_
    obtain ⟨g5, h⟩ := am_gd h
    obtain ⟨u6, eu6, h⟩ := am_lt h
    refine px_iast (n := 96) ((((24 : Int32) * l1) + l2).toNatClampNeg) dX7_mark_117 rfl g5 rfl eu6 ?_
    refine ev_iconst (v := (1 : Int32)) dX7_mark_118 kI_1 ?_
    obtain rfl := Option.some.inj h
    exact ev_iret dX7_mark_119 rfl rfl

theorem l_X7_mark_60 {X : Nat × (Nat → Int32)}   (u : am_MU) (l1 : Int32) (l2 : Int32) (l3 : Int32) (r : am_MU × Int32) (h : g_X7_mark_60  u l1 l2 l3 = some r) : am_Ev X M_X7_mark 60 [(0, .ref 110), (1, .int l1), (2, .int l2), (3, .int l3)] [] (hp u) (hp r.1, some (.int r.2)) := by
  unfold g_X7_mark_60 at h
  refine ev_aload_n dX7_mark_60 0 rfl trivial ?_
  refine px_getR dX7_mark_61 gf_RX7_51 (at7 rfl) (by decide) rfl ?_
  refine ev_iload_n dX7_mark_64 1 rfl ?_
  obtain ⟨g1, h⟩ := am_gd h
  refine px_iald (n := 4) l1.toNatClampNeg dX7_mark_65 rfl g1 rfl ?_
  refine ev_iconst (v := (1 : Int32)) dX7_mark_66 kI_1 ?_
  refine ev_icmp_ne 92 dX7_mark_67 (by decide) (fun c2 => ?_) (fun c2 => ?_)
  · have h := am_e c2 h
    refine ev_loc [0, 1, 2, 3] rfl ?_
    exact l_X7_mark_92   u l1 l2 l3 _ h
  · have h := am_t c2 h
    refine ev_iload_n dX7_mark_70 3 rfl ?_
    refine ev_ldc (v := ((-1000000005) : Int32)) dX7_mark_71 tw_1083 ?_
    refine ev_icmp_eq 92 dX7_mark_73 (by decide) (fun c3 => ?_) (fun c3 => ?_)
    · have h := am_t c3 h
      refine ev_loc [0, 1, 2, 3] rfl ?_
      exact l_X7_mark_92   u l1 l2 l3 _ h
    · have h := am_e c3 h
      refine ev_iload_n dX7_mark_76 3 rfl ?_
      refine ev_ldcw (v := ((-99999) : Int32)) dX7_mark_77 tw_1225 ?_
      refine ev_ldcw (v := (99999 : Int32)) dX7_mark_80 tw_1226 ?_
      obtain ⟨q4, eq4, h⟩ := am_bd h
      refine px_callsi [.int l3, .int ((-99999) : Int32), .int (99999 : Int32)] dX7_mark_83 ok_X7_in lk_RX7_78 st_X7_in (by decide) rfl (c_X7_in eq4) rfl (Nat.le_of_ble_eq_true rfl) ?_
      refine ev_if_ne 92 dX7_mark_86 (by decide) (fun c5 => ?_) (fun c5 => ?_)
      · have h := am_e c5 h
        refine ev_loc [0, 1, 2, 3] rfl ?_
        exact l_X7_mark_92   q4.1 l1 l2 l3 _ h
      · have h := am_t c5 h
        refine ev_ldc (v := ((-1000000001) : Int32)) dX7_mark_89 tw_933 ?_
        obtain rfl := Option.some.inj h
        exact ev_iret dX7_mark_91 rfl rfl

theorem l_X7_mark_0 {X : Nat × (Nat → Int32)}   (u : am_MU) (l1 : Int32) (l2 : Int32) (l3 : Int32) (r : am_MU × Int32) (h : f_X7_mark  u l1 l2 l3 = some r) : am_Ev X M_X7_mark 0 [(0, .ref 110), (1, .int l1), (2, .int l2), (3, .int l3)] [] (hp u) (hp r.1, some (.int r.2)) := by
  unfold f_X7_mark at h
  refine ev_iload_n dX7_mark_0 1 rfl ?_
  obtain ⟨q1, eq1, h⟩ := am_bd h
  refine px_callsi [.int l1] dX7_mark_1 ok_X7_isSheet lk_RX7_185 st_X7_isSheet (by decide) rfl (c_X7_isSheet eq1) rfl (Nat.le_of_ble_eq_true rfl) ?_
  refine ev_if_ne 10 dX7_mark_4 (by decide) (fun c2 => ?_) (fun c2 => ?_)
  · have h := am_e c2 h
    refine ev_aload_n dX7_mark_10 0 rfl trivial ?_
    refine px_getR dX7_mark_11 gf_RX7_51 (at7 rfl) (by decide) rfl ?_
    refine ev_iload_n dX7_mark_14 1 rfl ?_
    obtain ⟨g3, h⟩ := am_gd h
    refine px_iald (n := 4) l1.toNatClampNeg dX7_mark_15 rfl g3 rfl ?_
    refine ev_if_ge 22 dX7_mark_16 (by decide) (fun c4 => ?_) (fun c4 => ?_)
    · have h := am_t c4 h
      refine ev_iload_n dX7_mark_22 2 rfl ?_
      refine ev_iconst (v := (0 : Int32)) dX7_mark_23 kI_0 ?_
      refine ev_aload_n dX7_mark_24 0 rfl trivial ?_
      refine px_getR dX7_mark_25 gf_RX7_54 (at7 rfl) (by decide) rfl ?_
      refine ev_iload_n dX7_mark_28 1 rfl ?_
      refine px_iald (n := 4) l1.toNatClampNeg dX7_mark_29 rfl g3 rfl ?_
      refine ev_iconst (v := (1 : Int32)) dX7_mark_30 kI_1 ?_
      refine ev_isub dX7_mark_31 ?_
      obtain ⟨q5, eq5, h⟩ := am_bd h
      refine px_callsi [.int l2, .int (0 : Int32), .int ((q1.1 125 l1.toNatClampNeg) - (1 : Int32))] dX7_mark_32 ok_X7_in lk_RX7_78 st_X7_in (by decide) rfl (c_X7_in eq5) rfl (Nat.le_of_ble_eq_true rfl) ?_
      refine ev_if_ne 42 dX7_mark_35 (by decide) (fun c6 => ?_) (fun c6 => ?_)
      · have h := am_e c6 h
        refine ev_aload_n dX7_mark_42 0 rfl trivial ?_
        refine px_getR dX7_mark_43 gf_RX7_51 (at7 rfl) (by decide) rfl ?_
        refine ev_iload_n dX7_mark_46 1 rfl ?_
        refine px_iald (n := 4) l1.toNatClampNeg dX7_mark_47 rfl g3 rfl ?_
        refine ev_if_ne 60 dX7_mark_48 (by decide) (fun c7 => ?_) (fun c7 => ?_)
        · have h := am_e c7 h
          refine ev_loc [0, 1, 2, 3] rfl ?_
          exact l_X7_mark_60   q5.1 l1 l2 l3 _ h
        · have h := am_t c7 h
          refine ev_iload_n dX7_mark_51 3 rfl ?_
          refine ev_ldc (v := ((-1000000005) : Int32)) dX7_mark_52 tw_1083 ?_
          refine ev_icmp_ne 60 dX7_mark_54 (by decide) (fun c8 => ?_) (fun c8 => ?_)
          · have h := am_e c8 h
            refine ev_loc [0, 1, 2, 3] rfl ?_
            exact l_X7_mark_60   q5.1 l1 l2 l3 _ h
          · have h := am_t c8 h
            refine ev_ldc (v := ((-1000000012) : Int32)) dX7_mark_57 tw_1018 ?_
            obtain rfl := Option.some.inj h
            exact ev_iret dX7_mark_59 rfl rfl
      · have h := am_t c6 h
        refine ev_ldcw (v := ((-1000000013) : Int32)) dX7_mark_38 tw_1224 ?_
        obtain rfl := Option.some.inj h
        exact ev_iret dX7_mark_41 rfl rfl
    · have h := am_e c4 h
      refine ev_ldc (v := ((-1000000011) : Int32)) dX7_mark_19 tw_1143 ?_
      obtain rfl := Option.some.inj h
      exact ev_iret dX7_mark_21 rfl rfl
  · have h := am_t c2 h
    refine ev_ldc (v := ((-1000000001) : Int32)) dX7_mark_7 tw_933 ?_
    obtain rfl := Option.some.inj h
    exact ev_iret dX7_mark_9 rfl rfl

theorem c_X7_mark {X : Nat × (Nat → Int32)} {u : am_MU} {l1 : Int32} {l2 : Int32} {l3 : Int32} {r : am_MU × Int32} (h : f_X7_mark u l1 l2 l3 = some r) : am_Cn X M_X7_mark [.ref 110, .int l1, .int l2, .int l3] (hp u) (hp r.1, some (.int r.2)) := by
  refine am_Cn.of ok_X7_mark (Nat.le_refl _) (Nat.le_refl _) (Nat.le_of_ble_eq_true rfl) ?_
  refine ev_loc [0, 1, 2, 3] rfl ?_
  exact l_X7_mark_0 u l1 l2 l3 r h

-- SandRipplesModel.pour(II)I
def g_X7_pour_105 (K35 : am_MU → Int32 → Int32 → Int32 → Int32 → Option (am_MU × Int32)) (u : am_MU) (l1 : Int32) (l2 : Int32) (l4 : Int32) (l6 : Int32) (s0 : Int32) (s1 : Int32) : Option (am_MU × Int32) :=
am_let (s0 + s1) fun x1 =>
(f_X7_spot u l2 l4).bind fun q2 =>
if am_in q2.2 1535 then (
am_let (am_u2 q2.1 111 q2.2.toNatClampNeg l6) fun u4 =>
am_let (l4 + (1 : Int32)) fun x5 =>
K35 u4 l1 l2 x1 x5) else none

def g_X7_pour_85 (K35 : am_MU → Int32 → Int32 → Int32 → Int32 → Option (am_MU × Int32)) (u : am_MU) (l1 : Int32) (l2 : Int32) (l3 : Int32) (l4 : Int32) (s0 : Int32) : Option (am_MU × Int32) :=
(f_X7_sandOf u l2 l4).bind fun q1 =>
if s0 = q1.2 then (g_X7_pour_105 K35 q1.1 l1 l2 l4 s0 l3 (0 : Int32))
else (g_X7_pour_105 K35 q1.1 l1 l2 l4 s0 l3 (1 : Int32))

def g_X7_pour_35  : Nat → am_MU → Int32 → Int32 → Int32 → Int32 → Option (am_MU × Int32)
  | 0 => fun _ _ _ _ _ => none
  | n + 1 => fun u l1 l2 l3 l4 =>
if am_in l1 4 then (
if (u 125 l1.toNatClampNeg) ≤ l4 then (some (u, l3))
else (if am_in (((24 : Int32) * l1) + l4) 96 then (
am_let (u 126 ((((24 : Int32) * l1) + l4).toNatClampNeg)) fun x4 =>
if x4 = ((-1000000005) : Int32) then ((f_X7_sandOf u l2 l4).bind fun q7 =>
g_X7_pour_85 (g_X7_pour_35 n) q7.1 l1 l2 l3 l4 q7.2)
else ((f_X7_within u x4 (0 : Int32) (99 : Int32)).bind fun q6 =>
g_X7_pour_85 (g_X7_pour_35 n) q6.1 l1 l2 l3 l4 q6.2)) else none)) else none

def f_X7_pour  (u : am_MU) (l1 : Int32) (l2 : Int32) : Option (am_MU × Int32) :=
(f_X7_isSheet u l1).bind fun q1 =>
if q1.2 = 0 then (some (q1.1, ((-1000000001) : Int32)))
else ((f_X7_isFloor q1.1 l2).bind fun q3 =>
if q3.2 = 0 then (some (q3.1, ((-1000000001) : Int32)))
else (if am_in l1 4 then (
if 0 ≤ (q3.1 124 l1.toNatClampNeg) then (g_X7_pour_35 1700 q3.1 l1 l2 (0 : Int32) (0 : Int32))
else (some (q3.1, ((-1000000011) : Int32)))) else none))

theorem l_X7_pour_105 {X : Nat × (Nat → Int32)} (K35 : am_MU → Int32 → Int32 → Int32 → Int32 → Option (am_MU × Int32)) (hK35 : ∀ (u : am_MU) (l1 : Int32) (l2 : Int32) (l3 : Int32) (l4 : Int32) (r : am_MU × Int32), K35 u l1 l2 l3 l4 = some r → am_Ev X M_X7_pour 35 [(0, .ref 110), (1, .int l1), (2, .int l2), (3, .int l3), (4, .int l4)] [] (hp u) (hp r.1, some (.int r.2))) (u : am_MU) (l1 : Int32) (l2 : Int32) (l4 : Int32) (l6 : Int32) (s0 : Int32) (s1 : Int32) (r : am_MU × Int32) (h : g_X7_pour_105 K35 u l1 l2 l4 l6 s0 s1 = some r) : am_Ev X M_X7_pour 105 [(0, .ref 110), (1, .int l1), (2, .int l2), (4, .int l4), (6, .int l6)] [.int s1, .int s0] (hp u) (hp r.1, some (.int r.2)) := by
  unfold g_X7_pour_105 at h
  refine ev_iadd dX7_pour_105 ?_
  obtain ⟨x1, ex1, h⟩ := am_lt h
  refine px_top ex1 ?_
  refine ev_istore_n (L' := [(3, .int x1), (0, .ref 110), (1, .int l1), (2, .int l2), (4, .int l4), (6, .int l6)]) dX7_pour_106 (by decide) rfl ?_
  refine ev_aload_n dX7_pour_107 1 rfl trivial ?_
  refine px_getR dX7_pour_108 gf_RX7_9 (at7 rfl) (by decide) rfl ?_
  refine ev_iload_n dX7_pour_111 3 rfl ?_
  refine ev_iload dX7_pour_112 4 rfl ?_
  obtain ⟨q2, eq2, h⟩ := am_bd h
  refine px_callsi [.int l2, .int l4] dX7_pour_114 ok_X7_spot lk_RX7_86 st_X7_spot (by decide) rfl (c_X7_spot eq2) rfl (Nat.le_of_ble_eq_true rfl) ?_
  refine ev_iload dX7_pour_117 5 rfl ?_
  obtain ⟨g3, h⟩ := am_gd h
  obtain ⟨u4, eu4, h⟩ := am_lt h
  refine px_iast (n := 1535) q2.2.toNatClampNeg dX7_pour_119 rfl g3 rfl eu4 ?_
  obtain ⟨x5, ex5, h⟩ := am_lt h
  refine ev_iinc (v := x5) (L' := [(4, .int x5), (3, .int x1), (0, .ref 110), (1, .int l1), (2, .int l2), (6, .int l6)]) dX7_pour_120 4 rfl (by rw [kI_1, ex5]) (by decide) rfl ?_
  refine ev_goto 35 dX7_pour_123 (by decide) ?_
  refine ev_loc [2, 3, 4, 1, 0] rfl ?_
  exact hK35 u4 l1 l2 x1 x5 _ h

theorem l_X7_pour_85 {X : Nat × (Nat → Int32)} (K35 : am_MU → Int32 → Int32 → Int32 → Int32 → Option (am_MU × Int32)) (hK35 : ∀ (u : am_MU) (l1 : Int32) (l2 : Int32) (l3 : Int32) (l4 : Int32) (r : am_MU × Int32), K35 u l1 l2 l3 l4 = some r → am_Ev X M_X7_pour 35 [(0, .ref 110), (1, .int l1), (2, .int l2), (3, .int l3), (4, .int l4)] [] (hp u) (hp r.1, some (.int r.2))) (u : am_MU) (l1 : Int32) (l2 : Int32) (l3 : Int32) (l4 : Int32) (s0 : Int32) (r : am_MU × Int32) (h : g_X7_pour_85 K35 u l1 l2 l3 l4 s0 = some r) : am_Ev X M_X7_pour 85 [(0, .ref 110), (1, .int l1), (2, .int l2), (3, .int l3), (4, .int l4)] [.int s0] (hp u) (hp r.1, some (.int r.2)) := by
  unfold g_X7_pour_85 at h
  refine ev_istore (L' := [(6, .int s0), (0, .ref 110), (1, .int l1), (2, .int l2), (3, .int l3), (4, .int l4)]) dX7_pour_85 (by decide) rfl ?_
  refine ev_iload_n dX7_pour_87 4 rfl ?_
  refine ev_iload dX7_pour_88 0 rfl ?_
  refine ev_aload_n dX7_pour_90 1 rfl trivial ?_
  refine ev_iload_n dX7_pour_91 3 rfl ?_
  refine ev_iload dX7_pour_92 5 rfl ?_
  obtain ⟨q1, eq1, h⟩ := am_bd h
  refine px_callvi [.int l2, .int l4] (by decide) cl_7 (at7 rfl) dX7_pour_94 ok_X7_sandOf lk_RX7_102 in_X7_sandOf se_X7_sandOf (by decide) rfl (c_X7_sandOf eq1) rfl (Nat.le_of_ble_eq_true rfl) ?_
  refine ev_icmp_ne 104 dX7_pour_97 (by decide) (fun c2 => ?_) (fun c2 => ?_)
  · have h := am_e c2 h
    refine ev_iconst (v := (1 : Int32)) dX7_pour_104 kI_1 ?_
    refine ev_loc [1, 2, 3, 5, 0] rfl ?_
    exact l_X7_pour_105 K35 hK35 q1.1 l1 l2 l4 s0 l3 (1 : Int32) _ h
  · have h := am_t c2 h
    refine ev_iconst (v := (0 : Int32)) dX7_pour_100 kI_0 ?_
    refine ev_goto 105 dX7_pour_101 (by decide) ?_
    refine ev_loc [1, 2, 3, 5, 0] rfl ?_
    exact l_X7_pour_105 K35 hK35 q1.1 l1 l2 l4 s0 l3 (0 : Int32) _ h

theorem l_X7_pour_35 {X : Nat × (Nat → Int32)}   : ∀ (n : Nat) (u : am_MU) (l1 : Int32) (l2 : Int32) (l3 : Int32) (l4 : Int32) (r : am_MU × Int32), g_X7_pour_35  n u l1 l2 l3 l4 = some r → am_Ev X M_X7_pour 35 [(0, .ref 110), (1, .int l1), (2, .int l2), (3, .int l3), (4, .int l4)] [] (hp u) (hp r.1, some (.int r.2)) := by
  intro n
  induction n with
  | zero => intro u l1 l2 l3 l4 r h; cases h
  | succ n ih =>
    intro u l1 l2 l3 l4 r h
    rw [g_X7_pour_35] at h
    refine ev_iload dX7_pour_35 4 rfl ?_
    refine ev_aload_n dX7_pour_37 0 rfl trivial ?_
    refine px_getR dX7_pour_38 gf_RX7_54 (at7 rfl) (by decide) rfl ?_
    refine ev_iload_n dX7_pour_41 1 rfl ?_
    obtain ⟨g1, h⟩ := am_gd h
    refine px_iald (n := 4) l1.toNatClampNeg dX7_pour_42 rfl g1 rfl ?_
    refine ev_icmp_ge 126 dX7_pour_43 (by decide) (fun c2 => ?_) (fun c2 => ?_)
    · have h := am_t c2 h
      refine ev_iload_n dX7_pour_126 3 rfl ?_
      obtain rfl := Option.some.inj h
      exact ev_iret dX7_pour_127 rfl rfl
    · have h := am_e c2 h
      refine ev_aload_n dX7_pour_46 0 rfl trivial ?_
      refine px_getR dX7_pour_47 gf_RX7_57 (at7 rfl) (by decide) rfl ?_
      refine ev_bipush (v := (24 : Int32)) dX7_pour_50 kB_24 ?_
      refine ev_iload_n dX7_pour_52 1 rfl ?_
      refine ev_imul dX7_pour_53 ?_
      refine ev_iload dX7_pour_54 4 rfl ?_
      refine ev_iadd dX7_pour_56 ?_
      obtain ⟨g3, h⟩ := am_gd h
      refine px_iald (n := 96) ((((24 : Int32) * l1) + l4).toNatClampNeg) dX7_pour_57 rfl g3 rfl ?_
      obtain ⟨x4, ex4, h⟩ := am_lt h
      refine px_top ex4 ?_
      refine ev_istore (L' := [(5, .int x4), (0, .ref 110), (1, .int l1), (2, .int l2), (3, .int l3), (4, .int l4)]) dX7_pour_58 (by decide) rfl ?_
      refine ev_iload dX7_pour_60 0 rfl ?_
      refine ev_ldc (v := ((-1000000005) : Int32)) dX7_pour_62 tw_1083 ?_
      refine ev_icmp_ne 77 dX7_pour_64 (by decide) (fun c5 => ?_) (fun c5 => ?_)
      · have h := am_e c5 h
        refine ev_iload dX7_pour_77 0 rfl ?_
        refine ev_iconst (v := (0 : Int32)) dX7_pour_79 kI_0 ?_
        refine ev_bipush (v := (99 : Int32)) dX7_pour_80 kB_99 ?_
        obtain ⟨q6, eq6, h⟩ := am_bd h
        refine px_callsi [.int x4, .int (0 : Int32), .int (99 : Int32)] dX7_pour_82 ok_X7_within lk_RX7_95 st_X7_within (by decide) rfl (c_X7_within eq6) rfl (Nat.le_of_ble_eq_true rfl) ?_
        refine ev_loc [1, 2, 3, 4, 5] rfl ?_
        exact l_X7_pour_85 (g_X7_pour_35 n) (fun u l1 l2 l3 l4 r h => ih u l1 l2 l3 l4 r h) q6.1 l1 l2 l3 l4 q6.2 _ h
      · have h := am_t c5 h
        refine ev_aload_n dX7_pour_67 1 rfl trivial ?_
        refine ev_iload_n dX7_pour_68 3 rfl ?_
        refine ev_iload dX7_pour_69 5 rfl ?_
        obtain ⟨q7, eq7, h⟩ := am_bd h
        refine px_callvi [.int l2, .int l4] (by decide) cl_7 (at7 rfl) dX7_pour_71 ok_X7_sandOf lk_RX7_102 in_X7_sandOf se_X7_sandOf (by decide) rfl (c_X7_sandOf eq7) rfl (Nat.le_of_ble_eq_true rfl) ?_
        refine ev_goto 85 dX7_pour_74 (by decide) ?_
        refine ev_loc [1, 2, 3, 4, 5] rfl ?_
        exact l_X7_pour_85 (g_X7_pour_35 n) (fun u l1 l2 l3 l4 r h => ih u l1 l2 l3 l4 r h) q7.1 l1 l2 l3 l4 q7.2 _ h

theorem l_X7_pour_0 {X : Nat × (Nat → Int32)}   (u : am_MU) (l1 : Int32) (l2 : Int32) (r : am_MU × Int32) (h : f_X7_pour  u l1 l2 = some r) : am_Ev X M_X7_pour 0 [(0, .ref 110), (1, .int l1), (2, .int l2)] [] (hp u) (hp r.1, some (.int r.2)) := by
  unfold f_X7_pour at h
  refine ev_iload_n dX7_pour_0 1 rfl ?_
  obtain ⟨q1, eq1, h⟩ := am_bd h
  refine px_callsi [.int l1] dX7_pour_1 ok_X7_isSheet lk_RX7_185 st_X7_isSheet (by decide) rfl (c_X7_isSheet eq1) rfl (Nat.le_of_ble_eq_true rfl) ?_
  refine ev_if_eq 15 dX7_pour_4 (by decide) (fun c2 => ?_) (fun c2 => ?_)
  · have h := am_t c2 h
    refine ev_ldc (v := ((-1000000001) : Int32)) dX7_pour_15 tw_933 ?_
    obtain rfl := Option.some.inj h
    exact ev_iret dX7_pour_17 rfl rfl
  · have h := am_e c2 h
    refine ev_aload_n dX7_pour_7 0 rfl trivial ?_
    refine ev_iload_n dX7_pour_8 2 rfl ?_
    obtain ⟨q3, eq3, h⟩ := am_bd h
    refine px_callvi [.int l2] (by decide) cl_7 (at7 rfl) dX7_pour_9 ok_X7_isFloor lk_RX7_128 in_X7_isFloor se_X7_isFloor (by decide) rfl (c_X7_isFloor eq3) rfl (Nat.le_of_ble_eq_true rfl) ?_
    refine ev_if_ne 18 dX7_pour_12 (by decide) (fun c4 => ?_) (fun c4 => ?_)
    · have h := am_e c4 h
      refine ev_aload_n dX7_pour_18 0 rfl trivial ?_
      refine px_getR dX7_pour_19 gf_RX7_51 (at7 rfl) (by decide) rfl ?_
      refine ev_iload_n dX7_pour_22 1 rfl ?_
      obtain ⟨g5, h⟩ := am_gd h
      refine px_iald (n := 4) l1.toNatClampNeg dX7_pour_23 rfl g5 rfl ?_
      refine ev_if_ge 30 dX7_pour_24 (by decide) (fun c6 => ?_) (fun c6 => ?_)
      · have h := am_t c6 h
        refine ev_iconst (v := (0 : Int32)) dX7_pour_30 kI_0 ?_
        refine ev_istore_n (L' := [(3, .int (0 : Int32)), (0, .ref 110), (1, .int l1), (2, .int l2)]) dX7_pour_31 (by decide) rfl ?_
        refine ev_iconst (v := (0 : Int32)) dX7_pour_32 kI_0 ?_
        refine ev_istore (L' := [(4, .int (0 : Int32)), (3, .int (0 : Int32)), (0, .ref 110), (1, .int l1), (2, .int l2)]) dX7_pour_33 (by decide) rfl ?_
        refine ev_loc [2, 3, 4, 1, 0] rfl ?_
        exact l_X7_pour_35   1700 q3.1 l1 l2 (0 : Int32) (0 : Int32) _ h
      · have h := am_e c6 h
        refine ev_ldc (v := ((-1000000011) : Int32)) dX7_pour_27 tw_1143 ?_
        obtain rfl := Option.some.inj h
        exact ev_iret dX7_pour_29 rfl rfl
    · have h := am_t c4 h
      refine ev_ldc (v := ((-1000000001) : Int32)) dX7_pour_15 tw_933 ?_
      obtain rfl := Option.some.inj h
      exact ev_iret dX7_pour_17 rfl rfl

theorem c_X7_pour {X : Nat × (Nat → Int32)} {u : am_MU} {l1 : Int32} {l2 : Int32} {r : am_MU × Int32} (h : f_X7_pour u l1 l2 = some r) : am_Cn X M_X7_pour [.ref 110, .int l1, .int l2] (hp u) (hp r.1, some (.int r.2)) := by
  refine am_Cn.of ok_X7_pour (Nat.le_refl _) (Nat.le_refl _) (Nat.le_of_ble_eq_true rfl) ?_
  refine ev_loc [0, 1, 2] rfl ?_
  exact l_X7_pour_0 u l1 l2 r h

-- SandRipplesModel.reads(II)I
def g_X7_reads_75 (K32 : am_MU → Int32 → Int32 → Int32 → Option (am_MU × Int32)) (u : am_MU) (l1 : Int32) (l2 : Int32) (l3 : Int32) : Option (am_MU × Int32) :=
am_let (l3 + (1 : Int32)) fun x1 =>
K32 u l1 l2 x1

def g_X7_reads_32  : Nat → am_MU → Int32 → Int32 → Int32 → Option (am_MU × Int32)
  | 0 => fun _ _ _ _ => none
  | n + 1 => fun u l1 l2 l3 =>
if am_in l1 4 then (
if (u 125 l1.toNatClampNeg) ≤ l3 then (some (u, ((-1000000005) : Int32)))
else (if am_in (((24 : Int32) * l1) + l3) 96 then (
am_let (u 126 ((((24 : Int32) * l1) + l3).toNatClampNeg)) fun x4 =>
if x4 = ((-1000000005) : Int32) then (g_X7_reads_75 (g_X7_reads_32 n) u l1 l2 l3)
else ((f_X7_sandOf u l2 l3).bind fun q6 =>
if x4 = q6.2 then (g_X7_reads_75 (g_X7_reads_32 n) q6.1 l1 l2 l3)
else (some (q6.1, l3)))) else none)) else none

def f_X7_reads  (u : am_MU) (l1 : Int32) (l2 : Int32) : Option (am_MU × Int32) :=
(f_X7_isSheet u l1).bind fun q1 =>
if q1.2 = 0 then (some (q1.1, ((-1000000001) : Int32)))
else ((f_X7_isFloor q1.1 l2).bind fun q3 =>
if q3.2 = 0 then (some (q3.1, ((-1000000001) : Int32)))
else (if am_in l1 4 then (
if 0 ≤ (q3.1 124 l1.toNatClampNeg) then (g_X7_reads_32 1700 q3.1 l1 l2 (0 : Int32))
else (some (q3.1, ((-1000000011) : Int32)))) else none))

theorem l_X7_reads_75 {X : Nat × (Nat → Int32)} (K32 : am_MU → Int32 → Int32 → Int32 → Option (am_MU × Int32)) (hK32 : ∀ (u : am_MU) (l1 : Int32) (l2 : Int32) (l3 : Int32) (r : am_MU × Int32), K32 u l1 l2 l3 = some r → am_Ev X M_X7_reads 32 [(0, .ref 110), (1, .int l1), (2, .int l2), (3, .int l3)] [] (hp u) (hp r.1, some (.int r.2))) (u : am_MU) (l1 : Int32) (l2 : Int32) (l3 : Int32) (r : am_MU × Int32) (h : g_X7_reads_75 K32 u l1 l2 l3 = some r) : am_Ev X M_X7_reads 75 [(0, .ref 110), (1, .int l1), (2, .int l2), (3, .int l3)] [] (hp u) (hp r.1, some (.int r.2)) := by
  unfold g_X7_reads_75 at h
  obtain ⟨x1, ex1, h⟩ := am_lt h
  refine ev_iinc (v := x1) (L' := [(3, .int x1), (0, .ref 110), (1, .int l1), (2, .int l2)]) dX7_reads_75 3 rfl (by rw [kI_1, ex1]) (by decide) rfl ?_
  refine ev_goto 32 dX7_reads_78 (by decide) ?_
  refine ev_loc [1, 2, 3, 0] rfl ?_
  exact hK32 u l1 l2 x1 _ h

theorem l_X7_reads_32 {X : Nat × (Nat → Int32)}   : ∀ (n : Nat) (u : am_MU) (l1 : Int32) (l2 : Int32) (l3 : Int32) (r : am_MU × Int32), g_X7_reads_32  n u l1 l2 l3 = some r → am_Ev X M_X7_reads 32 [(0, .ref 110), (1, .int l1), (2, .int l2), (3, .int l3)] [] (hp u) (hp r.1, some (.int r.2)) := by
  intro n
  induction n with
  | zero => intro u l1 l2 l3 r h; cases h
  | succ n ih =>
    intro u l1 l2 l3 r h
    rw [g_X7_reads_32] at h
    refine ev_iload_n dX7_reads_32 3 rfl ?_
    refine ev_aload_n dX7_reads_33 0 rfl trivial ?_
    refine px_getR dX7_reads_34 gf_RX7_54 (at7 rfl) (by decide) rfl ?_
    refine ev_iload_n dX7_reads_37 1 rfl ?_
    obtain ⟨g1, h⟩ := am_gd h
    refine px_iald (n := 4) l1.toNatClampNeg dX7_reads_38 rfl g1 rfl ?_
    refine ev_icmp_ge 81 dX7_reads_39 (by decide) (fun c2 => ?_) (fun c2 => ?_)
    · have h := am_t c2 h
      refine ev_ldc (v := ((-1000000005) : Int32)) dX7_reads_81 tw_1083 ?_
      obtain rfl := Option.some.inj h
      exact ev_iret dX7_reads_83 rfl rfl
    · have h := am_e c2 h
      refine ev_aload_n dX7_reads_42 0 rfl trivial ?_
      refine px_getR dX7_reads_43 gf_RX7_57 (at7 rfl) (by decide) rfl ?_
      refine ev_bipush (v := (24 : Int32)) dX7_reads_46 kB_24 ?_
      refine ev_iload_n dX7_reads_48 1 rfl ?_
      refine ev_imul dX7_reads_49 ?_
      refine ev_iload_n dX7_reads_50 3 rfl ?_
      refine ev_iadd dX7_reads_51 ?_
      obtain ⟨g3, h⟩ := am_gd h
      refine px_iald (n := 96) ((((24 : Int32) * l1) + l3).toNatClampNeg) dX7_reads_52 rfl g3 rfl ?_
      obtain ⟨x4, ex4, h⟩ := am_lt h
      refine px_top ex4 ?_
      refine ev_istore (L' := [(4, .int x4), (0, .ref 110), (1, .int l1), (2, .int l2), (3, .int l3)]) dX7_reads_53 (by decide) rfl ?_
      refine ev_iload dX7_reads_55 0 rfl ?_
      refine ev_ldc (v := ((-1000000005) : Int32)) dX7_reads_57 tw_1083 ?_
      refine ev_icmp_eq 75 dX7_reads_59 (by decide) (fun c5 => ?_) (fun c5 => ?_)
      · have h := am_t c5 h
        refine ev_loc [1, 2, 3, 4] rfl ?_
        exact l_X7_reads_75 (g_X7_reads_32 n) (fun u l1 l2 l3 r h => ih u l1 l2 l3 r h) u l1 l2 l3 _ h
      · have h := am_e c5 h
        refine ev_iload dX7_reads_62 0 rfl ?_
        refine ev_aload_n dX7_reads_64 1 rfl trivial ?_
        refine ev_iload_n dX7_reads_65 3 rfl ?_
        refine ev_iload_n dX7_reads_66 4 rfl ?_
        obtain ⟨q6, eq6, h⟩ := am_bd h
        refine px_callvi [.int l2, .int l3] (by decide) cl_7 (at7 rfl) dX7_reads_67 ok_X7_sandOf lk_RX7_102 in_X7_sandOf se_X7_sandOf (by decide) rfl (c_X7_sandOf eq6) rfl (Nat.le_of_ble_eq_true rfl) ?_
        refine ev_icmp_eq 75 dX7_reads_70 (by decide) (fun c7 => ?_) (fun c7 => ?_)
        · have h := am_t c7 h
          refine ev_loc [1, 2, 3, 4] rfl ?_
          exact l_X7_reads_75 (g_X7_reads_32 n) (fun u l1 l2 l3 r h => ih u l1 l2 l3 r h) q6.1 l1 l2 l3 _ h
        · have h := am_e c7 h
          refine ev_iload_n dX7_reads_73 4 rfl ?_
          obtain rfl := Option.some.inj h
          exact ev_iret dX7_reads_74 rfl rfl

theorem l_X7_reads_0 {X : Nat × (Nat → Int32)}   (u : am_MU) (l1 : Int32) (l2 : Int32) (r : am_MU × Int32) (h : f_X7_reads  u l1 l2 = some r) : am_Ev X M_X7_reads 0 [(0, .ref 110), (1, .int l1), (2, .int l2)] [] (hp u) (hp r.1, some (.int r.2)) := by
  unfold f_X7_reads at h
  refine ev_iload_n dX7_reads_0 1 rfl ?_
  obtain ⟨q1, eq1, h⟩ := am_bd h
  refine px_callsi [.int l1] dX7_reads_1 ok_X7_isSheet lk_RX7_185 st_X7_isSheet (by decide) rfl (c_X7_isSheet eq1) rfl (Nat.le_of_ble_eq_true rfl) ?_
  refine ev_if_eq 15 dX7_reads_4 (by decide) (fun c2 => ?_) (fun c2 => ?_)
  · have h := am_t c2 h
    refine ev_ldc (v := ((-1000000001) : Int32)) dX7_reads_15 tw_933 ?_
    obtain rfl := Option.some.inj h
    exact ev_iret dX7_reads_17 rfl rfl
  · have h := am_e c2 h
    refine ev_aload_n dX7_reads_7 0 rfl trivial ?_
    refine ev_iload_n dX7_reads_8 2 rfl ?_
    obtain ⟨q3, eq3, h⟩ := am_bd h
    refine px_callvi [.int l2] (by decide) cl_7 (at7 rfl) dX7_reads_9 ok_X7_isFloor lk_RX7_128 in_X7_isFloor se_X7_isFloor (by decide) rfl (c_X7_isFloor eq3) rfl (Nat.le_of_ble_eq_true rfl) ?_
    refine ev_if_ne 18 dX7_reads_12 (by decide) (fun c4 => ?_) (fun c4 => ?_)
    · have h := am_e c4 h
      refine ev_aload_n dX7_reads_18 0 rfl trivial ?_
      refine px_getR dX7_reads_19 gf_RX7_51 (at7 rfl) (by decide) rfl ?_
      refine ev_iload_n dX7_reads_22 1 rfl ?_
      obtain ⟨g5, h⟩ := am_gd h
      refine px_iald (n := 4) l1.toNatClampNeg dX7_reads_23 rfl g5 rfl ?_
      refine ev_if_ge 30 dX7_reads_24 (by decide) (fun c6 => ?_) (fun c6 => ?_)
      · have h := am_t c6 h
        refine ev_iconst (v := (0 : Int32)) dX7_reads_30 kI_0 ?_
        refine ev_istore_n (L' := [(3, .int (0 : Int32)), (0, .ref 110), (1, .int l1), (2, .int l2)]) dX7_reads_31 (by decide) rfl ?_
        refine ev_loc [1, 2, 3, 0] rfl ?_
        exact l_X7_reads_32   1700 q3.1 l1 l2 (0 : Int32) _ h
      · have h := am_e c6 h
        refine ev_ldc (v := ((-1000000011) : Int32)) dX7_reads_27 tw_1143 ?_
        obtain rfl := Option.some.inj h
        exact ev_iret dX7_reads_29 rfl rfl
    · have h := am_t c4 h
      refine ev_ldc (v := ((-1000000001) : Int32)) dX7_reads_15 tw_933 ?_
      obtain rfl := Option.some.inj h
      exact ev_iret dX7_reads_17 rfl rfl

theorem c_X7_reads {X : Nat × (Nat → Int32)} {u : am_MU} {l1 : Int32} {l2 : Int32} {r : am_MU × Int32} (h : f_X7_reads u l1 l2 = some r) : am_Cn X M_X7_reads [.ref 110, .int l1, .int l2] (hp u) (hp r.1, some (.int r.2)) := by
  refine am_Cn.of ok_X7_reads (Nat.le_refl _) (Nat.le_refl _) (Nat.le_of_ble_eq_true rfl) ?_
  refine ev_loc [0, 1, 2] rfl ?_
  exact l_X7_reads_0 u l1 l2 r h

-- SandRipplesModel.copy(IIIII)I
def g_X7_copy_141  : Nat → am_MU → Int32 → Int32 → Int32 → Int32 → Option (am_MU × Int32)
  | 0 => fun _ _ _ _ _ => none
  | n + 1 => fun u l3 l4 l5 l6 =>
if l5 ≤ l6 then (some (u, l5))
else (if am_in l6 24 then (
if am_in ((((24 : Int32) * l3) + l4) + l6) 96 then (
am_let (am_u2 u 126 (((((24 : Int32) * l3) + l4) + l6).toNatClampNeg) (u 131 l6.toNatClampNeg)) fun u4 =>
am_let (l6 + (1 : Int32)) fun x5 =>
g_X7_copy_141 n u4 l3 l4 l5 x5) else none) else none)

def g_X7_copy_104  : Nat → am_MU → Int32 → Int32 → Int32 → Int32 → Int32 → Int32 → Option (am_MU × Int32)
  | 0 => fun _ _ _ _ _ _ _ => none
  | n + 1 => fun u l1 l2 l3 l4 l5 l6 =>
if l5 ≤ l6 then (g_X7_copy_141 1700 u l3 l4 l5 (0 : Int32))
else (if am_in ((((24 : Int32) * l1) + l2) + l6) 96 then (
if am_in l6 24 then (
am_let (am_u2 u 131 l6.toNatClampNeg (u 126 (((((24 : Int32) * l1) + l2) + l6).toNatClampNeg))) fun u4 =>
am_let (l6 + (1 : Int32)) fun x5 =>
g_X7_copy_104 n u4 l1 l2 l3 l4 l5 x5) else none) else none)

def f_X7_copy  (u : am_MU) (l1 : Int32) (l2 : Int32) (l3 : Int32) (l4 : Int32) (l5 : Int32) : Option (am_MU × Int32) :=
(f_X7_isSheet u l1).bind fun q1 =>
if q1.2 = 0 then (some (q1.1, ((-1000000001) : Int32)))
else ((f_X7_isSheet q1.1 l3).bind fun q3 =>
if q3.2 = 0 then (some (q3.1, ((-1000000001) : Int32)))
else (if am_in l1 4 then (
if (q3.1 124 l1.toNatClampNeg) < 0 then (some (q3.1, ((-1000000011) : Int32)))
else (if am_in l3 4 then (
if 0 ≤ (q3.1 124 l3.toNatClampNeg) then (if (q3.1 124 l1.toNatClampNeg) = (q3.1 124 l3.toNatClampNeg) then (if l2 < 0 then (some (q3.1, ((-1000000013) : Int32)))
else (if l4 < 0 then (some (q3.1, ((-1000000013) : Int32)))
else (if l5 < 0 then (some (q3.1, ((-1000000013) : Int32)))
else (if ((q3.1 125 l1.toNatClampNeg) - l5) < l2 then (some (q3.1, ((-1000000013) : Int32)))
else (if l4 ≤ ((q3.1 125 l3.toNatClampNeg) - l5) then (g_X7_copy_104 1700 q3.1 l1 l2 l3 l4 l5 (0 : Int32))
else (some (q3.1, ((-1000000013) : Int32))))))))
else (some (q3.1, ((-1000000012) : Int32))))
else (some (q3.1, ((-1000000011) : Int32)))) else none)) else none))

theorem l_X7_copy_141 {X : Nat × (Nat → Int32)}   : ∀ (n : Nat) (u : am_MU) (l3 : Int32) (l4 : Int32) (l5 : Int32) (l6 : Int32) (r : am_MU × Int32), g_X7_copy_141  n u l3 l4 l5 l6 = some r → am_Ev X M_X7_copy 141 [(0, .ref 110), (3, .int l3), (4, .int l4), (5, .int l5), (6, .int l6)] [] (hp u) (hp r.1, some (.int r.2)) := by
  intro n
  induction n with
  | zero => intro u l3 l4 l5 l6 r h; cases h
  | succ n ih =>
    intro u l3 l4 l5 l6 r h
    rw [g_X7_copy_141] at h
    refine ev_iload dX7_copy_141 4 rfl ?_
    refine ev_iload dX7_copy_143 3 rfl ?_
    refine ev_icmp_ge 176 dX7_copy_145 (by decide) (fun c1 => ?_) (fun c1 => ?_)
    · have h := am_t c1 h
      refine ev_iload dX7_copy_176 3 rfl ?_
      obtain rfl := Option.some.inj h
      exact ev_iret dX7_copy_178 rfl rfl
    · have h := am_e c1 h
      refine ev_aload_n dX7_copy_148 0 rfl trivial ?_
      refine px_getR dX7_copy_149 gf_RX7_57 (at7 rfl) (by decide) rfl ?_
      refine ev_bipush (v := (24 : Int32)) dX7_copy_152 kB_24 ?_
      refine ev_iload_n dX7_copy_154 1 rfl ?_
      refine ev_imul dX7_copy_155 ?_
      refine ev_iload dX7_copy_156 2 rfl ?_
      refine ev_iadd dX7_copy_158 ?_
      refine ev_iload dX7_copy_159 4 rfl ?_
      refine ev_iadd dX7_copy_161 ?_
      refine ev_aload_n dX7_copy_162 0 rfl trivial ?_
      refine px_getR dX7_copy_163 gf_RX7_72 (at7 rfl) (by decide) rfl ?_
      refine ev_iload dX7_copy_166 4 rfl ?_
      obtain ⟨g2, h⟩ := am_gd h
      refine px_iald (n := 24) l6.toNatClampNeg dX7_copy_168 rfl g2 rfl ?_
      obtain ⟨g3, h⟩ := am_gd h
      obtain ⟨u4, eu4, h⟩ := am_lt h
      refine px_iast (n := 96) (((((24 : Int32) * l3) + l4) + l6).toNatClampNeg) dX7_copy_169 rfl g3 rfl eu4 ?_
      obtain ⟨x5, ex5, h⟩ := am_lt h
      refine ev_iinc (v := x5) (L' := [(6, .int x5), (0, .ref 110), (3, .int l3), (4, .int l4), (5, .int l5)]) dX7_copy_170 4 rfl (by rw [kI_1, ex5]) (by decide) rfl ?_
      refine ev_goto 141 dX7_copy_173 (by decide) ?_
      refine ev_loc [1, 2, 3, 4, 0] rfl ?_
      exact ih u4 l3 l4 l5 x5 _ h

theorem l_X7_copy_104 {X : Nat × (Nat → Int32)}   : ∀ (n : Nat) (u : am_MU) (l1 : Int32) (l2 : Int32) (l3 : Int32) (l4 : Int32) (l5 : Int32) (l6 : Int32) (r : am_MU × Int32), g_X7_copy_104  n u l1 l2 l3 l4 l5 l6 = some r → am_Ev X M_X7_copy 104 [(0, .ref 110), (1, .int l1), (2, .int l2), (3, .int l3), (4, .int l4), (5, .int l5), (6, .int l6)] [] (hp u) (hp r.1, some (.int r.2)) := by
  intro n
  induction n with
  | zero => intro u l1 l2 l3 l4 l5 l6 r h; cases h
  | succ n ih =>
    intro u l1 l2 l3 l4 l5 l6 r h
    rw [g_X7_copy_104] at h
    refine ev_iload dX7_copy_104 6 rfl ?_
    refine ev_iload dX7_copy_106 5 rfl ?_
    refine ev_icmp_ge 138 dX7_copy_108 (by decide) (fun c1 => ?_) (fun c1 => ?_)
    · have h := am_t c1 h
      refine ev_iconst (v := (0 : Int32)) dX7_copy_138 kI_0 ?_
      refine ev_istore (L' := [(6, .int (0 : Int32)), (0, .ref 110), (1, .int l1), (2, .int l2), (3, .int l3), (4, .int l4), (5, .int l5)]) dX7_copy_139 (by decide) rfl ?_
      refine ev_loc [1, 4, 5, 6, 0] rfl ?_
      exact l_X7_copy_141   1700 u l3 l4 l5 (0 : Int32) _ h
    · have h := am_e c1 h
      refine ev_aload_n dX7_copy_111 0 rfl trivial ?_
      refine px_getR dX7_copy_112 gf_RX7_72 (at7 rfl) (by decide) rfl ?_
      refine ev_iload dX7_copy_115 6 rfl ?_
      refine ev_aload_n dX7_copy_117 0 rfl trivial ?_
      refine px_getR dX7_copy_118 gf_RX7_57 (at7 rfl) (by decide) rfl ?_
      refine ev_bipush (v := (24 : Int32)) dX7_copy_121 kB_24 ?_
      refine ev_iload_n dX7_copy_123 1 rfl ?_
      refine ev_imul dX7_copy_124 ?_
      refine ev_iload_n dX7_copy_125 2 rfl ?_
      refine ev_iadd dX7_copy_126 ?_
      refine ev_iload dX7_copy_127 6 rfl ?_
      refine ev_iadd dX7_copy_129 ?_
      obtain ⟨g2, h⟩ := am_gd h
      refine px_iald (n := 96) (((((24 : Int32) * l1) + l2) + l6).toNatClampNeg) dX7_copy_130 rfl g2 rfl ?_
      obtain ⟨g3, h⟩ := am_gd h
      obtain ⟨u4, eu4, h⟩ := am_lt h
      refine px_iast (n := 24) l6.toNatClampNeg dX7_copy_131 rfl g3 rfl eu4 ?_
      obtain ⟨x5, ex5, h⟩ := am_lt h
      refine ev_iinc (v := x5) (L' := [(6, .int x5), (0, .ref 110), (1, .int l1), (2, .int l2), (3, .int l3), (4, .int l4), (5, .int l5)]) dX7_copy_132 6 rfl (by rw [kI_1, ex5]) (by decide) rfl ?_
      refine ev_goto 104 dX7_copy_135 (by decide) ?_
      refine ev_loc [1, 2, 3, 4, 5, 6, 0] rfl ?_
      exact ih u4 l1 l2 l3 l4 l5 x5 _ h

theorem l_X7_copy_0 {X : Nat × (Nat → Int32)}   (u : am_MU) (l1 : Int32) (l2 : Int32) (l3 : Int32) (l4 : Int32) (l5 : Int32) (r : am_MU × Int32) (h : f_X7_copy  u l1 l2 l3 l4 l5 = some r) : am_Ev X M_X7_copy 0 [(0, .ref 110), (1, .int l1), (2, .int l2), (3, .int l3), (4, .int l4), (5, .int l5)] [] (hp u) (hp r.1, some (.int r.2)) := by
  unfold f_X7_copy at h
  refine ev_iload_n dX7_copy_0 1 rfl ?_
  obtain ⟨q1, eq1, h⟩ := am_bd h
  refine px_callsi [.int l1] dX7_copy_1 ok_X7_isSheet lk_RX7_185 st_X7_isSheet (by decide) rfl (c_X7_isSheet eq1) rfl (Nat.le_of_ble_eq_true rfl) ?_
  refine ev_if_eq 14 dX7_copy_4 (by decide) (fun c2 => ?_) (fun c2 => ?_)
  · have h := am_t c2 h
    refine ev_ldc (v := ((-1000000001) : Int32)) dX7_copy_14 tw_933 ?_
    obtain rfl := Option.some.inj h
    exact ev_iret dX7_copy_16 rfl rfl
  · have h := am_e c2 h
    refine ev_iload_n dX7_copy_7 3 rfl ?_
    obtain ⟨q3, eq3, h⟩ := am_bd h
    refine px_callsi [.int l3] dX7_copy_8 ok_X7_isSheet lk_RX7_185 st_X7_isSheet (by decide) rfl (c_X7_isSheet eq3) rfl (Nat.le_of_ble_eq_true rfl) ?_
    refine ev_if_ne 17 dX7_copy_11 (by decide) (fun c4 => ?_) (fun c4 => ?_)
    · have h := am_e c4 h
      refine ev_aload_n dX7_copy_17 0 rfl trivial ?_
      refine px_getR dX7_copy_18 gf_RX7_51 (at7 rfl) (by decide) rfl ?_
      refine ev_iload_n dX7_copy_21 1 rfl ?_
      obtain ⟨g5, h⟩ := am_gd h
      refine px_iald (n := 4) l1.toNatClampNeg dX7_copy_22 rfl g5 rfl ?_
      refine ev_if_lt 35 dX7_copy_23 (by decide) (fun c6 => ?_) (fun c6 => ?_)
      · have h := am_t c6 h
        refine ev_ldc (v := ((-1000000011) : Int32)) dX7_copy_35 tw_1143 ?_
        obtain rfl := Option.some.inj h
        exact ev_iret dX7_copy_37 rfl rfl
      · have h := am_e c6 h
        refine ev_aload_n dX7_copy_26 0 rfl trivial ?_
        refine px_getR dX7_copy_27 gf_RX7_51 (at7 rfl) (by decide) rfl ?_
        refine ev_iload_n dX7_copy_30 3 rfl ?_
        obtain ⟨g7, h⟩ := am_gd h
        refine px_iald (n := 4) l3.toNatClampNeg dX7_copy_31 rfl g7 rfl ?_
        refine ev_if_ge 38 dX7_copy_32 (by decide) (fun c8 => ?_) (fun c8 => ?_)
        · have h := am_t c8 h
          refine ev_aload_n dX7_copy_38 0 rfl trivial ?_
          refine px_getR dX7_copy_39 gf_RX7_51 (at7 rfl) (by decide) rfl ?_
          refine ev_iload_n dX7_copy_42 1 rfl ?_
          refine px_iald (n := 4) l1.toNatClampNeg dX7_copy_43 rfl g5 rfl ?_
          refine ev_aload_n dX7_copy_44 0 rfl trivial ?_
          refine px_getR dX7_copy_45 gf_RX7_51 (at7 rfl) (by decide) rfl ?_
          refine ev_iload_n dX7_copy_48 3 rfl ?_
          refine px_iald (n := 4) l3.toNatClampNeg dX7_copy_49 rfl g7 rfl ?_
          refine ev_icmp_eq 56 dX7_copy_50 (by decide) (fun c9 => ?_) (fun c9 => ?_)
          · have h := am_t c9 h
            refine ev_iload_n dX7_copy_56 2 rfl ?_
            refine ev_if_lt 97 dX7_copy_57 (by decide) (fun c10 => ?_) (fun c10 => ?_)
            · have h := am_t c10 h
              refine ev_ldcw (v := ((-1000000013) : Int32)) dX7_copy_97 tw_1224 ?_
              obtain rfl := Option.some.inj h
              exact ev_iret dX7_copy_100 rfl rfl
            · have h := am_e c10 h
              refine ev_iload dX7_copy_60 4 rfl ?_
              refine ev_if_lt 97 dX7_copy_62 (by decide) (fun c11 => ?_) (fun c11 => ?_)
              · have h := am_t c11 h
                refine ev_ldcw (v := ((-1000000013) : Int32)) dX7_copy_97 tw_1224 ?_
                obtain rfl := Option.some.inj h
                exact ev_iret dX7_copy_100 rfl rfl
              · have h := am_e c11 h
                refine ev_iload dX7_copy_65 5 rfl ?_
                refine ev_if_lt 97 dX7_copy_67 (by decide) (fun c12 => ?_) (fun c12 => ?_)
                · have h := am_t c12 h
                  refine ev_ldcw (v := ((-1000000013) : Int32)) dX7_copy_97 tw_1224 ?_
                  obtain rfl := Option.some.inj h
                  exact ev_iret dX7_copy_100 rfl rfl
                · have h := am_e c12 h
                  refine ev_iload_n dX7_copy_70 2 rfl ?_
                  refine ev_aload_n dX7_copy_71 0 rfl trivial ?_
                  refine px_getR dX7_copy_72 gf_RX7_54 (at7 rfl) (by decide) rfl ?_
                  refine ev_iload_n dX7_copy_75 1 rfl ?_
                  refine px_iald (n := 4) l1.toNatClampNeg dX7_copy_76 rfl g5 rfl ?_
                  refine ev_iload dX7_copy_77 5 rfl ?_
                  refine ev_isub dX7_copy_79 ?_
                  refine ev_icmp_gt 97 dX7_copy_80 (by decide) (fun c13 => ?_) (fun c13 => ?_)
                  · have h := am_t c13 h
                    refine ev_ldcw (v := ((-1000000013) : Int32)) dX7_copy_97 tw_1224 ?_
                    obtain rfl := Option.some.inj h
                    exact ev_iret dX7_copy_100 rfl rfl
                  · have h := am_e c13 h
                    refine ev_iload dX7_copy_83 4 rfl ?_
                    refine ev_aload_n dX7_copy_85 0 rfl trivial ?_
                    refine px_getR dX7_copy_86 gf_RX7_54 (at7 rfl) (by decide) rfl ?_
                    refine ev_iload_n dX7_copy_89 3 rfl ?_
                    refine px_iald (n := 4) l3.toNatClampNeg dX7_copy_90 rfl g7 rfl ?_
                    refine ev_iload dX7_copy_91 5 rfl ?_
                    refine ev_isub dX7_copy_93 ?_
                    refine ev_icmp_le 101 dX7_copy_94 (by decide) (fun c14 => ?_) (fun c14 => ?_)
                    · have h := am_t c14 h
                      refine ev_iconst (v := (0 : Int32)) dX7_copy_101 kI_0 ?_
                      refine ev_istore (L' := [(6, .int (0 : Int32)), (0, .ref 110), (1, .int l1), (2, .int l2), (3, .int l3), (4, .int l4), (5, .int l5)]) dX7_copy_102 (by decide) rfl ?_
                      refine ev_loc [1, 2, 3, 4, 5, 6, 0] rfl ?_
                      exact l_X7_copy_104   1700 q3.1 l1 l2 l3 l4 l5 (0 : Int32) _ h
                    · have h := am_e c14 h
                      refine ev_ldcw (v := ((-1000000013) : Int32)) dX7_copy_97 tw_1224 ?_
                      obtain rfl := Option.some.inj h
                      exact ev_iret dX7_copy_100 rfl rfl
          · have h := am_e c9 h
            refine ev_ldc (v := ((-1000000012) : Int32)) dX7_copy_53 tw_1018 ?_
            obtain rfl := Option.some.inj h
            exact ev_iret dX7_copy_55 rfl rfl
        · have h := am_e c8 h
          refine ev_ldc (v := ((-1000000011) : Int32)) dX7_copy_35 tw_1143 ?_
          obtain rfl := Option.some.inj h
          exact ev_iret dX7_copy_37 rfl rfl
    · have h := am_t c4 h
      refine ev_ldc (v := ((-1000000001) : Int32)) dX7_copy_14 tw_933 ?_
      obtain rfl := Option.some.inj h
      exact ev_iret dX7_copy_16 rfl rfl

theorem c_X7_copy {X : Nat × (Nat → Int32)} {u : am_MU} {l1 : Int32} {l2 : Int32} {l3 : Int32} {l4 : Int32} {l5 : Int32} {r : am_MU × Int32} (h : f_X7_copy u l1 l2 l3 l4 l5 = some r) : am_Cn X M_X7_copy [.ref 110, .int l1, .int l2, .int l3, .int l4, .int l5] (hp u) (hp r.1, some (.int r.2)) := by
  refine am_Cn.of ok_X7_copy (Nat.le_refl _) (Nat.le_refl _) (Nat.le_of_ble_eq_true rfl) ?_
  refine ev_loc [0, 1, 2, 3, 4, 5] rfl ?_
  exact l_X7_copy_0 u l1 l2 l3 l4 l5 r h

-- SandRipplesModel.isSlot(I)Z
def f_X7_isSlot  (u : am_MU) (l0 : Int32) : Option (am_MU × Int32) :=
(f_X7_in u l0 (0 : Int32) (4 : Int32)).bind fun q1 =>
if q1.2 = 0 ∨ q1.2 = 1 then (
some (q1.1, q1.2)) else none

theorem l_X7_isSlot_0 {X : Nat × (Nat → Int32)}   (u : am_MU) (l0 : Int32) (r : am_MU × Int32) (h : f_X7_isSlot  u l0 = some r) : am_Ev X M_X7_isSlot 0 [(0, .int l0)] [] (hp u) (hp r.1, some (.int r.2)) := by
  unfold f_X7_isSlot at h
  refine ev_iload_n dX7_isSlot_0 0 rfl ?_
  refine ev_iconst (v := (0 : Int32)) dX7_isSlot_1 kI_0 ?_
  refine ev_iconst (v := (4 : Int32)) dX7_isSlot_2 kI_4 ?_
  obtain ⟨q1, eq1, h⟩ := am_bd h
  refine px_callsi [.int l0, .int (0 : Int32), .int (4 : Int32)] dX7_isSlot_3 ok_X7_in lk_RX7_78 st_X7_in (by decide) rfl (c_X7_in eq1) rfl (Nat.le_of_ble_eq_true rfl) ?_
  obtain ⟨g2, h⟩ := am_gd h
  obtain rfl := Option.some.inj h
  exact ev_iret dX7_isSlot_6 rfl (am_zn g2)

theorem c_X7_isSlot {X : Nat × (Nat → Int32)} {u : am_MU} {l0 : Int32} {r : am_MU × Int32} (h : f_X7_isSlot u l0 = some r) : am_Cn X M_X7_isSlot [.int l0] (hp u) (hp r.1, some (.int r.2)) := by
  refine am_Cn.of ok_X7_isSlot (Nat.le_refl _) (Nat.le_refl _) (Nat.le_of_ble_eq_true rfl) ?_
  refine ev_loc [0] rfl ?_
  exact l_X7_isSlot_0 u l0 r h

-- SandRipplesModel.lay(III)I
def g_X7_lay_133  : Nat → am_MU → Int32 → Int32 → Int32 → Int32 → Int32 → Option (am_MU × Int32)
  | 0 => fun _ _ _ _ _ _ => none
  | n + 1 => fun u l1 l2 l3 l4 l5 =>
if (24 : Int32) ≤ l5 then (some (u, l4))
else (if l2 = (2 : Int32) then (if am_in (((24 : Int32) * l3) + l5) 96 then (
if am_in (((24 : Int32) * l1) + l5) 120 then (
am_let (am_u2 u 130 ((((24 : Int32) * l1) + l5).toNatClampNeg) (u 126 ((((24 : Int32) * l3) + l5).toNatClampNeg))) fun u5 =>
am_let (l5 + (1 : Int32)) fun x6 =>
g_X7_lay_133 n u5 l1 l2 l3 l4 x6) else none) else none)
else (some (u, l4)))

def g_X7_lay_129  (u : am_MU) (l1 : Int32) (l2 : Int32) (l3 : Int32) (l4 : Int32) (s1 : Int32) (s2 : Int32) : Option (am_MU × Int32) :=
if am_in s1 5 then (
am_let (am_u2 u 129 s1.toNatClampNeg s2) fun u2 =>
g_X7_lay_133 1700 u2 l1 l2 l3 l4 (0 : Int32)) else none

def g_X7_lay_109  (u : am_MU) (l1 : Int32) (l2 : Int32) (l3 : Int32) (l4 : Int32) (s1 : Int32) (s2 : Int32) : Option (am_MU × Int32) :=
if am_in s1 5 then (
am_let (am_u2 u 128 s1.toNatClampNeg s2) fun u2 =>
if l2 = (1 : Int32) then ((f_X7_worthOf u2 l3).bind fun q4 =>
g_X7_lay_129 q4.1 l1 l2 l3 l4 l1 q4.2)
else (g_X7_lay_129 u2 l1 l2 l3 l4 l1 (0 : Int32))) else none

def g_X7_lay_61  (u : am_MU) (l1 : Int32) (l2 : Int32) (l3 : Int32) : Option (am_MU × Int32) :=
if am_in l1 5 then (
am_let (u 127 l1.toNatClampNeg) fun x2 =>
am_let (am_u2 u 127 l1.toNatClampNeg l2) fun u3 =>
if l2 = (1 : Int32) then ((f_X7_kindOf u3 l3).bind fun q7 =>
g_X7_lay_109 q7.1 l1 l2 l3 x2 l1 q7.2)
else (if l2 = (2 : Int32) then (if am_in l3 4 then (
g_X7_lay_109 u3 l1 l2 l3 x2 l1 (u3 125 l3.toNatClampNeg)) else none)
else (g_X7_lay_109 u3 l1 l2 l3 x2 l1 l3))) else none

def g_X7_lay_44  (u : am_MU) (l1 : Int32) (l2 : Int32) (l3 : Int32) : Option (am_MU × Int32) :=
if l2 = (2 : Int32) then (if am_in l3 4 then (
if 0 ≤ (u 124 l3.toNatClampNeg) then (g_X7_lay_61 u l1 l2 l3)
else (some (u, ((-1000000011) : Int32)))) else none)
else (g_X7_lay_61 u l1 l2 l3)

def g_X7_lay_29  (u : am_MU) (l1 : Int32) (l2 : Int32) (l3 : Int32) : Option (am_MU × Int32) :=
if l2 = (2 : Int32) then ((f_X7_isSheet u l3).bind fun q2 =>
if q2.2 = 0 then (some (q2.1, ((-1000000001) : Int32)))
else (g_X7_lay_44 q2.1 l1 l2 l3))
else (g_X7_lay_44 u l1 l2 l3)

def f_X7_lay  (u : am_MU) (l1 : Int32) (l2 : Int32) (l3 : Int32) : Option (am_MU × Int32) :=
(f_X7_isSlot u l1).bind fun q1 =>
if q1.2 = 0 then (some (q1.1, ((-1000000001) : Int32)))
else ((f_X7_in q1.1 l2 (0 : Int32) (3 : Int32)).bind fun q3 =>
if q3.2 = 0 then (some (q3.1, ((-1000000001) : Int32)))
else (if l2 = (1 : Int32) then ((f_X7_isFloor q3.1 l3).bind fun q6 =>
if q6.2 = 0 then (some (q6.1, ((-1000000001) : Int32)))
else (g_X7_lay_29 q6.1 l1 l2 l3))
else (g_X7_lay_29 q3.1 l1 l2 l3)))

theorem l_X7_lay_133 {X : Nat × (Nat → Int32)}   : ∀ (n : Nat) (u : am_MU) (l1 : Int32) (l2 : Int32) (l3 : Int32) (l4 : Int32) (l5 : Int32) (r : am_MU × Int32), g_X7_lay_133  n u l1 l2 l3 l4 l5 = some r → am_Ev X M_X7_lay 133 [(0, .ref 110), (1, .int l1), (2, .int l2), (3, .int l3), (4, .int l4), (5, .int l5)] [] (hp u) (hp r.1, some (.int r.2)) := by
  intro n
  induction n with
  | zero => intro u l1 l2 l3 l4 l5 r h; cases h
  | succ n ih =>
    intro u l1 l2 l3 l4 l5 r h
    rw [g_X7_lay_133] at h
    refine ev_iload dX7_lay_133 5 rfl ?_
    refine ev_bipush (v := (24 : Int32)) dX7_lay_135 kB_24 ?_
    refine ev_icmp_ge 175 dX7_lay_137 (by decide) (fun c1 => ?_) (fun c1 => ?_)
    · have h := am_t c1 h
      refine ev_iload dX7_lay_175 4 rfl ?_
      obtain rfl := Option.some.inj h
      exact ev_iret dX7_lay_177 rfl rfl
    · have h := am_e c1 h
      refine ev_iload_n dX7_lay_140 2 rfl ?_
      refine ev_iconst (v := (2 : Int32)) dX7_lay_141 kI_2 ?_
      refine ev_icmp_ne 175 dX7_lay_142 (by decide) (fun c2 => ?_) (fun c2 => ?_)
      · have h := am_e c2 h
        refine ev_iload dX7_lay_175 4 rfl ?_
        obtain rfl := Option.some.inj h
        exact ev_iret dX7_lay_177 rfl rfl
      · have h := am_t c2 h
        refine ev_aload_n dX7_lay_145 0 rfl trivial ?_
        refine px_getR dX7_lay_146 gf_RX7_69 (at7 rfl) (by decide) rfl ?_
        refine ev_bipush (v := (24 : Int32)) dX7_lay_149 kB_24 ?_
        refine ev_iload_n dX7_lay_151 1 rfl ?_
        refine ev_imul dX7_lay_152 ?_
        refine ev_iload dX7_lay_153 5 rfl ?_
        refine ev_iadd dX7_lay_155 ?_
        refine ev_aload_n dX7_lay_156 0 rfl trivial ?_
        refine px_getR dX7_lay_157 gf_RX7_57 (at7 rfl) (by decide) rfl ?_
        refine ev_bipush (v := (24 : Int32)) dX7_lay_160 kB_24 ?_
        refine ev_iload_n dX7_lay_162 3 rfl ?_
        refine ev_imul dX7_lay_163 ?_
        refine ev_iload dX7_lay_164 5 rfl ?_
        refine ev_iadd dX7_lay_166 ?_
        obtain ⟨g3, h⟩ := am_gd h
        refine px_iald (n := 96) ((((24 : Int32) * l3) + l5).toNatClampNeg) dX7_lay_167 rfl g3 rfl ?_
        obtain ⟨g4, h⟩ := am_gd h
        obtain ⟨u5, eu5, h⟩ := am_lt h
        refine px_iast (n := 120) ((((24 : Int32) * l1) + l5).toNatClampNeg) dX7_lay_168 rfl g4 rfl eu5 ?_
        obtain ⟨x6, ex6, h⟩ := am_lt h
        refine ev_iinc (v := x6) (L' := [(5, .int x6), (0, .ref 110), (1, .int l1), (2, .int l2), (3, .int l3), (4, .int l4)]) dX7_lay_169 5 rfl (by rw [kI_1, ex6]) (by decide) rfl ?_
        refine ev_goto 133 dX7_lay_172 (by decide) ?_
        refine ev_loc [1, 2, 3, 4, 5, 0] rfl ?_
        exact ih u5 l1 l2 l3 l4 x6 _ h

theorem l_X7_lay_129 {X : Nat × (Nat → Int32)}   (u : am_MU) (l1 : Int32) (l2 : Int32) (l3 : Int32) (l4 : Int32) (s1 : Int32) (s2 : Int32) (r : am_MU × Int32) (h : g_X7_lay_129  u l1 l2 l3 l4 s1 s2 = some r) : am_Ev X M_X7_lay 129 [(0, .ref 110), (1, .int l1), (2, .int l2), (3, .int l3), (4, .int l4)] [.int s2, .int s1, .ref 129] (hp u) (hp r.1, some (.int r.2)) := by
  unfold g_X7_lay_129 at h
  obtain ⟨g1, h⟩ := am_gd h
  obtain ⟨u2, eu2, h⟩ := am_lt h
  refine px_iast (n := 5) s1.toNatClampNeg dX7_lay_129 rfl g1 rfl eu2 ?_
  refine ev_iconst (v := (0 : Int32)) dX7_lay_130 kI_0 ?_
  refine ev_istore (L' := [(5, .int (0 : Int32)), (0, .ref 110), (1, .int l1), (2, .int l2), (3, .int l3), (4, .int l4)]) dX7_lay_131 (by decide) rfl ?_
  refine ev_loc [1, 2, 3, 4, 5, 0] rfl ?_
  exact l_X7_lay_133   1700 u2 l1 l2 l3 l4 (0 : Int32) _ h

theorem l_X7_lay_109 {X : Nat × (Nat → Int32)}   (u : am_MU) (l1 : Int32) (l2 : Int32) (l3 : Int32) (l4 : Int32) (s1 : Int32) (s2 : Int32) (r : am_MU × Int32) (h : g_X7_lay_109  u l1 l2 l3 l4 s1 s2 = some r) : am_Ev X M_X7_lay 109 [(0, .ref 110), (1, .int l1), (2, .int l2), (3, .int l3), (4, .int l4)] [.int s2, .int s1, .ref 128] (hp u) (hp r.1, some (.int r.2)) := by
  unfold g_X7_lay_109 at h
  obtain ⟨g1, h⟩ := am_gd h
  obtain ⟨u2, eu2, h⟩ := am_lt h
  refine px_iast (n := 5) s1.toNatClampNeg dX7_lay_109 rfl g1 rfl eu2 ?_
  refine ev_aload_n dX7_lay_110 0 rfl trivial ?_
  refine px_getR dX7_lay_111 gf_RX7_66 (at7 rfl) (by decide) rfl ?_
  refine ev_iload_n dX7_lay_114 1 rfl ?_
  refine ev_iload_n dX7_lay_115 2 rfl ?_
  refine ev_iconst (v := (1 : Int32)) dX7_lay_116 kI_1 ?_
  refine ev_icmp_ne 128 dX7_lay_117 (by decide) (fun c3 => ?_) (fun c3 => ?_)
  · have h := am_e c3 h
    refine ev_iconst (v := (0 : Int32)) dX7_lay_128 kI_0 ?_
    refine ev_loc [0, 1, 2, 3, 4] rfl ?_
    exact l_X7_lay_129   u2 l1 l2 l3 l4 l1 (0 : Int32) _ h
  · have h := am_t c3 h
    refine ev_aload_n dX7_lay_120 0 rfl trivial ?_
    refine ev_iload_n dX7_lay_121 3 rfl ?_
    obtain ⟨q4, eq4, h⟩ := am_bd h
    refine px_callvi [.int l3] (by decide) cl_7 (at7 rfl) dX7_lay_122 ok_X7_worthOf lk_RX7_132 in_X7_worthOf se_X7_worthOf (by decide) rfl (c_X7_worthOf eq4) rfl (Nat.le_of_ble_eq_true rfl) ?_
    refine ev_goto 129 dX7_lay_125 (by decide) ?_
    refine ev_loc [0, 1, 2, 3, 4] rfl ?_
    exact l_X7_lay_129   q4.1 l1 l2 l3 l4 l1 q4.2 _ h

theorem l_X7_lay_61 {X : Nat × (Nat → Int32)}   (u : am_MU) (l1 : Int32) (l2 : Int32) (l3 : Int32) (r : am_MU × Int32) (h : g_X7_lay_61  u l1 l2 l3 = some r) : am_Ev X M_X7_lay 61 [(0, .ref 110), (1, .int l1), (2, .int l2), (3, .int l3)] [] (hp u) (hp r.1, some (.int r.2)) := by
  unfold g_X7_lay_61 at h
  refine ev_aload_n dX7_lay_61 0 rfl trivial ?_
  refine px_getR dX7_lay_62 gf_RX7_60 (at7 rfl) (by decide) rfl ?_
  refine ev_iload_n dX7_lay_65 1 rfl ?_
  obtain ⟨g1, h⟩ := am_gd h
  refine px_iald (n := 5) l1.toNatClampNeg dX7_lay_66 rfl g1 rfl ?_
  obtain ⟨x2, ex2, h⟩ := am_lt h
  refine px_top ex2 ?_
  refine ev_istore (L' := [(4, .int x2), (0, .ref 110), (1, .int l1), (2, .int l2), (3, .int l3)]) dX7_lay_67 (by decide) rfl ?_
  refine ev_aload_n dX7_lay_69 1 rfl trivial ?_
  refine px_getR dX7_lay_70 gf_RX7_60 (at7 rfl) (by decide) rfl ?_
  refine ev_iload_n dX7_lay_73 2 rfl ?_
  refine ev_iload_n dX7_lay_74 3 rfl ?_
  obtain ⟨u3, eu3, h⟩ := am_lt h
  refine px_iast (n := 5) l1.toNatClampNeg dX7_lay_75 rfl g1 rfl eu3 ?_
  refine ev_aload_n dX7_lay_76 1 rfl trivial ?_
  refine px_getR dX7_lay_77 gf_RX7_63 (at7 rfl) (by decide) rfl ?_
  refine ev_iload_n dX7_lay_80 2 rfl ?_
  refine ev_iload_n dX7_lay_81 3 rfl ?_
  refine ev_iconst (v := (1 : Int32)) dX7_lay_82 kI_1 ?_
  refine ev_icmp_ne 94 dX7_lay_83 (by decide) (fun c4 => ?_) (fun c4 => ?_)
  · have h := am_e c4 h
    refine ev_iload_n dX7_lay_94 3 rfl ?_
    refine ev_iconst (v := (2 : Int32)) dX7_lay_95 kI_2 ?_
    refine ev_icmp_ne 108 dX7_lay_96 (by decide) (fun c5 => ?_) (fun c5 => ?_)
    · have h := am_e c5 h
      refine ev_iload_n dX7_lay_108 4 rfl ?_
      refine ev_loc [1, 2, 3, 4, 0] rfl ?_
      exact l_X7_lay_109   u3 l1 l2 l3 x2 l1 l3 _ h
    · have h := am_t c5 h
      refine ev_aload_n dX7_lay_99 1 rfl trivial ?_
      refine px_getR dX7_lay_100 gf_RX7_54 (at7 rfl) (by decide) rfl ?_
      refine ev_iload_n dX7_lay_103 4 rfl ?_
      obtain ⟨g6, h⟩ := am_gd h
      refine px_iald (n := 4) l3.toNatClampNeg dX7_lay_104 rfl g6 rfl ?_
      refine ev_goto 109 dX7_lay_105 (by decide) ?_
      refine ev_loc [1, 2, 3, 4, 0] rfl ?_
      exact l_X7_lay_109   u3 l1 l2 l3 x2 l1 (u3 125 l3.toNatClampNeg) _ h
  · have h := am_t c4 h
    refine ev_aload_n dX7_lay_86 1 rfl trivial ?_
    refine ev_iload_n dX7_lay_87 4 rfl ?_
    obtain ⟨q7, eq7, h⟩ := am_bd h
    refine px_callvi [.int l3] (by decide) cl_7 (at7 rfl) dX7_lay_88 ok_X7_kindOf lk_RX7_92 in_X7_kindOf se_X7_kindOf (by decide) rfl (c_X7_kindOf eq7) rfl (Nat.le_of_ble_eq_true rfl) ?_
    refine ev_goto 109 dX7_lay_91 (by decide) ?_
    refine ev_loc [1, 2, 3, 4, 0] rfl ?_
    exact l_X7_lay_109   q7.1 l1 l2 l3 x2 l1 q7.2 _ h

theorem l_X7_lay_44 {X : Nat × (Nat → Int32)}   (u : am_MU) (l1 : Int32) (l2 : Int32) (l3 : Int32) (r : am_MU × Int32) (h : g_X7_lay_44  u l1 l2 l3 = some r) : am_Ev X M_X7_lay 44 [(0, .ref 110), (1, .int l1), (2, .int l2), (3, .int l3)] [] (hp u) (hp r.1, some (.int r.2)) := by
  unfold g_X7_lay_44 at h
  refine ev_iload_n dX7_lay_44 2 rfl ?_
  refine ev_iconst (v := (2 : Int32)) dX7_lay_45 kI_2 ?_
  refine ev_icmp_ne 61 dX7_lay_46 (by decide) (fun c1 => ?_) (fun c1 => ?_)
  · have h := am_e c1 h
    refine ev_loc [0, 1, 2, 3] rfl ?_
    exact l_X7_lay_61   u l1 l2 l3 _ h
  · have h := am_t c1 h
    refine ev_aload_n dX7_lay_49 0 rfl trivial ?_
    refine px_getR dX7_lay_50 gf_RX7_51 (at7 rfl) (by decide) rfl ?_
    refine ev_iload_n dX7_lay_53 3 rfl ?_
    obtain ⟨g2, h⟩ := am_gd h
    refine px_iald (n := 4) l3.toNatClampNeg dX7_lay_54 rfl g2 rfl ?_
    refine ev_if_ge 61 dX7_lay_55 (by decide) (fun c3 => ?_) (fun c3 => ?_)
    · have h := am_t c3 h
      refine ev_loc [0, 1, 2, 3] rfl ?_
      exact l_X7_lay_61   u l1 l2 l3 _ h
    · have h := am_e c3 h
      refine ev_ldc (v := ((-1000000011) : Int32)) dX7_lay_58 tw_1143 ?_
      obtain rfl := Option.some.inj h
      exact ev_iret dX7_lay_60 rfl rfl

theorem l_X7_lay_29 {X : Nat × (Nat → Int32)}   (u : am_MU) (l1 : Int32) (l2 : Int32) (l3 : Int32) (r : am_MU × Int32) (h : g_X7_lay_29  u l1 l2 l3 = some r) : am_Ev X M_X7_lay 29 [(0, .ref 110), (1, .int l1), (2, .int l2), (3, .int l3)] [] (hp u) (hp r.1, some (.int r.2)) := by
  unfold g_X7_lay_29 at h
  refine ev_iload_n dX7_lay_29 2 rfl ?_
  refine ev_iconst (v := (2 : Int32)) dX7_lay_30 kI_2 ?_
  refine ev_icmp_ne 44 dX7_lay_31 (by decide) (fun c1 => ?_) (fun c1 => ?_)
  · have h := am_e c1 h
    refine ev_loc [0, 1, 2, 3] rfl ?_
    exact l_X7_lay_44   u l1 l2 l3 _ h
  · have h := am_t c1 h
    refine ev_iload_n dX7_lay_34 3 rfl ?_
    obtain ⟨q2, eq2, h⟩ := am_bd h
    refine px_callsi [.int l3] dX7_lay_35 ok_X7_isSheet lk_RX7_185 st_X7_isSheet (by decide) rfl (c_X7_isSheet eq2) rfl (Nat.le_of_ble_eq_true rfl) ?_
    refine ev_if_ne 44 dX7_lay_38 (by decide) (fun c3 => ?_) (fun c3 => ?_)
    · have h := am_e c3 h
      refine ev_loc [0, 1, 2, 3] rfl ?_
      exact l_X7_lay_44   q2.1 l1 l2 l3 _ h
    · have h := am_t c3 h
      refine ev_ldc (v := ((-1000000001) : Int32)) dX7_lay_41 tw_933 ?_
      obtain rfl := Option.some.inj h
      exact ev_iret dX7_lay_43 rfl rfl

theorem l_X7_lay_0 {X : Nat × (Nat → Int32)}   (u : am_MU) (l1 : Int32) (l2 : Int32) (l3 : Int32) (r : am_MU × Int32) (h : f_X7_lay  u l1 l2 l3 = some r) : am_Ev X M_X7_lay 0 [(0, .ref 110), (1, .int l1), (2, .int l2), (3, .int l3)] [] (hp u) (hp r.1, some (.int r.2)) := by
  unfold f_X7_lay at h
  refine ev_iload_n dX7_lay_0 1 rfl ?_
  obtain ⟨q1, eq1, h⟩ := am_bd h
  refine px_callsi [.int l1] dX7_lay_1 ok_X7_isSlot lk_RX7_265 st_X7_isSlot (by decide) rfl (c_X7_isSlot eq1) rfl (Nat.le_of_ble_eq_true rfl) ?_
  refine ev_if_eq 41 dX7_lay_4 (by decide) (fun c2 => ?_) (fun c2 => ?_)
  · have h := am_t c2 h
    refine ev_ldc (v := ((-1000000001) : Int32)) dX7_lay_41 tw_933 ?_
    obtain rfl := Option.some.inj h
    exact ev_iret dX7_lay_43 rfl rfl
  · have h := am_e c2 h
    refine ev_iload_n dX7_lay_7 2 rfl ?_
    refine ev_iconst (v := (0 : Int32)) dX7_lay_8 kI_0 ?_
    refine ev_iconst (v := (3 : Int32)) dX7_lay_9 kI_3 ?_
    obtain ⟨q3, eq3, h⟩ := am_bd h
    refine px_callsi [.int l2, .int (0 : Int32), .int (3 : Int32)] dX7_lay_10 ok_X7_in lk_RX7_78 st_X7_in (by decide) rfl (c_X7_in eq3) rfl (Nat.le_of_ble_eq_true rfl) ?_
    refine ev_if_eq 41 dX7_lay_13 (by decide) (fun c4 => ?_) (fun c4 => ?_)
    · have h := am_t c4 h
      refine ev_ldc (v := ((-1000000001) : Int32)) dX7_lay_41 tw_933 ?_
      obtain rfl := Option.some.inj h
      exact ev_iret dX7_lay_43 rfl rfl
    · have h := am_e c4 h
      refine ev_iload_n dX7_lay_16 2 rfl ?_
      refine ev_iconst (v := (1 : Int32)) dX7_lay_17 kI_1 ?_
      refine ev_icmp_ne 29 dX7_lay_18 (by decide) (fun c5 => ?_) (fun c5 => ?_)
      · have h := am_e c5 h
        refine ev_loc [0, 1, 2, 3] rfl ?_
        exact l_X7_lay_29   q3.1 l1 l2 l3 _ h
      · have h := am_t c5 h
        refine ev_aload_n dX7_lay_21 0 rfl trivial ?_
        refine ev_iload_n dX7_lay_22 3 rfl ?_
        obtain ⟨q6, eq6, h⟩ := am_bd h
        refine px_callvi [.int l3] (by decide) cl_7 (at7 rfl) dX7_lay_23 ok_X7_isFloor lk_RX7_128 in_X7_isFloor se_X7_isFloor (by decide) rfl (c_X7_isFloor eq6) rfl (Nat.le_of_ble_eq_true rfl) ?_
        refine ev_if_eq 41 dX7_lay_26 (by decide) (fun c7 => ?_) (fun c7 => ?_)
        · have h := am_t c7 h
          refine ev_ldc (v := ((-1000000001) : Int32)) dX7_lay_41 tw_933 ?_
          obtain rfl := Option.some.inj h
          exact ev_iret dX7_lay_43 rfl rfl
        · have h := am_e c7 h
          refine ev_loc [0, 1, 2, 3] rfl ?_
          exact l_X7_lay_29   q6.1 l1 l2 l3 _ h

theorem c_X7_lay {X : Nat × (Nat → Int32)} {u : am_MU} {l1 : Int32} {l2 : Int32} {l3 : Int32} {r : am_MU × Int32} (h : f_X7_lay u l1 l2 l3 = some r) : am_Cn X M_X7_lay [.ref 110, .int l1, .int l2, .int l3] (hp u) (hp r.1, some (.int r.2)) := by
  refine am_Cn.of ok_X7_lay (Nat.le_refl _) (Nat.le_refl _) (Nat.le_of_ble_eq_true rfl) ?_
  refine ev_loc [0, 1, 2, 3] rfl ?_
  exact l_X7_lay_0 u l1 l2 l3 r h

-- SandRipplesModel.ask(II)I
def f_X7_ask  (u : am_MU) (l1 : Int32) (l2 : Int32) : Option (am_MU × Int32) :=
(f_X7_isSlot u l1).bind fun q1 =>
if q1.2 = 0 then (some (q1.1, ((-1000000001) : Int32)))
else ((f_X7_in q1.1 l2 (0 : Int32) (5 : Int32)).bind fun q3 =>
if q3.2 = 0 then (some (q3.1, ((-1000000001) : Int32)))
else (if am_in l1 5 then (
if (q3.1 127 l1.toNatClampNeg) = 0 then (some (q3.1, ((-1000000011) : Int32)))
else (if (q3.1 127 l1.toNatClampNeg) = (1 : Int32) then ((f_X7_isUnder q3.1 (q3.1 128 l1.toNatClampNeg) l2).bind fun q8 =>
if q8.2 = 0 then (some (q8.1, ((-1000000012) : Int32)))
else (some (q8.1, q8.1 129 l1.toNatClampNeg)))
else (some (q3.1, ((-1000000012) : Int32))))) else none))

theorem l_X7_ask_0 {X : Nat × (Nat → Int32)}   (u : am_MU) (l1 : Int32) (l2 : Int32) (r : am_MU × Int32) (h : f_X7_ask  u l1 l2 = some r) : am_Ev X M_X7_ask 0 [(0, .ref 110), (1, .int l1), (2, .int l2)] [] (hp u) (hp r.1, some (.int r.2)) := by
  unfold f_X7_ask at h
  refine ev_iload_n dX7_ask_0 1 rfl ?_
  obtain ⟨q1, eq1, h⟩ := am_bd h
  refine px_callsi [.int l1] dX7_ask_1 ok_X7_isSlot lk_RX7_265 st_X7_isSlot (by decide) rfl (c_X7_isSlot eq1) rfl (Nat.le_of_ble_eq_true rfl) ?_
  refine ev_if_eq 16 dX7_ask_4 (by decide) (fun c2 => ?_) (fun c2 => ?_)
  · have h := am_t c2 h
    refine ev_ldc (v := ((-1000000001) : Int32)) dX7_ask_16 tw_933 ?_
    obtain rfl := Option.some.inj h
    exact ev_iret dX7_ask_18 rfl rfl
  · have h := am_e c2 h
    refine ev_iload_n dX7_ask_7 2 rfl ?_
    refine ev_iconst (v := (0 : Int32)) dX7_ask_8 kI_0 ?_
    refine ev_iconst (v := (5 : Int32)) dX7_ask_9 kI_5 ?_
    obtain ⟨q3, eq3, h⟩ := am_bd h
    refine px_callsi [.int l2, .int (0 : Int32), .int (5 : Int32)] dX7_ask_10 ok_X7_in lk_RX7_78 st_X7_in (by decide) rfl (c_X7_in eq3) rfl (Nat.le_of_ble_eq_true rfl) ?_
    refine ev_if_ne 19 dX7_ask_13 (by decide) (fun c4 => ?_) (fun c4 => ?_)
    · have h := am_e c4 h
      refine ev_aload_n dX7_ask_19 0 rfl trivial ?_
      refine px_getR dX7_ask_20 gf_RX7_60 (at7 rfl) (by decide) rfl ?_
      refine ev_iload_n dX7_ask_23 1 rfl ?_
      obtain ⟨g5, h⟩ := am_gd h
      refine px_iald (n := 5) l1.toNatClampNeg dX7_ask_24 rfl g5 rfl ?_
      refine ev_if_ne 31 dX7_ask_25 (by decide) (fun c6 => ?_) (fun c6 => ?_)
      · have h := am_e c6 h
        refine ev_aload_n dX7_ask_31 0 rfl trivial ?_
        refine px_getR dX7_ask_32 gf_RX7_60 (at7 rfl) (by decide) rfl ?_
        refine ev_iload_n dX7_ask_35 1 rfl ?_
        refine px_iald (n := 5) l1.toNatClampNeg dX7_ask_36 rfl g5 rfl ?_
        refine ev_iconst (v := (1 : Int32)) dX7_ask_37 kI_1 ?_
        refine ev_icmp_ne 63 dX7_ask_38 (by decide) (fun c7 => ?_) (fun c7 => ?_)
        · have h := am_e c7 h
          refine ev_ldc (v := ((-1000000012) : Int32)) dX7_ask_63 tw_1018 ?_
          obtain rfl := Option.some.inj h
          exact ev_iret dX7_ask_65 rfl rfl
        · have h := am_t c7 h
          refine ev_aload_n dX7_ask_41 0 rfl trivial ?_
          refine px_getR dX7_ask_42 gf_RX7_63 (at7 rfl) (by decide) rfl ?_
          refine ev_iload_n dX7_ask_45 1 rfl ?_
          refine px_iald (n := 5) l1.toNatClampNeg dX7_ask_46 rfl g5 rfl ?_
          refine ev_iload_n dX7_ask_47 2 rfl ?_
          obtain ⟨q8, eq8, h⟩ := am_bd h
          refine px_callsi [.int (q3.1 128 l1.toNatClampNeg), .int l2] dX7_ask_48 ok_X7_isUnder lk_RX7_144 st_X7_isUnder (by decide) rfl (c_X7_isUnder eq8) rfl (Nat.le_of_ble_eq_true rfl) ?_
          refine ev_if_eq 63 dX7_ask_51 (by decide) (fun c9 => ?_) (fun c9 => ?_)
          · have h := am_t c9 h
            refine ev_ldc (v := ((-1000000012) : Int32)) dX7_ask_63 tw_1018 ?_
            obtain rfl := Option.some.inj h
            exact ev_iret dX7_ask_65 rfl rfl
          · have h := am_e c9 h
            refine ev_aload_n dX7_ask_54 0 rfl trivial ?_
            refine px_getR dX7_ask_55 gf_RX7_66 (at7 rfl) (by decide) rfl ?_
            refine ev_iload_n dX7_ask_58 1 rfl ?_
            refine px_iald (n := 5) l1.toNatClampNeg dX7_ask_59 rfl g5 rfl ?_
            refine ev_goto 65 dX7_ask_60 (by decide) ?_
            obtain rfl := Option.some.inj h
            exact ev_iret dX7_ask_65 rfl rfl
      · have h := am_t c6 h
        refine ev_ldc (v := ((-1000000011) : Int32)) dX7_ask_28 tw_1143 ?_
        obtain rfl := Option.some.inj h
        exact ev_iret dX7_ask_30 rfl rfl
    · have h := am_t c4 h
      refine ev_ldc (v := ((-1000000001) : Int32)) dX7_ask_16 tw_933 ?_
      obtain rfl := Option.some.inj h
      exact ev_iret dX7_ask_18 rfl rfl

theorem c_X7_ask {X : Nat × (Nat → Int32)} {u : am_MU} {l1 : Int32} {l2 : Int32} {r : am_MU × Int32} (h : f_X7_ask u l1 l2 = some r) : am_Cn X M_X7_ask [.ref 110, .int l1, .int l2] (hp u) (hp r.1, some (.int r.2)) := by
  refine am_Cn.of ok_X7_ask (Nat.le_refl _) (Nat.le_refl _) (Nat.le_of_ble_eq_true rfl) ?_
  refine ev_loc [0, 1, 2] rfl ?_
  exact l_X7_ask_0 u l1 l2 r h

-- SandRipplesModel.item(II)I
def f_X7_item  (u : am_MU) (l1 : Int32) (l2 : Int32) : Option (am_MU × Int32) :=
(f_X7_isSlot u l1).bind fun q1 =>
if q1.2 = 0 then (some (q1.1, ((-1000000001) : Int32)))
else (if am_in l1 5 then (
if (q1.1 127 l1.toNatClampNeg) = 0 then (some (q1.1, ((-1000000011) : Int32)))
else (if (q1.1 127 l1.toNatClampNeg) = (2 : Int32) then ((f_X7_in q1.1 l2 (0 : Int32) ((q1.1 128 l1.toNatClampNeg) - (1 : Int32))).bind fun q6 =>
if q6.2 = 0 then (some (q6.1, ((-1000000013) : Int32)))
else (if am_in (((24 : Int32) * l1) + l2) 120 then (
am_let (q6.1 130 ((((24 : Int32) * l1) + l2).toNatClampNeg)) fun x9 =>
if x9 = ((-1000000005) : Int32) then (some (q6.1, ((-1000000012) : Int32)))
else (some (q6.1, x9))) else none))
else (some (q1.1, ((-1000000012) : Int32))))) else none)

theorem l_X7_item_0 {X : Nat × (Nat → Int32)}   (u : am_MU) (l1 : Int32) (l2 : Int32) (r : am_MU × Int32) (h : f_X7_item  u l1 l2 = some r) : am_Ev X M_X7_item 0 [(0, .ref 110), (1, .int l1), (2, .int l2)] [] (hp u) (hp r.1, some (.int r.2)) := by
  unfold f_X7_item at h
  refine ev_iload_n dX7_item_0 1 rfl ?_
  obtain ⟨q1, eq1, h⟩ := am_bd h
  refine px_callsi [.int l1] dX7_item_1 ok_X7_isSlot lk_RX7_265 st_X7_isSlot (by decide) rfl (c_X7_isSlot eq1) rfl (Nat.le_of_ble_eq_true rfl) ?_
  refine ev_if_ne 10 dX7_item_4 (by decide) (fun c2 => ?_) (fun c2 => ?_)
  · have h := am_e c2 h
    refine ev_aload_n dX7_item_10 0 rfl trivial ?_
    refine px_getR dX7_item_11 gf_RX7_60 (at7 rfl) (by decide) rfl ?_
    refine ev_iload_n dX7_item_14 1 rfl ?_
    obtain ⟨g3, h⟩ := am_gd h
    refine px_iald (n := 5) l1.toNatClampNeg dX7_item_15 rfl g3 rfl ?_
    refine ev_if_ne 22 dX7_item_16 (by decide) (fun c4 => ?_) (fun c4 => ?_)
    · have h := am_e c4 h
      refine ev_aload_n dX7_item_22 0 rfl trivial ?_
      refine px_getR dX7_item_23 gf_RX7_60 (at7 rfl) (by decide) rfl ?_
      refine ev_iload_n dX7_item_26 1 rfl ?_
      refine px_iald (n := 5) l1.toNatClampNeg dX7_item_27 rfl g3 rfl ?_
      refine ev_iconst (v := (2 : Int32)) dX7_item_28 kI_2 ?_
      refine ev_icmp_eq 35 dX7_item_29 (by decide) (fun c5 => ?_) (fun c5 => ?_)
      · have h := am_t c5 h
        refine ev_iload_n dX7_item_35 2 rfl ?_
        refine ev_iconst (v := (0 : Int32)) dX7_item_36 kI_0 ?_
        refine ev_aload_n dX7_item_37 0 rfl trivial ?_
        refine px_getR dX7_item_38 gf_RX7_63 (at7 rfl) (by decide) rfl ?_
        refine ev_iload_n dX7_item_41 1 rfl ?_
        refine px_iald (n := 5) l1.toNatClampNeg dX7_item_42 rfl g3 rfl ?_
        refine ev_iconst (v := (1 : Int32)) dX7_item_43 kI_1 ?_
        refine ev_isub dX7_item_44 ?_
        obtain ⟨q6, eq6, h⟩ := am_bd h
        refine px_callsi [.int l2, .int (0 : Int32), .int ((q1.1 128 l1.toNatClampNeg) - (1 : Int32))] dX7_item_45 ok_X7_in lk_RX7_78 st_X7_in (by decide) rfl (c_X7_in eq6) rfl (Nat.le_of_ble_eq_true rfl) ?_
        refine ev_if_ne 55 dX7_item_48 (by decide) (fun c7 => ?_) (fun c7 => ?_)
        · have h := am_e c7 h
          refine ev_aload_n dX7_item_55 0 rfl trivial ?_
          refine px_getR dX7_item_56 gf_RX7_69 (at7 rfl) (by decide) rfl ?_
          refine ev_bipush (v := (24 : Int32)) dX7_item_59 kB_24 ?_
          refine ev_iload_n dX7_item_61 1 rfl ?_
          refine ev_imul dX7_item_62 ?_
          refine ev_iload_n dX7_item_63 2 rfl ?_
          refine ev_iadd dX7_item_64 ?_
          obtain ⟨g8, h⟩ := am_gd h
          refine px_iald (n := 120) ((((24 : Int32) * l1) + l2).toNatClampNeg) dX7_item_65 rfl g8 rfl ?_
          obtain ⟨x9, ex9, h⟩ := am_lt h
          refine px_top ex9 ?_
          refine ev_istore_n (L' := [(3, .int x9), (0, .ref 110), (1, .int l1), (2, .int l2)]) dX7_item_66 (by decide) rfl ?_
          refine ev_iload_n dX7_item_67 0 rfl ?_
          refine ev_ldc (v := ((-1000000005) : Int32)) dX7_item_68 tw_1083 ?_
          refine ev_icmp_ne 78 dX7_item_70 (by decide) (fun c10 => ?_) (fun c10 => ?_)
          · have h := am_e c10 h
            refine ev_iload_n dX7_item_78 0 rfl ?_
            obtain rfl := Option.some.inj h
            exact ev_iret dX7_item_79 rfl rfl
          · have h := am_t c10 h
            refine ev_ldc (v := ((-1000000012) : Int32)) dX7_item_73 tw_1018 ?_
            refine ev_goto 79 dX7_item_75 (by decide) ?_
            obtain rfl := Option.some.inj h
            exact ev_iret dX7_item_79 rfl rfl
        · have h := am_t c7 h
          refine ev_ldcw (v := ((-1000000013) : Int32)) dX7_item_51 tw_1224 ?_
          obtain rfl := Option.some.inj h
          exact ev_iret dX7_item_54 rfl rfl
      · have h := am_e c5 h
        refine ev_ldc (v := ((-1000000012) : Int32)) dX7_item_32 tw_1018 ?_
        obtain rfl := Option.some.inj h
        exact ev_iret dX7_item_34 rfl rfl
    · have h := am_t c4 h
      refine ev_ldc (v := ((-1000000011) : Int32)) dX7_item_19 tw_1143 ?_
      obtain rfl := Option.some.inj h
      exact ev_iret dX7_item_21 rfl rfl
  · have h := am_t c2 h
    refine ev_ldc (v := ((-1000000001) : Int32)) dX7_item_7 tw_933 ?_
    obtain rfl := Option.some.inj h
    exact ev_iret dX7_item_9 rfl rfl

theorem c_X7_item {X : Nat × (Nat → Int32)} {u : am_MU} {l1 : Int32} {l2 : Int32} {r : am_MU × Int32} (h : f_X7_item u l1 l2 = some r) : am_Cn X M_X7_item [.ref 110, .int l1, .int l2] (hp u) (hp r.1, some (.int r.2)) := by
  refine am_Cn.of ok_X7_item (Nat.le_refl _) (Nat.le_refl _) (Nat.le_of_ble_eq_true rfl) ?_
  refine ev_loc [0, 1, 2] rfl ?_
  exact l_X7_item_0 u l1 l2 r h

-- SandRipplesModel.rest(II)I
def f_X7_rest  (u : am_MU) (l1 : Int32) (l2 : Int32) : Option (am_MU × Int32) :=
(f_X7_isSlot u l1).bind fun q1 =>
if q1.2 = 0 then (some (q1.1, ((-1000000001) : Int32)))
else (if am_in l1 5 then (
if (q1.1 127 l1.toNatClampNeg) = 0 then (some (q1.1, ((-1000000011) : Int32)))
else (if (q1.1 127 l1.toNatClampNeg) = (3 : Int32) then (if l2 = 0 then (some (q1.1, ((-1000000002) : Int32)))
else (if l2 = ((-1) : Int32) then (some (q1.1, (0 : Int32)))
else (if ¬ l2 = 0 then (
some (q1.1, (q1.1 128 l1.toNatClampNeg) - (q1.1 128 l1.toNatClampNeg) / l2 * l2)) else none)))
else (some (q1.1, ((-1000000012) : Int32))))) else none)

theorem l_X7_rest_0 {X : Nat × (Nat → Int32)}   (u : am_MU) (l1 : Int32) (l2 : Int32) (r : am_MU × Int32) (h : f_X7_rest  u l1 l2 = some r) : am_Ev X M_X7_rest 0 [(0, .ref 110), (1, .int l1), (2, .int l2)] [] (hp u) (hp r.1, some (.int r.2)) := by
  unfold f_X7_rest at h
  refine ev_iload_n dX7_rest_0 1 rfl ?_
  obtain ⟨q1, eq1, h⟩ := am_bd h
  refine px_callsi [.int l1] dX7_rest_1 ok_X7_isSlot lk_RX7_265 st_X7_isSlot (by decide) rfl (c_X7_isSlot eq1) rfl (Nat.le_of_ble_eq_true rfl) ?_
  refine ev_if_ne 10 dX7_rest_4 (by decide) (fun c2 => ?_) (fun c2 => ?_)
  · have h := am_e c2 h
    refine ev_aload_n dX7_rest_10 0 rfl trivial ?_
    refine px_getR dX7_rest_11 gf_RX7_60 (at7 rfl) (by decide) rfl ?_
    refine ev_iload_n dX7_rest_14 1 rfl ?_
    obtain ⟨g3, h⟩ := am_gd h
    refine px_iald (n := 5) l1.toNatClampNeg dX7_rest_15 rfl g3 rfl ?_
    refine ev_if_ne 22 dX7_rest_16 (by decide) (fun c4 => ?_) (fun c4 => ?_)
    · have h := am_e c4 h
      refine ev_aload_n dX7_rest_22 0 rfl trivial ?_
      refine px_getR dX7_rest_23 gf_RX7_60 (at7 rfl) (by decide) rfl ?_
      refine ev_iload_n dX7_rest_26 1 rfl ?_
      refine px_iald (n := 5) l1.toNatClampNeg dX7_rest_27 rfl g3 rfl ?_
      refine ev_iconst (v := (3 : Int32)) dX7_rest_28 kI_3 ?_
      refine ev_icmp_eq 35 dX7_rest_29 (by decide) (fun c5 => ?_) (fun c5 => ?_)
      · have h := am_t c5 h
        refine ev_iload_n dX7_rest_35 2 rfl ?_
        refine ev_if_ne 45 dX7_rest_36 (by decide) (fun c6 => ?_) (fun c6 => ?_)
        · have h := am_e c6 h
          refine ev_iload_n dX7_rest_45 2 rfl ?_
          refine ev_iconst (v := ((-1) : Int32)) dX7_rest_46 kI_m1 ?_
          refine ev_icmp_ne 54 dX7_rest_47 (by decide) (fun c7 => ?_) (fun c7 => ?_)
          · have h := am_e c7 h
            refine ev_aload_n dX7_rest_54 0 rfl trivial ?_
            refine px_getR dX7_rest_55 gf_RX7_63 (at7 rfl) (by decide) rfl ?_
            refine ev_iload_n dX7_rest_58 1 rfl ?_
            refine px_iald (n := 5) l1.toNatClampNeg dX7_rest_59 rfl g3 rfl ?_
            refine ev_iload_n dX7_rest_60 2 rfl ?_
            obtain ⟨g8, h⟩ := am_gd h
            refine ev_irem dX7_rest_61 g8 ?_
            obtain rfl := Option.some.inj h
            exact ev_iret dX7_rest_62 rfl rfl
          · have h := am_t c7 h
            refine ev_iconst (v := (0 : Int32)) dX7_rest_50 kI_0 ?_
            refine ev_goto 62 dX7_rest_51 (by decide) ?_
            obtain rfl := Option.some.inj h
            exact ev_iret dX7_rest_62 rfl rfl
        · have h := am_t c6 h
          refine ev_ldcw (v := ((-1000000002) : Int32)) dX7_rest_39 tw_1258 ?_
          refine ev_goto 62 dX7_rest_42 (by decide) ?_
          obtain rfl := Option.some.inj h
          exact ev_iret dX7_rest_62 rfl rfl
      · have h := am_e c5 h
        refine ev_ldc (v := ((-1000000012) : Int32)) dX7_rest_32 tw_1018 ?_
        obtain rfl := Option.some.inj h
        exact ev_iret dX7_rest_34 rfl rfl
    · have h := am_t c4 h
      refine ev_ldc (v := ((-1000000011) : Int32)) dX7_rest_19 tw_1143 ?_
      obtain rfl := Option.some.inj h
      exact ev_iret dX7_rest_21 rfl rfl
  · have h := am_t c2 h
    refine ev_ldc (v := ((-1000000001) : Int32)) dX7_rest_7 tw_933 ?_
    obtain rfl := Option.some.inj h
    exact ev_iret dX7_rest_9 rfl rfl

theorem c_X7_rest {X : Nat × (Nat → Int32)} {u : am_MU} {l1 : Int32} {l2 : Int32} {r : am_MU × Int32} (h : f_X7_rest u l1 l2 = some r) : am_Cn X M_X7_rest [.ref 110, .int l1, .int l2] (hp u) (hp r.1, some (.int r.2)) := by
  refine am_Cn.of ok_X7_rest (Nat.le_refl _) (Nat.le_refl _) (Nat.le_of_ble_eq_true rfl) ?_
  refine ev_loc [0, 1, 2] rfl ?_
  exact l_X7_rest_0 u l1 l2 r h

-- SandRipplesModel.tell(I)I
def f_X7_tell  (u : am_MU) (l1 : Int32) : Option (am_MU × Int32) :=
if (u 110 33) = (60 : Int32) then (some (u, ((-1000000003) : Int32)))
else (if am_in (u 110 33) 60 then (
am_let (am_u2 u 132 ((u 110 33).toNatClampNeg) l1) fun u3 =>
am_let (am_u2 u3 110 33 ((u3 110 33) + (1 : Int32))) fun u4 =>
some (u4, u4 110 33)) else none)

theorem l_X7_tell_0 {X : Nat × (Nat → Int32)}   (u : am_MU) (l1 : Int32) (r : am_MU × Int32) (h : f_X7_tell  u l1 = some r) : am_Ev X M_X7_tell 0 [(0, .ref 110), (1, .int l1)] [] (hp u) (hp r.1, some (.int r.2)) := by
  unfold f_X7_tell at h
  refine ev_aload_n dX7_tell_0 0 rfl trivial ?_
  refine px_getI dX7_tell_1 gf_RX7_269 (at7 rfl) (by decide) rfl ?_
  refine ev_bipush (v := (60 : Int32)) dX7_tell_4 kB_60 ?_
  refine ev_icmp_ne 12 dX7_tell_6 (by decide) (fun c1 => ?_) (fun c1 => ?_)
  · have h := am_e c1 h
    refine ev_aload_n dX7_tell_12 0 rfl trivial ?_
    refine px_getR dX7_tell_13 gf_RX7_75 (at7 rfl) (by decide) rfl ?_
    refine ev_aload_n dX7_tell_16 0 rfl trivial ?_
    refine px_getI dX7_tell_17 gf_RX7_269 (at7 rfl) (by decide) rfl ?_
    refine ev_iload_n dX7_tell_20 1 rfl ?_
    obtain ⟨g2, h⟩ := am_gd h
    obtain ⟨u3, eu3, h⟩ := am_lt h
    refine px_iast (n := 60) ((u 110 33).toNatClampNeg) dX7_tell_21 rfl g2 rfl eu3 ?_
    refine ev_aload_n dX7_tell_22 0 rfl trivial ?_
    refine ev_dup dX7_tell_23 rfl ?_
    refine px_getI dX7_tell_24 gf_RX7_269 (at7 rfl) (by decide) rfl ?_
    refine ev_iconst (v := (1 : Int32)) dX7_tell_27 kI_1 ?_
    refine ev_iadd dX7_tell_28 ?_
    obtain ⟨u4, eu4, h⟩ := am_lt h
    refine px_putI dX7_tell_29 pf_RX7_269 (at7 rfl) (by decide) rfl eu4 ?_
    refine ev_aload_n dX7_tell_32 0 rfl trivial ?_
    refine px_getI dX7_tell_33 gf_RX7_269 (at7 rfl) (by decide) rfl ?_
    obtain rfl := Option.some.inj h
    exact ev_iret dX7_tell_36 rfl rfl
  · have h := am_t c1 h
    refine ev_ldc (v := ((-1000000003) : Int32)) dX7_tell_9 tw_934 ?_
    obtain rfl := Option.some.inj h
    exact ev_iret dX7_tell_11 rfl rfl

theorem c_X7_tell {X : Nat × (Nat → Int32)} {u : am_MU} {l1 : Int32} {r : am_MU × Int32} (h : f_X7_tell u l1 = some r) : am_Cn X M_X7_tell [.ref 110, .int l1] (hp u) (hp r.1, some (.int r.2)) := by
  refine am_Cn.of ok_X7_tell (Nat.le_refl _) (Nat.le_refl _) (Nat.le_of_ble_eq_true rfl) ?_
  refine ev_loc [0, 1] rfl ?_
  exact l_X7_tell_0 u l1 r h

-- SandRipplesModel.copyAll([I[I)V
def g_X7_copyAll_2  : Nat → am_MU → Nat → Nat → Int32 → Option (am_MU)
  | 0 => fun _ _ _ _ => none
  | n + 1 => fun u l0 l1 l2 =>
if (1535 : Int32) ≤ l2 then (some u)
else (if am_in l2 (il l0) then (
if am_in l2 (il l1) then (
am_let (am_u2 u l1 l2.toNatClampNeg (u l0 l2.toNatClampNeg)) fun u4 =>
am_let (l2 + (1 : Int32)) fun x5 =>
g_X7_copyAll_2 n u4 l0 l1 x5) else none) else none)

def f_X7_copyAll  (u : am_MU) (l0 : Nat) (l1 : Nat) : Option (am_MU) :=
g_X7_copyAll_2 1700 u l0 l1 (0 : Int32)

theorem l_X7_copyAll_2 {X : Nat × (Nat → Int32)}   : ∀ (n : Nat) (u : am_MU) (l0 : Nat) (l1 : Nat) (l2 : Int32) (r : am_MU), g_X7_copyAll_2  n u l0 l1 l2 = some r → am_Ev X M_X7_copyAll 2 [(0, .ref l0), (1, .ref l1), (2, .int l2)] [] (hp u) (hp r, none) := by
  intro n
  induction n with
  | zero => intro u l0 l1 l2 r h; cases h
  | succ n ih =>
    intro u l0 l1 l2 r h
    rw [g_X7_copyAll_2] at h
    refine ev_iload_n dX7_copyAll_2 2 rfl ?_
    refine ev_sipush (v := (1535 : Int32)) dX7_copyAll_3 kS_1535 ?_
    refine ev_icmp_ge 21 dX7_copyAll_6 (by decide) (fun c1 => ?_) (fun c1 => ?_)
    · have h := am_t c1 h
      obtain rfl := Option.some.inj h
      exact ev_vret dX7_copyAll_21 rfl
    · have h := am_e c1 h
      refine ev_aload_n dX7_copyAll_9 1 rfl trivial ?_
      refine ev_iload_n dX7_copyAll_10 2 rfl ?_
      refine ev_aload_n dX7_copyAll_11 0 rfl trivial ?_
      refine ev_iload_n dX7_copyAll_12 2 rfl ?_
      obtain ⟨g2, h⟩ := am_gd h
      refine px_iald (n := (il l0)) l2.toNatClampNeg dX7_copyAll_13 rfl g2 rfl ?_
      obtain ⟨g3, h⟩ := am_gd h
      obtain ⟨u4, eu4, h⟩ := am_lt h
      refine px_iast (n := (il l1)) l2.toNatClampNeg dX7_copyAll_14 rfl g3 rfl eu4 ?_
      obtain ⟨x5, ex5, h⟩ := am_lt h
      refine ev_iinc (v := x5) (L' := [(2, .int x5), (0, .ref l0), (1, .ref l1)]) dX7_copyAll_15 2 rfl (by rw [kI_1, ex5]) (by decide) rfl ?_
      refine ev_goto 2 dX7_copyAll_18 (by decide) ?_
      refine ev_loc [1, 2, 0] rfl ?_
      exact ih u4 l0 l1 x5 _ h

theorem l_X7_copyAll_0 {X : Nat × (Nat → Int32)}   (u : am_MU) (l0 : Nat) (l1 : Nat) (r : am_MU) (h : f_X7_copyAll  u l0 l1 = some r) : am_Ev X M_X7_copyAll 0 [(0, .ref l0), (1, .ref l1)] [] (hp u) (hp r, none) := by
  unfold f_X7_copyAll at h
  refine ev_iconst (v := (0 : Int32)) dX7_copyAll_0 kI_0 ?_
  refine ev_istore_n (L' := [(2, .int (0 : Int32)), (0, .ref l0), (1, .ref l1)]) dX7_copyAll_1 (by decide) rfl ?_
  refine ev_loc [1, 2, 0] rfl ?_
  exact l_X7_copyAll_2   1700 u l0 l1 (0 : Int32) _ h

theorem c_X7_copyAll {X : Nat × (Nat → Int32)} {u : am_MU} {l0 : Nat} {l1 : Nat} {r : am_MU} (h : f_X7_copyAll u l0 l1 = some r) : am_Cn X M_X7_copyAll [.ref l0, .ref l1] (hp u) (hp r, none) := by
  refine am_Cn.of ok_X7_copyAll (Nat.le_refl _) (Nat.le_refl _) (Nat.le_of_ble_eq_true rfl) ?_
  refine ev_loc [0, 1] rfl ?_
  exact l_X7_copyAll_0 u l0 l1 r h

-- SandRipplesModel.check(II)I
def g_X7_check_179  (u : am_MU) (l2 : Int32) (l3 : Int32) (l4 : Int32) : Option (am_MU × Int32) :=
(f_X7_copyAll u 113 111).bind fun q1 =>
if l4 = l3 then (if l4 = ((2 : Int32) * l2) then (some (q1, (0 : Int32)))
else (some (q1, (1 : Int32) + l4)))
else (some (q1, (1 : Int32) + l4))

def g_X7_check_170 (K81 : am_MU → Int32 → Int32 → Int32 → Int32 → Int32 → Option (am_MU × Int32)) (u : am_MU) (l1 : Int32) (l2 : Int32) (l3 : Int32) (l5 : Int32) (s0 : Int32) (s1 : Int32) : Option (am_MU × Int32) :=
am_let (s0 + s1) fun x1 =>
am_let (l5 + (1 : Int32)) fun x2 =>
K81 u l1 l2 l3 x1 x2

def g_X7_check_169 (K81 : am_MU → Int32 → Int32 → Int32 → Int32 → Int32 → Option (am_MU × Int32)) (u : am_MU) (l1 : Int32) (l2 : Int32) (l3 : Int32) (l5 : Int32) (s0 : Int32) : Option (am_MU × Int32) :=
g_X7_check_170 K81 u l1 l2 l3 l5 s0 (0 : Int32)

def g_X7_check_128 (K81 : am_MU → Int32 → Int32 → Int32 → Int32 → Int32 → Option (am_MU × Int32)) (u : am_MU) (l1 : Int32) (l2 : Int32) (l3 : Int32) (l5 : Int32) (s0 : Int32) (s1 : Int32) : Option (am_MU × Int32) :=
am_let (s0 + s1) fun x1 =>
if x1 = (((2 : Int32) * l5) + (1 : Int32)) then (if l3 ≤ x1 then (g_X7_check_169 K81 u l1 l2 l3 l5 x1)
else (if am_in x1 60 then (
(f_X7_crestsOf u l1).bind fun q5 =>
if (u 132 x1.toNatClampNeg) = q5.2 then (g_X7_check_170 K81 q5.1 l1 l2 l3 l5 x1 (1 : Int32))
else (g_X7_check_169 K81 q5.1 l1 l2 l3 l5 x1)) else none))
else (g_X7_check_169 K81 u l1 l2 l3 l5 x1)

def g_X7_check_127 (K81 : am_MU → Int32 → Int32 → Int32 → Int32 → Int32 → Option (am_MU × Int32)) (u : am_MU) (l1 : Int32) (l2 : Int32) (l3 : Int32) (l5 : Int32) (s0 : Int32) : Option (am_MU × Int32) :=
g_X7_check_128 K81 u l1 l2 l3 l5 s0 (0 : Int32)

def g_X7_check_81  : Nat → am_MU → Int32 → Int32 → Int32 → Int32 → Int32 → Option (am_MU × Int32)
  | 0 => fun _ _ _ _ _ _ => none
  | n + 1 => fun u l1 l2 l3 l4 l5 =>
if l2 ≤ l5 then (g_X7_check_179 u l2 l3 l4)
else (if l4 = ((2 : Int32) * l5) then ((f_X7_tick u l1).bind fun q3 =>
if l3 ≤ l4 then (g_X7_check_127 (g_X7_check_81 n) q3.1 l1 l2 l3 l5 l4)
else (if am_in l4 60 then (
if (q3.1 132 l4.toNatClampNeg) = q3.2 then (g_X7_check_128 (g_X7_check_81 n) q3.1 l1 l2 l3 l5 l4 (1 : Int32))
else (g_X7_check_127 (g_X7_check_81 n) q3.1 l1 l2 l3 l5 l4)) else none))
else (g_X7_check_179 u l2 l3 l4))

def f_X7_check  (u : am_MU) (l1 : Int32) (l2 : Int32) : Option (am_MU × Int32) :=
am_let (u 110 33) fun x1 =>
am_let (am_u2 u 110 33 (0 : Int32)) fun u2 =>
(f_X7_in u2 l2 (1 : Int32) (30 : Int32)).bind fun q3 =>
if q3.2 = 0 then (some (q3.1, ((-1000000001) : Int32)))
else (if (q3.1 110 3) = 0 then (some (q3.1, ((-1000000002) : Int32)))
else ((f_X7_in q3.1 l1 (0 : Int32) ((q3.1 112 1) - (1 : Int32))).bind fun q6 =>
if q6.2 = 0 then (some (q6.1, ((-1000000001) : Int32)))
else ((f_X7_copyAll q6.1 111 113).bind fun q8 =>
(f_X7_copyAll q8 112 111).bind fun q9 =>
g_X7_check_81 1700 q9 l1 l2 x1 (0 : Int32) (0 : Int32))))

theorem l_X7_check_179 {X : Nat × (Nat → Int32)}   (u : am_MU) (l2 : Int32) (l3 : Int32) (l4 : Int32) (r : am_MU × Int32) (h : g_X7_check_179  u l2 l3 l4 = some r) : am_Ev X M_X7_check 179 [(0, .ref 110), (2, .int l2), (3, .int l3), (4, .int l4)] [] (hp u) (hp r.1, some (.int r.2)) := by
  unfold g_X7_check_179 at h
  refine ev_aload_n dX7_check_179 0 rfl trivial ?_
  refine px_getR dX7_check_180 gf_RX7_16 (at7 rfl) (by decide) rfl ?_
  refine ev_aload_n dX7_check_183 0 rfl trivial ?_
  refine px_getR dX7_check_184 gf_RX7_9 (at7 rfl) (by decide) rfl ?_
  obtain ⟨q1, eq1, h⟩ := am_bd h
  refine px_callsv [.ref 113, .ref 111] dX7_check_187 ok_X7_copyAll lk_RX7_276 st_X7_copyAll (by decide) rfl (c_X7_copyAll eq1) rfl (Nat.le_of_ble_eq_true rfl) ?_
  refine ev_iload dX7_check_190 3 rfl ?_
  refine ev_iload_n dX7_check_192 2 rfl ?_
  refine ev_icmp_ne 208 dX7_check_193 (by decide) (fun c2 => ?_) (fun c2 => ?_)
  · have h := am_e c2 h
    refine ev_iconst (v := (1 : Int32)) dX7_check_208 kI_1 ?_
    refine ev_iload dX7_check_209 3 rfl ?_
    refine ev_iadd dX7_check_211 ?_
    obtain rfl := Option.some.inj h
    exact ev_iret dX7_check_212 rfl rfl
  · have h := am_t c2 h
    refine ev_iload dX7_check_196 3 rfl ?_
    refine ev_iconst (v := (2 : Int32)) dX7_check_198 kI_2 ?_
    refine ev_iload_n dX7_check_199 1 rfl ?_
    refine ev_imul dX7_check_200 ?_
    refine ev_icmp_ne 208 dX7_check_201 (by decide) (fun c3 => ?_) (fun c3 => ?_)
    · have h := am_e c3 h
      refine ev_iconst (v := (1 : Int32)) dX7_check_208 kI_1 ?_
      refine ev_iload dX7_check_209 3 rfl ?_
      refine ev_iadd dX7_check_211 ?_
      obtain rfl := Option.some.inj h
      exact ev_iret dX7_check_212 rfl rfl
    · have h := am_t c3 h
      refine ev_iconst (v := (0 : Int32)) dX7_check_204 kI_0 ?_
      refine ev_goto 212 dX7_check_205 (by decide) ?_
      obtain rfl := Option.some.inj h
      exact ev_iret dX7_check_212 rfl rfl

theorem l_X7_check_170 {X : Nat × (Nat → Int32)} (K81 : am_MU → Int32 → Int32 → Int32 → Int32 → Int32 → Option (am_MU × Int32)) (hK81 : ∀ (u : am_MU) (l1 : Int32) (l2 : Int32) (l3 : Int32) (l4 : Int32) (l5 : Int32) (r : am_MU × Int32), K81 u l1 l2 l3 l4 l5 = some r → am_Ev X M_X7_check 81 [(0, .ref 110), (1, .int l1), (2, .int l2), (3, .int l3), (4, .int l4), (5, .int l5)] [] (hp u) (hp r.1, some (.int r.2))) (u : am_MU) (l1 : Int32) (l2 : Int32) (l3 : Int32) (l5 : Int32) (s0 : Int32) (s1 : Int32) (r : am_MU × Int32) (h : g_X7_check_170 K81 u l1 l2 l3 l5 s0 s1 = some r) : am_Ev X M_X7_check 170 [(0, .ref 110), (1, .int l1), (2, .int l2), (3, .int l3), (5, .int l5)] [.int s1, .int s0] (hp u) (hp r.1, some (.int r.2)) := by
  unfold g_X7_check_170 at h
  refine ev_iadd dX7_check_170 ?_
  obtain ⟨x1, ex1, h⟩ := am_lt h
  refine px_top ex1 ?_
  refine ev_istore (L' := [(4, .int x1), (0, .ref 110), (1, .int l1), (2, .int l2), (3, .int l3), (5, .int l5)]) dX7_check_171 (by decide) rfl ?_
  obtain ⟨x2, ex2, h⟩ := am_lt h
  refine ev_iinc (v := x2) (L' := [(5, .int x2), (4, .int x1), (0, .ref 110), (1, .int l1), (2, .int l2), (3, .int l3)]) dX7_check_173 5 rfl (by rw [kI_1, ex2]) (by decide) rfl ?_
  refine ev_goto 81 dX7_check_176 (by decide) ?_
  refine ev_loc [2, 3, 4, 5, 1, 0] rfl ?_
  exact hK81 u l1 l2 l3 x1 x2 _ h

theorem l_X7_check_169 {X : Nat × (Nat → Int32)} (K81 : am_MU → Int32 → Int32 → Int32 → Int32 → Int32 → Option (am_MU × Int32)) (hK81 : ∀ (u : am_MU) (l1 : Int32) (l2 : Int32) (l3 : Int32) (l4 : Int32) (l5 : Int32) (r : am_MU × Int32), K81 u l1 l2 l3 l4 l5 = some r → am_Ev X M_X7_check 81 [(0, .ref 110), (1, .int l1), (2, .int l2), (3, .int l3), (4, .int l4), (5, .int l5)] [] (hp u) (hp r.1, some (.int r.2))) (u : am_MU) (l1 : Int32) (l2 : Int32) (l3 : Int32) (l5 : Int32) (s0 : Int32) (r : am_MU × Int32) (h : g_X7_check_169 K81 u l1 l2 l3 l5 s0 = some r) : am_Ev X M_X7_check 169 [(0, .ref 110), (1, .int l1), (2, .int l2), (3, .int l3), (5, .int l5)] [.int s0] (hp u) (hp r.1, some (.int r.2)) := by
  unfold g_X7_check_169 at h
  refine ev_iconst (v := (0 : Int32)) dX7_check_169 kI_0 ?_
  refine ev_loc [0, 1, 2, 3, 4] rfl ?_
  exact l_X7_check_170 K81 hK81 u l1 l2 l3 l5 s0 (0 : Int32) _ h

theorem l_X7_check_128 {X : Nat × (Nat → Int32)} (K81 : am_MU → Int32 → Int32 → Int32 → Int32 → Int32 → Option (am_MU × Int32)) (hK81 : ∀ (u : am_MU) (l1 : Int32) (l2 : Int32) (l3 : Int32) (l4 : Int32) (l5 : Int32) (r : am_MU × Int32), K81 u l1 l2 l3 l4 l5 = some r → am_Ev X M_X7_check 81 [(0, .ref 110), (1, .int l1), (2, .int l2), (3, .int l3), (4, .int l4), (5, .int l5)] [] (hp u) (hp r.1, some (.int r.2))) (u : am_MU) (l1 : Int32) (l2 : Int32) (l3 : Int32) (l5 : Int32) (s0 : Int32) (s1 : Int32) (r : am_MU × Int32) (h : g_X7_check_128 K81 u l1 l2 l3 l5 s0 s1 = some r) : am_Ev X M_X7_check 128 [(0, .ref 110), (1, .int l1), (2, .int l2), (3, .int l3), (5, .int l5)] [.int s1, .int s0] (hp u) (hp r.1, some (.int r.2)) := by
  unfold g_X7_check_128 at h
  refine ev_iadd dX7_check_128 ?_
  obtain ⟨x1, ex1, h⟩ := am_lt h
  refine px_top ex1 ?_
  refine ev_istore (L' := [(4, .int x1), (0, .ref 110), (1, .int l1), (2, .int l2), (3, .int l3), (5, .int l5)]) dX7_check_129 (by decide) rfl ?_
  refine ev_iload dX7_check_131 0 rfl ?_
  refine ev_iload dX7_check_133 0 rfl ?_
  refine ev_iconst (v := (2 : Int32)) dX7_check_135 kI_2 ?_
  refine ev_iload dX7_check_136 5 rfl ?_
  refine ev_imul dX7_check_138 ?_
  refine ev_iconst (v := (1 : Int32)) dX7_check_139 kI_1 ?_
  refine ev_iadd dX7_check_140 ?_
  refine ev_icmp_ne 169 dX7_check_141 (by decide) (fun c2 => ?_) (fun c2 => ?_)
  · have h := am_e c2 h
    refine ev_loc [1, 2, 3, 4, 5] rfl ?_
    exact l_X7_check_169 K81 hK81 u l1 l2 l3 l5 x1 _ h
  · have h := am_t c2 h
    refine ev_iload dX7_check_144 0 rfl ?_
    refine ev_iload_n dX7_check_146 4 rfl ?_
    refine ev_icmp_ge 169 dX7_check_147 (by decide) (fun c3 => ?_) (fun c3 => ?_)
    · have h := am_t c3 h
      refine ev_loc [1, 2, 3, 4, 5] rfl ?_
      exact l_X7_check_169 K81 hK81 u l1 l2 l3 l5 x1 _ h
    · have h := am_e c3 h
      refine ev_aload_n dX7_check_150 1 rfl trivial ?_
      refine px_getR dX7_check_151 gf_RX7_75 (at7 rfl) (by decide) rfl ?_
      refine ev_iload dX7_check_154 0 rfl ?_
      obtain ⟨g4, h⟩ := am_gd h
      refine px_iald (n := 60) x1.toNatClampNeg dX7_check_156 rfl g4 rfl ?_
      refine ev_aload_n dX7_check_157 1 rfl trivial ?_
      refine ev_iload_n dX7_check_158 2 rfl ?_
      obtain ⟨q5, eq5, h⟩ := am_bd h
      refine px_callvi [.int l1] (by decide) cl_7 (at7 rfl) dX7_check_159 ok_X7_crestsOf lk_RX7_119 in_X7_crestsOf se_X7_crestsOf (by decide) rfl (c_X7_crestsOf eq5) rfl (Nat.le_of_ble_eq_true rfl) ?_
      refine ev_icmp_ne 169 dX7_check_162 (by decide) (fun c6 => ?_) (fun c6 => ?_)
      · have h := am_e c6 h
        refine ev_loc [1, 2, 3, 4, 5] rfl ?_
        exact l_X7_check_169 K81 hK81 q5.1 l1 l2 l3 l5 x1 _ h
      · have h := am_t c6 h
        refine ev_iconst (v := (1 : Int32)) dX7_check_165 kI_1 ?_
        refine ev_goto 170 dX7_check_166 (by decide) ?_
        refine ev_loc [1, 2, 3, 4, 5] rfl ?_
        exact l_X7_check_170 K81 hK81 q5.1 l1 l2 l3 l5 x1 (1 : Int32) _ h

theorem l_X7_check_127 {X : Nat × (Nat → Int32)} (K81 : am_MU → Int32 → Int32 → Int32 → Int32 → Int32 → Option (am_MU × Int32)) (hK81 : ∀ (u : am_MU) (l1 : Int32) (l2 : Int32) (l3 : Int32) (l4 : Int32) (l5 : Int32) (r : am_MU × Int32), K81 u l1 l2 l3 l4 l5 = some r → am_Ev X M_X7_check 81 [(0, .ref 110), (1, .int l1), (2, .int l2), (3, .int l3), (4, .int l4), (5, .int l5)] [] (hp u) (hp r.1, some (.int r.2))) (u : am_MU) (l1 : Int32) (l2 : Int32) (l3 : Int32) (l5 : Int32) (s0 : Int32) (r : am_MU × Int32) (h : g_X7_check_127 K81 u l1 l2 l3 l5 s0 = some r) : am_Ev X M_X7_check 127 [(0, .ref 110), (1, .int l1), (2, .int l2), (3, .int l3), (5, .int l5)] [.int s0] (hp u) (hp r.1, some (.int r.2)) := by
  unfold g_X7_check_127 at h
  refine ev_iconst (v := (0 : Int32)) dX7_check_127 kI_0 ?_
  refine ev_loc [0, 1, 2, 3, 4] rfl ?_
  exact l_X7_check_128 K81 hK81 u l1 l2 l3 l5 s0 (0 : Int32) _ h

theorem l_X7_check_81 {X : Nat × (Nat → Int32)}   : ∀ (n : Nat) (u : am_MU) (l1 : Int32) (l2 : Int32) (l3 : Int32) (l4 : Int32) (l5 : Int32) (r : am_MU × Int32), g_X7_check_81  n u l1 l2 l3 l4 l5 = some r → am_Ev X M_X7_check 81 [(0, .ref 110), (1, .int l1), (2, .int l2), (3, .int l3), (4, .int l4), (5, .int l5)] [] (hp u) (hp r.1, some (.int r.2)) := by
  intro n
  induction n with
  | zero => intro u l1 l2 l3 l4 l5 r h; cases h
  | succ n ih =>
    intro u l1 l2 l3 l4 l5 r h
    rw [g_X7_check_81] at h
    refine ev_iload dX7_check_81 5 rfl ?_
    refine ev_iload_n dX7_check_83 2 rfl ?_
    refine ev_icmp_ge 179 dX7_check_84 (by decide) (fun c1 => ?_) (fun c1 => ?_)
    · have h := am_t c1 h
      refine ev_loc [0, 2, 3, 4] rfl ?_
      exact l_X7_check_179   u l2 l3 l4 _ h
    · have h := am_e c1 h
      refine ev_iload dX7_check_87 4 rfl ?_
      refine ev_iconst (v := (2 : Int32)) dX7_check_89 kI_2 ?_
      refine ev_iload dX7_check_90 5 rfl ?_
      refine ev_imul dX7_check_92 ?_
      refine ev_icmp_ne 179 dX7_check_93 (by decide) (fun c2 => ?_) (fun c2 => ?_)
      · have h := am_e c2 h
        refine ev_loc [0, 2, 3, 4] rfl ?_
        exact l_X7_check_179   u l2 l3 l4 _ h
      · have h := am_t c2 h
        refine ev_aload_n dX7_check_96 0 rfl trivial ?_
        refine ev_iload_n dX7_check_97 1 rfl ?_
        obtain ⟨q3, eq3, h⟩ := am_bd h
        refine px_callvi [.int l1] (by decide) cl_7 (at7 rfl) dX7_check_98 ok_X7_tick lk_RX7_165 in_X7_tick se_X7_tick (by decide) rfl (c_X7_tick eq3) rfl (Nat.le_of_ble_eq_true rfl) ?_
        refine ev_istore (L' := [(6, .int q3.2), (0, .ref 110), (1, .int l1), (2, .int l2), (3, .int l3), (4, .int l4), (5, .int l5)]) dX7_check_101 (by decide) rfl ?_
        refine ev_iload dX7_check_103 5 rfl ?_
        refine ev_iload dX7_check_105 5 rfl ?_
        refine ev_iload_n dX7_check_107 4 rfl ?_
        refine ev_icmp_ge 127 dX7_check_108 (by decide) (fun c4 => ?_) (fun c4 => ?_)
        · have h := am_t c4 h
          refine ev_loc [1, 2, 3, 4, 6] rfl ?_
          exact l_X7_check_127 (g_X7_check_81 n) (fun u l1 l2 l3 l4 l5 r h => ih u l1 l2 l3 l4 l5 r h) q3.1 l1 l2 l3 l5 l4 _ h
        · have h := am_e c4 h
          refine ev_aload_n dX7_check_111 1 rfl trivial ?_
          refine px_getR dX7_check_112 gf_RX7_75 (at7 rfl) (by decide) rfl ?_
          refine ev_iload dX7_check_115 5 rfl ?_
          obtain ⟨g5, h⟩ := am_gd h
          refine px_iald (n := 60) l4.toNatClampNeg dX7_check_117 rfl g5 rfl ?_
          refine ev_iload dX7_check_118 0 rfl ?_
          refine ev_icmp_ne 127 dX7_check_120 (by decide) (fun c6 => ?_) (fun c6 => ?_)
          · have h := am_e c6 h
            refine ev_loc [1, 2, 3, 4, 6] rfl ?_
            exact l_X7_check_127 (g_X7_check_81 n) (fun u l1 l2 l3 l4 l5 r h => ih u l1 l2 l3 l4 l5 r h) q3.1 l1 l2 l3 l5 l4 _ h
          · have h := am_t c6 h
            refine ev_iconst (v := (1 : Int32)) dX7_check_123 kI_1 ?_
            refine ev_goto 128 dX7_check_124 (by decide) ?_
            refine ev_loc [1, 2, 3, 4, 6] rfl ?_
            exact l_X7_check_128 (g_X7_check_81 n) (fun u l1 l2 l3 l4 l5 r h => ih u l1 l2 l3 l4 l5 r h) q3.1 l1 l2 l3 l5 l4 (1 : Int32) _ h

theorem l_X7_check_0 {X : Nat × (Nat → Int32)}   (u : am_MU) (l1 : Int32) (l2 : Int32) (r : am_MU × Int32) (h : f_X7_check  u l1 l2 = some r) : am_Ev X M_X7_check 0 [(0, .ref 110), (1, .int l1), (2, .int l2)] [] (hp u) (hp r.1, some (.int r.2)) := by
  unfold f_X7_check at h
  refine ev_aload_n dX7_check_0 0 rfl trivial ?_
  refine px_getI dX7_check_1 gf_RX7_269 (at7 rfl) (by decide) rfl ?_
  obtain ⟨x1, ex1, h⟩ := am_lt h
  refine px_top ex1 ?_
  refine ev_istore_n (L' := [(3, .int x1), (0, .ref 110), (1, .int l1), (2, .int l2)]) dX7_check_4 (by decide) rfl ?_
  refine ev_aload_n dX7_check_5 1 rfl trivial ?_
  refine ev_iconst (v := (0 : Int32)) dX7_check_6 kI_0 ?_
  obtain ⟨u2, eu2, h⟩ := am_lt h
  refine px_putI dX7_check_7 pf_RX7_269 (at7 rfl) (by decide) rfl eu2 ?_
  refine ev_iload_n dX7_check_10 3 rfl ?_
  refine ev_iconst (v := (1 : Int32)) dX7_check_11 kI_1 ?_
  refine ev_bipush (v := (30 : Int32)) dX7_check_12 kB_30 ?_
  obtain ⟨q3, eq3, h⟩ := am_bd h
  refine px_callsi [.int l2, .int (1 : Int32), .int (30 : Int32)] dX7_check_14 ok_X7_in lk_RX7_78 st_X7_in (by decide) rfl (c_X7_in eq3) rfl (Nat.le_of_ble_eq_true rfl) ?_
  refine ev_if_ne 23 dX7_check_17 (by decide) (fun c4 => ?_) (fun c4 => ?_)
  · have h := am_e c4 h
    refine ev_aload_n dX7_check_23 1 rfl trivial ?_
    refine px_getI dX7_check_24 gf_RX7_272 (at7 rfl) (by decide) rfl ?_
    refine ev_if_ne 34 dX7_check_27 (by decide) (fun c5 => ?_) (fun c5 => ?_)
    · have h := am_e c5 h
      refine ev_iload_n dX7_check_34 2 rfl ?_
      refine ev_iconst (v := (0 : Int32)) dX7_check_35 kI_0 ?_
      refine ev_aload_n dX7_check_36 1 rfl trivial ?_
      refine px_getR dX7_check_37 gf_RX7_13 (at7 rfl) (by decide) rfl ?_
      refine ev_iconst (v := (1 : Int32)) dX7_check_40 kI_1 ?_
      refine px_iald (n := 1535) 1 dX7_check_41 rfl (by decide) (by decide) ?_
      refine ev_iconst (v := (1 : Int32)) dX7_check_42 kI_1 ?_
      refine ev_isub dX7_check_43 ?_
      obtain ⟨q6, eq6, h⟩ := am_bd h
      refine px_callsi [.int l1, .int (0 : Int32), .int ((q3.1 112 1) - (1 : Int32))] dX7_check_44 ok_X7_in lk_RX7_78 st_X7_in (by decide) rfl (c_X7_in eq6) rfl (Nat.le_of_ble_eq_true rfl) ?_
      refine ev_if_ne 53 dX7_check_47 (by decide) (fun c7 => ?_) (fun c7 => ?_)
      · have h := am_e c7 h
        refine ev_aload_n dX7_check_53 1 rfl trivial ?_
        refine px_getR dX7_check_54 gf_RX7_9 (at7 rfl) (by decide) rfl ?_
        refine ev_aload_n dX7_check_57 1 rfl trivial ?_
        refine px_getR dX7_check_58 gf_RX7_16 (at7 rfl) (by decide) rfl ?_
        obtain ⟨q8, eq8, h⟩ := am_bd h
        refine px_callsv [.ref 111, .ref 113] dX7_check_61 ok_X7_copyAll lk_RX7_276 st_X7_copyAll (by decide) rfl (c_X7_copyAll eq8) rfl (Nat.le_of_ble_eq_true rfl) ?_
        refine ev_aload_n dX7_check_64 1 rfl trivial ?_
        refine px_getR dX7_check_65 gf_RX7_13 (at7 rfl) (by decide) rfl ?_
        refine ev_aload_n dX7_check_68 1 rfl trivial ?_
        refine px_getR dX7_check_69 gf_RX7_9 (at7 rfl) (by decide) rfl ?_
        obtain ⟨q9, eq9, h⟩ := am_bd h
        refine px_callsv [.ref 112, .ref 111] dX7_check_72 ok_X7_copyAll lk_RX7_276 st_X7_copyAll (by decide) rfl (c_X7_copyAll eq9) rfl (Nat.le_of_ble_eq_true rfl) ?_
        refine ev_iconst (v := (0 : Int32)) dX7_check_75 kI_0 ?_
        refine ev_istore (L' := [(4, .int (0 : Int32)), (3, .int x1), (0, .ref 110), (1, .int l1), (2, .int l2)]) dX7_check_76 (by decide) rfl ?_
        refine ev_iconst (v := (0 : Int32)) dX7_check_78 kI_0 ?_
        refine ev_istore (L' := [(5, .int (0 : Int32)), (4, .int (0 : Int32)), (3, .int x1), (0, .ref 110), (1, .int l1), (2, .int l2)]) dX7_check_79 (by decide) rfl ?_
        refine ev_loc [3, 4, 5, 2, 1, 0] rfl ?_
        exact l_X7_check_81   1700 q9 l1 l2 x1 (0 : Int32) (0 : Int32) _ h
      · have h := am_t c7 h
        refine ev_ldc (v := ((-1000000001) : Int32)) dX7_check_50 tw_933 ?_
        obtain rfl := Option.some.inj h
        exact ev_iret dX7_check_52 rfl rfl
    · have h := am_t c5 h
      refine ev_ldcw (v := ((-1000000002) : Int32)) dX7_check_30 tw_1258 ?_
      obtain rfl := Option.some.inj h
      exact ev_iret dX7_check_33 rfl rfl
  · have h := am_t c4 h
    refine ev_ldc (v := ((-1000000001) : Int32)) dX7_check_20 tw_933 ?_
    obtain rfl := Option.some.inj h
    exact ev_iret dX7_check_22 rfl rfl

theorem c_X7_check {X : Nat × (Nat → Int32)} {u : am_MU} {l1 : Int32} {l2 : Int32} {r : am_MU × Int32} (h : f_X7_check u l1 l2 = some r) : am_Cn X M_X7_check [.ref 110, .int l1, .int l2] (hp u) (hp r.1, some (.int r.2)) := by
  refine am_Cn.of ok_X7_check (Nat.le_refl _) (Nat.le_refl _) (Nat.le_of_ble_eq_true rfl) ?_
  refine ev_loc [0, 1, 2] rfl ?_
  exact l_X7_check_0 u l1 l2 r h

-- SandRipplesModel.keep()I
def f_X7_keep  (u : am_MU)  : Option (am_MU × Int32) :=
(f_X7_copyAll u 111 112).bind fun q1 =>
am_let (am_u2 q1 110 3 (1 : Int32)) fun u2 =>
some (u2, u2 111 1)

theorem l_X7_keep_0 {X : Nat × (Nat → Int32)}   (u : am_MU)  (r : am_MU × Int32) (h : f_X7_keep  u  = some r) : am_Ev X M_X7_keep 0 [(0, .ref 110)] [] (hp u) (hp r.1, some (.int r.2)) := by
  unfold f_X7_keep at h
  refine ev_aload_n dX7_keep_0 0 rfl trivial ?_
  refine px_getR dX7_keep_1 gf_RX7_9 (at7 rfl) (by decide) rfl ?_
  refine ev_aload_n dX7_keep_4 0 rfl trivial ?_
  refine px_getR dX7_keep_5 gf_RX7_13 (at7 rfl) (by decide) rfl ?_
  obtain ⟨q1, eq1, h⟩ := am_bd h
  refine px_callsv [.ref 111, .ref 112] dX7_keep_8 ok_X7_copyAll lk_RX7_276 st_X7_copyAll (by decide) rfl (c_X7_copyAll eq1) rfl (Nat.le_of_ble_eq_true rfl) ?_
  refine ev_aload_n dX7_keep_11 0 rfl trivial ?_
  refine ev_iconst (v := (1 : Int32)) dX7_keep_12 kI_1 ?_
  obtain ⟨u2, eu2, h⟩ := am_lt h
  refine px_putZ dX7_keep_13 pf_RX7_272 (at7 rfl) (by decide) rfl (Or.inr rfl) eu2 ?_
  refine ev_aload_n dX7_keep_16 0 rfl trivial ?_
  refine px_getR dX7_keep_17 gf_RX7_9 (at7 rfl) (by decide) rfl ?_
  refine ev_iconst (v := (1 : Int32)) dX7_keep_20 kI_1 ?_
  refine px_iald (n := 1535) 1 dX7_keep_21 rfl (by decide) (by decide) ?_
  obtain rfl := Option.some.inj h
  exact ev_iret dX7_keep_22 rfl rfl

theorem c_X7_keep {X : Nat × (Nat → Int32)} {u : am_MU}  {r : am_MU × Int32} (h : f_X7_keep u  = some r) : am_Cn X M_X7_keep [.ref 110] (hp u) (hp r.1, some (.int r.2)) := by
  refine am_Cn.of ok_X7_keep (Nat.le_refl _) (Nat.le_refl _) (Nat.le_of_ble_eq_true rfl) ?_
  refine ev_loc [0] rfl ?_
  exact l_X7_keep_0 u  r h

-- SandRipplesModel.back()I
def f_X7_back  (u : am_MU)  : Option (am_MU × Int32) :=
if (u 110 3) = 0 then (some (u, ((-1000000002) : Int32)))
else ((f_X7_copyAll u 112 111).bind fun q2 =>
some (q2, q2 111 1))

theorem l_X7_back_0 {X : Nat × (Nat → Int32)}   (u : am_MU)  (r : am_MU × Int32) (h : f_X7_back  u  = some r) : am_Ev X M_X7_back 0 [(0, .ref 110)] [] (hp u) (hp r.1, some (.int r.2)) := by
  unfold f_X7_back at h
  refine ev_aload_n dX7_back_0 0 rfl trivial ?_
  refine px_getI dX7_back_1 gf_RX7_272 (at7 rfl) (by decide) rfl ?_
  refine ev_if_ne 11 dX7_back_4 (by decide) (fun c1 => ?_) (fun c1 => ?_)
  · have h := am_e c1 h
    refine ev_aload_n dX7_back_11 0 rfl trivial ?_
    refine px_getR dX7_back_12 gf_RX7_13 (at7 rfl) (by decide) rfl ?_
    refine ev_aload_n dX7_back_15 0 rfl trivial ?_
    refine px_getR dX7_back_16 gf_RX7_9 (at7 rfl) (by decide) rfl ?_
    obtain ⟨q2, eq2, h⟩ := am_bd h
    refine px_callsv [.ref 112, .ref 111] dX7_back_19 ok_X7_copyAll lk_RX7_276 st_X7_copyAll (by decide) rfl (c_X7_copyAll eq2) rfl (Nat.le_of_ble_eq_true rfl) ?_
    refine ev_aload_n dX7_back_22 0 rfl trivial ?_
    refine px_getR dX7_back_23 gf_RX7_9 (at7 rfl) (by decide) rfl ?_
    refine ev_iconst (v := (1 : Int32)) dX7_back_26 kI_1 ?_
    refine px_iald (n := 1535) 1 dX7_back_27 rfl (by decide) (by decide) ?_
    obtain rfl := Option.some.inj h
    exact ev_iret dX7_back_28 rfl rfl
  · have h := am_t c1 h
    refine ev_ldcw (v := ((-1000000002) : Int32)) dX7_back_7 tw_1258 ?_
    obtain rfl := Option.some.inj h
    exact ev_iret dX7_back_10 rfl rfl

theorem c_X7_back {X : Nat × (Nat → Int32)} {u : am_MU}  {r : am_MU × Int32} (h : f_X7_back u  = some r) : am_Cn X M_X7_back [.ref 110] (hp u) (hp r.1, some (.int r.2)) := by
  refine am_Cn.of ok_X7_back (Nat.le_refl _) (Nat.le_refl _) (Nat.le_of_ble_eq_true rfl) ?_
  refine ev_loc [0] rfl ?_
  exact l_X7_back_0 u  r h

-- SandRipplesModel.count(I)I
def f_X7_count  (u : am_MU) (l1 : Int32) : Option (am_MU × Int32) :=
if l1 = (0 : Int32) then (some (u, u 111 1))
else if l1 = (1 : Int32) then (if am_in (((2 : Int32) + l1) - (1 : Int32)) 1535 then (
some (u, u 111 ((((2 : Int32) + l1) - (1 : Int32)).toNatClampNeg))) else none)
else if l1 = (2 : Int32) then (if am_in (((2 : Int32) + l1) - (1 : Int32)) 1535 then (
some (u, u 111 ((((2 : Int32) + l1) - (1 : Int32)).toNatClampNeg))) else none)
else if l1 = (3 : Int32) then (if am_in (((2 : Int32) + l1) - (1 : Int32)) 1535 then (
some (u, u 111 ((((2 : Int32) + l1) - (1 : Int32)).toNatClampNeg))) else none)
else if l1 = (4 : Int32) then (if am_in (((2 : Int32) + l1) - (1 : Int32)) 1535 then (
some (u, u 111 ((((2 : Int32) + l1) - (1 : Int32)).toNatClampNeg))) else none)
else if l1 = (5 : Int32) then (some (u, u 111 6))
else if l1 = (6 : Int32) then (some (u, u 110 33))
else if l1 = (7 : Int32) then (some (u, u 110 7))
else if l1 = (8 : Int32) then (some (u, u 111 0))
else (some (u, ((-1000000001) : Int32)))

theorem l_X7_count_0 {X : Nat × (Nat → Int32)}   (u : am_MU) (l1 : Int32) (r : am_MU × Int32) (h : f_X7_count  u l1 = some r) : am_Ev X M_X7_count 0 [(0, .ref 110), (1, .int l1)] [] (hp u) (hp r.1, some (.int r.2)) := by
  unfold f_X7_count at h
  refine ev_iload_n dX7_count_0 1 rfl ?_
  refine am_cs h (fun c1 h => ?_) (fun c1 h => ?_)
  · refine ev_tableIn 52 (51) dX7_count_1 (by rw [c1]; decide) (by rw [c1]; decide) (by rw [c1]; decide) (by decide) ?_
    refine ev_aload_n dX7_count_52 0 rfl trivial ?_
    refine px_getR dX7_count_53 gf_RX7_9 (at7 rfl) (by decide) rfl ?_
    refine ev_iconst (v := (1 : Int32)) dX7_count_56 kI_1 ?_
    refine px_iald (n := 1535) 1 dX7_count_57 rfl (by decide) (by decide) ?_
    obtain rfl := Option.some.inj h
    exact ev_iret dX7_count_58 rfl rfl
  refine am_cs h (fun c2 h => ?_) (fun c2 h => ?_)
  · refine ev_tableIn 59 (58) dX7_count_1 (by rw [c2]; decide) (by rw [c2]; decide) (by rw [c2]; decide) (by decide) ?_
    refine ev_aload_n dX7_count_59 0 rfl trivial ?_
    refine px_getR dX7_count_60 gf_RX7_9 (at7 rfl) (by decide) rfl ?_
    refine ev_iconst (v := (2 : Int32)) dX7_count_63 kI_2 ?_
    refine ev_iload_n dX7_count_64 1 rfl ?_
    refine ev_iadd dX7_count_65 ?_
    refine ev_iconst (v := (1 : Int32)) dX7_count_66 kI_1 ?_
    refine ev_isub dX7_count_67 ?_
    obtain ⟨g3, h⟩ := am_gd h
    refine px_iald (n := 1535) ((((2 : Int32) + l1) - (1 : Int32)).toNatClampNeg) dX7_count_68 rfl g3 rfl ?_
    obtain rfl := Option.some.inj h
    exact ev_iret dX7_count_69 rfl rfl
  refine am_cs h (fun c4 h => ?_) (fun c4 h => ?_)
  · refine ev_tableIn 59 (58) dX7_count_1 (by rw [c4]; decide) (by rw [c4]; decide) (by rw [c4]; decide) (by decide) ?_
    refine ev_aload_n dX7_count_59 0 rfl trivial ?_
    refine px_getR dX7_count_60 gf_RX7_9 (at7 rfl) (by decide) rfl ?_
    refine ev_iconst (v := (2 : Int32)) dX7_count_63 kI_2 ?_
    refine ev_iload_n dX7_count_64 1 rfl ?_
    refine ev_iadd dX7_count_65 ?_
    refine ev_iconst (v := (1 : Int32)) dX7_count_66 kI_1 ?_
    refine ev_isub dX7_count_67 ?_
    obtain ⟨g5, h⟩ := am_gd h
    refine px_iald (n := 1535) ((((2 : Int32) + l1) - (1 : Int32)).toNatClampNeg) dX7_count_68 rfl g5 rfl ?_
    obtain rfl := Option.some.inj h
    exact ev_iret dX7_count_69 rfl rfl
  refine am_cs h (fun c6 h => ?_) (fun c6 h => ?_)
  · refine ev_tableIn 59 (58) dX7_count_1 (by rw [c6]; decide) (by rw [c6]; decide) (by rw [c6]; decide) (by decide) ?_
    refine ev_aload_n dX7_count_59 0 rfl trivial ?_
    refine px_getR dX7_count_60 gf_RX7_9 (at7 rfl) (by decide) rfl ?_
    refine ev_iconst (v := (2 : Int32)) dX7_count_63 kI_2 ?_
    refine ev_iload_n dX7_count_64 1 rfl ?_
    refine ev_iadd dX7_count_65 ?_
    refine ev_iconst (v := (1 : Int32)) dX7_count_66 kI_1 ?_
    refine ev_isub dX7_count_67 ?_
    obtain ⟨g7, h⟩ := am_gd h
    refine px_iald (n := 1535) ((((2 : Int32) + l1) - (1 : Int32)).toNatClampNeg) dX7_count_68 rfl g7 rfl ?_
    obtain rfl := Option.some.inj h
    exact ev_iret dX7_count_69 rfl rfl
  refine am_cs h (fun c8 h => ?_) (fun c8 h => ?_)
  · refine ev_tableIn 59 (58) dX7_count_1 (by rw [c8]; decide) (by rw [c8]; decide) (by rw [c8]; decide) (by decide) ?_
    refine ev_aload_n dX7_count_59 0 rfl trivial ?_
    refine px_getR dX7_count_60 gf_RX7_9 (at7 rfl) (by decide) rfl ?_
    refine ev_iconst (v := (2 : Int32)) dX7_count_63 kI_2 ?_
    refine ev_iload_n dX7_count_64 1 rfl ?_
    refine ev_iadd dX7_count_65 ?_
    refine ev_iconst (v := (1 : Int32)) dX7_count_66 kI_1 ?_
    refine ev_isub dX7_count_67 ?_
    obtain ⟨g9, h⟩ := am_gd h
    refine px_iald (n := 1535) ((((2 : Int32) + l1) - (1 : Int32)).toNatClampNeg) dX7_count_68 rfl g9 rfl ?_
    obtain rfl := Option.some.inj h
    exact ev_iret dX7_count_69 rfl rfl
  refine am_cs h (fun c10 h => ?_) (fun c10 h => ?_)
  · refine ev_tableIn 70 (69) dX7_count_1 (by rw [c10]; decide) (by rw [c10]; decide) (by rw [c10]; decide) (by decide) ?_
    refine ev_aload_n dX7_count_70 0 rfl trivial ?_
    refine px_getR dX7_count_71 gf_RX7_9 (at7 rfl) (by decide) rfl ?_
    refine ev_bipush (v := (6 : Int32)) dX7_count_74 kB_6 ?_
    refine px_iald (n := 1535) 6 dX7_count_76 rfl (by decide) (by decide) ?_
    obtain rfl := Option.some.inj h
    exact ev_iret dX7_count_77 rfl rfl
  refine am_cs h (fun c11 h => ?_) (fun c11 h => ?_)
  · refine ev_tableIn 78 (77) dX7_count_1 (by rw [c11]; decide) (by rw [c11]; decide) (by rw [c11]; decide) (by decide) ?_
    refine ev_aload_n dX7_count_78 0 rfl trivial ?_
    refine px_getI dX7_count_79 gf_RX7_269 (at7 rfl) (by decide) rfl ?_
    obtain rfl := Option.some.inj h
    exact ev_iret dX7_count_82 rfl rfl
  refine am_cs h (fun c12 h => ?_) (fun c12 h => ?_)
  · refine ev_tableIn 83 (82) dX7_count_1 (by rw [c12]; decide) (by rw [c12]; decide) (by rw [c12]; decide) (by decide) ?_
    refine ev_aload_n dX7_count_83 0 rfl trivial ?_
    refine px_getI dX7_count_84 gf_RX7_193 (at7 rfl) (by decide) rfl ?_
    obtain rfl := Option.some.inj h
    exact ev_iret dX7_count_87 rfl rfl
  refine am_cs h (fun c13 h => ?_) (fun c13 h => ?_)
  · refine ev_tableIn 88 (87) dX7_count_1 (by rw [c13]; decide) (by rw [c13]; decide) (by rw [c13]; decide) (by decide) ?_
    refine ev_aload_n dX7_count_88 0 rfl trivial ?_
    refine px_getR dX7_count_89 gf_RX7_9 (at7 rfl) (by decide) rfl ?_
    refine ev_iconst (v := (0 : Int32)) dX7_count_92 kI_0 ?_
    refine px_iald (n := 1535) 0 dX7_count_93 rfl (by decide) (by decide) ?_
    obtain rfl := Option.some.inj h
    exact ev_iret dX7_count_94 rfl rfl
  have nc1 := lv_neT (a := 0) c1 (by decide)
  have nc2 := lv_neT (a := 1) c2 (by decide)
  have nc4 := lv_neT (a := 2) c4 (by decide)
  have nc6 := lv_neT (a := 3) c6 (by decide)
  have nc8 := lv_neT (a := 4) c8 (by decide)
  have nc10 := lv_neT (a := 5) c10 (by decide)
  have nc11 := lv_neT (a := 6) c11 (by decide)
  have nc12 := lv_neT (a := 7) c12 (by decide)
  have nc13 := lv_neT (a := 8) c13 (by decide)
  refine ev_tableOut 95 dX7_count_1 (by omega) (by decide) ?_
  refine ev_ldc (v := ((-1000000001) : Int32)) dX7_count_95 tw_933 ?_
  obtain rfl := Option.some.inj h
  exact ev_iret dX7_count_97 rfl rfl

theorem c_X7_count {X : Nat × (Nat → Int32)} {u : am_MU} {l1 : Int32} {r : am_MU × Int32} (h : f_X7_count u l1 = some r) : am_Cn X M_X7_count [.ref 110, .int l1] (hp u) (hp r.1, some (.int r.2)) := by
  refine am_Cn.of ok_X7_count (Nat.le_refl _) (Nat.le_refl _) (Nat.le_of_ble_eq_true rfl) ?_
  refine ev_loc [0, 1] rfl ?_
  exact l_X7_count_0 u l1 r h

