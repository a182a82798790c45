-- SandRipplesModel.in(III)Z
def f_X7_in  (u : am_MU) (l0 : Int32) (l1 : Int32) (l2 : Int32) : Option (am_MU × Int32) :=
if l0 < l1 then (some (u, (0 : Int32)))
else (if l2 < l0 then (some (u, (0 : Int32)))
else (some (u, (1 : Int32))))

theorem l_X7_in_0 {X : Nat × (Nat → Int32)}   (u : am_MU) (l0 : Int32) (l1 : Int32) (l2 : Int32) (r : am_MU × Int32) (h : f_X7_in  u l0 l1 l2 = some r) : am_Ev X M_X7_in 0 [(0, .int l0), (1, .int l1), (2, .int l2)] [] (hp u) (hp r.1, some (.int r.2)) := by
  unfold f_X7_in at h
  refine ev_iload_n dX7_in_0 0 rfl ?_
  refine ev_iload_n dX7_in_1 1 rfl ?_
  refine ev_icmp_lt 14 dX7_in_2 (by decide) (fun c1 => ?_) (fun c1 => ?_)
  · have h := am_t c1 h
    refine ev_iconst (v := (0 : Int32)) dX7_in_14 kI_0 ?_
    obtain rfl := Option.some.inj h
    exact ev_iret dX7_in_15 rfl (am_zn (Or.inl rfl))
  · have h := am_e c1 h
    refine ev_iload_n dX7_in_5 0 rfl ?_
    refine ev_iload_n dX7_in_6 2 rfl ?_
    refine ev_icmp_gt 14 dX7_in_7 (by decide) (fun c2 => ?_) (fun c2 => ?_)
    · have h := am_t c2 h
      refine ev_iconst (v := (0 : Int32)) dX7_in_14 kI_0 ?_
      obtain rfl := Option.some.inj h
      exact ev_iret dX7_in_15 rfl (am_zn (Or.inl rfl))
    · have h := am_e c2 h
      refine ev_iconst (v := (1 : Int32)) dX7_in_10 kI_1 ?_
      refine ev_goto 15 dX7_in_11 (by decide) ?_
      obtain rfl := Option.some.inj h
      exact ev_iret dX7_in_15 rfl (am_zn (Or.inr rfl))

theorem c_X7_in {X : Nat × (Nat → Int32)} {u : am_MU} {l0 : Int32} {l1 : Int32} {l2 : Int32} {r : am_MU × Int32} (h : f_X7_in u l0 l1 l2 = some r) : am_Cn X M_X7_in [.int l0, .int l1, .int l2] (hp u) (hp r.1, some (.int r.2)) := by
  refine am_Cn.of ok_X7_in (Nat.le_refl _) (Nat.le_refl _) (Nat.le_of_ble_eq_true rfl) ?_
  refine ev_loc [0, 1, 2] rfl ?_
  exact l_X7_in_0 u l0 l1 l2 r h

-- SandRipplesModel.at(I)I
def f_X7_at  (u : am_MU) (l0 : Int32) : Option (am_MU × Int32) :=
some (u, (7 : Int32) + ((26 : Int32) * l0))

theorem l_X7_at_0 {X : Nat × (Nat → Int32)}   (u : am_MU) (l0 : Int32) (r : am_MU × Int32) (h : f_X7_at  u l0 = some r) : am_Ev X M_X7_at 0 [(0, .int l0)] [] (hp u) (hp r.1, some (.int r.2)) := by
  unfold f_X7_at at h
  refine ev_bipush (v := (7 : Int32)) dX7_at_0 kB_7 ?_
  refine ev_bipush (v := (26 : Int32)) dX7_at_2 kB_26 ?_
  refine ev_iload_n dX7_at_4 0 rfl ?_
  refine ev_imul dX7_at_5 ?_
  refine ev_iadd dX7_at_6 ?_
  obtain rfl := Option.some.inj h
  exact ev_iret dX7_at_7 rfl rfl

theorem c_X7_at {X : Nat × (Nat → Int32)} {u : am_MU} {l0 : Int32} {r : am_MU × Int32} (h : f_X7_at u l0 = some r) : am_Cn X M_X7_at [.int l0] (hp u) (hp r.1, some (.int r.2)) := by
  refine am_Cn.of ok_X7_at (Nat.le_refl _) (Nat.le_refl _) (Nat.le_of_ble_eq_true rfl) ?_
  refine ev_loc [0] rfl ?_
  exact l_X7_at_0 u l0 r h

-- SandRipplesModel.spot(II)I
def f_X7_spot  (u : am_MU) (l0 : Int32) (l1 : Int32) : Option (am_MU × Int32) :=
(f_X7_at u l0).bind fun q1 =>
some (q1.1, (q1.2 + (2 : Int32)) + ((l1 + (48 : Int32)) - (l1 + (48 : Int32)) / (24 : Int32) * (24 : Int32)))

theorem l_X7_spot_0 {X : Nat × (Nat → Int32)}   (u : am_MU) (l0 : Int32) (l1 : Int32) (r : am_MU × Int32) (h : f_X7_spot  u l0 l1 = some r) : am_Ev X M_X7_spot 0 [(0, .int l0), (1, .int l1)] [] (hp u) (hp r.1, some (.int r.2)) := by
  unfold f_X7_spot at h
  refine ev_iload_n dX7_spot_0 0 rfl ?_
  obtain ⟨q1, eq1, h⟩ := am_bd h
  refine px_callsi [.int l0] dX7_spot_1 ok_X7_at lk_RX7_82 st_X7_at (by decide) rfl (c_X7_at eq1) rfl (Nat.le_of_ble_eq_true rfl) ?_
  refine ev_iconst (v := (2 : Int32)) dX7_spot_4 kI_2 ?_
  refine ev_iadd dX7_spot_5 ?_
  refine ev_iload_n dX7_spot_6 1 rfl ?_
  refine ev_bipush (v := (48 : Int32)) dX7_spot_7 kB_48 ?_
  refine ev_iadd dX7_spot_9 ?_
  refine ev_bipush (v := (24 : Int32)) dX7_spot_10 kB_24 ?_
  refine ev_irem dX7_spot_12 (by decide) ?_
  refine ev_iadd dX7_spot_13 ?_
  obtain rfl := Option.some.inj h
  exact ev_iret dX7_spot_14 rfl rfl

theorem c_X7_spot {X : Nat × (Nat → Int32)} {u : am_MU} {l0 : Int32} {l1 : Int32} {r : am_MU × Int32} (h : f_X7_spot u l0 l1 = some r) : am_Cn X M_X7_spot [.int l0, .int l1] (hp u) (hp r.1, some (.int r.2)) := by
  refine am_Cn.of ok_X7_spot (Nat.le_refl _) (Nat.le_refl _) (Nat.le_of_ble_eq_true rfl) ?_
  refine ev_loc [0, 1] rfl ?_
  exact l_X7_spot_0 u l0 l1 r h

-- SandRipplesModel.floor(I)I
def g_X7_floor_57  : Nat → am_MU → Int32 → Int32 → Option (am_MU × Int32)
  | 0 => fun _ _ _ => none
  | n + 1 => fun u l2 l3 =>
if (24 : Int32) ≤ l3 then (am_let (am_u2 u 111 1 ((u 111 1) + (1 : Int32))) fun u2 =>
some (u2, l2))
else ((f_X7_spot u l2 l3).bind fun q3 =>
if am_in q3.2 1535 then (
am_let (am_u2 q3.1 111 q3.2.toNatClampNeg (20 : Int32)) fun u5 =>
am_let (l3 + (1 : Int32)) fun x6 =>
g_X7_floor_57 n u5 l2 x6) else none)

def f_X7_floor  (u : am_MU) (l1 : Int32) : Option (am_MU × Int32) :=
(f_X7_in u l1 (0 : Int32) (5 : Int32)).bind fun q1 =>
if q1.2 = 0 then (some (q1.1, ((-1000000001) : Int32)))
else (if (q1.1 111 1) = (6 : Int32) then (some (q1.1, ((-1000000003) : Int32)))
else (am_let (q1.1 111 1) fun x4 =>
(f_X7_at q1.1 x4).bind fun q5 =>
if am_in q5.2 1535 then (
am_let (am_u2 q5.1 111 q5.2.toNatClampNeg l1) fun u7 =>
(f_X7_at u7 x4).bind fun q8 =>
if am_in (q8.2 + (1 : Int32)) 1535 then (
am_let (am_u2 q8.1 111 ((q8.2 + (1 : Int32)).toNatClampNeg) (0 : Int32)) fun u10 =>
g_X7_floor_57 1700 u10 x4 (0 : Int32)) else none) else none))

theorem l_X7_floor_57 {X : Nat × (Nat → Int32)}   : ∀ (n : Nat) (u : am_MU) (l2 : Int32) (l3 : Int32) (r : am_MU × Int32), g_X7_floor_57  n u l2 l3 = some r → am_Ev X M_X7_floor 57 [(0, .ref 110), (2, .int l2), (3, .int l3)] [] (hp u) (hp r.1, some (.int r.2)) := by
  intro n
  induction n with
  | zero => intro u l2 l3 r h; cases h
  | succ n ih =>
    intro u l2 l3 r h
    rw [g_X7_floor_57] at h
    refine ev_iload_n dX7_floor_57 2 rfl ?_
    refine ev_bipush (v := (24 : Int32)) dX7_floor_58 kB_24 ?_
    refine ev_icmp_ge 81 dX7_floor_60 (by decide) (fun c1 => ?_) (fun c1 => ?_)
    · have h := am_t c1 h
      refine ev_aload_n dX7_floor_81 0 rfl trivial ?_
      refine px_getR dX7_floor_82 gf_RX7_9 (at7 rfl) (by decide) rfl ?_
      refine ev_iconst (v := (1 : Int32)) dX7_floor_85 kI_1 ?_
      refine ev_dup2 dX7_floor_86 rfl rfl ?_
      refine px_iald (n := 1535) 1 dX7_floor_87 rfl (by decide) (by decide) ?_
      refine ev_iconst (v := (1 : Int32)) dX7_floor_88 kI_1 ?_
      refine ev_iadd dX7_floor_89 ?_
      obtain ⟨u2, eu2, h⟩ := am_lt h
      refine px_iast (n := 1535) 1 dX7_floor_90 rfl (by decide) (by decide) eu2 ?_
      refine ev_iload_n dX7_floor_91 1 rfl ?_
      obtain rfl := Option.some.inj h
      exact ev_iret dX7_floor_92 rfl rfl
    · have h := am_e c1 h
      refine ev_aload_n dX7_floor_63 0 rfl trivial ?_
      refine px_getR dX7_floor_64 gf_RX7_9 (at7 rfl) (by decide) rfl ?_
      refine ev_iload_n dX7_floor_67 1 rfl ?_
      refine ev_iload_n dX7_floor_68 2 rfl ?_
      obtain ⟨q3, eq3, h⟩ := am_bd h
      refine px_callsi [.int l2, .int l3] dX7_floor_69 ok_X7_spot lk_RX7_86 st_X7_spot (by decide) rfl (c_X7_spot eq3) rfl (Nat.le_of_ble_eq_true rfl) ?_
      refine ev_bipush (v := (20 : Int32)) dX7_floor_72 kB_20 ?_
      obtain ⟨g4, h⟩ := am_gd h
      obtain ⟨u5, eu5, h⟩ := am_lt h
      refine px_iast (n := 1535) q3.2.toNatClampNeg dX7_floor_74 rfl g4 rfl eu5 ?_
      obtain ⟨x6, ex6, h⟩ := am_lt h
      refine ev_iinc (v := x6) (L' := [(3, .int x6), (0, .ref 110), (2, .int l2)]) dX7_floor_75 2 rfl (by rw [kI_1, ex6]) (by decide) rfl ?_
      refine ev_goto 57 dX7_floor_78 (by decide) ?_
      refine ev_loc [1, 2, 0] rfl ?_
      exact ih u5 l2 x6 _ h

theorem l_X7_floor_0 {X : Nat × (Nat → Int32)}   (u : am_MU) (l1 : Int32) (r : am_MU × Int32) (h : f_X7_floor  u l1 = some r) : am_Ev X M_X7_floor 0 [(0, .ref 110), (1, .int l1)] [] (hp u) (hp r.1, some (.int r.2)) := by
  unfold f_X7_floor at h
  refine ev_iload_n dX7_floor_0 1 rfl ?_
  refine ev_iconst (v := (0 : Int32)) dX7_floor_1 kI_0 ?_
  refine ev_iconst (v := (5 : Int32)) dX7_floor_2 kI_5 ?_
  obtain ⟨q1, eq1, h⟩ := am_bd h
  refine px_callsi [.int l1, .int (0 : Int32), .int (5 : Int32)] dX7_floor_3 ok_X7_in lk_RX7_78 st_X7_in (by decide) rfl (c_X7_in eq1) rfl (Nat.le_of_ble_eq_true rfl) ?_
  refine ev_if_ne 12 dX7_floor_6 (by decide) (fun c2 => ?_) (fun c2 => ?_)
  · have h := am_e c2 h
    refine ev_aload_n dX7_floor_12 0 rfl trivial ?_
    refine px_getR dX7_floor_13 gf_RX7_9 (at7 rfl) (by decide) rfl ?_
    refine ev_iconst (v := (1 : Int32)) dX7_floor_16 kI_1 ?_
    refine px_iald (n := 1535) 1 dX7_floor_17 rfl (by decide) (by decide) ?_
    refine ev_bipush (v := (6 : Int32)) dX7_floor_18 kB_6 ?_
    refine ev_icmp_ne 26 dX7_floor_20 (by decide) (fun c3 => ?_) (fun c3 => ?_)
    · have h := am_e c3 h
      refine ev_aload_n dX7_floor_26 0 rfl trivial ?_
      refine px_getR dX7_floor_27 gf_RX7_9 (at7 rfl) (by decide) rfl ?_
      refine ev_iconst (v := (1 : Int32)) dX7_floor_30 kI_1 ?_
      refine px_iald (n := 1535) 1 dX7_floor_31 rfl (by decide) (by decide) ?_
      obtain ⟨x4, ex4, h⟩ := am_lt h
      refine px_top ex4 ?_
      refine ev_istore_n (L' := [(2, .int x4), (0, .ref 110), (1, .int l1)]) dX7_floor_32 (by decide) rfl ?_
      refine ev_aload_n dX7_floor_33 1 rfl trivial ?_
      refine px_getR dX7_floor_34 gf_RX7_9 (at7 rfl) (by decide) rfl ?_
      refine ev_iload_n dX7_floor_37 0 rfl ?_
      obtain ⟨q5, eq5, h⟩ := am_bd h
      refine px_callsi [.int x4] dX7_floor_38 ok_X7_at lk_RX7_82 st_X7_at (by decide) rfl (c_X7_at eq5) rfl (Nat.le_of_ble_eq_true rfl) ?_
      refine ev_iload_n dX7_floor_41 2 rfl ?_
      obtain ⟨g6, h⟩ := am_gd h
      obtain ⟨u7, eu7, h⟩ := am_lt h
      refine px_iast (n := 1535) q5.2.toNatClampNeg dX7_floor_42 rfl g6 rfl eu7 ?_
      refine ev_aload_n dX7_floor_43 1 rfl trivial ?_
      refine px_getR dX7_floor_44 gf_RX7_9 (at7 rfl) (by decide) rfl ?_
      refine ev_iload_n dX7_floor_47 0 rfl ?_
      obtain ⟨q8, eq8, h⟩ := am_bd h
      refine px_callsi [.int x4] dX7_floor_48 ok_X7_at lk_RX7_82 st_X7_at (by decide) rfl (c_X7_at eq8) rfl (Nat.le_of_ble_eq_true rfl) ?_
      refine ev_iconst (v := (1 : Int32)) dX7_floor_51 kI_1 ?_
      refine ev_iadd dX7_floor_52 ?_
      refine ev_iconst (v := (0 : Int32)) dX7_floor_53 kI_0 ?_
      obtain ⟨g9, h⟩ := am_gd h
      obtain ⟨u10, eu10, h⟩ := am_lt h
      refine px_iast (n := 1535) ((q8.2 + (1 : Int32)).toNatClampNeg) dX7_floor_54 rfl g9 rfl eu10 ?_
      refine ev_iconst (v := (0 : Int32)) dX7_floor_55 kI_0 ?_
      refine ev_istore_n (L' := [(3, .int (0 : Int32)), (2, .int x4), (0, .ref 110), (1, .int l1)]) dX7_floor_56 (by decide) rfl ?_
      refine ev_loc [2, 1, 0] rfl ?_
      exact l_X7_floor_57   1700 u10 x4 (0 : Int32) _ h
    · have h := am_t c3 h
      refine ev_ldc (v := ((-1000000003) : Int32)) dX7_floor_23 tw_934 ?_
      obtain rfl := Option.some.inj h
      exact ev_iret dX7_floor_25 rfl rfl
  · have h := am_t c2 h
    refine ev_ldc (v := ((-1000000001) : Int32)) dX7_floor_9 tw_933 ?_
    obtain rfl := Option.some.inj h
    exact ev_iret dX7_floor_11 rfl rfl

theorem c_X7_floor {X : Nat × (Nat → Int32)} {u : am_MU} {l1 : Int32} {r : am_MU × Int32} (h : f_X7_floor u l1 = some r) : am_Cn X M_X7_floor [.ref 110, .int l1] (hp u) (hp r.1, some (.int r.2)) := by
  refine am_Cn.of ok_X7_floor (Nat.le_refl _) (Nat.le_refl _) (Nat.le_of_ble_eq_true rfl) ?_
  refine ev_loc [0, 1] rfl ?_
  exact l_X7_floor_0 u l1 r h

-- SandRipplesModel.isFloor(I)Z
def f_X7_isFloor  (u : am_MU) (l1 : Int32) : Option (am_MU × Int32) :=
(f_X7_in u l1 (0 : Int32) ((u 111 1) - (1 : Int32))).bind fun q1 =>
if q1.2 = 0 ∨ q1.2 = 1 then (
some (q1.1, q1.2)) else none

theorem l_X7_isFloor_0 {X : Nat × (Nat → Int32)}   (u : am_MU) (l1 : Int32) (r : am_MU × Int32) (h : f_X7_isFloor  u l1 = some r) : am_Ev X M_X7_isFloor 0 [(0, .ref 110), (1, .int l1)] [] (hp u) (hp r.1, some (.int r.2)) := by
  unfold f_X7_isFloor at h
  refine ev_iload_n dX7_isFloor_0 1 rfl ?_
  refine ev_iconst (v := (0 : Int32)) dX7_isFloor_1 kI_0 ?_
  refine ev_aload_n dX7_isFloor_2 0 rfl trivial ?_
  refine px_getR dX7_isFloor_3 gf_RX7_9 (at7 rfl) (by decide) rfl ?_
  refine ev_iconst (v := (1 : Int32)) dX7_isFloor_6 kI_1 ?_
  refine px_iald (n := 1535) 1 dX7_isFloor_7 rfl (by decide) (by decide) ?_
  refine ev_iconst (v := (1 : Int32)) dX7_isFloor_8 kI_1 ?_
  refine ev_isub dX7_isFloor_9 ?_
  obtain ⟨q1, eq1, h⟩ := am_bd h
  refine px_callsi [.int l1, .int (0 : Int32), .int ((u 111 1) - (1 : Int32))] dX7_isFloor_10 ok_X7_in lk_RX7_78 st_X7_in (by decide) rfl (c_X7_in eq1) rfl (Nat.le_of_ble_eq_true rfl) ?_
  obtain ⟨g2, h⟩ := am_gd h
  obtain rfl := Option.some.inj h
  exact ev_iret dX7_isFloor_13 rfl (am_zn g2)

theorem c_X7_isFloor {X : Nat × (Nat → Int32)} {u : am_MU} {l1 : Int32} {r : am_MU × Int32} (h : f_X7_isFloor u l1 = some r) : am_Cn X M_X7_isFloor [.ref 110, .int l1] (hp u) (hp r.1, some (.int r.2)) := by
  refine am_Cn.of ok_X7_isFloor (Nat.le_refl _) (Nat.le_refl _) (Nat.le_of_ble_eq_true rfl) ?_
  refine ev_loc [0, 1] rfl ?_
  exact l_X7_isFloor_0 u l1 r h

-- SandRipplesModel.kindOf(I)I
def f_X7_kindOf  (u : am_MU) (l1 : Int32) : Option (am_MU × Int32) :=
(f_X7_at u l1).bind fun q1 =>
if am_in q1.2 1535 then (
some (q1.1, q1.1 111 q1.2.toNatClampNeg)) else none

theorem l_X7_kindOf_0 {X : Nat × (Nat → Int32)}   (u : am_MU) (l1 : Int32) (r : am_MU × Int32) (h : f_X7_kindOf  u l1 = some r) : am_Ev X M_X7_kindOf 0 [(0, .ref 110), (1, .int l1)] [] (hp u) (hp r.1, some (.int r.2)) := by
  unfold f_X7_kindOf at h
  refine ev_aload_n dX7_kindOf_0 0 rfl trivial ?_
  refine px_getR dX7_kindOf_1 gf_RX7_9 (at7 rfl) (by decide) rfl ?_
  refine ev_iload_n dX7_kindOf_4 1 rfl ?_
  obtain ⟨q1, eq1, h⟩ := am_bd h
  refine px_callsi [.int l1] dX7_kindOf_5 ok_X7_at lk_RX7_82 st_X7_at (by decide) rfl (c_X7_at eq1) rfl (Nat.le_of_ble_eq_true rfl) ?_
  obtain ⟨g2, h⟩ := am_gd h
  refine px_iald (n := 1535) q1.2.toNatClampNeg dX7_kindOf_8 rfl g2 rfl ?_
  obtain rfl := Option.some.inj h
  exact ev_iret dX7_kindOf_9 rfl rfl

theorem c_X7_kindOf {X : Nat × (Nat → Int32)} {u : am_MU} {l1 : Int32} {r : am_MU × Int32} (h : f_X7_kindOf u l1 = some r) : am_Cn X M_X7_kindOf [.ref 110, .int l1] (hp u) (hp r.1, some (.int r.2)) := by
  refine am_Cn.of ok_X7_kindOf (Nat.le_refl _) (Nat.le_refl _) (Nat.le_of_ble_eq_true rfl) ?_
  refine ev_loc [0, 1] rfl ?_
  exact l_X7_kindOf_0 u l1 r h

-- SandRipplesModel.tickOf(I)I
def f_X7_tickOf  (u : am_MU) (l1 : Int32) : Option (am_MU × Int32) :=
(f_X7_at u l1).bind fun q1 =>
if am_in (q1.2 + (1 : Int32)) 1535 then (
some (q1.1, q1.1 111 ((q1.2 + (1 : Int32)).toNatClampNeg))) else none

theorem l_X7_tickOf_0 {X : Nat × (Nat → Int32)}   (u : am_MU) (l1 : Int32) (r : am_MU × Int32) (h : f_X7_tickOf  u l1 = some r) : am_Ev X M_X7_tickOf 0 [(0, .ref 110), (1, .int l1)] [] (hp u) (hp r.1, some (.int r.2)) := by
  unfold f_X7_tickOf at h
  refine ev_aload_n dX7_tickOf_0 0 rfl trivial ?_
  refine px_getR dX7_tickOf_1 gf_RX7_9 (at7 rfl) (by decide) rfl ?_
  refine ev_iload_n dX7_tickOf_4 1 rfl ?_
  obtain ⟨q1, eq1, h⟩ := am_bd h
  refine px_callsi [.int l1] dX7_tickOf_5 ok_X7_at lk_RX7_82 st_X7_at (by decide) rfl (c_X7_at eq1) rfl (Nat.le_of_ble_eq_true rfl) ?_
  refine ev_iconst (v := (1 : Int32)) dX7_tickOf_8 kI_1 ?_
  refine ev_iadd dX7_tickOf_9 ?_
  obtain ⟨g2, h⟩ := am_gd h
  refine px_iald (n := 1535) ((q1.2 + (1 : Int32)).toNatClampNeg) dX7_tickOf_10 rfl g2 rfl ?_
  obtain rfl := Option.some.inj h
  exact ev_iret dX7_tickOf_11 rfl rfl

theorem c_X7_tickOf {X : Nat × (Nat → Int32)} {u : am_MU} {l1 : Int32} {r : am_MU × Int32} (h : f_X7_tickOf u l1 = some r) : am_Cn X M_X7_tickOf [.ref 110, .int l1] (hp u) (hp r.1, some (.int r.2)) := by
  refine am_Cn.of ok_X7_tickOf (Nat.le_refl _) (Nat.le_refl _) (Nat.le_of_ble_eq_true rfl) ?_
  refine ev_loc [0, 1] rfl ?_
  exact l_X7_tickOf_0 u l1 r h

-- SandRipplesModel.sandOf(II)I
def f_X7_sandOf  (u : am_MU) (l1 : Int32) (l2 : Int32) : Option (am_MU × Int32) :=
(f_X7_spot u l1 l2).bind fun q1 =>
if am_in q1.2 1535 then (
some (q1.1, q1.1 111 q1.2.toNatClampNeg)) else none

theorem l_X7_sandOf_0 {X : Nat × (Nat → Int32)}   (u : am_MU) (l1 : Int32) (l2 : Int32) (r : am_MU × Int32) (h : f_X7_sandOf  u l1 l2 = some r) : am_Ev X M_X7_sandOf 0 [(0, .ref 110), (1, .int l1), (2, .int l2)] [] (hp u) (hp r.1, some (.int r.2)) := by
  unfold f_X7_sandOf at h
  refine ev_aload_n dX7_sandOf_0 0 rfl trivial ?_
  refine px_getR dX7_sandOf_1 gf_RX7_9 (at7 rfl) (by decide) rfl ?_
  refine ev_iload_n dX7_sandOf_4 1 rfl ?_
  refine ev_iload_n dX7_sandOf_5 2 rfl ?_
  obtain ⟨q1, eq1, h⟩ := am_bd h
  refine px_callsi [.int l1, .int l2] dX7_sandOf_6 ok_X7_spot lk_RX7_86 st_X7_spot (by decide) rfl (c_X7_spot eq1) rfl (Nat.le_of_ble_eq_true rfl) ?_
  obtain ⟨g2, h⟩ := am_gd h
  refine px_iald (n := 1535) q1.2.toNatClampNeg dX7_sandOf_9 rfl g2 rfl ?_
  obtain rfl := Option.some.inj h
  exact ev_iret dX7_sandOf_10 rfl rfl

theorem c_X7_sandOf {X : Nat × (Nat → Int32)} {u : am_MU} {l1 : Int32} {l2 : Int32} {r : am_MU × Int32} (h : f_X7_sandOf u l1 l2 = some r) : am_Cn X M_X7_sandOf [.ref 110, .int l1, .int l2] (hp u) (hp r.1, some (.int r.2)) := by
  refine am_Cn.of ok_X7_sandOf (Nat.le_refl _) (Nat.le_refl _) (Nat.le_of_ble_eq_true rfl) ?_
  refine ev_loc [0, 1, 2] rfl ?_
  exact l_X7_sandOf_0 u l1 l2 r h

-- SandRipplesModel.sumOf(I)I
def g_X7_sumOf_4  : Nat → am_MU → Int32 → Int32 → Int32 → Option (am_MU × Int32)
  | 0 => fun _ _ _ _ => none
  | n + 1 => fun u l1 l2 l3 =>
if (24 : Int32) ≤ l3 then (some (u, l2))
else ((f_X7_sandOf u l1 l3).bind fun q2 =>
am_let (l2 + q2.2) fun x3 =>
am_let (l3 + (1 : Int32)) fun x4 =>
g_X7_sumOf_4 n q2.1 l1 x3 x4)

def f_X7_sumOf  (u : am_MU) (l1 : Int32) : Option (am_MU × Int32) :=
g_X7_sumOf_4 1700 u l1 (0 : Int32) (0 : Int32)

theorem l_X7_sumOf_4 {X : Nat × (Nat → Int32)}   : ∀ (n : Nat) (u : am_MU) (l1 : Int32) (l2 : Int32) (l3 : Int32) (r : am_MU × Int32), g_X7_sumOf_4  n u l1 l2 l3 = some r → am_Ev X M_X7_sumOf 4 [(0, .ref 110), (1, .int l1), (2, .int l2), (3, .int l3)] [] (hp u) (hp r.1, some (.int r.2)) := by
  intro n
  induction n with
  | zero => intro u l1 l2 l3 r h; cases h
  | succ n ih =>
    intro u l1 l2 l3 r h
    rw [g_X7_sumOf_4] at h
    refine ev_iload_n dX7_sumOf_4 3 rfl ?_
    refine ev_bipush (v := (24 : Int32)) dX7_sumOf_5 kB_24 ?_
    refine ev_icmp_ge 25 dX7_sumOf_7 (by decide) (fun c1 => ?_) (fun c1 => ?_)
    · have h := am_t c1 h
      refine ev_iload_n dX7_sumOf_25 2 rfl ?_
      obtain rfl := Option.some.inj h
      exact ev_iret dX7_sumOf_26 rfl rfl
    · have h := am_e c1 h
      refine ev_iload_n dX7_sumOf_10 2 rfl ?_
      refine ev_aload_n dX7_sumOf_11 0 rfl trivial ?_
      refine ev_iload_n dX7_sumOf_12 1 rfl ?_
      refine ev_iload_n dX7_sumOf_13 3 rfl ?_
      obtain ⟨q2, eq2, h⟩ := am_bd h
      refine px_callvi [.int l1, .int l3] (by decide) cl_7 (at7 rfl) dX7_sumOf_14 ok_X7_sandOf lk_RX7_102 in_X7_sandOf se_X7_sandOf (by decide) rfl (c_X7_sandOf eq2) rfl (Nat.le_of_ble_eq_true rfl) ?_
      refine ev_iadd dX7_sumOf_17 ?_
      obtain ⟨x3, ex3, h⟩ := am_lt h
      refine px_top ex3 ?_
      refine ev_istore_n (L' := [(2, .int x3), (0, .ref 110), (1, .int l1), (3, .int l3)]) dX7_sumOf_18 (by decide) rfl ?_
      obtain ⟨x4, ex4, h⟩ := am_lt h
      refine ev_iinc (v := x4) (L' := [(3, .int x4), (2, .int x3), (0, .ref 110), (1, .int l1)]) dX7_sumOf_19 3 rfl (by rw [kI_1, ex4]) (by decide) rfl ?_
      refine ev_goto 4 dX7_sumOf_22 (by decide) ?_
      refine ev_loc [2, 3, 1, 0] rfl ?_
      exact ih q2.1 l1 x3 x4 _ h

theorem l_X7_sumOf_0 {X : Nat × (Nat → Int32)}   (u : am_MU) (l1 : Int32) (r : am_MU × Int32) (h : f_X7_sumOf  u l1 = some r) : am_Ev X M_X7_sumOf 0 [(0, .ref 110), (1, .int l1)] [] (hp u) (hp r.1, some (.int r.2)) := by
  unfold f_X7_sumOf at h
  refine ev_iconst (v := (0 : Int32)) dX7_sumOf_0 kI_0 ?_
  refine ev_istore_n (L' := [(2, .int (0 : Int32)), (0, .ref 110), (1, .int l1)]) dX7_sumOf_1 (by decide) rfl ?_
  refine ev_iconst (v := (0 : Int32)) dX7_sumOf_2 kI_0 ?_
  refine ev_istore_n (L' := [(3, .int (0 : Int32)), (2, .int (0 : Int32)), (0, .ref 110), (1, .int l1)]) dX7_sumOf_3 (by decide) rfl ?_
  refine ev_loc [2, 3, 1, 0] rfl ?_
  exact l_X7_sumOf_4   1700 u l1 (0 : Int32) (0 : Int32) _ h

theorem c_X7_sumOf {X : Nat × (Nat → Int32)} {u : am_MU} {l1 : Int32} {r : am_MU × Int32} (h : f_X7_sumOf u l1 = some r) : am_Cn X M_X7_sumOf [.ref 110, .int l1] (hp u) (hp r.1, some (.int r.2)) := by
  refine am_Cn.of ok_X7_sumOf (Nat.le_refl _) (Nat.le_refl _) (Nat.le_of_ble_eq_true rfl) ?_
  refine ev_loc [0, 1] rfl ?_
  exact l_X7_sumOf_0 u l1 r h

-- SandRipplesModel.extremeOf(IZ)I
def g_X7_extremeOf_57 (K10 : am_MU → Int32 → Int32 → Int32 → Int32 → Option (am_MU × Int32)) (u : am_MU) (l1 : Int32) (l2 : Int32) (l4 : Int32) (s0 : Int32) : Option (am_MU × Int32) :=
am_let (l4 + (1 : Int32)) fun x1 =>
K10 u l1 l2 s0 x1

def g_X7_extremeOf_10  : Nat → am_MU → Int32 → Int32 → Int32 → Int32 → Option (am_MU × Int32)
  | 0 => fun _ _ _ _ _ => none
  | n + 1 => fun u l1 l2 l3 l4 =>
if (24 : Int32) ≤ l4 then (some (u, l3))
else ((f_X7_sandOf u l1 l4).bind fun q2 =>
if l2 = 0 then (if l3 ≤ q2.2 then (g_X7_extremeOf_57 (g_X7_extremeOf_10 n) q2.1 l1 l2 l4 l3)
else (g_X7_extremeOf_57 (g_X7_extremeOf_10 n) q2.1 l1 l2 l4 q2.2))
else (if q2.2 ≤ l3 then (g_X7_extremeOf_57 (g_X7_extremeOf_10 n) q2.1 l1 l2 l4 l3)
else (g_X7_extremeOf_57 (g_X7_extremeOf_10 n) q2.1 l1 l2 l4 q2.2)))

def f_X7_extremeOf  (u : am_MU) (l1 : Int32) (l2 : Int32) : Option (am_MU × Int32) :=
(f_X7_sandOf u l1 (0 : Int32)).bind fun q1 =>
g_X7_extremeOf_10 1700 q1.1 l1 l2 q1.2 (1 : Int32)

theorem l_X7_extremeOf_57 {X : Nat × (Nat → Int32)} (K10 : am_MU → Int32 → Int32 → Int32 → Int32 → Option (am_MU × Int32)) (hK10 : ∀ (u : am_MU) (l1 : Int32) (l2 : Int32) (l3 : Int32) (l4 : Int32) (r : am_MU × Int32), K10 u l1 l2 l3 l4 = some r → am_Ev X M_X7_extremeOf 10 [(0, .ref 110), (1, .int l1), (2, .int l2), (3, .int l3), (4, .int l4)] [] (hp u) (hp r.1, some (.int r.2))) (u : am_MU) (l1 : Int32) (l2 : Int32) (l4 : Int32) (s0 : Int32) (r : am_MU × Int32) (h : g_X7_extremeOf_57 K10 u l1 l2 l4 s0 = some r) : am_Ev X M_X7_extremeOf 57 [(0, .ref 110), (1, .int l1), (2, .int l2), (4, .int l4)] [.int s0] (hp u) (hp r.1, some (.int r.2)) := by
  unfold g_X7_extremeOf_57 at h
  refine ev_istore_n (L' := [(3, .int s0), (0, .ref 110), (1, .int l1), (2, .int l2), (4, .int l4)]) dX7_extremeOf_57 (by decide) rfl ?_
  obtain ⟨x1, ex1, h⟩ := am_lt h
  refine ev_iinc (v := x1) (L' := [(4, .int x1), (3, .int s0), (0, .ref 110), (1, .int l1), (2, .int l2)]) dX7_extremeOf_58 4 rfl (by rw [kI_1, ex1]) (by decide) rfl ?_
  refine ev_goto 10 dX7_extremeOf_61 (by decide) ?_
  refine ev_loc [2, 3, 4, 1, 0] rfl ?_
  exact hK10 u l1 l2 s0 x1 _ h

theorem l_X7_extremeOf_10 {X : Nat × (Nat → Int32)}   : ∀ (n : Nat) (u : am_MU) (l1 : Int32) (l2 : Int32) (l3 : Int32) (l4 : Int32) (r : am_MU × Int32), g_X7_extremeOf_10  n u l1 l2 l3 l4 = some r → am_Ev X M_X7_extremeOf 10 [(0, .ref 110), (1, .int l1), (2, .int l2), (3, .int l3), (4, .int l4)] [] (hp u) (hp r.1, some (.int r.2)) := by
  intro n
  induction n with
  | zero => intro u l1 l2 l3 l4 r h; cases h
  | succ n ih =>
    intro u l1 l2 l3 l4 r h
    rw [g_X7_extremeOf_10] at h
    refine ev_iload dX7_extremeOf_10 4 rfl ?_
    refine ev_bipush (v := (24 : Int32)) dX7_extremeOf_12 kB_24 ?_
    refine ev_icmp_ge 64 dX7_extremeOf_14 (by decide) (fun c1 => ?_) (fun c1 => ?_)
    · have h := am_t c1 h
      refine ev_iload_n dX7_extremeOf_64 3 rfl ?_
      obtain rfl := Option.some.inj h
      exact ev_iret dX7_extremeOf_65 rfl rfl
    · have h := am_e c1 h
      refine ev_aload_n dX7_extremeOf_17 0 rfl trivial ?_
      refine ev_iload_n dX7_extremeOf_18 1 rfl ?_
      refine ev_iload dX7_extremeOf_19 4 rfl ?_
      obtain ⟨q2, eq2, h⟩ := am_bd h
      refine px_callvi [.int l1, .int l4] (by decide) cl_7 (at7 rfl) dX7_extremeOf_21 ok_X7_sandOf lk_RX7_102 in_X7_sandOf se_X7_sandOf (by decide) rfl (c_X7_sandOf eq2) rfl (Nat.le_of_ble_eq_true rfl) ?_
      refine ev_istore (L' := [(5, .int q2.2), (0, .ref 110), (1, .int l1), (2, .int l2), (3, .int l3), (4, .int l4)]) dX7_extremeOf_24 (by decide) rfl ?_
      refine ev_iload_n dX7_extremeOf_26 3 rfl ?_
      refine ev_if_eq 45 dX7_extremeOf_27 (by decide) (fun c3 => ?_) (fun c3 => ?_)
      · have h := am_t c3 h
        refine ev_iload dX7_extremeOf_45 0 rfl ?_
        refine ev_iload_n dX7_extremeOf_47 4 rfl ?_
        refine ev_icmp_ge 56 dX7_extremeOf_48 (by decide) (fun c4 => ?_) (fun c4 => ?_)
        · have h := am_t c4 h
          refine ev_iload_n dX7_extremeOf_56 4 rfl ?_
          refine ev_loc [1, 2, 3, 5] rfl ?_
          exact l_X7_extremeOf_57 (g_X7_extremeOf_10 n) (fun u l1 l2 l3 l4 r h => ih u l1 l2 l3 l4 r h) q2.1 l1 l2 l4 l3 _ h
        · have h := am_e c4 h
          refine ev_iload dX7_extremeOf_51 0 rfl ?_
          refine ev_goto 57 dX7_extremeOf_53 (by decide) ?_
          refine ev_loc [1, 2, 3, 5] rfl ?_
          exact l_X7_extremeOf_57 (g_X7_extremeOf_10 n) (fun u l1 l2 l3 l4 r h => ih u l1 l2 l3 l4 r h) q2.1 l1 l2 l4 q2.2 _ h
      · have h := am_e c3 h
        refine ev_iload dX7_extremeOf_30 0 rfl ?_
        refine ev_iload_n dX7_extremeOf_32 4 rfl ?_
        refine ev_icmp_le 41 dX7_extremeOf_33 (by decide) (fun c5 => ?_) (fun c5 => ?_)
        · have h := am_t c5 h
          refine ev_iload_n dX7_extremeOf_41 4 rfl ?_
          refine ev_goto 57 dX7_extremeOf_42 (by decide) ?_
          refine ev_loc [1, 2, 3, 5] rfl ?_
          exact l_X7_extremeOf_57 (g_X7_extremeOf_10 n) (fun u l1 l2 l3 l4 r h => ih u l1 l2 l3 l4 r h) q2.1 l1 l2 l4 l3 _ h
        · have h := am_e c5 h
          refine ev_iload dX7_extremeOf_36 0 rfl ?_
          refine ev_goto 57 dX7_extremeOf_38 (by decide) ?_
          refine ev_loc [1, 2, 3, 5] rfl ?_
          exact l_X7_extremeOf_57 (g_X7_extremeOf_10 n) (fun u l1 l2 l3 l4 r h => ih u l1 l2 l3 l4 r h) q2.1 l1 l2 l4 q2.2 _ h

theorem l_X7_extremeOf_0 {X : Nat × (Nat → Int32)}   (u : am_MU) (l1 : Int32) (l2 : Int32) (r : am_MU × Int32) (h : f_X7_extremeOf  u l1 l2 = some r) : am_Ev X M_X7_extremeOf 0 [(0, .ref 110), (1, .int l1), (2, .int l2)] [] (hp u) (hp r.1, some (.int r.2)) := by
  unfold f_X7_extremeOf at h
  refine ev_aload_n dX7_extremeOf_0 0 rfl trivial ?_
  refine ev_iload_n dX7_extremeOf_1 1 rfl ?_
  refine ev_iconst (v := (0 : Int32)) dX7_extremeOf_2 kI_0 ?_
  obtain ⟨q1, eq1, h⟩ := am_bd h
  refine px_callvi [.int l1, .int (0 : Int32)] (by decide) cl_7 (at7 rfl) dX7_extremeOf_3 ok_X7_sandOf lk_RX7_102 in_X7_sandOf se_X7_sandOf (by decide) rfl (c_X7_sandOf eq1) rfl (Nat.le_of_ble_eq_true rfl) ?_
  refine ev_istore_n (L' := [(3, .int q1.2), (0, .ref 110), (1, .int l1), (2, .int l2)]) dX7_extremeOf_6 (by decide) rfl ?_
  refine ev_iconst (v := (1 : Int32)) dX7_extremeOf_7 kI_1 ?_
  refine ev_istore (L' := [(4, .int (1 : Int32)), (3, .int q1.2), (0, .ref 110), (1, .int l1), (2, .int l2)]) dX7_extremeOf_8 (by decide) rfl ?_
  refine ev_loc [2, 3, 4, 1, 0] rfl ?_
  exact l_X7_extremeOf_10   1700 q1.1 l1 l2 q1.2 (1 : Int32) _ h

theorem c_X7_extremeOf {X : Nat × (Nat → Int32)} {u : am_MU} {l1 : Int32} {l2 : Int32} {r : am_MU × Int32} (h : f_X7_extremeOf u l1 l2 = some r) : am_Cn X M_X7_extremeOf [.ref 110, .int l1, .int l2] (hp u) (hp r.1, some (.int r.2)) := by
  refine am_Cn.of ok_X7_extremeOf (Nat.le_refl _) (Nat.le_refl _) (Nat.le_of_ble_eq_true rfl) ?_
  refine ev_loc [0, 1, 2] rfl ?_
  exact l_X7_extremeOf_0 u l1 l2 r h

-- SandRipplesModel.isCrest(II)Z
def f_X7_isCrest  (u : am_MU) (l1 : Int32) (l2 : Int32) : Option (am_MU × Int32) :=
(f_X7_sandOf u l1 l2).bind fun q1 =>
(f_X7_sandOf q1.1 l1 (l2 - (1 : Int32))).bind fun q2 =>
if q1.2 ≤ q2.2 then (some (q2.1, (0 : Int32)))
else ((f_X7_sandOf q2.1 l1 l2).bind fun q4 =>
(f_X7_sandOf q4.1 l1 (l2 + (1 : Int32))).bind fun q5 =>
if q4.2 < q5.2 then (some (q5.1, (0 : Int32)))
else (some (q5.1, (1 : Int32))))

theorem l_X7_isCrest_0 {X : Nat × (Nat → Int32)}   (u : am_MU) (l1 : Int32) (l2 : Int32) (r : am_MU × Int32) (h : f_X7_isCrest  u l1 l2 = some r) : am_Ev X M_X7_isCrest 0 [(0, .ref 110), (1, .int l1), (2, .int l2)] [] (hp u) (hp r.1, some (.int r.2)) := by
  unfold f_X7_isCrest at h
  refine ev_aload_n dX7_isCrest_0 0 rfl trivial ?_
  refine ev_iload_n dX7_isCrest_1 1 rfl ?_
  refine ev_iload_n dX7_isCrest_2 2 rfl ?_
  obtain ⟨q1, eq1, h⟩ := am_bd h
  refine px_callvi [.int l1, .int l2] (by decide) cl_7 (at7 rfl) dX7_isCrest_3 ok_X7_sandOf lk_RX7_102 in_X7_sandOf se_X7_sandOf (by decide) rfl (c_X7_sandOf eq1) rfl (Nat.le_of_ble_eq_true rfl) ?_
  refine ev_aload_n dX7_isCrest_6 0 rfl trivial ?_
  refine ev_iload_n dX7_isCrest_7 1 rfl ?_
  refine ev_iload_n dX7_isCrest_8 2 rfl ?_
  refine ev_iconst (v := (1 : Int32)) dX7_isCrest_9 kI_1 ?_
  refine ev_isub dX7_isCrest_10 ?_
  obtain ⟨q2, eq2, h⟩ := am_bd h
  refine px_callvi [.int l1, .int (l2 - (1 : Int32))] (by decide) cl_7 (at7 rfl) dX7_isCrest_11 ok_X7_sandOf lk_RX7_102 in_X7_sandOf se_X7_sandOf (by decide) rfl (c_X7_sandOf eq2) rfl (Nat.le_of_ble_eq_true rfl) ?_
  refine ev_icmp_le 38 dX7_isCrest_14 (by decide) (fun c3 => ?_) (fun c3 => ?_)
  · have h := am_t c3 h
    refine ev_iconst (v := (0 : Int32)) dX7_isCrest_38 kI_0 ?_
    obtain rfl := Option.some.inj h
    exact ev_iret dX7_isCrest_39 rfl (am_zn (Or.inl rfl))
  · have h := am_e c3 h
    refine ev_aload_n dX7_isCrest_17 0 rfl trivial ?_
    refine ev_iload_n dX7_isCrest_18 1 rfl ?_
    refine ev_iload_n dX7_isCrest_19 2 rfl ?_
    obtain ⟨q4, eq4, h⟩ := am_bd h
    refine px_callvi [.int l1, .int l2] (by decide) cl_7 (at7 rfl) dX7_isCrest_20 ok_X7_sandOf lk_RX7_102 in_X7_sandOf se_X7_sandOf (by decide) rfl (c_X7_sandOf eq4) rfl (Nat.le_of_ble_eq_true rfl) ?_
    refine ev_aload_n dX7_isCrest_23 0 rfl trivial ?_
    refine ev_iload_n dX7_isCrest_24 1 rfl ?_
    refine ev_iload_n dX7_isCrest_25 2 rfl ?_
    refine ev_iconst (v := (1 : Int32)) dX7_isCrest_26 kI_1 ?_
    refine ev_iadd dX7_isCrest_27 ?_
    obtain ⟨q5, eq5, h⟩ := am_bd h
    refine px_callvi [.int l1, .int (l2 + (1 : Int32))] (by decide) cl_7 (at7 rfl) dX7_isCrest_28 ok_X7_sandOf lk_RX7_102 in_X7_sandOf se_X7_sandOf (by decide) rfl (c_X7_sandOf eq5) rfl (Nat.le_of_ble_eq_true rfl) ?_
    refine ev_icmp_lt 38 dX7_isCrest_31 (by decide) (fun c6 => ?_) (fun c6 => ?_)
    · have h := am_t c6 h
      refine ev_iconst (v := (0 : Int32)) dX7_isCrest_38 kI_0 ?_
      obtain rfl := Option.some.inj h
      exact ev_iret dX7_isCrest_39 rfl (am_zn (Or.inl rfl))
    · have h := am_e c6 h
      refine ev_iconst (v := (1 : Int32)) dX7_isCrest_34 kI_1 ?_
      refine ev_goto 39 dX7_isCrest_35 (by decide) ?_
      obtain rfl := Option.some.inj h
      exact ev_iret dX7_isCrest_39 rfl (am_zn (Or.inr rfl))

theorem c_X7_isCrest {X : Nat × (Nat → Int32)} {u : am_MU} {l1 : Int32} {l2 : Int32} {r : am_MU × Int32} (h : f_X7_isCrest u l1 l2 = some r) : am_Cn X M_X7_isCrest [.ref 110, .int l1, .int l2] (hp u) (hp r.1, some (.int r.2)) := by
  refine am_Cn.of ok_X7_isCrest (Nat.le_refl _) (Nat.le_refl _) (Nat.le_of_ble_eq_true rfl) ?_
  refine ev_loc [0, 1, 2] rfl ?_
  exact l_X7_isCrest_0 u l1 l2 r h

-- SandRipplesModel.crestsOf(I)I
def g_X7_crestsOf_25 (K4 : am_MU → Int32 → Int32 → Int32 → Option (am_MU × Int32)) (u : am_MU) (l1 : Int32) (l3 : Int32) (s0 : Int32) (s1 : Int32) : Option (am_MU × Int32) :=
am_let (s0 + s1) fun x1 =>
am_let (l3 + (1 : Int32)) fun x2 =>
K4 u l1 x1 x2

def g_X7_crestsOf_4  : Nat → am_MU → Int32 → Int32 → Int32 → Option (am_MU × Int32)
  | 0 => fun _ _ _ _ => none
  | n + 1 => fun u l1 l2 l3 =>
if (24 : Int32) ≤ l3 then (some (u, l2))
else ((f_X7_isCrest u l1 l3).bind fun q2 =>
if q2.2 = 0 then (g_X7_crestsOf_25 (g_X7_crestsOf_4 n) q2.1 l1 l3 l2 (0 : Int32))
else (g_X7_crestsOf_25 (g_X7_crestsOf_4 n) q2.1 l1 l3 l2 (1 : Int32)))

def f_X7_crestsOf  (u : am_MU) (l1 : Int32) : Option (am_MU × Int32) :=
g_X7_crestsOf_4 1700 u l1 (0 : Int32) (0 : Int32)

theorem l_X7_crestsOf_25 {X : Nat × (Nat → Int32)} (K4 : am_MU → Int32 → Int32 → Int32 → Option (am_MU × Int32)) (hK4 : ∀ (u : am_MU) (l1 : Int32) (l2 : Int32) (l3 : Int32) (r : am_MU × Int32), K4 u l1 l2 l3 = some r → am_Ev X M_X7_crestsOf 4 [(0, .ref 110), (1, .int l1), (2, .int l2), (3, .int l3)] [] (hp u) (hp r.1, some (.int r.2))) (u : am_MU) (l1 : Int32) (l3 : Int32) (s0 : Int32) (s1 : Int32) (r : am_MU × Int32) (h : g_X7_crestsOf_25 K4 u l1 l3 s0 s1 = some r) : am_Ev X M_X7_crestsOf 25 [(0, .ref 110), (1, .int l1), (3, .int l3)] [.int s1, .int s0] (hp u) (hp r.1, some (.int r.2)) := by
  unfold g_X7_crestsOf_25 at h
  refine ev_iadd dX7_crestsOf_25 ?_
  obtain ⟨x1, ex1, h⟩ := am_lt h
  refine px_top ex1 ?_
  refine ev_istore_n (L' := [(2, .int x1), (0, .ref 110), (1, .int l1), (3, .int l3)]) dX7_crestsOf_26 (by decide) rfl ?_
  obtain ⟨x2, ex2, h⟩ := am_lt h
  refine ev_iinc (v := x2) (L' := [(3, .int x2), (2, .int x1), (0, .ref 110), (1, .int l1)]) dX7_crestsOf_27 3 rfl (by rw [kI_1, ex2]) (by decide) rfl ?_
  refine ev_goto 4 dX7_crestsOf_30 (by decide) ?_
  refine ev_loc [2, 3, 1, 0] rfl ?_
  exact hK4 u l1 x1 x2 _ h

theorem l_X7_crestsOf_4 {X : Nat × (Nat → Int32)}   : ∀ (n : Nat) (u : am_MU) (l1 : Int32) (l2 : Int32) (l3 : Int32) (r : am_MU × Int32), g_X7_crestsOf_4  n u l1 l2 l3 = some r → am_Ev X M_X7_crestsOf 4 [(0, .ref 110), (1, .int l1), (2, .int l2), (3, .int l3)] [] (hp u) (hp r.1, some (.int r.2)) := by
  intro n
  induction n with
  | zero => intro u l1 l2 l3 r h; cases h
  | succ n ih =>
    intro u l1 l2 l3 r h
    rw [g_X7_crestsOf_4] at h
    refine ev_iload_n dX7_crestsOf_4 3 rfl ?_
    refine ev_bipush (v := (24 : Int32)) dX7_crestsOf_5 kB_24 ?_
    refine ev_icmp_ge 33 dX7_crestsOf_7 (by decide) (fun c1 => ?_) (fun c1 => ?_)
    · have h := am_t c1 h
      refine ev_iload_n dX7_crestsOf_33 2 rfl ?_
      obtain rfl := Option.some.inj h
      exact ev_iret dX7_crestsOf_34 rfl rfl
    · have h := am_e c1 h
      refine ev_iload_n dX7_crestsOf_10 2 rfl ?_
      refine ev_aload_n dX7_crestsOf_11 0 rfl trivial ?_
      refine ev_iload_n dX7_crestsOf_12 1 rfl ?_
      refine ev_iload_n dX7_crestsOf_13 3 rfl ?_
      obtain ⟨q2, eq2, h⟩ := am_bd h
      refine px_callvi [.int l1, .int l3] (by decide) cl_7 (at7 rfl) dX7_crestsOf_14 ok_X7_isCrest lk_RX7_111 in_X7_isCrest se_X7_isCrest (by decide) rfl (c_X7_isCrest eq2) rfl (Nat.le_of_ble_eq_true rfl) ?_
      refine ev_if_eq 24 dX7_crestsOf_17 (by decide) (fun c3 => ?_) (fun c3 => ?_)
      · have h := am_t c3 h
        refine ev_iconst (v := (0 : Int32)) dX7_crestsOf_24 kI_0 ?_
        refine ev_loc [0, 1, 3] rfl ?_
        exact l_X7_crestsOf_25 (g_X7_crestsOf_4 n) (fun u l1 l2 l3 r h => ih u l1 l2 l3 r h) q2.1 l1 l3 l2 (0 : Int32) _ h
      · have h := am_e c3 h
        refine ev_iconst (v := (1 : Int32)) dX7_crestsOf_20 kI_1 ?_
        refine ev_goto 25 dX7_crestsOf_21 (by decide) ?_
        refine ev_loc [0, 1, 3] rfl ?_
        exact l_X7_crestsOf_25 (g_X7_crestsOf_4 n) (fun u l1 l2 l3 r h => ih u l1 l2 l3 r h) q2.1 l1 l3 l2 (1 : Int32) _ h

theorem l_X7_crestsOf_0 {X : Nat × (Nat → Int32)}   (u : am_MU) (l1 : Int32) (r : am_MU × Int32) (h : f_X7_crestsOf  u l1 = some r) : am_Ev X M_X7_crestsOf 0 [(0, .ref 110), (1, .int l1)] [] (hp u) (hp r.1, some (.int r.2)) := by
  unfold f_X7_crestsOf at h
  refine ev_iconst (v := (0 : Int32)) dX7_crestsOf_0 kI_0 ?_
  refine ev_istore_n (L' := [(2, .int (0 : Int32)), (0, .ref 110), (1, .int l1)]) dX7_crestsOf_1 (by decide) rfl ?_
  refine ev_iconst (v := (0 : Int32)) dX7_crestsOf_2 kI_0 ?_
  refine ev_istore_n (L' := [(3, .int (0 : Int32)), (2, .int (0 : Int32)), (0, .ref 110), (1, .int l1)]) dX7_crestsOf_3 (by decide) rfl ?_
  refine ev_loc [2, 3, 1, 0] rfl ?_
  exact l_X7_crestsOf_4   1700 u l1 (0 : Int32) (0 : Int32) _ h

theorem c_X7_crestsOf {X : Nat × (Nat → Int32)} {u : am_MU} {l1 : Int32} {r : am_MU × Int32} (h : f_X7_crestsOf u l1 = some r) : am_Cn X M_X7_crestsOf [.ref 110, .int l1] (hp u) (hp r.1, some (.int r.2)) := by
  refine am_Cn.of ok_X7_crestsOf (Nat.le_refl _) (Nat.le_refl _) (Nat.le_of_ble_eq_true rfl) ?_
  refine ev_loc [0, 1] rfl ?_
  exact l_X7_crestsOf_0 u l1 r h

-- SandRipplesModel.leanOf(I)I
def g_X7_leanOf_47 (K4 : am_MU → Int32 → Int32 → Int32 → Option (am_MU × Int32)) (u : am_MU) (l1 : Int32) (l3 : Int32) (s0 : Int32) (s1 : Int32) : Option (am_MU × Int32) :=
am_let (s0 + s1) fun x1 =>
am_let (l3 + (1 : Int32)) fun x2 =>
K4 u l1 x1 x2

def g_X7_leanOf_4  : Nat → am_MU → Int32 → Int32 → Int32 → Option (am_MU × Int32)
  | 0 => fun _ _ _ _ => none
  | n + 1 => fun u l1 l2 l3 =>
if (24 : Int32) ≤ l3 then (some (u, l2))
else ((f_X7_sandOf u l1 (l3 + (1 : Int32))).bind fun q2 =>
(f_X7_sandOf q2.1 l1 l3).bind fun q3 =>
am_let (q2.2 - q3.2) fun x4 =>
if x4 ≤ 0 then (if 0 ≤ x4 then (g_X7_leanOf_47 (g_X7_leanOf_4 n) q3.1 l1 l3 l2 (0 : Int32))
else (g_X7_leanOf_47 (g_X7_leanOf_4 n) q3.1 l1 l3 l2 ((-1) : Int32)))
else (g_X7_leanOf_47 (g_X7_leanOf_4 n) q3.1 l1 l3 l2 (1 : Int32)))

def f_X7_leanOf  (u : am_MU) (l1 : Int32) : Option (am_MU × Int32) :=
g_X7_leanOf_4 1700 u l1 (0 : Int32) (0 : Int32)

theorem l_X7_leanOf_47 {X : Nat × (Nat → Int32)} (K4 : am_MU → Int32 → Int32 → Int32 → Option (am_MU × Int32)) (hK4 : ∀ (u : am_MU) (l1 : Int32) (l2 : Int32) (l3 : Int32) (r : am_MU × Int32), K4 u l1 l2 l3 = some r → am_Ev X M_X7_leanOf 4 [(0, .ref 110), (1, .int l1), (2, .int l2), (3, .int l3)] [] (hp u) (hp r.1, some (.int r.2))) (u : am_MU) (l1 : Int32) (l3 : Int32) (s0 : Int32) (s1 : Int32) (r : am_MU × Int32) (h : g_X7_leanOf_47 K4 u l1 l3 s0 s1 = some r) : am_Ev X M_X7_leanOf 47 [(0, .ref 110), (1, .int l1), (3, .int l3)] [.int s1, .int s0] (hp u) (hp r.1, some (.int r.2)) := by
  unfold g_X7_leanOf_47 at h
  refine ev_iadd dX7_leanOf_47 ?_
  obtain ⟨x1, ex1, h⟩ := am_lt h
  refine px_top ex1 ?_
  refine ev_istore_n (L' := [(2, .int x1), (0, .ref 110), (1, .int l1), (3, .int l3)]) dX7_leanOf_48 (by decide) rfl ?_
  obtain ⟨x2, ex2, h⟩ := am_lt h
  refine ev_iinc (v := x2) (L' := [(3, .int x2), (2, .int x1), (0, .ref 110), (1, .int l1)]) dX7_leanOf_49 3 rfl (by rw [kI_1, ex2]) (by decide) rfl ?_
  refine ev_goto 4 dX7_leanOf_52 (by decide) ?_
  refine ev_loc [2, 3, 1, 0] rfl ?_
  exact hK4 u l1 x1 x2 _ h

theorem l_X7_leanOf_4 {X : Nat × (Nat → Int32)}   : ∀ (n : Nat) (u : am_MU) (l1 : Int32) (l2 : Int32) (l3 : Int32) (r : am_MU × Int32), g_X7_leanOf_4  n u l1 l2 l3 = some r → am_Ev X M_X7_leanOf 4 [(0, .ref 110), (1, .int l1), (2, .int l2), (3, .int l3)] [] (hp u) (hp r.1, some (.int r.2)) := by
  intro n
  induction n with
  | zero => intro u l1 l2 l3 r h; cases h
  | succ n ih =>
    intro u l1 l2 l3 r h
    rw [g_X7_leanOf_4] at h
    refine ev_iload_n dX7_leanOf_4 3 rfl ?_
    refine ev_bipush (v := (24 : Int32)) dX7_leanOf_5 kB_24 ?_
    refine ev_icmp_ge 55 dX7_leanOf_7 (by decide) (fun c1 => ?_) (fun c1 => ?_)
    · have h := am_t c1 h
      refine ev_iload_n dX7_leanOf_55 2 rfl ?_
      obtain rfl := Option.some.inj h
      exact ev_iret dX7_leanOf_56 rfl rfl
    · have h := am_e c1 h
      refine ev_aload_n dX7_leanOf_10 0 rfl trivial ?_
      refine ev_iload_n dX7_leanOf_11 1 rfl ?_
      refine ev_iload_n dX7_leanOf_12 3 rfl ?_
      refine ev_iconst (v := (1 : Int32)) dX7_leanOf_13 kI_1 ?_
      refine ev_iadd dX7_leanOf_14 ?_
      obtain ⟨q2, eq2, h⟩ := am_bd h
      refine px_callvi [.int l1, .int (l3 + (1 : Int32))] (by decide) cl_7 (at7 rfl) dX7_leanOf_15 ok_X7_sandOf lk_RX7_102 in_X7_sandOf se_X7_sandOf (by decide) rfl (c_X7_sandOf eq2) rfl (Nat.le_of_ble_eq_true rfl) ?_
      refine ev_aload_n dX7_leanOf_18 0 rfl trivial ?_
      refine ev_iload_n dX7_leanOf_19 1 rfl ?_
      refine ev_iload_n dX7_leanOf_20 3 rfl ?_
      obtain ⟨q3, eq3, h⟩ := am_bd h
      refine px_callvi [.int l1, .int l3] (by decide) cl_7 (at7 rfl) dX7_leanOf_21 ok_X7_sandOf lk_RX7_102 in_X7_sandOf se_X7_sandOf (by decide) rfl (c_X7_sandOf eq3) rfl (Nat.le_of_ble_eq_true rfl) ?_
      refine ev_isub dX7_leanOf_24 ?_
      obtain ⟨x4, ex4, h⟩ := am_lt h
      refine px_top ex4 ?_
      refine ev_istore (L' := [(4, .int x4), (0, .ref 110), (1, .int l1), (2, .int l2), (3, .int l3)]) dX7_leanOf_25 (by decide) rfl ?_
      refine ev_iload_n dX7_leanOf_27 3 rfl ?_
      refine ev_iload dX7_leanOf_28 0 rfl ?_
      refine ev_if_le 37 dX7_leanOf_30 (by decide) (fun c5 => ?_) (fun c5 => ?_)
      · have h := am_t c5 h
        refine ev_iload dX7_leanOf_37 0 rfl ?_
        refine ev_if_ge 46 dX7_leanOf_39 (by decide) (fun c6 => ?_) (fun c6 => ?_)
        · have h := am_t c6 h
          refine ev_iconst (v := (0 : Int32)) dX7_leanOf_46 kI_0 ?_
          refine ev_loc [1, 2, 4] rfl ?_
          exact l_X7_leanOf_47 (g_X7_leanOf_4 n) (fun u l1 l2 l3 r h => ih u l1 l2 l3 r h) q3.1 l1 l3 l2 (0 : Int32) _ h
        · have h := am_e c6 h
          refine ev_iconst (v := ((-1) : Int32)) dX7_leanOf_42 kI_m1 ?_
          refine ev_goto 47 dX7_leanOf_43 (by decide) ?_
          refine ev_loc [1, 2, 4] rfl ?_
          exact l_X7_leanOf_47 (g_X7_leanOf_4 n) (fun u l1 l2 l3 r h => ih u l1 l2 l3 r h) q3.1 l1 l3 l2 ((-1) : Int32) _ h
      · have h := am_e c5 h
        refine ev_iconst (v := (1 : Int32)) dX7_leanOf_33 kI_1 ?_
        refine ev_goto 47 dX7_leanOf_34 (by decide) ?_
        refine ev_loc [1, 2, 4] rfl ?_
        exact l_X7_leanOf_47 (g_X7_leanOf_4 n) (fun u l1 l2 l3 r h => ih u l1 l2 l3 r h) q3.1 l1 l3 l2 (1 : Int32) _ h

theorem l_X7_leanOf_0 {X : Nat × (Nat → Int32)}   (u : am_MU) (l1 : Int32) (r : am_MU × Int32) (h : f_X7_leanOf  u l1 = some r) : am_Ev X M_X7_leanOf 0 [(0, .ref 110), (1, .int l1)] [] (hp u) (hp r.1, some (.int r.2)) := by
  unfold f_X7_leanOf at h
  refine ev_iconst (v := (0 : Int32)) dX7_leanOf_0 kI_0 ?_
  refine ev_istore_n (L' := [(2, .int (0 : Int32)), (0, .ref 110), (1, .int l1)]) dX7_leanOf_1 (by decide) rfl ?_
  refine ev_iconst (v := (0 : Int32)) dX7_leanOf_2 kI_0 ?_
  refine ev_istore_n (L' := [(3, .int (0 : Int32)), (2, .int (0 : Int32)), (0, .ref 110), (1, .int l1)]) dX7_leanOf_3 (by decide) rfl ?_
  refine ev_loc [2, 3, 1, 0] rfl ?_
  exact l_X7_leanOf_4   1700 u l1 (0 : Int32) (0 : Int32) _ h

theorem c_X7_leanOf {X : Nat × (Nat → Int32)} {u : am_MU} {l1 : Int32} {r : am_MU × Int32} (h : f_X7_leanOf u l1 = some r) : am_Cn X M_X7_leanOf [.ref 110, .int l1] (hp u) (hp r.1, some (.int r.2)) := by
  refine am_Cn.of ok_X7_leanOf (Nat.le_refl _) (Nat.le_refl _) (Nat.le_of_ble_eq_true rfl) ?_
  refine ev_loc [0, 1] rfl ?_
  exact l_X7_leanOf_0 u l1 r h

-- SandRipplesModel.worthOf(I)I
def f_X7_worthOf  (u : am_MU) (l1 : Int32) : Option (am_MU × Int32) :=
(f_X7_extremeOf u l1 (1 : Int32)).bind fun q1 =>
(f_X7_extremeOf q1.1 l1 (0 : Int32)).bind fun q2 =>
am_let (q1.2 - q2.2) fun x3 =>
(f_X7_kindOf q2.1 l1).bind fun q4 =>
if q4.2 = (1 : Int32) then ((f_X7_crestsOf q4.1 l1).bind fun q6 =>
some (q6.1, x3 + q6.2))
else if q4.2 = (2 : Int32) then ((f_X7_leanOf q4.1 l1).bind fun q8 =>
some (q8.1, q8.2))
else if q4.2 = (3 : Int32) then ((f_X7_crestsOf q4.1 l1).bind fun q10 =>
some (q10.1, (2 : Int32) * (x3 + q10.2)))
else if q4.2 = (4 : Int32) then ((f_X7_leanOf q4.1 l1).bind fun q12 =>
some (q12.1, q12.2 + (10 : Int32)))
else if q4.2 = (5 : Int32) then ((f_X7_sumOf q4.1 l1).bind fun q14 =>
some (q14.1, q14.2 / (24 : Int32)))
else (some (q4.1, x3))

theorem l_X7_worthOf_0 {X : Nat × (Nat → Int32)}   (u : am_MU) (l1 : Int32) (r : am_MU × Int32) (h : f_X7_worthOf  u l1 = some r) : am_Ev X M_X7_worthOf 0 [(0, .ref 110), (1, .int l1)] [] (hp u) (hp r.1, some (.int r.2)) := by
  unfold f_X7_worthOf at h
  refine ev_aload_n dX7_worthOf_0 0 rfl trivial ?_
  refine ev_iload_n dX7_worthOf_1 1 rfl ?_
  refine ev_iconst (v := (1 : Int32)) dX7_worthOf_2 kI_1 ?_
  obtain ⟨q1, eq1, h⟩ := am_bd h
  refine px_callvi [.int l1, .int (1 : Int32)] (by decide) cl_7 (at7 rfl) dX7_worthOf_3 ok_X7_extremeOf lk_RX7_115 in_X7_extremeOf se_X7_extremeOf (by decide) rfl (c_X7_extremeOf eq1) rfl (Nat.le_of_ble_eq_true rfl) ?_
  refine ev_aload_n dX7_worthOf_6 0 rfl trivial ?_
  refine ev_iload_n dX7_worthOf_7 1 rfl ?_
  refine ev_iconst (v := (0 : Int32)) dX7_worthOf_8 kI_0 ?_
  obtain ⟨q2, eq2, h⟩ := am_bd h
  refine px_callvi [.int l1, .int (0 : Int32)] (by decide) cl_7 (at7 rfl) dX7_worthOf_9 ok_X7_extremeOf lk_RX7_115 in_X7_extremeOf se_X7_extremeOf (by decide) rfl (c_X7_extremeOf eq2) rfl (Nat.le_of_ble_eq_true rfl) ?_
  refine ev_isub dX7_worthOf_12 ?_
  obtain ⟨x3, ex3, h⟩ := am_lt h
  refine px_top ex3 ?_
  refine ev_istore_n (L' := [(2, .int x3), (0, .ref 110), (1, .int l1)]) dX7_worthOf_13 (by decide) rfl ?_
  refine ev_aload_n dX7_worthOf_14 1 rfl trivial ?_
  refine ev_iload_n dX7_worthOf_15 2 rfl ?_
  obtain ⟨q4, eq4, h⟩ := am_bd h
  refine px_callvi [.int l1] (by decide) cl_7 (at7 rfl) dX7_worthOf_16 ok_X7_kindOf lk_RX7_92 in_X7_kindOf se_X7_kindOf (by decide) rfl (c_X7_kindOf eq4) rfl (Nat.le_of_ble_eq_true rfl) ?_
  refine am_cs h (fun c5 h => ?_) (fun c5 h => ?_)
  · refine ev_tableIn 52 (33) dX7_worthOf_19 (by rw [c5]; decide) (by rw [c5]; decide) (by rw [c5]; decide) (by decide) ?_
    refine ev_iload_n dX7_worthOf_52 0 rfl ?_
    refine ev_aload_n dX7_worthOf_53 1 rfl trivial ?_
    refine ev_iload_n dX7_worthOf_54 2 rfl ?_
    obtain ⟨q6, eq6, h⟩ := am_bd h
    refine px_callvi [.int l1] (by decide) cl_7 (at7 rfl) dX7_worthOf_55 ok_X7_crestsOf lk_RX7_119 in_X7_crestsOf se_X7_crestsOf (by decide) rfl (c_X7_crestsOf eq6) rfl (Nat.le_of_ble_eq_true rfl) ?_
    refine ev_iadd dX7_worthOf_58 ?_
    obtain rfl := Option.some.inj h
    exact ev_iret dX7_worthOf_59 rfl rfl
  refine am_cs h (fun c7 h => ?_) (fun c7 h => ?_)
  · refine ev_tableIn 60 (41) dX7_worthOf_19 (by rw [c7]; decide) (by rw [c7]; decide) (by rw [c7]; decide) (by decide) ?_
    refine ev_aload_n dX7_worthOf_60 1 rfl trivial ?_
    refine ev_iload_n dX7_worthOf_61 2 rfl ?_
    obtain ⟨q8, eq8, h⟩ := am_bd h
    refine px_callvi [.int l1] (by decide) cl_7 (at7 rfl) dX7_worthOf_62 ok_X7_leanOf lk_RX7_122 in_X7_leanOf se_X7_leanOf (by decide) rfl (c_X7_leanOf eq8) rfl (Nat.le_of_ble_eq_true rfl) ?_
    obtain rfl := Option.some.inj h
    exact ev_iret dX7_worthOf_65 rfl rfl
  refine am_cs h (fun c9 h => ?_) (fun c9 h => ?_)
  · refine ev_tableIn 66 (47) dX7_worthOf_19 (by rw [c9]; decide) (by rw [c9]; decide) (by rw [c9]; decide) (by decide) ?_
    refine ev_iconst (v := (2 : Int32)) dX7_worthOf_66 kI_2 ?_
    refine ev_iload_n dX7_worthOf_67 0 rfl ?_
    refine ev_aload_n dX7_worthOf_68 1 rfl trivial ?_
    refine ev_iload_n dX7_worthOf_69 2 rfl ?_
    obtain ⟨q10, eq10, h⟩ := am_bd h
    refine px_callvi [.int l1] (by decide) cl_7 (at7 rfl) dX7_worthOf_70 ok_X7_crestsOf lk_RX7_119 in_X7_crestsOf se_X7_crestsOf (by decide) rfl (c_X7_crestsOf eq10) rfl (Nat.le_of_ble_eq_true rfl) ?_
    refine ev_iadd dX7_worthOf_73 ?_
    refine ev_imul dX7_worthOf_74 ?_
    obtain rfl := Option.some.inj h
    exact ev_iret dX7_worthOf_75 rfl rfl
  refine am_cs h (fun c11 h => ?_) (fun c11 h => ?_)
  · refine ev_tableIn 76 (57) dX7_worthOf_19 (by rw [c11]; decide) (by rw [c11]; decide) (by rw [c11]; decide) (by decide) ?_
    refine ev_aload_n dX7_worthOf_76 1 rfl trivial ?_
    refine ev_iload_n dX7_worthOf_77 2 rfl ?_
    obtain ⟨q12, eq12, h⟩ := am_bd h
    refine px_callvi [.int l1] (by decide) cl_7 (at7 rfl) dX7_worthOf_78 ok_X7_leanOf lk_RX7_122 in_X7_leanOf se_X7_leanOf (by decide) rfl (c_X7_leanOf eq12) rfl (Nat.le_of_ble_eq_true rfl) ?_
    refine ev_bipush (v := (10 : Int32)) dX7_worthOf_81 kB_10 ?_
    refine ev_iadd dX7_worthOf_83 ?_
    obtain rfl := Option.some.inj h
    exact ev_iret dX7_worthOf_84 rfl rfl
  refine am_cs h (fun c13 h => ?_) (fun c13 h => ?_)
  · refine ev_tableIn 85 (66) dX7_worthOf_19 (by rw [c13]; decide) (by rw [c13]; decide) (by rw [c13]; decide) (by decide) ?_
    refine ev_aload_n dX7_worthOf_85 1 rfl trivial ?_
    refine ev_iload_n dX7_worthOf_86 2 rfl ?_
    obtain ⟨q14, eq14, h⟩ := am_bd h
    refine px_callvi [.int l1] (by decide) cl_7 (at7 rfl) dX7_worthOf_87 ok_X7_sumOf lk_RX7_125 in_X7_sumOf se_X7_sumOf (by decide) rfl (c_X7_sumOf eq14) rfl (Nat.le_of_ble_eq_true rfl) ?_
    refine ev_bipush (v := (24 : Int32)) dX7_worthOf_90 kB_24 ?_
    refine ev_idiv dX7_worthOf_92 (by decide) ?_
    obtain rfl := Option.some.inj h
    exact ev_iret dX7_worthOf_93 rfl rfl
  have nc5 := lv_neT (a := 1) c5 (by decide)
  have nc7 := lv_neT (a := 2) c7 (by decide)
  have nc9 := lv_neT (a := 3) c9 (by decide)
  have nc11 := lv_neT (a := 4) c11 (by decide)
  have nc13 := lv_neT (a := 5) c13 (by decide)
  refine ev_tableOut 94 dX7_worthOf_19 (by omega) (by decide) ?_
  refine ev_iload_n dX7_worthOf_94 0 rfl ?_
  obtain rfl := Option.some.inj h
  exact ev_iret dX7_worthOf_95 rfl rfl

theorem c_X7_worthOf {X : Nat × (Nat → Int32)} {u : am_MU} {l1 : Int32} {r : am_MU × Int32} (h : f_X7_worthOf u l1 = some r) : am_Cn X M_X7_worthOf [.ref 110, .int l1] (hp u) (hp r.1, some (.int r.2)) := by
  refine am_Cn.of ok_X7_worthOf (Nat.le_refl _) (Nat.le_refl _) (Nat.le_of_ble_eq_true rfl) ?_
  refine ev_loc [0, 1] rfl ?_
  exact l_X7_worthOf_0 u l1 r h

-- SandRipplesModel.within(III)I
def f_X7_within  (u : am_MU) (l0 : Int32) (l1 : Int32) (l2 : Int32) : Option (am_MU × Int32) :=
if l1 ≤ l0 then (if l0 ≤ l2 then (some (u, l0))
else (some (u, l2)))
else (some (u, l1))

theorem l_X7_within_0 {X : Nat × (Nat → Int32)}   (u : am_MU) (l0 : Int32) (l1 : Int32) (l2 : Int32) (r : am_MU × Int32) (h : f_X7_within  u l0 l1 l2 = some r) : am_Ev X M_X7_within 0 [(0, .int l0), (1, .int l1), (2, .int l2)] [] (hp u) (hp r.1, some (.int r.2)) := by
  unfold f_X7_within at h
  refine ev_iload_n dX7_within_0 0 rfl ?_
  refine ev_iload_n dX7_within_1 1 rfl ?_
  refine ev_icmp_ge 9 dX7_within_2 (by decide) (fun c1 => ?_) (fun c1 => ?_)
  · have h := am_t c1 h
    refine ev_iload_n dX7_within_9 0 rfl ?_
    refine ev_iload_n dX7_within_10 2 rfl ?_
    refine ev_icmp_le 18 dX7_within_11 (by decide) (fun c2 => ?_) (fun c2 => ?_)
    · have h := am_t c2 h
      refine ev_iload_n dX7_within_18 0 rfl ?_
      obtain rfl := Option.some.inj h
      exact ev_iret dX7_within_19 rfl rfl
    · have h := am_e c2 h
      refine ev_iload_n dX7_within_14 2 rfl ?_
      refine ev_goto 19 dX7_within_15 (by decide) ?_
      obtain rfl := Option.some.inj h
      exact ev_iret dX7_within_19 rfl rfl
  · have h := am_e c1 h
    refine ev_iload_n dX7_within_5 1 rfl ?_
    refine ev_goto 19 dX7_within_6 (by decide) ?_
    obtain rfl := Option.some.inj h
    exact ev_iret dX7_within_19 rfl rfl

theorem c_X7_within {X : Nat × (Nat → Int32)} {u : am_MU} {l0 : Int32} {l1 : Int32} {l2 : Int32} {r : am_MU × Int32} (h : f_X7_within u l0 l1 l2 = some r) : am_Cn X M_X7_within [.int l0, .int l1, .int l2] (hp u) (hp r.1, some (.int r.2)) := by
  refine am_Cn.of ok_X7_within (Nat.le_refl _) (Nat.le_refl _) (Nat.le_of_ble_eq_true rfl) ?_
  refine ev_loc [0, 1, 2] rfl ?_
  exact l_X7_within_0 u l0 l1 l2 r h

-- SandRipplesModel.reachOf(I)I
def f_X7_reachOf  (u : am_MU) (l1 : Int32) : Option (am_MU × Int32) :=
am_let (u 111 2) fun x1 =>
(f_X7_kindOf u l1).bind fun q2 =>
if q2.2 = (1 : Int32) then (some (q2.1, ((2 : Int32) * x1) / (3 : Int32)))
else if q2.2 = (2 : Int32) then (some (q2.1, x1 + (1 : Int32)))
else if q2.2 = (3 : Int32) then ((f_X7_within q2.1 ((((2 : Int32) * x1) / (3 : Int32)) - (1 : Int32)) (0 : Int32) (99 : Int32)).bind fun q6 =>
some (q6.1, q6.2))
else if q2.2 = (4 : Int32) then (some (q2.1, (x1 + (1 : Int32)) / (2 : Int32)))
else if q2.2 = (5 : Int32) then ((f_X7_tickOf q2.1 l1).bind fun q9 =>
if (q9.2 - q9.2 / (2 : Int32) * (2 : Int32)) = 0 then (some (q9.1, x1))
else (some (q9.1, q9.1 111 4)))
else (some (q2.1, x1))

theorem l_X7_reachOf_0 {X : Nat × (Nat → Int32)}   (u : am_MU) (l1 : Int32) (r : am_MU × Int32) (h : f_X7_reachOf  u l1 = some r) : am_Ev X M_X7_reachOf 0 [(0, .ref 110), (1, .int l1)] [] (hp u) (hp r.1, some (.int r.2)) := by
  unfold f_X7_reachOf at h
  refine ev_aload_n dX7_reachOf_0 0 rfl trivial ?_
  refine px_getR dX7_reachOf_1 gf_RX7_9 (at7 rfl) (by decide) rfl ?_
  refine ev_iconst (v := (2 : Int32)) dX7_reachOf_4 kI_2 ?_
  refine px_iald (n := 1535) 2 dX7_reachOf_5 rfl (by decide) (by decide) ?_
  obtain ⟨x1, ex1, h⟩ := am_lt h
  refine px_top ex1 ?_
  refine ev_istore_n (L' := [(2, .int x1), (0, .ref 110), (1, .int l1)]) dX7_reachOf_6 (by decide) rfl ?_
  refine ev_aload_n dX7_reachOf_7 1 rfl trivial ?_
  refine ev_iload_n dX7_reachOf_8 2 rfl ?_
  obtain ⟨q2, eq2, h⟩ := am_bd h
  refine px_callvi [.int l1] (by decide) cl_7 (at7 rfl) dX7_reachOf_9 ok_X7_kindOf lk_RX7_92 in_X7_kindOf se_X7_kindOf (by decide) rfl (c_X7_kindOf eq2) rfl (Nat.le_of_ble_eq_true rfl) ?_
  refine am_cs h (fun c3 h => ?_) (fun c3 h => ?_)
  · refine ev_tableIn 48 (36) dX7_reachOf_12 (by rw [c3]; decide) (by rw [c3]; decide) (by rw [c3]; decide) (by decide) ?_
    refine ev_iconst (v := (2 : Int32)) dX7_reachOf_48 kI_2 ?_
    refine ev_iload_n dX7_reachOf_49 0 rfl ?_
    refine ev_imul dX7_reachOf_50 ?_
    refine ev_iconst (v := (3 : Int32)) dX7_reachOf_51 kI_3 ?_
    refine ev_idiv dX7_reachOf_52 (by decide) ?_
    obtain rfl := Option.some.inj h
    exact ev_iret dX7_reachOf_53 rfl rfl
  refine am_cs h (fun c4 h => ?_) (fun c4 h => ?_)
  · refine ev_tableIn 54 (42) dX7_reachOf_12 (by rw [c4]; decide) (by rw [c4]; decide) (by rw [c4]; decide) (by decide) ?_
    refine ev_iload_n dX7_reachOf_54 0 rfl ?_
    refine ev_iconst (v := (1 : Int32)) dX7_reachOf_55 kI_1 ?_
    refine ev_iadd dX7_reachOf_56 ?_
    obtain rfl := Option.some.inj h
    exact ev_iret dX7_reachOf_57 rfl rfl
  refine am_cs h (fun c5 h => ?_) (fun c5 h => ?_)
  · refine ev_tableIn 58 (46) dX7_reachOf_12 (by rw [c5]; decide) (by rw [c5]; decide) (by rw [c5]; decide) (by decide) ?_
    refine ev_iconst (v := (2 : Int32)) dX7_reachOf_58 kI_2 ?_
    refine ev_iload_n dX7_reachOf_59 0 rfl ?_
    refine ev_imul dX7_reachOf_60 ?_
    refine ev_iconst (v := (3 : Int32)) dX7_reachOf_61 kI_3 ?_
    refine ev_idiv dX7_reachOf_62 (by decide) ?_
    refine ev_iconst (v := (1 : Int32)) dX7_reachOf_63 kI_1 ?_
    refine ev_isub dX7_reachOf_64 ?_
    refine ev_iconst (v := (0 : Int32)) dX7_reachOf_65 kI_0 ?_
    refine ev_bipush (v := (99 : Int32)) dX7_reachOf_66 kB_99 ?_
    obtain ⟨q6, eq6, h⟩ := am_bd h
    refine px_callsi [.int ((((2 : Int32) * x1) / (3 : Int32)) - (1 : Int32)), .int (0 : Int32), .int (99 : Int32)] dX7_reachOf_68 ok_X7_within lk_RX7_95 st_X7_within (by decide) rfl (c_X7_within eq6) rfl (Nat.le_of_ble_eq_true rfl) ?_
    obtain rfl := Option.some.inj h
    exact ev_iret dX7_reachOf_71 rfl rfl
  refine am_cs h (fun c7 h => ?_) (fun c7 h => ?_)
  · refine ev_tableIn 72 (60) dX7_reachOf_12 (by rw [c7]; decide) (by rw [c7]; decide) (by rw [c7]; decide) (by decide) ?_
    refine ev_iload_n dX7_reachOf_72 0 rfl ?_
    refine ev_iconst (v := (1 : Int32)) dX7_reachOf_73 kI_1 ?_
    refine ev_iadd dX7_reachOf_74 ?_
    refine ev_iconst (v := (2 : Int32)) dX7_reachOf_75 kI_2 ?_
    refine ev_idiv dX7_reachOf_76 (by decide) ?_
    obtain rfl := Option.some.inj h
    exact ev_iret dX7_reachOf_77 rfl rfl
  refine am_cs h (fun c8 h => ?_) (fun c8 h => ?_)
  · refine ev_tableIn 78 (66) dX7_reachOf_12 (by rw [c8]; decide) (by rw [c8]; decide) (by rw [c8]; decide) (by decide) ?_
    refine ev_aload_n dX7_reachOf_78 1 rfl trivial ?_
    refine ev_iload_n dX7_reachOf_79 2 rfl ?_
    obtain ⟨q9, eq9, h⟩ := am_bd h
    refine px_callvi [.int l1] (by decide) cl_7 (at7 rfl) dX7_reachOf_80 ok_X7_tickOf lk_RX7_99 in_X7_tickOf se_X7_tickOf (by decide) rfl (c_X7_tickOf eq9) rfl (Nat.le_of_ble_eq_true rfl) ?_
    refine ev_iconst (v := (2 : Int32)) dX7_reachOf_83 kI_2 ?_
    refine ev_irem dX7_reachOf_84 (by decide) ?_
    refine ev_if_ne 92 dX7_reachOf_85 (by decide) (fun c10 => ?_) (fun c10 => ?_)
    · have h := am_e c10 h
      refine ev_aload_n dX7_reachOf_92 1 rfl trivial ?_
      refine px_getR dX7_reachOf_93 gf_RX7_9 (at7 rfl) (by decide) rfl ?_
      refine ev_iconst (v := (4 : Int32)) dX7_reachOf_96 kI_4 ?_
      refine px_iald (n := 1535) 4 dX7_reachOf_97 rfl (by decide) (by decide) ?_
      obtain rfl := Option.some.inj h
      exact ev_iret dX7_reachOf_98 rfl rfl
    · have h := am_t c10 h
      refine ev_iload_n dX7_reachOf_88 0 rfl ?_
      refine ev_goto 98 dX7_reachOf_89 (by decide) ?_
      obtain rfl := Option.some.inj h
      exact ev_iret dX7_reachOf_98 rfl rfl
  have nc3 := lv_neT (a := 1) c3 (by decide)
  have nc4 := lv_neT (a := 2) c4 (by decide)
  have nc5 := lv_neT (a := 3) c5 (by decide)
  have nc7 := lv_neT (a := 4) c7 (by decide)
  have nc8 := lv_neT (a := 5) c8 (by decide)
  refine ev_tableOut 99 dX7_reachOf_12 (by omega) (by decide) ?_
  refine ev_iload_n dX7_reachOf_99 0 rfl ?_
  obtain rfl := Option.some.inj h
  exact ev_iret dX7_reachOf_100 rfl rfl

theorem c_X7_reachOf {X : Nat × (Nat → Int32)} {u : am_MU} {l1 : Int32} {r : am_MU × Int32} (h : f_X7_reachOf u l1 = some r) : am_Cn X M_X7_reachOf [.ref 110, .int l1] (hp u) (hp r.1, some (.int r.2)) := by
  refine am_Cn.of ok_X7_reachOf (Nat.le_refl _) (Nat.le_refl _) (Nat.le_of_ble_eq_true rfl) ?_
  refine ev_loc [0, 1] rfl ?_
  exact l_X7_reachOf_0 u l1 r h

-- SandRipplesModel.wayOf(I)I
def f_X7_wayOf  (u : am_MU) (l1 : Int32) : Option (am_MU × Int32) :=
(f_X7_kindOf u l1).bind fun q1 =>
if q1.2 = (2 : Int32) then (some (q1.1, (1 : Int32)))
else (if q1.2 = (4 : Int32) then (some (q1.1, (1 : Int32)))
else ((f_X7_tickOf q1.1 l1).bind fun q4 =>
if (q4.2 - q4.2 / (2 : Int32) * (2 : Int32)) = 0 then (some (q4.1, (1 : Int32)))
else (some (q4.1, ((-1) : Int32)))))

theorem l_X7_wayOf_0 {X : Nat × (Nat → Int32)}   (u : am_MU) (l1 : Int32) (r : am_MU × Int32) (h : f_X7_wayOf  u l1 = some r) : am_Ev X M_X7_wayOf 0 [(0, .ref 110), (1, .int l1)] [] (hp u) (hp r.1, some (.int r.2)) := by
  unfold f_X7_wayOf at h
  refine ev_aload_n dX7_wayOf_0 0 rfl trivial ?_
  refine ev_iload_n dX7_wayOf_1 1 rfl ?_
  obtain ⟨q1, eq1, h⟩ := am_bd h
  refine px_callvi [.int l1] (by decide) cl_7 (at7 rfl) dX7_wayOf_2 ok_X7_kindOf lk_RX7_92 in_X7_kindOf se_X7_kindOf (by decide) rfl (c_X7_kindOf eq1) rfl (Nat.le_of_ble_eq_true rfl) ?_
  refine ev_istore_n (L' := [(2, .int q1.2), (0, .ref 110), (1, .int l1)]) dX7_wayOf_5 (by decide) rfl ?_
  refine ev_iload_n dX7_wayOf_6 0 rfl ?_
  refine ev_iconst (v := (2 : Int32)) dX7_wayOf_7 kI_2 ?_
  refine ev_icmp_eq 26 dX7_wayOf_8 (by decide) (fun c2 => ?_) (fun c2 => ?_)
  · have h := am_t c2 h
    refine ev_iconst (v := (1 : Int32)) dX7_wayOf_26 kI_1 ?_
    refine ev_goto 31 dX7_wayOf_27 (by decide) ?_
    obtain rfl := Option.some.inj h
    exact ev_iret dX7_wayOf_31 rfl rfl
  · have h := am_e c2 h
    refine ev_iload_n dX7_wayOf_11 0 rfl ?_
    refine ev_iconst (v := (4 : Int32)) dX7_wayOf_12 kI_4 ?_
    refine ev_icmp_eq 26 dX7_wayOf_13 (by decide) (fun c3 => ?_) (fun c3 => ?_)
    · have h := am_t c3 h
      refine ev_iconst (v := (1 : Int32)) dX7_wayOf_26 kI_1 ?_
      refine ev_goto 31 dX7_wayOf_27 (by decide) ?_
      obtain rfl := Option.some.inj h
      exact ev_iret dX7_wayOf_31 rfl rfl
    · have h := am_e c3 h
      refine ev_aload_n dX7_wayOf_16 1 rfl trivial ?_
      refine ev_iload_n dX7_wayOf_17 2 rfl ?_
      obtain ⟨q4, eq4, h⟩ := am_bd h
      refine px_callvi [.int l1] (by decide) cl_7 (at7 rfl) dX7_wayOf_18 ok_X7_tickOf lk_RX7_99 in_X7_tickOf se_X7_tickOf (by decide) rfl (c_X7_tickOf eq4) rfl (Nat.le_of_ble_eq_true rfl) ?_
      refine ev_iconst (v := (2 : Int32)) dX7_wayOf_21 kI_2 ?_
      refine ev_irem dX7_wayOf_22 (by decide) ?_
      refine ev_if_ne 30 dX7_wayOf_23 (by decide) (fun c5 => ?_) (fun c5 => ?_)
      · have h := am_e c5 h
        refine ev_iconst (v := ((-1) : Int32)) dX7_wayOf_30 kI_m1 ?_
        obtain rfl := Option.some.inj h
        exact ev_iret dX7_wayOf_31 rfl rfl
      · have h := am_t c5 h
        refine ev_iconst (v := (1 : Int32)) dX7_wayOf_26 kI_1 ?_
        refine ev_goto 31 dX7_wayOf_27 (by decide) ?_
        obtain rfl := Option.some.inj h
        exact ev_iret dX7_wayOf_31 rfl rfl

theorem c_X7_wayOf {X : Nat × (Nat → Int32)} {u : am_MU} {l1 : Int32} {r : am_MU × Int32} (h : f_X7_wayOf u l1 = some r) : am_Cn X M_X7_wayOf [.ref 110, .int l1] (hp u) (hp r.1, some (.int r.2)) := by
  refine am_Cn.of ok_X7_wayOf (Nat.le_refl _) (Nat.le_refl _) (Nat.le_of_ble_eq_true rfl) ?_
  refine ev_loc [0, 1] rfl ?_
  exact l_X7_wayOf_0 u l1 r h

-- SandRipplesModel.counts(I)I
def g_X7_counts_10  : Nat → am_MU → Int32 → Int32 → Option (am_MU × Int32)
  | 0 => fun _ _ _ => none
  | n + 1 => fun u l1 l2 =>
if l2 < 0 then (some (u, ((-1) : Int32)))
else (if am_in ((163 : Int32) + ((2 : Int32) * l2)) 1535 then (
if ((u 111 (((163 : Int32) + ((2 : Int32) * l2)).toNatClampNeg)) / (1000 : Int32)) = l1 then (some (u, l2))
else (am_let (l2 + ((-1) : Int32)) fun x4 =>
g_X7_counts_10 n u l1 x4)) else none)

def f_X7_counts  (u : am_MU) (l1 : Int32) : Option (am_MU × Int32) :=
am_let ((u 111 6) - (1 : Int32)) fun x1 =>
g_X7_counts_10 1700 u l1 x1

theorem l_X7_counts_10 {X : Nat × (Nat → Int32)}   : ∀ (n : Nat) (u : am_MU) (l1 : Int32) (l2 : Int32) (r : am_MU × Int32), g_X7_counts_10  n u l1 l2 = some r → am_Ev X M_X7_counts 10 [(0, .ref 110), (1, .int l1), (2, .int l2)] [] (hp u) (hp r.1, some (.int r.2)) := by
  intro n
  induction n with
  | zero => intro u l1 l2 r h; cases h
  | succ n ih =>
    intro u l1 l2 r h
    rw [g_X7_counts_10] at h
    refine ev_iload_n dX7_counts_10 2 rfl ?_
    refine ev_if_lt 42 dX7_counts_11 (by decide) (fun c1 => ?_) (fun c1 => ?_)
    · have h := am_t c1 h
      refine ev_iconst (v := ((-1) : Int32)) dX7_counts_42 kI_m1 ?_
      obtain rfl := Option.some.inj h
      exact ev_iret dX7_counts_43 rfl rfl
    · have h := am_e c1 h
      refine ev_aload_n dX7_counts_14 0 rfl trivial ?_
      refine px_getR dX7_counts_15 gf_RX7_9 (at7 rfl) (by decide) rfl ?_
      refine ev_sipush (v := (163 : Int32)) dX7_counts_18 kS_163 ?_
      refine ev_iconst (v := (2 : Int32)) dX7_counts_21 kI_2 ?_
      refine ev_iload_n dX7_counts_22 2 rfl ?_
      refine ev_imul dX7_counts_23 ?_
      refine ev_iadd dX7_counts_24 ?_
      obtain ⟨g2, h⟩ := am_gd h
      refine px_iald (n := 1535) (((163 : Int32) + ((2 : Int32) * l2)).toNatClampNeg) dX7_counts_25 rfl g2 rfl ?_
      refine ev_sipush (v := (1000 : Int32)) dX7_counts_26 kS_1000 ?_
      refine ev_idiv dX7_counts_29 (by decide) ?_
      refine ev_iload_n dX7_counts_30 1 rfl ?_
      refine ev_icmp_ne 36 dX7_counts_31 (by decide) (fun c3 => ?_) (fun c3 => ?_)
      · have h := am_e c3 h
        obtain ⟨x4, ex4, h⟩ := am_lt h
        refine ev_iinc (v := x4) (L' := [(2, .int x4), (0, .ref 110), (1, .int l1)]) dX7_counts_36 2 rfl (by rw [kI_m1, ex4]) (by decide) rfl ?_
        refine ev_goto 10 dX7_counts_39 (by decide) ?_
        refine ev_loc [1, 2, 0] rfl ?_
        exact ih u l1 x4 _ h
      · have h := am_t c3 h
        refine ev_iload_n dX7_counts_34 2 rfl ?_
        obtain rfl := Option.some.inj h
        exact ev_iret dX7_counts_35 rfl rfl

theorem l_X7_counts_0 {X : Nat × (Nat → Int32)}   (u : am_MU) (l1 : Int32) (r : am_MU × Int32) (h : f_X7_counts  u l1 = some r) : am_Ev X M_X7_counts 0 [(0, .ref 110), (1, .int l1)] [] (hp u) (hp r.1, some (.int r.2)) := by
  unfold f_X7_counts at h
  refine ev_aload_n dX7_counts_0 0 rfl trivial ?_
  refine px_getR dX7_counts_1 gf_RX7_9 (at7 rfl) (by decide) rfl ?_
  refine ev_bipush (v := (6 : Int32)) dX7_counts_4 kB_6 ?_
  refine px_iald (n := 1535) 6 dX7_counts_6 rfl (by decide) (by decide) ?_
  refine ev_iconst (v := (1 : Int32)) dX7_counts_7 kI_1 ?_
  refine ev_isub dX7_counts_8 ?_
  obtain ⟨x1, ex1, h⟩ := am_lt h
  refine px_top ex1 ?_
  refine ev_istore_n (L' := [(2, .int x1), (0, .ref 110), (1, .int l1)]) dX7_counts_9 (by decide) rfl ?_
  refine ev_loc [1, 2, 0] rfl ?_
  exact l_X7_counts_10   1700 u l1 x1 _ h

theorem c_X7_counts {X : Nat × (Nat → Int32)} {u : am_MU} {l1 : Int32} {r : am_MU × Int32} (h : f_X7_counts u l1 = some r) : am_Cn X M_X7_counts [.ref 110, .int l1] (hp u) (hp r.1, some (.int r.2)) := by
  refine am_Cn.of ok_X7_counts (Nat.le_refl _) (Nat.le_refl _) (Nat.le_of_ble_eq_true rfl) ?_
  refine ev_loc [0, 1] rfl ?_
  exact l_X7_counts_0 u l1 r h

-- SandRipplesModel.two(III)I
def f_X7_two  (u : am_MU) (l0 : Int32) (l1 : Int32) (l2 : Int32) : Option (am_MU × Int32) :=
if l0 = ((-8) : Int32) then (some (u, l1 * l2))
else if l0 = ((-7) : Int32) then (some (u, l1 - l2))
else if l0 = ((-6) : Int32) then (some (u, l1 + l2))
else if l0 = ((-5) : Int32) then (if l1 ≤ l2 then (some (u, (0 : Int32)))
else (some (u, (1 : Int32))))
else if l0 = ((-4) : Int32) then (if l1 = l2 then (some (u, (1 : Int32)))
else (some (u, (0 : Int32))))
else if l0 = ((-3) : Int32) then (if l2 ≤ l1 then (some (u, (0 : Int32)))
else (some (u, (1 : Int32))))
else if l0 = ((-2) : Int32) then (if l1 = 0 then (some (u, (0 : Int32)))
else (if l2 = 0 then (some (u, (0 : Int32)))
else (some (u, (1 : Int32)))))
else if l0 = ((-1) : Int32) then (if l1 = 0 then (if l2 = 0 then (some (u, (0 : Int32)))
else (some (u, (1 : Int32))))
else (some (u, (1 : Int32))))
else (if l2 = 0 then (some (u, (0 : Int32)))
else (if ¬ l2 = 0 then (
some (u, l1 / l2)) else none))

theorem l_X7_two_0 {X : Nat × (Nat → Int32)}   (u : am_MU) (l0 : Int32) (l1 : Int32) (l2 : Int32) (r : am_MU × Int32) (h : f_X7_two  u l0 l1 l2 = some r) : am_Ev X M_X7_two 0 [(0, .int l0), (1, .int l1), (2, .int l2)] [] (hp u) (hp r.1, some (.int r.2)) := by
  unfold f_X7_two at h
  refine ev_iload_n dX7_two_0 0 rfl ?_
  refine am_cs h (fun c1 h => ?_) (fun c1 h => ?_)
  · refine ev_tableIn 117 (116) dX7_two_1 (by rw [c1]; decide) (by rw [c1]; decide) (by rw [c1]; decide) (by decide) ?_
    refine ev_iload_n dX7_two_117 1 rfl ?_
    refine ev_iload_n dX7_two_118 2 rfl ?_
    refine ev_imul dX7_two_119 ?_
    obtain rfl := Option.some.inj h
    exact ev_iret dX7_two_120 rfl rfl
  refine am_cs h (fun c2 h => ?_) (fun c2 h => ?_)
  · refine ev_tableIn 113 (112) dX7_two_1 (by rw [c2]; decide) (by rw [c2]; decide) (by rw [c2]; decide) (by decide) ?_
    refine ev_iload_n dX7_two_113 1 rfl ?_
    refine ev_iload_n dX7_two_114 2 rfl ?_
    refine ev_isub dX7_two_115 ?_
    obtain rfl := Option.some.inj h
    exact ev_iret dX7_two_116 rfl rfl
  refine am_cs h (fun c3 h => ?_) (fun c3 h => ?_)
  · refine ev_tableIn 109 (108) dX7_two_1 (by rw [c3]; decide) (by rw [c3]; decide) (by rw [c3]; decide) (by decide) ?_
    refine ev_iload_n dX7_two_109 1 rfl ?_
    refine ev_iload_n dX7_two_110 2 rfl ?_
    refine ev_iadd dX7_two_111 ?_
    obtain rfl := Option.some.inj h
    exact ev_iret dX7_two_112 rfl rfl
  refine am_cs h (fun c4 h => ?_) (fun c4 h => ?_)
  · refine ev_tableIn 98 (97) dX7_two_1 (by rw [c4]; decide) (by rw [c4]; decide) (by rw [c4]; decide) (by decide) ?_
    refine ev_iload_n dX7_two_98 1 rfl ?_
    refine ev_iload_n dX7_two_99 2 rfl ?_
    refine ev_icmp_le 107 dX7_two_100 (by decide) (fun c5 => ?_) (fun c5 => ?_)
    · have h := am_t c5 h
      refine ev_iconst (v := (0 : Int32)) dX7_two_107 kI_0 ?_
      obtain rfl := Option.some.inj h
      exact ev_iret dX7_two_108 rfl rfl
    · have h := am_e c5 h
      refine ev_iconst (v := (1 : Int32)) dX7_two_103 kI_1 ?_
      refine ev_goto 108 dX7_two_104 (by decide) ?_
      obtain rfl := Option.some.inj h
      exact ev_iret dX7_two_108 rfl rfl
  refine am_cs h (fun c6 h => ?_) (fun c6 h => ?_)
  · refine ev_tableIn 87 (86) dX7_two_1 (by rw [c6]; decide) (by rw [c6]; decide) (by rw [c6]; decide) (by decide) ?_
    refine ev_iload_n dX7_two_87 1 rfl ?_
    refine ev_iload_n dX7_two_88 2 rfl ?_
    refine ev_icmp_ne 96 dX7_two_89 (by decide) (fun c7 => ?_) (fun c7 => ?_)
    · have h := am_e c7 h
      refine ev_iconst (v := (0 : Int32)) dX7_two_96 kI_0 ?_
      obtain rfl := Option.some.inj h
      exact ev_iret dX7_two_97 rfl rfl
    · have h := am_t c7 h
      refine ev_iconst (v := (1 : Int32)) dX7_two_92 kI_1 ?_
      refine ev_goto 97 dX7_two_93 (by decide) ?_
      obtain rfl := Option.some.inj h
      exact ev_iret dX7_two_97 rfl rfl
  refine am_cs h (fun c8 h => ?_) (fun c8 h => ?_)
  · refine ev_tableIn 76 (75) dX7_two_1 (by rw [c8]; decide) (by rw [c8]; decide) (by rw [c8]; decide) (by decide) ?_
    refine ev_iload_n dX7_two_76 1 rfl ?_
    refine ev_iload_n dX7_two_77 2 rfl ?_
    refine ev_icmp_ge 85 dX7_two_78 (by decide) (fun c9 => ?_) (fun c9 => ?_)
    · have h := am_t c9 h
      refine ev_iconst (v := (0 : Int32)) dX7_two_85 kI_0 ?_
      obtain rfl := Option.some.inj h
      exact ev_iret dX7_two_86 rfl rfl
    · have h := am_e c9 h
      refine ev_iconst (v := (1 : Int32)) dX7_two_81 kI_1 ?_
      refine ev_goto 86 dX7_two_82 (by decide) ?_
      obtain rfl := Option.some.inj h
      exact ev_iret dX7_two_86 rfl rfl
  refine am_cs h (fun c10 h => ?_) (fun c10 h => ?_)
  · refine ev_tableIn 62 (61) dX7_two_1 (by rw [c10]; decide) (by rw [c10]; decide) (by rw [c10]; decide) (by decide) ?_
    refine ev_iload_n dX7_two_62 1 rfl ?_
    refine ev_if_eq 74 dX7_two_63 (by decide) (fun c11 => ?_) (fun c11 => ?_)
    · have h := am_t c11 h
      refine ev_iconst (v := (0 : Int32)) dX7_two_74 kI_0 ?_
      obtain rfl := Option.some.inj h
      exact ev_iret dX7_two_75 rfl rfl
    · have h := am_e c11 h
      refine ev_iload_n dX7_two_66 2 rfl ?_
      refine ev_if_eq 74 dX7_two_67 (by decide) (fun c12 => ?_) (fun c12 => ?_)
      · have h := am_t c12 h
        refine ev_iconst (v := (0 : Int32)) dX7_two_74 kI_0 ?_
        obtain rfl := Option.some.inj h
        exact ev_iret dX7_two_75 rfl rfl
      · have h := am_e c12 h
        refine ev_iconst (v := (1 : Int32)) dX7_two_70 kI_1 ?_
        refine ev_goto 75 dX7_two_71 (by decide) ?_
        obtain rfl := Option.some.inj h
        exact ev_iret dX7_two_75 rfl rfl
  refine am_cs h (fun c13 h => ?_) (fun c13 h => ?_)
  · refine ev_tableIn 48 (47) dX7_two_1 (by rw [c13]; decide) (by rw [c13]; decide) (by rw [c13]; decide) (by decide) ?_
    refine ev_iload_n dX7_two_48 1 rfl ?_
    refine ev_if_ne 56 dX7_two_49 (by decide) (fun c14 => ?_) (fun c14 => ?_)
    · have h := am_e c14 h
      refine ev_iconst (v := (1 : Int32)) dX7_two_56 kI_1 ?_
      refine ev_goto 61 dX7_two_57 (by decide) ?_
      obtain rfl := Option.some.inj h
      exact ev_iret dX7_two_61 rfl rfl
    · have h := am_t c14 h
      refine ev_iload_n dX7_two_52 2 rfl ?_
      refine ev_if_eq 60 dX7_two_53 (by decide) (fun c15 => ?_) (fun c15 => ?_)
      · have h := am_t c15 h
        refine ev_iconst (v := (0 : Int32)) dX7_two_60 kI_0 ?_
        obtain rfl := Option.some.inj h
        exact ev_iret dX7_two_61 rfl rfl
      · have h := am_e c15 h
        refine ev_iconst (v := (1 : Int32)) dX7_two_56 kI_1 ?_
        refine ev_goto 61 dX7_two_57 (by decide) ?_
        obtain rfl := Option.some.inj h
        exact ev_iret dX7_two_61 rfl rfl
  have nc1 := lv_neT (a := -8) c1 (by decide)
  have nc2 := lv_neT (a := -7) c2 (by decide)
  have nc3 := lv_neT (a := -6) c3 (by decide)
  have nc4 := lv_neT (a := -5) c4 (by decide)
  have nc6 := lv_neT (a := -4) c6 (by decide)
  have nc8 := lv_neT (a := -3) c8 (by decide)
  have nc10 := lv_neT (a := -2) c10 (by decide)
  have nc13 := lv_neT (a := -1) c13 (by decide)
  refine ev_tableOut 121 dX7_two_1 (by omega) (by decide) ?_
  refine ev_iload_n dX7_two_121 2 rfl ?_
  refine ev_if_ne 129 dX7_two_122 (by decide) (fun c16 => ?_) (fun c16 => ?_)
  · have h := am_e c16 h
    refine ev_iload_n dX7_two_129 1 rfl ?_
    refine ev_iload_n dX7_two_130 2 rfl ?_
    obtain ⟨g17, h⟩ := am_gd h
    refine ev_idiv dX7_two_131 g17 ?_
    obtain rfl := Option.some.inj h
    exact ev_iret dX7_two_132 rfl rfl
  · have h := am_t c16 h
    refine ev_iconst (v := (0 : Int32)) dX7_two_125 kI_0 ?_
    refine ev_goto 132 dX7_two_126 (by decide) ?_
    obtain rfl := Option.some.inj h
    exact ev_iret dX7_two_132 rfl rfl

theorem c_X7_two {X : Nat × (Nat → Int32)} {u : am_MU} {l0 : Int32} {l1 : Int32} {l2 : Int32} {r : am_MU × Int32} (h : f_X7_two u l0 l1 l2 = some r) : am_Cn X M_X7_two [.int l0, .int l1, .int l2] (hp u) (hp r.1, some (.int r.2)) := by
  refine am_Cn.of ok_X7_two (Nat.le_refl _) (Nat.le_refl _) (Nat.le_of_ble_eq_true rfl) ?_
  refine ev_loc [0, 1, 2] rfl ?_
  exact l_X7_two_0 u l0 l1 l2 r h

-- SandRipplesModel.worksOut(I)I
def g_X7_worksOut_151 (K22 : am_MU → Int32 → Int32 → Int32 → Int32 → Option (am_MU × Int32)) (u : am_MU) (l1 : Int32) (l2 : Int32) (l3 : Int32) (l4 : Int32) : Option (am_MU × Int32) :=
am_let (l4 + (1 : Int32)) fun x1 =>
K22 u l1 l2 l3 x1

def g_X7_worksOut_117 (K22 : am_MU → Int32 → Int32 → Int32 → Int32 → Option (am_MU × Int32)) (u : am_MU) (l1 : Int32) (l2 : Int32) (l3 : Int32) (l4 : Int32) (s1 : Int32) (s2 : Int32) : Option (am_MU × Int32) :=
if am_in s1 96 then (
am_let (am_u2 u 122 s1.toNatClampNeg s2) fun u2 =>
g_X7_worksOut_151 K22 u2 l1 l2 l3 l4) else none

def g_X7_worksOut_80 (K22 : am_MU → Int32 → Int32 → Int32 → Int32 → Option (am_MU × Int32)) (u : am_MU) (l1 : Int32) (l2 : Int32) (l3 : Int32) (l4 : Int32) (s1 : Int32) (s2 : Int32) : Option (am_MU × Int32) :=
if am_in s1 96 then (
am_let (am_u2 u 122 s1.toNatClampNeg s2) fun u2 =>
am_let (l2 + (1 : Int32)) fun x3 =>
g_X7_worksOut_151 K22 u2 l1 x3 l3 l4) else none

def g_X7_worksOut_22  : Nat → am_MU → Int32 → Int32 → Int32 → Int32 → Option (am_MU × Int32)
  | 0 => fun _ _ _ _ _ => none
  | n + 1 => fun u l1 l2 l3 l4 =>
if l3 ≤ l4 then (some (u, u 122 0))
else (if am_in (((191 : Int32) + ((96 : Int32) * l1)) + l4) 1535 then (
am_let (u 111 ((((191 : Int32) + ((96 : Int32) * l1)) + l4).toNatClampNeg)) fun x3 =>
if x3 < 0 then (if x3 = ((-10) : Int32) then (if am_in (l2 - (1 : Int32)) 96 then (
if (u 122 ((l2 - (1 : Int32)).toNatClampNeg)) = 0 then (g_X7_worksOut_117 (g_X7_worksOut_22 n) u l1 l2 l3 l4 (l2 - (1 : Int32)) (1 : Int32))
else (g_X7_worksOut_117 (g_X7_worksOut_22 n) u l1 l2 l3 l4 (l2 - (1 : Int32)) (0 : Int32))) else none)
else (am_let (l2 + ((-1) : Int32)) fun x6 =>
if am_in (x6 - (1 : Int32)) 96 then (
if am_in x6 96 then (
(f_X7_two u x3 (u 122 ((x6 - (1 : Int32)).toNatClampNeg)) (u 122 x6.toNatClampNeg)).bind fun q9 =>
am_let (am_u2 q9.1 122 ((x6 - (1 : Int32)).toNatClampNeg) q9.2) fun u10 =>
g_X7_worksOut_151 (g_X7_worksOut_22 n) u10 l1 x6 l3 l4) else none) else none))
else (if (10000 : Int32) ≤ x3 then (if am_in (x3 - (10000 : Int32)) 4 then (
g_X7_worksOut_80 (g_X7_worksOut_22 n) u l1 l2 l3 l4 l2 (u 123 ((x3 - (10000 : Int32)).toNatClampNeg))) else none)
else (g_X7_worksOut_80 (g_X7_worksOut_22 n) u l1 l2 l3 l4 l2 x3))) else none)

def f_X7_worksOut  (u : am_MU) (l1 : Int32) : Option (am_MU × Int32) :=
if am_in ((163 : Int32) + ((2 : Int32) * l1)) 1535 then (
am_let ((u 111 (((163 : Int32) + ((2 : Int32) * l1)).toNatClampNeg)) - (u 111 (((163 : Int32) + ((2 : Int32) * l1)).toNatClampNeg)) / (1000 : Int32) * (1000 : Int32)) fun x2 =>
g_X7_worksOut_22 1700 u l1 (0 : Int32) x2 (0 : Int32)) else none

theorem l_X7_worksOut_151 {X : Nat × (Nat → Int32)} (K22 : am_MU → Int32 → Int32 → Int32 → Int32 → Option (am_MU × Int32)) (hK22 : ∀ (u : am_MU) (l1 : Int32) (l2 : Int32) (l3 : Int32) (l4 : Int32) (r : am_MU × Int32), K22 u l1 l2 l3 l4 = some r → am_Ev X M_X7_worksOut 22 [(0, .ref 110), (1, .int l1), (2, .int l2), (3, .int l3), (4, .int l4)] [] (hp u) (hp r.1, some (.int r.2))) (u : am_MU) (l1 : Int32) (l2 : Int32) (l3 : Int32) (l4 : Int32) (r : am_MU × Int32) (h : g_X7_worksOut_151 K22 u l1 l2 l3 l4 = some r) : am_Ev X M_X7_worksOut 151 [(0, .ref 110), (1, .int l1), (2, .int l2), (3, .int l3), (4, .int l4)] [] (hp u) (hp r.1, some (.int r.2)) := by
  unfold g_X7_worksOut_151 at h
  obtain ⟨x1, ex1, h⟩ := am_lt h
  refine ev_iinc (v := x1) (L' := [(4, .int x1), (0, .ref 110), (1, .int l1), (2, .int l2), (3, .int l3)]) dX7_worksOut_151 4 rfl (by rw [kI_1, ex1]) (by decide) rfl ?_
  refine ev_goto 22 dX7_worksOut_154 (by decide) ?_
  refine ev_loc [1, 2, 3, 4, 0] rfl ?_
  exact hK22 u l1 l2 l3 x1 _ h

theorem l_X7_worksOut_117 {X : Nat × (Nat → Int32)} (K22 : am_MU → Int32 → Int32 → Int32 → Int32 → Option (am_MU × Int32)) (hK22 : ∀ (u : am_MU) (l1 : Int32) (l2 : Int32) (l3 : Int32) (l4 : Int32) (r : am_MU × Int32), K22 u l1 l2 l3 l4 = some r → am_Ev X M_X7_worksOut 22 [(0, .ref 110), (1, .int l1), (2, .int l2), (3, .int l3), (4, .int l4)] [] (hp u) (hp r.1, some (.int r.2))) (u : am_MU) (l1 : Int32) (l2 : Int32) (l3 : Int32) (l4 : Int32) (s1 : Int32) (s2 : Int32) (r : am_MU × Int32) (h : g_X7_worksOut_117 K22 u l1 l2 l3 l4 s1 s2 = some r) : am_Ev X M_X7_worksOut 117 [(0, .ref 110), (1, .int l1), (2, .int l2), (3, .int l3), (4, .int l4)] [.int s2, .int s1, .ref 122] (hp u) (hp r.1, some (.int r.2)) := by
  unfold g_X7_worksOut_117 at h
  obtain ⟨g1, h⟩ := am_gd h
  obtain ⟨u2, eu2, h⟩ := am_lt h
  refine px_iast (n := 96) s1.toNatClampNeg dX7_worksOut_117 rfl g1 rfl eu2 ?_
  refine ev_goto 151 dX7_worksOut_118 (by decide) ?_
  refine ev_loc [0, 1, 2, 3, 4] rfl ?_
  exact l_X7_worksOut_151 K22 hK22 u2 l1 l2 l3 l4 _ h

theorem l_X7_worksOut_80 {X : Nat × (Nat → Int32)} (K22 : am_MU → Int32 → Int32 → Int32 → Int32 → Option (am_MU × Int32)) (hK22 : ∀ (u : am_MU) (l1 : Int32) (l2 : Int32) (l3 : Int32) (l4 : Int32) (r : am_MU × Int32), K22 u l1 l2 l3 l4 = some r → am_Ev X M_X7_worksOut 22 [(0, .ref 110), (1, .int l1), (2, .int l2), (3, .int l3), (4, .int l4)] [] (hp u) (hp r.1, some (.int r.2))) (u : am_MU) (l1 : Int32) (l2 : Int32) (l3 : Int32) (l4 : Int32) (s1 : Int32) (s2 : Int32) (r : am_MU × Int32) (h : g_X7_worksOut_80 K22 u l1 l2 l3 l4 s1 s2 = some r) : am_Ev X M_X7_worksOut 80 [(0, .ref 110), (1, .int l1), (2, .int l2), (3, .int l3), (4, .int l4)] [.int s2, .int s1, .ref 122] (hp u) (hp r.1, some (.int r.2)) := by
  unfold g_X7_worksOut_80 at h
  obtain ⟨g1, h⟩ := am_gd h
  obtain ⟨u2, eu2, h⟩ := am_lt h
  refine px_iast (n := 96) s1.toNatClampNeg dX7_worksOut_80 rfl g1 rfl eu2 ?_
  obtain ⟨x3, ex3, h⟩ := am_lt h
  refine ev_iinc (v := x3) (L' := [(2, .int x3), (0, .ref 110), (1, .int l1), (3, .int l3), (4, .int l4)]) dX7_worksOut_81 2 rfl (by rw [kI_1, ex3]) (by decide) rfl ?_
  refine ev_goto 151 dX7_worksOut_84 (by decide) ?_
  refine ev_loc [1, 2, 0, 3, 4] rfl ?_
  exact l_X7_worksOut_151 K22 hK22 u2 l1 x3 l3 l4 _ h

theorem l_X7_worksOut_22 {X : Nat × (Nat → Int32)}   : ∀ (n : Nat) (u : am_MU) (l1 : Int32) (l2 : Int32) (l3 : Int32) (l4 : Int32) (r : am_MU × Int32), g_X7_worksOut_22  n u l1 l2 l3 l4 = some r → am_Ev X M_X7_worksOut 22 [(0, .ref 110), (1, .int l1), (2, .int l2), (3, .int l3), (4, .int l4)] [] (hp u) (hp r.1, some (.int r.2)) := by
  intro n
  induction n with
  | zero => intro u l1 l2 l3 l4 r h; cases h
  | succ n ih =>
    intro u l1 l2 l3 l4 r h
    rw [g_X7_worksOut_22] at h
    refine ev_iload dX7_worksOut_22 4 rfl ?_
    refine ev_iload_n dX7_worksOut_24 3 rfl ?_
    refine ev_icmp_ge 157 dX7_worksOut_25 (by decide) (fun c1 => ?_) (fun c1 => ?_)
    · have h := am_t c1 h
      refine ev_aload_n dX7_worksOut_157 0 rfl trivial ?_
      refine px_getR dX7_worksOut_158 gf_RX7_45 (at7 rfl) (by decide) rfl ?_
      refine ev_iconst (v := (0 : Int32)) dX7_worksOut_161 kI_0 ?_
      refine px_iald (n := 96) 0 dX7_worksOut_162 rfl (by decide) (by decide) ?_
      obtain rfl := Option.some.inj h
      exact ev_iret dX7_worksOut_163 rfl rfl
    · have h := am_e c1 h
      refine ev_aload_n dX7_worksOut_28 0 rfl trivial ?_
      refine px_getR dX7_worksOut_29 gf_RX7_9 (at7 rfl) (by decide) rfl ?_
      refine ev_sipush (v := (191 : Int32)) dX7_worksOut_32 kS_191 ?_
      refine ev_bipush (v := (96 : Int32)) dX7_worksOut_35 kB_96 ?_
      refine ev_iload_n dX7_worksOut_37 1 rfl ?_
      refine ev_imul dX7_worksOut_38 ?_
      refine ev_iadd dX7_worksOut_39 ?_
      refine ev_iload dX7_worksOut_40 4 rfl ?_
      refine ev_iadd dX7_worksOut_42 ?_
      obtain ⟨g2, h⟩ := am_gd h
      refine px_iald (n := 1535) ((((191 : Int32) + ((96 : Int32) * l1)) + l4).toNatClampNeg) dX7_worksOut_43 rfl g2 rfl ?_
      obtain ⟨x3, ex3, h⟩ := am_lt h
      refine px_top ex3 ?_
      refine ev_istore (L' := [(5, .int x3), (0, .ref 110), (1, .int l1), (2, .int l2), (3, .int l3), (4, .int l4)]) dX7_worksOut_44 (by decide) rfl ?_
      refine ev_iload dX7_worksOut_46 0 rfl ?_
      refine ev_if_lt 87 dX7_worksOut_48 (by decide) (fun c4 => ?_) (fun c4 => ?_)
      · have h := am_t c4 h
        refine ev_iload dX7_worksOut_87 0 rfl ?_
        refine ev_bipush (v := ((-10) : Int32)) dX7_worksOut_89 kB_m10 ?_
        refine ev_icmp_ne 121 dX7_worksOut_91 (by decide) (fun c5 => ?_) (fun c5 => ?_)
        · have h := am_e c5 h
          obtain ⟨x6, ex6, h⟩ := am_lt h
          refine ev_iinc (v := x6) (L' := [(2, .int x6), (5, .int x3), (0, .ref 110), (1, .int l1), (3, .int l3), (4, .int l4)]) dX7_worksOut_121 3 rfl (by rw [kI_m1, ex6]) (by decide) rfl ?_
          refine ev_aload_n dX7_worksOut_124 2 rfl trivial ?_
          refine px_getR dX7_worksOut_125 gf_RX7_45 (at7 rfl) (by decide) rfl ?_
          refine ev_iload_n dX7_worksOut_128 0 rfl ?_
          refine ev_iconst (v := (1 : Int32)) dX7_worksOut_129 kI_1 ?_
          refine ev_isub dX7_worksOut_130 ?_
          refine ev_iload dX7_worksOut_131 1 rfl ?_
          refine ev_aload_n dX7_worksOut_133 2 rfl trivial ?_
          refine px_getR dX7_worksOut_134 gf_RX7_45 (at7 rfl) (by decide) rfl ?_
          refine ev_iload_n dX7_worksOut_137 0 rfl ?_
          refine ev_iconst (v := (1 : Int32)) dX7_worksOut_138 kI_1 ?_
          refine ev_isub dX7_worksOut_139 ?_
          obtain ⟨g7, h⟩ := am_gd h
          refine px_iald (n := 96) ((x6 - (1 : Int32)).toNatClampNeg) dX7_worksOut_140 rfl g7 rfl ?_
          refine ev_aload_n dX7_worksOut_141 2 rfl trivial ?_
          refine px_getR dX7_worksOut_142 gf_RX7_45 (at7 rfl) (by decide) rfl ?_
          refine ev_iload_n dX7_worksOut_145 0 rfl ?_
          obtain ⟨g8, h⟩ := am_gd h
          refine px_iald (n := 96) x6.toNatClampNeg dX7_worksOut_146 rfl g8 rfl ?_
          obtain ⟨q9, eq9, h⟩ := am_bd h
          refine px_callsi [.int x3, .int (u 122 ((x6 - (1 : Int32)).toNatClampNeg)), .int (u 122 x6.toNatClampNeg)] dX7_worksOut_147 ok_X7_two lk_RX7_258 st_X7_two (by decide) rfl (c_X7_two eq9) rfl (Nat.le_of_ble_eq_true rfl) ?_
          obtain ⟨u10, eu10, h⟩ := am_lt h
          refine px_iast (n := 96) ((x6 - (1 : Int32)).toNatClampNeg) dX7_worksOut_150 rfl g7 rfl eu10 ?_
          refine ev_loc [2, 3, 0, 4, 5] rfl ?_
          exact l_X7_worksOut_151 (g_X7_worksOut_22 n) (fun u l1 l2 l3 l4 r h => ih u l1 l2 l3 l4 r h) u10 l1 x6 l3 l4 _ h
        · have h := am_t c5 h
          refine ev_aload_n dX7_worksOut_94 1 rfl trivial ?_
          refine px_getR dX7_worksOut_95 gf_RX7_45 (at7 rfl) (by decide) rfl ?_
          refine ev_iload_n dX7_worksOut_98 3 rfl ?_
          refine ev_iconst (v := (1 : Int32)) dX7_worksOut_99 kI_1 ?_
          refine ev_isub dX7_worksOut_100 ?_
          refine ev_aload_n dX7_worksOut_101 1 rfl trivial ?_
          refine px_getR dX7_worksOut_102 gf_RX7_45 (at7 rfl) (by decide) rfl ?_
          refine ev_iload_n dX7_worksOut_105 3 rfl ?_
          refine ev_iconst (v := (1 : Int32)) dX7_worksOut_106 kI_1 ?_
          refine ev_isub dX7_worksOut_107 ?_
          obtain ⟨g11, h⟩ := am_gd h
          refine px_iald (n := 96) ((l2 - (1 : Int32)).toNatClampNeg) dX7_worksOut_108 rfl g11 rfl ?_
          refine ev_if_ne 116 dX7_worksOut_109 (by decide) (fun c12 => ?_) (fun c12 => ?_)
          · have h := am_e c12 h
            refine ev_iconst (v := (0 : Int32)) dX7_worksOut_116 kI_0 ?_
            refine ev_loc [1, 2, 3, 4, 5] rfl ?_
            exact l_X7_worksOut_117 (g_X7_worksOut_22 n) (fun u l1 l2 l3 l4 r h => ih u l1 l2 l3 l4 r h) u l1 l2 l3 l4 (l2 - (1 : Int32)) (0 : Int32) _ h
          · have h := am_t c12 h
            refine ev_iconst (v := (1 : Int32)) dX7_worksOut_112 kI_1 ?_
            refine ev_goto 117 dX7_worksOut_113 (by decide) ?_
            refine ev_loc [1, 2, 3, 4, 5] rfl ?_
            exact l_X7_worksOut_117 (g_X7_worksOut_22 n) (fun u l1 l2 l3 l4 r h => ih u l1 l2 l3 l4 r h) u l1 l2 l3 l4 (l2 - (1 : Int32)) (1 : Int32) _ h
      · have h := am_e c4 h
        refine ev_aload_n dX7_worksOut_51 1 rfl trivial ?_
        refine px_getR dX7_worksOut_52 gf_RX7_45 (at7 rfl) (by decide) rfl ?_
        refine ev_iload_n dX7_worksOut_55 3 rfl ?_
        refine ev_iload dX7_worksOut_56 0 rfl ?_
        refine ev_sipush (v := (10000 : Int32)) dX7_worksOut_58 kS_10000 ?_
        refine ev_icmp_ge 69 dX7_worksOut_61 (by decide) (fun c13 => ?_) (fun c13 => ?_)
        · have h := am_t c13 h
          refine ev_aload_n dX7_worksOut_69 1 rfl trivial ?_
          refine px_getR dX7_worksOut_70 gf_RX7_48 (at7 rfl) (by decide) rfl ?_
          refine ev_iload dX7_worksOut_73 0 rfl ?_
          refine ev_sipush (v := (10000 : Int32)) dX7_worksOut_75 kS_10000 ?_
          refine ev_isub dX7_worksOut_78 ?_
          obtain ⟨g14, h⟩ := am_gd h
          refine px_iald (n := 4) ((x3 - (10000 : Int32)).toNatClampNeg) dX7_worksOut_79 rfl g14 rfl ?_
          refine ev_loc [1, 2, 3, 4, 5] rfl ?_
          exact l_X7_worksOut_80 (g_X7_worksOut_22 n) (fun u l1 l2 l3 l4 r h => ih u l1 l2 l3 l4 r h) u l1 l2 l3 l4 l2 (u 123 ((x3 - (10000 : Int32)).toNatClampNeg)) _ h
        · have h := am_e c13 h
          refine ev_iload dX7_worksOut_64 0 rfl ?_
          refine ev_goto 80 dX7_worksOut_66 (by decide) ?_
          refine ev_loc [1, 2, 3, 4, 5] rfl ?_
          exact l_X7_worksOut_80 (g_X7_worksOut_22 n) (fun u l1 l2 l3 l4 r h => ih u l1 l2 l3 l4 r h) u l1 l2 l3 l4 l2 x3 _ h

theorem l_X7_worksOut_0 {X : Nat × (Nat → Int32)}   (u : am_MU) (l1 : Int32) (r : am_MU × Int32) (h : f_X7_worksOut  u l1 = some r) : am_Ev X M_X7_worksOut 0 [(0, .ref 110), (1, .int l1)] [] (hp u) (hp r.1, some (.int r.2)) := by
  unfold f_X7_worksOut at h
  refine ev_iconst (v := (0 : Int32)) dX7_worksOut_0 kI_0 ?_
  refine ev_istore_n (L' := [(2, .int (0 : Int32)), (0, .ref 110), (1, .int l1)]) dX7_worksOut_1 (by decide) rfl ?_
  refine ev_aload_n dX7_worksOut_2 1 rfl trivial ?_
  refine px_getR dX7_worksOut_3 gf_RX7_9 (at7 rfl) (by decide) rfl ?_
  refine ev_sipush (v := (163 : Int32)) dX7_worksOut_6 kS_163 ?_
  refine ev_iconst (v := (2 : Int32)) dX7_worksOut_9 kI_2 ?_
  refine ev_iload_n dX7_worksOut_10 2 rfl ?_
  refine ev_imul dX7_worksOut_11 ?_
  refine ev_iadd dX7_worksOut_12 ?_
  obtain ⟨g1, h⟩ := am_gd h
  refine px_iald (n := 1535) (((163 : Int32) + ((2 : Int32) * l1)).toNatClampNeg) dX7_worksOut_13 rfl g1 rfl ?_
  refine ev_sipush (v := (1000 : Int32)) dX7_worksOut_14 kS_1000 ?_
  refine ev_irem dX7_worksOut_17 (by decide) ?_
  obtain ⟨x2, ex2, h⟩ := am_lt h
  refine px_top ex2 ?_
  refine ev_istore_n (L' := [(3, .int x2), (2, .int (0 : Int32)), (0, .ref 110), (1, .int l1)]) dX7_worksOut_18 (by decide) rfl ?_
  refine ev_iconst (v := (0 : Int32)) dX7_worksOut_19 kI_0 ?_
  refine ev_istore (L' := [(4, .int (0 : Int32)), (3, .int x2), (2, .int (0 : Int32)), (0, .ref 110), (1, .int l1)]) dX7_worksOut_20 (by decide) rfl ?_
  refine ev_loc [3, 4, 2, 1, 0] rfl ?_
  exact l_X7_worksOut_22   1700 u l1 (0 : Int32) x2 (0 : Int32) _ h

theorem c_X7_worksOut {X : Nat × (Nat → Int32)} {u : am_MU} {l1 : Int32} {r : am_MU × Int32} (h : f_X7_worksOut u l1 = some r) : am_Cn X M_X7_worksOut [.ref 110, .int l1] (hp u) (hp r.1, some (.int r.2)) := by
  refine am_Cn.of ok_X7_worksOut (Nat.le_refl _) (Nat.le_refl _) (Nat.le_of_ble_eq_true rfl) ?_
  refine ev_loc [0, 1] rfl ?_
  exact l_X7_worksOut_0 u l1 r h

-- SandRipplesModel.marksOf(I)I
def g_X7_marksOf_84 (K11 : am_MU → Int32 → Int32 → Int32 → Int32 → Option (am_MU × Int32)) (u : am_MU) (l1 : Int32) (l2 : Int32) (l3 : Int32) (l4 : Int32) : Option (am_MU × Int32) :=
am_let (l4 + (1 : Int32)) fun x1 =>
K11 u l1 l2 l3 x1

def g_X7_marksOf_82 (K11 : am_MU → Int32 → Int32 → Int32 → Int32 → Option (am_MU × Int32)) (u : am_MU) (l1 : Int32) (l2 : Int32) (l4 : Int32) (s0 : Int32) (s1 : Int32) : Option (am_MU × Int32) :=
am_let (s0 + s1) fun x1 =>
g_X7_marksOf_84 K11 u l1 l2 x1 l4

def g_X7_marksOf_11  : Nat → am_MU → Int32 → Int32 → Int32 → Int32 → Option (am_MU × Int32)
  | 0 => fun _ _ _ _ _ => none
  | n + 1 => fun u l1 l2 l3 l4 =>
if (24 : Int32) ≤ l4 then (some (u, l3))
else ((f_X7_isCrest u l1 l4).bind fun q2 =>
if q2.2 = 0 then (g_X7_marksOf_84 (g_X7_marksOf_11 n) q2.1 l1 l2 l3 l4)
else (am_let (am_u2 q2.1 123 0 l4) fun u4 =>
(f_X7_sandOf u4 l1 l4).bind fun q5 =>
am_let (am_u2 q5.1 123 1 q5.2) fun u6 =>
if 0 ≤ l2 then ((f_X7_worksOut u6 l2).bind fun q8 =>
(f_X7_within q8.1 q8.2 ((-99) : Int32) (99 : Int32)).bind fun q9 =>
g_X7_marksOf_82 (g_X7_marksOf_11 n) q9.1 l1 l2 l4 l3 q9.2)
else ((f_X7_sandOf u6 l1 l4).bind fun q10 =>
(f_X7_within q10.1 q10.2 (0 : Int32) (99 : Int32)).bind fun q11 =>
g_X7_marksOf_82 (g_X7_marksOf_11 n) q11.1 l1 l2 l4 l3 q11.2)))

def f_X7_marksOf  (u : am_MU) (l1 : Int32) : Option (am_MU × Int32) :=
(f_X7_counts u (2 : Int32)).bind fun q1 =>
g_X7_marksOf_11 1700 q1.1 l1 q1.2 (0 : Int32) (0 : Int32)

theorem l_X7_marksOf_84 {X : Nat × (Nat → Int32)} (K11 : am_MU → Int32 → Int32 → Int32 → Int32 → Option (am_MU × Int32)) (hK11 : ∀ (u : am_MU) (l1 : Int32) (l2 : Int32) (l3 : Int32) (l4 : Int32) (r : am_MU × Int32), K11 u l1 l2 l3 l4 = some r → am_Ev X M_X7_marksOf 11 [(0, .ref 110), (1, .int l1), (2, .int l2), (3, .int l3), (4, .int l4)] [] (hp u) (hp r.1, some (.int r.2))) (u : am_MU) (l1 : Int32) (l2 : Int32) (l3 : Int32) (l4 : Int32) (r : am_MU × Int32) (h : g_X7_marksOf_84 K11 u l1 l2 l3 l4 = some r) : am_Ev X M_X7_marksOf 84 [(0, .ref 110), (1, .int l1), (2, .int l2), (3, .int l3), (4, .int l4)] [] (hp u) (hp r.1, some (.int r.2)) := by
  unfold g_X7_marksOf_84 at h
  obtain ⟨x1, ex1, h⟩ := am_lt h
  refine ev_iinc (v := x1) (L' := [(4, .int x1), (0, .ref 110), (1, .int l1), (2, .int l2), (3, .int l3)]) dX7_marksOf_84 4 rfl (by rw [kI_1, ex1]) (by decide) rfl ?_
  refine ev_goto 11 dX7_marksOf_87 (by decide) ?_
  refine ev_loc [1, 2, 3, 4, 0] rfl ?_
  exact hK11 u l1 l2 l3 x1 _ h

theorem l_X7_marksOf_82 {X : Nat × (Nat → Int32)} (K11 : am_MU → Int32 → Int32 → Int32 → Int32 → Option (am_MU × Int32)) (hK11 : ∀ (u : am_MU) (l1 : Int32) (l2 : Int32) (l3 : Int32) (l4 : Int32) (r : am_MU × Int32), K11 u l1 l2 l3 l4 = some r → am_Ev X M_X7_marksOf 11 [(0, .ref 110), (1, .int l1), (2, .int l2), (3, .int l3), (4, .int l4)] [] (hp u) (hp r.1, some (.int r.2))) (u : am_MU) (l1 : Int32) (l2 : Int32) (l4 : Int32) (s0 : Int32) (s1 : Int32) (r : am_MU × Int32) (h : g_X7_marksOf_82 K11 u l1 l2 l4 s0 s1 = some r) : am_Ev X M_X7_marksOf 82 [(0, .ref 110), (1, .int l1), (2, .int l2), (4, .int l4)] [.int s1, .int s0] (hp u) (hp r.1, some (.int r.2)) := by
  unfold g_X7_marksOf_82 at h
  refine ev_iadd dX7_marksOf_82 ?_
  obtain ⟨x1, ex1, h⟩ := am_lt h
  refine px_top ex1 ?_
  refine ev_istore_n (L' := [(3, .int x1), (0, .ref 110), (1, .int l1), (2, .int l2), (4, .int l4)]) dX7_marksOf_83 (by decide) rfl ?_
  refine ev_loc [1, 2, 3, 0, 4] rfl ?_
  exact l_X7_marksOf_84 K11 hK11 u l1 l2 x1 l4 _ h

theorem l_X7_marksOf_11 {X : Nat × (Nat → Int32)}   : ∀ (n : Nat) (u : am_MU) (l1 : Int32) (l2 : Int32) (l3 : Int32) (l4 : Int32) (r : am_MU × Int32), g_X7_marksOf_11  n u l1 l2 l3 l4 = some r → am_Ev X M_X7_marksOf 11 [(0, .ref 110), (1, .int l1), (2, .int l2), (3, .int l3), (4, .int l4)] [] (hp u) (hp r.1, some (.int r.2)) := by
  intro n
  induction n with
  | zero => intro u l1 l2 l3 l4 r h; cases h
  | succ n ih =>
    intro u l1 l2 l3 l4 r h
    rw [g_X7_marksOf_11] at h
    refine ev_iload dX7_marksOf_11 4 rfl ?_
    refine ev_bipush (v := (24 : Int32)) dX7_marksOf_13 kB_24 ?_
    refine ev_icmp_ge 90 dX7_marksOf_15 (by decide) (fun c1 => ?_) (fun c1 => ?_)
    · have h := am_t c1 h
      refine ev_iload_n dX7_marksOf_90 3 rfl ?_
      obtain rfl := Option.some.inj h
      exact ev_iret dX7_marksOf_91 rfl rfl
    · have h := am_e c1 h
      refine ev_aload_n dX7_marksOf_18 0 rfl trivial ?_
      refine ev_iload_n dX7_marksOf_19 1 rfl ?_
      refine ev_iload dX7_marksOf_20 4 rfl ?_
      obtain ⟨q2, eq2, h⟩ := am_bd h
      refine px_callvi [.int l1, .int l4] (by decide) cl_7 (at7 rfl) dX7_marksOf_22 ok_X7_isCrest lk_RX7_111 in_X7_isCrest se_X7_isCrest (by decide) rfl (c_X7_isCrest eq2) rfl (Nat.le_of_ble_eq_true rfl) ?_
      refine ev_if_eq 84 dX7_marksOf_25 (by decide) (fun c3 => ?_) (fun c3 => ?_)
      · have h := am_t c3 h
        refine ev_loc [0, 1, 2, 3, 4] rfl ?_
        exact l_X7_marksOf_84 (g_X7_marksOf_11 n) (fun u l1 l2 l3 l4 r h => ih u l1 l2 l3 l4 r h) q2.1 l1 l2 l3 l4 _ h
      · have h := am_e c3 h
        refine ev_aload_n dX7_marksOf_28 0 rfl trivial ?_
        refine px_getR dX7_marksOf_29 gf_RX7_48 (at7 rfl) (by decide) rfl ?_
        refine ev_iconst (v := (0 : Int32)) dX7_marksOf_32 kI_0 ?_
        refine ev_iload dX7_marksOf_33 4 rfl ?_
        obtain ⟨u4, eu4, h⟩ := am_lt h
        refine px_iast (n := 4) 0 dX7_marksOf_35 rfl (by decide) (by decide) eu4 ?_
        refine ev_aload_n dX7_marksOf_36 0 rfl trivial ?_
        refine px_getR dX7_marksOf_37 gf_RX7_48 (at7 rfl) (by decide) rfl ?_
        refine ev_iconst (v := (1 : Int32)) dX7_marksOf_40 kI_1 ?_
        refine ev_aload_n dX7_marksOf_41 0 rfl trivial ?_
        refine ev_iload_n dX7_marksOf_42 1 rfl ?_
        refine ev_iload dX7_marksOf_43 4 rfl ?_
        obtain ⟨q5, eq5, h⟩ := am_bd h
        refine px_callvi [.int l1, .int l4] (by decide) cl_7 (at7 rfl) dX7_marksOf_45 ok_X7_sandOf lk_RX7_102 in_X7_sandOf se_X7_sandOf (by decide) rfl (c_X7_sandOf eq5) rfl (Nat.le_of_ble_eq_true rfl) ?_
        obtain ⟨u6, eu6, h⟩ := am_lt h
        refine px_iast (n := 4) 1 dX7_marksOf_48 rfl (by decide) (by decide) eu6 ?_
        refine ev_iload_n dX7_marksOf_49 3 rfl ?_
        refine ev_iload_n dX7_marksOf_50 2 rfl ?_
        refine ev_if_ge 70 dX7_marksOf_51 (by decide) (fun c7 => ?_) (fun c7 => ?_)
        · have h := am_t c7 h
          refine ev_aload_n dX7_marksOf_70 0 rfl trivial ?_
          refine ev_iload_n dX7_marksOf_71 2 rfl ?_
          obtain ⟨q8, eq8, h⟩ := am_bd h
          refine px_callvi [.int l2] (by decide) cl_7 (at7 rfl) dX7_marksOf_72 ok_X7_worksOut lk_RX7_108 in_X7_worksOut se_X7_worksOut (by decide) rfl (c_X7_worksOut eq8) rfl (Nat.le_of_ble_eq_true rfl) ?_
          refine ev_bipush (v := ((-99) : Int32)) dX7_marksOf_75 kB_m99 ?_
          refine ev_bipush (v := (99 : Int32)) dX7_marksOf_77 kB_99 ?_
          obtain ⟨q9, eq9, h⟩ := am_bd h
          refine px_callsi [.int q8.2, .int ((-99) : Int32), .int (99 : Int32)] dX7_marksOf_79 ok_X7_within lk_RX7_95 st_X7_within (by decide) rfl (c_X7_within eq9) rfl (Nat.le_of_ble_eq_true rfl) ?_
          refine ev_loc [0, 1, 2, 4] rfl ?_
          exact l_X7_marksOf_82 (g_X7_marksOf_11 n) (fun u l1 l2 l3 l4 r h => ih u l1 l2 l3 l4 r h) q9.1 l1 l2 l4 l3 q9.2 _ h
        · have h := am_e c7 h
          refine ev_aload_n dX7_marksOf_54 0 rfl trivial ?_
          refine ev_iload_n dX7_marksOf_55 1 rfl ?_
          refine ev_iload dX7_marksOf_56 4 rfl ?_
          obtain ⟨q10, eq10, h⟩ := am_bd h
          refine px_callvi [.int l1, .int l4] (by decide) cl_7 (at7 rfl) dX7_marksOf_58 ok_X7_sandOf lk_RX7_102 in_X7_sandOf se_X7_sandOf (by decide) rfl (c_X7_sandOf eq10) rfl (Nat.le_of_ble_eq_true rfl) ?_
          refine ev_iconst (v := (0 : Int32)) dX7_marksOf_61 kI_0 ?_
          refine ev_bipush (v := (99 : Int32)) dX7_marksOf_62 kB_99 ?_
          obtain ⟨q11, eq11, h⟩ := am_bd h
          refine px_callsi [.int q10.2, .int (0 : Int32), .int (99 : Int32)] dX7_marksOf_64 ok_X7_within lk_RX7_95 st_X7_within (by decide) rfl (c_X7_within eq11) rfl (Nat.le_of_ble_eq_true rfl) ?_
          refine ev_goto 82 dX7_marksOf_67 (by decide) ?_
          refine ev_loc [0, 1, 2, 4] rfl ?_
          exact l_X7_marksOf_82 (g_X7_marksOf_11 n) (fun u l1 l2 l3 l4 r h => ih u l1 l2 l3 l4 r h) q11.1 l1 l2 l4 l3 q11.2 _ h

theorem l_X7_marksOf_0 {X : Nat × (Nat → Int32)}   (u : am_MU) (l1 : Int32) (r : am_MU × Int32) (h : f_X7_marksOf  u l1 = some r) : am_Ev X M_X7_marksOf 0 [(0, .ref 110), (1, .int l1)] [] (hp u) (hp r.1, some (.int r.2)) := by
  unfold f_X7_marksOf at h
  refine ev_aload_n dX7_marksOf_0 0 rfl trivial ?_
  refine ev_iconst (v := (2 : Int32)) dX7_marksOf_1 kI_2 ?_
  obtain ⟨q1, eq1, h⟩ := am_bd h
  refine px_callvi [.int (2 : Int32)] (by decide) cl_7 (at7 rfl) dX7_marksOf_2 ok_X7_counts lk_RX7_105 in_X7_counts se_X7_counts (by decide) rfl (c_X7_counts eq1) rfl (Nat.le_of_ble_eq_true rfl) ?_
  refine ev_istore_n (L' := [(2, .int q1.2), (0, .ref 110), (1, .int l1)]) dX7_marksOf_5 (by decide) rfl ?_
  refine ev_iconst (v := (0 : Int32)) dX7_marksOf_6 kI_0 ?_
  refine ev_istore_n (L' := [(3, .int (0 : Int32)), (2, .int q1.2), (0, .ref 110), (1, .int l1)]) dX7_marksOf_7 (by decide) rfl ?_
  refine ev_iconst (v := (0 : Int32)) dX7_marksOf_8 kI_0 ?_
  refine ev_istore (L' := [(4, .int (0 : Int32)), (3, .int (0 : Int32)), (2, .int q1.2), (0, .ref 110), (1, .int l1)]) dX7_marksOf_9 (by decide) rfl ?_
  refine ev_loc [3, 4, 2, 1, 0] rfl ?_
  exact l_X7_marksOf_11   1700 q1.1 l1 q1.2 (0 : Int32) (0 : Int32) _ h

theorem c_X7_marksOf {X : Nat × (Nat → Int32)} {u : am_MU} {l1 : Int32} {r : am_MU × Int32} (h : f_X7_marksOf u l1 = some r) : am_Cn X M_X7_marksOf [.ref 110, .int l1] (hp u) (hp r.1, some (.int r.2)) := by
  refine am_Cn.of ok_X7_marksOf (Nat.le_refl _) (Nat.le_refl _) (Nat.le_of_ble_eq_true rfl) ?_
  refine ev_loc [0, 1] rfl ?_
  exact l_X7_marksOf_0 u l1 r h

-- SandRipplesModel.told(II)I
def f_X7_told  (u : am_MU) (l1 : Int32) (l2 : Int32) : Option (am_MU × Int32) :=
(f_X7_isFloor u l1).bind fun q1 =>
if q1.2 = 0 then (some (q1.1, ((-1000000001) : Int32)))
else (if l2 = (0 : Int32) then ((f_X7_kindOf q1.1 l1).bind fun q4 =>
some (q4.1, q4.2))
else if l2 = (1 : Int32) then ((f_X7_tickOf q1.1 l1).bind fun q6 =>
some (q6.1, q6.2))
else if l2 = (2 : Int32) then ((f_X7_sumOf q1.1 l1).bind fun q8 =>
some (q8.1, q8.2))
else if l2 = (3 : Int32) then ((f_X7_extremeOf q1.1 l1 (1 : Int32)).bind fun q10 =>
some (q10.1, q10.2))
else if l2 = (4 : Int32) then ((f_X7_extremeOf q1.1 l1 (0 : Int32)).bind fun q12 =>
some (q12.1, q12.2))
else if l2 = (5 : Int32) then ((f_X7_crestsOf q1.1 l1).bind fun q14 =>
some (q14.1, q14.2))
else if l2 = (6 : Int32) then ((f_X7_leanOf q1.1 l1).bind fun q16 =>
some (q16.1, q16.2))
else if l2 = (7 : Int32) then ((f_X7_worthOf q1.1 l1).bind fun q18 =>
some (q18.1, q18.2))
else if l2 = (8 : Int32) then ((f_X7_reachOf q1.1 l1).bind fun q20 =>
some (q20.1, q20.2))
else if l2 = (9 : Int32) then ((f_X7_wayOf q1.1 l1).bind fun q22 =>
some (q22.1, q22.2))
else if l2 = (10 : Int32) then ((f_X7_marksOf q1.1 l1).bind fun q24 =>
some (q24.1, q24.2))
else (some (q1.1, ((-1000000001) : Int32))))

theorem l_X7_told_0 {X : Nat × (Nat → Int32)}   (u : am_MU) (l1 : Int32) (l2 : Int32) (r : am_MU × Int32) (h : f_X7_told  u l1 l2 = some r) : am_Ev X M_X7_told 0 [(0, .ref 110), (1, .int l1), (2, .int l2)] [] (hp u) (hp r.1, some (.int r.2)) := by
  unfold f_X7_told at h
  refine ev_aload_n dX7_told_0 0 rfl trivial ?_
  refine ev_iload_n dX7_told_1 1 rfl ?_
  obtain ⟨q1, eq1, h⟩ := am_bd h
  refine px_callvi [.int l1] (by decide) cl_7 (at7 rfl) dX7_told_2 ok_X7_isFloor lk_RX7_128 in_X7_isFloor se_X7_isFloor (by decide) rfl (c_X7_isFloor eq1) rfl (Nat.le_of_ble_eq_true rfl) ?_
  refine ev_if_ne 11 dX7_told_5 (by decide) (fun c2 => ?_) (fun c2 => ?_)
  · have h := am_e c2 h
    refine ev_iload_n dX7_told_11 2 rfl ?_
    refine am_cs h (fun c3 h => ?_) (fun c3 h => ?_)
    · refine ev_tableIn 72 (60) dX7_told_12 (by rw [c3]; decide) (by rw [c3]; decide) (by rw [c3]; decide) (by decide) ?_
      refine ev_aload_n dX7_told_72 0 rfl trivial ?_
      refine ev_iload_n dX7_told_73 1 rfl ?_
      obtain ⟨q4, eq4, h⟩ := am_bd h
      refine px_callvi [.int l1] (by decide) cl_7 (at7 rfl) dX7_told_74 ok_X7_kindOf lk_RX7_92 in_X7_kindOf se_X7_kindOf (by decide) rfl (c_X7_kindOf eq4) rfl (Nat.le_of_ble_eq_true rfl) ?_
      obtain rfl := Option.some.inj h
      exact ev_iret dX7_told_77 rfl rfl
    refine am_cs h (fun c5 h => ?_) (fun c5 h => ?_)
    · refine ev_tableIn 78 (66) dX7_told_12 (by rw [c5]; decide) (by rw [c5]; decide) (by rw [c5]; decide) (by decide) ?_
      refine ev_aload_n dX7_told_78 0 rfl trivial ?_
      refine ev_iload_n dX7_told_79 1 rfl ?_
      obtain ⟨q6, eq6, h⟩ := am_bd h
      refine px_callvi [.int l1] (by decide) cl_7 (at7 rfl) dX7_told_80 ok_X7_tickOf lk_RX7_99 in_X7_tickOf se_X7_tickOf (by decide) rfl (c_X7_tickOf eq6) rfl (Nat.le_of_ble_eq_true rfl) ?_
      obtain rfl := Option.some.inj h
      exact ev_iret dX7_told_83 rfl rfl
    refine am_cs h (fun c7 h => ?_) (fun c7 h => ?_)
    · refine ev_tableIn 84 (72) dX7_told_12 (by rw [c7]; decide) (by rw [c7]; decide) (by rw [c7]; decide) (by decide) ?_
      refine ev_aload_n dX7_told_84 0 rfl trivial ?_
      refine ev_iload_n dX7_told_85 1 rfl ?_
      obtain ⟨q8, eq8, h⟩ := am_bd h
      refine px_callvi [.int l1] (by decide) cl_7 (at7 rfl) dX7_told_86 ok_X7_sumOf lk_RX7_125 in_X7_sumOf se_X7_sumOf (by decide) rfl (c_X7_sumOf eq8) rfl (Nat.le_of_ble_eq_true rfl) ?_
      obtain rfl := Option.some.inj h
      exact ev_iret dX7_told_89 rfl rfl
    refine am_cs h (fun c9 h => ?_) (fun c9 h => ?_)
    · refine ev_tableIn 90 (78) dX7_told_12 (by rw [c9]; decide) (by rw [c9]; decide) (by rw [c9]; decide) (by decide) ?_
      refine ev_aload_n dX7_told_90 0 rfl trivial ?_
      refine ev_iload_n dX7_told_91 1 rfl ?_
      refine ev_iconst (v := (1 : Int32)) dX7_told_92 kI_1 ?_
      obtain ⟨q10, eq10, h⟩ := am_bd h
      refine px_callvi [.int l1, .int (1 : Int32)] (by decide) cl_7 (at7 rfl) dX7_told_93 ok_X7_extremeOf lk_RX7_115 in_X7_extremeOf se_X7_extremeOf (by decide) rfl (c_X7_extremeOf eq10) rfl (Nat.le_of_ble_eq_true rfl) ?_
      obtain rfl := Option.some.inj h
      exact ev_iret dX7_told_96 rfl rfl
    refine am_cs h (fun c11 h => ?_) (fun c11 h => ?_)
    · refine ev_tableIn 97 (85) dX7_told_12 (by rw [c11]; decide) (by rw [c11]; decide) (by rw [c11]; decide) (by decide) ?_
      refine ev_aload_n dX7_told_97 0 rfl trivial ?_
      refine ev_iload_n dX7_told_98 1 rfl ?_
      refine ev_iconst (v := (0 : Int32)) dX7_told_99 kI_0 ?_
      obtain ⟨q12, eq12, h⟩ := am_bd h
      refine px_callvi [.int l1, .int (0 : Int32)] (by decide) cl_7 (at7 rfl) dX7_told_100 ok_X7_extremeOf lk_RX7_115 in_X7_extremeOf se_X7_extremeOf (by decide) rfl (c_X7_extremeOf eq12) rfl (Nat.le_of_ble_eq_true rfl) ?_
      obtain rfl := Option.some.inj h
      exact ev_iret dX7_told_103 rfl rfl
    refine am_cs h (fun c13 h => ?_) (fun c13 h => ?_)
    · refine ev_tableIn 104 (92) dX7_told_12 (by rw [c13]; decide) (by rw [c13]; decide) (by rw [c13]; decide) (by decide) ?_
      refine ev_aload_n dX7_told_104 0 rfl trivial ?_
      refine ev_iload_n dX7_told_105 1 rfl ?_
      obtain ⟨q14, eq14, h⟩ := am_bd h
      refine px_callvi [.int l1] (by decide) cl_7 (at7 rfl) dX7_told_106 ok_X7_crestsOf lk_RX7_119 in_X7_crestsOf se_X7_crestsOf (by decide) rfl (c_X7_crestsOf eq14) rfl (Nat.le_of_ble_eq_true rfl) ?_
      obtain rfl := Option.some.inj h
      exact ev_iret dX7_told_109 rfl rfl
    refine am_cs h (fun c15 h => ?_) (fun c15 h => ?_)
    · refine ev_tableIn 110 (98) dX7_told_12 (by rw [c15]; decide) (by rw [c15]; decide) (by rw [c15]; decide) (by decide) ?_
      refine ev_aload_n dX7_told_110 0 rfl trivial ?_
      refine ev_iload_n dX7_told_111 1 rfl ?_
      obtain ⟨q16, eq16, h⟩ := am_bd h
      refine px_callvi [.int l1] (by decide) cl_7 (at7 rfl) dX7_told_112 ok_X7_leanOf lk_RX7_122 in_X7_leanOf se_X7_leanOf (by decide) rfl (c_X7_leanOf eq16) rfl (Nat.le_of_ble_eq_true rfl) ?_
      obtain rfl := Option.some.inj h
      exact ev_iret dX7_told_115 rfl rfl
    refine am_cs h (fun c17 h => ?_) (fun c17 h => ?_)
    · refine ev_tableIn 116 (104) dX7_told_12 (by rw [c17]; decide) (by rw [c17]; decide) (by rw [c17]; decide) (by decide) ?_
      refine ev_aload_n dX7_told_116 0 rfl trivial ?_
      refine ev_iload_n dX7_told_117 1 rfl ?_
      obtain ⟨q18, eq18, h⟩ := am_bd h
      refine px_callvi [.int l1] (by decide) cl_7 (at7 rfl) dX7_told_118 ok_X7_worthOf lk_RX7_132 in_X7_worthOf se_X7_worthOf (by decide) rfl (c_X7_worthOf eq18) rfl (Nat.le_of_ble_eq_true rfl) ?_
      obtain rfl := Option.some.inj h
      exact ev_iret dX7_told_121 rfl rfl
    refine am_cs h (fun c19 h => ?_) (fun c19 h => ?_)
    · refine ev_tableIn 122 (110) dX7_told_12 (by rw [c19]; decide) (by rw [c19]; decide) (by rw [c19]; decide) (by decide) ?_
      refine ev_aload_n dX7_told_122 0 rfl trivial ?_
      refine ev_iload_n dX7_told_123 1 rfl ?_
      obtain ⟨q20, eq20, h⟩ := am_bd h
      refine px_callvi [.int l1] (by decide) cl_7 (at7 rfl) dX7_told_124 ok_X7_reachOf lk_RX7_135 in_X7_reachOf se_X7_reachOf (by decide) rfl (c_X7_reachOf eq20) rfl (Nat.le_of_ble_eq_true rfl) ?_
      obtain rfl := Option.some.inj h
      exact ev_iret dX7_told_127 rfl rfl
    refine am_cs h (fun c21 h => ?_) (fun c21 h => ?_)
    · refine ev_tableIn 128 (116) dX7_told_12 (by rw [c21]; decide) (by rw [c21]; decide) (by rw [c21]; decide) (by decide) ?_
      refine ev_aload_n dX7_told_128 0 rfl trivial ?_
      refine ev_iload_n dX7_told_129 1 rfl ?_
      obtain ⟨q22, eq22, h⟩ := am_bd h
      refine px_callvi [.int l1] (by decide) cl_7 (at7 rfl) dX7_told_130 ok_X7_wayOf lk_RX7_138 in_X7_wayOf se_X7_wayOf (by decide) rfl (c_X7_wayOf eq22) rfl (Nat.le_of_ble_eq_true rfl) ?_
      obtain rfl := Option.some.inj h
      exact ev_iret dX7_told_133 rfl rfl
    refine am_cs h (fun c23 h => ?_) (fun c23 h => ?_)
    · refine ev_tableIn 134 (122) dX7_told_12 (by rw [c23]; decide) (by rw [c23]; decide) (by rw [c23]; decide) (by decide) ?_
      refine ev_aload_n dX7_told_134 0 rfl trivial ?_
      refine ev_iload_n dX7_told_135 1 rfl ?_
      obtain ⟨q24, eq24, h⟩ := am_bd h
      refine px_callvi [.int l1] (by decide) cl_7 (at7 rfl) dX7_told_136 ok_X7_marksOf lk_RX7_141 in_X7_marksOf se_X7_marksOf (by decide) rfl (c_X7_marksOf eq24) rfl (Nat.le_of_ble_eq_true rfl) ?_
      obtain rfl := Option.some.inj h
      exact ev_iret dX7_told_139 rfl rfl
    have nc3 := lv_neT (a := 0) c3 (by decide)
    have nc5 := lv_neT (a := 1) c5 (by decide)
    have nc7 := lv_neT (a := 2) c7 (by decide)
    have nc9 := lv_neT (a := 3) c9 (by decide)
    have nc11 := lv_neT (a := 4) c11 (by decide)
    have nc13 := lv_neT (a := 5) c13 (by decide)
    have nc15 := lv_neT (a := 6) c15 (by decide)
    have nc17 := lv_neT (a := 7) c17 (by decide)
    have nc19 := lv_neT (a := 8) c19 (by decide)
    have nc21 := lv_neT (a := 9) c21 (by decide)
    have nc23 := lv_neT (a := 10) c23 (by decide)
    refine ev_tableOut 140 dX7_told_12 (by omega) (by decide) ?_
    refine ev_ldc (v := ((-1000000001) : Int32)) dX7_told_140 tw_933 ?_
    obtain rfl := Option.some.inj h
    exact ev_iret dX7_told_142 rfl rfl
  · have h := am_t c2 h
    refine ev_ldc (v := ((-1000000001) : Int32)) dX7_told_8 tw_933 ?_
    obtain rfl := Option.some.inj h
    exact ev_iret dX7_told_10 rfl rfl

theorem c_X7_told {X : Nat × (Nat → Int32)} {u : am_MU} {l1 : Int32} {l2 : Int32} {r : am_MU × Int32} (h : f_X7_told u l1 l2 = some r) : am_Cn X M_X7_told [.ref 110, .int l1, .int l2] (hp u) (hp r.1, some (.int r.2)) := by
  refine am_Cn.of ok_X7_told (Nat.le_refl _) (Nat.le_refl _) (Nat.le_of_ble_eq_true rfl) ?_
  refine ev_loc [0, 1, 2] rfl ?_
  exact l_X7_told_0 u l1 l2 r h

-- SandRipplesModel.isUnder(II)Z
def g_X7_isUnder_19  (u : am_MU) (l0 : Int32) (l1 : Int32) : Option (am_MU × Int32) :=
if l1 = (2 : Int32) then (if l0 = (4 : Int32) then (some (u, (1 : Int32)))
else (some (u, (0 : Int32))))
else (some (u, (0 : Int32)))

def f_X7_isUnder  (u : am_MU) (l0 : Int32) (l1 : Int32) : Option (am_MU × Int32) :=
if l1 = 0 then (some (u, (1 : Int32)))
else (if l0 = l1 then (some (u, (1 : Int32)))
else (if l1 = (1 : Int32) then (if l0 = (3 : Int32) then (some (u, (1 : Int32)))
else (g_X7_isUnder_19 u l0 l1))
else (g_X7_isUnder_19 u l0 l1)))

theorem l_X7_isUnder_19 {X : Nat × (Nat → Int32)}   (u : am_MU) (l0 : Int32) (l1 : Int32) (r : am_MU × Int32) (h : g_X7_isUnder_19  u l0 l1 = some r) : am_Ev X M_X7_isUnder 19 [(0, .int l0), (1, .int l1)] [] (hp u) (hp r.1, some (.int r.2)) := by
  unfold g_X7_isUnder_19 at h
  refine ev_iload_n dX7_isUnder_19 1 rfl ?_
  refine ev_iconst (v := (2 : Int32)) dX7_isUnder_20 kI_2 ?_
  refine ev_icmp_ne 33 dX7_isUnder_21 (by decide) (fun c1 => ?_) (fun c1 => ?_)
  · have h := am_e c1 h
    refine ev_iconst (v := (0 : Int32)) dX7_isUnder_33 kI_0 ?_
    obtain rfl := Option.some.inj h
    exact ev_iret dX7_isUnder_34 rfl (am_zn (Or.inl rfl))
  · have h := am_t c1 h
    refine ev_iload_n dX7_isUnder_24 0 rfl ?_
    refine ev_iconst (v := (4 : Int32)) dX7_isUnder_25 kI_4 ?_
    refine ev_icmp_ne 33 dX7_isUnder_26 (by decide) (fun c2 => ?_) (fun c2 => ?_)
    · have h := am_e c2 h
      refine ev_iconst (v := (0 : Int32)) dX7_isUnder_33 kI_0 ?_
      obtain rfl := Option.some.inj h
      exact ev_iret dX7_isUnder_34 rfl (am_zn (Or.inl rfl))
    · have h := am_t c2 h
      refine ev_iconst (v := (1 : Int32)) dX7_isUnder_29 kI_1 ?_
      refine ev_goto 34 dX7_isUnder_30 (by decide) ?_
      obtain rfl := Option.some.inj h
      exact ev_iret dX7_isUnder_34 rfl (am_zn (Or.inr rfl))

theorem l_X7_isUnder_0 {X : Nat × (Nat → Int32)}   (u : am_MU) (l0 : Int32) (l1 : Int32) (r : am_MU × Int32) (h : f_X7_isUnder  u l0 l1 = some r) : am_Ev X M_X7_isUnder 0 [(0, .int l0), (1, .int l1)] [] (hp u) (hp r.1, some (.int r.2)) := by
  unfold f_X7_isUnder at h
  refine ev_iload_n dX7_isUnder_0 1 rfl ?_
  refine ev_if_eq 29 dX7_isUnder_1 (by decide) (fun c1 => ?_) (fun c1 => ?_)
  · have h := am_t c1 h
    refine ev_iconst (v := (1 : Int32)) dX7_isUnder_29 kI_1 ?_
    refine ev_goto 34 dX7_isUnder_30 (by decide) ?_
    obtain rfl := Option.some.inj h
    exact ev_iret dX7_isUnder_34 rfl (am_zn (Or.inr rfl))
  · have h := am_e c1 h
    refine ev_iload_n dX7_isUnder_4 0 rfl ?_
    refine ev_iload_n dX7_isUnder_5 1 rfl ?_
    refine ev_icmp_eq 29 dX7_isUnder_6 (by decide) (fun c2 => ?_) (fun c2 => ?_)
    · have h := am_t c2 h
      refine ev_iconst (v := (1 : Int32)) dX7_isUnder_29 kI_1 ?_
      refine ev_goto 34 dX7_isUnder_30 (by decide) ?_
      obtain rfl := Option.some.inj h
      exact ev_iret dX7_isUnder_34 rfl (am_zn (Or.inr rfl))
    · have h := am_e c2 h
      refine ev_iload_n dX7_isUnder_9 1 rfl ?_
      refine ev_iconst (v := (1 : Int32)) dX7_isUnder_10 kI_1 ?_
      refine ev_icmp_ne 19 dX7_isUnder_11 (by decide) (fun c3 => ?_) (fun c3 => ?_)
      · have h := am_e c3 h
        refine ev_loc [0, 1] rfl ?_
        exact l_X7_isUnder_19   u l0 l1 _ h
      · have h := am_t c3 h
        refine ev_iload_n dX7_isUnder_14 0 rfl ?_
        refine ev_iconst (v := (3 : Int32)) dX7_isUnder_15 kI_3 ?_
        refine ev_icmp_eq 29 dX7_isUnder_16 (by decide) (fun c4 => ?_) (fun c4 => ?_)
        · have h := am_t c4 h
          refine ev_iconst (v := (1 : Int32)) dX7_isUnder_29 kI_1 ?_
          refine ev_goto 34 dX7_isUnder_30 (by decide) ?_
          obtain rfl := Option.some.inj h
          exact ev_iret dX7_isUnder_34 rfl (am_zn (Or.inr rfl))
        · have h := am_e c4 h
          refine ev_loc [0, 1] rfl ?_
          exact l_X7_isUnder_19   u l0 l1 _ h

theorem c_X7_isUnder {X : Nat × (Nat → Int32)} {u : am_MU} {l0 : Int32} {l1 : Int32} {r : am_MU × Int32} (h : f_X7_isUnder u l0 l1 = some r) : am_Cn X M_X7_isUnder [.int l0, .int l1] (hp u) (hp r.1, some (.int r.2)) := by
  refine am_Cn.of ok_X7_isUnder (Nat.le_refl _) (Nat.le_refl _) (Nat.le_of_ble_eq_true rfl) ?_
  refine ev_loc [0, 1] rfl ?_
  exact l_X7_isUnder_0 u l0 l1 r h

-- SandRipplesModel.as(II)I
def f_X7_as  (u : am_MU) (l1 : Int32) (l2 : Int32) : Option (am_MU × Int32) :=
(f_X7_isFloor u l1).bind fun q1 =>
if q1.2 = 0 then (some (q1.1, ((-1000000001) : Int32)))
else ((f_X7_in q1.1 l2 (0 : Int32) (5 : Int32)).bind fun q3 =>
if q3.2 = 0 then (some (q3.1, ((-1000000001) : Int32)))
else ((f_X7_kindOf q3.1 l1).bind fun q5 =>
(f_X7_isUnder q5.1 q5.2 l2).bind fun q6 =>
if q6.2 = 0 then (some (q6.1, ((-1000000012) : Int32)))
else ((f_X7_tickOf q6.1 l1).bind fun q8 =>
some (q8.1, q8.2))))

theorem l_X7_as_0 {X : Nat × (Nat → Int32)}   (u : am_MU) (l1 : Int32) (l2 : Int32) (r : am_MU × Int32) (h : f_X7_as  u l1 l2 = some r) : am_Ev X M_X7_as 0 [(0, .ref 110), (1, .int l1), (2, .int l2)] [] (hp u) (hp r.1, some (.int r.2)) := by
  unfold f_X7_as at h
  refine ev_aload_n dX7_as_0 0 rfl trivial ?_
  refine ev_iload_n dX7_as_1 1 rfl ?_
  obtain ⟨q1, eq1, h⟩ := am_bd h
  refine px_callvi [.int l1] (by decide) cl_7 (at7 rfl) dX7_as_2 ok_X7_isFloor lk_RX7_128 in_X7_isFloor se_X7_isFloor (by decide) rfl (c_X7_isFloor eq1) rfl (Nat.le_of_ble_eq_true rfl) ?_
  refine ev_if_eq 17 dX7_as_5 (by decide) (fun c2 => ?_) (fun c2 => ?_)
  · have h := am_t c2 h
    refine ev_ldc (v := ((-1000000001) : Int32)) dX7_as_17 tw_933 ?_
    obtain rfl := Option.some.inj h
    exact ev_iret dX7_as_19 rfl rfl
  · have h := am_e c2 h
    refine ev_iload_n dX7_as_8 2 rfl ?_
    refine ev_iconst (v := (0 : Int32)) dX7_as_9 kI_0 ?_
    refine ev_iconst (v := (5 : Int32)) dX7_as_10 kI_5 ?_
    obtain ⟨q3, eq3, h⟩ := am_bd h
    refine px_callsi [.int l2, .int (0 : Int32), .int (5 : Int32)] dX7_as_11 ok_X7_in lk_RX7_78 st_X7_in (by decide) rfl (c_X7_in eq3) rfl (Nat.le_of_ble_eq_true rfl) ?_
    refine ev_if_ne 20 dX7_as_14 (by decide) (fun c4 => ?_) (fun c4 => ?_)
    · have h := am_e c4 h
      refine ev_aload_n dX7_as_20 0 rfl trivial ?_
      refine ev_iload_n dX7_as_21 1 rfl ?_
      obtain ⟨q5, eq5, h⟩ := am_bd h
      refine px_callvi [.int l1] (by decide) cl_7 (at7 rfl) dX7_as_22 ok_X7_kindOf lk_RX7_92 in_X7_kindOf se_X7_kindOf (by decide) rfl (c_X7_kindOf eq5) rfl (Nat.le_of_ble_eq_true rfl) ?_
      refine ev_iload_n dX7_as_25 2 rfl ?_
      obtain ⟨q6, eq6, h⟩ := am_bd h
      refine px_callsi [.int q5.2, .int l2] dX7_as_26 ok_X7_isUnder lk_RX7_144 st_X7_isUnder (by decide) rfl (c_X7_isUnder eq6) rfl (Nat.le_of_ble_eq_true rfl) ?_
      refine ev_if_eq 40 dX7_as_29 (by decide) (fun c7 => ?_) (fun c7 => ?_)
      · have h := am_t c7 h
        refine ev_ldc (v := ((-1000000012) : Int32)) dX7_as_40 tw_1018 ?_
        obtain rfl := Option.some.inj h
        exact ev_iret dX7_as_42 rfl rfl
      · have h := am_e c7 h
        refine ev_aload_n dX7_as_32 0 rfl trivial ?_
        refine ev_iload_n dX7_as_33 1 rfl ?_
        obtain ⟨q8, eq8, h⟩ := am_bd h
        refine px_callvi [.int l1] (by decide) cl_7 (at7 rfl) dX7_as_34 ok_X7_tickOf lk_RX7_99 in_X7_tickOf se_X7_tickOf (by decide) rfl (c_X7_tickOf eq8) rfl (Nat.le_of_ble_eq_true rfl) ?_
        refine ev_goto 42 dX7_as_37 (by decide) ?_
        obtain rfl := Option.some.inj h
        exact ev_iret dX7_as_42 rfl rfl
    · have h := am_t c4 h
      refine ev_ldc (v := ((-1000000001) : Int32)) dX7_as_17 tw_933 ?_
      obtain rfl := Option.some.inj h
      exact ev_iret dX7_as_19 rfl rfl

theorem c_X7_as {X : Nat × (Nat → Int32)} {u : am_MU} {l1 : Int32} {l2 : Int32} {r : am_MU × Int32} (h : f_X7_as u l1 l2 = some r) : am_Cn X M_X7_as [.ref 110, .int l1, .int l2] (hp u) (hp r.1, some (.int r.2)) := by
  refine am_Cn.of ok_X7_as (Nat.le_refl _) (Nat.le_refl _) (Nat.le_of_ble_eq_true rfl) ?_
  refine ev_loc [0, 1, 2] rfl ?_
  exact l_X7_as_0 u l1 l2 r h

-- SandRipplesModel.becomes(II)I
def f_X7_becomes  (u : am_MU) (l1 : Int32) (l2 : Int32) : Option (am_MU × Int32) :=
if am_in l1 1535 then (
am_let (u 111 l1.toNatClampNeg) fun x2 =>
am_let (am_u2 u 111 l1.toNatClampNeg l2) fun u3 =>
some (u3, x2)) else none

theorem l_X7_becomes_0 {X : Nat × (Nat → Int32)}   (u : am_MU) (l1 : Int32) (l2 : Int32) (r : am_MU × Int32) (h : f_X7_becomes  u l1 l2 = some r) : am_Ev X M_X7_becomes 0 [(0, .ref 110), (1, .int l1), (2, .int l2)] [] (hp u) (hp r.1, some (.int r.2)) := by
  unfold f_X7_becomes at h
  refine ev_aload_n dX7_becomes_0 0 rfl trivial ?_
  refine px_getR dX7_becomes_1 gf_RX7_9 (at7 rfl) (by decide) rfl ?_
  refine ev_iload_n dX7_becomes_4 1 rfl ?_
  obtain ⟨g1, h⟩ := am_gd h
  refine px_iald (n := 1535) l1.toNatClampNeg dX7_becomes_5 rfl g1 rfl ?_
  obtain ⟨x2, ex2, h⟩ := am_lt h
  refine px_top ex2 ?_
  refine ev_istore_n (L' := [(3, .int x2), (0, .ref 110), (1, .int l1), (2, .int l2)]) dX7_becomes_6 (by decide) rfl ?_
  refine ev_aload_n dX7_becomes_7 1 rfl trivial ?_
  refine px_getR dX7_becomes_8 gf_RX7_9 (at7 rfl) (by decide) rfl ?_
  refine ev_iload_n dX7_becomes_11 2 rfl ?_
  refine ev_iload_n dX7_becomes_12 3 rfl ?_
  obtain ⟨u3, eu3, h⟩ := am_lt h
  refine px_iast (n := 1535) l1.toNatClampNeg dX7_becomes_13 rfl g1 rfl eu3 ?_
  refine ev_iload_n dX7_becomes_14 0 rfl ?_
  obtain rfl := Option.some.inj h
  exact ev_iret dX7_becomes_15 rfl rfl

theorem c_X7_becomes {X : Nat × (Nat → Int32)} {u : am_MU} {l1 : Int32} {l2 : Int32} {r : am_MU × Int32} (h : f_X7_becomes u l1 l2 = some r) : am_Cn X M_X7_becomes [.ref 110, .int l1, .int l2] (hp u) (hp r.1, some (.int r.2)) := by
  refine am_Cn.of ok_X7_becomes (Nat.le_refl _) (Nat.le_refl _) (Nat.le_of_ble_eq_true rfl) ?_
  refine ev_loc [0, 1, 2] rfl ?_
  exact l_X7_becomes_0 u l1 l2 r h

-- SandRipplesModel.turns(II)I
def f_X7_turns  (u : am_MU) (l1 : Int32) (l2 : Int32) : Option (am_MU × Int32) :=
(f_X7_isFloor u l1).bind fun q1 =>
if q1.2 = 0 then (some (q1.1, ((-1000000001) : Int32)))
else ((f_X7_in q1.1 l2 (0 : Int32) (5 : Int32)).bind fun q3 =>
if q3.2 = 0 then (some (q3.1, ((-1000000001) : Int32)))
else ((f_X7_at q3.1 l1).bind fun q5 =>
(f_X7_becomes q5.1 q5.2 l2).bind fun q6 =>
some (q6.1, q6.2)))

theorem l_X7_turns_0 {X : Nat × (Nat → Int32)}   (u : am_MU) (l1 : Int32) (l2 : Int32) (r : am_MU × Int32) (h : f_X7_turns  u l1 l2 = some r) : am_Ev X M_X7_turns 0 [(0, .ref 110), (1, .int l1), (2, .int l2)] [] (hp u) (hp r.1, some (.int r.2)) := by
  unfold f_X7_turns at h
  refine ev_aload_n dX7_turns_0 0 rfl trivial ?_
  refine ev_iload_n dX7_turns_1 1 rfl ?_
  obtain ⟨q1, eq1, h⟩ := am_bd h
  refine px_callvi [.int l1] (by decide) cl_7 (at7 rfl) dX7_turns_2 ok_X7_isFloor lk_RX7_128 in_X7_isFloor se_X7_isFloor (by decide) rfl (c_X7_isFloor eq1) rfl (Nat.le_of_ble_eq_true rfl) ?_
  refine ev_if_eq 29 dX7_turns_5 (by decide) (fun c2 => ?_) (fun c2 => ?_)
  · have h := am_t c2 h
    refine ev_ldc (v := ((-1000000001) : Int32)) dX7_turns_29 tw_933 ?_
    obtain rfl := Option.some.inj h
    exact ev_iret dX7_turns_31 rfl rfl
  · have h := am_e c2 h
    refine ev_iload_n dX7_turns_8 2 rfl ?_
    refine ev_iconst (v := (0 : Int32)) dX7_turns_9 kI_0 ?_
    refine ev_iconst (v := (5 : Int32)) dX7_turns_10 kI_5 ?_
    obtain ⟨q3, eq3, h⟩ := am_bd h
    refine px_callsi [.int l2, .int (0 : Int32), .int (5 : Int32)] dX7_turns_11 ok_X7_in lk_RX7_78 st_X7_in (by decide) rfl (c_X7_in eq3) rfl (Nat.le_of_ble_eq_true rfl) ?_
    refine ev_if_eq 29 dX7_turns_14 (by decide) (fun c4 => ?_) (fun c4 => ?_)
    · have h := am_t c4 h
      refine ev_ldc (v := ((-1000000001) : Int32)) dX7_turns_29 tw_933 ?_
      obtain rfl := Option.some.inj h
      exact ev_iret dX7_turns_31 rfl rfl
    · have h := am_e c4 h
      refine ev_aload_n dX7_turns_17 0 rfl trivial ?_
      refine ev_iload_n dX7_turns_18 1 rfl ?_
      obtain ⟨q5, eq5, h⟩ := am_bd h
      refine px_callsi [.int l1] dX7_turns_19 ok_X7_at lk_RX7_82 st_X7_at (by decide) rfl (c_X7_at eq5) rfl (Nat.le_of_ble_eq_true rfl) ?_
      refine ev_iload_n dX7_turns_22 2 rfl ?_
      obtain ⟨q6, eq6, h⟩ := am_bd h
      refine px_callvi [.int q5.2, .int l2] (by decide) cl_7 (at7 rfl) dX7_turns_23 ok_X7_becomes lk_RX7_148 in_X7_becomes se_X7_becomes (by decide) rfl (c_X7_becomes eq6) rfl (Nat.le_of_ble_eq_true rfl) ?_
      refine ev_goto 31 dX7_turns_26 (by decide) ?_
      obtain rfl := Option.some.inj h
      exact ev_iret dX7_turns_31 rfl rfl

theorem c_X7_turns {X : Nat × (Nat → Int32)} {u : am_MU} {l1 : Int32} {l2 : Int32} {r : am_MU × Int32} (h : f_X7_turns u l1 l2 = some r) : am_Cn X M_X7_turns [.ref 110, .int l1, .int l2] (hp u) (hp r.1, some (.int r.2)) := by
  refine am_Cn.of ok_X7_turns (Nat.le_refl _) (Nat.le_refl _) (Nat.le_of_ble_eq_true rfl) ?_
  refine ev_loc [0, 1, 2] rfl ?_
  exact l_X7_turns_0 u l1 l2 r h

-- SandRipplesModel.sea(II)I
def g_X7_sea_42  (u : am_MU) (l1 : Int32) (l2 : Int32) (s0 : Int32) (s1 : Int32) (s2 : Int32) : Option (am_MU × Int32) :=
(f_X7_in u s0 s1 s2).bind fun q1 =>
if q1.2 = 0 then (some (q1.1, ((-1000000001) : Int32)))
else ((f_X7_becomes q1.1 ((2 : Int32) + l1) l2).bind fun q3 =>
some (q3.1, q3.2))

def g_X7_sea_20  (u : am_MU) (l1 : Int32) (l2 : Int32) (s0 : Int32) (s1 : Int32) : Option (am_MU × Int32) :=
if l1 = (1 : Int32) then (g_X7_sea_42 u l1 l2 s0 s1 (9 : Int32))
else (if l1 = (3 : Int32) then (g_X7_sea_42 u l1 l2 s0 s1 (20 : Int32))
else (g_X7_sea_42 u l1 l2 s0 s1 (11 : Int32)))

def f_X7_sea  (u : am_MU) (l1 : Int32) (l2 : Int32) : Option (am_MU × Int32) :=
(f_X7_in u l1 (0 : Int32) (3 : Int32)).bind fun q1 =>
if q1.2 = 0 then (some (q1.1, ((-1000000001) : Int32)))
else (if l1 = (3 : Int32) then (g_X7_sea_20 q1.1 l1 l2 l2 (1 : Int32))
else (g_X7_sea_20 q1.1 l1 l2 l2 (0 : Int32)))

theorem l_X7_sea_42 {X : Nat × (Nat → Int32)}   (u : am_MU) (l1 : Int32) (l2 : Int32) (s0 : Int32) (s1 : Int32) (s2 : Int32) (r : am_MU × Int32) (h : g_X7_sea_42  u l1 l2 s0 s1 s2 = some r) : am_Ev X M_X7_sea 42 [(0, .ref 110), (1, .int l1), (2, .int l2)] [.int s2, .int s1, .int s0] (hp u) (hp r.1, some (.int r.2)) := by
  unfold g_X7_sea_42 at h
  obtain ⟨q1, eq1, h⟩ := am_bd h
  refine px_callsi [.int s0, .int s1, .int s2] dX7_sea_42 ok_X7_in lk_RX7_78 st_X7_in (by decide) rfl (c_X7_in eq1) rfl (Nat.le_of_ble_eq_true rfl) ?_
  refine ev_if_ne 51 dX7_sea_45 (by decide) (fun c2 => ?_) (fun c2 => ?_)
  · have h := am_e c2 h
    refine ev_aload_n dX7_sea_51 0 rfl trivial ?_
    refine ev_iconst (v := (2 : Int32)) dX7_sea_52 kI_2 ?_
    refine ev_iload_n dX7_sea_53 1 rfl ?_
    refine ev_iadd dX7_sea_54 ?_
    refine ev_iload_n dX7_sea_55 2 rfl ?_
    obtain ⟨q3, eq3, h⟩ := am_bd h
    refine px_callvi [.int ((2 : Int32) + l1), .int l2] (by decide) cl_7 (at7 rfl) dX7_sea_56 ok_X7_becomes lk_RX7_148 in_X7_becomes se_X7_becomes (by decide) rfl (c_X7_becomes eq3) rfl (Nat.le_of_ble_eq_true rfl) ?_
    obtain rfl := Option.some.inj h
    exact ev_iret dX7_sea_59 rfl rfl
  · have h := am_t c2 h
    refine ev_ldc (v := ((-1000000001) : Int32)) dX7_sea_48 tw_933 ?_
    obtain rfl := Option.some.inj h
    exact ev_iret dX7_sea_50 rfl rfl

theorem l_X7_sea_20 {X : Nat × (Nat → Int32)}   (u : am_MU) (l1 : Int32) (l2 : Int32) (s0 : Int32) (s1 : Int32) (r : am_MU × Int32) (h : g_X7_sea_20  u l1 l2 s0 s1 = some r) : am_Ev X M_X7_sea 20 [(0, .ref 110), (1, .int l1), (2, .int l2)] [.int s1, .int s0] (hp u) (hp r.1, some (.int r.2)) := by
  unfold g_X7_sea_20 at h
  refine ev_iload_n dX7_sea_20 1 rfl ?_
  refine ev_iconst (v := (1 : Int32)) dX7_sea_21 kI_1 ?_
  refine ev_icmp_ne 30 dX7_sea_22 (by decide) (fun c1 => ?_) (fun c1 => ?_)
  · have h := am_e c1 h
    refine ev_iload_n dX7_sea_30 1 rfl ?_
    refine ev_iconst (v := (3 : Int32)) dX7_sea_31 kI_3 ?_
    refine ev_icmp_ne 40 dX7_sea_32 (by decide) (fun c2 => ?_) (fun c2 => ?_)
    · have h := am_e c2 h
      refine ev_bipush (v := (11 : Int32)) dX7_sea_40 kB_11 ?_
      refine ev_loc [0, 1, 2] rfl ?_
      exact l_X7_sea_42   u l1 l2 s0 s1 (11 : Int32) _ h
    · have h := am_t c2 h
      refine ev_bipush (v := (20 : Int32)) dX7_sea_35 kB_20 ?_
      refine ev_goto 42 dX7_sea_37 (by decide) ?_
      refine ev_loc [0, 1, 2] rfl ?_
      exact l_X7_sea_42   u l1 l2 s0 s1 (20 : Int32) _ h
  · have h := am_t c1 h
    refine ev_bipush (v := (9 : Int32)) dX7_sea_25 kB_9 ?_
    refine ev_goto 42 dX7_sea_27 (by decide) ?_
    refine ev_loc [0, 1, 2] rfl ?_
    exact l_X7_sea_42   u l1 l2 s0 s1 (9 : Int32) _ h

theorem l_X7_sea_0 {X : Nat × (Nat → Int32)}   (u : am_MU) (l1 : Int32) (l2 : Int32) (r : am_MU × Int32) (h : f_X7_sea  u l1 l2 = some r) : am_Ev X M_X7_sea 0 [(0, .ref 110), (1, .int l1), (2, .int l2)] [] (hp u) (hp r.1, some (.int r.2)) := by
  unfold f_X7_sea at h
  refine ev_iload_n dX7_sea_0 1 rfl ?_
  refine ev_iconst (v := (0 : Int32)) dX7_sea_1 kI_0 ?_
  refine ev_iconst (v := (3 : Int32)) dX7_sea_2 kI_3 ?_
  obtain ⟨q1, eq1, h⟩ := am_bd h
  refine px_callsi [.int l1, .int (0 : Int32), .int (3 : Int32)] dX7_sea_3 ok_X7_in lk_RX7_78 st_X7_in (by decide) rfl (c_X7_in eq1) rfl (Nat.le_of_ble_eq_true rfl) ?_
  refine ev_if_eq 48 dX7_sea_6 (by decide) (fun c2 => ?_) (fun c2 => ?_)
  · have h := am_t c2 h
    refine ev_ldc (v := ((-1000000001) : Int32)) dX7_sea_48 tw_933 ?_
    obtain rfl := Option.some.inj h
    exact ev_iret dX7_sea_50 rfl rfl
  · have h := am_e c2 h
    refine ev_iload_n dX7_sea_9 2 rfl ?_
    refine ev_iload_n dX7_sea_10 1 rfl ?_
    refine ev_iconst (v := (3 : Int32)) dX7_sea_11 kI_3 ?_
    refine ev_icmp_ne 19 dX7_sea_12 (by decide) (fun c3 => ?_) (fun c3 => ?_)
    · have h := am_e c3 h
      refine ev_iconst (v := (0 : Int32)) dX7_sea_19 kI_0 ?_
      refine ev_loc [0, 1, 2] rfl ?_
      exact l_X7_sea_20   q1.1 l1 l2 l2 (0 : Int32) _ h
    · have h := am_t c3 h
      refine ev_iconst (v := (1 : Int32)) dX7_sea_15 kI_1 ?_
      refine ev_goto 20 dX7_sea_16 (by decide) ?_
      refine ev_loc [0, 1, 2] rfl ?_
      exact l_X7_sea_20   q1.1 l1 l2 l2 (1 : Int32) _ h

theorem c_X7_sea {X : Nat × (Nat → Int32)} {u : am_MU} {l1 : Int32} {l2 : Int32} {r : am_MU × Int32} (h : f_X7_sea u l1 l2 = some r) : am_Cn X M_X7_sea [.ref 110, .int l1, .int l2] (hp u) (hp r.1, some (.int r.2)) := by
  refine am_Cn.of ok_X7_sea (Nat.le_refl _) (Nat.le_refl _) (Nat.le_of_ble_eq_true rfl) ?_
  refine ev_loc [0, 1, 2] rfl ?_
  exact l_X7_sea_0 u l1 l2 r h

-- SandRipplesModel.isCell(I)Z
def f_X7_isCell  (u : am_MU) (l0 : Int32) : Option (am_MU × Int32) :=
(f_X7_in u l0 (0 : Int32) (23 : Int32)).bind fun q1 =>
if q1.2 = 0 ∨ q1.2 = 1 then (
some (q1.1, q1.2)) else none

theorem l_X7_isCell_0 {X : Nat × (Nat → Int32)}   (u : am_MU) (l0 : Int32) (r : am_MU × Int32) (h : f_X7_isCell  u l0 = some r) : am_Ev X M_X7_isCell 0 [(0, .int l0)] [] (hp u) (hp r.1, some (.int r.2)) := by
  unfold f_X7_isCell at h
  refine ev_iload_n dX7_isCell_0 0 rfl ?_
  refine ev_iconst (v := (0 : Int32)) dX7_isCell_1 kI_0 ?_
  refine ev_bipush (v := (23 : Int32)) dX7_isCell_2 kB_23 ?_
  obtain ⟨q1, eq1, h⟩ := am_bd h
  refine px_callsi [.int l0, .int (0 : Int32), .int (23 : Int32)] dX7_isCell_4 ok_X7_in lk_RX7_78 st_X7_in (by decide) rfl (c_X7_in eq1) rfl (Nat.le_of_ble_eq_true rfl) ?_
  obtain ⟨g2, h⟩ := am_gd h
  obtain rfl := Option.some.inj h
  exact ev_iret dX7_isCell_7 rfl (am_zn g2)

theorem c_X7_isCell {X : Nat × (Nat → Int32)} {u : am_MU} {l0 : Int32} {r : am_MU × Int32} (h : f_X7_isCell u l0 = some r) : am_Cn X M_X7_isCell [.int l0] (hp u) (hp r.1, some (.int r.2)) := by
  refine am_Cn.of ok_X7_isCell (Nat.le_refl _) (Nat.le_refl _) (Nat.le_of_ble_eq_true rfl) ?_
  refine ev_loc [0] rfl ?_
  exact l_X7_isCell_0 u l0 r h

-- SandRipplesModel.sand(II)I
def f_X7_sand  (u : am_MU) (l1 : Int32) (l2 : Int32) : Option (am_MU × Int32) :=
(f_X7_isFloor u l1).bind fun q1 =>
if q1.2 = 0 then (some (q1.1, ((-1000000001) : Int32)))
else ((f_X7_isCell q1.1 l2).bind fun q3 =>
if q3.2 = 0 then (some (q3.1, ((-1000000001) : Int32)))
else ((f_X7_sandOf q3.1 l1 l2).bind fun q5 =>
some (q5.1, q5.2)))

theorem l_X7_sand_0 {X : Nat × (Nat → Int32)}   (u : am_MU) (l1 : Int32) (l2 : Int32) (r : am_MU × Int32) (h : f_X7_sand  u l1 l2 = some r) : am_Ev X M_X7_sand 0 [(0, .ref 110), (1, .int l1), (2, .int l2)] [] (hp u) (hp r.1, some (.int r.2)) := by
  unfold f_X7_sand at h
  refine ev_aload_n dX7_sand_0 0 rfl trivial ?_
  refine ev_iload_n dX7_sand_1 1 rfl ?_
  obtain ⟨q1, eq1, h⟩ := am_bd h
  refine px_callvi [.int l1] (by decide) cl_7 (at7 rfl) dX7_sand_2 ok_X7_isFloor lk_RX7_128 in_X7_isFloor se_X7_isFloor (by decide) rfl (c_X7_isFloor eq1) rfl (Nat.le_of_ble_eq_true rfl) ?_
  refine ev_if_eq 24 dX7_sand_5 (by decide) (fun c2 => ?_) (fun c2 => ?_)
  · have h := am_t c2 h
    refine ev_ldc (v := ((-1000000001) : Int32)) dX7_sand_24 tw_933 ?_
    obtain rfl := Option.some.inj h
    exact ev_iret dX7_sand_26 rfl rfl
  · have h := am_e c2 h
    refine ev_iload_n dX7_sand_8 2 rfl ?_
    obtain ⟨q3, eq3, h⟩ := am_bd h
    refine px_callsi [.int l2] dX7_sand_9 ok_X7_isCell lk_RX7_151 st_X7_isCell (by decide) rfl (c_X7_isCell eq3) rfl (Nat.le_of_ble_eq_true rfl) ?_
    refine ev_if_eq 24 dX7_sand_12 (by decide) (fun c4 => ?_) (fun c4 => ?_)
    · have h := am_t c4 h
      refine ev_ldc (v := ((-1000000001) : Int32)) dX7_sand_24 tw_933 ?_
      obtain rfl := Option.some.inj h
      exact ev_iret dX7_sand_26 rfl rfl
    · have h := am_e c4 h
      refine ev_aload_n dX7_sand_15 0 rfl trivial ?_
      refine ev_iload_n dX7_sand_16 1 rfl ?_
      refine ev_iload_n dX7_sand_17 2 rfl ?_
      obtain ⟨q5, eq5, h⟩ := am_bd h
      refine px_callvi [.int l1, .int l2] (by decide) cl_7 (at7 rfl) dX7_sand_18 ok_X7_sandOf lk_RX7_102 in_X7_sandOf se_X7_sandOf (by decide) rfl (c_X7_sandOf eq5) rfl (Nat.le_of_ble_eq_true rfl) ?_
      refine ev_goto 26 dX7_sand_21 (by decide) ?_
      obtain rfl := Option.some.inj h
      exact ev_iret dX7_sand_26 rfl rfl

theorem c_X7_sand {X : Nat × (Nat → Int32)} {u : am_MU} {l1 : Int32} {l2 : Int32} {r : am_MU × Int32} (h : f_X7_sand u l1 l2 = some r) : am_Cn X M_X7_sand [.ref 110, .int l1, .int l2] (hp u) (hp r.1, some (.int r.2)) := by
  refine am_Cn.of ok_X7_sand (Nat.le_refl _) (Nat.le_refl _) (Nat.le_of_ble_eq_true rfl) ?_
  refine ev_loc [0, 1, 2] rfl ?_
  exact l_X7_sand_0 u l1 l2 r h

-- SandRipplesModel.heap(III)I
def f_X7_heap  (u : am_MU) (l1 : Int32) (l2 : Int32) (l3 : Int32) : Option (am_MU × Int32) :=
(f_X7_isFloor u l1).bind fun q1 =>
if q1.2 = 0 then (some (q1.1, ((-1000000001) : Int32)))
else ((f_X7_isCell q1.1 l2).bind fun q3 =>
if q3.2 = 0 then (some (q3.1, ((-1000000001) : Int32)))
else ((f_X7_in q3.1 l3 (0 : Int32) (99 : Int32)).bind fun q5 =>
if q5.2 = 0 then (some (q5.1, ((-1000000001) : Int32)))
else ((f_X7_spot q5.1 l1 l2).bind fun q7 =>
(f_X7_becomes q7.1 q7.2 l3).bind fun q8 =>
some (q8.1, q8.2))))

theorem l_X7_heap_0 {X : Nat × (Nat → Int32)}   (u : am_MU) (l1 : Int32) (l2 : Int32) (l3 : Int32) (r : am_MU × Int32) (h : f_X7_heap  u l1 l2 l3 = some r) : am_Ev X M_X7_heap 0 [(0, .ref 110), (1, .int l1), (2, .int l2), (3, .int l3)] [] (hp u) (hp r.1, some (.int r.2)) := by
  unfold f_X7_heap at h
  refine ev_aload_n dX7_heap_0 0 rfl trivial ?_
  refine ev_iload_n dX7_heap_1 1 rfl ?_
  obtain ⟨q1, eq1, h⟩ := am_bd h
  refine px_callvi [.int l1] (by decide) cl_7 (at7 rfl) dX7_heap_2 ok_X7_isFloor lk_RX7_128 in_X7_isFloor se_X7_isFloor (by decide) rfl (c_X7_isFloor eq1) rfl (Nat.le_of_ble_eq_true rfl) ?_
  refine ev_if_eq 38 dX7_heap_5 (by decide) (fun c2 => ?_) (fun c2 => ?_)
  · have h := am_t c2 h
    refine ev_ldc (v := ((-1000000001) : Int32)) dX7_heap_38 tw_933 ?_
    obtain rfl := Option.some.inj h
    exact ev_iret dX7_heap_40 rfl rfl
  · have h := am_e c2 h
    refine ev_iload_n dX7_heap_8 2 rfl ?_
    obtain ⟨q3, eq3, h⟩ := am_bd h
    refine px_callsi [.int l2] dX7_heap_9 ok_X7_isCell lk_RX7_151 st_X7_isCell (by decide) rfl (c_X7_isCell eq3) rfl (Nat.le_of_ble_eq_true rfl) ?_
    refine ev_if_eq 38 dX7_heap_12 (by decide) (fun c4 => ?_) (fun c4 => ?_)
    · have h := am_t c4 h
      refine ev_ldc (v := ((-1000000001) : Int32)) dX7_heap_38 tw_933 ?_
      obtain rfl := Option.some.inj h
      exact ev_iret dX7_heap_40 rfl rfl
    · have h := am_e c4 h
      refine ev_iload_n dX7_heap_15 3 rfl ?_
      refine ev_iconst (v := (0 : Int32)) dX7_heap_16 kI_0 ?_
      refine ev_bipush (v := (99 : Int32)) dX7_heap_17 kB_99 ?_
      obtain ⟨q5, eq5, h⟩ := am_bd h
      refine px_callsi [.int l3, .int (0 : Int32), .int (99 : Int32)] dX7_heap_19 ok_X7_in lk_RX7_78 st_X7_in (by decide) rfl (c_X7_in eq5) rfl (Nat.le_of_ble_eq_true rfl) ?_
      refine ev_if_eq 38 dX7_heap_22 (by decide) (fun c6 => ?_) (fun c6 => ?_)
      · have h := am_t c6 h
        refine ev_ldc (v := ((-1000000001) : Int32)) dX7_heap_38 tw_933 ?_
        obtain rfl := Option.some.inj h
        exact ev_iret dX7_heap_40 rfl rfl
      · have h := am_e c6 h
        refine ev_aload_n dX7_heap_25 0 rfl trivial ?_
        refine ev_iload_n dX7_heap_26 1 rfl ?_
        refine ev_iload_n dX7_heap_27 2 rfl ?_
        obtain ⟨q7, eq7, h⟩ := am_bd h
        refine px_callsi [.int l1, .int l2] dX7_heap_28 ok_X7_spot lk_RX7_86 st_X7_spot (by decide) rfl (c_X7_spot eq7) rfl (Nat.le_of_ble_eq_true rfl) ?_
        refine ev_iload_n dX7_heap_31 3 rfl ?_
        obtain ⟨q8, eq8, h⟩ := am_bd h
        refine px_callvi [.int q7.2, .int l3] (by decide) cl_7 (at7 rfl) dX7_heap_32 ok_X7_becomes lk_RX7_148 in_X7_becomes se_X7_becomes (by decide) rfl (c_X7_becomes eq8) rfl (Nat.le_of_ble_eq_true rfl) ?_
        refine ev_goto 40 dX7_heap_35 (by decide) ?_
        obtain rfl := Option.some.inj h
        exact ev_iret dX7_heap_40 rfl rfl

theorem c_X7_heap {X : Nat × (Nat → Int32)} {u : am_MU} {l1 : Int32} {l2 : Int32} {l3 : Int32} {r : am_MU × Int32} (h : f_X7_heap u l1 l2 l3 = some r) : am_Cn X M_X7_heap [.ref 110, .int l1, .int l2, .int l3] (hp u) (hp r.1, some (.int r.2)) := by
  refine am_Cn.of ok_X7_heap (Nat.le_refl _) (Nat.le_refl _) (Nat.le_of_ble_eq_true rfl) ?_
  refine ev_loc [0, 1, 2, 3] rfl ?_
  exact l_X7_heap_0 u l1 l2 l3 r h

-- SandRipplesModel.draw()I
def f_X7_draw  (u : am_MU)  : Option (am_MU × Int32) :=
am_let (am_u2 u 111 0 (((u 111 0) * (1103515245 : Int32)) + (12345 : Int32))) fun u1 =>
some (u1, ((u1 111 0).toUInt32 >>> ((8 : Int32).toUInt32 &&& Int32.toUInt32 31)).toInt32)

theorem l_X7_draw_0 {X : Nat × (Nat → Int32)}   (u : am_MU)  (r : am_MU × Int32) (h : f_X7_draw  u  = some r) : am_Ev X M_X7_draw 0 [(0, .ref 110)] [] (hp u) (hp r.1, some (.int r.2)) := by
  unfold f_X7_draw at h
  refine ev_aload_n dX7_draw_0 0 rfl trivial ?_
  refine px_getR dX7_draw_1 gf_RX7_9 (at7 rfl) (by decide) rfl ?_
  refine ev_iconst (v := (0 : Int32)) dX7_draw_4 kI_0 ?_
  refine ev_aload_n dX7_draw_5 0 rfl trivial ?_
  refine px_getR dX7_draw_6 gf_RX7_9 (at7 rfl) (by decide) rfl ?_
  refine ev_iconst (v := (0 : Int32)) dX7_draw_9 kI_0 ?_
  refine px_iald (n := 1535) 0 dX7_draw_10 rfl (by decide) (by decide) ?_
  refine ev_ldc (v := (1103515245 : Int32)) dX7_draw_11 tw_1050 ?_
  refine ev_imul dX7_draw_13 ?_
  refine ev_sipush (v := (12345 : Int32)) dX7_draw_14 kS_12345 ?_
  refine ev_iadd dX7_draw_17 ?_
  obtain ⟨u1, eu1, h⟩ := am_lt h
  refine px_iast (n := 1535) 0 dX7_draw_18 rfl (by decide) (by decide) eu1 ?_
  refine ev_aload_n dX7_draw_19 0 rfl trivial ?_
  refine px_getR dX7_draw_20 gf_RX7_9 (at7 rfl) (by decide) rfl ?_
  refine ev_iconst (v := (0 : Int32)) dX7_draw_23 kI_0 ?_
  refine px_iald (n := 1535) 0 dX7_draw_24 rfl (by decide) (by decide) ?_
  refine ev_bipush (v := (8 : Int32)) dX7_draw_25 kB_8 ?_
  refine ev_iushr dX7_draw_27 ?_
  obtain rfl := Option.some.inj h
  exact ev_iret dX7_draw_28 rfl rfl

theorem c_X7_draw {X : Nat × (Nat → Int32)} {u : am_MU}  {r : am_MU × Int32} (h : f_X7_draw u  = some r) : am_Cn X M_X7_draw [.ref 110] (hp u) (hp r.1, some (.int r.2)) := by
  refine am_Cn.of ok_X7_draw (Nat.le_refl _) (Nat.le_refl _) (Nat.le_of_ble_eq_true rfl) ?_
  refine ev_loc [0] rfl ?_
  exact l_X7_draw_0 u  r h

-- SandRipplesModel.deal(I)I
def g_X7_deal_13  : Nat → am_MU → Int32 → Int32 → Option (am_MU × Int32)
  | 0 => fun _ _ _ => none
  | n + 1 => fun u l1 l2 =>
if (24 : Int32) ≤ l2 then ((f_X7_sumOf u l1).bind fun q2 =>
some (q2.1, q2.2))
else ((f_X7_spot u l1 l2).bind fun q3 =>
(f_X7_draw q3.1 ).bind fun q4 =>
if am_in q3.2 1535 then (
am_let (am_u2 q4.1 111 q3.2.toNatClampNeg (q4.2 - q4.2 / (40 : Int32) * (40 : Int32))) fun u6 =>
am_let (l2 + (1 : Int32)) fun x7 =>
g_X7_deal_13 n u6 l1 x7) else none)

def f_X7_deal  (u : am_MU) (l1 : Int32) : Option (am_MU × Int32) :=
(f_X7_isFloor u l1).bind fun q1 =>
if q1.2 = 0 then (some (q1.1, ((-1000000001) : Int32)))
else (g_X7_deal_13 1700 q1.1 l1 (0 : Int32))

theorem l_X7_deal_13 {X : Nat × (Nat → Int32)}   : ∀ (n : Nat) (u : am_MU) (l1 : Int32) (l2 : Int32) (r : am_MU × Int32), g_X7_deal_13  n u l1 l2 = some r → am_Ev X M_X7_deal 13 [(0, .ref 110), (1, .int l1), (2, .int l2)] [] (hp u) (hp r.1, some (.int r.2)) := by
  intro n
  induction n with
  | zero => intro u l1 l2 r h; cases h
  | succ n ih =>
    intro u l1 l2 r h
    rw [g_X7_deal_13] at h
    refine ev_iload_n dX7_deal_13 2 rfl ?_
    refine ev_bipush (v := (24 : Int32)) dX7_deal_14 kB_24 ?_
    refine ev_icmp_ge 42 dX7_deal_16 (by decide) (fun c1 => ?_) (fun c1 => ?_)
    · have h := am_t c1 h
      refine ev_aload_n dX7_deal_42 0 rfl trivial ?_
      refine ev_iload_n dX7_deal_43 1 rfl ?_
      obtain ⟨q2, eq2, h⟩ := am_bd h
      refine px_callvi [.int l1] (by decide) cl_7 (at7 rfl) dX7_deal_44 ok_X7_sumOf lk_RX7_125 in_X7_sumOf se_X7_sumOf (by decide) rfl (c_X7_sumOf eq2) rfl (Nat.le_of_ble_eq_true rfl) ?_
      obtain rfl := Option.some.inj h
      exact ev_iret dX7_deal_47 rfl rfl
    · have h := am_e c1 h
      refine ev_aload_n dX7_deal_19 0 rfl trivial ?_
      refine px_getR dX7_deal_20 gf_RX7_9 (at7 rfl) (by decide) rfl ?_
      refine ev_iload_n dX7_deal_23 1 rfl ?_
      refine ev_iload_n dX7_deal_24 2 rfl ?_
      obtain ⟨q3, eq3, h⟩ := am_bd h
      refine px_callsi [.int l1, .int l2] dX7_deal_25 ok_X7_spot lk_RX7_86 st_X7_spot (by decide) rfl (c_X7_spot eq3) rfl (Nat.le_of_ble_eq_true rfl) ?_
      refine ev_aload_n dX7_deal_28 0 rfl trivial ?_
      obtain ⟨q4, eq4, h⟩ := am_bd h
      refine px_callvi [] (by decide) cl_7 (at7 rfl) dX7_deal_29 ok_X7_draw lk_RX7_155 in_X7_draw se_X7_draw (by decide) rfl (c_X7_draw eq4) rfl (Nat.le_of_ble_eq_true rfl) ?_
      refine ev_bipush (v := (40 : Int32)) dX7_deal_32 kB_40 ?_
      refine ev_irem dX7_deal_34 (by decide) ?_
      obtain ⟨g5, h⟩ := am_gd h
      obtain ⟨u6, eu6, h⟩ := am_lt h
      refine px_iast (n := 1535) q3.2.toNatClampNeg dX7_deal_35 rfl g5 rfl eu6 ?_
      obtain ⟨x7, ex7, h⟩ := am_lt h
      refine ev_iinc (v := x7) (L' := [(2, .int x7), (0, .ref 110), (1, .int l1)]) dX7_deal_36 2 rfl (by rw [kI_1, ex7]) (by decide) rfl ?_
      refine ev_goto 13 dX7_deal_39 (by decide) ?_
      refine ev_loc [1, 2, 0] rfl ?_
      exact ih u6 l1 x7 _ h

theorem l_X7_deal_0 {X : Nat × (Nat → Int32)}   (u : am_MU) (l1 : Int32) (r : am_MU × Int32) (h : f_X7_deal  u l1 = some r) : am_Ev X M_X7_deal 0 [(0, .ref 110), (1, .int l1)] [] (hp u) (hp r.1, some (.int r.2)) := by
  unfold f_X7_deal at h
  refine ev_aload_n dX7_deal_0 0 rfl trivial ?_
  refine ev_iload_n dX7_deal_1 1 rfl ?_
  obtain ⟨q1, eq1, h⟩ := am_bd h
  refine px_callvi [.int l1] (by decide) cl_7 (at7 rfl) dX7_deal_2 ok_X7_isFloor lk_RX7_128 in_X7_isFloor se_X7_isFloor (by decide) rfl (c_X7_isFloor eq1) rfl (Nat.le_of_ble_eq_true rfl) ?_
  refine ev_if_ne 11 dX7_deal_5 (by decide) (fun c2 => ?_) (fun c2 => ?_)
  · have h := am_e c2 h
    refine ev_iconst (v := (0 : Int32)) dX7_deal_11 kI_0 ?_
    refine ev_istore_n (L' := [(2, .int (0 : Int32)), (0, .ref 110), (1, .int l1)]) dX7_deal_12 (by decide) rfl ?_
    refine ev_loc [1, 2, 0] rfl ?_
    exact l_X7_deal_13   1700 q1.1 l1 (0 : Int32) _ h
  · have h := am_t c2 h
    refine ev_ldc (v := ((-1000000001) : Int32)) dX7_deal_8 tw_933 ?_
    obtain rfl := Option.some.inj h
    exact ev_iret dX7_deal_10 rfl rfl

theorem c_X7_deal {X : Nat × (Nat → Int32)} {u : am_MU} {l1 : Int32} {r : am_MU × Int32} (h : f_X7_deal u l1 = some r) : am_Cn X M_X7_deal [.ref 110, .int l1] (hp u) (hp r.1, some (.int r.2)) := by
  refine am_Cn.of ok_X7_deal (Nat.le_refl _) (Nat.le_refl _) (Nat.le_of_ble_eq_true rfl) ?_
  refine ev_loc [0, 1] rfl ?_
  exact l_X7_deal_0 u l1 r h

-- SandRipplesModel.seed(I)I
def f_X7_seed  (u : am_MU) (l1 : Int32) : Option (am_MU × Int32) :=
am_let (u 111 0) fun x1 =>
am_let (am_u2 u 111 0 l1) fun u2 =>
some (u2, x1)

theorem l_X7_seed_0 {X : Nat × (Nat → Int32)}   (u : am_MU) (l1 : Int32) (r : am_MU × Int32) (h : f_X7_seed  u l1 = some r) : am_Ev X M_X7_seed 0 [(0, .ref 110), (1, .int l1)] [] (hp u) (hp r.1, some (.int r.2)) := by
  unfold f_X7_seed at h
  refine ev_aload_n dX7_seed_0 0 rfl trivial ?_
  refine px_getR dX7_seed_1 gf_RX7_9 (at7 rfl) (by decide) rfl ?_
  refine ev_iconst (v := (0 : Int32)) dX7_seed_4 kI_0 ?_
  refine px_iald (n := 1535) 0 dX7_seed_5 rfl (by decide) (by decide) ?_
  obtain ⟨x1, ex1, h⟩ := am_lt h
  refine px_top ex1 ?_
  refine ev_istore_n (L' := [(2, .int x1), (0, .ref 110), (1, .int l1)]) dX7_seed_6 (by decide) rfl ?_
  refine ev_aload_n dX7_seed_7 1 rfl trivial ?_
  refine px_getR dX7_seed_8 gf_RX7_9 (at7 rfl) (by decide) rfl ?_
  refine ev_iconst (v := (0 : Int32)) dX7_seed_11 kI_0 ?_
  refine ev_iload_n dX7_seed_12 2 rfl ?_
  obtain ⟨u2, eu2, h⟩ := am_lt h
  refine px_iast (n := 1535) 0 dX7_seed_13 rfl (by decide) (by decide) eu2 ?_
  refine ev_iload_n dX7_seed_14 0 rfl ?_
  obtain rfl := Option.some.inj h
  exact ev_iret dX7_seed_15 rfl rfl

theorem c_X7_seed {X : Nat × (Nat → Int32)} {u : am_MU} {l1 : Int32} {r : am_MU × Int32} (h : f_X7_seed u l1 = some r) : am_Cn X M_X7_seed [.ref 110, .int l1] (hp u) (hp r.1, some (.int r.2)) := by
  refine am_Cn.of ok_X7_seed (Nat.le_refl _) (Nat.le_refl _) (Nat.le_of_ble_eq_true rfl) ?_
  refine ev_loc [0, 1] rfl ?_
  exact l_X7_seed_0 u l1 r h

-- SandRipplesModel.liftOf(III)I
def g_X7_liftOf_72  (u : am_MU) (l1 : Int32) (l4 : Int32) (s0 : Int32) : Option (am_MU × Int32) :=
(f_X7_within u s0 (0 : Int32) l4).bind fun q1 =>
(f_X7_kindOf q1.1 l1).bind fun q2 =>
if q2.2 = (3 : Int32) then (some (q2.1, q1.2 / (2 : Int32)))
else ((f_X7_kindOf q2.1 l1).bind fun q4 =>
if q4.2 = (4 : Int32) then ((f_X7_within q4.1 (q1.2 - (1 : Int32)) (0 : Int32) l4).bind fun q6 =>
some (q6.1, q6.2))
else (some (q4.1, q1.2)))

def f_X7_liftOf  (u : am_MU) (l1 : Int32) (l2 : Int32) (l3 : Int32) : Option (am_MU × Int32) :=
(f_X7_sandOf u l1 l2).bind fun q1 =>
(f_X7_counts q1.1 (0 : Int32)).bind fun q2 =>
am_let (am_u2 q2.1 123 0 q1.2) fun u3 =>
(f_X7_sandOf u3 l1 (l2 + l3)).bind fun q4 =>
am_let (am_u2 q4.1 123 1 (q1.2 - q4.2)) fun u5 =>
am_let (am_u2 u5 123 2 (u5 111 3)) fun u6 =>
if 0 ≤ q2.2 then ((f_X7_worksOut u6 q2.2).bind fun q8 =>
g_X7_liftOf_72 q8.1 l1 q1.2 q8.2)
else (g_X7_liftOf_72 u6 l1 q1.2 (u6 111 3))

theorem l_X7_liftOf_72 {X : Nat × (Nat → Int32)}   (u : am_MU) (l1 : Int32) (l4 : Int32) (s0 : Int32) (r : am_MU × Int32) (h : g_X7_liftOf_72  u l1 l4 s0 = some r) : am_Ev X M_X7_liftOf 72 [(0, .ref 110), (1, .int l1), (4, .int l4)] [.int s0] (hp u) (hp r.1, some (.int r.2)) := by
  unfold g_X7_liftOf_72 at h
  refine ev_iconst (v := (0 : Int32)) dX7_liftOf_72 kI_0 ?_
  refine ev_iload dX7_liftOf_73 2 rfl ?_
  obtain ⟨q1, eq1, h⟩ := am_bd h
  refine px_callsi [.int s0, .int (0 : Int32), .int l4] dX7_liftOf_75 ok_X7_within lk_RX7_95 st_X7_within (by decide) rfl (c_X7_within eq1) rfl (Nat.le_of_ble_eq_true rfl) ?_
  refine ev_istore (L' := [(6, .int q1.2), (0, .ref 110), (1, .int l1), (4, .int l4)]) dX7_liftOf_78 (by decide) rfl ?_
  refine ev_aload_n dX7_liftOf_80 1 rfl trivial ?_
  refine ev_iload_n dX7_liftOf_81 2 rfl ?_
  obtain ⟨q2, eq2, h⟩ := am_bd h
  refine px_callvi [.int l1] (by decide) cl_7 (at7 rfl) dX7_liftOf_82 ok_X7_kindOf lk_RX7_92 in_X7_kindOf se_X7_kindOf (by decide) rfl (c_X7_kindOf eq2) rfl (Nat.le_of_ble_eq_true rfl) ?_
  refine ev_iconst (v := (3 : Int32)) dX7_liftOf_85 kI_3 ?_
  refine ev_icmp_ne 96 dX7_liftOf_86 (by decide) (fun c3 => ?_) (fun c3 => ?_)
  · have h := am_e c3 h
    refine ev_aload_n dX7_liftOf_96 1 rfl trivial ?_
    refine ev_iload_n dX7_liftOf_97 2 rfl ?_
    obtain ⟨q4, eq4, h⟩ := am_bd h
    refine px_callvi [.int l1] (by decide) cl_7 (at7 rfl) dX7_liftOf_98 ok_X7_kindOf lk_RX7_92 in_X7_kindOf se_X7_kindOf (by decide) rfl (c_X7_kindOf eq4) rfl (Nat.le_of_ble_eq_true rfl) ?_
    refine ev_iconst (v := (4 : Int32)) dX7_liftOf_101 kI_4 ?_
    refine ev_icmp_ne 118 dX7_liftOf_102 (by decide) (fun c5 => ?_) (fun c5 => ?_)
    · have h := am_e c5 h
      refine ev_iload dX7_liftOf_118 0 rfl ?_
      obtain rfl := Option.some.inj h
      exact ev_iret dX7_liftOf_120 rfl rfl
    · have h := am_t c5 h
      refine ev_iload dX7_liftOf_105 0 rfl ?_
      refine ev_iconst (v := (1 : Int32)) dX7_liftOf_107 kI_1 ?_
      refine ev_isub dX7_liftOf_108 ?_
      refine ev_iconst (v := (0 : Int32)) dX7_liftOf_109 kI_0 ?_
      refine ev_iload dX7_liftOf_110 3 rfl ?_
      obtain ⟨q6, eq6, h⟩ := am_bd h
      refine px_callsi [.int (q1.2 - (1 : Int32)), .int (0 : Int32), .int l4] dX7_liftOf_112 ok_X7_within lk_RX7_95 st_X7_within (by decide) rfl (c_X7_within eq6) rfl (Nat.le_of_ble_eq_true rfl) ?_
      refine ev_goto 120 dX7_liftOf_115 (by decide) ?_
      obtain rfl := Option.some.inj h
      exact ev_iret dX7_liftOf_120 rfl rfl
  · have h := am_t c3 h
    refine ev_iload dX7_liftOf_89 0 rfl ?_
    refine ev_iconst (v := (2 : Int32)) dX7_liftOf_91 kI_2 ?_
    refine ev_idiv dX7_liftOf_92 (by decide) ?_
    refine ev_goto 120 dX7_liftOf_93 (by decide) ?_
    obtain rfl := Option.some.inj h
    exact ev_iret dX7_liftOf_120 rfl rfl

theorem l_X7_liftOf_0 {X : Nat × (Nat → Int32)}   (u : am_MU) (l1 : Int32) (l2 : Int32) (l3 : Int32) (r : am_MU × Int32) (h : f_X7_liftOf  u l1 l2 l3 = some r) : am_Ev X M_X7_liftOf 0 [(0, .ref 110), (1, .int l1), (2, .int l2), (3, .int l3)] [] (hp u) (hp r.1, some (.int r.2)) := by
  unfold f_X7_liftOf at h
  refine ev_aload_n dX7_liftOf_0 0 rfl trivial ?_
  refine ev_iload_n dX7_liftOf_1 1 rfl ?_
  refine ev_iload_n dX7_liftOf_2 2 rfl ?_
  obtain ⟨q1, eq1, h⟩ := am_bd h
  refine px_callvi [.int l1, .int l2] (by decide) cl_7 (at7 rfl) dX7_liftOf_3 ok_X7_sandOf lk_RX7_102 in_X7_sandOf se_X7_sandOf (by decide) rfl (c_X7_sandOf eq1) rfl (Nat.le_of_ble_eq_true rfl) ?_
  refine ev_istore (L' := [(4, .int q1.2), (0, .ref 110), (1, .int l1), (2, .int l2), (3, .int l3)]) dX7_liftOf_6 (by decide) rfl ?_
  refine ev_aload_n dX7_liftOf_8 1 rfl trivial ?_
  refine ev_iconst (v := (0 : Int32)) dX7_liftOf_9 kI_0 ?_
  obtain ⟨q2, eq2, h⟩ := am_bd h
  refine px_callvi [.int (0 : Int32)] (by decide) cl_7 (at7 rfl) dX7_liftOf_10 ok_X7_counts lk_RX7_105 in_X7_counts se_X7_counts (by decide) rfl (c_X7_counts eq2) rfl (Nat.le_of_ble_eq_true rfl) ?_
  refine ev_istore (L' := [(5, .int q2.2), (4, .int q1.2), (0, .ref 110), (1, .int l1), (2, .int l2), (3, .int l3)]) dX7_liftOf_13 (by decide) rfl ?_
  refine ev_aload_n dX7_liftOf_15 2 rfl trivial ?_
  refine px_getR dX7_liftOf_16 gf_RX7_48 (at7 rfl) (by decide) rfl ?_
  refine ev_iconst (v := (0 : Int32)) dX7_liftOf_19 kI_0 ?_
  refine ev_iload dX7_liftOf_20 1 rfl ?_
  obtain ⟨u3, eu3, h⟩ := am_lt h
  refine px_iast (n := 4) 0 dX7_liftOf_22 rfl (by decide) (by decide) eu3 ?_
  refine ev_aload_n dX7_liftOf_23 2 rfl trivial ?_
  refine px_getR dX7_liftOf_24 gf_RX7_48 (at7 rfl) (by decide) rfl ?_
  refine ev_iconst (v := (1 : Int32)) dX7_liftOf_27 kI_1 ?_
  refine ev_iload dX7_liftOf_28 1 rfl ?_
  refine ev_aload_n dX7_liftOf_30 2 rfl trivial ?_
  refine ev_iload_n dX7_liftOf_31 3 rfl ?_
  refine ev_iload_n dX7_liftOf_32 4 rfl ?_
  refine ev_iload_n dX7_liftOf_33 5 rfl ?_
  refine ev_iadd dX7_liftOf_34 ?_
  obtain ⟨q4, eq4, h⟩ := am_bd h
  refine px_callvi [.int l1, .int (l2 + l3)] (by decide) cl_7 (at7 rfl) dX7_liftOf_35 ok_X7_sandOf lk_RX7_102 in_X7_sandOf se_X7_sandOf (by decide) rfl (c_X7_sandOf eq4) rfl (Nat.le_of_ble_eq_true rfl) ?_
  refine ev_isub dX7_liftOf_38 ?_
  obtain ⟨u5, eu5, h⟩ := am_lt h
  refine px_iast (n := 4) 1 dX7_liftOf_39 rfl (by decide) (by decide) eu5 ?_
  refine ev_aload_n dX7_liftOf_40 2 rfl trivial ?_
  refine px_getR dX7_liftOf_41 gf_RX7_48 (at7 rfl) (by decide) rfl ?_
  refine ev_iconst (v := (2 : Int32)) dX7_liftOf_44 kI_2 ?_
  refine ev_aload_n dX7_liftOf_45 2 rfl trivial ?_
  refine px_getR dX7_liftOf_46 gf_RX7_9 (at7 rfl) (by decide) rfl ?_
  refine ev_iconst (v := (3 : Int32)) dX7_liftOf_49 kI_3 ?_
  refine px_iald (n := 1535) 3 dX7_liftOf_50 rfl (by decide) (by decide) ?_
  obtain ⟨u6, eu6, h⟩ := am_lt h
  refine px_iast (n := 4) 2 dX7_liftOf_51 rfl (by decide) (by decide) eu6 ?_
  refine ev_iload dX7_liftOf_52 0 rfl ?_
  refine ev_if_ge 66 dX7_liftOf_54 (by decide) (fun c7 => ?_) (fun c7 => ?_)
  · have h := am_t c7 h
    refine ev_aload_n dX7_liftOf_66 2 rfl trivial ?_
    refine ev_iload dX7_liftOf_67 0 rfl ?_
    obtain ⟨q8, eq8, h⟩ := am_bd h
    refine px_callvi [.int q2.2] (by decide) cl_7 (at7 rfl) dX7_liftOf_69 ok_X7_worksOut lk_RX7_108 in_X7_worksOut se_X7_worksOut (by decide) rfl (c_X7_worksOut eq8) rfl (Nat.le_of_ble_eq_true rfl) ?_
    refine ev_loc [2, 3, 1] rfl ?_
    exact l_X7_liftOf_72   q8.1 l1 q1.2 q8.2 _ h
  · have h := am_e c7 h
    refine ev_aload_n dX7_liftOf_57 2 rfl trivial ?_
    refine px_getR dX7_liftOf_58 gf_RX7_9 (at7 rfl) (by decide) rfl ?_
    refine ev_iconst (v := (3 : Int32)) dX7_liftOf_61 kI_3 ?_
    refine px_iald (n := 1535) 3 dX7_liftOf_62 rfl (by decide) (by decide) ?_
    refine ev_goto 72 dX7_liftOf_63 (by decide) ?_
    refine ev_loc [2, 3, 1] rfl ?_
    exact l_X7_liftOf_72   u6 l1 q1.2 (u6 111 3) _ h

theorem c_X7_liftOf {X : Nat × (Nat → Int32)} {u : am_MU} {l1 : Int32} {l2 : Int32} {l3 : Int32} {r : am_MU × Int32} (h : f_X7_liftOf u l1 l2 l3 = some r) : am_Cn X M_X7_liftOf [.ref 110, .int l1, .int l2, .int l3] (hp u) (hp r.1, some (.int r.2)) := by
  refine am_Cn.of ok_X7_liftOf (Nat.le_refl _) (Nat.le_refl _) (Nat.le_of_ble_eq_true rfl) ?_
  refine ev_loc [0, 1, 2, 3] rfl ?_
  exact l_X7_liftOf_0 u l1 l2 l3 r h

-- SandRipplesModel.lift(III)I
def f_X7_lift  (u : am_MU) (l1 : Int32) (l2 : Int32) (l3 : Int32) : Option (am_MU × Int32) :=
(f_X7_isFloor u l1).bind fun q1 =>
if q1.2 = 0 then (some (q1.1, ((-1000000001) : Int32)))
else ((f_X7_isCell q1.1 l2).bind fun q3 =>
if q3.2 = 0 then (some (q3.1, ((-1000000001) : Int32)))
else ((f_X7_in q3.1 l3 (0 : Int32) (1 : Int32)).bind fun q5 =>
if q5.2 = 0 then (some (q5.1, ((-1000000001) : Int32)))
else ((f_X7_wayOf q5.1 l1).bind fun q7 =>
if l3 = 0 then ((f_X7_liftOf q7.1 l1 l2 q7.2).bind fun q10 =>
some (q10.1, q10.2))
else ((f_X7_reachOf q7.1 l1).bind fun q9 =>
some (q9.1, ((l2 + (q7.2 * q9.2)) + (48 : Int32)) - ((l2 + (q7.2 * q9.2)) + (48 : Int32)) / (24 : Int32) * (24 : Int32))))))

theorem l_X7_lift_0 {X : Nat × (Nat → Int32)}   (u : am_MU) (l1 : Int32) (l2 : Int32) (l3 : Int32) (r : am_MU × Int32) (h : f_X7_lift  u l1 l2 l3 = some r) : am_Ev X M_X7_lift 0 [(0, .ref 110), (1, .int l1), (2, .int l2), (3, .int l3)] [] (hp u) (hp r.1, some (.int r.2)) := by
  unfold f_X7_lift at h
  refine ev_aload_n dX7_lift_0 0 rfl trivial ?_
  refine ev_iload_n dX7_lift_1 1 rfl ?_
  obtain ⟨q1, eq1, h⟩ := am_bd h
  refine px_callvi [.int l1] (by decide) cl_7 (at7 rfl) dX7_lift_2 ok_X7_isFloor lk_RX7_128 in_X7_isFloor se_X7_isFloor (by decide) rfl (c_X7_isFloor eq1) rfl (Nat.le_of_ble_eq_true rfl) ?_
  refine ev_if_eq 24 dX7_lift_5 (by decide) (fun c2 => ?_) (fun c2 => ?_)
  · have h := am_t c2 h
    refine ev_ldc (v := ((-1000000001) : Int32)) dX7_lift_24 tw_933 ?_
    obtain rfl := Option.some.inj h
    exact ev_iret dX7_lift_26 rfl rfl
  · have h := am_e c2 h
    refine ev_iload_n dX7_lift_8 2 rfl ?_
    obtain ⟨q3, eq3, h⟩ := am_bd h
    refine px_callsi [.int l2] dX7_lift_9 ok_X7_isCell lk_RX7_151 st_X7_isCell (by decide) rfl (c_X7_isCell eq3) rfl (Nat.le_of_ble_eq_true rfl) ?_
    refine ev_if_eq 24 dX7_lift_12 (by decide) (fun c4 => ?_) (fun c4 => ?_)
    · have h := am_t c4 h
      refine ev_ldc (v := ((-1000000001) : Int32)) dX7_lift_24 tw_933 ?_
      obtain rfl := Option.some.inj h
      exact ev_iret dX7_lift_26 rfl rfl
    · have h := am_e c4 h
      refine ev_iload_n dX7_lift_15 3 rfl ?_
      refine ev_iconst (v := (0 : Int32)) dX7_lift_16 kI_0 ?_
      refine ev_iconst (v := (1 : Int32)) dX7_lift_17 kI_1 ?_
      obtain ⟨q5, eq5, h⟩ := am_bd h
      refine px_callsi [.int l3, .int (0 : Int32), .int (1 : Int32)] dX7_lift_18 ok_X7_in lk_RX7_78 st_X7_in (by decide) rfl (c_X7_in eq5) rfl (Nat.le_of_ble_eq_true rfl) ?_
      refine ev_if_ne 27 dX7_lift_21 (by decide) (fun c6 => ?_) (fun c6 => ?_)
      · have h := am_e c6 h
        refine ev_aload_n dX7_lift_27 0 rfl trivial ?_
        refine ev_iload_n dX7_lift_28 1 rfl ?_
        obtain ⟨q7, eq7, h⟩ := am_bd h
        refine px_callvi [.int l1] (by decide) cl_7 (at7 rfl) dX7_lift_29 ok_X7_wayOf lk_RX7_138 in_X7_wayOf se_X7_wayOf (by decide) rfl (c_X7_wayOf eq7) rfl (Nat.le_of_ble_eq_true rfl) ?_
        refine ev_istore (L' := [(4, .int q7.2), (0, .ref 110), (1, .int l1), (2, .int l2), (3, .int l3)]) dX7_lift_32 (by decide) rfl ?_
        refine ev_iload_n dX7_lift_34 4 rfl ?_
        refine ev_if_ne 49 dX7_lift_35 (by decide) (fun c8 => ?_) (fun c8 => ?_)
        · have h := am_e c8 h
          refine ev_iload_n dX7_lift_49 3 rfl ?_
          refine ev_iload dX7_lift_50 0 rfl ?_
          refine ev_aload_n dX7_lift_52 1 rfl trivial ?_
          refine ev_iload_n dX7_lift_53 2 rfl ?_
          obtain ⟨q9, eq9, h⟩ := am_bd h
          refine px_callvi [.int l1] (by decide) cl_7 (at7 rfl) dX7_lift_54 ok_X7_reachOf lk_RX7_135 in_X7_reachOf se_X7_reachOf (by decide) rfl (c_X7_reachOf eq9) rfl (Nat.le_of_ble_eq_true rfl) ?_
          refine ev_imul dX7_lift_57 ?_
          refine ev_iadd dX7_lift_58 ?_
          refine ev_bipush (v := (48 : Int32)) dX7_lift_59 kB_48 ?_
          refine ev_iadd dX7_lift_61 ?_
          refine ev_bipush (v := (24 : Int32)) dX7_lift_62 kB_24 ?_
          refine ev_irem dX7_lift_64 (by decide) ?_
          obtain rfl := Option.some.inj h
          exact ev_iret dX7_lift_65 rfl rfl
        · have h := am_t c8 h
          refine ev_aload_n dX7_lift_38 1 rfl trivial ?_
          refine ev_iload_n dX7_lift_39 2 rfl ?_
          refine ev_iload_n dX7_lift_40 3 rfl ?_
          refine ev_iload dX7_lift_41 0 rfl ?_
          obtain ⟨q10, eq10, h⟩ := am_bd h
          refine px_callvi [.int l1, .int l2, .int q7.2] (by decide) cl_7 (at7 rfl) dX7_lift_43 ok_X7_liftOf lk_RX7_159 in_X7_liftOf se_X7_liftOf (by decide) rfl (c_X7_liftOf eq10) rfl (Nat.le_of_ble_eq_true rfl) ?_
          refine ev_goto 65 dX7_lift_46 (by decide) ?_
          obtain rfl := Option.some.inj h
          exact ev_iret dX7_lift_65 rfl rfl
      · have h := am_t c6 h
        refine ev_ldc (v := ((-1000000001) : Int32)) dX7_lift_24 tw_933 ?_
        obtain rfl := Option.some.inj h
        exact ev_iret dX7_lift_26 rfl rfl

theorem c_X7_lift {X : Nat × (Nat → Int32)} {u : am_MU} {l1 : Int32} {l2 : Int32} {l3 : Int32} {r : am_MU × Int32} (h : f_X7_lift u l1 l2 l3 = some r) : am_Cn X M_X7_lift [.ref 110, .int l1, .int l2, .int l3] (hp u) (hp r.1, some (.int r.2)) := by
  refine am_Cn.of ok_X7_lift (Nat.le_refl _) (Nat.le_refl _) (Nat.le_of_ble_eq_true rfl) ?_
  refine ev_loc [0, 1, 2, 3] rfl ?_
  exact l_X7_lift_0 u l1 l2 l3 r h

-- SandRipplesModel.slideBy(I)I
def f_X7_slideBy  (u : am_MU) (l1 : Int32) : Option (am_MU × Int32) :=
(f_X7_counts u (1 : Int32)).bind fun q1 =>
am_let (am_u2 q1.1 123 0 l1) fun u2 =>
am_let (am_u2 u2 123 1 (u2 111 5)) fun u3 =>
if 0 ≤ q1.2 then ((f_X7_worksOut u3 q1.2).bind fun q5 =>
(f_X7_within q5.1 q5.2 (0 : Int32) (l1 / (2 : Int32))).bind fun q6 =>
some (q6.1, q6.2))
else (if l1 ≤ (u3 111 5) then (some (u3, (0 : Int32)))
else (some (u3, (1 : Int32))))

theorem l_X7_slideBy_0 {X : Nat × (Nat → Int32)}   (u : am_MU) (l1 : Int32) (r : am_MU × Int32) (h : f_X7_slideBy  u l1 = some r) : am_Ev X M_X7_slideBy 0 [(0, .ref 110), (1, .int l1)] [] (hp u) (hp r.1, some (.int r.2)) := by
  unfold f_X7_slideBy at h
  refine ev_aload_n dX7_slideBy_0 0 rfl trivial ?_
  refine ev_iconst (v := (1 : Int32)) dX7_slideBy_1 kI_1 ?_
  obtain ⟨q1, eq1, h⟩ := am_bd h
  refine px_callvi [.int (1 : Int32)] (by decide) cl_7 (at7 rfl) dX7_slideBy_2 ok_X7_counts lk_RX7_105 in_X7_counts se_X7_counts (by decide) rfl (c_X7_counts eq1) rfl (Nat.le_of_ble_eq_true rfl) ?_
  refine ev_istore_n (L' := [(2, .int q1.2), (0, .ref 110), (1, .int l1)]) dX7_slideBy_5 (by decide) rfl ?_
  refine ev_aload_n dX7_slideBy_6 1 rfl trivial ?_
  refine px_getR dX7_slideBy_7 gf_RX7_48 (at7 rfl) (by decide) rfl ?_
  refine ev_iconst (v := (0 : Int32)) dX7_slideBy_10 kI_0 ?_
  refine ev_iload_n dX7_slideBy_11 2 rfl ?_
  obtain ⟨u2, eu2, h⟩ := am_lt h
  refine px_iast (n := 4) 0 dX7_slideBy_12 rfl (by decide) (by decide) eu2 ?_
  refine ev_aload_n dX7_slideBy_13 1 rfl trivial ?_
  refine px_getR dX7_slideBy_14 gf_RX7_48 (at7 rfl) (by decide) rfl ?_
  refine ev_iconst (v := (1 : Int32)) dX7_slideBy_17 kI_1 ?_
  refine ev_aload_n dX7_slideBy_18 1 rfl trivial ?_
  refine px_getR dX7_slideBy_19 gf_RX7_9 (at7 rfl) (by decide) rfl ?_
  refine ev_iconst (v := (5 : Int32)) dX7_slideBy_22 kI_5 ?_
  refine px_iald (n := 1535) 5 dX7_slideBy_23 rfl (by decide) (by decide) ?_
  obtain ⟨u3, eu3, h⟩ := am_lt h
  refine px_iast (n := 4) 1 dX7_slideBy_24 rfl (by decide) (by decide) eu3 ?_
  refine ev_iload_n dX7_slideBy_25 0 rfl ?_
  refine ev_if_ge 47 dX7_slideBy_26 (by decide) (fun c4 => ?_) (fun c4 => ?_)
  · have h := am_t c4 h
    refine ev_aload_n dX7_slideBy_47 1 rfl trivial ?_
    refine ev_iload_n dX7_slideBy_48 0 rfl ?_
    obtain ⟨q5, eq5, h⟩ := am_bd h
    refine px_callvi [.int q1.2] (by decide) cl_7 (at7 rfl) dX7_slideBy_49 ok_X7_worksOut lk_RX7_108 in_X7_worksOut se_X7_worksOut (by decide) rfl (c_X7_worksOut eq5) rfl (Nat.le_of_ble_eq_true rfl) ?_
    refine ev_iconst (v := (0 : Int32)) dX7_slideBy_52 kI_0 ?_
    refine ev_iload_n dX7_slideBy_53 2 rfl ?_
    refine ev_iconst (v := (2 : Int32)) dX7_slideBy_54 kI_2 ?_
    refine ev_idiv dX7_slideBy_55 (by decide) ?_
    obtain ⟨q6, eq6, h⟩ := am_bd h
    refine px_callsi [.int q5.2, .int (0 : Int32), .int (l1 / (2 : Int32))] dX7_slideBy_56 ok_X7_within lk_RX7_95 st_X7_within (by decide) rfl (c_X7_within eq6) rfl (Nat.le_of_ble_eq_true rfl) ?_
    obtain rfl := Option.some.inj h
    exact ev_iret dX7_slideBy_59 rfl rfl
  · have h := am_e c4 h
    refine ev_iload_n dX7_slideBy_29 2 rfl ?_
    refine ev_aload_n dX7_slideBy_30 1 rfl trivial ?_
    refine px_getR dX7_slideBy_31 gf_RX7_9 (at7 rfl) (by decide) rfl ?_
    refine ev_iconst (v := (5 : Int32)) dX7_slideBy_34 kI_5 ?_
    refine px_iald (n := 1535) 5 dX7_slideBy_35 rfl (by decide) (by decide) ?_
    refine ev_icmp_le 43 dX7_slideBy_36 (by decide) (fun c7 => ?_) (fun c7 => ?_)
    · have h := am_t c7 h
      refine ev_iconst (v := (0 : Int32)) dX7_slideBy_43 kI_0 ?_
      refine ev_goto 59 dX7_slideBy_44 (by decide) ?_
      obtain rfl := Option.some.inj h
      exact ev_iret dX7_slideBy_59 rfl rfl
    · have h := am_e c7 h
      refine ev_iconst (v := (1 : Int32)) dX7_slideBy_39 kI_1 ?_
      refine ev_goto 59 dX7_slideBy_40 (by decide) ?_
      obtain rfl := Option.some.inj h
      exact ev_iret dX7_slideBy_59 rfl rfl

theorem c_X7_slideBy {X : Nat × (Nat → Int32)} {u : am_MU} {l1 : Int32} {r : am_MU × Int32} (h : f_X7_slideBy u l1 = some r) : am_Cn X M_X7_slideBy [.ref 110, .int l1] (hp u) (hp r.1, some (.int r.2)) := by
  refine am_Cn.of ok_X7_slideBy (Nat.le_refl _) (Nat.le_refl _) (Nat.le_of_ble_eq_true rfl) ?_
  refine ev_loc [0, 1] rfl ?_
  exact l_X7_slideBy_0 u l1 r h

-- SandRipplesModel.tick(I)I
def g_X7_tick_219 (K131 : am_MU → Int32 → Int32 → Int32 → Option (am_MU × Int32)) (u : am_MU) (l1 : Int32) (l4 : Int32) (l5 : Int32) (l7 : Int32) (s0 : Int32) : Option (am_MU × Int32) :=
(f_X7_spot u l1 l5).bind fun q1 =>
if am_in q1.2 1535 then (
am_let (am_u2 q1.1 111 q1.2.toNatClampNeg ((q1.1 111 q1.2.toNatClampNeg) - s0)) fun u3 =>
(f_X7_spot u3 l1 l7).bind fun q4 =>
if am_in q4.2 1535 then (
am_let (am_u2 q4.1 111 q4.2.toNatClampNeg ((q4.1 111 q4.2.toNatClampNeg) + s0)) fun u6 =>
am_let (l4 + s0) fun x7 =>
am_let (l5 + (1 : Int32)) fun x8 =>
K131 u6 l1 x7 x8) else none) else none

def g_X7_tick_202 (K131 : am_MU → Int32 → Int32 → Int32 → Option (am_MU × Int32)) (u : am_MU) (l1 : Int32) (l4 : Int32) (l5 : Int32) (l7 : Int32) (s0 : Int32) : Option (am_MU × Int32) :=
if s0 ≤ 0 then (g_X7_tick_219 K131 u l1 l4 l5 l7 (0 : Int32))
else ((f_X7_slideBy u s0).bind fun q2 =>
g_X7_tick_219 K131 q2.1 l1 l4 l5 l7 q2.2)

def g_X7_tick_173 (K131 : am_MU → Int32 → Int32 → Int32 → Option (am_MU × Int32)) (u : am_MU) (l1 : Int32) (l4 : Int32) (l5 : Int32) (l6 : Int32) (s0 : Int32) : Option (am_MU × Int32) :=
if l6 ≤ 0 then ((f_X7_sandOf u l1 l5).bind fun q2 =>
(f_X7_sandOf q2.1 l1 (l5 - (1 : Int32))).bind fun q3 =>
g_X7_tick_202 K131 q3.1 l1 l4 l5 s0 (q2.2 - q3.2))
else (g_X7_tick_202 K131 u l1 l4 l5 s0 l6)

def g_X7_tick_131  : Nat → am_MU → Int32 → Int32 → Int32 → Option (am_MU × Int32)
  | 0 => fun _ _ _ _ => none
  | n + 1 => fun u l1 l4 l5 =>
if (24 : Int32) ≤ l5 then ((f_X7_at u l1).bind fun q2 =>
if am_in (q2.2 + (1 : Int32)) 1535 then (
am_let (am_u2 q2.1 111 ((q2.2 + (1 : Int32)).toNatClampNeg) ((q2.1 111 ((q2.2 + (1 : Int32)).toNatClampNeg)) + (1 : Int32))) fun u4 =>
some (u4, l4)) else none)
else ((f_X7_sandOf u l1 l5).bind fun q5 =>
(f_X7_sandOf q5.1 l1 (l5 + (1 : Int32))).bind fun q6 =>
am_let (q5.2 - q6.2) fun x7 =>
if x7 ≤ 0 then (g_X7_tick_173 (g_X7_tick_131 n) q6.1 l1 l4 l5 x7 (l5 - (1 : Int32)))
else (g_X7_tick_173 (g_X7_tick_131 n) q6.1 l1 l4 l5 x7 (l5 + (1 : Int32))))

def g_X7_tick_119 (K49 : am_MU → Int32 → Int32 → Int32 → Int32 → Int32 → Option (am_MU × Int32)) (u : am_MU) (l1 : Int32) (l2 : Int32) (l3 : Int32) (l5 : Int32) (s0 : Int32) (s1 : Int32) : Option (am_MU × Int32) :=
am_let (s0 + s1) fun x1 =>
am_let (l5 + (1 : Int32)) fun x2 =>
K49 u l1 l2 l3 x1 x2

def g_X7_tick_49  : Nat → am_MU → Int32 → Int32 → Int32 → Int32 → Int32 → Option (am_MU × Int32)
  | 0 => fun _ _ _ _ _ _ => none
  | n + 1 => fun u l1 l2 l3 l4 l5 =>
if (24 : Int32) ≤ l5 then (g_X7_tick_131 1700 u l1 l4 (0 : Int32))
else ((f_X7_spot u l1 l5).bind fun q2 =>
if am_in q2.2 1535 then (
if am_in l5 24 then (
am_let (am_u2 q2.1 111 q2.2.toNatClampNeg ((q2.1 111 q2.2.toNatClampNeg) - (q2.1 114 l5.toNatClampNeg))) fun u5 =>
(f_X7_spot u5 l1 (l5 + (l2 * l3))).bind fun q6 =>
if am_in q6.2 1535 then (
am_let (am_u2 q6.1 111 q6.2.toNatClampNeg ((q6.1 111 q6.2.toNatClampNeg) + (q6.1 114 l5.toNatClampNeg))) fun u8 =>
if l3 ≤ 0 then (g_X7_tick_119 (g_X7_tick_49 n) u8 l1 l2 l3 l5 l4 (0 : Int32))
else (g_X7_tick_119 (g_X7_tick_49 n) u8 l1 l2 l3 l5 l4 (u8 114 l5.toNatClampNeg))) else none) else none) else none)

def g_X7_tick_18  : Nat → am_MU → Int32 → Int32 → Int32 → Int32 → Int32 → Option (am_MU × Int32)
  | 0 => fun _ _ _ _ _ _ => none
  | n + 1 => fun u l1 l2 l3 l4 l5 =>
if (24 : Int32) ≤ l5 then (g_X7_tick_49 1700 u l1 l2 l3 l4 (0 : Int32))
else ((f_X7_liftOf u l1 l5 l2).bind fun q2 =>
if am_in l5 24 then (
am_let (am_u2 q2.1 114 l5.toNatClampNeg q2.2) fun u4 =>
am_let (l5 + (1 : Int32)) fun x5 =>
g_X7_tick_18 n u4 l1 l2 l3 l4 x5) else none)

def f_X7_tick  (u : am_MU) (l1 : Int32) : Option (am_MU × Int32) :=
(f_X7_wayOf u l1).bind fun q1 =>
(f_X7_reachOf q1.1 l1).bind fun q2 =>
g_X7_tick_18 1700 q2.1 l1 q1.2 q2.2 (0 : Int32) (0 : Int32)

theorem l_X7_tick_219 {X : Nat × (Nat → Int32)} (K131 : am_MU → Int32 → Int32 → Int32 → Option (am_MU × Int32)) (hK131 : ∀ (u : am_MU) (l1 : Int32) (l4 : Int32) (l5 : Int32) (r : am_MU × Int32), K131 u l1 l4 l5 = some r → am_Ev X M_X7_tick 131 [(0, .ref 110), (1, .int l1), (4, .int l4), (5, .int l5)] [] (hp u) (hp r.1, some (.int r.2))) (u : am_MU) (l1 : Int32) (l4 : Int32) (l5 : Int32) (l7 : Int32) (s0 : Int32) (r : am_MU × Int32) (h : g_X7_tick_219 K131 u l1 l4 l5 l7 s0 = some r) : am_Ev X M_X7_tick 219 [(0, .ref 110), (1, .int l1), (4, .int l4), (5, .int l5), (7, .int l7)] [.int s0] (hp u) (hp r.1, some (.int r.2)) := by
  unfold g_X7_tick_219 at h
  refine ev_istore (L' := [(8, .int s0), (0, .ref 110), (1, .int l1), (4, .int l4), (5, .int l5), (7, .int l7)]) dX7_tick_219 (by decide) rfl ?_
  refine ev_aload_n dX7_tick_221 1 rfl trivial ?_
  refine px_getR dX7_tick_222 gf_RX7_9 (at7 rfl) (by decide) rfl ?_
  refine ev_iload_n dX7_tick_225 2 rfl ?_
  refine ev_iload dX7_tick_226 4 rfl ?_
  obtain ⟨q1, eq1, h⟩ := am_bd h
  refine px_callsi [.int l1, .int l5] dX7_tick_228 ok_X7_spot lk_RX7_86 st_X7_spot (by decide) rfl (c_X7_spot eq1) rfl (Nat.le_of_ble_eq_true rfl) ?_
  refine ev_dup2 dX7_tick_231 rfl rfl ?_
  obtain ⟨g2, h⟩ := am_gd h
  refine px_iald (n := 1535) q1.2.toNatClampNeg dX7_tick_232 rfl g2 rfl ?_
  refine ev_iload dX7_tick_233 0 rfl ?_
  refine ev_isub dX7_tick_235 ?_
  obtain ⟨u3, eu3, h⟩ := am_lt h
  refine px_iast (n := 1535) q1.2.toNatClampNeg dX7_tick_236 rfl g2 rfl eu3 ?_
  refine ev_aload_n dX7_tick_237 1 rfl trivial ?_
  refine px_getR dX7_tick_238 gf_RX7_9 (at7 rfl) (by decide) rfl ?_
  refine ev_iload_n dX7_tick_241 2 rfl ?_
  refine ev_iload dX7_tick_242 5 rfl ?_
  obtain ⟨q4, eq4, h⟩ := am_bd h
  refine px_callsi [.int l1, .int l7] dX7_tick_244 ok_X7_spot lk_RX7_86 st_X7_spot (by decide) rfl (c_X7_spot eq4) rfl (Nat.le_of_ble_eq_true rfl) ?_
  refine ev_dup2 dX7_tick_247 rfl rfl ?_
  obtain ⟨g5, h⟩ := am_gd h
  refine px_iald (n := 1535) q4.2.toNatClampNeg dX7_tick_248 rfl g5 rfl ?_
  refine ev_iload dX7_tick_249 0 rfl ?_
  refine ev_iadd dX7_tick_251 ?_
  obtain ⟨u6, eu6, h⟩ := am_lt h
  refine px_iast (n := 1535) q4.2.toNatClampNeg dX7_tick_252 rfl g5 rfl eu6 ?_
  refine ev_iload dX7_tick_253 3 rfl ?_
  refine ev_iload dX7_tick_255 0 rfl ?_
  refine ev_iadd dX7_tick_257 ?_
  obtain ⟨x7, ex7, h⟩ := am_lt h
  refine px_top ex7 ?_
  refine ev_istore (L' := [(4, .int x7), (8, .int s0), (0, .ref 110), (1, .int l1), (5, .int l5), (7, .int l7)]) dX7_tick_258 (by decide) rfl ?_
  obtain ⟨x8, ex8, h⟩ := am_lt h
  refine ev_iinc (v := x8) (L' := [(5, .int x8), (4, .int x7), (8, .int s0), (0, .ref 110), (1, .int l1), (7, .int l7)]) dX7_tick_260 4 rfl (by rw [kI_1, ex8]) (by decide) rfl ?_
  refine ev_goto 131 dX7_tick_263 (by decide) ?_
  refine ev_loc [3, 4, 1, 0] rfl ?_
  exact hK131 u6 l1 x7 x8 _ h

theorem l_X7_tick_202 {X : Nat × (Nat → Int32)} (K131 : am_MU → Int32 → Int32 → Int32 → Option (am_MU × Int32)) (hK131 : ∀ (u : am_MU) (l1 : Int32) (l4 : Int32) (l5 : Int32) (r : am_MU × Int32), K131 u l1 l4 l5 = some r → am_Ev X M_X7_tick 131 [(0, .ref 110), (1, .int l1), (4, .int l4), (5, .int l5)] [] (hp u) (hp r.1, some (.int r.2))) (u : am_MU) (l1 : Int32) (l4 : Int32) (l5 : Int32) (l7 : Int32) (s0 : Int32) (r : am_MU × Int32) (h : g_X7_tick_202 K131 u l1 l4 l5 l7 s0 = some r) : am_Ev X M_X7_tick 202 [(0, .ref 110), (1, .int l1), (4, .int l4), (5, .int l5), (7, .int l7)] [.int s0] (hp u) (hp r.1, some (.int r.2)) := by
  unfold g_X7_tick_202 at h
  refine ev_istore (L' := [(6, .int s0), (0, .ref 110), (1, .int l1), (4, .int l4), (5, .int l5), (7, .int l7)]) dX7_tick_202 (by decide) rfl ?_
  refine ev_iload dX7_tick_204 0 rfl ?_
  refine ev_if_le 218 dX7_tick_206 (by decide) (fun c1 => ?_) (fun c1 => ?_)
  · have h := am_t c1 h
    refine ev_iconst (v := (0 : Int32)) dX7_tick_218 kI_0 ?_
    refine ev_loc [1, 2, 3, 4, 5] rfl ?_
    exact l_X7_tick_219 K131 hK131 u l1 l4 l5 l7 (0 : Int32) _ h
  · have h := am_e c1 h
    refine ev_aload_n dX7_tick_209 1 rfl trivial ?_
    refine ev_iload dX7_tick_210 0 rfl ?_
    obtain ⟨q2, eq2, h⟩ := am_bd h
    refine px_callvi [.int s0] (by decide) cl_7 (at7 rfl) dX7_tick_212 ok_X7_slideBy lk_RX7_162 in_X7_slideBy se_X7_slideBy (by decide) rfl (c_X7_slideBy eq2) rfl (Nat.le_of_ble_eq_true rfl) ?_
    refine ev_goto 219 dX7_tick_215 (by decide) ?_
    refine ev_loc [1, 2, 3, 4, 5] rfl ?_
    exact l_X7_tick_219 K131 hK131 q2.1 l1 l4 l5 l7 q2.2 _ h

theorem l_X7_tick_173 {X : Nat × (Nat → Int32)} (K131 : am_MU → Int32 → Int32 → Int32 → Option (am_MU × Int32)) (hK131 : ∀ (u : am_MU) (l1 : Int32) (l4 : Int32) (l5 : Int32) (r : am_MU × Int32), K131 u l1 l4 l5 = some r → am_Ev X M_X7_tick 131 [(0, .ref 110), (1, .int l1), (4, .int l4), (5, .int l5)] [] (hp u) (hp r.1, some (.int r.2))) (u : am_MU) (l1 : Int32) (l4 : Int32) (l5 : Int32) (l6 : Int32) (s0 : Int32) (r : am_MU × Int32) (h : g_X7_tick_173 K131 u l1 l4 l5 l6 s0 = some r) : am_Ev X M_X7_tick 173 [(0, .ref 110), (1, .int l1), (4, .int l4), (5, .int l5), (6, .int l6)] [.int s0] (hp u) (hp r.1, some (.int r.2)) := by
  unfold g_X7_tick_173 at h
  refine ev_istore (L' := [(7, .int s0), (0, .ref 110), (1, .int l1), (4, .int l4), (5, .int l5), (6, .int l6)]) dX7_tick_173 (by decide) rfl ?_
  refine ev_iload dX7_tick_175 5 rfl ?_
  refine ev_if_le 185 dX7_tick_177 (by decide) (fun c1 => ?_) (fun c1 => ?_)
  · have h := am_t c1 h
    refine ev_aload_n dX7_tick_185 1 rfl trivial ?_
    refine ev_iload_n dX7_tick_186 2 rfl ?_
    refine ev_iload dX7_tick_187 4 rfl ?_
    obtain ⟨q2, eq2, h⟩ := am_bd h
    refine px_callvi [.int l1, .int l5] (by decide) cl_7 (at7 rfl) dX7_tick_189 ok_X7_sandOf lk_RX7_102 in_X7_sandOf se_X7_sandOf (by decide) rfl (c_X7_sandOf eq2) rfl (Nat.le_of_ble_eq_true rfl) ?_
    refine ev_aload_n dX7_tick_192 1 rfl trivial ?_
    refine ev_iload_n dX7_tick_193 2 rfl ?_
    refine ev_iload dX7_tick_194 4 rfl ?_
    refine ev_iconst (v := (1 : Int32)) dX7_tick_196 kI_1 ?_
    refine ev_isub dX7_tick_197 ?_
    obtain ⟨q3, eq3, h⟩ := am_bd h
    refine px_callvi [.int l1, .int (l5 - (1 : Int32))] (by decide) cl_7 (at7 rfl) dX7_tick_198 ok_X7_sandOf lk_RX7_102 in_X7_sandOf se_X7_sandOf (by decide) rfl (c_X7_sandOf eq3) rfl (Nat.le_of_ble_eq_true rfl) ?_
    refine ev_isub dX7_tick_201 ?_
    refine ev_loc [1, 2, 3, 4, 0] rfl ?_
    exact l_X7_tick_202 K131 hK131 q3.1 l1 l4 l5 s0 (q2.2 - q3.2) _ h
  · have h := am_e c1 h
    refine ev_iload dX7_tick_180 5 rfl ?_
    refine ev_goto 202 dX7_tick_182 (by decide) ?_
    refine ev_loc [1, 2, 3, 4, 0] rfl ?_
    exact l_X7_tick_202 K131 hK131 u l1 l4 l5 s0 l6 _ h

theorem l_X7_tick_131 {X : Nat × (Nat → Int32)}   : ∀ (n : Nat) (u : am_MU) (l1 : Int32) (l4 : Int32) (l5 : Int32) (r : am_MU × Int32), g_X7_tick_131  n u l1 l4 l5 = some r → am_Ev X M_X7_tick 131 [(0, .ref 110), (1, .int l1), (4, .int l4), (5, .int l5)] [] (hp u) (hp r.1, some (.int r.2)) := by
  intro n
  induction n with
  | zero => intro u l1 l4 l5 r h; cases h
  | succ n ih =>
    intro u l1 l4 l5 r h
    rw [g_X7_tick_131] at h
    refine ev_iload dX7_tick_131 3 rfl ?_
    refine ev_bipush (v := (24 : Int32)) dX7_tick_133 kB_24 ?_
    refine ev_icmp_ge 266 dX7_tick_135 (by decide) (fun c1 => ?_) (fun c1 => ?_)
    · have h := am_t c1 h
      refine ev_aload_n dX7_tick_266 0 rfl trivial ?_
      refine px_getR dX7_tick_267 gf_RX7_9 (at7 rfl) (by decide) rfl ?_
      refine ev_iload_n dX7_tick_270 1 rfl ?_
      obtain ⟨q2, eq2, h⟩ := am_bd h
      refine px_callsi [.int l1] dX7_tick_271 ok_X7_at lk_RX7_82 st_X7_at (by decide) rfl (c_X7_at eq2) rfl (Nat.le_of_ble_eq_true rfl) ?_
      refine ev_iconst (v := (1 : Int32)) dX7_tick_274 kI_1 ?_
      refine ev_iadd dX7_tick_275 ?_
      refine ev_dup2 dX7_tick_276 rfl rfl ?_
      obtain ⟨g3, h⟩ := am_gd h
      refine px_iald (n := 1535) ((q2.2 + (1 : Int32)).toNatClampNeg) dX7_tick_277 rfl g3 rfl ?_
      refine ev_iconst (v := (1 : Int32)) dX7_tick_278 kI_1 ?_
      refine ev_iadd dX7_tick_279 ?_
      obtain ⟨u4, eu4, h⟩ := am_lt h
      refine px_iast (n := 1535) ((q2.2 + (1 : Int32)).toNatClampNeg) dX7_tick_280 rfl g3 rfl eu4 ?_
      refine ev_iload dX7_tick_281 2 rfl ?_
      obtain rfl := Option.some.inj h
      exact ev_iret dX7_tick_283 rfl rfl
    · have h := am_e c1 h
      refine ev_aload_n dX7_tick_138 0 rfl trivial ?_
      refine ev_iload_n dX7_tick_139 1 rfl ?_
      refine ev_iload dX7_tick_140 3 rfl ?_
      obtain ⟨q5, eq5, h⟩ := am_bd h
      refine px_callvi [.int l1, .int l5] (by decide) cl_7 (at7 rfl) dX7_tick_142 ok_X7_sandOf lk_RX7_102 in_X7_sandOf se_X7_sandOf (by decide) rfl (c_X7_sandOf eq5) rfl (Nat.le_of_ble_eq_true rfl) ?_
      refine ev_aload_n dX7_tick_145 0 rfl trivial ?_
      refine ev_iload_n dX7_tick_146 1 rfl ?_
      refine ev_iload dX7_tick_147 3 rfl ?_
      refine ev_iconst (v := (1 : Int32)) dX7_tick_149 kI_1 ?_
      refine ev_iadd dX7_tick_150 ?_
      obtain ⟨q6, eq6, h⟩ := am_bd h
      refine px_callvi [.int l1, .int (l5 + (1 : Int32))] (by decide) cl_7 (at7 rfl) dX7_tick_151 ok_X7_sandOf lk_RX7_102 in_X7_sandOf se_X7_sandOf (by decide) rfl (c_X7_sandOf eq6) rfl (Nat.le_of_ble_eq_true rfl) ?_
      refine ev_isub dX7_tick_154 ?_
      obtain ⟨x7, ex7, h⟩ := am_lt h
      refine px_top ex7 ?_
      refine ev_istore (L' := [(6, .int x7), (0, .ref 110), (1, .int l1), (4, .int l4), (5, .int l5)]) dX7_tick_155 (by decide) rfl ?_
      refine ev_iload dX7_tick_157 0 rfl ?_
      refine ev_if_le 169 dX7_tick_159 (by decide) (fun c8 => ?_) (fun c8 => ?_)
      · have h := am_t c8 h
        refine ev_iload dX7_tick_169 4 rfl ?_
        refine ev_iconst (v := (1 : Int32)) dX7_tick_171 kI_1 ?_
        refine ev_isub dX7_tick_172 ?_
        refine ev_loc [1, 2, 3, 4, 0] rfl ?_
        exact l_X7_tick_173 (g_X7_tick_131 n) (fun u l1 l4 l5 r h => ih u l1 l4 l5 r h) q6.1 l1 l4 l5 x7 (l5 - (1 : Int32)) _ h
      · have h := am_e c8 h
        refine ev_iload dX7_tick_162 4 rfl ?_
        refine ev_iconst (v := (1 : Int32)) dX7_tick_164 kI_1 ?_
        refine ev_iadd dX7_tick_165 ?_
        refine ev_goto 173 dX7_tick_166 (by decide) ?_
        refine ev_loc [1, 2, 3, 4, 0] rfl ?_
        exact l_X7_tick_173 (g_X7_tick_131 n) (fun u l1 l4 l5 r h => ih u l1 l4 l5 r h) q6.1 l1 l4 l5 x7 (l5 + (1 : Int32)) _ h

theorem l_X7_tick_119 {X : Nat × (Nat → Int32)} (K49 : am_MU → Int32 → Int32 → Int32 → Int32 → Int32 → Option (am_MU × Int32)) (hK49 : ∀ (u : am_MU) (l1 : Int32) (l2 : Int32) (l3 : Int32) (l4 : Int32) (l5 : Int32) (r : am_MU × Int32), K49 u l1 l2 l3 l4 l5 = some r → am_Ev X M_X7_tick 49 [(0, .ref 110), (1, .int l1), (2, .int l2), (3, .int l3), (4, .int l4), (5, .int l5)] [] (hp u) (hp r.1, some (.int r.2))) (u : am_MU) (l1 : Int32) (l2 : Int32) (l3 : Int32) (l5 : Int32) (s0 : Int32) (s1 : Int32) (r : am_MU × Int32) (h : g_X7_tick_119 K49 u l1 l2 l3 l5 s0 s1 = some r) : am_Ev X M_X7_tick 119 [(0, .ref 110), (1, .int l1), (2, .int l2), (3, .int l3), (5, .int l5)] [.int s1, .int s0] (hp u) (hp r.1, some (.int r.2)) := by
  unfold g_X7_tick_119 at h
  refine ev_iadd dX7_tick_119 ?_
  obtain ⟨x1, ex1, h⟩ := am_lt h
  refine px_top ex1 ?_
  refine ev_istore (L' := [(4, .int x1), (0, .ref 110), (1, .int l1), (2, .int l2), (3, .int l3), (5, .int l5)]) dX7_tick_120 (by decide) rfl ?_
  obtain ⟨x2, ex2, h⟩ := am_lt h
  refine ev_iinc (v := x2) (L' := [(5, .int x2), (4, .int x1), (0, .ref 110), (1, .int l1), (2, .int l2), (3, .int l3)]) dX7_tick_122 5 rfl (by rw [kI_1, ex2]) (by decide) rfl ?_
  refine ev_goto 49 dX7_tick_125 (by decide) ?_
  refine ev_loc [2, 3, 4, 5, 1, 0] rfl ?_
  exact hK49 u l1 l2 l3 x1 x2 _ h

theorem l_X7_tick_49 {X : Nat × (Nat → Int32)}   : ∀ (n : Nat) (u : am_MU) (l1 : Int32) (l2 : Int32) (l3 : Int32) (l4 : Int32) (l5 : Int32) (r : am_MU × Int32), g_X7_tick_49  n u l1 l2 l3 l4 l5 = some r → am_Ev X M_X7_tick 49 [(0, .ref 110), (1, .int l1), (2, .int l2), (3, .int l3), (4, .int l4), (5, .int l5)] [] (hp u) (hp r.1, some (.int r.2)) := by
  intro n
  induction n with
  | zero => intro u l1 l2 l3 l4 l5 r h; cases h
  | succ n ih =>
    intro u l1 l2 l3 l4 l5 r h
    rw [g_X7_tick_49] at h
    refine ev_iload dX7_tick_49 5 rfl ?_
    refine ev_bipush (v := (24 : Int32)) dX7_tick_51 kB_24 ?_
    refine ev_icmp_ge 128 dX7_tick_53 (by decide) (fun c1 => ?_) (fun c1 => ?_)
    · have h := am_t c1 h
      refine ev_iconst (v := (0 : Int32)) dX7_tick_128 kI_0 ?_
      refine ev_istore (L' := [(5, .int (0 : Int32)), (0, .ref 110), (1, .int l1), (2, .int l2), (3, .int l3), (4, .int l4)]) dX7_tick_129 (by decide) rfl ?_
      refine ev_loc [1, 2, 5, 0] rfl ?_
      exact l_X7_tick_131   1700 u l1 l4 (0 : Int32) _ h
    · have h := am_e c1 h
      refine ev_aload_n dX7_tick_56 0 rfl trivial ?_
      refine px_getR dX7_tick_57 gf_RX7_9 (at7 rfl) (by decide) rfl ?_
      refine ev_iload_n dX7_tick_60 1 rfl ?_
      refine ev_iload dX7_tick_61 5 rfl ?_
      obtain ⟨q2, eq2, h⟩ := am_bd h
      refine px_callsi [.int l1, .int l5] dX7_tick_63 ok_X7_spot lk_RX7_86 st_X7_spot (by decide) rfl (c_X7_spot eq2) rfl (Nat.le_of_ble_eq_true rfl) ?_
      refine ev_dup2 dX7_tick_66 rfl rfl ?_
      obtain ⟨g3, h⟩ := am_gd h
      refine px_iald (n := 1535) q2.2.toNatClampNeg dX7_tick_67 rfl g3 rfl ?_
      refine ev_aload_n dX7_tick_68 0 rfl trivial ?_
      refine px_getR dX7_tick_69 gf_RX7_19 (at7 rfl) (by decide) rfl ?_
      refine ev_iload dX7_tick_72 5 rfl ?_
      obtain ⟨g4, h⟩ := am_gd h
      refine px_iald (n := 24) l5.toNatClampNeg dX7_tick_74 rfl g4 rfl ?_
      refine ev_isub dX7_tick_75 ?_
      obtain ⟨u5, eu5, h⟩ := am_lt h
      refine px_iast (n := 1535) q2.2.toNatClampNeg dX7_tick_76 rfl g3 rfl eu5 ?_
      refine ev_aload_n dX7_tick_77 0 rfl trivial ?_
      refine px_getR dX7_tick_78 gf_RX7_9 (at7 rfl) (by decide) rfl ?_
      refine ev_iload_n dX7_tick_81 1 rfl ?_
      refine ev_iload dX7_tick_82 5 rfl ?_
      refine ev_iload_n dX7_tick_84 2 rfl ?_
      refine ev_iload_n dX7_tick_85 3 rfl ?_
      refine ev_imul dX7_tick_86 ?_
      refine ev_iadd dX7_tick_87 ?_
      obtain ⟨q6, eq6, h⟩ := am_bd h
      refine px_callsi [.int l1, .int (l5 + (l2 * l3))] dX7_tick_88 ok_X7_spot lk_RX7_86 st_X7_spot (by decide) rfl (c_X7_spot eq6) rfl (Nat.le_of_ble_eq_true rfl) ?_
      refine ev_dup2 dX7_tick_91 rfl rfl ?_
      obtain ⟨g7, h⟩ := am_gd h
      refine px_iald (n := 1535) q6.2.toNatClampNeg dX7_tick_92 rfl g7 rfl ?_
      refine ev_aload_n dX7_tick_93 0 rfl trivial ?_
      refine px_getR dX7_tick_94 gf_RX7_19 (at7 rfl) (by decide) rfl ?_
      refine ev_iload dX7_tick_97 5 rfl ?_
      refine px_iald (n := 24) l5.toNatClampNeg dX7_tick_99 rfl g4 rfl ?_
      refine ev_iadd dX7_tick_100 ?_
      obtain ⟨u8, eu8, h⟩ := am_lt h
      refine px_iast (n := 1535) q6.2.toNatClampNeg dX7_tick_101 rfl g7 rfl eu8 ?_
      refine ev_iload dX7_tick_102 4 rfl ?_
      refine ev_iload_n dX7_tick_104 3 rfl ?_
      refine ev_if_le 118 dX7_tick_105 (by decide) (fun c9 => ?_) (fun c9 => ?_)
      · have h := am_t c9 h
        refine ev_iconst (v := (0 : Int32)) dX7_tick_118 kI_0 ?_
        refine ev_loc [0, 1, 2, 3, 5] rfl ?_
        exact l_X7_tick_119 (g_X7_tick_49 n) (fun u l1 l2 l3 l4 l5 r h => ih u l1 l2 l3 l4 l5 r h) u8 l1 l2 l3 l5 l4 (0 : Int32) _ h
      · have h := am_e c9 h
        refine ev_aload_n dX7_tick_108 0 rfl trivial ?_
        refine px_getR dX7_tick_109 gf_RX7_19 (at7 rfl) (by decide) rfl ?_
        refine ev_iload dX7_tick_112 5 rfl ?_
        refine px_iald (n := 24) l5.toNatClampNeg dX7_tick_114 rfl g4 rfl ?_
        refine ev_goto 119 dX7_tick_115 (by decide) ?_
        refine ev_loc [0, 1, 2, 3, 5] rfl ?_
        exact l_X7_tick_119 (g_X7_tick_49 n) (fun u l1 l2 l3 l4 l5 r h => ih u l1 l2 l3 l4 l5 r h) u8 l1 l2 l3 l5 l4 (u8 114 l5.toNatClampNeg) _ h

theorem l_X7_tick_18 {X : Nat × (Nat → Int32)}   : ∀ (n : Nat) (u : am_MU) (l1 : Int32) (l2 : Int32) (l3 : Int32) (l4 : Int32) (l5 : Int32) (r : am_MU × Int32), g_X7_tick_18  n u l1 l2 l3 l4 l5 = some r → am_Ev X M_X7_tick 18 [(0, .ref 110), (1, .int l1), (2, .int l2), (3, .int l3), (4, .int l4), (5, .int l5)] [] (hp u) (hp r.1, some (.int r.2)) := by
  intro n
  induction n with
  | zero => intro u l1 l2 l3 l4 l5 r h; cases h
  | succ n ih =>
    intro u l1 l2 l3 l4 l5 r h
    rw [g_X7_tick_18] at h
    refine ev_iload dX7_tick_18 5 rfl ?_
    refine ev_bipush (v := (24 : Int32)) dX7_tick_20 kB_24 ?_
    refine ev_icmp_ge 46 dX7_tick_22 (by decide) (fun c1 => ?_) (fun c1 => ?_)
    · have h := am_t c1 h
      refine ev_iconst (v := (0 : Int32)) dX7_tick_46 kI_0 ?_
      refine ev_istore (L' := [(5, .int (0 : Int32)), (0, .ref 110), (1, .int l1), (2, .int l2), (3, .int l3), (4, .int l4)]) dX7_tick_47 (by decide) rfl ?_
      refine ev_loc [1, 2, 3, 4, 5, 0] rfl ?_
      exact l_X7_tick_49   1700 u l1 l2 l3 l4 (0 : Int32) _ h
    · have h := am_e c1 h
      refine ev_aload_n dX7_tick_25 0 rfl trivial ?_
      refine px_getR dX7_tick_26 gf_RX7_19 (at7 rfl) (by decide) rfl ?_
      refine ev_iload dX7_tick_29 5 rfl ?_
      refine ev_aload_n dX7_tick_31 0 rfl trivial ?_
      refine ev_iload_n dX7_tick_32 1 rfl ?_
      refine ev_iload dX7_tick_33 5 rfl ?_
      refine ev_iload_n dX7_tick_35 2 rfl ?_
      obtain ⟨q2, eq2, h⟩ := am_bd h
      refine px_callvi [.int l1, .int l5, .int l2] (by decide) cl_7 (at7 rfl) dX7_tick_36 ok_X7_liftOf lk_RX7_159 in_X7_liftOf se_X7_liftOf (by decide) rfl (c_X7_liftOf eq2) rfl (Nat.le_of_ble_eq_true rfl) ?_
      obtain ⟨g3, h⟩ := am_gd h
      obtain ⟨u4, eu4, h⟩ := am_lt h
      refine px_iast (n := 24) l5.toNatClampNeg dX7_tick_39 rfl g3 rfl eu4 ?_
      obtain ⟨x5, ex5, h⟩ := am_lt h
      refine ev_iinc (v := x5) (L' := [(5, .int x5), (0, .ref 110), (1, .int l1), (2, .int l2), (3, .int l3), (4, .int l4)]) dX7_tick_40 5 rfl (by rw [kI_1, ex5]) (by decide) rfl ?_
      refine ev_goto 18 dX7_tick_43 (by decide) ?_
      refine ev_loc [1, 2, 3, 4, 5, 0] rfl ?_
      exact ih u4 l1 l2 l3 l4 x5 _ h

theorem l_X7_tick_0 {X : Nat × (Nat → Int32)}   (u : am_MU) (l1 : Int32) (r : am_MU × Int32) (h : f_X7_tick  u l1 = some r) : am_Ev X M_X7_tick 0 [(0, .ref 110), (1, .int l1)] [] (hp u) (hp r.1, some (.int r.2)) := by
  unfold f_X7_tick at h
  refine ev_aload_n dX7_tick_0 0 rfl trivial ?_
  refine ev_iload_n dX7_tick_1 1 rfl ?_
  obtain ⟨q1, eq1, h⟩ := am_bd h
  refine px_callvi [.int l1] (by decide) cl_7 (at7 rfl) dX7_tick_2 ok_X7_wayOf lk_RX7_138 in_X7_wayOf se_X7_wayOf (by decide) rfl (c_X7_wayOf eq1) rfl (Nat.le_of_ble_eq_true rfl) ?_
  refine ev_istore_n (L' := [(2, .int q1.2), (0, .ref 110), (1, .int l1)]) dX7_tick_5 (by decide) rfl ?_
  refine ev_aload_n dX7_tick_6 1 rfl trivial ?_
  refine ev_iload_n dX7_tick_7 2 rfl ?_
  obtain ⟨q2, eq2, h⟩ := am_bd h
  refine px_callvi [.int l1] (by decide) cl_7 (at7 rfl) dX7_tick_8 ok_X7_reachOf lk_RX7_135 in_X7_reachOf se_X7_reachOf (by decide) rfl (c_X7_reachOf eq2) rfl (Nat.le_of_ble_eq_true rfl) ?_
  refine ev_istore_n (L' := [(3, .int q2.2), (2, .int q1.2), (0, .ref 110), (1, .int l1)]) dX7_tick_11 (by decide) rfl ?_
  refine ev_iconst (v := (0 : Int32)) dX7_tick_12 kI_0 ?_
  refine ev_istore (L' := [(4, .int (0 : Int32)), (3, .int q2.2), (2, .int q1.2), (0, .ref 110), (1, .int l1)]) dX7_tick_13 (by decide) rfl ?_
  refine ev_iconst (v := (0 : Int32)) dX7_tick_15 kI_0 ?_
  refine ev_istore (L' := [(5, .int (0 : Int32)), (4, .int (0 : Int32)), (3, .int q2.2), (2, .int q1.2), (0, .ref 110), (1, .int l1)]) dX7_tick_16 (by decide) rfl ?_
  refine ev_loc [4, 5, 3, 2, 1, 0] rfl ?_
  exact l_X7_tick_18   1700 q2.1 l1 q1.2 q2.2 (0 : Int32) (0 : Int32) _ h

theorem c_X7_tick {X : Nat × (Nat → Int32)} {u : am_MU} {l1 : Int32} {r : am_MU × Int32} (h : f_X7_tick u l1 = some r) : am_Cn X M_X7_tick [.ref 110, .int l1] (hp u) (hp r.1, some (.int r.2)) := by
  refine am_Cn.of ok_X7_tick (Nat.le_refl _) (Nat.le_refl _) (Nat.le_of_ble_eq_true rfl) ?_
  refine ev_loc [0, 1] rfl ?_
  exact l_X7_tick_0 u l1 r h

-- SandRipplesModel.ticks(II)I
def g_X7_ticks_5  : Nat → am_MU → Int32 → Int32 → Int32 → Int32 → Option (am_MU × Int32)
  | 0 => fun _ _ _ _ _ => none
  | n + 1 => fun u l1 l2 l3 l4 =>
if l2 ≤ l4 then (some (u, l3))
else ((f_X7_tick u l1).bind fun q2 =>
am_let (l3 + q2.2) fun x3 =>
am_let (l4 + (1 : Int32)) fun x4 =>
g_X7_ticks_5 n q2.1 l1 l2 x3 x4)

def f_X7_ticks  (u : am_MU) (l1 : Int32) (l2 : Int32) : Option (am_MU × Int32) :=
g_X7_ticks_5 1700 u l1 l2 (0 : Int32) (0 : Int32)

theorem l_X7_ticks_5 {X : Nat × (Nat → Int32)}   : ∀ (n : Nat) (u : am_MU) (l1 : Int32) (l2 : Int32) (l3 : Int32) (l4 : Int32) (r : am_MU × Int32), g_X7_ticks_5  n u l1 l2 l3 l4 = some r → am_Ev X M_X7_ticks 5 [(0, .ref 110), (1, .int l1), (2, .int l2), (3, .int l3), (4, .int l4)] [] (hp u) (hp r.1, some (.int r.2)) := by
  intro n
  induction n with
  | zero => intro u l1 l2 l3 l4 r h; cases h
  | succ n ih =>
    intro u l1 l2 l3 l4 r h
    rw [g_X7_ticks_5] at h
    refine ev_iload dX7_ticks_5 4 rfl ?_
    refine ev_iload_n dX7_ticks_7 2 rfl ?_
    refine ev_icmp_ge 25 dX7_ticks_8 (by decide) (fun c1 => ?_) (fun c1 => ?_)
    · have h := am_t c1 h
      refine ev_iload_n dX7_ticks_25 3 rfl ?_
      obtain rfl := Option.some.inj h
      exact ev_iret dX7_ticks_26 rfl rfl
    · have h := am_e c1 h
      refine ev_iload_n dX7_ticks_11 3 rfl ?_
      refine ev_aload_n dX7_ticks_12 0 rfl trivial ?_
      refine ev_iload_n dX7_ticks_13 1 rfl ?_
      obtain ⟨q2, eq2, h⟩ := am_bd h
      refine px_callvi [.int l1] (by decide) cl_7 (at7 rfl) dX7_ticks_14 ok_X7_tick lk_RX7_165 in_X7_tick se_X7_tick (by decide) rfl (c_X7_tick eq2) rfl (Nat.le_of_ble_eq_true rfl) ?_
      refine ev_iadd dX7_ticks_17 ?_
      obtain ⟨x3, ex3, h⟩ := am_lt h
      refine px_top ex3 ?_
      refine ev_istore_n (L' := [(3, .int x3), (0, .ref 110), (1, .int l1), (2, .int l2), (4, .int l4)]) dX7_ticks_18 (by decide) rfl ?_
      obtain ⟨x4, ex4, h⟩ := am_lt h
      refine ev_iinc (v := x4) (L' := [(4, .int x4), (3, .int x3), (0, .ref 110), (1, .int l1), (2, .int l2)]) dX7_ticks_19 4 rfl (by rw [kI_1, ex4]) (by decide) rfl ?_
      refine ev_goto 5 dX7_ticks_22 (by decide) ?_
      refine ev_loc [2, 3, 4, 1, 0] rfl ?_
      exact ih q2.1 l1 l2 x3 x4 _ h

theorem l_X7_ticks_0 {X : Nat × (Nat → Int32)}   (u : am_MU) (l1 : Int32) (l2 : Int32) (r : am_MU × Int32) (h : f_X7_ticks  u l1 l2 = some r) : am_Ev X M_X7_ticks 0 [(0, .ref 110), (1, .int l1), (2, .int l2)] [] (hp u) (hp r.1, some (.int r.2)) := by
  unfold f_X7_ticks at h
  refine ev_iconst (v := (0 : Int32)) dX7_ticks_0 kI_0 ?_
  refine ev_istore_n (L' := [(3, .int (0 : Int32)), (0, .ref 110), (1, .int l1), (2, .int l2)]) dX7_ticks_1 (by decide) rfl ?_
  refine ev_iconst (v := (0 : Int32)) dX7_ticks_2 kI_0 ?_
  refine ev_istore (L' := [(4, .int (0 : Int32)), (3, .int (0 : Int32)), (0, .ref 110), (1, .int l1), (2, .int l2)]) dX7_ticks_3 (by decide) rfl ?_
  refine ev_loc [2, 3, 4, 1, 0] rfl ?_
  exact l_X7_ticks_5   1700 u l1 l2 (0 : Int32) (0 : Int32) _ h

theorem c_X7_ticks {X : Nat × (Nat → Int32)} {u : am_MU} {l1 : Int32} {l2 : Int32} {r : am_MU × Int32} (h : f_X7_ticks u l1 l2 = some r) : am_Cn X M_X7_ticks [.ref 110, .int l1, .int l2] (hp u) (hp r.1, some (.int r.2)) := by
  refine am_Cn.of ok_X7_ticks (Nat.le_refl _) (Nat.le_refl _) (Nat.le_of_ble_eq_true rfl) ?_
  refine ev_loc [0, 1, 2] rfl ?_
  exact l_X7_ticks_0 u l1 l2 r h

-- SandRipplesModel.run(II)I
def f_X7_run  (u : am_MU) (l1 : Int32) (l2 : Int32) : Option (am_MU × Int32) :=
(f_X7_isFloor u l1).bind fun q1 =>
if q1.2 = 0 then (some (q1.1, ((-1000000001) : Int32)))
else ((f_X7_in q1.1 l2 (1 : Int32) (60 : Int32)).bind fun q3 =>
if q3.2 = 0 then (some (q3.1, ((-1000000001) : Int32)))
else ((f_X7_ticks q3.1 l1 l2).bind fun q5 =>
some (q5.1, q5.2)))

theorem l_X7_run_0 {X : Nat × (Nat → Int32)}   (u : am_MU) (l1 : Int32) (l2 : Int32) (r : am_MU × Int32) (h : f_X7_run  u l1 l2 = some r) : am_Ev X M_X7_run 0 [(0, .ref 110), (1, .int l1), (2, .int l2)] [] (hp u) (hp r.1, some (.int r.2)) := by
  unfold f_X7_run at h
  refine ev_aload_n dX7_run_0 0 rfl trivial ?_
  refine ev_iload_n dX7_run_1 1 rfl ?_
  obtain ⟨q1, eq1, h⟩ := am_bd h
  refine px_callvi [.int l1] (by decide) cl_7 (at7 rfl) dX7_run_2 ok_X7_isFloor lk_RX7_128 in_X7_isFloor se_X7_isFloor (by decide) rfl (c_X7_isFloor eq1) rfl (Nat.le_of_ble_eq_true rfl) ?_
  refine ev_if_eq 27 dX7_run_5 (by decide) (fun c2 => ?_) (fun c2 => ?_)
  · have h := am_t c2 h
    refine ev_ldc (v := ((-1000000001) : Int32)) dX7_run_27 tw_933 ?_
    obtain rfl := Option.some.inj h
    exact ev_iret dX7_run_29 rfl rfl
  · have h := am_e c2 h
    refine ev_iload_n dX7_run_8 2 rfl ?_
    refine ev_iconst (v := (1 : Int32)) dX7_run_9 kI_1 ?_
    refine ev_bipush (v := (60 : Int32)) dX7_run_10 kB_60 ?_
    obtain ⟨q3, eq3, h⟩ := am_bd h
    refine px_callsi [.int l2, .int (1 : Int32), .int (60 : Int32)] dX7_run_12 ok_X7_in lk_RX7_78 st_X7_in (by decide) rfl (c_X7_in eq3) rfl (Nat.le_of_ble_eq_true rfl) ?_
    refine ev_if_eq 27 dX7_run_15 (by decide) (fun c4 => ?_) (fun c4 => ?_)
    · have h := am_t c4 h
      refine ev_ldc (v := ((-1000000001) : Int32)) dX7_run_27 tw_933 ?_
      obtain rfl := Option.some.inj h
      exact ev_iret dX7_run_29 rfl rfl
    · have h := am_e c4 h
      refine ev_aload_n dX7_run_18 0 rfl trivial ?_
      refine ev_iload_n dX7_run_19 1 rfl ?_
      refine ev_iload_n dX7_run_20 2 rfl ?_
      obtain ⟨q5, eq5, h⟩ := am_bd h
      refine px_callvi [.int l1, .int l2] (by decide) cl_7 (at7 rfl) dX7_run_21 ok_X7_ticks lk_RX7_168 in_X7_ticks se_X7_ticks (by decide) rfl (c_X7_ticks eq5) rfl (Nat.le_of_ble_eq_true rfl) ?_
      refine ev_goto 29 dX7_run_24 (by decide) ?_
      obtain rfl := Option.some.inj h
      exact ev_iret dX7_run_29 rfl rfl

theorem c_X7_run {X : Nat × (Nat → Int32)} {u : am_MU} {l1 : Int32} {l2 : Int32} {r : am_MU × Int32} (h : f_X7_run u l1 l2 = some r) : am_Cn X M_X7_run [.ref 110, .int l1, .int l2] (hp u) (hp r.1, some (.int r.2)) := by
  refine am_Cn.of ok_X7_run (Nat.le_refl _) (Nat.le_refl _) (Nat.le_of_ble_eq_true rfl) ?_
  refine ev_loc [0, 1, 2] rfl ?_
  exact l_X7_run_0 u l1 l2 r h

-- SandRipplesModel.crest(II)I
def g_X7_crest_43 (K20 : am_MU → Int32 → Int32 → Int32 → Int32 → Option (am_MU × Int32)) (u : am_MU) (l1 : Int32) (l2 : Int32) (l4 : Int32) (s0 : Int32) (s1 : Int32) : Option (am_MU × Int32) :=
am_let (s0 + s1) fun x1 =>
if x1 = l2 then (some (u, l4))
else (am_let (l4 + (1 : Int32)) fun x3 =>
K20 u l1 l2 x1 x3)

def g_X7_crest_20  : Nat → am_MU → Int32 → Int32 → Int32 → Int32 → Option (am_MU × Int32)
  | 0 => fun _ _ _ _ _ => none
  | n + 1 => fun u l1 l2 l3 l4 =>
if (24 : Int32) ≤ l4 then (some (u, ((-1000000005) : Int32)))
else ((f_X7_isCrest u l1 l4).bind fun q2 =>
if q2.2 = 0 then (g_X7_crest_43 (g_X7_crest_20 n) q2.1 l1 l2 l4 l3 (0 : Int32))
else (g_X7_crest_43 (g_X7_crest_20 n) q2.1 l1 l2 l4 l3 (1 : Int32)))

def f_X7_crest  (u : am_MU) (l1 : Int32) (l2 : Int32) : Option (am_MU × Int32) :=
(f_X7_isFloor u l1).bind fun q1 =>
if q1.2 = 0 then (some (q1.1, ((-1000000001) : Int32)))
else (if 0 ≤ l2 then (g_X7_crest_20 1700 q1.1 l1 l2 ((-1) : Int32) (0 : Int32))
else (some (q1.1, ((-1000000001) : Int32))))

theorem l_X7_crest_43 {X : Nat × (Nat → Int32)} (K20 : am_MU → Int32 → Int32 → Int32 → Int32 → Option (am_MU × Int32)) (hK20 : ∀ (u : am_MU) (l1 : Int32) (l2 : Int32) (l3 : Int32) (l4 : Int32) (r : am_MU × Int32), K20 u l1 l2 l3 l4 = some r → am_Ev X M_X7_crest 20 [(0, .ref 110), (1, .int l1), (2, .int l2), (3, .int l3), (4, .int l4)] [] (hp u) (hp r.1, some (.int r.2))) (u : am_MU) (l1 : Int32) (l2 : Int32) (l4 : Int32) (s0 : Int32) (s1 : Int32) (r : am_MU × Int32) (h : g_X7_crest_43 K20 u l1 l2 l4 s0 s1 = some r) : am_Ev X M_X7_crest 43 [(0, .ref 110), (1, .int l1), (2, .int l2), (4, .int l4)] [.int s1, .int s0] (hp u) (hp r.1, some (.int r.2)) := by
  unfold g_X7_crest_43 at h
  refine ev_iadd dX7_crest_43 ?_
  obtain ⟨x1, ex1, h⟩ := am_lt h
  refine px_top ex1 ?_
  refine ev_istore_n (L' := [(3, .int x1), (0, .ref 110), (1, .int l1), (2, .int l2), (4, .int l4)]) dX7_crest_44 (by decide) rfl ?_
  refine ev_iload_n dX7_crest_45 0 rfl ?_
  refine ev_iload_n dX7_crest_46 3 rfl ?_
  refine ev_icmp_ne 53 dX7_crest_47 (by decide) (fun c2 => ?_) (fun c2 => ?_)
  · have h := am_e c2 h
    obtain ⟨x3, ex3, h⟩ := am_lt h
    refine ev_iinc (v := x3) (L' := [(4, .int x3), (3, .int x1), (0, .ref 110), (1, .int l1), (2, .int l2)]) dX7_crest_53 4 rfl (by rw [kI_1, ex3]) (by decide) rfl ?_
    refine ev_goto 20 dX7_crest_56 (by decide) ?_
    refine ev_loc [2, 3, 4, 1, 0] rfl ?_
    exact hK20 u l1 l2 x1 x3 _ h
  · have h := am_t c2 h
    refine ev_iload dX7_crest_50 4 rfl ?_
    obtain rfl := Option.some.inj h
    exact ev_iret dX7_crest_52 rfl rfl

theorem l_X7_crest_20 {X : Nat × (Nat → Int32)}   : ∀ (n : Nat) (u : am_MU) (l1 : Int32) (l2 : Int32) (l3 : Int32) (l4 : Int32) (r : am_MU × Int32), g_X7_crest_20  n u l1 l2 l3 l4 = some r → am_Ev X M_X7_crest 20 [(0, .ref 110), (1, .int l1), (2, .int l2), (3, .int l3), (4, .int l4)] [] (hp u) (hp r.1, some (.int r.2)) := by
  intro n
  induction n with
  | zero => intro u l1 l2 l3 l4 r h; cases h
  | succ n ih =>
    intro u l1 l2 l3 l4 r h
    rw [g_X7_crest_20] at h
    refine ev_iload dX7_crest_20 4 rfl ?_
    refine ev_bipush (v := (24 : Int32)) dX7_crest_22 kB_24 ?_
    refine ev_icmp_ge 59 dX7_crest_24 (by decide) (fun c1 => ?_) (fun c1 => ?_)
    · have h := am_t c1 h
      refine ev_ldc (v := ((-1000000005) : Int32)) dX7_crest_59 tw_1083 ?_
      obtain rfl := Option.some.inj h
      exact ev_iret dX7_crest_61 rfl rfl
    · have h := am_e c1 h
      refine ev_iload_n dX7_crest_27 3 rfl ?_
      refine ev_aload_n dX7_crest_28 0 rfl trivial ?_
      refine ev_iload_n dX7_crest_29 1 rfl ?_
      refine ev_iload dX7_crest_30 4 rfl ?_
      obtain ⟨q2, eq2, h⟩ := am_bd h
      refine px_callvi [.int l1, .int l4] (by decide) cl_7 (at7 rfl) dX7_crest_32 ok_X7_isCrest lk_RX7_111 in_X7_isCrest se_X7_isCrest (by decide) rfl (c_X7_isCrest eq2) rfl (Nat.le_of_ble_eq_true rfl) ?_
      refine ev_if_eq 42 dX7_crest_35 (by decide) (fun c3 => ?_) (fun c3 => ?_)
      · have h := am_t c3 h
        refine ev_iconst (v := (0 : Int32)) dX7_crest_42 kI_0 ?_
        refine ev_loc [0, 1, 2, 4] rfl ?_
        exact l_X7_crest_43 (g_X7_crest_20 n) (fun u l1 l2 l3 l4 r h => ih u l1 l2 l3 l4 r h) q2.1 l1 l2 l4 l3 (0 : Int32) _ h
      · have h := am_e c3 h
        refine ev_iconst (v := (1 : Int32)) dX7_crest_38 kI_1 ?_
        refine ev_goto 43 dX7_crest_39 (by decide) ?_
        refine ev_loc [0, 1, 2, 4] rfl ?_
        exact l_X7_crest_43 (g_X7_crest_20 n) (fun u l1 l2 l3 l4 r h => ih u l1 l2 l3 l4 r h) q2.1 l1 l2 l4 l3 (1 : Int32) _ h

theorem l_X7_crest_0 {X : Nat × (Nat → Int32)}   (u : am_MU) (l1 : Int32) (l2 : Int32) (r : am_MU × Int32) (h : f_X7_crest  u l1 l2 = some r) : am_Ev X M_X7_crest 0 [(0, .ref 110), (1, .int l1), (2, .int l2)] [] (hp u) (hp r.1, some (.int r.2)) := by
  unfold f_X7_crest at h
  refine ev_aload_n dX7_crest_0 0 rfl trivial ?_
  refine ev_iload_n dX7_crest_1 1 rfl ?_
  obtain ⟨q1, eq1, h⟩ := am_bd h
  refine px_callvi [.int l1] (by decide) cl_7 (at7 rfl) dX7_crest_2 ok_X7_isFloor lk_RX7_128 in_X7_isFloor se_X7_isFloor (by decide) rfl (c_X7_isFloor eq1) rfl (Nat.le_of_ble_eq_true rfl) ?_
  refine ev_if_eq 12 dX7_crest_5 (by decide) (fun c2 => ?_) (fun c2 => ?_)
  · have h := am_t c2 h
    refine ev_ldc (v := ((-1000000001) : Int32)) dX7_crest_12 tw_933 ?_
    obtain rfl := Option.some.inj h
    exact ev_iret dX7_crest_14 rfl rfl
  · have h := am_e c2 h
    refine ev_iload_n dX7_crest_8 2 rfl ?_
    refine ev_if_ge 15 dX7_crest_9 (by decide) (fun c3 => ?_) (fun c3 => ?_)
    · have h := am_t c3 h
      refine ev_iconst (v := ((-1) : Int32)) dX7_crest_15 kI_m1 ?_
      refine ev_istore_n (L' := [(3, .int ((-1) : Int32)), (0, .ref 110), (1, .int l1), (2, .int l2)]) dX7_crest_16 (by decide) rfl ?_
      refine ev_iconst (v := (0 : Int32)) dX7_crest_17 kI_0 ?_
      refine ev_istore (L' := [(4, .int (0 : Int32)), (3, .int ((-1) : Int32)), (0, .ref 110), (1, .int l1), (2, .int l2)]) dX7_crest_18 (by decide) rfl ?_
      refine ev_loc [2, 3, 4, 1, 0] rfl ?_
      exact l_X7_crest_20   1700 q1.1 l1 l2 ((-1) : Int32) (0 : Int32) _ h
    · have h := am_e c3 h
      refine ev_ldc (v := ((-1000000001) : Int32)) dX7_crest_12 tw_933 ?_
      obtain rfl := Option.some.inj h
      exact ev_iret dX7_crest_14 rfl rfl

theorem c_X7_crest {X : Nat × (Nat → Int32)} {u : am_MU} {l1 : Int32} {l2 : Int32} {r : am_MU × Int32} (h : f_X7_crest u l1 l2 = some r) : am_Cn X M_X7_crest [.ref 110, .int l1, .int l2] (hp u) (hp r.1, some (.int r.2)) := by
  refine am_Cn.of ok_X7_crest (Nat.le_refl _) (Nat.le_refl _) (Nat.le_of_ble_eq_true rfl) ?_
  refine ev_loc [0, 1, 2] rfl ?_
  exact l_X7_crest_0 u l1 l2 r h

-- SandRipplesModel.apart(I)I
def f_X7_apart  (u : am_MU) (l1 : Int32) : Option (am_MU × Int32) :=
(f_X7_isFloor u l1).bind fun q1 =>
if q1.2 = 0 then (some (q1.1, ((-1000000001) : Int32)))
else ((f_X7_crestsOf q1.1 l1).bind fun q3 =>
if q3.2 = 0 then (some (q3.1, ((-1000000005) : Int32)))
else (if ¬ q3.2 = 0 then (
some (q3.1, (2400 : Int32) / q3.2)) else none))

theorem l_X7_apart_0 {X : Nat × (Nat → Int32)}   (u : am_MU) (l1 : Int32) (r : am_MU × Int32) (h : f_X7_apart  u l1 = some r) : am_Ev X M_X7_apart 0 [(0, .ref 110), (1, .int l1)] [] (hp u) (hp r.1, some (.int r.2)) := by
  unfold f_X7_apart at h
  refine ev_aload_n dX7_apart_0 0 rfl trivial ?_
  refine ev_iload_n dX7_apart_1 1 rfl ?_
  obtain ⟨q1, eq1, h⟩ := am_bd h
  refine px_callvi [.int l1] (by decide) cl_7 (at7 rfl) dX7_apart_2 ok_X7_isFloor lk_RX7_128 in_X7_isFloor se_X7_isFloor (by decide) rfl (c_X7_isFloor eq1) rfl (Nat.le_of_ble_eq_true rfl) ?_
  refine ev_if_ne 11 dX7_apart_5 (by decide) (fun c2 => ?_) (fun c2 => ?_)
  · have h := am_e c2 h
    refine ev_aload_n dX7_apart_11 0 rfl trivial ?_
    refine ev_iload_n dX7_apart_12 1 rfl ?_
    obtain ⟨q3, eq3, h⟩ := am_bd h
    refine px_callvi [.int l1] (by decide) cl_7 (at7 rfl) dX7_apart_13 ok_X7_crestsOf lk_RX7_119 in_X7_crestsOf se_X7_crestsOf (by decide) rfl (c_X7_crestsOf eq3) rfl (Nat.le_of_ble_eq_true rfl) ?_
    refine ev_istore_n (L' := [(2, .int q3.2), (0, .ref 110), (1, .int l1)]) dX7_apart_16 (by decide) rfl ?_
    refine ev_iload_n dX7_apart_17 0 rfl ?_
    refine ev_if_ne 26 dX7_apart_18 (by decide) (fun c4 => ?_) (fun c4 => ?_)
    · have h := am_e c4 h
      refine ev_sipush (v := (2400 : Int32)) dX7_apart_26 kS_2400 ?_
      refine ev_iload_n dX7_apart_29 0 rfl ?_
      obtain ⟨g5, h⟩ := am_gd h
      refine ev_idiv dX7_apart_30 g5 ?_
      obtain rfl := Option.some.inj h
      exact ev_iret dX7_apart_31 rfl rfl
    · have h := am_t c4 h
      refine ev_ldc (v := ((-1000000005) : Int32)) dX7_apart_21 tw_1083 ?_
      refine ev_goto 31 dX7_apart_23 (by decide) ?_
      obtain rfl := Option.some.inj h
      exact ev_iret dX7_apart_31 rfl rfl
  · have h := am_t c2 h
    refine ev_ldc (v := ((-1000000001) : Int32)) dX7_apart_8 tw_933 ?_
    obtain rfl := Option.some.inj h
    exact ev_iret dX7_apart_10 rfl rfl

theorem c_X7_apart {X : Nat × (Nat → Int32)} {u : am_MU} {l1 : Int32} {r : am_MU × Int32} (h : f_X7_apart u l1 = some r) : am_Cn X M_X7_apart [.ref 110, .int l1] (hp u) (hp r.1, some (.int r.2)) := by
  refine am_Cn.of ok_X7_apart (Nat.le_refl _) (Nat.le_refl _) (Nat.le_of_ble_eq_true rfl) ?_
  refine ev_loc [0, 1] rfl ?_
  exact l_X7_apart_0 u l1 r h

-- SandRipplesModel.flat(II)I
def g_X7_flat_23  : Nat → am_MU → Int32 → Int32 → Int32 → Option (am_MU × Int32)
  | 0 => fun _ _ _ _ => none
  | n + 1 => fun u l1 l2 l3 =>
if (24 : Int32) ≤ l3 then (some (u, (1 : Int32)))
else ((f_X7_sandOf u l1 l3).bind fun q2 =>
(f_X7_sandOf q2.1 l1 (l3 + (1 : Int32))).bind fun q3 =>
(f_X7_in q3.1 (q2.2 - q3.2) (-l2) l2).bind fun q4 =>
if q4.2 = 0 then (some (q4.1, (0 : Int32)))
else (am_let (l3 + (1 : Int32)) fun x6 =>
g_X7_flat_23 n q4.1 l1 l2 x6))

def f_X7_flat  (u : am_MU) (l1 : Int32) (l2 : Int32) : Option (am_MU × Int32) :=
(f_X7_isFloor u l1).bind fun q1 =>
if q1.2 = 0 then (some (q1.1, ((-1000000001) : Int32)))
else ((f_X7_in q1.1 l2 (0 : Int32) (99 : Int32)).bind fun q3 =>
if q3.2 = 0 then (some (q3.1, ((-1000000001) : Int32)))
else (g_X7_flat_23 1700 q3.1 l1 l2 (0 : Int32)))

theorem l_X7_flat_23 {X : Nat × (Nat → Int32)}   : ∀ (n : Nat) (u : am_MU) (l1 : Int32) (l2 : Int32) (l3 : Int32) (r : am_MU × Int32), g_X7_flat_23  n u l1 l2 l3 = some r → am_Ev X M_X7_flat 23 [(0, .ref 110), (1, .int l1), (2, .int l2), (3, .int l3)] [] (hp u) (hp r.1, some (.int r.2)) := by
  intro n
  induction n with
  | zero => intro u l1 l2 l3 r h; cases h
  | succ n ih =>
    intro u l1 l2 l3 r h
    rw [g_X7_flat_23] at h
    refine ev_iload_n dX7_flat_23 3 rfl ?_
    refine ev_bipush (v := (24 : Int32)) dX7_flat_24 kB_24 ?_
    refine ev_icmp_ge 61 dX7_flat_26 (by decide) (fun c1 => ?_) (fun c1 => ?_)
    · have h := am_t c1 h
      refine ev_iconst (v := (1 : Int32)) dX7_flat_61 kI_1 ?_
      obtain rfl := Option.some.inj h
      exact ev_iret dX7_flat_62 rfl rfl
    · have h := am_e c1 h
      refine ev_aload_n dX7_flat_29 0 rfl trivial ?_
      refine ev_iload_n dX7_flat_30 1 rfl ?_
      refine ev_iload_n dX7_flat_31 3 rfl ?_
      obtain ⟨q2, eq2, h⟩ := am_bd h
      refine px_callvi [.int l1, .int l3] (by decide) cl_7 (at7 rfl) dX7_flat_32 ok_X7_sandOf lk_RX7_102 in_X7_sandOf se_X7_sandOf (by decide) rfl (c_X7_sandOf eq2) rfl (Nat.le_of_ble_eq_true rfl) ?_
      refine ev_aload_n dX7_flat_35 0 rfl trivial ?_
      refine ev_iload_n dX7_flat_36 1 rfl ?_
      refine ev_iload_n dX7_flat_37 3 rfl ?_
      refine ev_iconst (v := (1 : Int32)) dX7_flat_38 kI_1 ?_
      refine ev_iadd dX7_flat_39 ?_
      obtain ⟨q3, eq3, h⟩ := am_bd h
      refine px_callvi [.int l1, .int (l3 + (1 : Int32))] (by decide) cl_7 (at7 rfl) dX7_flat_40 ok_X7_sandOf lk_RX7_102 in_X7_sandOf se_X7_sandOf (by decide) rfl (c_X7_sandOf eq3) rfl (Nat.le_of_ble_eq_true rfl) ?_
      refine ev_isub dX7_flat_43 ?_
      refine ev_iload_n dX7_flat_44 2 rfl ?_
      refine ev_ineg dX7_flat_45 ?_
      refine ev_iload_n dX7_flat_46 2 rfl ?_
      obtain ⟨q4, eq4, h⟩ := am_bd h
      refine px_callsi [.int (q2.2 - q3.2), .int (-l2), .int l2] dX7_flat_47 ok_X7_in lk_RX7_78 st_X7_in (by decide) rfl (c_X7_in eq4) rfl (Nat.le_of_ble_eq_true rfl) ?_
      refine ev_if_ne 55 dX7_flat_50 (by decide) (fun c5 => ?_) (fun c5 => ?_)
      · have h := am_e c5 h
        obtain ⟨x6, ex6, h⟩ := am_lt h
        refine ev_iinc (v := x6) (L' := [(3, .int x6), (0, .ref 110), (1, .int l1), (2, .int l2)]) dX7_flat_55 3 rfl (by rw [kI_1, ex6]) (by decide) rfl ?_
        refine ev_goto 23 dX7_flat_58 (by decide) ?_
        refine ev_loc [1, 2, 3, 0] rfl ?_
        exact ih q4.1 l1 l2 x6 _ h
      · have h := am_t c5 h
        refine ev_iconst (v := (0 : Int32)) dX7_flat_53 kI_0 ?_
        obtain rfl := Option.some.inj h
        exact ev_iret dX7_flat_54 rfl rfl

theorem l_X7_flat_0 {X : Nat × (Nat → Int32)}   (u : am_MU) (l1 : Int32) (l2 : Int32) (r : am_MU × Int32) (h : f_X7_flat  u l1 l2 = some r) : am_Ev X M_X7_flat 0 [(0, .ref 110), (1, .int l1), (2, .int l2)] [] (hp u) (hp r.1, some (.int r.2)) := by
  unfold f_X7_flat at h
  refine ev_aload_n dX7_flat_0 0 rfl trivial ?_
  refine ev_iload_n dX7_flat_1 1 rfl ?_
  obtain ⟨q1, eq1, h⟩ := am_bd h
  refine px_callvi [.int l1] (by decide) cl_7 (at7 rfl) dX7_flat_2 ok_X7_isFloor lk_RX7_128 in_X7_isFloor se_X7_isFloor (by decide) rfl (c_X7_isFloor eq1) rfl (Nat.le_of_ble_eq_true rfl) ?_
  refine ev_if_eq 18 dX7_flat_5 (by decide) (fun c2 => ?_) (fun c2 => ?_)
  · have h := am_t c2 h
    refine ev_ldc (v := ((-1000000001) : Int32)) dX7_flat_18 tw_933 ?_
    obtain rfl := Option.some.inj h
    exact ev_iret dX7_flat_20 rfl rfl
  · have h := am_e c2 h
    refine ev_iload_n dX7_flat_8 2 rfl ?_
    refine ev_iconst (v := (0 : Int32)) dX7_flat_9 kI_0 ?_
    refine ev_bipush (v := (99 : Int32)) dX7_flat_10 kB_99 ?_
    obtain ⟨q3, eq3, h⟩ := am_bd h
    refine px_callsi [.int l2, .int (0 : Int32), .int (99 : Int32)] dX7_flat_12 ok_X7_in lk_RX7_78 st_X7_in (by decide) rfl (c_X7_in eq3) rfl (Nat.le_of_ble_eq_true rfl) ?_
    refine ev_if_ne 21 dX7_flat_15 (by decide) (fun c4 => ?_) (fun c4 => ?_)
    · have h := am_e c4 h
      refine ev_iconst (v := (0 : Int32)) dX7_flat_21 kI_0 ?_
      refine ev_istore_n (L' := [(3, .int (0 : Int32)), (0, .ref 110), (1, .int l1), (2, .int l2)]) dX7_flat_22 (by decide) rfl ?_
      refine ev_loc [1, 2, 3, 0] rfl ?_
      exact l_X7_flat_23   1700 q3.1 l1 l2 (0 : Int32) _ h
    · have h := am_t c4 h
      refine ev_ldc (v := ((-1000000001) : Int32)) dX7_flat_18 tw_933 ?_
      obtain rfl := Option.some.inj h
      exact ev_iret dX7_flat_20 rfl rfl

theorem c_X7_flat {X : Nat × (Nat → Int32)} {u : am_MU} {l1 : Int32} {l2 : Int32} {r : am_MU × Int32} (h : f_X7_flat u l1 l2 = some r) : am_Cn X M_X7_flat [.ref 110, .int l1, .int l2] (hp u) (hp r.1, some (.int r.2)) := by
  refine am_Cn.of ok_X7_flat (Nat.le_refl _) (Nat.le_refl _) (Nat.le_of_ble_eq_true rfl) ?_
  refine ev_loc [0, 1, 2] rfl ?_
  exact l_X7_flat_0 u l1 l2 r h

-- SandRipplesModel.thinks(I)V
def g_X7_thinks_2  : Nat → am_MU → Int32 → Int32 → Option (am_MU)
  | 0 => fun _ _ _ => none
  | n + 1 => fun u l1 l2 =>
if (26 : Int32) ≤ l2 then (some u)
else ((f_X7_at u l1).bind fun q2 =>
if am_in (q2.2 + l2) 1535 then (
if am_in l2 26 then (
am_let (am_u2 q2.1 115 l2.toNatClampNeg (q2.1 111 ((q2.2 + l2).toNatClampNeg))) fun u5 =>
am_let (l2 + (1 : Int32)) fun x6 =>
g_X7_thinks_2 n u5 l1 x6) else none) else none)

def f_X7_thinks  (u : am_MU) (l1 : Int32) : Option (am_MU) :=
g_X7_thinks_2 1700 u l1 (0 : Int32)

theorem l_X7_thinks_2 {X : Nat × (Nat → Int32)}   : ∀ (n : Nat) (u : am_MU) (l1 : Int32) (l2 : Int32) (r : am_MU), g_X7_thinks_2  n u l1 l2 = some r → am_Ev X M_X7_thinks 2 [(0, .ref 110), (1, .int l1), (2, .int l2)] [] (hp u) (hp r, none) := by
  intro n
  induction n with
  | zero => intro u l1 l2 r h; cases h
  | succ n ih =>
    intro u l1 l2 r h
    rw [g_X7_thinks_2] at h
    refine ev_iload_n dX7_thinks_2 2 rfl ?_
    refine ev_bipush (v := (26 : Int32)) dX7_thinks_3 kB_26 ?_
    refine ev_icmp_ge 31 dX7_thinks_5 (by decide) (fun c1 => ?_) (fun c1 => ?_)
    · have h := am_t c1 h
      obtain rfl := Option.some.inj h
      exact ev_vret dX7_thinks_31 rfl
    · have h := am_e c1 h
      refine ev_aload_n dX7_thinks_8 0 rfl trivial ?_
      refine px_getR dX7_thinks_9 gf_RX7_22 (at7 rfl) (by decide) rfl ?_
      refine ev_iload_n dX7_thinks_12 2 rfl ?_
      refine ev_aload_n dX7_thinks_13 0 rfl trivial ?_
      refine px_getR dX7_thinks_14 gf_RX7_9 (at7 rfl) (by decide) rfl ?_
      refine ev_iload_n dX7_thinks_17 1 rfl ?_
      obtain ⟨q2, eq2, h⟩ := am_bd h
      refine px_callsi [.int l1] dX7_thinks_18 ok_X7_at lk_RX7_82 st_X7_at (by decide) rfl (c_X7_at eq2) rfl (Nat.le_of_ble_eq_true rfl) ?_
      refine ev_iload_n dX7_thinks_21 2 rfl ?_
      refine ev_iadd dX7_thinks_22 ?_
      obtain ⟨g3, h⟩ := am_gd h
      refine px_iald (n := 1535) ((q2.2 + l2).toNatClampNeg) dX7_thinks_23 rfl g3 rfl ?_
      obtain ⟨g4, h⟩ := am_gd h
      obtain ⟨u5, eu5, h⟩ := am_lt h
      refine px_iast (n := 26) l2.toNatClampNeg dX7_thinks_24 rfl g4 rfl eu5 ?_
      obtain ⟨x6, ex6, h⟩ := am_lt h
      refine ev_iinc (v := x6) (L' := [(2, .int x6), (0, .ref 110), (1, .int l1)]) dX7_thinks_25 2 rfl (by rw [kI_1, ex6]) (by decide) rfl ?_
      refine ev_goto 2 dX7_thinks_28 (by decide) ?_
      refine ev_loc [1, 2, 0] rfl ?_
      exact ih u5 l1 x6 _ h

theorem l_X7_thinks_0 {X : Nat × (Nat → Int32)}   (u : am_MU) (l1 : Int32) (r : am_MU) (h : f_X7_thinks  u l1 = some r) : am_Ev X M_X7_thinks 0 [(0, .ref 110), (1, .int l1)] [] (hp u) (hp r, none) := by
  unfold f_X7_thinks at h
  refine ev_iconst (v := (0 : Int32)) dX7_thinks_0 kI_0 ?_
  refine ev_istore_n (L' := [(2, .int (0 : Int32)), (0, .ref 110), (1, .int l1)]) dX7_thinks_1 (by decide) rfl ?_
  refine ev_loc [1, 2, 0] rfl ?_
  exact l_X7_thinks_2   1700 u l1 (0 : Int32) _ h

theorem c_X7_thinks {X : Nat × (Nat → Int32)} {u : am_MU} {l1 : Int32} {r : am_MU} (h : f_X7_thinks u l1 = some r) : am_Cn X M_X7_thinks [.ref 110, .int l1] (hp u) (hp r, none) := by
  refine am_Cn.of ok_X7_thinks (Nat.le_refl _) (Nat.le_refl _) (Nat.le_of_ble_eq_true rfl) ?_
  refine ev_loc [0, 1] rfl ?_
  exact l_X7_thinks_0 u l1 r h

-- SandRipplesModel.putsBack(I)V
def g_X7_putsBack_2  : Nat → am_MU → Int32 → Int32 → Option (am_MU)
  | 0 => fun _ _ _ => none
  | n + 1 => fun u l1 l2 =>
if (26 : Int32) ≤ l2 then (some u)
else ((f_X7_at u l1).bind fun q2 =>
if am_in l2 26 then (
if am_in (q2.2 + l2) 1535 then (
am_let (am_u2 q2.1 111 ((q2.2 + l2).toNatClampNeg) (q2.1 115 l2.toNatClampNeg)) fun u5 =>
am_let (l2 + (1 : Int32)) fun x6 =>
g_X7_putsBack_2 n u5 l1 x6) else none) else none)

def f_X7_putsBack  (u : am_MU) (l1 : Int32) : Option (am_MU) :=
g_X7_putsBack_2 1700 u l1 (0 : Int32)

theorem l_X7_putsBack_2 {X : Nat × (Nat → Int32)}   : ∀ (n : Nat) (u : am_MU) (l1 : Int32) (l2 : Int32) (r : am_MU), g_X7_putsBack_2  n u l1 l2 = some r → am_Ev X M_X7_putsBack 2 [(0, .ref 110), (1, .int l1), (2, .int l2)] [] (hp u) (hp r, none) := by
  intro n
  induction n with
  | zero => intro u l1 l2 r h; cases h
  | succ n ih =>
    intro u l1 l2 r h
    rw [g_X7_putsBack_2] at h
    refine ev_iload_n dX7_putsBack_2 2 rfl ?_
    refine ev_bipush (v := (26 : Int32)) dX7_putsBack_3 kB_26 ?_
    refine ev_icmp_ge 31 dX7_putsBack_5 (by decide) (fun c1 => ?_) (fun c1 => ?_)
    · have h := am_t c1 h
      obtain rfl := Option.some.inj h
      exact ev_vret dX7_putsBack_31 rfl
    · have h := am_e c1 h
      refine ev_aload_n dX7_putsBack_8 0 rfl trivial ?_
      refine px_getR dX7_putsBack_9 gf_RX7_9 (at7 rfl) (by decide) rfl ?_
      refine ev_iload_n dX7_putsBack_12 1 rfl ?_
      obtain ⟨q2, eq2, h⟩ := am_bd h
      refine px_callsi [.int l1] dX7_putsBack_13 ok_X7_at lk_RX7_82 st_X7_at (by decide) rfl (c_X7_at eq2) rfl (Nat.le_of_ble_eq_true rfl) ?_
      refine ev_iload_n dX7_putsBack_16 2 rfl ?_
      refine ev_iadd dX7_putsBack_17 ?_
      refine ev_aload_n dX7_putsBack_18 0 rfl trivial ?_
      refine px_getR dX7_putsBack_19 gf_RX7_22 (at7 rfl) (by decide) rfl ?_
      refine ev_iload_n dX7_putsBack_22 2 rfl ?_
      obtain ⟨g3, h⟩ := am_gd h
      refine px_iald (n := 26) l2.toNatClampNeg dX7_putsBack_23 rfl g3 rfl ?_
      obtain ⟨g4, h⟩ := am_gd h
      obtain ⟨u5, eu5, h⟩ := am_lt h
      refine px_iast (n := 1535) ((q2.2 + l2).toNatClampNeg) dX7_putsBack_24 rfl g4 rfl eu5 ?_
      obtain ⟨x6, ex6, h⟩ := am_lt h
      refine ev_iinc (v := x6) (L' := [(2, .int x6), (0, .ref 110), (1, .int l1)]) dX7_putsBack_25 2 rfl (by rw [kI_1, ex6]) (by decide) rfl ?_
      refine ev_goto 2 dX7_putsBack_28 (by decide) ?_
      refine ev_loc [1, 2, 0] rfl ?_
      exact ih u5 l1 x6 _ h

theorem l_X7_putsBack_0 {X : Nat × (Nat → Int32)}   (u : am_MU) (l1 : Int32) (r : am_MU) (h : f_X7_putsBack  u l1 = some r) : am_Ev X M_X7_putsBack 0 [(0, .ref 110), (1, .int l1)] [] (hp u) (hp r, none) := by
  unfold f_X7_putsBack at h
  refine ev_iconst (v := (0 : Int32)) dX7_putsBack_0 kI_0 ?_
  refine ev_istore_n (L' := [(2, .int (0 : Int32)), (0, .ref 110), (1, .int l1)]) dX7_putsBack_1 (by decide) rfl ?_
  refine ev_loc [1, 2, 0] rfl ?_
  exact l_X7_putsBack_2   1700 u l1 (0 : Int32) _ h

theorem c_X7_putsBack {X : Nat × (Nat → Int32)} {u : am_MU} {l1 : Int32} {r : am_MU} (h : f_X7_putsBack u l1 = some r) : am_Cn X M_X7_putsBack [.ref 110, .int l1] (hp u) (hp r, none) := by
  refine am_Cn.of ok_X7_putsBack (Nat.le_refl _) (Nat.le_refl _) (Nat.le_of_ble_eq_true rfl) ?_
  refine ev_loc [0, 1] rfl ?_
  exact l_X7_putsBack_0 u l1 r h

