-- SandRipples.isKind(I)Z
def f_X6_isKind  (u : am_MU) (l0 : Int32) : Option (am_MU × Int32) :=
if l0 < 0 then (some (u, (0 : Int32)))
else (if (5 : Int32) < l0 then (some (u, (0 : Int32)))
else (some (u, (1 : Int32))))

theorem l_X6_isKind_0 {X : Nat × (Nat → Int32)}   (u : am_MU) (l0 : Int32) (r : am_MU × Int32) (h : f_X6_isKind  u l0 = some r) : am_Ev X M_X6_isKind 0 [(0, .int l0)] [] (hp u) (hp r.1, some (.int r.2)) := by
  unfold f_X6_isKind at h
  refine ev_iload_n dX6_isKind_0 0 rfl ?_
  refine ev_if_lt 13 dX6_isKind_1 (by decide) (fun c1 => ?_) (fun c1 => ?_)
  · have h := am_t c1 h
    refine ev_iconst (v := (0 : Int32)) dX6_isKind_13 kI_0 ?_
    obtain rfl := Option.some.inj h
    exact ev_iret dX6_isKind_14 rfl (am_zn (Or.inl rfl))
  · have h := am_e c1 h
    refine ev_iload_n dX6_isKind_4 0 rfl ?_
    refine ev_iconst (v := (5 : Int32)) dX6_isKind_5 kI_5 ?_
    refine ev_icmp_gt 13 dX6_isKind_6 (by decide) (fun c2 => ?_) (fun c2 => ?_)
    · have h := am_t c2 h
      refine ev_iconst (v := (0 : Int32)) dX6_isKind_13 kI_0 ?_
      obtain rfl := Option.some.inj h
      exact ev_iret dX6_isKind_14 rfl (am_zn (Or.inl rfl))
    · have h := am_e c2 h
      refine ev_iconst (v := (1 : Int32)) dX6_isKind_9 kI_1 ?_
      refine ev_goto 14 dX6_isKind_10 (by decide) ?_
      obtain rfl := Option.some.inj h
      exact ev_iret dX6_isKind_14 rfl (am_zn (Or.inr rfl))

theorem c_X6_isKind {X : Nat × (Nat → Int32)} {u : am_MU} {l0 : Int32} {r : am_MU × Int32} (h : f_X6_isKind u l0 = some r) : am_Cn X M_X6_isKind [.int l0] (hp u) (hp r.1, some (.int r.2)) := by
  refine am_Cn.of ok_X6_isKind (Nat.le_refl _) (Nat.le_refl _) (Nat.le_of_ble_eq_true rfl) ?_
  refine ev_loc [0] rfl ?_
  exact l_X6_isKind_0 u l0 r h

-- SandRipples$Floor.begin(I)V
def g_X0_begin_2  : Nat → am_MU → Nat → Int32 → Int32 → Option (am_MU)
  | 0 => fun _ _ _ _ => none
  | n + 1 => fun u l0 l1 l2 =>
if (24 : Int32) ≤ l2 then (if tg l0 = 0 then (
am_let (am_u2 u l0 1 (0 : Int32)) fun u3 =>
am_let (am_u2 u3 l0 2 l1) fun u4 =>
some u4) else none)
else (if tg l0 = 0 then (
if am_in l2 24 then (
am_let (am_u2 u (l0 + 1) l2.toNatClampNeg (20 : Int32)) fun u7 =>
am_let (l2 + (1 : Int32)) fun x8 =>
g_X0_begin_2 n u7 l0 l1 x8) else none) else none)

def f_X0_begin  (u : am_MU) (l0 : Nat) (l1 : Int32) : Option (am_MU) :=
g_X0_begin_2 1700 u l0 l1 (0 : Int32)

theorem l_X0_begin_2 {X : Nat × (Nat → Int32)}   : ∀ (n : Nat) (u : am_MU) (l0 : Nat) (l1 : Int32) (l2 : Int32) (r : am_MU), g_X0_begin_2  n u l0 l1 l2 = some r → am_Ev X M_X0_begin 2 [(0, .ref l0), (1, .int l1), (2, .int l2)] [] (hp u) (hp r, none) := by
  intro n
  induction n with
  | zero => intro u l0 l1 l2 r h; cases h
  | succ n ih =>
    intro u l0 l1 l2 r h
    rw [g_X0_begin_2] at h
    refine ev_iload_n dX0_begin_2 2 rfl ?_
    refine ev_bipush (v := (24 : Int32)) dX0_begin_3 kB_24 ?_
    refine ev_icmp_ge 22 dX0_begin_5 (by decide) (fun c1 => ?_) (fun c1 => ?_)
    · have h := am_t c1 h
      refine ev_aload_n dX0_begin_22 0 rfl trivial ?_
      refine ev_iconst (v := (0 : Int32)) dX0_begin_23 kI_0 ?_
      obtain ⟨g2, h⟩ := am_gd h
      obtain ⟨u3, eu3, h⟩ := am_lt h
      refine px_putI dX0_begin_24 pf_RX0_15 (at0 g2) (by decide) rfl eu3 ?_
      refine ev_aload_n dX0_begin_27 0 rfl trivial ?_
      refine ev_iload_n dX0_begin_28 1 rfl ?_
      obtain ⟨u4, eu4, h⟩ := am_lt h
      refine px_putI dX0_begin_29 pf_RX0_19 (at0 g2) (by decide) rfl eu4 ?_
      obtain rfl := Option.some.inj h
      exact ev_vret dX0_begin_32 rfl
    · have h := am_e c1 h
      refine ev_aload_n dX0_begin_8 0 rfl trivial ?_
      obtain ⟨g5, h⟩ := am_gd h
      refine px_getR dX0_begin_9 gf_RX0_9 (at0 g5) (by decide) rfl ?_
      refine ev_iload_n dX0_begin_12 2 rfl ?_
      refine ev_bipush (v := (20 : Int32)) dX0_begin_13 kB_20 ?_
      obtain ⟨g6, h⟩ := am_gd h
      obtain ⟨u7, eu7, h⟩ := am_lt h
      refine px_iast (n := 24) l2.toNatClampNeg dX0_begin_15 (il0 g5) g6 rfl eu7 ?_
      obtain ⟨x8, ex8, h⟩ := am_lt h
      refine ev_iinc (v := x8) (L' := [(2, .int x8), (0, .ref l0), (1, .int l1)]) dX0_begin_16 2 rfl (by rw [kI_1, ex8]) (by decide) rfl ?_
      refine ev_goto 2 dX0_begin_19 (by decide) ?_
      refine ev_loc [1, 2, 0] rfl ?_
      exact ih u7 l0 l1 x8 _ h

theorem l_X0_begin_0 {X : Nat × (Nat → Int32)}   (u : am_MU) (l0 : Nat) (l1 : Int32) (r : am_MU) (h : f_X0_begin  u l0 l1 = some r) : am_Ev X M_X0_begin 0 [(0, .ref l0), (1, .int l1)] [] (hp u) (hp r, none) := by
  unfold f_X0_begin at h
  refine ev_iconst (v := (0 : Int32)) dX0_begin_0 kI_0 ?_
  refine ev_istore_n (L' := [(2, .int (0 : Int32)), (0, .ref l0), (1, .int l1)]) dX0_begin_1 (by decide) rfl ?_
  refine ev_loc [1, 2, 0] rfl ?_
  exact l_X0_begin_2   1700 u l0 l1 (0 : Int32) _ h

theorem c_X0_begin {X : Nat × (Nat → Int32)} {u : am_MU} {l0 : Nat} {l1 : Int32} {r : am_MU} (h : f_X0_begin u l0 l1 = some r) : am_Cn X M_X0_begin [.ref l0, .int l1] (hp u) (hp r, none) := by
  refine am_Cn.of ok_X0_begin (Nat.le_refl _) (Nat.le_refl _) (Nat.le_of_ble_eq_true rfl) ?_
  refine ev_loc [0, 1] rfl ?_
  exact l_X0_begin_0 u l0 l1 r h

-- SandRipples.floor(I)I
def f_X6_floor  (u : am_MU) (l1 : Int32) : Option (am_MU × Int32) :=
(f_X6_isKind u l1).bind fun q1 =>
if q1.2 = 0 then (some (q1.1, ((-1000000001) : Int32)))
else (if (q1.1 1 1) < (6 : Int32) then (if am_in (q1.1 1 1) 6 then (
if tg (5 + 2 * (q1.1 1 1).toNatClampNeg) = 0 then (
(f_X0_begin q1.1 (5 + 2 * (q1.1 1 1).toNatClampNeg) l1).bind fun q5 =>
am_let (am_u2 q5 1 1 ((q5 1 1) + (1 : Int32))) fun u7 =>
some (u7, (u7 1 1) - (1 : Int32))) else none) else none)
else (some (q1.1, ((-1000000003) : Int32))))

theorem l_X6_floor_0 {X : Nat × (Nat → Int32)}   (u : am_MU) (l1 : Int32) (r : am_MU × Int32) (h : f_X6_floor  u l1 = some r) : am_Ev X M_X6_floor 0 [(0, .ref 0), (1, .int l1)] [] (hp u) (hp r.1, some (.int r.2)) := by
  unfold f_X6_floor at h
  refine ev_iload_n dX6_floor_0 1 rfl ?_
  obtain ⟨q1, eq1, h⟩ := am_bd h
  refine px_callsi [.int l1] dX6_floor_1 ok_X6_isKind lk_RX6_76 st_X6_isKind (by decide) rfl (c_X6_isKind eq1) rfl (Nat.le_of_ble_eq_true rfl) ?_
  refine ev_if_ne 10 dX6_floor_4 (by decide) (fun c2 => ?_) (fun c2 => ?_)
  · have h := am_e c2 h
    refine ev_aload_n dX6_floor_10 0 rfl trivial ?_
    refine px_getR dX6_floor_11 gf_RX6_14 (at6 rfl) (by decide) rfl ?_
    refine px_getI dX6_floor_14 gf_RX6_81 (at5 rfl) (by decide) rfl ?_
    refine ev_bipush (v := (6 : Int32)) dX6_floor_17 kB_6 ?_
    refine ev_icmp_lt 25 dX6_floor_19 (by decide) (fun c3 => ?_) (fun c3 => ?_)
    · have h := am_t c3 h
      refine ev_aload_n dX6_floor_25 0 rfl trivial ?_
      refine px_getR dX6_floor_26 gf_RX6_14 (at6 rfl) (by decide) rfl ?_
      refine px_getR dX6_floor_29 gf_RX6_85 (at5 rfl) (by decide) rfl ?_
      refine ev_aload_n dX6_floor_32 0 rfl trivial ?_
      refine px_getR dX6_floor_33 gf_RX6_14 (at6 rfl) (by decide) rfl ?_
      refine px_getI dX6_floor_36 gf_RX6_81 (at5 rfl) (by decide) rfl ?_
      obtain ⟨g4, h⟩ := am_gd h
      refine px_aald3 (n := 6) dX6_floor_39 rfl rfl g4 ?_
      refine ev_iload_n dX6_floor_40 1 rfl ?_
      obtain ⟨g6, h⟩ := am_gd h
      obtain ⟨q5, eq5, h⟩ := am_bd h
      refine px_callvv [.int l1] (by decide) cl_0 (at0 g6) dX6_floor_41 ok_X0_begin lk_RX6_89 in_X0_begin se_X0_begin (by decide) rfl (c_X0_begin eq5) rfl (Nat.le_of_ble_eq_true rfl) ?_
      refine ev_aload_n dX6_floor_44 0 rfl trivial ?_
      refine px_getR dX6_floor_45 gf_RX6_14 (at6 rfl) (by decide) rfl ?_
      refine ev_dup dX6_floor_48 rfl ?_
      refine px_getI dX6_floor_49 gf_RX6_81 (at5 rfl) (by decide) rfl ?_
      refine ev_iconst (v := (1 : Int32)) dX6_floor_52 kI_1 ?_
      refine ev_iadd dX6_floor_53 ?_
      obtain ⟨u7, eu7, h⟩ := am_lt h
      refine px_putI dX6_floor_54 pf_RX6_81 (at5 rfl) (by decide) rfl eu7 ?_
      refine ev_aload_n dX6_floor_57 0 rfl trivial ?_
      refine px_getR dX6_floor_58 gf_RX6_14 (at6 rfl) (by decide) rfl ?_
      refine px_getI dX6_floor_61 gf_RX6_81 (at5 rfl) (by decide) rfl ?_
      refine ev_iconst (v := (1 : Int32)) dX6_floor_64 kI_1 ?_
      refine ev_isub dX6_floor_65 ?_
      obtain rfl := Option.some.inj h
      exact ev_iret dX6_floor_66 rfl rfl
    · have h := am_e c3 h
      refine ev_ldc (v := ((-1000000003) : Int32)) dX6_floor_22 tw_240 ?_
      obtain rfl := Option.some.inj h
      exact ev_iret dX6_floor_24 rfl rfl
  · have h := am_t c2 h
    refine ev_ldc (v := ((-1000000001) : Int32)) dX6_floor_7 tw_239 ?_
    obtain rfl := Option.some.inj h
    exact ev_iret dX6_floor_9 rfl rfl

theorem c_X6_floor {X : Nat × (Nat → Int32)} {u : am_MU} {l1 : Int32} {r : am_MU × Int32} (h : f_X6_floor u l1 = some r) : am_Cn X M_X6_floor [.ref 0, .int l1] (hp u) (hp r.1, some (.int r.2)) := by
  refine am_Cn.of ok_X6_floor (Nat.le_refl _) (Nat.le_refl _) (Nat.le_of_ble_eq_true rfl) ?_
  refine ev_loc [0, 1] rfl ?_
  exact l_X6_floor_0 u l1 r h

-- SandRipples.isFloor(I)Z
def f_X6_isFloor  (u : am_MU) (l1 : Int32) : Option (am_MU × Int32) :=
if l1 < 0 then (some (u, (0 : Int32)))
else (if (u 1 1) ≤ l1 then (some (u, (0 : Int32)))
else (some (u, (1 : Int32))))

theorem l_X6_isFloor_0 {X : Nat × (Nat → Int32)}   (u : am_MU) (l1 : Int32) (r : am_MU × Int32) (h : f_X6_isFloor  u l1 = some r) : am_Ev X M_X6_isFloor 0 [(0, .ref 0), (1, .int l1)] [] (hp u) (hp r.1, some (.int r.2)) := by
  unfold f_X6_isFloor at h
  refine ev_iload_n dX6_isFloor_0 1 rfl ?_
  refine ev_if_lt 19 dX6_isFloor_1 (by decide) (fun c1 => ?_) (fun c1 => ?_)
  · have h := am_t c1 h
    refine ev_iconst (v := (0 : Int32)) dX6_isFloor_19 kI_0 ?_
    obtain rfl := Option.some.inj h
    exact ev_iret dX6_isFloor_20 rfl (am_zn (Or.inl rfl))
  · have h := am_e c1 h
    refine ev_iload_n dX6_isFloor_4 1 rfl ?_
    refine ev_aload_n dX6_isFloor_5 0 rfl trivial ?_
    refine px_getR dX6_isFloor_6 gf_RX6_14 (at6 rfl) (by decide) rfl ?_
    refine px_getI dX6_isFloor_9 gf_RX6_81 (at5 rfl) (by decide) rfl ?_
    refine ev_icmp_ge 19 dX6_isFloor_12 (by decide) (fun c2 => ?_) (fun c2 => ?_)
    · have h := am_t c2 h
      refine ev_iconst (v := (0 : Int32)) dX6_isFloor_19 kI_0 ?_
      obtain rfl := Option.some.inj h
      exact ev_iret dX6_isFloor_20 rfl (am_zn (Or.inl rfl))
    · have h := am_e c2 h
      refine ev_iconst (v := (1 : Int32)) dX6_isFloor_15 kI_1 ?_
      refine ev_goto 20 dX6_isFloor_16 (by decide) ?_
      obtain rfl := Option.some.inj h
      exact ev_iret dX6_isFloor_20 rfl (am_zn (Or.inr rfl))

theorem c_X6_isFloor {X : Nat × (Nat → Int32)} {u : am_MU} {l1 : Int32} {r : am_MU × Int32} (h : f_X6_isFloor u l1 = some r) : am_Cn X M_X6_isFloor [.ref 0, .int l1] (hp u) (hp r.1, some (.int r.2)) := by
  refine am_Cn.of ok_X6_isFloor (Nat.le_refl _) (Nat.le_refl _) (Nat.le_of_ble_eq_true rfl) ?_
  refine ev_loc [0, 1] rfl ?_
  exact l_X6_isFloor_0 u l1 r h

-- SandRipples$Floor.total()I
def g_X0_total_4  : Nat → am_MU → Nat → Int32 → Int32 → Option (am_MU × Int32)
  | 0 => fun _ _ _ _ => none
  | n + 1 => fun u l0 l1 l2 =>
if (24 : Int32) ≤ l2 then (some (u, l1))
else (if tg l0 = 0 then (
if am_in l2 24 then (
am_let (l1 + (u (l0 + 1) l2.toNatClampNeg)) fun x4 =>
am_let (l2 + (1 : Int32)) fun x5 =>
g_X0_total_4 n u l0 x4 x5) else none) else none)

def f_X0_total  (u : am_MU) (l0 : Nat) : Option (am_MU × Int32) :=
g_X0_total_4 1700 u l0 (0 : Int32) (0 : Int32)

theorem l_X0_total_4 {X : Nat × (Nat → Int32)}   : ∀ (n : Nat) (u : am_MU) (l0 : Nat) (l1 : Int32) (l2 : Int32) (r : am_MU × Int32), g_X0_total_4  n u l0 l1 l2 = some r → am_Ev X M_X0_total 4 [(0, .ref l0), (1, .int l1), (2, .int l2)] [] (hp u) (hp r.1, some (.int r.2)) := by
  intro n
  induction n with
  | zero => intro u l0 l1 l2 r h; cases h
  | succ n ih =>
    intro u l0 l1 l2 r h
    rw [g_X0_total_4] at h
    refine ev_iload_n dX0_total_4 2 rfl ?_
    refine ev_bipush (v := (24 : Int32)) dX0_total_5 kB_24 ?_
    refine ev_icmp_ge 25 dX0_total_7 (by decide) (fun c1 => ?_) (fun c1 => ?_)
    · have h := am_t c1 h
      refine ev_iload_n dX0_total_25 1 rfl ?_
      obtain rfl := Option.some.inj h
      exact ev_iret dX0_total_26 rfl rfl
    · have h := am_e c1 h
      refine ev_iload_n dX0_total_10 1 rfl ?_
      refine ev_aload_n dX0_total_11 0 rfl trivial ?_
      obtain ⟨g2, h⟩ := am_gd h
      refine px_getR dX0_total_12 gf_RX0_9 (at0 g2) (by decide) rfl ?_
      refine ev_iload_n dX0_total_15 2 rfl ?_
      obtain ⟨g3, h⟩ := am_gd h
      refine px_iald (n := 24) l2.toNatClampNeg dX0_total_16 (il0 g2) g3 rfl ?_
      refine ev_iadd dX0_total_17 ?_
      obtain ⟨x4, ex4, h⟩ := am_lt h
      refine px_top ex4 ?_
      refine ev_istore_n (L' := [(1, .int x4), (0, .ref l0), (2, .int l2)]) dX0_total_18 (by decide) rfl ?_
      obtain ⟨x5, ex5, h⟩ := am_lt h
      refine ev_iinc (v := x5) (L' := [(2, .int x5), (1, .int x4), (0, .ref l0)]) dX0_total_19 2 rfl (by rw [kI_1, ex5]) (by decide) rfl ?_
      refine ev_goto 4 dX0_total_22 (by decide) ?_
      refine ev_loc [2, 1, 0] rfl ?_
      exact ih u l0 x4 x5 _ h

theorem l_X0_total_0 {X : Nat × (Nat → Int32)}   (u : am_MU) (l0 : Nat) (r : am_MU × Int32) (h : f_X0_total  u l0 = some r) : am_Ev X M_X0_total 0 [(0, .ref l0)] [] (hp u) (hp r.1, some (.int r.2)) := by
  unfold f_X0_total at h
  refine ev_iconst (v := (0 : Int32)) dX0_total_0 kI_0 ?_
  refine ev_istore_n (L' := [(1, .int (0 : Int32)), (0, .ref l0)]) dX0_total_1 (by decide) rfl ?_
  refine ev_iconst (v := (0 : Int32)) dX0_total_2 kI_0 ?_
  refine ev_istore_n (L' := [(2, .int (0 : Int32)), (1, .int (0 : Int32)), (0, .ref l0)]) dX0_total_3 (by decide) rfl ?_
  refine ev_loc [2, 1, 0] rfl ?_
  exact l_X0_total_4   1700 u l0 (0 : Int32) (0 : Int32) _ h

theorem c_X0_total {X : Nat × (Nat → Int32)} {u : am_MU} {l0 : Nat} {r : am_MU × Int32} (h : f_X0_total u l0 = some r) : am_Cn X M_X0_total [.ref l0] (hp u) (hp r.1, some (.int r.2)) := by
  refine am_Cn.of ok_X0_total (Nat.le_refl _) (Nat.le_refl _) (Nat.le_of_ble_eq_true rfl) ?_
  refine ev_loc [0] rfl ?_
  exact l_X0_total_0 u l0 r h

-- SandRipples$Floor.greatest()I
def g_X0_greatest_9  : Nat → am_MU → Nat → Int32 → Int32 → Option (am_MU × Int32)
  | 0 => fun _ _ _ _ => none
  | n + 1 => fun u l0 l1 l2 =>
if (24 : Int32) ≤ l2 then (some (u, l1))
else (if tg l0 = 0 then (
if am_in l2 24 then (
(f_J9_max_7cf53 u l1 (u (l0 + 1) l2.toNatClampNeg)).bind fun q4 =>
am_let (l2 + (1 : Int32)) fun x5 =>
g_X0_greatest_9 n q4.1 l0 q4.2 x5) else none) else none)

def f_X0_greatest  (u : am_MU) (l0 : Nat) : Option (am_MU × Int32) :=
if tg l0 = 0 then (
am_let (u (l0 + 1) 0) fun x2 =>
g_X0_greatest_9 1700 u l0 x2 (1 : Int32)) else none

theorem l_X0_greatest_9 {X : Nat × (Nat → Int32)}   : ∀ (n : Nat) (u : am_MU) (l0 : Nat) (l1 : Int32) (l2 : Int32) (r : am_MU × Int32), g_X0_greatest_9  n u l0 l1 l2 = some r → am_Ev X M_X0_greatest 9 [(0, .ref l0), (1, .int l1), (2, .int l2)] [] (hp u) (hp r.1, some (.int r.2)) := by
  intro n
  induction n with
  | zero => intro u l0 l1 l2 r h; cases h
  | succ n ih =>
    intro u l0 l1 l2 r h
    rw [g_X0_greatest_9] at h
    refine ev_iload_n dX0_greatest_9 2 rfl ?_
    refine ev_bipush (v := (24 : Int32)) dX0_greatest_10 kB_24 ?_
    refine ev_icmp_ge 32 dX0_greatest_12 (by decide) (fun c1 => ?_) (fun c1 => ?_)
    · have h := am_t c1 h
      refine ev_iload_n dX0_greatest_32 1 rfl ?_
      obtain rfl := Option.some.inj h
      exact ev_iret dX0_greatest_33 rfl rfl
    · have h := am_e c1 h
      refine ev_iload_n dX0_greatest_15 1 rfl ?_
      refine ev_aload_n dX0_greatest_16 0 rfl trivial ?_
      obtain ⟨g2, h⟩ := am_gd h
      refine px_getR dX0_greatest_17 gf_RX0_9 (at0 g2) (by decide) rfl ?_
      refine ev_iload_n dX0_greatest_20 2 rfl ?_
      obtain ⟨g3, h⟩ := am_gd h
      refine px_iald (n := 24) l2.toNatClampNeg dX0_greatest_21 (il0 g2) g3 rfl ?_
      obtain ⟨q4, eq4, h⟩ := am_bd h
      refine px_callsi [.int l1, .int (u (l0 + 1) l2.toNatClampNeg)] dX0_greatest_22 ok_J9_max_7cf53 lk_RX0_28 st_J9_max_7cf53 (by decide) rfl (c_J9_max_7cf53 eq4) rfl (Nat.le_of_ble_eq_true rfl) ?_
      refine ev_istore_n (L' := [(1, .int q4.2), (0, .ref l0), (2, .int l2)]) dX0_greatest_25 (by decide) rfl ?_
      obtain ⟨x5, ex5, h⟩ := am_lt h
      refine ev_iinc (v := x5) (L' := [(2, .int x5), (1, .int q4.2), (0, .ref l0)]) dX0_greatest_26 2 rfl (by rw [kI_1, ex5]) (by decide) rfl ?_
      refine ev_goto 9 dX0_greatest_29 (by decide) ?_
      refine ev_loc [2, 1, 0] rfl ?_
      exact ih q4.1 l0 q4.2 x5 _ h

theorem l_X0_greatest_0 {X : Nat × (Nat → Int32)}   (u : am_MU) (l0 : Nat) (r : am_MU × Int32) (h : f_X0_greatest  u l0 = some r) : am_Ev X M_X0_greatest 0 [(0, .ref l0)] [] (hp u) (hp r.1, some (.int r.2)) := by
  unfold f_X0_greatest at h
  refine ev_aload_n dX0_greatest_0 0 rfl trivial ?_
  obtain ⟨g1, h⟩ := am_gd h
  refine px_getR dX0_greatest_1 gf_RX0_9 (at0 g1) (by decide) rfl ?_
  refine ev_iconst (v := (0 : Int32)) dX0_greatest_4 kI_0 ?_
  refine px_iald (n := 24) 0 dX0_greatest_5 (il0 g1) (by decide) (by decide) ?_
  obtain ⟨x2, ex2, h⟩ := am_lt h
  refine px_top ex2 ?_
  refine ev_istore_n (L' := [(1, .int x2), (0, .ref l0)]) dX0_greatest_6 (by decide) rfl ?_
  refine ev_iconst (v := (1 : Int32)) dX0_greatest_7 kI_1 ?_
  refine ev_istore_n (L' := [(2, .int (1 : Int32)), (1, .int x2), (0, .ref l0)]) dX0_greatest_8 (by decide) rfl ?_
  refine ev_loc [2, 1, 0] rfl ?_
  exact l_X0_greatest_9   1700 u l0 x2 (1 : Int32) _ h

theorem c_X0_greatest {X : Nat × (Nat → Int32)} {u : am_MU} {l0 : Nat} {r : am_MU × Int32} (h : f_X0_greatest u l0 = some r) : am_Cn X M_X0_greatest [.ref l0] (hp u) (hp r.1, some (.int r.2)) := by
  refine am_Cn.of ok_X0_greatest (Nat.le_refl _) (Nat.le_refl _) (Nat.le_of_ble_eq_true rfl) ?_
  refine ev_loc [0] rfl ?_
  exact l_X0_greatest_0 u l0 r h

-- SandRipples$Floor.least()I
def g_X0_least_9  : Nat → am_MU → Nat → Int32 → Int32 → Option (am_MU × Int32)
  | 0 => fun _ _ _ _ => none
  | n + 1 => fun u l0 l1 l2 =>
if (24 : Int32) ≤ l2 then (some (u, l1))
else (if tg l0 = 0 then (
if am_in l2 24 then (
(f_J9_min_7cf53 u l1 (u (l0 + 1) l2.toNatClampNeg)).bind fun q4 =>
am_let (l2 + (1 : Int32)) fun x5 =>
g_X0_least_9 n q4.1 l0 q4.2 x5) else none) else none)

def f_X0_least  (u : am_MU) (l0 : Nat) : Option (am_MU × Int32) :=
if tg l0 = 0 then (
am_let (u (l0 + 1) 0) fun x2 =>
g_X0_least_9 1700 u l0 x2 (1 : Int32)) else none

theorem l_X0_least_9 {X : Nat × (Nat → Int32)}   : ∀ (n : Nat) (u : am_MU) (l0 : Nat) (l1 : Int32) (l2 : Int32) (r : am_MU × Int32), g_X0_least_9  n u l0 l1 l2 = some r → am_Ev X M_X0_least 9 [(0, .ref l0), (1, .int l1), (2, .int l2)] [] (hp u) (hp r.1, some (.int r.2)) := by
  intro n
  induction n with
  | zero => intro u l0 l1 l2 r h; cases h
  | succ n ih =>
    intro u l0 l1 l2 r h
    rw [g_X0_least_9] at h
    refine ev_iload_n dX0_least_9 2 rfl ?_
    refine ev_bipush (v := (24 : Int32)) dX0_least_10 kB_24 ?_
    refine ev_icmp_ge 32 dX0_least_12 (by decide) (fun c1 => ?_) (fun c1 => ?_)
    · have h := am_t c1 h
      refine ev_iload_n dX0_least_32 1 rfl ?_
      obtain rfl := Option.some.inj h
      exact ev_iret dX0_least_33 rfl rfl
    · have h := am_e c1 h
      refine ev_iload_n dX0_least_15 1 rfl ?_
      refine ev_aload_n dX0_least_16 0 rfl trivial ?_
      obtain ⟨g2, h⟩ := am_gd h
      refine px_getR dX0_least_17 gf_RX0_9 (at0 g2) (by decide) rfl ?_
      refine ev_iload_n dX0_least_20 2 rfl ?_
      obtain ⟨g3, h⟩ := am_gd h
      refine px_iald (n := 24) l2.toNatClampNeg dX0_least_21 (il0 g2) g3 rfl ?_
      obtain ⟨q4, eq4, h⟩ := am_bd h
      refine px_callsi [.int l1, .int (u (l0 + 1) l2.toNatClampNeg)] dX0_least_22 ok_J9_min_7cf53 lk_RX0_34 st_J9_min_7cf53 (by decide) rfl (c_J9_min_7cf53 eq4) rfl (Nat.le_of_ble_eq_true rfl) ?_
      refine ev_istore_n (L' := [(1, .int q4.2), (0, .ref l0), (2, .int l2)]) dX0_least_25 (by decide) rfl ?_
      obtain ⟨x5, ex5, h⟩ := am_lt h
      refine ev_iinc (v := x5) (L' := [(2, .int x5), (1, .int q4.2), (0, .ref l0)]) dX0_least_26 2 rfl (by rw [kI_1, ex5]) (by decide) rfl ?_
      refine ev_goto 9 dX0_least_29 (by decide) ?_
      refine ev_loc [2, 1, 0] rfl ?_
      exact ih q4.1 l0 q4.2 x5 _ h

theorem l_X0_least_0 {X : Nat × (Nat → Int32)}   (u : am_MU) (l0 : Nat) (r : am_MU × Int32) (h : f_X0_least  u l0 = some r) : am_Ev X M_X0_least 0 [(0, .ref l0)] [] (hp u) (hp r.1, some (.int r.2)) := by
  unfold f_X0_least at h
  refine ev_aload_n dX0_least_0 0 rfl trivial ?_
  obtain ⟨g1, h⟩ := am_gd h
  refine px_getR dX0_least_1 gf_RX0_9 (at0 g1) (by decide) rfl ?_
  refine ev_iconst (v := (0 : Int32)) dX0_least_4 kI_0 ?_
  refine px_iald (n := 24) 0 dX0_least_5 (il0 g1) (by decide) (by decide) ?_
  obtain ⟨x2, ex2, h⟩ := am_lt h
  refine px_top ex2 ?_
  refine ev_istore_n (L' := [(1, .int x2), (0, .ref l0)]) dX0_least_6 (by decide) rfl ?_
  refine ev_iconst (v := (1 : Int32)) dX0_least_7 kI_1 ?_
  refine ev_istore_n (L' := [(2, .int (1 : Int32)), (1, .int x2), (0, .ref l0)]) dX0_least_8 (by decide) rfl ?_
  refine ev_loc [2, 1, 0] rfl ?_
  exact l_X0_least_9   1700 u l0 x2 (1 : Int32) _ h

theorem c_X0_least {X : Nat × (Nat → Int32)} {u : am_MU} {l0 : Nat} {r : am_MU × Int32} (h : f_X0_least u l0 = some r) : am_Cn X M_X0_least [.ref l0] (hp u) (hp r.1, some (.int r.2)) := by
  refine am_Cn.of ok_X0_least (Nat.le_refl _) (Nat.le_refl _) (Nat.le_of_ble_eq_true rfl) ?_
  refine ev_loc [0] rfl ?_
  exact l_X0_least_0 u l0 r h

-- SandRipples.aheadOf(I)I
def f_X6_aheadOf  (u : am_MU) (l0 : Int32) : Option (am_MU × Int32) :=
if 0 < l0 then (some (u, l0 - (1 : Int32)))
else (some (u, (23 : Int32)))

theorem l_X6_aheadOf_0 {X : Nat × (Nat → Int32)}   (u : am_MU) (l0 : Int32) (r : am_MU × Int32) (h : f_X6_aheadOf  u l0 = some r) : am_Ev X M_X6_aheadOf 0 [(0, .int l0)] [] (hp u) (hp r.1, some (.int r.2)) := by
  unfold f_X6_aheadOf at h
  refine ev_iload_n dX6_aheadOf_0 0 rfl ?_
  refine ev_if_gt 9 dX6_aheadOf_1 (by decide) (fun c1 => ?_) (fun c1 => ?_)
  · have h := am_t c1 h
    refine ev_iload_n dX6_aheadOf_9 0 rfl ?_
    refine ev_iconst (v := (1 : Int32)) dX6_aheadOf_10 kI_1 ?_
    refine ev_isub dX6_aheadOf_11 ?_
    obtain rfl := Option.some.inj h
    exact ev_iret dX6_aheadOf_12 rfl rfl
  · have h := am_e c1 h
    refine ev_bipush (v := (23 : Int32)) dX6_aheadOf_4 kB_23 ?_
    refine ev_goto 12 dX6_aheadOf_6 (by decide) ?_
    obtain rfl := Option.some.inj h
    exact ev_iret dX6_aheadOf_12 rfl rfl

theorem c_X6_aheadOf {X : Nat × (Nat → Int32)} {u : am_MU} {l0 : Int32} {r : am_MU × Int32} (h : f_X6_aheadOf u l0 = some r) : am_Cn X M_X6_aheadOf [.int l0] (hp u) (hp r.1, some (.int r.2)) := by
  refine am_Cn.of ok_X6_aheadOf (Nat.le_refl _) (Nat.le_refl _) (Nat.le_of_ble_eq_true rfl) ?_
  refine ev_loc [0] rfl ?_
  exact l_X6_aheadOf_0 u l0 r h

-- SandRipples.nextOf(I)I
def f_X6_nextOf  (u : am_MU) (l0 : Int32) : Option (am_MU × Int32) :=
if l0 < (23 : Int32) then (some (u, l0 + (1 : Int32)))
else (some (u, (0 : Int32)))

theorem l_X6_nextOf_0 {X : Nat × (Nat → Int32)}   (u : am_MU) (l0 : Int32) (r : am_MU × Int32) (h : f_X6_nextOf  u l0 = some r) : am_Ev X M_X6_nextOf 0 [(0, .int l0)] [] (hp u) (hp r.1, some (.int r.2)) := by
  unfold f_X6_nextOf at h
  refine ev_iload_n dX6_nextOf_0 0 rfl ?_
  refine ev_bipush (v := (23 : Int32)) dX6_nextOf_1 kB_23 ?_
  refine ev_icmp_lt 10 dX6_nextOf_3 (by decide) (fun c1 => ?_) (fun c1 => ?_)
  · have h := am_t c1 h
    refine ev_iload_n dX6_nextOf_10 0 rfl ?_
    refine ev_iconst (v := (1 : Int32)) dX6_nextOf_11 kI_1 ?_
    refine ev_iadd dX6_nextOf_12 ?_
    obtain rfl := Option.some.inj h
    exact ev_iret dX6_nextOf_13 rfl rfl
  · have h := am_e c1 h
    refine ev_iconst (v := (0 : Int32)) dX6_nextOf_6 kI_0 ?_
    refine ev_goto 13 dX6_nextOf_7 (by decide) ?_
    obtain rfl := Option.some.inj h
    exact ev_iret dX6_nextOf_13 rfl rfl

theorem c_X6_nextOf {X : Nat × (Nat → Int32)} {u : am_MU} {l0 : Int32} {r : am_MU × Int32} (h : f_X6_nextOf u l0 = some r) : am_Cn X M_X6_nextOf [.int l0] (hp u) (hp r.1, some (.int r.2)) := by
  refine am_Cn.of ok_X6_nextOf (Nat.le_refl _) (Nat.le_refl _) (Nat.le_of_ble_eq_true rfl) ?_
  refine ev_loc [0] rfl ?_
  exact l_X6_nextOf_0 u l0 r h

-- SandRipples$Floor.isCrest(I)Z
def f_X0_isCrest  (u : am_MU) (l0 : Nat) (l1 : Int32) : Option (am_MU × Int32) :=
if tg l0 = 0 then (
if am_in l1 24 then (
(f_X6_aheadOf u l1).bind fun q3 =>
if am_in q3.2 24 then (
if (u (l0 + 1) l1.toNatClampNeg) ≤ (q3.1 (l0 + 1) q3.2.toNatClampNeg) then (some (q3.1, (0 : Int32)))
else ((f_X6_nextOf q3.1 l1).bind fun q6 =>
if am_in q6.2 24 then (
if (q3.1 (l0 + 1) l1.toNatClampNeg) < (q6.1 (l0 + 1) q6.2.toNatClampNeg) then (some (q6.1, (0 : Int32)))
else (some (q6.1, (1 : Int32)))) else none)) else none) else none) else none

theorem l_X0_isCrest_0 {X : Nat × (Nat → Int32)}   (u : am_MU) (l0 : Nat) (l1 : Int32) (r : am_MU × Int32) (h : f_X0_isCrest  u l0 l1 = some r) : am_Ev X M_X0_isCrest 0 [(0, .ref l0), (1, .int l1)] [] (hp u) (hp r.1, some (.int r.2)) := by
  unfold f_X0_isCrest at h
  refine ev_aload_n dX0_isCrest_0 0 rfl trivial ?_
  obtain ⟨g1, h⟩ := am_gd h
  refine px_getR dX0_isCrest_1 gf_RX0_9 (at0 g1) (by decide) rfl ?_
  refine ev_iload_n dX0_isCrest_4 1 rfl ?_
  obtain ⟨g2, h⟩ := am_gd h
  refine px_iald (n := 24) l1.toNatClampNeg dX0_isCrest_5 (il0 g1) g2 rfl ?_
  refine ev_aload_n dX0_isCrest_6 0 rfl trivial ?_
  refine px_getR dX0_isCrest_7 gf_RX0_9 (at0 g1) (by decide) rfl ?_
  refine ev_iload_n dX0_isCrest_10 1 rfl ?_
  obtain ⟨q3, eq3, h⟩ := am_bd h
  refine px_callsi [.int l1] dX0_isCrest_11 ok_X6_aheadOf lk_RX0_37 st_X6_aheadOf (by decide) rfl (c_X6_aheadOf eq3) rfl (Nat.le_of_ble_eq_true rfl) ?_
  obtain ⟨g4, h⟩ := am_gd h
  refine px_iald (n := 24) q3.2.toNatClampNeg dX0_isCrest_14 (il0 g1) g4 rfl ?_
  refine ev_icmp_le 40 dX0_isCrest_15 (by decide) (fun c5 => ?_) (fun c5 => ?_)
  · have h := am_t c5 h
    refine ev_iconst (v := (0 : Int32)) dX0_isCrest_40 kI_0 ?_
    obtain rfl := Option.some.inj h
    exact ev_iret dX0_isCrest_41 rfl (am_zn (Or.inl rfl))
  · have h := am_e c5 h
    refine ev_aload_n dX0_isCrest_18 0 rfl trivial ?_
    refine px_getR dX0_isCrest_19 gf_RX0_9 (at0 g1) (by decide) rfl ?_
    refine ev_iload_n dX0_isCrest_22 1 rfl ?_
    refine px_iald (n := 24) l1.toNatClampNeg dX0_isCrest_23 (il0 g1) g2 rfl ?_
    refine ev_aload_n dX0_isCrest_24 0 rfl trivial ?_
    refine px_getR dX0_isCrest_25 gf_RX0_9 (at0 g1) (by decide) rfl ?_
    refine ev_iload_n dX0_isCrest_28 1 rfl ?_
    obtain ⟨q6, eq6, h⟩ := am_bd h
    refine px_callsi [.int l1] dX0_isCrest_29 ok_X6_nextOf lk_RX0_41 st_X6_nextOf (by decide) rfl (c_X6_nextOf eq6) rfl (Nat.le_of_ble_eq_true rfl) ?_
    obtain ⟨g7, h⟩ := am_gd h
    refine px_iald (n := 24) q6.2.toNatClampNeg dX0_isCrest_32 (il0 g1) g7 rfl ?_
    refine ev_icmp_lt 40 dX0_isCrest_33 (by decide) (fun c8 => ?_) (fun c8 => ?_)
    · have h := am_t c8 h
      refine ev_iconst (v := (0 : Int32)) dX0_isCrest_40 kI_0 ?_
      obtain rfl := Option.some.inj h
      exact ev_iret dX0_isCrest_41 rfl (am_zn (Or.inl rfl))
    · have h := am_e c8 h
      refine ev_iconst (v := (1 : Int32)) dX0_isCrest_36 kI_1 ?_
      refine ev_goto 41 dX0_isCrest_37 (by decide) ?_
      obtain rfl := Option.some.inj h
      exact ev_iret dX0_isCrest_41 rfl (am_zn (Or.inr rfl))

theorem c_X0_isCrest {X : Nat × (Nat → Int32)} {u : am_MU} {l0 : Nat} {l1 : Int32} {r : am_MU × Int32} (h : f_X0_isCrest u l0 l1 = some r) : am_Cn X M_X0_isCrest [.ref l0, .int l1] (hp u) (hp r.1, some (.int r.2)) := by
  refine am_Cn.of ok_X0_isCrest (Nat.le_refl _) (Nat.le_refl _) (Nat.le_of_ble_eq_true rfl) ?_
  refine ev_loc [0, 1] rfl ?_
  exact l_X0_isCrest_0 u l0 l1 r h

-- SandRipples$Floor.crests()I
def g_X0_crests_21 (K4 : am_MU → Nat → Int32 → Int32 → Option (am_MU × Int32)) (u : am_MU) (l0 : Nat) (l1 : Int32) (l2 : Int32) : Option (am_MU × Int32) :=
am_let (l2 + (1 : Int32)) fun x1 =>
K4 u l0 l1 x1

def g_X0_crests_4  : Nat → am_MU → Nat → Int32 → Int32 → Option (am_MU × Int32)
  | 0 => fun _ _ _ _ => none
  | n + 1 => fun u l0 l1 l2 =>
if (24 : Int32) ≤ l2 then (some (u, l1))
else (if tg l0 = 0 then (
(f_X0_isCrest u l0 l2).bind fun q2 =>
if q2.2 = 0 then (g_X0_crests_21 (g_X0_crests_4 n) q2.1 l0 l1 l2)
else (am_let (l1 + (1 : Int32)) fun x5 =>
g_X0_crests_21 (g_X0_crests_4 n) q2.1 l0 x5 l2)) else none)

def f_X0_crests  (u : am_MU) (l0 : Nat) : Option (am_MU × Int32) :=
g_X0_crests_4 1700 u l0 (0 : Int32) (0 : Int32)

theorem l_X0_crests_21 {X : Nat × (Nat → Int32)} (K4 : am_MU → Nat → Int32 → Int32 → Option (am_MU × Int32)) (hK4 : ∀ (u : am_MU) (l0 : Nat) (l1 : Int32) (l2 : Int32) (r : am_MU × Int32), K4 u l0 l1 l2 = some r → am_Ev X M_X0_crests 4 [(0, .ref l0), (1, .int l1), (2, .int l2)] [] (hp u) (hp r.1, some (.int r.2))) (u : am_MU) (l0 : Nat) (l1 : Int32) (l2 : Int32) (r : am_MU × Int32) (h : g_X0_crests_21 K4 u l0 l1 l2 = some r) : am_Ev X M_X0_crests 21 [(0, .ref l0), (1, .int l1), (2, .int l2)] [] (hp u) (hp r.1, some (.int r.2)) := by
  unfold g_X0_crests_21 at h
  obtain ⟨x1, ex1, h⟩ := am_lt h
  refine ev_iinc (v := x1) (L' := [(2, .int x1), (0, .ref l0), (1, .int l1)]) dX0_crests_21 2 rfl (by rw [kI_1, ex1]) (by decide) rfl ?_
  refine ev_goto 4 dX0_crests_24 (by decide) ?_
  refine ev_loc [1, 2, 0] rfl ?_
  exact hK4 u l0 l1 x1 _ h

theorem l_X0_crests_4 {X : Nat × (Nat → Int32)}   : ∀ (n : Nat) (u : am_MU) (l0 : Nat) (l1 : Int32) (l2 : Int32) (r : am_MU × Int32), g_X0_crests_4  n u l0 l1 l2 = some r → am_Ev X M_X0_crests 4 [(0, .ref l0), (1, .int l1), (2, .int l2)] [] (hp u) (hp r.1, some (.int r.2)) := by
  intro n
  induction n with
  | zero => intro u l0 l1 l2 r h; cases h
  | succ n ih =>
    intro u l0 l1 l2 r h
    rw [g_X0_crests_4] at h
    refine ev_iload_n dX0_crests_4 2 rfl ?_
    refine ev_bipush (v := (24 : Int32)) dX0_crests_5 kB_24 ?_
    refine ev_icmp_ge 27 dX0_crests_7 (by decide) (fun c1 => ?_) (fun c1 => ?_)
    · have h := am_t c1 h
      refine ev_iload_n dX0_crests_27 1 rfl ?_
      obtain rfl := Option.some.inj h
      exact ev_iret dX0_crests_28 rfl rfl
    · have h := am_e c1 h
      refine ev_aload_n dX0_crests_10 0 rfl trivial ?_
      refine ev_iload_n dX0_crests_11 2 rfl ?_
      obtain ⟨g3, h⟩ := am_gd h
      obtain ⟨q2, eq2, h⟩ := am_bd h
      refine px_callvi [.int l2] (by decide) cl_0 (at0 g3) dX0_crests_12 ok_X0_isCrest lk_RX0_44 in_X0_isCrest se_X0_isCrest (by decide) rfl (c_X0_isCrest eq2) rfl (Nat.le_of_ble_eq_true rfl) ?_
      refine ev_if_eq 21 dX0_crests_15 (by decide) (fun c4 => ?_) (fun c4 => ?_)
      · have h := am_t c4 h
        refine ev_loc [0, 1, 2] rfl ?_
        exact l_X0_crests_21 (g_X0_crests_4 n) (fun u l0 l1 l2 r h => ih u l0 l1 l2 r h) q2.1 l0 l1 l2 _ h
      · have h := am_e c4 h
        obtain ⟨x5, ex5, h⟩ := am_lt h
        refine ev_iinc (v := x5) (L' := [(1, .int x5), (0, .ref l0), (2, .int l2)]) dX0_crests_18 1 rfl (by rw [kI_1, ex5]) (by decide) rfl ?_
        refine ev_loc [1, 0, 2] rfl ?_
        exact l_X0_crests_21 (g_X0_crests_4 n) (fun u l0 l1 l2 r h => ih u l0 l1 l2 r h) q2.1 l0 x5 l2 _ h

theorem l_X0_crests_0 {X : Nat × (Nat → Int32)}   (u : am_MU) (l0 : Nat) (r : am_MU × Int32) (h : f_X0_crests  u l0 = some r) : am_Ev X M_X0_crests 0 [(0, .ref l0)] [] (hp u) (hp r.1, some (.int r.2)) := by
  unfold f_X0_crests at h
  refine ev_iconst (v := (0 : Int32)) dX0_crests_0 kI_0 ?_
  refine ev_istore_n (L' := [(1, .int (0 : Int32)), (0, .ref l0)]) dX0_crests_1 (by decide) rfl ?_
  refine ev_iconst (v := (0 : Int32)) dX0_crests_2 kI_0 ?_
  refine ev_istore_n (L' := [(2, .int (0 : Int32)), (1, .int (0 : Int32)), (0, .ref l0)]) dX0_crests_3 (by decide) rfl ?_
  refine ev_loc [2, 1, 0] rfl ?_
  exact l_X0_crests_4   1700 u l0 (0 : Int32) (0 : Int32) _ h

theorem c_X0_crests {X : Nat × (Nat → Int32)} {u : am_MU} {l0 : Nat} {r : am_MU × Int32} (h : f_X0_crests u l0 = some r) : am_Cn X M_X0_crests [.ref l0] (hp u) (hp r.1, some (.int r.2)) := by
  refine am_Cn.of ok_X0_crests (Nat.le_refl _) (Nat.le_refl _) (Nat.le_of_ble_eq_true rfl) ?_
  refine ev_loc [0] rfl ?_
  exact l_X0_crests_0 u l0 r h

-- SandRipples$Floor.lean()I
def g_X0_lean_4  : Nat → am_MU → Nat → Int32 → Int32 → Option (am_MU × Int32)
  | 0 => fun _ _ _ _ => none
  | n + 1 => fun u l0 l1 l2 =>
if (24 : Int32) ≤ l2 then (some (u, l1))
else (if tg l0 = 0 then (
(f_X6_nextOf u l2).bind fun q3 =>
if am_in q3.2 24 then (
if am_in l2 24 then (
(f_J6_compare_7cf53 q3.1 (q3.1 (l0 + 1) q3.2.toNatClampNeg) (q3.1 (l0 + 1) l2.toNatClampNeg)).bind fun q6 =>
am_let (l1 + q6.2) fun x7 =>
am_let (l2 + (1 : Int32)) fun x8 =>
g_X0_lean_4 n q6.1 l0 x7 x8) else none) else none) else none)

def f_X0_lean  (u : am_MU) (l0 : Nat) : Option (am_MU × Int32) :=
g_X0_lean_4 1700 u l0 (0 : Int32) (0 : Int32)

theorem l_X0_lean_4 {X : Nat × (Nat → Int32)}   : ∀ (n : Nat) (u : am_MU) (l0 : Nat) (l1 : Int32) (l2 : Int32) (r : am_MU × Int32), g_X0_lean_4  n u l0 l1 l2 = some r → am_Ev X M_X0_lean 4 [(0, .ref l0), (1, .int l1), (2, .int l2)] [] (hp u) (hp r.1, some (.int r.2)) := by
  intro n
  induction n with
  | zero => intro u l0 l1 l2 r h; cases h
  | succ n ih =>
    intro u l0 l1 l2 r h
    rw [g_X0_lean_4] at h
    refine ev_iload_n dX0_lean_4 2 rfl ?_
    refine ev_bipush (v := (24 : Int32)) dX0_lean_5 kB_24 ?_
    refine ev_icmp_ge 37 dX0_lean_7 (by decide) (fun c1 => ?_) (fun c1 => ?_)
    · have h := am_t c1 h
      refine ev_iload_n dX0_lean_37 1 rfl ?_
      obtain rfl := Option.some.inj h
      exact ev_iret dX0_lean_38 rfl rfl
    · have h := am_e c1 h
      refine ev_iload_n dX0_lean_10 1 rfl ?_
      refine ev_aload_n dX0_lean_11 0 rfl trivial ?_
      obtain ⟨g2, h⟩ := am_gd h
      refine px_getR dX0_lean_12 gf_RX0_9 (at0 g2) (by decide) rfl ?_
      refine ev_iload_n dX0_lean_15 2 rfl ?_
      obtain ⟨q3, eq3, h⟩ := am_bd h
      refine px_callsi [.int l2] dX0_lean_16 ok_X6_nextOf lk_RX0_41 st_X6_nextOf (by decide) rfl (c_X6_nextOf eq3) rfl (Nat.le_of_ble_eq_true rfl) ?_
      obtain ⟨g4, h⟩ := am_gd h
      refine px_iald (n := 24) q3.2.toNatClampNeg dX0_lean_19 (il0 g2) g4 rfl ?_
      refine ev_aload_n dX0_lean_20 0 rfl trivial ?_
      refine px_getR dX0_lean_21 gf_RX0_9 (at0 g2) (by decide) rfl ?_
      refine ev_iload_n dX0_lean_24 2 rfl ?_
      obtain ⟨g5, h⟩ := am_gd h
      refine px_iald (n := 24) l2.toNatClampNeg dX0_lean_25 (il0 g2) g5 rfl ?_
      obtain ⟨q6, eq6, h⟩ := am_bd h
      refine px_callsi [.int (q3.1 (l0 + 1) q3.2.toNatClampNeg), .int (q3.1 (l0 + 1) l2.toNatClampNeg)] dX0_lean_26 ok_J6_compare_7cf53 lk_RX0_48 st_J6_compare_7cf53 (by decide) rfl (c_J6_compare_7cf53 eq6) rfl (Nat.le_of_ble_eq_true rfl) ?_
      refine ev_iadd dX0_lean_29 ?_
      obtain ⟨x7, ex7, h⟩ := am_lt h
      refine px_top ex7 ?_
      refine ev_istore_n (L' := [(1, .int x7), (0, .ref l0), (2, .int l2)]) dX0_lean_30 (by decide) rfl ?_
      obtain ⟨x8, ex8, h⟩ := am_lt h
      refine ev_iinc (v := x8) (L' := [(2, .int x8), (1, .int x7), (0, .ref l0)]) dX0_lean_31 2 rfl (by rw [kI_1, ex8]) (by decide) rfl ?_
      refine ev_goto 4 dX0_lean_34 (by decide) ?_
      refine ev_loc [2, 1, 0] rfl ?_
      exact ih q6.1 l0 x7 x8 _ h

theorem l_X0_lean_0 {X : Nat × (Nat → Int32)}   (u : am_MU) (l0 : Nat) (r : am_MU × Int32) (h : f_X0_lean  u l0 = some r) : am_Ev X M_X0_lean 0 [(0, .ref l0)] [] (hp u) (hp r.1, some (.int r.2)) := by
  unfold f_X0_lean at h
  refine ev_iconst (v := (0 : Int32)) dX0_lean_0 kI_0 ?_
  refine ev_istore_n (L' := [(1, .int (0 : Int32)), (0, .ref l0)]) dX0_lean_1 (by decide) rfl ?_
  refine ev_iconst (v := (0 : Int32)) dX0_lean_2 kI_0 ?_
  refine ev_istore_n (L' := [(2, .int (0 : Int32)), (1, .int (0 : Int32)), (0, .ref l0)]) dX0_lean_3 (by decide) rfl ?_
  refine ev_loc [2, 1, 0] rfl ?_
  exact l_X0_lean_4   1700 u l0 (0 : Int32) (0 : Int32) _ h

theorem c_X0_lean {X : Nat × (Nat → Int32)} {u : am_MU} {l0 : Nat} {r : am_MU × Int32} (h : f_X0_lean u l0 = some r) : am_Cn X M_X0_lean [.ref l0] (hp u) (hp r.1, some (.int r.2)) := by
  refine am_Cn.of ok_X0_lean (Nat.le_refl _) (Nat.le_refl _) (Nat.le_of_ble_eq_true rfl) ?_
  refine ev_loc [0] rfl ?_
  exact l_X0_lean_0 u l0 r h

-- SandRipples$Floor.worth()I
def f_X0_worth  (u : am_MU) (l0 : Nat) : Option (am_MU × Int32) :=
if tg l0 = 0 then (
(f_X0_greatest u l0).bind fun q1 =>
(f_X0_least q1.1 l0).bind fun q3 =>
am_let (q1.2 - q3.2) fun x4 =>
if (q3.1 l0 2) = (1 : Int32) then ((f_X0_crests q3.1 l0).bind fun q6 =>
some (q6.1, x4 + q6.2))
else if (q3.1 l0 2) = (2 : Int32) then ((f_X0_lean q3.1 l0).bind fun q8 =>
some (q8.1, q8.2))
else if (q3.1 l0 2) = (3 : Int32) then ((f_X0_crests q3.1 l0).bind fun q10 =>
some (q10.1, (2 : Int32) * (x4 + q10.2)))
else if (q3.1 l0 2) = (4 : Int32) then ((f_X0_lean q3.1 l0).bind fun q12 =>
some (q12.1, q12.2 + (10 : Int32)))
else if (q3.1 l0 2) = (5 : Int32) then ((f_X0_total q3.1 l0).bind fun q14 =>
some (q14.1, q14.2 / (24 : Int32)))
else (some (q3.1, x4))) else none

theorem l_X0_worth_0 {X : Nat × (Nat → Int32)}   (u : am_MU) (l0 : Nat) (r : am_MU × Int32) (h : f_X0_worth  u l0 = some r) : am_Ev X M_X0_worth 0 [(0, .ref l0)] [] (hp u) (hp r.1, some (.int r.2)) := by
  unfold f_X0_worth at h
  refine ev_aload_n dX0_worth_0 0 rfl trivial ?_
  obtain ⟨g2, h⟩ := am_gd h
  obtain ⟨q1, eq1, h⟩ := am_bd h
  refine px_callvi [] (by decide) cl_0 (at0 g2) dX0_worth_1 ok_X0_greatest lk_RX0_53 in_X0_greatest se_X0_greatest (by decide) rfl (c_X0_greatest eq1) rfl (Nat.le_of_ble_eq_true rfl) ?_
  refine ev_aload_n dX0_worth_4 0 rfl trivial ?_
  obtain ⟨q3, eq3, h⟩ := am_bd h
  refine px_callvi [] (by decide) cl_0 (at0 g2) dX0_worth_5 ok_X0_least lk_RX0_57 in_X0_least se_X0_least (by decide) rfl (c_X0_least eq3) rfl (Nat.le_of_ble_eq_true rfl) ?_
  refine ev_isub dX0_worth_8 ?_
  obtain ⟨x4, ex4, h⟩ := am_lt h
  refine px_top ex4 ?_
  refine ev_istore_n (L' := [(1, .int x4), (0, .ref l0)]) dX0_worth_9 (by decide) rfl ?_
  refine ev_aload_n dX0_worth_10 1 rfl trivial ?_
  refine px_getI dX0_worth_11 gf_RX0_19 (at0 g2) (by decide) rfl ?_
  refine am_cs h (fun c5 h => ?_) (fun c5 h => ?_)
  · refine ev_tableIn 48 (34) dX0_worth_14 (by rw [c5]; decide) (by rw [c5]; decide) (by rw [c5]; decide) (by decide) ?_
    refine ev_iload_n dX0_worth_48 0 rfl ?_
    refine ev_aload_n dX0_worth_49 1 rfl trivial ?_
    obtain ⟨q6, eq6, h⟩ := am_bd h
    refine px_callvi [] (by decide) cl_0 (at0 g2) dX0_worth_50 ok_X0_crests lk_RX0_60 in_X0_crests se_X0_crests (by decide) rfl (c_X0_crests eq6) rfl (Nat.le_of_ble_eq_true rfl) ?_
    refine ev_iadd dX0_worth_53 ?_
    obtain rfl := Option.some.inj h
    exact ev_iret dX0_worth_54 rfl rfl
  refine am_cs h (fun c7 h => ?_) (fun c7 h => ?_)
  · refine ev_tableIn 64 (50) dX0_worth_14 (by rw [c7]; decide) (by rw [c7]; decide) (by rw [c7]; decide) (by decide) ?_
    refine ev_aload_n dX0_worth_64 1 rfl trivial ?_
    obtain ⟨q8, eq8, h⟩ := am_bd h
    refine px_callvi [] (by decide) cl_0 (at0 g2) dX0_worth_65 ok_X0_lean lk_RX0_63 in_X0_lean se_X0_lean (by decide) rfl (c_X0_lean eq8) rfl (Nat.le_of_ble_eq_true rfl) ?_
    obtain rfl := Option.some.inj h
    exact ev_iret dX0_worth_68 rfl rfl
  refine am_cs h (fun c9 h => ?_) (fun c9 h => ?_)
  · refine ev_tableIn 55 (41) dX0_worth_14 (by rw [c9]; decide) (by rw [c9]; decide) (by rw [c9]; decide) (by decide) ?_
    refine ev_iconst (v := (2 : Int32)) dX0_worth_55 kI_2 ?_
    refine ev_iload_n dX0_worth_56 0 rfl ?_
    refine ev_aload_n dX0_worth_57 1 rfl trivial ?_
    obtain ⟨q10, eq10, h⟩ := am_bd h
    refine px_callvi [] (by decide) cl_0 (at0 g2) dX0_worth_58 ok_X0_crests lk_RX0_60 in_X0_crests se_X0_crests (by decide) rfl (c_X0_crests eq10) rfl (Nat.le_of_ble_eq_true rfl) ?_
    refine ev_iadd dX0_worth_61 ?_
    refine ev_imul dX0_worth_62 ?_
    obtain rfl := Option.some.inj h
    exact ev_iret dX0_worth_63 rfl rfl
  refine am_cs h (fun c11 h => ?_) (fun c11 h => ?_)
  · refine ev_tableIn 69 (55) dX0_worth_14 (by rw [c11]; decide) (by rw [c11]; decide) (by rw [c11]; decide) (by decide) ?_
    refine ev_aload_n dX0_worth_69 1 rfl trivial ?_
    obtain ⟨q12, eq12, h⟩ := am_bd h
    refine px_callvi [] (by decide) cl_0 (at0 g2) dX0_worth_70 ok_X0_lean lk_RX0_63 in_X0_lean se_X0_lean (by decide) rfl (c_X0_lean eq12) rfl (Nat.le_of_ble_eq_true rfl) ?_
    refine ev_bipush (v := (10 : Int32)) dX0_worth_73 kB_10 ?_
    refine ev_iadd dX0_worth_75 ?_
    obtain rfl := Option.some.inj h
    exact ev_iret dX0_worth_76 rfl rfl
  refine am_cs h (fun c13 h => ?_) (fun c13 h => ?_)
  · refine ev_tableIn 77 (63) dX0_worth_14 (by rw [c13]; decide) (by rw [c13]; decide) (by rw [c13]; decide) (by decide) ?_
    refine ev_aload_n dX0_worth_77 1 rfl trivial ?_
    obtain ⟨q14, eq14, h⟩ := am_bd h
    refine px_callvi [] (by decide) cl_0 (at0 g2) dX0_worth_78 ok_X0_total lk_RX0_66 in_X0_total se_X0_total (by decide) rfl (c_X0_total eq14) rfl (Nat.le_of_ble_eq_true rfl) ?_
    refine ev_bipush (v := (24 : Int32)) dX0_worth_81 kB_24 ?_
    refine ev_idiv dX0_worth_83 (by decide) ?_
    obtain rfl := Option.some.inj h
    exact ev_iret dX0_worth_84 rfl rfl
  have nc5 := lv_neT (a := 1) c5 (by decide)
  have nc7 := lv_neT (a := 2) c7 (by decide)
  have nc9 := lv_neT (a := 3) c9 (by decide)
  have nc11 := lv_neT (a := 4) c11 (by decide)
  have nc13 := lv_neT (a := 5) c13 (by decide)
  refine ev_tableOut 85 dX0_worth_14 (by omega) (by decide) ?_
  refine ev_iload_n dX0_worth_85 0 rfl ?_
  obtain rfl := Option.some.inj h
  exact ev_iret dX0_worth_86 rfl rfl

theorem c_X0_worth {X : Nat × (Nat → Int32)} {u : am_MU} {l0 : Nat} {r : am_MU × Int32} (h : f_X0_worth u l0 = some r) : am_Cn X M_X0_worth [.ref l0] (hp u) (hp r.1, some (.int r.2)) := by
  refine am_Cn.of ok_X0_worth (Nat.le_refl _) (Nat.le_refl _) (Nat.le_of_ble_eq_true rfl) ?_
  refine ev_loc [0] rfl ?_
  exact l_X0_worth_0 u l0 r h

-- SandRipples.reachOf(LSandRipples$World;LSandRipples$Floor;)I
def f_X6_reachOf  (u : am_MU) (l0 : Nat) (l1 : Nat) : Option (am_MU × Int32) :=
if tg l0 = 5 then (
am_let (u (l0 + 1) 0) fun x2 =>
if tg l1 = 0 then (
if (u l1 2) = (1 : Int32) then (some (u, ((2 : Int32) * x2) / (3 : Int32)))
else if (u l1 2) = (2 : Int32) then (some (u, x2 + (1 : Int32)))
else if (u l1 2) = (3 : Int32) then ((f_J9_max_7cf53 u ((((2 : Int32) * x2) / (3 : Int32)) - (1 : Int32)) (0 : Int32)).bind fun q7 =>
some (q7.1, q7.2))
else if (u l1 2) = (4 : Int32) then (some (u, (x2 + (1 : Int32)) / (2 : Int32)))
else if (u l1 2) = (5 : Int32) then (if ((u l1 1) - (u l1 1) / (2 : Int32) * (2 : Int32)) = 0 then (some (u, x2))
else (some (u, u (l0 + 1) 2)))
else (some (u, x2))) else none) else none

theorem l_X6_reachOf_0 {X : Nat × (Nat → Int32)}   (u : am_MU) (l0 : Nat) (l1 : Nat) (r : am_MU × Int32) (h : f_X6_reachOf  u l0 l1 = some r) : am_Ev X M_X6_reachOf 0 [(0, .ref l0), (1, .ref l1)] [] (hp u) (hp r.1, some (.int r.2)) := by
  unfold f_X6_reachOf at h
  refine ev_aload_n dX6_reachOf_0 0 rfl trivial ?_
  obtain ⟨g1, h⟩ := am_gd h
  refine px_getR dX6_reachOf_1 gf_RX6_143 (at5 g1) (by decide) rfl ?_
  refine ev_iconst (v := (0 : Int32)) dX6_reachOf_4 kI_0 ?_
  refine px_iald (n := 4) 0 dX6_reachOf_5 (il5s g1) (by decide) (by decide) ?_
  obtain ⟨x2, ex2, h⟩ := am_lt h
  refine px_top ex2 ?_
  refine ev_istore_n (L' := [(2, .int x2), (0, .ref l0), (1, .ref l1)]) dX6_reachOf_6 (by decide) rfl ?_
  refine ev_aload_n dX6_reachOf_7 2 rfl trivial ?_
  obtain ⟨g3, h⟩ := am_gd h
  refine px_getI dX6_reachOf_8 gf_RX6_97 (at0 g3) (by decide) rfl ?_
  refine am_cs h (fun c4 h => ?_) (fun c4 h => ?_)
  · refine ev_tableIn 44 (33) dX6_reachOf_11 (by rw [c4]; decide) (by rw [c4]; decide) (by rw [c4]; decide) (by decide) ?_
    refine ev_iconst (v := (2 : Int32)) dX6_reachOf_44 kI_2 ?_
    refine ev_iload_n dX6_reachOf_45 0 rfl ?_
    refine ev_imul dX6_reachOf_46 ?_
    refine ev_iconst (v := (3 : Int32)) dX6_reachOf_47 kI_3 ?_
    refine ev_idiv dX6_reachOf_48 (by decide) ?_
    obtain rfl := Option.some.inj h
    exact ev_iret dX6_reachOf_49 rfl rfl
  refine am_cs h (fun c5 h => ?_) (fun c5 h => ?_)
  · refine ev_tableIn 62 (51) dX6_reachOf_11 (by rw [c5]; decide) (by rw [c5]; decide) (by rw [c5]; decide) (by decide) ?_
    refine ev_iload_n dX6_reachOf_62 0 rfl ?_
    refine ev_iconst (v := (1 : Int32)) dX6_reachOf_63 kI_1 ?_
    refine ev_iadd dX6_reachOf_64 ?_
    obtain rfl := Option.some.inj h
    exact ev_iret dX6_reachOf_65 rfl rfl
  refine am_cs h (fun c6 h => ?_) (fun c6 h => ?_)
  · refine ev_tableIn 50 (39) dX6_reachOf_11 (by rw [c6]; decide) (by rw [c6]; decide) (by rw [c6]; decide) (by decide) ?_
    refine ev_iconst (v := (2 : Int32)) dX6_reachOf_50 kI_2 ?_
    refine ev_iload_n dX6_reachOf_51 0 rfl ?_
    refine ev_imul dX6_reachOf_52 ?_
    refine ev_iconst (v := (3 : Int32)) dX6_reachOf_53 kI_3 ?_
    refine ev_idiv dX6_reachOf_54 (by decide) ?_
    refine ev_iconst (v := (1 : Int32)) dX6_reachOf_55 kI_1 ?_
    refine ev_isub dX6_reachOf_56 ?_
    refine ev_iconst (v := (0 : Int32)) dX6_reachOf_57 kI_0 ?_
    obtain ⟨q7, eq7, h⟩ := am_bd h
    refine px_callsi [.int ((((2 : Int32) * x2) / (3 : Int32)) - (1 : Int32)), .int (0 : Int32)] dX6_reachOf_58 ok_J9_max_7cf53 lk_RX6_305 st_J9_max_7cf53 (by decide) rfl (c_J9_max_7cf53 eq7) rfl (Nat.le_of_ble_eq_true rfl) ?_
    obtain rfl := Option.some.inj h
    exact ev_iret dX6_reachOf_61 rfl rfl
  refine am_cs h (fun c8 h => ?_) (fun c8 h => ?_)
  · refine ev_tableIn 66 (55) dX6_reachOf_11 (by rw [c8]; decide) (by rw [c8]; decide) (by rw [c8]; decide) (by decide) ?_
    refine ev_iload_n dX6_reachOf_66 0 rfl ?_
    refine ev_iconst (v := (1 : Int32)) dX6_reachOf_67 kI_1 ?_
    refine ev_iadd dX6_reachOf_68 ?_
    refine ev_iconst (v := (2 : Int32)) dX6_reachOf_69 kI_2 ?_
    refine ev_idiv dX6_reachOf_70 (by decide) ?_
    obtain rfl := Option.some.inj h
    exact ev_iret dX6_reachOf_71 rfl rfl
  refine am_cs h (fun c9 h => ?_) (fun c9 h => ?_)
  · refine ev_tableIn 72 (61) dX6_reachOf_11 (by rw [c9]; decide) (by rw [c9]; decide) (by rw [c9]; decide) (by decide) ?_
    refine ev_aload_n dX6_reachOf_72 2 rfl trivial ?_
    refine px_getI dX6_reachOf_73 gf_RX6_100 (at0 g3) (by decide) rfl ?_
    refine ev_iconst (v := (2 : Int32)) dX6_reachOf_76 kI_2 ?_
    refine ev_irem dX6_reachOf_77 (by decide) ?_
    refine ev_if_ne 85 dX6_reachOf_78 (by decide) (fun c10 => ?_) (fun c10 => ?_)
    · have h := am_e c10 h
      refine ev_aload_n dX6_reachOf_85 1 rfl trivial ?_
      refine px_getR dX6_reachOf_86 gf_RX6_143 (at5 g1) (by decide) rfl ?_
      refine ev_iconst (v := (2 : Int32)) dX6_reachOf_89 kI_2 ?_
      refine px_iald (n := 4) 2 dX6_reachOf_90 (il5s g1) (by decide) (by decide) ?_
      obtain rfl := Option.some.inj h
      exact ev_iret dX6_reachOf_91 rfl rfl
    · have h := am_t c10 h
      refine ev_iload_n dX6_reachOf_81 0 rfl ?_
      refine ev_goto 91 dX6_reachOf_82 (by decide) ?_
      obtain rfl := Option.some.inj h
      exact ev_iret dX6_reachOf_91 rfl rfl
  have nc4 := lv_neT (a := 1) c4 (by decide)
  have nc5 := lv_neT (a := 2) c5 (by decide)
  have nc6 := lv_neT (a := 3) c6 (by decide)
  have nc8 := lv_neT (a := 4) c8 (by decide)
  have nc9 := lv_neT (a := 5) c9 (by decide)
  refine ev_tableOut 92 dX6_reachOf_11 (by omega) (by decide) ?_
  refine ev_iload_n dX6_reachOf_92 0 rfl ?_
  obtain rfl := Option.some.inj h
  exact ev_iret dX6_reachOf_93 rfl rfl

theorem c_X6_reachOf {X : Nat × (Nat → Int32)} {u : am_MU} {l0 : Nat} {l1 : Nat} {r : am_MU × Int32} (h : f_X6_reachOf u l0 l1 = some r) : am_Cn X M_X6_reachOf [.ref l0, .ref l1] (hp u) (hp r.1, some (.int r.2)) := by
  refine am_Cn.of ok_X6_reachOf (Nat.le_refl _) (Nat.le_refl _) (Nat.le_of_ble_eq_true rfl) ?_
  refine ev_loc [0, 1] rfl ?_
  exact l_X6_reachOf_0 u l0 l1 r h

-- SandRipples$Floor.way()I
def f_X0_way  (u : am_MU) (l0 : Nat) : Option (am_MU × Int32) :=
if tg l0 = 0 then (
if (u l0 2) = (2 : Int32) then (some (u, (1 : Int32)))
else (if (u l0 2) = (4 : Int32) then (some (u, (1 : Int32)))
else (if ((u l0 1) - (u l0 1) / (2 : Int32) * (2 : Int32)) = 0 then (some (u, (1 : Int32)))
else (some (u, ((-1) : Int32)))))) else none

theorem l_X0_way_0 {X : Nat × (Nat → Int32)}   (u : am_MU) (l0 : Nat) (r : am_MU × Int32) (h : f_X0_way  u l0 = some r) : am_Ev X M_X0_way 0 [(0, .ref l0)] [] (hp u) (hp r.1, some (.int r.2)) := by
  unfold f_X0_way at h
  refine ev_aload_n dX0_way_0 0 rfl trivial ?_
  obtain ⟨g1, h⟩ := am_gd h
  refine px_getI dX0_way_1 gf_RX0_19 (at0 g1) (by decide) rfl ?_
  refine ev_iconst (v := (2 : Int32)) dX0_way_4 kI_2 ?_
  refine ev_icmp_eq 25 dX0_way_5 (by decide) (fun c2 => ?_) (fun c2 => ?_)
  · have h := am_t c2 h
    refine ev_iconst (v := (1 : Int32)) dX0_way_25 kI_1 ?_
    refine ev_goto 30 dX0_way_26 (by decide) ?_
    obtain rfl := Option.some.inj h
    exact ev_iret dX0_way_30 rfl rfl
  · have h := am_e c2 h
    refine ev_aload_n dX0_way_8 0 rfl trivial ?_
    refine px_getI dX0_way_9 gf_RX0_19 (at0 g1) (by decide) rfl ?_
    refine ev_iconst (v := (4 : Int32)) dX0_way_12 kI_4 ?_
    refine ev_icmp_eq 25 dX0_way_13 (by decide) (fun c3 => ?_) (fun c3 => ?_)
    · have h := am_t c3 h
      refine ev_iconst (v := (1 : Int32)) dX0_way_25 kI_1 ?_
      refine ev_goto 30 dX0_way_26 (by decide) ?_
      obtain rfl := Option.some.inj h
      exact ev_iret dX0_way_30 rfl rfl
    · have h := am_e c3 h
      refine ev_aload_n dX0_way_16 0 rfl trivial ?_
      refine px_getI dX0_way_17 gf_RX0_15 (at0 g1) (by decide) rfl ?_
      refine ev_iconst (v := (2 : Int32)) dX0_way_20 kI_2 ?_
      refine ev_irem dX0_way_21 (by decide) ?_
      refine ev_if_ne 29 dX0_way_22 (by decide) (fun c4 => ?_) (fun c4 => ?_)
      · have h := am_e c4 h
        refine ev_iconst (v := ((-1) : Int32)) dX0_way_29 kI_m1 ?_
        obtain rfl := Option.some.inj h
        exact ev_iret dX0_way_30 rfl rfl
      · have h := am_t c4 h
        refine ev_iconst (v := (1 : Int32)) dX0_way_25 kI_1 ?_
        refine ev_goto 30 dX0_way_26 (by decide) ?_
        obtain rfl := Option.some.inj h
        exact ev_iret dX0_way_30 rfl rfl

theorem c_X0_way {X : Nat × (Nat → Int32)} {u : am_MU} {l0 : Nat} {r : am_MU × Int32} (h : f_X0_way u l0 = some r) : am_Cn X M_X0_way [.ref l0] (hp u) (hp r.1, some (.int r.2)) := by
  refine am_Cn.of ok_X0_way (Nat.le_refl _) (Nat.le_refl _) (Nat.le_of_ble_eq_true rfl) ?_
  refine ev_loc [0] rfl ?_
  exact l_X0_way_0 u l0 r h

-- SandRipples$Text.leaf(IIII)I
def f_X4_leaf  (u : am_MU) (l0 : Int32) (l1 : Int32) (l2 : Int32) (l3 : Int32) : Option (am_MU × Int32) :=
if l0 = ((-3) : Int32) then (some (u, l3))
else if l0 = ((-2) : Int32) then (some (u, l2))
else if l0 = ((-1) : Int32) then (some (u, l1))
else (some (u, l0))

theorem l_X4_leaf_0 {X : Nat × (Nat → Int32)}   (u : am_MU) (l0 : Int32) (l1 : Int32) (l2 : Int32) (l3 : Int32) (r : am_MU × Int32) (h : f_X4_leaf  u l0 l1 l2 l3 = some r) : am_Ev X M_X4_leaf 0 [(0, .int l0), (1, .int l1), (2, .int l2), (3, .int l3)] [] (hp u) (hp r.1, some (.int r.2)) := by
  unfold f_X4_leaf at h
  refine ev_iload_n dX4_leaf_0 0 rfl ?_
  refine am_cs h (fun c1 h => ?_) (fun c1 h => ?_)
  · refine ev_tableIn 32 (31) dX4_leaf_1 (by rw [c1]; decide) (by rw [c1]; decide) (by rw [c1]; decide) (by decide) ?_
    refine ev_iload_n dX4_leaf_32 3 rfl ?_
    obtain rfl := Option.some.inj h
    exact ev_iret dX4_leaf_33 rfl rfl
  refine am_cs h (fun c2 h => ?_) (fun c2 h => ?_)
  · refine ev_tableIn 30 (29) dX4_leaf_1 (by rw [c2]; decide) (by rw [c2]; decide) (by rw [c2]; decide) (by decide) ?_
    refine ev_iload_n dX4_leaf_30 2 rfl ?_
    obtain rfl := Option.some.inj h
    exact ev_iret dX4_leaf_31 rfl rfl
  refine am_cs h (fun c3 h => ?_) (fun c3 h => ?_)
  · refine ev_tableIn 28 (27) dX4_leaf_1 (by rw [c3]; decide) (by rw [c3]; decide) (by rw [c3]; decide) (by decide) ?_
    refine ev_iload_n dX4_leaf_28 1 rfl ?_
    obtain rfl := Option.some.inj h
    exact ev_iret dX4_leaf_29 rfl rfl
  have nc1 := lv_neT (a := -3) c1 (by decide)
  have nc2 := lv_neT (a := -2) c2 (by decide)
  have nc3 := lv_neT (a := -1) c3 (by decide)
  refine ev_tableOut 34 dX4_leaf_1 (by omega) (by decide) ?_
  refine ev_iload_n dX4_leaf_34 0 rfl ?_
  obtain rfl := Option.some.inj h
  exact ev_iret dX4_leaf_35 rfl rfl

theorem c_X4_leaf {X : Nat × (Nat → Int32)} {u : am_MU} {l0 : Int32} {l1 : Int32} {l2 : Int32} {l3 : Int32} {r : am_MU × Int32} (h : f_X4_leaf u l0 l1 l2 l3 = some r) : am_Cn X M_X4_leaf [.int l0, .int l1, .int l2, .int l3] (hp u) (hp r.1, some (.int r.2)) := by
  refine am_Cn.of ok_X4_leaf (Nat.le_refl _) (Nat.le_refl _) (Nat.le_of_ble_eq_true rfl) ?_
  refine ev_loc [0, 1, 2, 3] rfl ?_
  exact l_X4_leaf_0 u l0 l1 l2 l3 r h

-- SandRipples$Text.joined(III)I
def f_X4_joined  (u : am_MU) (l0 : Int32) (l1 : Int32) (l2 : Int32) : Option (am_MU × Int32) :=
if l0 = (38 : Int32) then (if l1 = 0 then (some (u, (0 : Int32)))
else (if l2 = 0 then (some (u, (0 : Int32)))
else (some (u, (1 : Int32)))))
else if l0 = (42 : Int32) then (some (u, l1 * l2))
else if l0 = (43 : Int32) then (some (u, l1 + l2))
else if l0 = (45 : Int32) then (some (u, l1 - l2))
else if l0 = (47 : Int32) then (if l2 = 0 then (some (u, (0 : Int32)))
else (if ¬ l2 = 0 then (
some (u, l1 / l2)) else none))
else if l0 = (60 : Int32) then (if l2 ≤ l1 then (some (u, (0 : Int32)))
else (some (u, (1 : Int32))))
else if l0 = (61 : Int32) then (if l1 = l2 then (some (u, (1 : Int32)))
else (some (u, (0 : Int32))))
else if l0 = (62 : Int32) then (if l1 ≤ l2 then (some (u, (0 : Int32)))
else (some (u, (1 : Int32))))
else if l0 = (124 : Int32) then (if l1 = 0 then (if l2 = 0 then (some (u, (0 : Int32)))
else (some (u, (1 : Int32))))
else (some (u, (1 : Int32))))
else (some (u, (0 : Int32)))

theorem l_X4_joined_0 {X : Nat × (Nat → Int32)}   (u : am_MU) (l0 : Int32) (l1 : Int32) (l2 : Int32) (r : am_MU × Int32) (h : f_X4_joined  u l0 l1 l2 = some r) : am_Ev X M_X4_joined 0 [(0, .int l0), (1, .int l1), (2, .int l2)] [] (hp u) (hp r.1, some (.int r.2)) := by
  unfold f_X4_joined at h
  refine ev_iload_n dX4_joined_0 0 rfl ?_
  refine am_cs h (fun c1 h => ?_) (fun c1 h => ?_)
  · refine ev_lookup 98 (97) dX4_joined_1 (by decide) (by rw [c1]; decide) (by decide) ?_
    refine ev_iload_n dX4_joined_98 1 rfl ?_
    refine ev_if_eq 110 dX4_joined_99 (by decide) (fun c2 => ?_) (fun c2 => ?_)
    · have h := am_t c2 h
      refine ev_iconst (v := (0 : Int32)) dX4_joined_110 kI_0 ?_
      obtain rfl := Option.some.inj h
      exact ev_iret dX4_joined_111 rfl rfl
    · have h := am_e c2 h
      refine ev_iload_n dX4_joined_102 2 rfl ?_
      refine ev_if_eq 110 dX4_joined_103 (by decide) (fun c3 => ?_) (fun c3 => ?_)
      · have h := am_t c3 h
        refine ev_iconst (v := (0 : Int32)) dX4_joined_110 kI_0 ?_
        obtain rfl := Option.some.inj h
        exact ev_iret dX4_joined_111 rfl rfl
      · have h := am_e c3 h
        refine ev_iconst (v := (1 : Int32)) dX4_joined_106 kI_1 ?_
        refine ev_goto 111 dX4_joined_107 (by decide) ?_
        obtain rfl := Option.some.inj h
        exact ev_iret dX4_joined_111 rfl rfl
  refine am_cs h (fun c4 h => ?_) (fun c4 h => ?_)
  · refine ev_lookup 153 (152) dX4_joined_1 (by decide) (by rw [c4]; decide) (by decide) ?_
    refine ev_iload_n dX4_joined_153 1 rfl ?_
    refine ev_iload_n dX4_joined_154 2 rfl ?_
    refine ev_imul dX4_joined_155 ?_
    obtain rfl := Option.some.inj h
    exact ev_iret dX4_joined_156 rfl rfl
  refine am_cs h (fun c5 h => ?_) (fun c5 h => ?_)
  · refine ev_lookup 145 (144) dX4_joined_1 (by decide) (by rw [c5]; decide) (by decide) ?_
    refine ev_iload_n dX4_joined_145 1 rfl ?_
    refine ev_iload_n dX4_joined_146 2 rfl ?_
    refine ev_iadd dX4_joined_147 ?_
    obtain rfl := Option.some.inj h
    exact ev_iret dX4_joined_148 rfl rfl
  refine am_cs h (fun c6 h => ?_) (fun c6 h => ?_)
  · refine ev_lookup 149 (148) dX4_joined_1 (by decide) (by rw [c6]; decide) (by decide) ?_
    refine ev_iload_n dX4_joined_149 1 rfl ?_
    refine ev_iload_n dX4_joined_150 2 rfl ?_
    refine ev_isub dX4_joined_151 ?_
    obtain rfl := Option.some.inj h
    exact ev_iret dX4_joined_152 rfl rfl
  refine am_cs h (fun c7 h => ?_) (fun c7 h => ?_)
  · refine ev_lookup 157 (156) dX4_joined_1 (by decide) (by rw [c7]; decide) (by decide) ?_
    refine ev_iload_n dX4_joined_157 2 rfl ?_
    refine ev_if_ne 165 dX4_joined_158 (by decide) (fun c8 => ?_) (fun c8 => ?_)
    · have h := am_e c8 h
      refine ev_iload_n dX4_joined_165 1 rfl ?_
      refine ev_iload_n dX4_joined_166 2 rfl ?_
      obtain ⟨g9, h⟩ := am_gd h
      refine ev_idiv dX4_joined_167 g9 ?_
      obtain rfl := Option.some.inj h
      exact ev_iret dX4_joined_168 rfl rfl
    · have h := am_t c8 h
      refine ev_iconst (v := (0 : Int32)) dX4_joined_161 kI_0 ?_
      refine ev_goto 168 dX4_joined_162 (by decide) ?_
      obtain rfl := Option.some.inj h
      exact ev_iret dX4_joined_168 rfl rfl
  refine am_cs h (fun c10 h => ?_) (fun c10 h => ?_)
  · refine ev_lookup 112 (111) dX4_joined_1 (by decide) (by rw [c10]; decide) (by decide) ?_
    refine ev_iload_n dX4_joined_112 1 rfl ?_
    refine ev_iload_n dX4_joined_113 2 rfl ?_
    refine ev_icmp_ge 121 dX4_joined_114 (by decide) (fun c11 => ?_) (fun c11 => ?_)
    · have h := am_t c11 h
      refine ev_iconst (v := (0 : Int32)) dX4_joined_121 kI_0 ?_
      obtain rfl := Option.some.inj h
      exact ev_iret dX4_joined_122 rfl rfl
    · have h := am_e c11 h
      refine ev_iconst (v := (1 : Int32)) dX4_joined_117 kI_1 ?_
      refine ev_goto 122 dX4_joined_118 (by decide) ?_
      obtain rfl := Option.some.inj h
      exact ev_iret dX4_joined_122 rfl rfl
  refine am_cs h (fun c12 h => ?_) (fun c12 h => ?_)
  · refine ev_lookup 123 (122) dX4_joined_1 (by decide) (by rw [c12]; decide) (by decide) ?_
    refine ev_iload_n dX4_joined_123 1 rfl ?_
    refine ev_iload_n dX4_joined_124 2 rfl ?_
    refine ev_icmp_ne 132 dX4_joined_125 (by decide) (fun c13 => ?_) (fun c13 => ?_)
    · have h := am_e c13 h
      refine ev_iconst (v := (0 : Int32)) dX4_joined_132 kI_0 ?_
      obtain rfl := Option.some.inj h
      exact ev_iret dX4_joined_133 rfl rfl
    · have h := am_t c13 h
      refine ev_iconst (v := (1 : Int32)) dX4_joined_128 kI_1 ?_
      refine ev_goto 133 dX4_joined_129 (by decide) ?_
      obtain rfl := Option.some.inj h
      exact ev_iret dX4_joined_133 rfl rfl
  refine am_cs h (fun c14 h => ?_) (fun c14 h => ?_)
  · refine ev_lookup 134 (133) dX4_joined_1 (by decide) (by rw [c14]; decide) (by decide) ?_
    refine ev_iload_n dX4_joined_134 1 rfl ?_
    refine ev_iload_n dX4_joined_135 2 rfl ?_
    refine ev_icmp_le 143 dX4_joined_136 (by decide) (fun c15 => ?_) (fun c15 => ?_)
    · have h := am_t c15 h
      refine ev_iconst (v := (0 : Int32)) dX4_joined_143 kI_0 ?_
      obtain rfl := Option.some.inj h
      exact ev_iret dX4_joined_144 rfl rfl
    · have h := am_e c15 h
      refine ev_iconst (v := (1 : Int32)) dX4_joined_139 kI_1 ?_
      refine ev_goto 144 dX4_joined_140 (by decide) ?_
      obtain rfl := Option.some.inj h
      exact ev_iret dX4_joined_144 rfl rfl
  refine am_cs h (fun c16 h => ?_) (fun c16 h => ?_)
  · refine ev_lookup 84 (83) dX4_joined_1 (by decide) (by rw [c16]; decide) (by decide) ?_
    refine ev_iload_n dX4_joined_84 1 rfl ?_
    refine ev_if_ne 92 dX4_joined_85 (by decide) (fun c17 => ?_) (fun c17 => ?_)
    · have h := am_e c17 h
      refine ev_iconst (v := (1 : Int32)) dX4_joined_92 kI_1 ?_
      refine ev_goto 97 dX4_joined_93 (by decide) ?_
      obtain rfl := Option.some.inj h
      exact ev_iret dX4_joined_97 rfl rfl
    · have h := am_t c17 h
      refine ev_iload_n dX4_joined_88 2 rfl ?_
      refine ev_if_eq 96 dX4_joined_89 (by decide) (fun c18 => ?_) (fun c18 => ?_)
      · have h := am_t c18 h
        refine ev_iconst (v := (0 : Int32)) dX4_joined_96 kI_0 ?_
        obtain rfl := Option.some.inj h
        exact ev_iret dX4_joined_97 rfl rfl
      · have h := am_e c18 h
        refine ev_iconst (v := (1 : Int32)) dX4_joined_92 kI_1 ?_
        refine ev_goto 97 dX4_joined_93 (by decide) ?_
        obtain rfl := Option.some.inj h
        exact ev_iret dX4_joined_97 rfl rfl
  refine ev_lookup 169 (168) dX4_joined_1 (by decide) ((lv_osw c1 (by decide)).trans ((lv_osw c4 (by decide)).trans ((lv_osw c5 (by decide)).trans ((lv_osw c6 (by decide)).trans ((lv_osw c7 (by decide)).trans ((lv_osw c10 (by decide)).trans ((lv_osw c12 (by decide)).trans ((lv_osw c14 (by decide)).trans ((lv_osw c16 (by decide)).trans rfl))))))))) (by decide) ?_
  refine ev_iconst (v := (0 : Int32)) dX4_joined_169 kI_0 ?_
  obtain rfl := Option.some.inj h
  exact ev_iret dX4_joined_170 rfl rfl

theorem c_X4_joined {X : Nat × (Nat → Int32)} {u : am_MU} {l0 : Int32} {l1 : Int32} {l2 : Int32} {r : am_MU × Int32} (h : f_X4_joined u l0 l1 l2 = some r) : am_Cn X M_X4_joined [.int l0, .int l1, .int l2] (hp u) (hp r.1, some (.int r.2)) := by
  refine am_Cn.of ok_X4_joined (Nat.le_refl _) (Nat.le_refl _) (Nat.le_of_ble_eq_true rfl) ?_
  refine ev_loc [0, 1, 2] rfl ?_
  exact l_X4_joined_0 u l0 l1 l2 r h

-- SandRipples$Text.value([IIII)I
def g_X4_value_143  (u : am_MU) (l1 : Nat) (l5 : Int32) : Option (am_MU × Int32) :=
if l5 = (1 : Int32) then (if am_in (0 : Int32) (il l1) then (
some (u, u l1 0)) else none)
else (some (u, (0 : Int32)))

def g_X4_value_137 (K6 : am_MU → Nat → Nat → Int32 → Int32 → Int32 → Int32 → Int32 → Option (am_MU × Int32)) (u : am_MU) (l0 : Nat) (l1 : Nat) (l2 : Int32) (l3 : Int32) (l4 : Int32) (l5 : Int32) (l6 : Int32) : Option (am_MU × Int32) :=
am_let (l6 + (1 : Int32)) fun x1 =>
K6 u l0 l1 l2 l3 l4 l5 x1

def g_X4_value_100 (K6 : am_MU → Nat → Nat → Int32 → Int32 → Int32 → Int32 → Int32 → Option (am_MU × Int32)) (u : am_MU) (l0 : Nat) (l1 : Nat) (l2 : Int32) (l3 : Int32) (l4 : Int32) (l5 : Int32) (l6 : Int32) (s0 : Nat) (s1 : Int32) (s2 : Int32) : Option (am_MU × Int32) :=
if am_in s1 (il s0) then (
am_let (am_u2 u s0 s1.toNatClampNeg s2) fun u2 =>
g_X4_value_137 K6 u2 l0 l1 l2 l3 l4 l5 l6) else none

def g_X4_value_6  : Nat → am_MU → Nat → Nat → Int32 → Int32 → Int32 → Int32 → Int32 → Option (am_MU × Int32)
  | 0 => fun _ _ _ _ _ _ _ _ => none
  | n + 1 => fun u l0 l1 l2 l3 l4 l5 l6 =>
if tg l0 = 4 then (
if (u l0 2) ≤ l6 then (g_X4_value_143 u l1 l5)
else (if (96 : Int32) ≤ l6 then (g_X4_value_143 u l1 l5)
else (if am_in l6 96 then (
am_let (u (l0 + 1) l6.toNatClampNeg) fun x5 =>
if x5 < ((-3) : Int32) then (if x5 = ((-33) : Int32) then (if (1 : Int32) ≤ l5 then (if am_in (l5 - (1 : Int32)) (il l1) then (
if (u l1 ((l5 - (1 : Int32)).toNatClampNeg)) = 0 then (g_X4_value_100 (g_X4_value_6 n) u l0 l1 l2 l3 l4 l5 l6 l1 (l5 - (1 : Int32)) (1 : Int32))
else (g_X4_value_100 (g_X4_value_6 n) u l0 l1 l2 l3 l4 l5 l6 l1 (l5 - (1 : Int32)) (0 : Int32))) else none)
else (some (u, (0 : Int32))))
else (if (2 : Int32) ≤ l5 then (am_let (l5 + ((-1) : Int32)) fun x9 =>
if am_in (x9 - (1 : Int32)) (il l1) then (
if am_in x9 (il l1) then (
(f_X4_joined u (-x5) (u l1 ((x9 - (1 : Int32)).toNatClampNeg)) (u l1 x9.toNatClampNeg)).bind fun q12 =>
am_let (am_u2 q12.1 l1 ((x9 - (1 : Int32)).toNatClampNeg) q12.2) fun u13 =>
g_X4_value_137 (g_X4_value_6 n) u13 l0 l1 l2 l3 l4 x9 l6) else none) else none)
else (some (u, (0 : Int32)))))
else (if (il l1) ≠ 0 then (
if l5 < (Int32.ofNat (il l1)) then ((f_X4_leaf u x5 l2 l3 l4).bind fun q19 =>
if am_in l5 (il l1) then (
am_let (am_u2 q19.1 l1 l5.toNatClampNeg q19.2) fun u21 =>
am_let (l5 + (1 : Int32)) fun x22 =>
g_X4_value_137 (g_X4_value_6 n) u21 l0 l1 l2 l3 l4 x22 l6) else none)
else (some (u, (0 : Int32)))) else none)) else none))) else none

def f_X4_value  (u : am_MU) (l0 : Nat) (l1 : Nat) (l2 : Int32) (l3 : Int32) (l4 : Int32) : Option (am_MU × Int32) :=
g_X4_value_6 1700 u l0 l1 l2 l3 l4 (0 : Int32) (0 : Int32)

theorem l_X4_value_143 {X : Nat × (Nat → Int32)}   (u : am_MU) (l1 : Nat) (l5 : Int32) (r : am_MU × Int32) (h : g_X4_value_143  u l1 l5 = some r) : am_Ev X M_X4_value 143 [(1, .ref l1), (5, .int l5)] [] (hp u) (hp r.1, some (.int r.2)) := by
  unfold g_X4_value_143 at h
  refine ev_iload dX4_value_143 1 rfl ?_
  refine ev_iconst (v := (1 : Int32)) dX4_value_145 kI_1 ?_
  refine ev_icmp_ne 155 dX4_value_146 (by decide) (fun c1 => ?_) (fun c1 => ?_)
  · have h := am_e c1 h
    refine ev_iconst (v := (0 : Int32)) dX4_value_155 kI_0 ?_
    obtain rfl := Option.some.inj h
    exact ev_iret dX4_value_156 rfl rfl
  · have h := am_t c1 h
    refine ev_aload_n dX4_value_149 0 rfl trivial ?_
    refine ev_iconst (v := (0 : Int32)) dX4_value_150 kI_0 ?_
    obtain ⟨g2, h⟩ := am_gd h
    refine px_iald (n := (il l1)) 0 dX4_value_151 rfl g2 (by decide) ?_
    refine ev_goto 156 dX4_value_152 (by decide) ?_
    obtain rfl := Option.some.inj h
    exact ev_iret dX4_value_156 rfl rfl

theorem l_X4_value_137 {X : Nat × (Nat → Int32)} (K6 : am_MU → Nat → Nat → Int32 → Int32 → Int32 → Int32 → Int32 → Option (am_MU × Int32)) (hK6 : ∀ (u : am_MU) (l0 : Nat) (l1 : Nat) (l2 : Int32) (l3 : Int32) (l4 : Int32) (l5 : Int32) (l6 : Int32) (r : am_MU × Int32), K6 u l0 l1 l2 l3 l4 l5 l6 = some r → am_Ev X M_X4_value 6 [(0, .ref l0), (1, .ref l1), (2, .int l2), (3, .int l3), (4, .int l4), (5, .int l5), (6, .int l6)] [] (hp u) (hp r.1, some (.int r.2))) (u : am_MU) (l0 : Nat) (l1 : Nat) (l2 : Int32) (l3 : Int32) (l4 : Int32) (l5 : Int32) (l6 : Int32) (r : am_MU × Int32) (h : g_X4_value_137 K6 u l0 l1 l2 l3 l4 l5 l6 = some r) : am_Ev X M_X4_value 137 [(0, .ref l0), (1, .ref l1), (2, .int l2), (3, .int l3), (4, .int l4), (5, .int l5), (6, .int l6)] [] (hp u) (hp r.1, some (.int r.2)) := by
  unfold g_X4_value_137 at h
  obtain ⟨x1, ex1, h⟩ := am_lt h
  refine ev_iinc (v := x1) (L' := [(6, .int x1), (0, .ref l0), (1, .ref l1), (2, .int l2), (3, .int l3), (4, .int l4), (5, .int l5)]) dX4_value_137 6 rfl (by rw [kI_1, ex1]) (by decide) rfl ?_
  refine ev_goto 6 dX4_value_140 (by decide) ?_
  refine ev_loc [1, 2, 3, 4, 5, 6, 0] rfl ?_
  exact hK6 u l0 l1 l2 l3 l4 l5 x1 _ h

theorem l_X4_value_100 {X : Nat × (Nat → Int32)} (K6 : am_MU → Nat → Nat → Int32 → Int32 → Int32 → Int32 → Int32 → Option (am_MU × Int32)) (hK6 : ∀ (u : am_MU) (l0 : Nat) (l1 : Nat) (l2 : Int32) (l3 : Int32) (l4 : Int32) (l5 : Int32) (l6 : Int32) (r : am_MU × Int32), K6 u l0 l1 l2 l3 l4 l5 l6 = some r → am_Ev X M_X4_value 6 [(0, .ref l0), (1, .ref l1), (2, .int l2), (3, .int l3), (4, .int l4), (5, .int l5), (6, .int l6)] [] (hp u) (hp r.1, some (.int r.2))) (u : am_MU) (l0 : Nat) (l1 : Nat) (l2 : Int32) (l3 : Int32) (l4 : Int32) (l5 : Int32) (l6 : Int32) (s0 : Nat) (s1 : Int32) (s2 : Int32) (r : am_MU × Int32) (h : g_X4_value_100 K6 u l0 l1 l2 l3 l4 l5 l6 s0 s1 s2 = some r) : am_Ev X M_X4_value 100 [(0, .ref l0), (1, .ref l1), (2, .int l2), (3, .int l3), (4, .int l4), (5, .int l5), (6, .int l6)] [.int s2, .int s1, .ref s0] (hp u) (hp r.1, some (.int r.2)) := by
  unfold g_X4_value_100 at h
  obtain ⟨g1, h⟩ := am_gd h
  obtain ⟨u2, eu2, h⟩ := am_lt h
  refine px_iast (n := (il s0)) s1.toNatClampNeg dX4_value_100 rfl g1 rfl eu2 ?_
  refine ev_goto 137 dX4_value_101 (by decide) ?_
  refine ev_loc [0, 1, 2, 3, 4, 5, 6] rfl ?_
  exact l_X4_value_137 K6 hK6 u2 l0 l1 l2 l3 l4 l5 l6 _ h

theorem l_X4_value_6 {X : Nat × (Nat → Int32)}   : ∀ (n : Nat) (u : am_MU) (l0 : Nat) (l1 : Nat) (l2 : Int32) (l3 : Int32) (l4 : Int32) (l5 : Int32) (l6 : Int32) (r : am_MU × Int32), g_X4_value_6  n u l0 l1 l2 l3 l4 l5 l6 = some r → am_Ev X M_X4_value 6 [(0, .ref l0), (1, .ref l1), (2, .int l2), (3, .int l3), (4, .int l4), (5, .int l5), (6, .int l6)] [] (hp u) (hp r.1, some (.int r.2)) := by
  intro n
  induction n with
  | zero => intro u l0 l1 l2 l3 l4 l5 l6 r h; cases h
  | succ n ih =>
    intro u l0 l1 l2 l3 l4 l5 l6 r h
    rw [g_X4_value_6] at h
    refine ev_iload dX4_value_6 6 rfl ?_
    refine ev_aload_n dX4_value_8 0 rfl trivial ?_
    obtain ⟨g1, h⟩ := am_gd h
    refine px_getI dX4_value_9 gf_RX4_18 (at4 g1) (by decide) rfl ?_
    refine ev_icmp_ge 143 dX4_value_12 (by decide) (fun c2 => ?_) (fun c2 => ?_)
    · have h := am_t c2 h
      refine ev_loc [1, 5] rfl ?_
      exact l_X4_value_143   u l1 l5 _ h
    · have h := am_e c2 h
      refine ev_iload dX4_value_15 6 rfl ?_
      refine ev_bipush (v := (96 : Int32)) dX4_value_17 kB_96 ?_
      refine ev_icmp_ge 143 dX4_value_19 (by decide) (fun c3 => ?_) (fun c3 => ?_)
      · have h := am_t c3 h
        refine ev_loc [1, 5] rfl ?_
        exact l_X4_value_143   u l1 l5 _ h
      · have h := am_e c3 h
        refine ev_aload_n dX4_value_22 0 rfl trivial ?_
        refine px_getR dX4_value_23 gf_RX4_21 (at4 g1) (by decide) rfl ?_
        refine ev_iload dX4_value_26 6 rfl ?_
        obtain ⟨g4, h⟩ := am_gd h
        refine px_iald (n := 96) l6.toNatClampNeg dX4_value_28 (il4 g1) g4 rfl ?_
        obtain ⟨x5, ex5, h⟩ := am_lt h
        refine px_top ex5 ?_
        refine ev_istore (L' := [(7, .int x5), (0, .ref l0), (1, .ref l1), (2, .int l2), (3, .int l3), (4, .int l4), (5, .int l5), (6, .int l6)]) dX4_value_29 (by decide) rfl ?_
        refine ev_iload dX4_value_31 0 rfl ?_
        refine ev_bipush (v := ((-3) : Int32)) dX4_value_33 kB_m3 ?_
        refine ev_icmp_lt 66 dX4_value_35 (by decide) (fun c6 => ?_) (fun c6 => ?_)
        · have h := am_t c6 h
          refine ev_iload dX4_value_66 0 rfl ?_
          refine ev_bipush (v := ((-33) : Int32)) dX4_value_68 kB_m33 ?_
          refine ev_icmp_ne 104 dX4_value_70 (by decide) (fun c7 => ?_) (fun c7 => ?_)
          · have h := am_e c7 h
            refine ev_iload dX4_value_104 6 rfl ?_
            refine ev_iconst (v := (2 : Int32)) dX4_value_106 kI_2 ?_
            refine ev_icmp_ge 112 dX4_value_107 (by decide) (fun c8 => ?_) (fun c8 => ?_)
            · have h := am_t c8 h
              obtain ⟨x9, ex9, h⟩ := am_lt h
              refine ev_iinc (v := x9) (L' := [(5, .int x9), (7, .int x5), (0, .ref l0), (1, .ref l1), (2, .int l2), (3, .int l3), (4, .int l4), (6, .int l6)]) dX4_value_112 6 rfl (by rw [kI_m1, ex9]) (by decide) rfl ?_
              refine ev_aload_n dX4_value_115 3 rfl trivial ?_
              refine ev_iload dX4_value_116 0 rfl ?_
              refine ev_iconst (v := (1 : Int32)) dX4_value_118 kI_1 ?_
              refine ev_isub dX4_value_119 ?_
              refine ev_iload dX4_value_120 1 rfl ?_
              refine ev_ineg dX4_value_122 ?_
              refine ev_aload_n dX4_value_123 3 rfl trivial ?_
              refine ev_iload dX4_value_124 0 rfl ?_
              refine ev_iconst (v := (1 : Int32)) dX4_value_126 kI_1 ?_
              refine ev_isub dX4_value_127 ?_
              obtain ⟨g10, h⟩ := am_gd h
              refine px_iald (n := (il l1)) ((x9 - (1 : Int32)).toNatClampNeg) dX4_value_128 rfl g10 rfl ?_
              refine ev_aload_n dX4_value_129 3 rfl trivial ?_
              refine ev_iload dX4_value_130 0 rfl ?_
              obtain ⟨g11, h⟩ := am_gd h
              refine px_iald (n := (il l1)) x9.toNatClampNeg dX4_value_132 rfl g11 rfl ?_
              obtain ⟨q12, eq12, h⟩ := am_bd h
              refine px_callsi [.int (-x5), .int (u l1 ((x9 - (1 : Int32)).toNatClampNeg)), .int (u l1 x9.toNatClampNeg)] dX4_value_133 ok_X4_joined lk_RX4_41 st_X4_joined (by decide) rfl (c_X4_joined eq12) rfl (Nat.le_of_ble_eq_true rfl) ?_
              obtain ⟨u13, eu13, h⟩ := am_lt h
              refine px_iast (n := (il l1)) ((x9 - (1 : Int32)).toNatClampNeg) dX4_value_136 rfl g10 rfl eu13 ?_
              refine ev_loc [2, 3, 4, 5, 6, 0, 7] rfl ?_
              exact l_X4_value_137 (g_X4_value_6 n) (fun u l0 l1 l2 l3 l4 l5 l6 r h => ih u l0 l1 l2 l3 l4 l5 l6 r h) u13 l0 l1 l2 l3 l4 x9 l6 _ h
            · have h := am_e c8 h
              refine ev_iconst (v := (0 : Int32)) dX4_value_110 kI_0 ?_
              obtain rfl := Option.some.inj h
              exact ev_iret dX4_value_111 rfl rfl
          · have h := am_t c7 h
            refine ev_iload dX4_value_73 6 rfl ?_
            refine ev_iconst (v := (1 : Int32)) dX4_value_75 kI_1 ?_
            refine ev_icmp_ge 81 dX4_value_76 (by decide) (fun c14 => ?_) (fun c14 => ?_)
            · have h := am_t c14 h
              refine ev_aload_n dX4_value_81 2 rfl trivial ?_
              refine ev_iload dX4_value_82 6 rfl ?_
              refine ev_iconst (v := (1 : Int32)) dX4_value_84 kI_1 ?_
              refine ev_isub dX4_value_85 ?_
              refine ev_aload_n dX4_value_86 2 rfl trivial ?_
              refine ev_iload dX4_value_87 6 rfl ?_
              refine ev_iconst (v := (1 : Int32)) dX4_value_89 kI_1 ?_
              refine ev_isub dX4_value_90 ?_
              obtain ⟨g15, h⟩ := am_gd h
              refine px_iald (n := (il l1)) ((l5 - (1 : Int32)).toNatClampNeg) dX4_value_91 rfl g15 rfl ?_
              refine ev_if_ne 99 dX4_value_92 (by decide) (fun c16 => ?_) (fun c16 => ?_)
              · have h := am_e c16 h
                refine ev_iconst (v := (0 : Int32)) dX4_value_99 kI_0 ?_
                refine ev_loc [1, 2, 3, 4, 5, 6, 7] rfl ?_
                exact l_X4_value_100 (g_X4_value_6 n) (fun u l0 l1 l2 l3 l4 l5 l6 r h => ih u l0 l1 l2 l3 l4 l5 l6 r h) u l0 l1 l2 l3 l4 l5 l6 l1 (l5 - (1 : Int32)) (0 : Int32) _ h
              · have h := am_t c16 h
                refine ev_iconst (v := (1 : Int32)) dX4_value_95 kI_1 ?_
                refine ev_goto 100 dX4_value_96 (by decide) ?_
                refine ev_loc [1, 2, 3, 4, 5, 6, 7] rfl ?_
                exact l_X4_value_100 (g_X4_value_6 n) (fun u l0 l1 l2 l3 l4 l5 l6 r h => ih u l0 l1 l2 l3 l4 l5 l6 r h) u l0 l1 l2 l3 l4 l5 l6 l1 (l5 - (1 : Int32)) (1 : Int32) _ h
            · have h := am_e c14 h
              refine ev_iconst (v := (0 : Int32)) dX4_value_79 kI_0 ?_
              obtain rfl := Option.some.inj h
              exact ev_iret dX4_value_80 rfl rfl
        · have h := am_e c6 h
          refine ev_iload dX4_value_38 6 rfl ?_
          refine ev_aload_n dX4_value_40 2 rfl trivial ?_
          obtain ⟨g17, h⟩ := am_gd h
          refine px_alen (n := (il l1)) dX4_value_41 rfl g17 ?_
          refine ev_icmp_lt 47 dX4_value_42 (by decide) (fun c18 => ?_) (fun c18 => ?_)
          · have h := am_t c18 h
            refine ev_aload_n dX4_value_47 2 rfl trivial ?_
            refine ev_iload dX4_value_48 6 rfl ?_
            refine ev_iload dX4_value_50 0 rfl ?_
            refine ev_iload_n dX4_value_52 3 rfl ?_
            refine ev_iload_n dX4_value_53 4 rfl ?_
            refine ev_iload dX4_value_54 5 rfl ?_
            obtain ⟨q19, eq19, h⟩ := am_bd h
            refine px_callsi [.int x5, .int l2, .int l3, .int l4] dX4_value_56 ok_X4_leaf lk_RX4_37 st_X4_leaf (by decide) rfl (c_X4_leaf eq19) rfl (Nat.le_of_ble_eq_true rfl) ?_
            obtain ⟨g20, h⟩ := am_gd h
            obtain ⟨u21, eu21, h⟩ := am_lt h
            refine px_iast (n := (il l1)) l5.toNatClampNeg dX4_value_59 rfl g20 rfl eu21 ?_
            obtain ⟨x22, ex22, h⟩ := am_lt h
            refine ev_iinc (v := x22) (L' := [(5, .int x22), (7, .int x5), (0, .ref l0), (1, .ref l1), (2, .int l2), (3, .int l3), (4, .int l4), (6, .int l6)]) dX4_value_60 6 rfl (by rw [kI_1, ex22]) (by decide) rfl ?_
            refine ev_goto 137 dX4_value_63 (by decide) ?_
            refine ev_loc [2, 3, 4, 5, 6, 0, 7] rfl ?_
            exact l_X4_value_137 (g_X4_value_6 n) (fun u l0 l1 l2 l3 l4 l5 l6 r h => ih u l0 l1 l2 l3 l4 l5 l6 r h) u21 l0 l1 l2 l3 l4 x22 l6 _ h
          · have h := am_e c18 h
            refine ev_iconst (v := (0 : Int32)) dX4_value_45 kI_0 ?_
            obtain rfl := Option.some.inj h
            exact ev_iret dX4_value_46 rfl rfl

theorem l_X4_value_0 {X : Nat × (Nat → Int32)}   (u : am_MU) (l0 : Nat) (l1 : Nat) (l2 : Int32) (l3 : Int32) (l4 : Int32) (r : am_MU × Int32) (h : f_X4_value  u l0 l1 l2 l3 l4 = some r) : am_Ev X M_X4_value 0 [(0, .ref l0), (1, .ref l1), (2, .int l2), (3, .int l3), (4, .int l4)] [] (hp u) (hp r.1, some (.int r.2)) := by
  unfold f_X4_value at h
  refine ev_iconst (v := (0 : Int32)) dX4_value_0 kI_0 ?_
  refine ev_istore (L' := [(5, .int (0 : Int32)), (0, .ref l0), (1, .ref l1), (2, .int l2), (3, .int l3), (4, .int l4)]) dX4_value_1 (by decide) rfl ?_
  refine ev_iconst (v := (0 : Int32)) dX4_value_3 kI_0 ?_
  refine ev_istore (L' := [(6, .int (0 : Int32)), (5, .int (0 : Int32)), (0, .ref l0), (1, .ref l1), (2, .int l2), (3, .int l3), (4, .int l4)]) dX4_value_4 (by decide) rfl ?_
  refine ev_loc [2, 3, 4, 5, 6, 1, 0] rfl ?_
  exact l_X4_value_6   1700 u l0 l1 l2 l3 l4 (0 : Int32) (0 : Int32) _ h

theorem c_X4_value {X : Nat × (Nat → Int32)} {u : am_MU} {l0 : Nat} {l1 : Nat} {l2 : Int32} {l3 : Int32} {l4 : Int32} {r : am_MU × Int32} (h : f_X4_value u l0 l1 l2 l3 l4 = some r) : am_Cn X M_X4_value [.ref l0, .ref l1, .int l2, .int l3, .int l4] (hp u) (hp r.1, some (.int r.2)) := by
  refine am_Cn.of ok_X4_value (Nat.le_refl _) (Nat.le_refl _) (Nat.le_of_ble_eq_true rfl) ?_
  refine ev_loc [0, 1, 2, 3, 4] rfl ?_
  exact l_X4_value_0 u l0 l1 l2 l3 l4 r h

-- SandRipples.within(III)I
def f_X6_within  (u : am_MU) (l0 : Int32) (l1 : Int32) (l2 : Int32) : Option (am_MU × Int32) :=
(f_J9_min_7cf53 u l0 l2).bind fun q1 =>
(f_J9_max_7cf53 q1.1 l1 q1.2).bind fun q2 =>
some (q2.1, q2.2)

theorem l_X6_within_0 {X : Nat × (Nat → Int32)}   (u : am_MU) (l0 : Int32) (l1 : Int32) (l2 : Int32) (r : am_MU × Int32) (h : f_X6_within  u l0 l1 l2 = some r) : am_Ev X M_X6_within 0 [(0, .int l0), (1, .int l1), (2, .int l2)] [] (hp u) (hp r.1, some (.int r.2)) := by
  unfold f_X6_within at h
  refine ev_iload_n dX6_within_0 1 rfl ?_
  refine ev_iload_n dX6_within_1 0 rfl ?_
  refine ev_iload_n dX6_within_2 2 rfl ?_
  obtain ⟨q1, eq1, h⟩ := am_bd h
  refine px_callsi [.int l0, .int l2] dX6_within_3 ok_J9_min_7cf53 lk_RX6_189 st_J9_min_7cf53 (by decide) rfl (c_J9_min_7cf53 eq1) rfl (Nat.le_of_ble_eq_true rfl) ?_
  obtain ⟨q2, eq2, h⟩ := am_bd h
  refine px_callsi [.int l1, .int q1.2] dX6_within_6 ok_J9_max_7cf53 lk_RX6_305 st_J9_max_7cf53 (by decide) rfl (c_J9_max_7cf53 eq2) rfl (Nat.le_of_ble_eq_true rfl) ?_
  obtain rfl := Option.some.inj h
  exact ev_iret dX6_within_9 rfl rfl

theorem c_X6_within {X : Nat × (Nat → Int32)} {u : am_MU} {l0 : Int32} {l1 : Int32} {l2 : Int32} {r : am_MU × Int32} (h : f_X6_within u l0 l1 l2 = some r) : am_Cn X M_X6_within [.int l0, .int l1, .int l2] (hp u) (hp r.1, some (.int r.2)) := by
  refine am_Cn.of ok_X6_within (Nat.le_refl _) (Nat.le_refl _) (Nat.le_of_ble_eq_true rfl) ?_
  refine ev_loc [0, 1, 2] rfl ?_
  exact l_X6_within_0 u l0 l1 l2 r h

-- SandRipples.marksOf(LSandRipples$World;LSandRipples$Floor;)I
def g_X6_marksOf_84 (K13 : am_MU → Nat → Int32 → Int32 → Int32 → Option (am_MU × Int32)) (u : am_MU) (l2 : Nat) (l3 : Int32) (l4 : Int32) (l5 : Int32) : Option (am_MU × Int32) :=
am_let (l5 + (1 : Int32)) fun x1 =>
K13 u l2 l3 l4 x1

def g_X6_marksOf_68 (K13 : am_MU → Nat → Int32 → Int32 → Int32 → Option (am_MU × Int32)) (u : am_MU) (l2 : Nat) (l3 : Int32) (l4 : Int32) (l5 : Int32) (s0 : Int32) : Option (am_MU × Int32) :=
(f_X6_within u s0 ((-99) : Int32) (99 : Int32)).bind fun q1 =>
am_let (l4 + q1.2) fun x2 =>
g_X6_marksOf_84 K13 q1.1 l2 l3 x2 l5

def g_X6_marksOf_13  : Nat → am_MU → Nat → Int32 → Int32 → Int32 → Option (am_MU × Int32)
  | 0 => fun _ _ _ _ _ => none
  | n + 1 => fun u l2 l3 l4 l5 =>
if (24 : Int32) ≤ l5 then (some (u, l4))
else (if tg l2 = 0 then (
(f_X0_isCrest u l2 l5).bind fun q2 =>
if q2.2 = 0 then (g_X6_marksOf_84 (g_X6_marksOf_13 n) q2.1 l2 l3 l4 l5)
else (if l3 = ((-1000000005) : Int32) then (if am_in l5 24 then (
g_X6_marksOf_68 (g_X6_marksOf_13 n) q2.1 l2 l3 l4 l5 (q2.1 (l2 + 1) l5.toNatClampNeg)) else none)
else (if am_in l3 14 then (
if am_in l5 24 then (
if tg (49 + 2 * l3.toNatClampNeg) = 4 then (
(f_X4_value q2.1 (49 + 2 * l3.toNatClampNeg) 44 l5 (q2.1 (l2 + 1) l5.toNatClampNeg) (0 : Int32)).bind fun q8 =>
g_X6_marksOf_68 (g_X6_marksOf_13 n) q8.1 l2 l3 l4 l5 q8.2) else none) else none) else none))) else none)

def f_X6_marksOf  (u : am_MU) (l1 : Nat) (l2 : Nat) : Option (am_MU × Int32) :=
if tg l1 = 5 then (
am_let (u (l1 + 2) 2) fun x2 =>
g_X6_marksOf_13 1700 u l2 x2 (0 : Int32) (0 : Int32)) else none

theorem l_X6_marksOf_84 {X : Nat × (Nat → Int32)} (K13 : am_MU → Nat → Int32 → Int32 → Int32 → Option (am_MU × Int32)) (hK13 : ∀ (u : am_MU) (l2 : Nat) (l3 : Int32) (l4 : Int32) (l5 : Int32) (r : am_MU × Int32), K13 u l2 l3 l4 l5 = some r → am_Ev X M_X6_marksOf 13 [(0, .ref 0), (2, .ref l2), (3, .int l3), (4, .int l4), (5, .int l5)] [] (hp u) (hp r.1, some (.int r.2))) (u : am_MU) (l2 : Nat) (l3 : Int32) (l4 : Int32) (l5 : Int32) (r : am_MU × Int32) (h : g_X6_marksOf_84 K13 u l2 l3 l4 l5 = some r) : am_Ev X M_X6_marksOf 84 [(0, .ref 0), (2, .ref l2), (3, .int l3), (4, .int l4), (5, .int l5)] [] (hp u) (hp r.1, some (.int r.2)) := by
  unfold g_X6_marksOf_84 at h
  obtain ⟨x1, ex1, h⟩ := am_lt h
  refine ev_iinc (v := x1) (L' := [(5, .int x1), (0, .ref 0), (2, .ref l2), (3, .int l3), (4, .int l4)]) dX6_marksOf_84 4 rfl (by rw [kI_1, ex1]) (by decide) rfl ?_
  refine ev_goto 13 dX6_marksOf_87 (by decide) ?_
  refine ev_loc [1, 2, 3, 4, 0] rfl ?_
  exact hK13 u l2 l3 l4 x1 _ h

theorem l_X6_marksOf_68 {X : Nat × (Nat → Int32)} (K13 : am_MU → Nat → Int32 → Int32 → Int32 → Option (am_MU × Int32)) (hK13 : ∀ (u : am_MU) (l2 : Nat) (l3 : Int32) (l4 : Int32) (l5 : Int32) (r : am_MU × Int32), K13 u l2 l3 l4 l5 = some r → am_Ev X M_X6_marksOf 13 [(0, .ref 0), (2, .ref l2), (3, .int l3), (4, .int l4), (5, .int l5)] [] (hp u) (hp r.1, some (.int r.2))) (u : am_MU) (l2 : Nat) (l3 : Int32) (l4 : Int32) (l5 : Int32) (s0 : Int32) (r : am_MU × Int32) (h : g_X6_marksOf_68 K13 u l2 l3 l4 l5 s0 = some r) : am_Ev X M_X6_marksOf 68 [(0, .ref 0), (2, .ref l2), (3, .int l3), (4, .int l4), (5, .int l5)] [.int s0] (hp u) (hp r.1, some (.int r.2)) := by
  unfold g_X6_marksOf_68 at h
  refine ev_istore (L' := [(6, .int s0), (0, .ref 0), (2, .ref l2), (3, .int l3), (4, .int l4), (5, .int l5)]) dX6_marksOf_68 (by decide) rfl ?_
  refine ev_iload dX6_marksOf_70 4 rfl ?_
  refine ev_iload dX6_marksOf_72 0 rfl ?_
  refine ev_bipush (v := ((-99) : Int32)) dX6_marksOf_74 kB_m99 ?_
  refine ev_bipush (v := (99 : Int32)) dX6_marksOf_76 kB_99 ?_
  obtain ⟨q1, eq1, h⟩ := am_bd h
  refine px_callsi [.int s0, .int ((-99) : Int32), .int (99 : Int32)] dX6_marksOf_78 ok_X6_within lk_RX6_253 st_X6_within (by decide) rfl (c_X6_within eq1) rfl (Nat.le_of_ble_eq_true rfl) ?_
  refine ev_iadd dX6_marksOf_81 ?_
  obtain ⟨x2, ex2, h⟩ := am_lt h
  refine px_top ex2 ?_
  refine ev_istore (L' := [(4, .int x2), (6, .int s0), (0, .ref 0), (2, .ref l2), (3, .int l3), (5, .int l5)]) dX6_marksOf_82 (by decide) rfl ?_
  refine ev_loc [2, 3, 4, 0, 5] rfl ?_
  exact l_X6_marksOf_84 K13 hK13 q1.1 l2 l3 x2 l5 _ h

theorem l_X6_marksOf_13 {X : Nat × (Nat → Int32)}   : ∀ (n : Nat) (u : am_MU) (l2 : Nat) (l3 : Int32) (l4 : Int32) (l5 : Int32) (r : am_MU × Int32), g_X6_marksOf_13  n u l2 l3 l4 l5 = some r → am_Ev X M_X6_marksOf 13 [(0, .ref 0), (2, .ref l2), (3, .int l3), (4, .int l4), (5, .int l5)] [] (hp u) (hp r.1, some (.int r.2)) := by
  intro n
  induction n with
  | zero => intro u l2 l3 l4 l5 r h; cases h
  | succ n ih =>
    intro u l2 l3 l4 l5 r h
    rw [g_X6_marksOf_13] at h
    refine ev_iload dX6_marksOf_13 4 rfl ?_
    refine ev_bipush (v := (24 : Int32)) dX6_marksOf_15 kB_24 ?_
    refine ev_icmp_ge 90 dX6_marksOf_17 (by decide) (fun c1 => ?_) (fun c1 => ?_)
    · have h := am_t c1 h
      refine ev_iload dX6_marksOf_90 3 rfl ?_
      obtain rfl := Option.some.inj h
      exact ev_iret dX6_marksOf_92 rfl rfl
    · have h := am_e c1 h
      refine ev_aload_n dX6_marksOf_20 1 rfl trivial ?_
      refine ev_iload dX6_marksOf_21 4 rfl ?_
      obtain ⟨g3, h⟩ := am_gd h
      obtain ⟨q2, eq2, h⟩ := am_bd h
      refine px_callvi [.int l5] (by decide) cl_0 (at0 g3) dX6_marksOf_23 ok_X0_isCrest lk_RX6_169 in_X0_isCrest se_X0_isCrest (by decide) rfl (c_X0_isCrest eq2) rfl (Nat.le_of_ble_eq_true rfl) ?_
      refine ev_if_eq 84 dX6_marksOf_26 (by decide) (fun c4 => ?_) (fun c4 => ?_)
      · have h := am_t c4 h
        refine ev_loc [0, 1, 2, 3, 4] rfl ?_
        exact l_X6_marksOf_84 (g_X6_marksOf_13 n) (fun u l2 l3 l4 l5 r h => ih u l2 l3 l4 l5 r h) q2.1 l2 l3 l4 l5 _ h
      · have h := am_e c4 h
        refine ev_iload_n dX6_marksOf_29 2 rfl ?_
        refine ev_ldc (v := ((-1000000005) : Int32)) dX6_marksOf_30 tw_312 ?_
        refine ev_icmp_ne 45 dX6_marksOf_32 (by decide) (fun c5 => ?_) (fun c5 => ?_)
        · have h := am_e c5 h
          refine ev_aload_n dX6_marksOf_45 0 rfl trivial ?_
          refine px_getR dX6_marksOf_46 gf_RX6_34 (at6 rfl) (by decide) rfl ?_
          refine ev_iload_n dX6_marksOf_49 2 rfl ?_
          obtain ⟨g6, h⟩ := am_gd h
          refine px_aald4 (n := 14) dX6_marksOf_50 rfl rfl g6 ?_
          refine ev_aload_n dX6_marksOf_51 0 rfl trivial ?_
          refine px_getR dX6_marksOf_52 gf_RX6_45 (at6 rfl) (by decide) rfl ?_
          refine ev_iload dX6_marksOf_55 4 rfl ?_
          refine ev_aload_n dX6_marksOf_57 1 rfl trivial ?_
          refine px_getR dX6_marksOf_58 gf_RX6_149 (at0 g3) (by decide) rfl ?_
          refine ev_iload dX6_marksOf_61 4 rfl ?_
          obtain ⟨g7, h⟩ := am_gd h
          refine px_iald (n := 24) l5.toNatClampNeg dX6_marksOf_63 (il0 g3) g7 rfl ?_
          refine ev_iconst (v := (0 : Int32)) dX6_marksOf_64 kI_0 ?_
          obtain ⟨g9, h⟩ := am_gd h
          obtain ⟨q8, eq8, h⟩ := am_bd h
          refine px_callvi [.ref 44, .int l5, .int (q2.1 (l2 + 1) l5.toNatClampNeg), .int (0 : Int32)] (by decide) cl_4 (at4 g9) dX6_marksOf_65 ok_X4_value lk_RX6_308 in_X4_value se_X4_value (by decide) rfl (c_X4_value eq8) rfl (Nat.le_of_ble_eq_true rfl) ?_
          refine ev_loc [0, 1, 2, 3, 4] rfl ?_
          exact l_X6_marksOf_68 (g_X6_marksOf_13 n) (fun u l2 l3 l4 l5 r h => ih u l2 l3 l4 l5 r h) q8.1 l2 l3 l4 l5 q8.2 _ h
        · have h := am_t c5 h
          refine ev_aload_n dX6_marksOf_35 1 rfl trivial ?_
          refine px_getR dX6_marksOf_36 gf_RX6_149 (at0 g3) (by decide) rfl ?_
          refine ev_iload dX6_marksOf_39 4 rfl ?_
          obtain ⟨g10, h⟩ := am_gd h
          refine px_iald (n := 24) l5.toNatClampNeg dX6_marksOf_41 (il0 g3) g10 rfl ?_
          refine ev_goto 68 dX6_marksOf_42 (by decide) ?_
          refine ev_loc [0, 1, 2, 3, 4] rfl ?_
          exact l_X6_marksOf_68 (g_X6_marksOf_13 n) (fun u l2 l3 l4 l5 r h => ih u l2 l3 l4 l5 r h) q2.1 l2 l3 l4 l5 (q2.1 (l2 + 1) l5.toNatClampNeg) _ h

theorem l_X6_marksOf_0 {X : Nat × (Nat → Int32)}   (u : am_MU) (l1 : Nat) (l2 : Nat) (r : am_MU × Int32) (h : f_X6_marksOf  u l1 l2 = some r) : am_Ev X M_X6_marksOf 0 [(0, .ref 0), (1, .ref l1), (2, .ref l2)] [] (hp u) (hp r.1, some (.int r.2)) := by
  unfold f_X6_marksOf at h
  refine ev_aload_n dX6_marksOf_0 1 rfl trivial ?_
  obtain ⟨g1, h⟩ := am_gd h
  refine px_getR dX6_marksOf_1 gf_RX6_228 (at5 g1) (by decide) rfl ?_
  refine ev_iconst (v := (2 : Int32)) dX6_marksOf_4 kI_2 ?_
  refine px_iald (n := 3) 2 dX6_marksOf_5 (il5l g1) (by decide) (by decide) ?_
  obtain ⟨x2, ex2, h⟩ := am_lt h
  refine px_top ex2 ?_
  refine ev_istore_n (L' := [(3, .int x2), (0, .ref 0), (1, .ref l1), (2, .ref l2)]) dX6_marksOf_6 (by decide) rfl ?_
  refine ev_iconst (v := (0 : Int32)) dX6_marksOf_7 kI_0 ?_
  refine ev_istore (L' := [(4, .int (0 : Int32)), (3, .int x2), (0, .ref 0), (1, .ref l1), (2, .ref l2)]) dX6_marksOf_8 (by decide) rfl ?_
  refine ev_iconst (v := (0 : Int32)) dX6_marksOf_10 kI_0 ?_
  refine ev_istore (L' := [(5, .int (0 : Int32)), (4, .int (0 : Int32)), (3, .int x2), (0, .ref 0), (1, .ref l1), (2, .ref l2)]) dX6_marksOf_11 (by decide) rfl ?_
  refine ev_loc [3, 5, 2, 1, 0] rfl ?_
  exact l_X6_marksOf_13   1700 u l2 x2 (0 : Int32) (0 : Int32) _ h

theorem c_X6_marksOf {X : Nat × (Nat → Int32)} {u : am_MU} {l1 : Nat} {l2 : Nat} {r : am_MU × Int32} (h : f_X6_marksOf u l1 l2 = some r) : am_Cn X M_X6_marksOf [.ref 0, .ref l1, .ref l2] (hp u) (hp r.1, some (.int r.2)) := by
  refine am_Cn.of ok_X6_marksOf (Nat.le_refl _) (Nat.le_refl _) (Nat.le_of_ble_eq_true rfl) ?_
  refine ev_loc [0, 1, 2] rfl ?_
  exact l_X6_marksOf_0 u l1 l2 r h

-- SandRipples.told(II)I
def f_X6_told  (u : am_MU) (l1 : Int32) (l2 : Int32) : Option (am_MU × Int32) :=
(f_X6_isFloor u l1).bind fun q1 =>
if q1.2 = 0 then (some (q1.1, ((-1000000001) : Int32)))
else (if am_in l1 6 then (
if l2 = (0 : Int32) then (if tg (5 + 2 * l1.toNatClampNeg) = 0 then (
some (q1.1, q1.1 (5 + 2 * l1.toNatClampNeg) 2)) else none)
else if l2 = (1 : Int32) then (if tg (5 + 2 * l1.toNatClampNeg) = 0 then (
some (q1.1, q1.1 (5 + 2 * l1.toNatClampNeg) 1)) else none)
else if l2 = (2 : Int32) then (if tg (5 + 2 * l1.toNatClampNeg) = 0 then (
(f_X0_total q1.1 (5 + 2 * l1.toNatClampNeg)).bind fun q9 =>
some (q9.1, q9.2)) else none)
else if l2 = (3 : Int32) then (if tg (5 + 2 * l1.toNatClampNeg) = 0 then (
(f_X0_greatest q1.1 (5 + 2 * l1.toNatClampNeg)).bind fun q12 =>
some (q12.1, q12.2)) else none)
else if l2 = (4 : Int32) then (if tg (5 + 2 * l1.toNatClampNeg) = 0 then (
(f_X0_least q1.1 (5 + 2 * l1.toNatClampNeg)).bind fun q15 =>
some (q15.1, q15.2)) else none)
else if l2 = (5 : Int32) then (if tg (5 + 2 * l1.toNatClampNeg) = 0 then (
(f_X0_crests q1.1 (5 + 2 * l1.toNatClampNeg)).bind fun q18 =>
some (q18.1, q18.2)) else none)
else if l2 = (6 : Int32) then (if tg (5 + 2 * l1.toNatClampNeg) = 0 then (
(f_X0_lean q1.1 (5 + 2 * l1.toNatClampNeg)).bind fun q21 =>
some (q21.1, q21.2)) else none)
else if l2 = (7 : Int32) then (if tg (5 + 2 * l1.toNatClampNeg) = 0 then (
(f_X0_worth q1.1 (5 + 2 * l1.toNatClampNeg)).bind fun q24 =>
some (q24.1, q24.2)) else none)
else if l2 = (8 : Int32) then ((f_X6_reachOf q1.1 1 (5 + 2 * l1.toNatClampNeg)).bind fun q27 =>
some (q27.1, q27.2))
else if l2 = (9 : Int32) then (if tg (5 + 2 * l1.toNatClampNeg) = 0 then (
(f_X0_way q1.1 (5 + 2 * l1.toNatClampNeg)).bind fun q29 =>
some (q29.1, q29.2)) else none)
else if l2 = (10 : Int32) then ((f_X6_marksOf q1.1 1 (5 + 2 * l1.toNatClampNeg)).bind fun q32 =>
some (q32.1, q32.2))
else (some (q1.1, ((-1000000001) : Int32)))) else none)

theorem l_X6_told_0 {X : Nat × (Nat → Int32)}   (u : am_MU) (l1 : Int32) (l2 : Int32) (r : am_MU × Int32) (h : f_X6_told  u l1 l2 = some r) : am_Ev X M_X6_told 0 [(0, .ref 0), (1, .int l1), (2, .int l2)] [] (hp u) (hp r.1, some (.int r.2)) := by
  unfold f_X6_told at h
  refine ev_aload_n dX6_told_0 0 rfl trivial ?_
  refine ev_iload_n dX6_told_1 1 rfl ?_
  obtain ⟨q1, eq1, h⟩ := am_bd h
  refine px_callvi [.int l1] (by decide) cl_6 (at6 rfl) dX6_told_2 ok_X6_isFloor lk_RX6_94 in_X6_isFloor se_X6_isFloor (by decide) rfl (c_X6_isFloor eq1) rfl (Nat.le_of_ble_eq_true rfl) ?_
  refine ev_if_ne 11 dX6_told_5 (by decide) (fun c2 => ?_) (fun c2 => ?_)
  · have h := am_e c2 h
    refine ev_aload_n dX6_told_11 0 rfl trivial ?_
    refine px_getR dX6_told_12 gf_RX6_14 (at6 rfl) (by decide) rfl ?_
    refine px_getR dX6_told_15 gf_RX6_85 (at5 rfl) (by decide) rfl ?_
    refine ev_iload_n dX6_told_18 1 rfl ?_
    obtain ⟨g3, h⟩ := am_gd h
    refine px_aald3 (n := 6) dX6_told_19 rfl rfl g3 ?_
    refine ev_astore_n (L' := [(3, .ref (5 + 2 * l1.toNatClampNeg)), (0, .ref 0), (1, .int l1), (2, .int l2)]) dX6_told_20 trivial (by decide) rfl ?_
    refine ev_iload_n dX6_told_21 3 rfl ?_
    refine am_cs h (fun c4 h => ?_) (fun c4 h => ?_)
    · refine ev_tableIn 80 (58) dX6_told_22 (by rw [c4]; decide) (by rw [c4]; decide) (by rw [c4]; decide) (by decide) ?_
      refine ev_aload_n dX6_told_80 0 rfl trivial ?_
      obtain ⟨g5, h⟩ := am_gd h
      refine px_getI dX6_told_81 gf_RX6_97 (at0 g5) (by decide) rfl ?_
      obtain rfl := Option.some.inj h
      exact ev_iret dX6_told_84 rfl rfl
    refine am_cs h (fun c6 h => ?_) (fun c6 h => ?_)
    · refine ev_tableIn 85 (63) dX6_told_22 (by rw [c6]; decide) (by rw [c6]; decide) (by rw [c6]; decide) (by decide) ?_
      refine ev_aload_n dX6_told_85 0 rfl trivial ?_
      obtain ⟨g7, h⟩ := am_gd h
      refine px_getI dX6_told_86 gf_RX6_100 (at0 g7) (by decide) rfl ?_
      obtain rfl := Option.some.inj h
      exact ev_iret dX6_told_89 rfl rfl
    refine am_cs h (fun c8 h => ?_) (fun c8 h => ?_)
    · refine ev_tableIn 90 (68) dX6_told_22 (by rw [c8]; decide) (by rw [c8]; decide) (by rw [c8]; decide) (by decide) ?_
      refine ev_aload_n dX6_told_90 0 rfl trivial ?_
      obtain ⟨g10, h⟩ := am_gd h
      obtain ⟨q9, eq9, h⟩ := am_bd h
      refine px_callvi [] (by decide) cl_0 (at0 g10) dX6_told_91 ok_X0_total lk_RX6_103 in_X0_total se_X0_total (by decide) rfl (c_X0_total eq9) rfl (Nat.le_of_ble_eq_true rfl) ?_
      obtain rfl := Option.some.inj h
      exact ev_iret dX6_told_94 rfl rfl
    refine am_cs h (fun c11 h => ?_) (fun c11 h => ?_)
    · refine ev_tableIn 95 (73) dX6_told_22 (by rw [c11]; decide) (by rw [c11]; decide) (by rw [c11]; decide) (by decide) ?_
      refine ev_aload_n dX6_told_95 0 rfl trivial ?_
      obtain ⟨g13, h⟩ := am_gd h
      obtain ⟨q12, eq12, h⟩ := am_bd h
      refine px_callvi [] (by decide) cl_0 (at0 g13) dX6_told_96 ok_X0_greatest lk_RX6_107 in_X0_greatest se_X0_greatest (by decide) rfl (c_X0_greatest eq12) rfl (Nat.le_of_ble_eq_true rfl) ?_
      obtain rfl := Option.some.inj h
      exact ev_iret dX6_told_99 rfl rfl
    refine am_cs h (fun c14 h => ?_) (fun c14 h => ?_)
    · refine ev_tableIn 100 (78) dX6_told_22 (by rw [c14]; decide) (by rw [c14]; decide) (by rw [c14]; decide) (by decide) ?_
      refine ev_aload_n dX6_told_100 0 rfl trivial ?_
      obtain ⟨g16, h⟩ := am_gd h
      obtain ⟨q15, eq15, h⟩ := am_bd h
      refine px_callvi [] (by decide) cl_0 (at0 g16) dX6_told_101 ok_X0_least lk_RX6_110 in_X0_least se_X0_least (by decide) rfl (c_X0_least eq15) rfl (Nat.le_of_ble_eq_true rfl) ?_
      obtain rfl := Option.some.inj h
      exact ev_iret dX6_told_104 rfl rfl
    refine am_cs h (fun c17 h => ?_) (fun c17 h => ?_)
    · refine ev_tableIn 105 (83) dX6_told_22 (by rw [c17]; decide) (by rw [c17]; decide) (by rw [c17]; decide) (by decide) ?_
      refine ev_aload_n dX6_told_105 0 rfl trivial ?_
      obtain ⟨g19, h⟩ := am_gd h
      obtain ⟨q18, eq18, h⟩ := am_bd h
      refine px_callvi [] (by decide) cl_0 (at0 g19) dX6_told_106 ok_X0_crests lk_RX6_113 in_X0_crests se_X0_crests (by decide) rfl (c_X0_crests eq18) rfl (Nat.le_of_ble_eq_true rfl) ?_
      obtain rfl := Option.some.inj h
      exact ev_iret dX6_told_109 rfl rfl
    refine am_cs h (fun c20 h => ?_) (fun c20 h => ?_)
    · refine ev_tableIn 110 (88) dX6_told_22 (by rw [c20]; decide) (by rw [c20]; decide) (by rw [c20]; decide) (by decide) ?_
      refine ev_aload_n dX6_told_110 0 rfl trivial ?_
      obtain ⟨g22, h⟩ := am_gd h
      obtain ⟨q21, eq21, h⟩ := am_bd h
      refine px_callvi [] (by decide) cl_0 (at0 g22) dX6_told_111 ok_X0_lean lk_RX6_116 in_X0_lean se_X0_lean (by decide) rfl (c_X0_lean eq21) rfl (Nat.le_of_ble_eq_true rfl) ?_
      obtain rfl := Option.some.inj h
      exact ev_iret dX6_told_114 rfl rfl
    refine am_cs h (fun c23 h => ?_) (fun c23 h => ?_)
    · refine ev_tableIn 115 (93) dX6_told_22 (by rw [c23]; decide) (by rw [c23]; decide) (by rw [c23]; decide) (by decide) ?_
      refine ev_aload_n dX6_told_115 0 rfl trivial ?_
      obtain ⟨g25, h⟩ := am_gd h
      obtain ⟨q24, eq24, h⟩ := am_bd h
      refine px_callvi [] (by decide) cl_0 (at0 g25) dX6_told_116 ok_X0_worth lk_RX6_119 in_X0_worth se_X0_worth (by decide) rfl (c_X0_worth eq24) rfl (Nat.le_of_ble_eq_true rfl) ?_
      obtain rfl := Option.some.inj h
      exact ev_iret dX6_told_119 rfl rfl
    refine am_cs h (fun c26 h => ?_) (fun c26 h => ?_)
    · refine ev_tableIn 120 (98) dX6_told_22 (by rw [c26]; decide) (by rw [c26]; decide) (by rw [c26]; decide) (by decide) ?_
      refine ev_aload_n dX6_told_120 1 rfl trivial ?_
      refine px_getR dX6_told_121 gf_RX6_14 (at6 rfl) (by decide) rfl ?_
      refine ev_aload_n dX6_told_124 0 rfl trivial ?_
      obtain ⟨q27, eq27, h⟩ := am_bd h
      refine px_callsi [.ref 1, .ref (5 + 2 * l1.toNatClampNeg)] dX6_told_125 ok_X6_reachOf lk_RX6_122 st_X6_reachOf (by decide) rfl (c_X6_reachOf eq27) rfl (Nat.le_of_ble_eq_true rfl) ?_
      obtain rfl := Option.some.inj h
      exact ev_iret dX6_told_128 rfl rfl
    refine am_cs h (fun c28 h => ?_) (fun c28 h => ?_)
    · refine ev_tableIn 129 (107) dX6_told_22 (by rw [c28]; decide) (by rw [c28]; decide) (by rw [c28]; decide) (by decide) ?_
      refine ev_aload_n dX6_told_129 0 rfl trivial ?_
      obtain ⟨g30, h⟩ := am_gd h
      obtain ⟨q29, eq29, h⟩ := am_bd h
      refine px_callvi [] (by decide) cl_0 (at0 g30) dX6_told_130 ok_X0_way lk_RX6_126 in_X0_way se_X0_way (by decide) rfl (c_X0_way eq29) rfl (Nat.le_of_ble_eq_true rfl) ?_
      obtain rfl := Option.some.inj h
      exact ev_iret dX6_told_133 rfl rfl
    refine am_cs h (fun c31 h => ?_) (fun c31 h => ?_)
    · refine ev_tableIn 134 (112) dX6_told_22 (by rw [c31]; decide) (by rw [c31]; decide) (by rw [c31]; decide) (by decide) ?_
      refine ev_aload_n dX6_told_134 1 rfl trivial ?_
      refine ev_aload_n dX6_told_135 1 rfl trivial ?_
      refine px_getR dX6_told_136 gf_RX6_14 (at6 rfl) (by decide) rfl ?_
      refine ev_aload_n dX6_told_139 0 rfl trivial ?_
      obtain ⟨q32, eq32, h⟩ := am_bd h
      refine px_callvi [.ref 1, .ref (5 + 2 * l1.toNatClampNeg)] (by decide) cl_6 (at6 rfl) dX6_told_140 ok_X6_marksOf lk_RX6_129 in_X6_marksOf se_X6_marksOf (by decide) rfl (c_X6_marksOf eq32) rfl (Nat.le_of_ble_eq_true rfl) ?_
      obtain rfl := Option.some.inj h
      exact ev_iret dX6_told_143 rfl rfl
    have nc4 := lv_neT (a := 0) c4 (by decide)
    have nc6 := lv_neT (a := 1) c6 (by decide)
    have nc8 := lv_neT (a := 2) c8 (by decide)
    have nc11 := lv_neT (a := 3) c11 (by decide)
    have nc14 := lv_neT (a := 4) c14 (by decide)
    have nc17 := lv_neT (a := 5) c17 (by decide)
    have nc20 := lv_neT (a := 6) c20 (by decide)
    have nc23 := lv_neT (a := 7) c23 (by decide)
    have nc26 := lv_neT (a := 8) c26 (by decide)
    have nc28 := lv_neT (a := 9) c28 (by decide)
    have nc31 := lv_neT (a := 10) c31 (by decide)
    refine ev_tableOut 144 dX6_told_22 (by omega) (by decide) ?_
    refine ev_ldc (v := ((-1000000001) : Int32)) dX6_told_144 tw_239 ?_
    obtain rfl := Option.some.inj h
    exact ev_iret dX6_told_146 rfl rfl
  · have h := am_t c2 h
    refine ev_ldc (v := ((-1000000001) : Int32)) dX6_told_8 tw_239 ?_
    obtain rfl := Option.some.inj h
    exact ev_iret dX6_told_10 rfl rfl

theorem c_X6_told {X : Nat × (Nat → Int32)} {u : am_MU} {l1 : Int32} {l2 : Int32} {r : am_MU × Int32} (h : f_X6_told u l1 l2 = some r) : am_Cn X M_X6_told [.ref 0, .int l1, .int l2] (hp u) (hp r.1, some (.int r.2)) := by
  refine am_Cn.of ok_X6_told (Nat.le_refl _) (Nat.le_refl _) (Nat.le_of_ble_eq_true rfl) ?_
  refine ev_loc [0, 1, 2] rfl ?_
  exact l_X6_told_0 u l1 l2 r h

-- SandRipples.isUnder(II)Z
def g_X6_isUnder_4  : Nat → am_MU → Int32 → Int32 → Int32 → Option (am_MU × Int32)
  | 0 => fun _ _ _ _ => none
  | n + 1 => fun u l1 l2 l3 =>
if (Int32.ofNat 6) ≤ l3 then (some (u, (0 : Int32)))
else ((f_X6_isKind u l2).bind fun q2 =>
if q2.2 = 0 then (some (q2.1, (0 : Int32)))
else (if l2 = l1 then (some (q2.1, (1 : Int32)))
else (if am_in l2 6 then (
am_let (kA1 l2.toNatClampNeg) fun x6 =>
am_let (l3 + (1 : Int32)) fun x7 =>
g_X6_isUnder_4 n q2.1 l1 x6 x7) else none)))

def f_X6_isUnder  (u : am_MU) (l0 : Int32) (l1 : Int32) : Option (am_MU × Int32) :=
g_X6_isUnder_4 1700 u l1 l0 (0 : Int32)

theorem l_X6_isUnder_4 {X : Nat × (Nat → Int32)}   : ∀ (n : Nat) (u : am_MU) (l1 : Int32) (l2 : Int32) (l3 : Int32) (r : am_MU × Int32), g_X6_isUnder_4  n u l1 l2 l3 = some r → am_Ev X M_X6_isUnder 4 [(1, .int l1), (2, .int l2), (3, .int l3)] [] (hp u) (hp r.1, some (.int r.2)) := by
  intro n
  induction n with
  | zero => intro u l1 l2 l3 r h; cases h
  | succ n ih =>
    intro u l1 l2 l3 r h
    rw [g_X6_isUnder_4] at h
    refine ev_iload_n dX6_isUnder_4 2 rfl ?_
    refine ev_gets (v := .retAddr 1) dX6_isUnder_5 tw_334 (List.mem_of_getElem? (i := 0) rfl) ?_
    refine ev_tlen (n := 6) (f := kA1) dX6_isUnder_8 (fun G _ => rfl) ?_
    refine ev_icmp_ge 38 dX6_isUnder_9 (by decide) (fun c1 => ?_) (fun c1 => ?_)
    · have h := am_t c1 h
      refine ev_iconst (v := (0 : Int32)) dX6_isUnder_38 kI_0 ?_
      obtain rfl := Option.some.inj h
      exact ev_iret dX6_isUnder_39 rfl (am_zn (Or.inl rfl))
    · have h := am_e c1 h
      refine ev_iload_n dX6_isUnder_12 1 rfl ?_
      obtain ⟨q2, eq2, h⟩ := am_bd h
      refine px_callsi [.int l2] dX6_isUnder_13 ok_X6_isKind lk_RX6_76 st_X6_isKind (by decide) rfl (c_X6_isKind eq2) rfl (Nat.le_of_ble_eq_true rfl) ?_
      refine ev_if_eq 38 dX6_isUnder_16 (by decide) (fun c3 => ?_) (fun c3 => ?_)
      · have h := am_t c3 h
        refine ev_iconst (v := (0 : Int32)) dX6_isUnder_38 kI_0 ?_
        obtain rfl := Option.some.inj h
        exact ev_iret dX6_isUnder_39 rfl (am_zn (Or.inl rfl))
      · have h := am_e c3 h
        refine ev_iload_n dX6_isUnder_19 1 rfl ?_
        refine ev_iload_n dX6_isUnder_20 0 rfl ?_
        refine ev_icmp_ne 26 dX6_isUnder_21 (by decide) (fun c4 => ?_) (fun c4 => ?_)
        · have h := am_e c4 h
          refine ev_gets (v := .retAddr 1) dX6_isUnder_26 tw_334 (List.mem_of_getElem? (i := 0) rfl) ?_
          refine ev_iload_n dX6_isUnder_29 1 rfl ?_
          obtain ⟨g5, h⟩ := am_gd h
          refine ev_ti (n := 6) (f := kA1) dX6_isUnder_30 (fun G _ => rfl) (am_in_vp g5) ?_
          obtain ⟨x6, ex6, h⟩ := am_lt h
          refine px_top ex6 ?_
          refine ev_istore_n (L' := [(2, .int x6), (1, .int l1), (3, .int l3)]) dX6_isUnder_31 (by decide) rfl ?_
          obtain ⟨x7, ex7, h⟩ := am_lt h
          refine ev_iinc (v := x7) (L' := [(3, .int x7), (2, .int x6), (1, .int l1)]) dX6_isUnder_32 2 rfl (by rw [kI_1, ex7]) (by decide) rfl ?_
          refine ev_goto 4 dX6_isUnder_35 (by decide) ?_
          refine ev_loc [2, 1, 0] rfl ?_
          exact ih q2.1 l1 x6 x7 _ h
        · have h := am_t c4 h
          refine ev_iconst (v := (1 : Int32)) dX6_isUnder_24 kI_1 ?_
          obtain rfl := Option.some.inj h
          exact ev_iret dX6_isUnder_25 rfl (am_zn (Or.inr rfl))

theorem l_X6_isUnder_0 {X : Nat × (Nat → Int32)}   (u : am_MU) (l0 : Int32) (l1 : Int32) (r : am_MU × Int32) (h : f_X6_isUnder  u l0 l1 = some r) : am_Ev X M_X6_isUnder 0 [(0, .int l0), (1, .int l1)] [] (hp u) (hp r.1, some (.int r.2)) := by
  unfold f_X6_isUnder at h
  refine ev_iload_n dX6_isUnder_0 0 rfl ?_
  refine ev_istore_n (L' := [(2, .int l0), (0, .int l0), (1, .int l1)]) dX6_isUnder_1 (by decide) rfl ?_
  refine ev_iconst (v := (0 : Int32)) dX6_isUnder_2 kI_0 ?_
  refine ev_istore_n (L' := [(3, .int (0 : Int32)), (2, .int l0), (0, .int l0), (1, .int l1)]) dX6_isUnder_3 (by decide) rfl ?_
  refine ev_loc [3, 1, 0] rfl ?_
  exact l_X6_isUnder_4   1700 u l1 l0 (0 : Int32) _ h

theorem c_X6_isUnder {X : Nat × (Nat → Int32)} {u : am_MU} {l0 : Int32} {l1 : Int32} {r : am_MU × Int32} (h : f_X6_isUnder u l0 l1 = some r) : am_Cn X M_X6_isUnder [.int l0, .int l1] (hp u) (hp r.1, some (.int r.2)) := by
  refine am_Cn.of ok_X6_isUnder (Nat.le_refl _) (Nat.le_refl _) (Nat.le_of_ble_eq_true rfl) ?_
  refine ev_loc [0, 1] rfl ?_
  exact l_X6_isUnder_0 u l0 l1 r h

-- SandRipples.as(II)I
def f_X6_as  (u : am_MU) (l1 : Int32) (l2 : Int32) : Option (am_MU × Int32) :=
(f_X6_isFloor u l1).bind fun q1 =>
if q1.2 = 0 then (some (q1.1, ((-1000000001) : Int32)))
else ((f_X6_isKind q1.1 l2).bind fun q3 =>
if q3.2 = 0 then (some (q3.1, ((-1000000001) : Int32)))
else (if am_in l1 6 then (
if tg (5 + 2 * l1.toNatClampNeg) = 0 then (
(f_X6_isUnder q3.1 (q3.1 (5 + 2 * l1.toNatClampNeg) 2) l2).bind fun q7 =>
if q7.2 = 0 then (some (q7.1, ((-1000000012) : Int32)))
else (some (q7.1, q7.1 (5 + 2 * l1.toNatClampNeg) 1))) else none) else none))

theorem l_X6_as_0 {X : Nat × (Nat → Int32)}   (u : am_MU) (l1 : Int32) (l2 : Int32) (r : am_MU × Int32) (h : f_X6_as  u l1 l2 = some r) : am_Ev X M_X6_as 0 [(0, .ref 0), (1, .int l1), (2, .int l2)] [] (hp u) (hp r.1, some (.int r.2)) := by
  unfold f_X6_as at h
  refine ev_aload_n dX6_as_0 0 rfl trivial ?_
  refine ev_iload_n dX6_as_1 1 rfl ?_
  obtain ⟨q1, eq1, h⟩ := am_bd h
  refine px_callvi [.int l1] (by decide) cl_6 (at6 rfl) dX6_as_2 ok_X6_isFloor lk_RX6_94 in_X6_isFloor se_X6_isFloor (by decide) rfl (c_X6_isFloor eq1) rfl (Nat.le_of_ble_eq_true rfl) ?_
  refine ev_if_eq 15 dX6_as_5 (by decide) (fun c2 => ?_) (fun c2 => ?_)
  · have h := am_t c2 h
    refine ev_ldc (v := ((-1000000001) : Int32)) dX6_as_15 tw_239 ?_
    obtain rfl := Option.some.inj h
    exact ev_iret dX6_as_17 rfl rfl
  · have h := am_e c2 h
    refine ev_iload_n dX6_as_8 2 rfl ?_
    obtain ⟨q3, eq3, h⟩ := am_bd h
    refine px_callsi [.int l2] dX6_as_9 ok_X6_isKind lk_RX6_76 st_X6_isKind (by decide) rfl (c_X6_isKind eq3) rfl (Nat.le_of_ble_eq_true rfl) ?_
    refine ev_if_ne 18 dX6_as_12 (by decide) (fun c4 => ?_) (fun c4 => ?_)
    · have h := am_e c4 h
      refine ev_aload_n dX6_as_18 0 rfl trivial ?_
      refine px_getR dX6_as_19 gf_RX6_14 (at6 rfl) (by decide) rfl ?_
      refine px_getR dX6_as_22 gf_RX6_85 (at5 rfl) (by decide) rfl ?_
      refine ev_iload_n dX6_as_25 1 rfl ?_
      obtain ⟨g5, h⟩ := am_gd h
      refine px_aald3 (n := 6) dX6_as_26 rfl rfl g5 ?_
      refine ev_astore_n (L' := [(3, .ref (5 + 2 * l1.toNatClampNeg)), (0, .ref 0), (1, .int l1), (2, .int l2)]) dX6_as_27 trivial (by decide) rfl ?_
      refine ev_aload_n dX6_as_28 0 rfl trivial ?_
      obtain ⟨g6, h⟩ := am_gd h
      refine px_getI dX6_as_29 gf_RX6_97 (at0 g6) (by decide) rfl ?_
      refine ev_iload_n dX6_as_32 3 rfl ?_
      obtain ⟨q7, eq7, h⟩ := am_bd h
      refine px_callsi [.int (q3.1 (5 + 2 * l1.toNatClampNeg) 2), .int l2] dX6_as_33 ok_X6_isUnder lk_RX6_132 st_X6_isUnder (by decide) rfl (c_X6_isUnder eq7) rfl (Nat.le_of_ble_eq_true rfl) ?_
      refine ev_if_eq 46 dX6_as_36 (by decide) (fun c8 => ?_) (fun c8 => ?_)
      · have h := am_t c8 h
        refine ev_ldc (v := ((-1000000012) : Int32)) dX6_as_46 tw_336 ?_
        obtain rfl := Option.some.inj h
        exact ev_iret dX6_as_48 rfl rfl
      · have h := am_e c8 h
        refine ev_aload_n dX6_as_39 0 rfl trivial ?_
        refine px_getI dX6_as_40 gf_RX6_100 (at0 g6) (by decide) rfl ?_
        refine ev_goto 48 dX6_as_43 (by decide) ?_
        obtain rfl := Option.some.inj h
        exact ev_iret dX6_as_48 rfl rfl
    · have h := am_t c4 h
      refine ev_ldc (v := ((-1000000001) : Int32)) dX6_as_15 tw_239 ?_
      obtain rfl := Option.some.inj h
      exact ev_iret dX6_as_17 rfl rfl

theorem c_X6_as {X : Nat × (Nat → Int32)} {u : am_MU} {l1 : Int32} {l2 : Int32} {r : am_MU × Int32} (h : f_X6_as u l1 l2 = some r) : am_Cn X M_X6_as [.ref 0, .int l1, .int l2] (hp u) (hp r.1, some (.int r.2)) := by
  refine am_Cn.of ok_X6_as (Nat.le_refl _) (Nat.le_refl _) (Nat.le_of_ble_eq_true rfl) ?_
  refine ev_loc [0, 1, 2] rfl ?_
  exact l_X6_as_0 u l1 l2 r h

-- SandRipples.turns(II)I
def f_X6_turns  (u : am_MU) (l1 : Int32) (l2 : Int32) : Option (am_MU × Int32) :=
(f_X6_isFloor u l1).bind fun q1 =>
if q1.2 = 0 then (some (q1.1, ((-1000000001) : Int32)))
else ((f_X6_isKind q1.1 l2).bind fun q3 =>
if q3.2 = 0 then (some (q3.1, ((-1000000001) : Int32)))
else (if am_in l1 6 then (
if tg (5 + 2 * l1.toNatClampNeg) = 0 then (
am_let (q3.1 (5 + 2 * l1.toNatClampNeg) 2) fun x7 =>
am_let (am_u2 q3.1 (5 + 2 * l1.toNatClampNeg) 2 l2) fun u8 =>
some (u8, x7)) else none) else none))

theorem l_X6_turns_0 {X : Nat × (Nat → Int32)}   (u : am_MU) (l1 : Int32) (l2 : Int32) (r : am_MU × Int32) (h : f_X6_turns  u l1 l2 = some r) : am_Ev X M_X6_turns 0 [(0, .ref 0), (1, .int l1), (2, .int l2)] [] (hp u) (hp r.1, some (.int r.2)) := by
  unfold f_X6_turns at h
  refine ev_aload_n dX6_turns_0 0 rfl trivial ?_
  refine ev_iload_n dX6_turns_1 1 rfl ?_
  obtain ⟨q1, eq1, h⟩ := am_bd h
  refine px_callvi [.int l1] (by decide) cl_6 (at6 rfl) dX6_turns_2 ok_X6_isFloor lk_RX6_94 in_X6_isFloor se_X6_isFloor (by decide) rfl (c_X6_isFloor eq1) rfl (Nat.le_of_ble_eq_true rfl) ?_
  refine ev_if_eq 15 dX6_turns_5 (by decide) (fun c2 => ?_) (fun c2 => ?_)
  · have h := am_t c2 h
    refine ev_ldc (v := ((-1000000001) : Int32)) dX6_turns_15 tw_239 ?_
    obtain rfl := Option.some.inj h
    exact ev_iret dX6_turns_17 rfl rfl
  · have h := am_e c2 h
    refine ev_iload_n dX6_turns_8 2 rfl ?_
    obtain ⟨q3, eq3, h⟩ := am_bd h
    refine px_callsi [.int l2] dX6_turns_9 ok_X6_isKind lk_RX6_76 st_X6_isKind (by decide) rfl (c_X6_isKind eq3) rfl (Nat.le_of_ble_eq_true rfl) ?_
    refine ev_if_ne 18 dX6_turns_12 (by decide) (fun c4 => ?_) (fun c4 => ?_)
    · have h := am_e c4 h
      refine ev_aload_n dX6_turns_18 0 rfl trivial ?_
      refine px_getR dX6_turns_19 gf_RX6_14 (at6 rfl) (by decide) rfl ?_
      refine px_getR dX6_turns_22 gf_RX6_85 (at5 rfl) (by decide) rfl ?_
      refine ev_iload_n dX6_turns_25 1 rfl ?_
      obtain ⟨g5, h⟩ := am_gd h
      refine px_aald3 (n := 6) dX6_turns_26 rfl rfl g5 ?_
      refine ev_astore_n (L' := [(3, .ref (5 + 2 * l1.toNatClampNeg)), (0, .ref 0), (1, .int l1), (2, .int l2)]) dX6_turns_27 trivial (by decide) rfl ?_
      refine ev_aload_n dX6_turns_28 0 rfl trivial ?_
      obtain ⟨g6, h⟩ := am_gd h
      refine px_getI dX6_turns_29 gf_RX6_97 (at0 g6) (by decide) rfl ?_
      obtain ⟨x7, ex7, h⟩ := am_lt h
      refine px_top ex7 ?_
      refine ev_istore (L' := [(4, .int x7), (3, .ref (5 + 2 * l1.toNatClampNeg)), (0, .ref 0), (1, .int l1), (2, .int l2)]) dX6_turns_32 (by decide) rfl ?_
      refine ev_aload_n dX6_turns_34 1 rfl trivial ?_
      refine ev_iload_n dX6_turns_35 4 rfl ?_
      obtain ⟨u8, eu8, h⟩ := am_lt h
      refine px_putI dX6_turns_36 pf_RX6_97 (at0 g6) (by decide) rfl eu8 ?_
      refine ev_iload dX6_turns_39 0 rfl ?_
      obtain rfl := Option.some.inj h
      exact ev_iret dX6_turns_41 rfl rfl
    · have h := am_t c4 h
      refine ev_ldc (v := ((-1000000001) : Int32)) dX6_turns_15 tw_239 ?_
      obtain rfl := Option.some.inj h
      exact ev_iret dX6_turns_17 rfl rfl

theorem c_X6_turns {X : Nat × (Nat → Int32)} {u : am_MU} {l1 : Int32} {l2 : Int32} {r : am_MU × Int32} (h : f_X6_turns u l1 l2 = some r) : am_Cn X M_X6_turns [.ref 0, .int l1, .int l2] (hp u) (hp r.1, some (.int r.2)) := by
  refine am_Cn.of ok_X6_turns (Nat.le_refl _) (Nat.le_refl _) (Nat.le_of_ble_eq_true rfl) ?_
  refine ev_loc [0, 1, 2] rfl ?_
  exact l_X6_turns_0 u l1 l2 r h

-- SandRipples.sea(II)I
def f_X6_sea  (u : am_MU) (l1 : Int32) (l2 : Int32) : Option (am_MU × Int32) :=
if l1 < 0 then (some (u, ((-1000000001) : Int32)))
else (if (3 : Int32) < l1 then (some (u, ((-1000000001) : Int32)))
else (if am_in l1 4 then (
if l2 < (kA2 l1.toNatClampNeg) then (some (u, ((-1000000001) : Int32)))
else (if l2 ≤ (kA3 l1.toNatClampNeg) then (am_let (u 2 l1.toNatClampNeg) fun x6 =>
am_let (am_u2 u 2 l1.toNatClampNeg l2) fun u7 =>
some (u7, x6))
else (some (u, ((-1000000001) : Int32))))) else none))

theorem l_X6_sea_0 {X : Nat × (Nat → Int32)}   (u : am_MU) (l1 : Int32) (l2 : Int32) (r : am_MU × Int32) (h : f_X6_sea  u l1 l2 = some r) : am_Ev X M_X6_sea 0 [(0, .ref 0), (1, .int l1), (2, .int l2)] [] (hp u) (hp r.1, some (.int r.2)) := by
  unfold f_X6_sea at h
  refine ev_iload_n dX6_sea_0 1 rfl ?_
  refine ev_if_lt 27 dX6_sea_1 (by decide) (fun c1 => ?_) (fun c1 => ?_)
  · have h := am_t c1 h
    refine ev_ldc (v := ((-1000000001) : Int32)) dX6_sea_27 tw_239 ?_
    obtain rfl := Option.some.inj h
    exact ev_iret dX6_sea_29 rfl rfl
  · have h := am_e c1 h
    refine ev_iload_n dX6_sea_4 1 rfl ?_
    refine ev_iconst (v := (3 : Int32)) dX6_sea_5 kI_3 ?_
    refine ev_icmp_gt 27 dX6_sea_6 (by decide) (fun c2 => ?_) (fun c2 => ?_)
    · have h := am_t c2 h
      refine ev_ldc (v := ((-1000000001) : Int32)) dX6_sea_27 tw_239 ?_
      obtain rfl := Option.some.inj h
      exact ev_iret dX6_sea_29 rfl rfl
    · have h := am_e c2 h
      refine ev_iload_n dX6_sea_9 2 rfl ?_
      refine ev_gets (v := .retAddr 2) dX6_sea_10 tw_345 (List.mem_of_getElem? (i := 1) rfl) ?_
      refine ev_iload_n dX6_sea_13 1 rfl ?_
      obtain ⟨g3, h⟩ := am_gd h
      refine ev_ti (n := 4) (f := kA2) dX6_sea_14 (fun G _ => rfl) (am_in_vp g3) ?_
      refine ev_icmp_lt 27 dX6_sea_15 (by decide) (fun c4 => ?_) (fun c4 => ?_)
      · have h := am_t c4 h
        refine ev_ldc (v := ((-1000000001) : Int32)) dX6_sea_27 tw_239 ?_
        obtain rfl := Option.some.inj h
        exact ev_iret dX6_sea_29 rfl rfl
      · have h := am_e c4 h
        refine ev_iload_n dX6_sea_18 2 rfl ?_
        refine ev_gets (v := .retAddr 3) dX6_sea_19 tw_347 (List.mem_of_getElem? (i := 2) rfl) ?_
        refine ev_iload_n dX6_sea_22 1 rfl ?_
        refine ev_ti (n := 4) (f := kA3) dX6_sea_23 (fun G _ => rfl) (am_in_vp g3) ?_
        refine ev_icmp_le 30 dX6_sea_24 (by decide) (fun c5 => ?_) (fun c5 => ?_)
        · have h := am_t c5 h
          refine ev_aload_n dX6_sea_30 0 rfl trivial ?_
          refine px_getR dX6_sea_31 gf_RX6_14 (at6 rfl) (by decide) rfl ?_
          refine px_getR dX6_sea_34 gf_RX6_143 (at5 rfl) (by decide) rfl ?_
          refine ev_iload_n dX6_sea_37 1 rfl ?_
          refine px_iald (n := 4) l1.toNatClampNeg dX6_sea_38 rfl g3 rfl ?_
          obtain ⟨x6, ex6, h⟩ := am_lt h
          refine px_top ex6 ?_
          refine ev_istore_n (L' := [(3, .int x6), (0, .ref 0), (1, .int l1), (2, .int l2)]) dX6_sea_39 (by decide) rfl ?_
          refine ev_aload_n dX6_sea_40 1 rfl trivial ?_
          refine px_getR dX6_sea_41 gf_RX6_14 (at6 rfl) (by decide) rfl ?_
          refine px_getR dX6_sea_44 gf_RX6_143 (at5 rfl) (by decide) rfl ?_
          refine ev_iload_n dX6_sea_47 2 rfl ?_
          refine ev_iload_n dX6_sea_48 3 rfl ?_
          obtain ⟨u7, eu7, h⟩ := am_lt h
          refine px_iast (n := 4) l1.toNatClampNeg dX6_sea_49 rfl g3 rfl eu7 ?_
          refine ev_iload_n dX6_sea_50 0 rfl ?_
          obtain rfl := Option.some.inj h
          exact ev_iret dX6_sea_51 rfl rfl
        · have h := am_e c5 h
          refine ev_ldc (v := ((-1000000001) : Int32)) dX6_sea_27 tw_239 ?_
          obtain rfl := Option.some.inj h
          exact ev_iret dX6_sea_29 rfl rfl

theorem c_X6_sea {X : Nat × (Nat → Int32)} {u : am_MU} {l1 : Int32} {l2 : Int32} {r : am_MU × Int32} (h : f_X6_sea u l1 l2 = some r) : am_Cn X M_X6_sea [.ref 0, .int l1, .int l2] (hp u) (hp r.1, some (.int r.2)) := by
  refine am_Cn.of ok_X6_sea (Nat.le_refl _) (Nat.le_refl _) (Nat.le_of_ble_eq_true rfl) ?_
  refine ev_loc [0, 1, 2] rfl ?_
  exact l_X6_sea_0 u l1 l2 r h

-- SandRipples.isCell(I)Z
def f_X6_isCell  (u : am_MU) (l0 : Int32) : Option (am_MU × Int32) :=
if l0 < 0 then (some (u, (0 : Int32)))
else (if (24 : Int32) ≤ l0 then (some (u, (0 : Int32)))
else (some (u, (1 : Int32))))

theorem l_X6_isCell_0 {X : Nat × (Nat → Int32)}   (u : am_MU) (l0 : Int32) (r : am_MU × Int32) (h : f_X6_isCell  u l0 = some r) : am_Ev X M_X6_isCell 0 [(0, .int l0)] [] (hp u) (hp r.1, some (.int r.2)) := by
  unfold f_X6_isCell at h
  refine ev_iload_n dX6_isCell_0 0 rfl ?_
  refine ev_if_lt 14 dX6_isCell_1 (by decide) (fun c1 => ?_) (fun c1 => ?_)
  · have h := am_t c1 h
    refine ev_iconst (v := (0 : Int32)) dX6_isCell_14 kI_0 ?_
    obtain rfl := Option.some.inj h
    exact ev_iret dX6_isCell_15 rfl (am_zn (Or.inl rfl))
  · have h := am_e c1 h
    refine ev_iload_n dX6_isCell_4 0 rfl ?_
    refine ev_bipush (v := (24 : Int32)) dX6_isCell_5 kB_24 ?_
    refine ev_icmp_ge 14 dX6_isCell_7 (by decide) (fun c2 => ?_) (fun c2 => ?_)
    · have h := am_t c2 h
      refine ev_iconst (v := (0 : Int32)) dX6_isCell_14 kI_0 ?_
      obtain rfl := Option.some.inj h
      exact ev_iret dX6_isCell_15 rfl (am_zn (Or.inl rfl))
    · have h := am_e c2 h
      refine ev_iconst (v := (1 : Int32)) dX6_isCell_10 kI_1 ?_
      refine ev_goto 15 dX6_isCell_11 (by decide) ?_
      obtain rfl := Option.some.inj h
      exact ev_iret dX6_isCell_15 rfl (am_zn (Or.inr rfl))

theorem c_X6_isCell {X : Nat × (Nat → Int32)} {u : am_MU} {l0 : Int32} {r : am_MU × Int32} (h : f_X6_isCell u l0 = some r) : am_Cn X M_X6_isCell [.int l0] (hp u) (hp r.1, some (.int r.2)) := by
  refine am_Cn.of ok_X6_isCell (Nat.le_refl _) (Nat.le_refl _) (Nat.le_of_ble_eq_true rfl) ?_
  refine ev_loc [0] rfl ?_
  exact l_X6_isCell_0 u l0 r h

-- SandRipples.sand(II)I
def f_X6_sand  (u : am_MU) (l1 : Int32) (l2 : Int32) : Option (am_MU × Int32) :=
(f_X6_isFloor u l1).bind fun q1 =>
if q1.2 = 0 then (some (q1.1, ((-1000000001) : Int32)))
else ((f_X6_isCell q1.1 l2).bind fun q3 =>
if q3.2 = 0 then (some (q3.1, ((-1000000001) : Int32)))
else (if am_in l1 6 then (
if tg (5 + 2 * l1.toNatClampNeg) = 0 then (
if am_in l2 24 then (
some (q3.1, q3.1 ((5 + 2 * l1.toNatClampNeg) + 1) l2.toNatClampNeg)) else none) else none) else none))

theorem l_X6_sand_0 {X : Nat × (Nat → Int32)}   (u : am_MU) (l1 : Int32) (l2 : Int32) (r : am_MU × Int32) (h : f_X6_sand  u l1 l2 = some r) : am_Ev X M_X6_sand 0 [(0, .ref 0), (1, .int l1), (2, .int l2)] [] (hp u) (hp r.1, some (.int r.2)) := by
  unfold f_X6_sand at h
  refine ev_aload_n dX6_sand_0 0 rfl trivial ?_
  refine ev_iload_n dX6_sand_1 1 rfl ?_
  obtain ⟨q1, eq1, h⟩ := am_bd h
  refine px_callvi [.int l1] (by decide) cl_6 (at6 rfl) dX6_sand_2 ok_X6_isFloor lk_RX6_94 in_X6_isFloor se_X6_isFloor (by decide) rfl (c_X6_isFloor eq1) rfl (Nat.le_of_ble_eq_true rfl) ?_
  refine ev_if_eq 15 dX6_sand_5 (by decide) (fun c2 => ?_) (fun c2 => ?_)
  · have h := am_t c2 h
    refine ev_ldc (v := ((-1000000001) : Int32)) dX6_sand_15 tw_239 ?_
    obtain rfl := Option.some.inj h
    exact ev_iret dX6_sand_17 rfl rfl
  · have h := am_e c2 h
    refine ev_iload_n dX6_sand_8 2 rfl ?_
    obtain ⟨q3, eq3, h⟩ := am_bd h
    refine px_callsi [.int l2] dX6_sand_9 ok_X6_isCell lk_RX6_146 st_X6_isCell (by decide) rfl (c_X6_isCell eq3) rfl (Nat.le_of_ble_eq_true rfl) ?_
    refine ev_if_ne 18 dX6_sand_12 (by decide) (fun c4 => ?_) (fun c4 => ?_)
    · have h := am_e c4 h
      refine ev_aload_n dX6_sand_18 0 rfl trivial ?_
      refine px_getR dX6_sand_19 gf_RX6_14 (at6 rfl) (by decide) rfl ?_
      refine px_getR dX6_sand_22 gf_RX6_85 (at5 rfl) (by decide) rfl ?_
      refine ev_iload_n dX6_sand_25 1 rfl ?_
      obtain ⟨g5, h⟩ := am_gd h
      refine px_aald3 (n := 6) dX6_sand_26 rfl rfl g5 ?_
      obtain ⟨g6, h⟩ := am_gd h
      refine px_getR dX6_sand_27 gf_RX6_149 (at0 g6) (by decide) rfl ?_
      refine ev_iload_n dX6_sand_30 2 rfl ?_
      obtain ⟨g7, h⟩ := am_gd h
      refine px_iald (n := 24) l2.toNatClampNeg dX6_sand_31 (il0 g6) g7 rfl ?_
      obtain rfl := Option.some.inj h
      exact ev_iret dX6_sand_32 rfl rfl
    · have h := am_t c4 h
      refine ev_ldc (v := ((-1000000001) : Int32)) dX6_sand_15 tw_239 ?_
      obtain rfl := Option.some.inj h
      exact ev_iret dX6_sand_17 rfl rfl

theorem c_X6_sand {X : Nat × (Nat → Int32)} {u : am_MU} {l1 : Int32} {l2 : Int32} {r : am_MU × Int32} (h : f_X6_sand u l1 l2 = some r) : am_Cn X M_X6_sand [.ref 0, .int l1, .int l2] (hp u) (hp r.1, some (.int r.2)) := by
  refine am_Cn.of ok_X6_sand (Nat.le_refl _) (Nat.le_refl _) (Nat.le_of_ble_eq_true rfl) ?_
  refine ev_loc [0, 1, 2] rfl ?_
  exact l_X6_sand_0 u l1 l2 r h

-- SandRipples.heap(III)I
def f_X6_heap  (u : am_MU) (l1 : Int32) (l2 : Int32) (l3 : Int32) : Option (am_MU × Int32) :=
(f_X6_isFloor u l1).bind fun q1 =>
if q1.2 = 0 then (some (q1.1, ((-1000000001) : Int32)))
else ((f_X6_isCell q1.1 l2).bind fun q3 =>
if q3.2 = 0 then (some (q3.1, ((-1000000001) : Int32)))
else (if l3 < 0 then (some (q3.1, ((-1000000001) : Int32)))
else (if l3 ≤ (99 : Int32) then (if am_in l1 6 then (
if tg (5 + 2 * l1.toNatClampNeg) = 0 then (
if am_in l2 24 then (
am_let (q3.1 ((5 + 2 * l1.toNatClampNeg) + 1) l2.toNatClampNeg) fun x10 =>
am_let (am_u2 q3.1 ((5 + 2 * l1.toNatClampNeg) + 1) l2.toNatClampNeg l3) fun u11 =>
some (u11, x10)) else none) else none) else none)
else (some (q3.1, ((-1000000001) : Int32))))))

theorem l_X6_heap_0 {X : Nat × (Nat → Int32)}   (u : am_MU) (l1 : Int32) (l2 : Int32) (l3 : Int32) (r : am_MU × Int32) (h : f_X6_heap  u l1 l2 l3 = some r) : am_Ev X M_X6_heap 0 [(0, .ref 0), (1, .int l1), (2, .int l2), (3, .int l3)] [] (hp u) (hp r.1, some (.int r.2)) := by
  unfold f_X6_heap at h
  refine ev_aload_n dX6_heap_0 0 rfl trivial ?_
  refine ev_iload_n dX6_heap_1 1 rfl ?_
  obtain ⟨q1, eq1, h⟩ := am_bd h
  refine px_callvi [.int l1] (by decide) cl_6 (at6 rfl) dX6_heap_2 ok_X6_isFloor lk_RX6_94 in_X6_isFloor se_X6_isFloor (by decide) rfl (c_X6_isFloor eq1) rfl (Nat.le_of_ble_eq_true rfl) ?_
  refine ev_if_eq 25 dX6_heap_5 (by decide) (fun c2 => ?_) (fun c2 => ?_)
  · have h := am_t c2 h
    refine ev_ldc (v := ((-1000000001) : Int32)) dX6_heap_25 tw_239 ?_
    obtain rfl := Option.some.inj h
    exact ev_iret dX6_heap_27 rfl rfl
  · have h := am_e c2 h
    refine ev_iload_n dX6_heap_8 2 rfl ?_
    obtain ⟨q3, eq3, h⟩ := am_bd h
    refine px_callsi [.int l2] dX6_heap_9 ok_X6_isCell lk_RX6_146 st_X6_isCell (by decide) rfl (c_X6_isCell eq3) rfl (Nat.le_of_ble_eq_true rfl) ?_
    refine ev_if_eq 25 dX6_heap_12 (by decide) (fun c4 => ?_) (fun c4 => ?_)
    · have h := am_t c4 h
      refine ev_ldc (v := ((-1000000001) : Int32)) dX6_heap_25 tw_239 ?_
      obtain rfl := Option.some.inj h
      exact ev_iret dX6_heap_27 rfl rfl
    · have h := am_e c4 h
      refine ev_iload_n dX6_heap_15 3 rfl ?_
      refine ev_if_lt 25 dX6_heap_16 (by decide) (fun c5 => ?_) (fun c5 => ?_)
      · have h := am_t c5 h
        refine ev_ldc (v := ((-1000000001) : Int32)) dX6_heap_25 tw_239 ?_
        obtain rfl := Option.some.inj h
        exact ev_iret dX6_heap_27 rfl rfl
      · have h := am_e c5 h
        refine ev_iload_n dX6_heap_19 3 rfl ?_
        refine ev_bipush (v := (99 : Int32)) dX6_heap_20 kB_99 ?_
        refine ev_icmp_le 28 dX6_heap_22 (by decide) (fun c6 => ?_) (fun c6 => ?_)
        · have h := am_t c6 h
          refine ev_aload_n dX6_heap_28 0 rfl trivial ?_
          refine px_getR dX6_heap_29 gf_RX6_14 (at6 rfl) (by decide) rfl ?_
          refine px_getR dX6_heap_32 gf_RX6_85 (at5 rfl) (by decide) rfl ?_
          refine ev_iload_n dX6_heap_35 1 rfl ?_
          obtain ⟨g7, h⟩ := am_gd h
          refine px_aald3 (n := 6) dX6_heap_36 rfl rfl g7 ?_
          refine ev_astore (L' := [(4, .ref (5 + 2 * l1.toNatClampNeg)), (0, .ref 0), (1, .int l1), (2, .int l2), (3, .int l3)]) dX6_heap_37 trivial (by decide) rfl ?_
          refine ev_aload dX6_heap_39 0 rfl trivial ?_
          obtain ⟨g8, h⟩ := am_gd h
          refine px_getR dX6_heap_41 gf_RX6_149 (at0 g8) (by decide) rfl ?_
          refine ev_iload_n dX6_heap_44 3 rfl ?_
          obtain ⟨g9, h⟩ := am_gd h
          refine px_iald (n := 24) l2.toNatClampNeg dX6_heap_45 (il0 g8) g9 rfl ?_
          obtain ⟨x10, ex10, h⟩ := am_lt h
          refine px_top ex10 ?_
          refine ev_istore (L' := [(5, .int x10), (4, .ref (5 + 2 * l1.toNatClampNeg)), (0, .ref 0), (1, .int l1), (2, .int l2), (3, .int l3)]) dX6_heap_46 (by decide) rfl ?_
          refine ev_aload dX6_heap_48 1 rfl trivial ?_
          refine px_getR dX6_heap_50 gf_RX6_149 (at0 g8) (by decide) rfl ?_
          refine ev_iload_n dX6_heap_53 4 rfl ?_
          refine ev_iload_n dX6_heap_54 5 rfl ?_
          obtain ⟨u11, eu11, h⟩ := am_lt h
          refine px_iast (n := 24) l2.toNatClampNeg dX6_heap_55 (il0 g8) g9 rfl eu11 ?_
          refine ev_iload dX6_heap_56 0 rfl ?_
          obtain rfl := Option.some.inj h
          exact ev_iret dX6_heap_58 rfl rfl
        · have h := am_e c6 h
          refine ev_ldc (v := ((-1000000001) : Int32)) dX6_heap_25 tw_239 ?_
          obtain rfl := Option.some.inj h
          exact ev_iret dX6_heap_27 rfl rfl

theorem c_X6_heap {X : Nat × (Nat → Int32)} {u : am_MU} {l1 : Int32} {l2 : Int32} {l3 : Int32} {r : am_MU × Int32} (h : f_X6_heap u l1 l2 l3 = some r) : am_Cn X M_X6_heap [.ref 0, .int l1, .int l2, .int l3] (hp u) (hp r.1, some (.int r.2)) := by
  refine am_Cn.of ok_X6_heap (Nat.le_refl _) (Nat.le_refl _) (Nat.le_of_ble_eq_true rfl) ?_
  refine ev_loc [0, 1, 2, 3] rfl ?_
  exact l_X6_heap_0 u l1 l2 l3 r h

-- SandRipples$World.draw()I
def f_X5_draw  (u : am_MU) (l0 : Nat) : Option (am_MU × Int32) :=
if tg l0 = 5 then (
am_let (am_u2 u l0 3 (((u l0 3) * (1103515245 : Int32)) + (12345 : Int32))) fun u2 =>
some (u2, ((u2 l0 3).toUInt32 >>> ((8 : Int32).toUInt32 &&& Int32.toUInt32 31)).toInt32)) else none

theorem l_X5_draw_0 {X : Nat × (Nat → Int32)}   (u : am_MU) (l0 : Nat) (r : am_MU × Int32) (h : f_X5_draw  u l0 = some r) : am_Ev X M_X5_draw 0 [(0, .ref l0)] [] (hp u) (hp r.1, some (.int r.2)) := by
  unfold f_X5_draw at h
  refine ev_aload_n dX5_draw_0 0 rfl trivial ?_
  refine ev_aload_n dX5_draw_1 0 rfl trivial ?_
  obtain ⟨g1, h⟩ := am_gd h
  refine px_getI dX5_draw_2 gf_RX5_19 (at5 g1) (by decide) rfl ?_
  refine ev_ldc (v := (1103515245 : Int32)) dX5_draw_5 tw_368 ?_
  refine ev_imul dX5_draw_7 ?_
  refine ev_sipush (v := (12345 : Int32)) dX5_draw_8 kS_12345 ?_
  refine ev_iadd dX5_draw_11 ?_
  obtain ⟨u2, eu2, h⟩ := am_lt h
  refine px_putI dX5_draw_12 pf_RX5_19 (at5 g1) (by decide) rfl eu2 ?_
  refine ev_aload_n dX5_draw_15 0 rfl trivial ?_
  refine px_getI dX5_draw_16 gf_RX5_19 (at5 g1) (by decide) rfl ?_
  refine ev_bipush (v := (8 : Int32)) dX5_draw_19 kB_8 ?_
  refine ev_iushr dX5_draw_21 ?_
  obtain rfl := Option.some.inj h
  exact ev_iret dX5_draw_22 rfl rfl

theorem c_X5_draw {X : Nat × (Nat → Int32)} {u : am_MU} {l0 : Nat} {r : am_MU × Int32} (h : f_X5_draw u l0 = some r) : am_Cn X M_X5_draw [.ref l0] (hp u) (hp r.1, some (.int r.2)) := by
  refine am_Cn.of ok_X5_draw (Nat.le_refl _) (Nat.le_refl _) (Nat.le_of_ble_eq_true rfl) ?_
  refine ev_loc [0] rfl ?_
  exact l_X5_draw_0 u l0 r h

-- SandRipples.deal(I)I
def g_X6_deal_23  : Nat → am_MU → Nat → Int32 → Option (am_MU × Int32)
  | 0 => fun _ _ _ => none
  | n + 1 => fun u l2 l3 =>
if (24 : Int32) ≤ l3 then (if tg l2 = 0 then (
(f_X0_total u l2).bind fun q2 =>
some (q2.1, q2.2)) else none)
else (if tg l2 = 0 then (
(f_X5_draw u 1).bind fun q5 =>
if am_in l3 24 then (
am_let (am_u2 q5.1 (l2 + 1) l3.toNatClampNeg (q5.2 - q5.2 / (40 : Int32) * (40 : Int32))) fun u7 =>
am_let (l3 + (1 : Int32)) fun x8 =>
g_X6_deal_23 n u7 l2 x8) else none) else none)

def f_X6_deal  (u : am_MU) (l1 : Int32) : Option (am_MU × Int32) :=
(f_X6_isFloor u l1).bind fun q1 =>
if q1.2 = 0 then (some (q1.1, ((-1000000001) : Int32)))
else (if am_in l1 6 then (
g_X6_deal_23 1700 q1.1 (5 + 2 * l1.toNatClampNeg) (0 : Int32)) else none)

theorem l_X6_deal_23 {X : Nat × (Nat → Int32)}   : ∀ (n : Nat) (u : am_MU) (l2 : Nat) (l3 : Int32) (r : am_MU × Int32), g_X6_deal_23  n u l2 l3 = some r → am_Ev X M_X6_deal 23 [(0, .ref 0), (2, .ref l2), (3, .int l3)] [] (hp u) (hp r.1, some (.int r.2)) := by
  intro n
  induction n with
  | zero => intro u l2 l3 r h; cases h
  | succ n ih =>
    intro u l2 l3 r h
    rw [g_X6_deal_23] at h
    refine ev_iload_n dX6_deal_23 2 rfl ?_
    refine ev_bipush (v := (24 : Int32)) dX6_deal_24 kB_24 ?_
    refine ev_icmp_ge 51 dX6_deal_26 (by decide) (fun c1 => ?_) (fun c1 => ?_)
    · have h := am_t c1 h
      refine ev_aload_n dX6_deal_51 1 rfl trivial ?_
      obtain ⟨g3, h⟩ := am_gd h
      obtain ⟨q2, eq2, h⟩ := am_bd h
      refine px_callvi [] (by decide) cl_0 (at0 g3) dX6_deal_52 ok_X0_total lk_RX6_103 in_X0_total se_X0_total (by decide) rfl (c_X0_total eq2) rfl (Nat.le_of_ble_eq_true rfl) ?_
      obtain rfl := Option.some.inj h
      exact ev_iret dX6_deal_55 rfl rfl
    · have h := am_e c1 h
      refine ev_aload_n dX6_deal_29 1 rfl trivial ?_
      obtain ⟨g4, h⟩ := am_gd h
      refine px_getR dX6_deal_30 gf_RX6_149 (at0 g4) (by decide) rfl ?_
      refine ev_iload_n dX6_deal_33 2 rfl ?_
      refine ev_aload_n dX6_deal_34 0 rfl trivial ?_
      refine px_getR dX6_deal_35 gf_RX6_14 (at6 rfl) (by decide) rfl ?_
      obtain ⟨q5, eq5, h⟩ := am_bd h
      refine px_callvi [] (by decide) cl_5 (at5 rfl) dX6_deal_38 ok_X5_draw lk_RX6_152 in_X5_draw se_X5_draw (by decide) rfl (c_X5_draw eq5) rfl (Nat.le_of_ble_eq_true rfl) ?_
      refine ev_bipush (v := (40 : Int32)) dX6_deal_41 kB_40 ?_
      refine ev_irem dX6_deal_43 (by decide) ?_
      obtain ⟨g6, h⟩ := am_gd h
      obtain ⟨u7, eu7, h⟩ := am_lt h
      refine px_iast (n := 24) l3.toNatClampNeg dX6_deal_44 (il0 g4) g6 rfl eu7 ?_
      obtain ⟨x8, ex8, h⟩ := am_lt h
      refine ev_iinc (v := x8) (L' := [(3, .int x8), (0, .ref 0), (2, .ref l2)]) dX6_deal_45 2 rfl (by rw [kI_1, ex8]) (by decide) rfl ?_
      refine ev_goto 23 dX6_deal_48 (by decide) ?_
      refine ev_loc [1, 2, 0] rfl ?_
      exact ih u7 l2 x8 _ h

theorem l_X6_deal_0 {X : Nat × (Nat → Int32)}   (u : am_MU) (l1 : Int32) (r : am_MU × Int32) (h : f_X6_deal  u l1 = some r) : am_Ev X M_X6_deal 0 [(0, .ref 0), (1, .int l1)] [] (hp u) (hp r.1, some (.int r.2)) := by
  unfold f_X6_deal at h
  refine ev_aload_n dX6_deal_0 0 rfl trivial ?_
  refine ev_iload_n dX6_deal_1 1 rfl ?_
  obtain ⟨q1, eq1, h⟩ := am_bd h
  refine px_callvi [.int l1] (by decide) cl_6 (at6 rfl) dX6_deal_2 ok_X6_isFloor lk_RX6_94 in_X6_isFloor se_X6_isFloor (by decide) rfl (c_X6_isFloor eq1) rfl (Nat.le_of_ble_eq_true rfl) ?_
  refine ev_if_ne 11 dX6_deal_5 (by decide) (fun c2 => ?_) (fun c2 => ?_)
  · have h := am_e c2 h
    refine ev_aload_n dX6_deal_11 0 rfl trivial ?_
    refine px_getR dX6_deal_12 gf_RX6_14 (at6 rfl) (by decide) rfl ?_
    refine px_getR dX6_deal_15 gf_RX6_85 (at5 rfl) (by decide) rfl ?_
    refine ev_iload_n dX6_deal_18 1 rfl ?_
    obtain ⟨g3, h⟩ := am_gd h
    refine px_aald3 (n := 6) dX6_deal_19 rfl rfl g3 ?_
    refine ev_astore_n (L' := [(2, .ref (5 + 2 * l1.toNatClampNeg)), (0, .ref 0), (1, .int l1)]) dX6_deal_20 trivial (by decide) rfl ?_
    refine ev_iconst (v := (0 : Int32)) dX6_deal_21 kI_0 ?_
    refine ev_istore_n (L' := [(3, .int (0 : Int32)), (2, .ref (5 + 2 * l1.toNatClampNeg)), (0, .ref 0), (1, .int l1)]) dX6_deal_22 (by decide) rfl ?_
    refine ev_loc [2, 1, 0] rfl ?_
    exact l_X6_deal_23   1700 q1.1 (5 + 2 * l1.toNatClampNeg) (0 : Int32) _ h
  · have h := am_t c2 h
    refine ev_ldc (v := ((-1000000001) : Int32)) dX6_deal_8 tw_239 ?_
    obtain rfl := Option.some.inj h
    exact ev_iret dX6_deal_10 rfl rfl

theorem c_X6_deal {X : Nat × (Nat → Int32)} {u : am_MU} {l1 : Int32} {r : am_MU × Int32} (h : f_X6_deal u l1 = some r) : am_Cn X M_X6_deal [.ref 0, .int l1] (hp u) (hp r.1, some (.int r.2)) := by
  refine am_Cn.of ok_X6_deal (Nat.le_refl _) (Nat.le_refl _) (Nat.le_of_ble_eq_true rfl) ?_
  refine ev_loc [0, 1] rfl ?_
  exact l_X6_deal_0 u l1 r h

-- SandRipples.seed(I)I
def f_X6_seed  (u : am_MU) (l1 : Int32) : Option (am_MU × Int32) :=
am_let (u 1 3) fun x1 =>
am_let (am_u2 u 1 3 l1) fun u2 =>
some (u2, x1)

theorem l_X6_seed_0 {X : Nat × (Nat → Int32)}   (u : am_MU) (l1 : Int32) (r : am_MU × Int32) (h : f_X6_seed  u l1 = some r) : am_Ev X M_X6_seed 0 [(0, .ref 0), (1, .int l1)] [] (hp u) (hp r.1, some (.int r.2)) := by
  unfold f_X6_seed at h
  refine ev_aload_n dX6_seed_0 0 rfl trivial ?_
  refine px_getR dX6_seed_1 gf_RX6_14 (at6 rfl) (by decide) rfl ?_
  refine px_getI dX6_seed_4 gf_RX6_155 (at5 rfl) (by decide) rfl ?_
  obtain ⟨x1, ex1, h⟩ := am_lt h
  refine px_top ex1 ?_
  refine ev_istore_n (L' := [(2, .int x1), (0, .ref 0), (1, .int l1)]) dX6_seed_7 (by decide) rfl ?_
  refine ev_aload_n dX6_seed_8 1 rfl trivial ?_
  refine px_getR dX6_seed_9 gf_RX6_14 (at6 rfl) (by decide) rfl ?_
  refine ev_iload_n dX6_seed_12 2 rfl ?_
  obtain ⟨u2, eu2, h⟩ := am_lt h
  refine px_putI dX6_seed_13 pf_RX6_155 (at5 rfl) (by decide) rfl eu2 ?_
  refine ev_iload_n dX6_seed_16 0 rfl ?_
  obtain rfl := Option.some.inj h
  exact ev_iret dX6_seed_17 rfl rfl

theorem c_X6_seed {X : Nat × (Nat → Int32)} {u : am_MU} {l1 : Int32} {r : am_MU × Int32} (h : f_X6_seed u l1 = some r) : am_Cn X M_X6_seed [.ref 0, .int l1] (hp u) (hp r.1, some (.int r.2)) := by
  refine am_Cn.of ok_X6_seed (Nat.le_refl _) (Nat.le_refl _) (Nat.le_of_ble_eq_true rfl) ?_
  refine ev_loc [0, 1] rfl ?_
  exact l_X6_seed_0 u l1 r h

-- SandRipples.inRing(I)I
def f_X6_inRing  (u : am_MU) (l0 : Int32) : Option (am_MU × Int32) :=
(f_J9_floorMod_7cf53 u l0 (24 : Int32)).bind fun q1 =>
some (q1.1, q1.2)

theorem l_X6_inRing_0 {X : Nat × (Nat → Int32)}   (u : am_MU) (l0 : Int32) (r : am_MU × Int32) (h : f_X6_inRing  u l0 = some r) : am_Ev X M_X6_inRing 0 [(0, .int l0)] [] (hp u) (hp r.1, some (.int r.2)) := by
  unfold f_X6_inRing at h
  refine ev_iload_n dX6_inRing_0 0 rfl ?_
  refine ev_bipush (v := (24 : Int32)) dX6_inRing_1 kB_24 ?_
  obtain ⟨q1, eq1, h⟩ := am_bd h
  refine px_callsi [.int l0, .int (24 : Int32)] dX6_inRing_3 ok_J9_floorMod_7cf53 lk_RX6_302 st_J9_floorMod_7cf53 (by decide) rfl (c_J9_floorMod_7cf53 eq1) rfl (Nat.le_of_ble_eq_true rfl) ?_
  obtain rfl := Option.some.inj h
  exact ev_iret dX6_inRing_6 rfl rfl

theorem c_X6_inRing {X : Nat × (Nat → Int32)} {u : am_MU} {l0 : Int32} {r : am_MU × Int32} (h : f_X6_inRing u l0 = some r) : am_Cn X M_X6_inRing [.int l0] (hp u) (hp r.1, some (.int r.2)) := by
  refine am_Cn.of ok_X6_inRing (Nat.le_refl _) (Nat.le_refl _) (Nat.le_of_ble_eq_true rfl) ?_
  refine ev_loc [0] rfl ?_
  exact l_X6_inRing_0 u l0 r h

-- SandRipples.liftOf(LSandRipples$World;LSandRipples$Floor;I)I
def g_X6_liftOf_75  (u : am_MU) (l2 : Nat) (l4 : Int32) (s0 : Int32) : Option (am_MU × Int32) :=
(f_X6_within u s0 (0 : Int32) l4).bind fun q1 =>
if tg l2 = 0 then (
if (q1.1 l2 2) = (3 : Int32) then (some (q1.1, q1.2 / (2 : Int32)))
else if (q1.1 l2 2) = (4 : Int32) then ((f_J9_max_7cf53 q1.1 (q1.2 - (1 : Int32)) (0 : Int32)).bind fun q5 =>
some (q5.1, q5.2))
else (some (q1.1, q1.2))) else none

def f_X6_liftOf  (u : am_MU) (l1 : Nat) (l2 : Nat) (l3 : Int32) : Option (am_MU × Int32) :=
if tg l2 = 0 then (
if am_in l3 24 then (
am_let (u (l2 + 1) l3.toNatClampNeg) fun x3 =>
(f_X0_way u l2).bind fun q4 =>
(f_X6_inRing q4.1 (l3 + q4.2)).bind fun q5 =>
if am_in q5.2 24 then (
am_let (x3 - (q5.1 (l2 + 1) q5.2.toNatClampNeg)) fun x7 =>
if tg l1 = 5 then (
am_let (q5.1 (l1 + 1) 1) fun x9 =>
am_let (q5.1 (l1 + 2) 0) fun x10 =>
if x10 = ((-1000000005) : Int32) then (g_X6_liftOf_75 q5.1 l2 x3 x9)
else (if am_in x10 14 then (
if tg (49 + 2 * x10.toNatClampNeg) = 4 then (
(f_X4_value q5.1 (49 + 2 * x10.toNatClampNeg) 44 x3 x7 x9).bind fun q13 =>
g_X6_liftOf_75 q13.1 l2 x3 q13.2) else none) else none)) else none) else none) else none) else none

theorem l_X6_liftOf_75 {X : Nat × (Nat → Int32)}   (u : am_MU) (l2 : Nat) (l4 : Int32) (s0 : Int32) (r : am_MU × Int32) (h : g_X6_liftOf_75  u l2 l4 s0 = some r) : am_Ev X M_X6_liftOf 75 [(2, .ref l2), (4, .int l4)] [.int s0] (hp u) (hp r.1, some (.int r.2)) := by
  unfold g_X6_liftOf_75 at h
  refine ev_istore (L' := [(8, .int s0), (2, .ref l2), (4, .int l4)]) dX6_liftOf_75 (by decide) rfl ?_
  refine ev_iload dX6_liftOf_77 0 rfl ?_
  refine ev_iconst (v := (0 : Int32)) dX6_liftOf_79 kI_0 ?_
  refine ev_iload dX6_liftOf_80 2 rfl ?_
  obtain ⟨q1, eq1, h⟩ := am_bd h
  refine px_callsi [.int s0, .int (0 : Int32), .int l4] dX6_liftOf_82 ok_X6_within lk_RX6_253 st_X6_within (by decide) rfl (c_X6_within eq1) rfl (Nat.le_of_ble_eq_true rfl) ?_
  refine ev_istore (L' := [(9, .int q1.2), (8, .int s0), (2, .ref l2), (4, .int l4)]) dX6_liftOf_85 (by decide) rfl ?_
  refine ev_aload_n dX6_liftOf_87 2 rfl trivial ?_
  obtain ⟨g2, h⟩ := am_gd h
  refine px_getI dX6_liftOf_88 gf_RX6_97 (at0 g2) (by decide) rfl ?_
  refine am_cs h (fun c3 h => ?_) (fun c3 h => ?_)
  · refine ev_lookup 116 (25) dX6_liftOf_91 (by decide) (by rw [c3]; decide) (by decide) ?_
    refine ev_iload dX6_liftOf_116 0 rfl ?_
    refine ev_iconst (v := (2 : Int32)) dX6_liftOf_118 kI_2 ?_
    refine ev_idiv dX6_liftOf_119 (by decide) ?_
    obtain rfl := Option.some.inj h
    exact ev_iret dX6_liftOf_120 rfl rfl
  refine am_cs h (fun c4 h => ?_) (fun c4 h => ?_)
  · refine ev_lookup 121 (30) dX6_liftOf_91 (by decide) (by rw [c4]; decide) (by decide) ?_
    refine ev_iload dX6_liftOf_121 0 rfl ?_
    refine ev_iconst (v := (1 : Int32)) dX6_liftOf_123 kI_1 ?_
    refine ev_isub dX6_liftOf_124 ?_
    refine ev_iconst (v := (0 : Int32)) dX6_liftOf_125 kI_0 ?_
    obtain ⟨q5, eq5, h⟩ := am_bd h
    refine px_callsi [.int (q1.2 - (1 : Int32)), .int (0 : Int32)] dX6_liftOf_126 ok_J9_max_7cf53 lk_RX6_305 st_J9_max_7cf53 (by decide) rfl (c_J9_max_7cf53 eq5) rfl (Nat.le_of_ble_eq_true rfl) ?_
    obtain rfl := Option.some.inj h
    exact ev_iret dX6_liftOf_129 rfl rfl
  refine ev_lookup 130 (39) dX6_liftOf_91 (by decide) ((lv_osw c3 (by decide)).trans ((lv_osw c4 (by decide)).trans rfl)) (by decide) ?_
  refine ev_iload dX6_liftOf_130 0 rfl ?_
  obtain rfl := Option.some.inj h
  exact ev_iret dX6_liftOf_132 rfl rfl

theorem l_X6_liftOf_0 {X : Nat × (Nat → Int32)}   (u : am_MU) (l1 : Nat) (l2 : Nat) (l3 : Int32) (r : am_MU × Int32) (h : f_X6_liftOf  u l1 l2 l3 = some r) : am_Ev X M_X6_liftOf 0 [(0, .ref 0), (1, .ref l1), (2, .ref l2), (3, .int l3)] [] (hp u) (hp r.1, some (.int r.2)) := by
  unfold f_X6_liftOf at h
  refine ev_aload_n dX6_liftOf_0 2 rfl trivial ?_
  obtain ⟨g1, h⟩ := am_gd h
  refine px_getR dX6_liftOf_1 gf_RX6_149 (at0 g1) (by decide) rfl ?_
  refine ev_iload_n dX6_liftOf_4 3 rfl ?_
  obtain ⟨g2, h⟩ := am_gd h
  refine px_iald (n := 24) l3.toNatClampNeg dX6_liftOf_5 (il0 g1) g2 rfl ?_
  obtain ⟨x3, ex3, h⟩ := am_lt h
  refine px_top ex3 ?_
  refine ev_istore (L' := [(4, .int x3), (0, .ref 0), (1, .ref l1), (2, .ref l2), (3, .int l3)]) dX6_liftOf_6 (by decide) rfl ?_
  refine ev_iload dX6_liftOf_8 0 rfl ?_
  refine ev_aload_n dX6_liftOf_10 3 rfl trivial ?_
  refine px_getR dX6_liftOf_11 gf_RX6_149 (at0 g1) (by decide) rfl ?_
  refine ev_iload_n dX6_liftOf_14 4 rfl ?_
  refine ev_aload_n dX6_liftOf_15 3 rfl trivial ?_
  obtain ⟨q4, eq4, h⟩ := am_bd h
  refine px_callvi [] (by decide) cl_0 (at0 g1) dX6_liftOf_16 ok_X0_way lk_RX6_126 in_X0_way se_X0_way (by decide) rfl (c_X0_way eq4) rfl (Nat.le_of_ble_eq_true rfl) ?_
  refine ev_iadd dX6_liftOf_19 ?_
  obtain ⟨q5, eq5, h⟩ := am_bd h
  refine px_callsi [.int (l3 + q4.2)] dX6_liftOf_20 ok_X6_inRing lk_RX6_162 st_X6_inRing (by decide) rfl (c_X6_inRing eq5) rfl (Nat.le_of_ble_eq_true rfl) ?_
  obtain ⟨g6, h⟩ := am_gd h
  refine px_iald (n := 24) q5.2.toNatClampNeg dX6_liftOf_23 (il0 g1) g6 rfl ?_
  refine ev_isub dX6_liftOf_24 ?_
  obtain ⟨x7, ex7, h⟩ := am_lt h
  refine px_top ex7 ?_
  refine ev_istore (L' := [(5, .int x7), (4, .int x3), (0, .ref 0), (1, .ref l1), (2, .ref l2), (3, .int l3)]) dX6_liftOf_25 (by decide) rfl ?_
  refine ev_aload_n dX6_liftOf_27 3 rfl trivial ?_
  obtain ⟨g8, h⟩ := am_gd h
  refine px_getR dX6_liftOf_28 gf_RX6_143 (at5 g8) (by decide) rfl ?_
  refine ev_iconst (v := (1 : Int32)) dX6_liftOf_31 kI_1 ?_
  refine px_iald (n := 4) 1 dX6_liftOf_32 (il5s g8) (by decide) (by decide) ?_
  obtain ⟨x9, ex9, h⟩ := am_lt h
  refine px_top ex9 ?_
  refine ev_istore (L' := [(6, .int x9), (5, .int x7), (4, .int x3), (0, .ref 0), (1, .ref l1), (2, .ref l2), (3, .int l3)]) dX6_liftOf_33 (by decide) rfl ?_
  refine ev_aload_n dX6_liftOf_35 4 rfl trivial ?_
  refine px_getR dX6_liftOf_36 gf_RX6_228 (at5 g8) (by decide) rfl ?_
  refine ev_iconst (v := (0 : Int32)) dX6_liftOf_39 kI_0 ?_
  refine px_iald (n := 3) 0 dX6_liftOf_40 (il5l g8) (by decide) (by decide) ?_
  obtain ⟨x10, ex10, h⟩ := am_lt h
  refine px_top ex10 ?_
  refine ev_istore (L' := [(7, .int x10), (6, .int x9), (5, .int x7), (4, .int x3), (0, .ref 0), (1, .ref l1), (2, .ref l2), (3, .int l3)]) dX6_liftOf_41 (by decide) rfl ?_
  refine ev_iload dX6_liftOf_43 0 rfl ?_
  refine ev_ldc (v := ((-1000000005) : Int32)) dX6_liftOf_45 tw_312 ?_
  refine ev_icmp_ne 55 dX6_liftOf_47 (by decide) (fun c11 => ?_) (fun c11 => ?_)
  · have h := am_e c11 h
    refine ev_aload_n dX6_liftOf_55 4 rfl trivial ?_
    refine px_getR dX6_liftOf_56 gf_RX6_34 (at6 rfl) (by decide) rfl ?_
    refine ev_iload dX6_liftOf_59 0 rfl ?_
    obtain ⟨g12, h⟩ := am_gd h
    refine px_aald4 (n := 14) dX6_liftOf_61 rfl rfl g12 ?_
    refine ev_aload_n dX6_liftOf_62 4 rfl trivial ?_
    refine px_getR dX6_liftOf_63 gf_RX6_45 (at6 rfl) (by decide) rfl ?_
    refine ev_iload dX6_liftOf_66 3 rfl ?_
    refine ev_iload dX6_liftOf_68 2 rfl ?_
    refine ev_iload dX6_liftOf_70 1 rfl ?_
    obtain ⟨g14, h⟩ := am_gd h
    obtain ⟨q13, eq13, h⟩ := am_bd h
    refine px_callvi [.ref 44, .int x3, .int x7, .int x9] (by decide) cl_4 (at4 g14) dX6_liftOf_72 ok_X4_value lk_RX6_308 in_X4_value se_X4_value (by decide) rfl (c_X4_value eq13) rfl (Nat.le_of_ble_eq_true rfl) ?_
    refine ev_loc [6, 3] rfl ?_
    exact l_X6_liftOf_75   q13.1 l2 x3 q13.2 _ h
  · have h := am_t c11 h
    refine ev_iload dX6_liftOf_50 1 rfl ?_
    refine ev_goto 75 dX6_liftOf_52 (by decide) ?_
    refine ev_loc [6, 3] rfl ?_
    exact l_X6_liftOf_75   q5.1 l2 x3 x9 _ h

theorem c_X6_liftOf {X : Nat × (Nat → Int32)} {u : am_MU} {l1 : Nat} {l2 : Nat} {l3 : Int32} {r : am_MU × Int32} (h : f_X6_liftOf u l1 l2 l3 = some r) : am_Cn X M_X6_liftOf [.ref 0, .ref l1, .ref l2, .int l3] (hp u) (hp r.1, some (.int r.2)) := by
  refine am_Cn.of ok_X6_liftOf (Nat.le_refl _) (Nat.le_refl _) (Nat.le_of_ble_eq_true rfl) ?_
  refine ev_loc [0, 1, 2, 3] rfl ?_
  exact l_X6_liftOf_0 u l1 l2 l3 r h

-- SandRipples.lift(III)I
def f_X6_lift  (u : am_MU) (l1 : Int32) (l2 : Int32) (l3 : Int32) : Option (am_MU × Int32) :=
(f_X6_isFloor u l1).bind fun q1 =>
if q1.2 = 0 then (some (q1.1, ((-1000000001) : Int32)))
else ((f_X6_isCell q1.1 l2).bind fun q3 =>
if q3.2 = 0 then (some (q3.1, ((-1000000001) : Int32)))
else (if l3 < 0 then (some (q3.1, ((-1000000001) : Int32)))
else (if l3 ≤ (1 : Int32) then (if am_in l1 6 then (
if l3 = 0 then ((f_X6_liftOf q3.1 1 (5 + 2 * l1.toNatClampNeg) l2).bind fun q13 =>
some (q13.1, q13.2))
else (if tg (5 + 2 * l1.toNatClampNeg) = 0 then (
(f_X0_way q3.1 (5 + 2 * l1.toNatClampNeg)).bind fun q9 =>
(f_X6_reachOf q9.1 1 (5 + 2 * l1.toNatClampNeg)).bind fun q11 =>
(f_X6_inRing q11.1 (l2 + (q9.2 * q11.2))).bind fun q12 =>
some (q12.1, q12.2)) else none)) else none)
else (some (q3.1, ((-1000000001) : Int32))))))

theorem l_X6_lift_0 {X : Nat × (Nat → Int32)}   (u : am_MU) (l1 : Int32) (l2 : Int32) (l3 : Int32) (r : am_MU × Int32) (h : f_X6_lift  u l1 l2 l3 = some r) : am_Ev X M_X6_lift 0 [(0, .ref 0), (1, .int l1), (2, .int l2), (3, .int l3)] [] (hp u) (hp r.1, some (.int r.2)) := by
  unfold f_X6_lift at h
  refine ev_aload_n dX6_lift_0 0 rfl trivial ?_
  refine ev_iload_n dX6_lift_1 1 rfl ?_
  obtain ⟨q1, eq1, h⟩ := am_bd h
  refine px_callvi [.int l1] (by decide) cl_6 (at6 rfl) dX6_lift_2 ok_X6_isFloor lk_RX6_94 in_X6_isFloor se_X6_isFloor (by decide) rfl (c_X6_isFloor eq1) rfl (Nat.le_of_ble_eq_true rfl) ?_
  refine ev_if_eq 24 dX6_lift_5 (by decide) (fun c2 => ?_) (fun c2 => ?_)
  · have h := am_t c2 h
    refine ev_ldc (v := ((-1000000001) : Int32)) dX6_lift_24 tw_239 ?_
    obtain rfl := Option.some.inj h
    exact ev_iret dX6_lift_26 rfl rfl
  · have h := am_e c2 h
    refine ev_iload_n dX6_lift_8 2 rfl ?_
    obtain ⟨q3, eq3, h⟩ := am_bd h
    refine px_callsi [.int l2] dX6_lift_9 ok_X6_isCell lk_RX6_146 st_X6_isCell (by decide) rfl (c_X6_isCell eq3) rfl (Nat.le_of_ble_eq_true rfl) ?_
    refine ev_if_eq 24 dX6_lift_12 (by decide) (fun c4 => ?_) (fun c4 => ?_)
    · have h := am_t c4 h
      refine ev_ldc (v := ((-1000000001) : Int32)) dX6_lift_24 tw_239 ?_
      obtain rfl := Option.some.inj h
      exact ev_iret dX6_lift_26 rfl rfl
    · have h := am_e c4 h
      refine ev_iload_n dX6_lift_15 3 rfl ?_
      refine ev_if_lt 24 dX6_lift_16 (by decide) (fun c5 => ?_) (fun c5 => ?_)
      · have h := am_t c5 h
        refine ev_ldc (v := ((-1000000001) : Int32)) dX6_lift_24 tw_239 ?_
        obtain rfl := Option.some.inj h
        exact ev_iret dX6_lift_26 rfl rfl
      · have h := am_e c5 h
        refine ev_iload_n dX6_lift_19 3 rfl ?_
        refine ev_iconst (v := (1 : Int32)) dX6_lift_20 kI_1 ?_
        refine ev_icmp_le 27 dX6_lift_21 (by decide) (fun c6 => ?_) (fun c6 => ?_)
        · have h := am_t c6 h
          refine ev_aload_n dX6_lift_27 0 rfl trivial ?_
          refine px_getR dX6_lift_28 gf_RX6_14 (at6 rfl) (by decide) rfl ?_
          refine px_getR dX6_lift_31 gf_RX6_85 (at5 rfl) (by decide) rfl ?_
          refine ev_iload_n dX6_lift_34 1 rfl ?_
          obtain ⟨g7, h⟩ := am_gd h
          refine px_aald3 (n := 6) dX6_lift_35 rfl rfl g7 ?_
          refine ev_astore (L' := [(4, .ref (5 + 2 * l1.toNatClampNeg)), (0, .ref 0), (1, .int l1), (2, .int l2), (3, .int l3)]) dX6_lift_36 trivial (by decide) rfl ?_
          refine ev_iload_n dX6_lift_38 4 rfl ?_
          refine ev_if_ne 56 dX6_lift_39 (by decide) (fun c8 => ?_) (fun c8 => ?_)
          · have h := am_e c8 h
            refine ev_iload_n dX6_lift_56 3 rfl ?_
            refine ev_aload dX6_lift_57 0 rfl trivial ?_
            obtain ⟨g10, h⟩ := am_gd h
            obtain ⟨q9, eq9, h⟩ := am_bd h
            refine px_callvi [] (by decide) cl_0 (at0 g10) dX6_lift_59 ok_X0_way lk_RX6_126 in_X0_way se_X0_way (by decide) rfl (c_X0_way eq9) rfl (Nat.le_of_ble_eq_true rfl) ?_
            refine ev_aload_n dX6_lift_62 1 rfl trivial ?_
            refine px_getR dX6_lift_63 gf_RX6_14 (at6 rfl) (by decide) rfl ?_
            refine ev_aload dX6_lift_66 0 rfl trivial ?_
            obtain ⟨q11, eq11, h⟩ := am_bd h
            refine px_callsi [.ref 1, .ref (5 + 2 * l1.toNatClampNeg)] dX6_lift_68 ok_X6_reachOf lk_RX6_122 st_X6_reachOf (by decide) rfl (c_X6_reachOf eq11) rfl (Nat.le_of_ble_eq_true rfl) ?_
            refine ev_imul dX6_lift_71 ?_
            refine ev_iadd dX6_lift_72 ?_
            obtain ⟨q12, eq12, h⟩ := am_bd h
            refine px_callsi [.int (l2 + (q9.2 * q11.2))] dX6_lift_73 ok_X6_inRing lk_RX6_162 st_X6_inRing (by decide) rfl (c_X6_inRing eq12) rfl (Nat.le_of_ble_eq_true rfl) ?_
            obtain rfl := Option.some.inj h
            exact ev_iret dX6_lift_76 rfl rfl
          · have h := am_t c8 h
            refine ev_aload_n dX6_lift_42 1 rfl trivial ?_
            refine ev_aload_n dX6_lift_43 1 rfl trivial ?_
            refine px_getR dX6_lift_44 gf_RX6_14 (at6 rfl) (by decide) rfl ?_
            refine ev_aload dX6_lift_47 0 rfl trivial ?_
            refine ev_iload_n dX6_lift_49 3 rfl ?_
            obtain ⟨q13, eq13, h⟩ := am_bd h
            refine px_callvi [.ref 1, .ref (5 + 2 * l1.toNatClampNeg), .int l2] (by decide) cl_6 (at6 rfl) dX6_lift_50 ok_X6_liftOf lk_RX6_158 in_X6_liftOf se_X6_liftOf (by decide) rfl (c_X6_liftOf eq13) rfl (Nat.le_of_ble_eq_true rfl) ?_
            refine ev_goto 76 dX6_lift_53 (by decide) ?_
            obtain rfl := Option.some.inj h
            exact ev_iret dX6_lift_76 rfl rfl
        · have h := am_e c6 h
          refine ev_ldc (v := ((-1000000001) : Int32)) dX6_lift_24 tw_239 ?_
          obtain rfl := Option.some.inj h
          exact ev_iret dX6_lift_26 rfl rfl

theorem c_X6_lift {X : Nat × (Nat → Int32)} {u : am_MU} {l1 : Int32} {l2 : Int32} {l3 : Int32} {r : am_MU × Int32} (h : f_X6_lift u l1 l2 l3 = some r) : am_Cn X M_X6_lift [.ref 0, .int l1, .int l2, .int l3] (hp u) (hp r.1, some (.int r.2)) := by
  refine am_Cn.of ok_X6_lift (Nat.le_refl _) (Nat.le_refl _) (Nat.le_of_ble_eq_true rfl) ?_
  refine ev_loc [0, 1, 2, 3] rfl ?_
  exact l_X6_lift_0 u l1 l2 l3 r h

-- SandRipples.liftAll(LSandRipples$World;LSandRipples$Floor;)I
def g_X6_liftAll_51  : Nat → am_MU → Nat → Int32 → Int32 → Int32 → Int32 → Option (am_MU × Int32)
  | 0 => fun _ _ _ _ _ _ => none
  | n + 1 => fun u l2 l3 l4 l5 l6 =>
if (24 : Int32) ≤ l6 then (if l3 ≤ 0 then (some (u, (0 : Int32)))
else (some (u, l5)))
else (if tg l2 = 0 then (
if am_in l6 24 then (
am_let (am_u2 u (l2 + 1) l6.toNatClampNeg ((u (l2 + 1) l6.toNatClampNeg) - (u 39 l6.toNatClampNeg))) fun u5 =>
(f_X6_inRing u5 (l6 + l4)).bind fun q6 =>
if am_in q6.2 24 then (
am_let (am_u2 q6.1 (l2 + 1) q6.2.toNatClampNeg ((q6.1 (l2 + 1) q6.2.toNatClampNeg) + (q6.1 39 l6.toNatClampNeg))) fun u8 =>
am_let (l5 + (u8 39 l6.toNatClampNeg)) fun x9 =>
am_let (l6 + (1 : Int32)) fun x10 =>
g_X6_liftAll_51 n u8 l2 l3 l4 x9 x10) else none) else none) else none)

def g_X6_liftAll_20  : Nat → am_MU → Nat → Nat → Int32 → Int32 → Int32 → Int32 → Option (am_MU × Int32)
  | 0 => fun _ _ _ _ _ _ _ => none
  | n + 1 => fun u l1 l2 l3 l4 l5 l6 =>
if (24 : Int32) ≤ l6 then (g_X6_liftAll_51 1700 u l2 l3 l4 l5 (0 : Int32))
else ((f_X6_liftOf u l1 l2 l6).bind fun q2 =>
if am_in l6 24 then (
am_let (am_u2 q2.1 39 l6.toNatClampNeg q2.2) fun u4 =>
am_let (l6 + (1 : Int32)) fun x5 =>
g_X6_liftAll_20 n u4 l1 l2 l3 l4 l5 x5) else none)

def f_X6_liftAll  (u : am_MU) (l1 : Nat) (l2 : Nat) : Option (am_MU × Int32) :=
(f_X6_reachOf u l1 l2).bind fun q1 =>
if tg l2 = 0 then (
(f_X0_way q1.1 l2).bind fun q2 =>
am_let (q2.2 * q1.2) fun x4 =>
g_X6_liftAll_20 1700 q2.1 l1 l2 q1.2 x4 (0 : Int32) (0 : Int32)) else none

theorem l_X6_liftAll_51 {X : Nat × (Nat → Int32)}   : ∀ (n : Nat) (u : am_MU) (l2 : Nat) (l3 : Int32) (l4 : Int32) (l5 : Int32) (l6 : Int32) (r : am_MU × Int32), g_X6_liftAll_51  n u l2 l3 l4 l5 l6 = some r → am_Ev X M_X6_liftAll 51 [(0, .ref 0), (2, .ref l2), (3, .int l3), (4, .int l4), (5, .int l5), (6, .int l6)] [] (hp u) (hp r.1, some (.int r.2)) := by
  intro n
  induction n with
  | zero => intro u l2 l3 l4 l5 l6 r h; cases h
  | succ n ih =>
    intro u l2 l3 l4 l5 l6 r h
    rw [g_X6_liftAll_51] at h
    refine ev_iload dX6_liftAll_51 5 rfl ?_
    refine ev_bipush (v := (24 : Int32)) dX6_liftAll_53 kB_24 ?_
    refine ev_icmp_ge 116 dX6_liftAll_55 (by decide) (fun c1 => ?_) (fun c1 => ?_)
    · have h := am_t c1 h
      refine ev_iload_n dX6_liftAll_116 2 rfl ?_
      refine ev_if_le 125 dX6_liftAll_117 (by decide) (fun c2 => ?_) (fun c2 => ?_)
      · have h := am_t c2 h
        refine ev_iconst (v := (0 : Int32)) dX6_liftAll_125 kI_0 ?_
        obtain rfl := Option.some.inj h
        exact ev_iret dX6_liftAll_126 rfl rfl
      · have h := am_e c2 h
        refine ev_iload dX6_liftAll_120 4 rfl ?_
        refine ev_goto 126 dX6_liftAll_122 (by decide) ?_
        obtain rfl := Option.some.inj h
        exact ev_iret dX6_liftAll_126 rfl rfl
    · have h := am_e c1 h
      refine ev_aload_n dX6_liftAll_58 1 rfl trivial ?_
      obtain ⟨g3, h⟩ := am_gd h
      refine px_getR dX6_liftAll_59 gf_RX6_149 (at0 g3) (by decide) rfl ?_
      refine ev_iload dX6_liftAll_62 5 rfl ?_
      refine ev_dup2 dX6_liftAll_64 rfl rfl ?_
      obtain ⟨g4, h⟩ := am_gd h
      refine px_iald (n := 24) l6.toNatClampNeg dX6_liftAll_65 (il0 g3) g4 rfl ?_
      refine ev_aload_n dX6_liftAll_66 0 rfl trivial ?_
      refine px_getR dX6_liftAll_67 gf_RX6_28 (at6 rfl) (by decide) rfl ?_
      refine ev_iload dX6_liftAll_70 5 rfl ?_
      refine px_iald (n := 24) l6.toNatClampNeg dX6_liftAll_72 rfl g4 rfl ?_
      refine ev_isub dX6_liftAll_73 ?_
      obtain ⟨u5, eu5, h⟩ := am_lt h
      refine px_iast (n := 24) l6.toNatClampNeg dX6_liftAll_74 (il0 g3) g4 rfl eu5 ?_
      refine ev_aload_n dX6_liftAll_75 1 rfl trivial ?_
      refine px_getR dX6_liftAll_76 gf_RX6_149 (at0 g3) (by decide) rfl ?_
      refine ev_iload dX6_liftAll_79 5 rfl ?_
      refine ev_iload dX6_liftAll_81 3 rfl ?_
      refine ev_iadd dX6_liftAll_83 ?_
      obtain ⟨q6, eq6, h⟩ := am_bd h
      refine px_callsi [.int (l6 + l4)] dX6_liftAll_84 ok_X6_inRing lk_RX6_162 st_X6_inRing (by decide) rfl (c_X6_inRing eq6) rfl (Nat.le_of_ble_eq_true rfl) ?_
      refine ev_dup2 dX6_liftAll_87 rfl rfl ?_
      obtain ⟨g7, h⟩ := am_gd h
      refine px_iald (n := 24) q6.2.toNatClampNeg dX6_liftAll_88 (il0 g3) g7 rfl ?_
      refine ev_aload_n dX6_liftAll_89 0 rfl trivial ?_
      refine px_getR dX6_liftAll_90 gf_RX6_28 (at6 rfl) (by decide) rfl ?_
      refine ev_iload dX6_liftAll_93 5 rfl ?_
      refine px_iald (n := 24) l6.toNatClampNeg dX6_liftAll_95 rfl g4 rfl ?_
      refine ev_iadd dX6_liftAll_96 ?_
      obtain ⟨u8, eu8, h⟩ := am_lt h
      refine px_iast (n := 24) q6.2.toNatClampNeg dX6_liftAll_97 (il0 g3) g7 rfl eu8 ?_
      refine ev_iload dX6_liftAll_98 4 rfl ?_
      refine ev_aload_n dX6_liftAll_100 0 rfl trivial ?_
      refine px_getR dX6_liftAll_101 gf_RX6_28 (at6 rfl) (by decide) rfl ?_
      refine ev_iload dX6_liftAll_104 5 rfl ?_
      refine px_iald (n := 24) l6.toNatClampNeg dX6_liftAll_106 rfl g4 rfl ?_
      refine ev_iadd dX6_liftAll_107 ?_
      obtain ⟨x9, ex9, h⟩ := am_lt h
      refine px_top ex9 ?_
      refine ev_istore (L' := [(5, .int x9), (0, .ref 0), (2, .ref l2), (3, .int l3), (4, .int l4), (6, .int l6)]) dX6_liftAll_108 (by decide) rfl ?_
      obtain ⟨x10, ex10, h⟩ := am_lt h
      refine ev_iinc (v := x10) (L' := [(6, .int x10), (5, .int x9), (0, .ref 0), (2, .ref l2), (3, .int l3), (4, .int l4)]) dX6_liftAll_110 5 rfl (by rw [kI_1, ex10]) (by decide) rfl ?_
      refine ev_goto 51 dX6_liftAll_113 (by decide) ?_
      refine ev_loc [2, 3, 4, 5, 1, 0] rfl ?_
      exact ih u8 l2 l3 l4 x9 x10 _ h

theorem l_X6_liftAll_20 {X : Nat × (Nat → Int32)}   : ∀ (n : Nat) (u : am_MU) (l1 : Nat) (l2 : Nat) (l3 : Int32) (l4 : Int32) (l5 : Int32) (l6 : Int32) (r : am_MU × Int32), g_X6_liftAll_20  n u l1 l2 l3 l4 l5 l6 = some r → am_Ev X M_X6_liftAll 20 [(0, .ref 0), (1, .ref l1), (2, .ref l2), (3, .int l3), (4, .int l4), (5, .int l5), (6, .int l6)] [] (hp u) (hp r.1, some (.int r.2)) := by
  intro n
  induction n with
  | zero => intro u l1 l2 l3 l4 l5 l6 r h; cases h
  | succ n ih =>
    intro u l1 l2 l3 l4 l5 l6 r h
    rw [g_X6_liftAll_20] at h
    refine ev_iload dX6_liftAll_20 6 rfl ?_
    refine ev_bipush (v := (24 : Int32)) dX6_liftAll_22 kB_24 ?_
    refine ev_icmp_ge 48 dX6_liftAll_24 (by decide) (fun c1 => ?_) (fun c1 => ?_)
    · have h := am_t c1 h
      refine ev_iconst (v := (0 : Int32)) dX6_liftAll_48 kI_0 ?_
      refine ev_istore (L' := [(6, .int (0 : Int32)), (0, .ref 0), (1, .ref l1), (2, .ref l2), (3, .int l3), (4, .int l4), (5, .int l5)]) dX6_liftAll_49 (by decide) rfl ?_
      refine ev_loc [1, 3, 4, 5, 6, 0] rfl ?_
      exact l_X6_liftAll_51   1700 u l2 l3 l4 l5 (0 : Int32) _ h
    · have h := am_e c1 h
      refine ev_aload_n dX6_liftAll_27 0 rfl trivial ?_
      refine px_getR dX6_liftAll_28 gf_RX6_28 (at6 rfl) (by decide) rfl ?_
      refine ev_iload dX6_liftAll_31 6 rfl ?_
      refine ev_aload_n dX6_liftAll_33 0 rfl trivial ?_
      refine ev_aload_n dX6_liftAll_34 1 rfl trivial ?_
      refine ev_aload_n dX6_liftAll_35 2 rfl trivial ?_
      refine ev_iload dX6_liftAll_36 6 rfl ?_
      obtain ⟨q2, eq2, h⟩ := am_bd h
      refine px_callvi [.ref l1, .ref l2, .int l6] (by decide) cl_6 (at6 rfl) dX6_liftAll_38 ok_X6_liftOf lk_RX6_158 in_X6_liftOf se_X6_liftOf (by decide) rfl (c_X6_liftOf eq2) rfl (Nat.le_of_ble_eq_true rfl) ?_
      obtain ⟨g3, h⟩ := am_gd h
      obtain ⟨u4, eu4, h⟩ := am_lt h
      refine px_iast (n := 24) l6.toNatClampNeg dX6_liftAll_41 rfl g3 rfl eu4 ?_
      obtain ⟨x5, ex5, h⟩ := am_lt h
      refine ev_iinc (v := x5) (L' := [(6, .int x5), (0, .ref 0), (1, .ref l1), (2, .ref l2), (3, .int l3), (4, .int l4), (5, .int l5)]) dX6_liftAll_42 6 rfl (by rw [kI_1, ex5]) (by decide) rfl ?_
      refine ev_goto 20 dX6_liftAll_45 (by decide) ?_
      refine ev_loc [1, 2, 3, 4, 5, 6, 0] rfl ?_
      exact ih u4 l1 l2 l3 l4 l5 x5 _ h

theorem l_X6_liftAll_0 {X : Nat × (Nat → Int32)}   (u : am_MU) (l1 : Nat) (l2 : Nat) (r : am_MU × Int32) (h : f_X6_liftAll  u l1 l2 = some r) : am_Ev X M_X6_liftAll 0 [(0, .ref 0), (1, .ref l1), (2, .ref l2)] [] (hp u) (hp r.1, some (.int r.2)) := by
  unfold f_X6_liftAll at h
  refine ev_aload_n dX6_liftAll_0 1 rfl trivial ?_
  refine ev_aload_n dX6_liftAll_1 2 rfl trivial ?_
  obtain ⟨q1, eq1, h⟩ := am_bd h
  refine px_callsi [.ref l1, .ref l2] dX6_liftAll_2 ok_X6_reachOf lk_RX6_122 st_X6_reachOf (by decide) rfl (c_X6_reachOf eq1) rfl (Nat.le_of_ble_eq_true rfl) ?_
  refine ev_istore_n (L' := [(3, .int q1.2), (0, .ref 0), (1, .ref l1), (2, .ref l2)]) dX6_liftAll_5 (by decide) rfl ?_
  refine ev_aload_n dX6_liftAll_6 3 rfl trivial ?_
  obtain ⟨g3, h⟩ := am_gd h
  obtain ⟨q2, eq2, h⟩ := am_bd h
  refine px_callvi [] (by decide) cl_0 (at0 g3) dX6_liftAll_7 ok_X0_way lk_RX6_126 in_X0_way se_X0_way (by decide) rfl (c_X0_way eq2) rfl (Nat.le_of_ble_eq_true rfl) ?_
  refine ev_iload_n dX6_liftAll_10 0 rfl ?_
  refine ev_imul dX6_liftAll_11 ?_
  obtain ⟨x4, ex4, h⟩ := am_lt h
  refine px_top ex4 ?_
  refine ev_istore (L' := [(4, .int x4), (3, .int q1.2), (0, .ref 0), (1, .ref l1), (2, .ref l2)]) dX6_liftAll_12 (by decide) rfl ?_
  refine ev_iconst (v := (0 : Int32)) dX6_liftAll_14 kI_0 ?_
  refine ev_istore (L' := [(5, .int (0 : Int32)), (4, .int x4), (3, .int q1.2), (0, .ref 0), (1, .ref l1), (2, .ref l2)]) dX6_liftAll_15 (by decide) rfl ?_
  refine ev_iconst (v := (0 : Int32)) dX6_liftAll_17 kI_0 ?_
  refine ev_istore (L' := [(6, .int (0 : Int32)), (5, .int (0 : Int32)), (4, .int x4), (3, .int q1.2), (0, .ref 0), (1, .ref l1), (2, .ref l2)]) dX6_liftAll_18 (by decide) rfl ?_
  refine ev_loc [4, 5, 6, 3, 2, 1, 0] rfl ?_
  exact l_X6_liftAll_20   1700 q2.1 l1 l2 q1.2 x4 (0 : Int32) (0 : Int32) _ h

theorem c_X6_liftAll {X : Nat × (Nat → Int32)} {u : am_MU} {l1 : Nat} {l2 : Nat} {r : am_MU × Int32} (h : f_X6_liftAll u l1 l2 = some r) : am_Cn X M_X6_liftAll [.ref 0, .ref l1, .ref l2] (hp u) (hp r.1, some (.int r.2)) := by
  refine am_Cn.of ok_X6_liftAll (Nat.le_refl _) (Nat.le_refl _) (Nat.le_of_ble_eq_true rfl) ?_
  refine ev_loc [0, 1, 2] rfl ?_
  exact l_X6_liftAll_0 u l1 l2 r h

-- SandRipples.slideOf(LSandRipples$World;I)I
def f_X6_slideOf  (u : am_MU) (l1 : Nat) (l2 : Int32) : Option (am_MU × Int32) :=
if tg l1 = 5 then (
am_let (u (l1 + 1) 3) fun x2 =>
am_let (u (l1 + 2) 1) fun x3 =>
if x3 = ((-1000000005) : Int32) then (if l2 ≤ x2 then (some (u, (0 : Int32)))
else (some (u, (1 : Int32))))
else (if am_in x3 14 then (
if tg (49 + 2 * x3.toNatClampNeg) = 4 then (
(f_X4_value u (49 + 2 * x3.toNatClampNeg) 44 l2 x2 (0 : Int32)).bind fun q6 =>
(f_X6_within q6.1 q6.2 (0 : Int32) (l2 / (2 : Int32))).bind fun q8 =>
some (q8.1, q8.2)) else none) else none)) else none

theorem l_X6_slideOf_0 {X : Nat × (Nat → Int32)}   (u : am_MU) (l1 : Nat) (l2 : Int32) (r : am_MU × Int32) (h : f_X6_slideOf  u l1 l2 = some r) : am_Ev X M_X6_slideOf 0 [(0, .ref 0), (1, .ref l1), (2, .int l2)] [] (hp u) (hp r.1, some (.int r.2)) := by
  unfold f_X6_slideOf at h
  refine ev_aload_n dX6_slideOf_0 1 rfl trivial ?_
  obtain ⟨g1, h⟩ := am_gd h
  refine px_getR dX6_slideOf_1 gf_RX6_143 (at5 g1) (by decide) rfl ?_
  refine ev_iconst (v := (3 : Int32)) dX6_slideOf_4 kI_3 ?_
  refine px_iald (n := 4) 3 dX6_slideOf_5 (il5s g1) (by decide) (by decide) ?_
  obtain ⟨x2, ex2, h⟩ := am_lt h
  refine px_top ex2 ?_
  refine ev_istore_n (L' := [(3, .int x2), (0, .ref 0), (1, .ref l1), (2, .int l2)]) dX6_slideOf_6 (by decide) rfl ?_
  refine ev_aload_n dX6_slideOf_7 2 rfl trivial ?_
  refine px_getR dX6_slideOf_8 gf_RX6_228 (at5 g1) (by decide) rfl ?_
  refine ev_iconst (v := (1 : Int32)) dX6_slideOf_11 kI_1 ?_
  refine px_iald (n := 3) 1 dX6_slideOf_12 (il5l g1) (by decide) (by decide) ?_
  obtain ⟨x3, ex3, h⟩ := am_lt h
  refine px_top ex3 ?_
  refine ev_istore (L' := [(4, .int x3), (3, .int x2), (0, .ref 0), (1, .ref l1), (2, .int l2)]) dX6_slideOf_13 (by decide) rfl ?_
  refine ev_iload dX6_slideOf_15 0 rfl ?_
  refine ev_ldc (v := ((-1000000005) : Int32)) dX6_slideOf_17 tw_312 ?_
  refine ev_icmp_ne 33 dX6_slideOf_19 (by decide) (fun c4 => ?_) (fun c4 => ?_)
  · have h := am_e c4 h
    refine ev_aload_n dX6_slideOf_33 2 rfl trivial ?_
    refine px_getR dX6_slideOf_34 gf_RX6_34 (at6 rfl) (by decide) rfl ?_
    refine ev_iload dX6_slideOf_37 0 rfl ?_
    obtain ⟨g5, h⟩ := am_gd h
    refine px_aald4 (n := 14) dX6_slideOf_39 rfl rfl g5 ?_
    refine ev_aload_n dX6_slideOf_40 2 rfl trivial ?_
    refine px_getR dX6_slideOf_41 gf_RX6_45 (at6 rfl) (by decide) rfl ?_
    refine ev_iload_n dX6_slideOf_44 4 rfl ?_
    refine ev_iload_n dX6_slideOf_45 1 rfl ?_
    refine ev_iconst (v := (0 : Int32)) dX6_slideOf_46 kI_0 ?_
    obtain ⟨g7, h⟩ := am_gd h
    obtain ⟨q6, eq6, h⟩ := am_bd h
    refine px_callvi [.ref 44, .int l2, .int x2, .int (0 : Int32)] (by decide) cl_4 (at4 g7) dX6_slideOf_47 ok_X4_value lk_RX6_308 in_X4_value se_X4_value (by decide) rfl (c_X4_value eq6) rfl (Nat.le_of_ble_eq_true rfl) ?_
    refine ev_iconst (v := (0 : Int32)) dX6_slideOf_50 kI_0 ?_
    refine ev_iload_n dX6_slideOf_51 4 rfl ?_
    refine ev_iconst (v := (2 : Int32)) dX6_slideOf_52 kI_2 ?_
    refine ev_idiv dX6_slideOf_53 (by decide) ?_
    obtain ⟨q8, eq8, h⟩ := am_bd h
    refine px_callsi [.int q6.2, .int (0 : Int32), .int (l2 / (2 : Int32))] dX6_slideOf_54 ok_X6_within lk_RX6_253 st_X6_within (by decide) rfl (c_X6_within eq8) rfl (Nat.le_of_ble_eq_true rfl) ?_
    obtain rfl := Option.some.inj h
    exact ev_iret dX6_slideOf_57 rfl rfl
  · have h := am_t c4 h
    refine ev_iload_n dX6_slideOf_22 4 rfl ?_
    refine ev_iload_n dX6_slideOf_23 1 rfl ?_
    refine ev_icmp_le 31 dX6_slideOf_24 (by decide) (fun c9 => ?_) (fun c9 => ?_)
    · have h := am_t c9 h
      refine ev_iconst (v := (0 : Int32)) dX6_slideOf_31 kI_0 ?_
      obtain rfl := Option.some.inj h
      exact ev_iret dX6_slideOf_32 rfl rfl
    · have h := am_e c9 h
      refine ev_iconst (v := (1 : Int32)) dX6_slideOf_27 kI_1 ?_
      refine ev_goto 32 dX6_slideOf_28 (by decide) ?_
      obtain rfl := Option.some.inj h
      exact ev_iret dX6_slideOf_32 rfl rfl

theorem c_X6_slideOf {X : Nat × (Nat → Int32)} {u : am_MU} {l1 : Nat} {l2 : Int32} {r : am_MU × Int32} (h : f_X6_slideOf u l1 l2 = some r) : am_Cn X M_X6_slideOf [.ref 0, .ref l1, .int l2] (hp u) (hp r.1, some (.int r.2)) := by
  refine am_Cn.of ok_X6_slideOf (Nat.le_refl _) (Nat.le_refl _) (Nat.le_of_ble_eq_true rfl) ?_
  refine ev_loc [0, 1, 2] rfl ?_
  exact l_X6_slideOf_0 u l1 l2 r h

-- SandRipples.slideAll(LSandRipples$World;LSandRipples$Floor;)I
def g_X6_slideAll_103 (K5 : am_MU → Nat → Nat → Int32 → Int32 → Option (am_MU × Int32)) (u : am_MU) (l1 : Nat) (l2 : Nat) (l3 : Int32) (l4 : Int32) : Option (am_MU × Int32) :=
am_let (l4 + (1 : Int32)) fun x1 =>
K5 u l1 l2 l3 x1

def g_X6_slideAll_43 (K5 : am_MU → Nat → Nat → Int32 → Int32 → Option (am_MU × Int32)) (u : am_MU) (l1 : Nat) (l2 : Nat) (l3 : Int32) (l4 : Int32) (l5 : Int32) : Option (am_MU × Int32) :=
if tg l2 = 0 then (
if am_in l4 24 then (
if am_in l5 24 then (
am_let ((u (l2 + 1) l4.toNatClampNeg) - (u (l2 + 1) l5.toNatClampNeg)) fun x4 =>
if x4 ≤ 0 then (g_X6_slideAll_103 K5 u l1 l2 l3 l4)
else ((f_X6_slideOf u l1 x4).bind fun q6 =>
am_let (am_u2 q6.1 (l2 + 1) l4.toNatClampNeg ((q6.1 (l2 + 1) l4.toNatClampNeg) - q6.2)) fun u7 =>
am_let (am_u2 u7 (l2 + 1) l5.toNatClampNeg ((u7 (l2 + 1) l5.toNatClampNeg) + q6.2)) fun u8 =>
am_let (l3 + q6.2) fun x9 =>
g_X6_slideAll_103 K5 u8 l1 l2 x9 l4)) else none) else none) else none

def g_X6_slideAll_5  : Nat → am_MU → Nat → Nat → Int32 → Int32 → Option (am_MU × Int32)
  | 0 => fun _ _ _ _ _ => none
  | n + 1 => fun u l1 l2 l3 l4 =>
if (24 : Int32) ≤ l4 then (some (u, l3))
else ((f_X6_nextOf u l4).bind fun q2 =>
if tg l2 = 0 then (
if am_in l4 24 then (
if am_in q2.2 24 then (
if (q2.1 (l2 + 1) q2.2.toNatClampNeg) < (q2.1 (l2 + 1) l4.toNatClampNeg) then (g_X6_slideAll_43 (g_X6_slideAll_5 n) q2.1 l1 l2 l3 l4 q2.2)
else ((f_X6_aheadOf q2.1 l4).bind fun q7 =>
g_X6_slideAll_43 (g_X6_slideAll_5 n) q7.1 l1 l2 l3 l4 q7.2)) else none) else none) else none)

def f_X6_slideAll  (u : am_MU) (l1 : Nat) (l2 : Nat) : Option (am_MU × Int32) :=
g_X6_slideAll_5 1700 u l1 l2 (0 : Int32) (0 : Int32)

theorem l_X6_slideAll_103 {X : Nat × (Nat → Int32)} (K5 : am_MU → Nat → Nat → Int32 → Int32 → Option (am_MU × Int32)) (hK5 : ∀ (u : am_MU) (l1 : Nat) (l2 : Nat) (l3 : Int32) (l4 : Int32) (r : am_MU × Int32), K5 u l1 l2 l3 l4 = some r → am_Ev X M_X6_slideAll 5 [(0, .ref 0), (1, .ref l1), (2, .ref l2), (3, .int l3), (4, .int l4)] [] (hp u) (hp r.1, some (.int r.2))) (u : am_MU) (l1 : Nat) (l2 : Nat) (l3 : Int32) (l4 : Int32) (r : am_MU × Int32) (h : g_X6_slideAll_103 K5 u l1 l2 l3 l4 = some r) : am_Ev X M_X6_slideAll 103 [(0, .ref 0), (1, .ref l1), (2, .ref l2), (3, .int l3), (4, .int l4)] [] (hp u) (hp r.1, some (.int r.2)) := by
  unfold g_X6_slideAll_103 at h
  obtain ⟨x1, ex1, h⟩ := am_lt h
  refine ev_iinc (v := x1) (L' := [(4, .int x1), (0, .ref 0), (1, .ref l1), (2, .ref l2), (3, .int l3)]) dX6_slideAll_103 4 rfl (by rw [kI_1, ex1]) (by decide) rfl ?_
  refine ev_goto 5 dX6_slideAll_106 (by decide) ?_
  refine ev_loc [1, 2, 3, 4, 0] rfl ?_
  exact hK5 u l1 l2 l3 x1 _ h

theorem l_X6_slideAll_43 {X : Nat × (Nat → Int32)} (K5 : am_MU → Nat → Nat → Int32 → Int32 → Option (am_MU × Int32)) (hK5 : ∀ (u : am_MU) (l1 : Nat) (l2 : Nat) (l3 : Int32) (l4 : Int32) (r : am_MU × Int32), K5 u l1 l2 l3 l4 = some r → am_Ev X M_X6_slideAll 5 [(0, .ref 0), (1, .ref l1), (2, .ref l2), (3, .int l3), (4, .int l4)] [] (hp u) (hp r.1, some (.int r.2))) (u : am_MU) (l1 : Nat) (l2 : Nat) (l3 : Int32) (l4 : Int32) (l5 : Int32) (r : am_MU × Int32) (h : g_X6_slideAll_43 K5 u l1 l2 l3 l4 l5 = some r) : am_Ev X M_X6_slideAll 43 [(0, .ref 0), (1, .ref l1), (2, .ref l2), (3, .int l3), (4, .int l4), (5, .int l5)] [] (hp u) (hp r.1, some (.int r.2)) := by
  unfold g_X6_slideAll_43 at h
  refine ev_aload_n dX6_slideAll_43 2 rfl trivial ?_
  obtain ⟨g1, h⟩ := am_gd h
  refine px_getR dX6_slideAll_44 gf_RX6_149 (at0 g1) (by decide) rfl ?_
  refine ev_iload dX6_slideAll_47 4 rfl ?_
  obtain ⟨g2, h⟩ := am_gd h
  refine px_iald (n := 24) l4.toNatClampNeg dX6_slideAll_49 (il0 g1) g2 rfl ?_
  refine ev_aload_n dX6_slideAll_50 2 rfl trivial ?_
  refine px_getR dX6_slideAll_51 gf_RX6_149 (at0 g1) (by decide) rfl ?_
  refine ev_iload dX6_slideAll_54 5 rfl ?_
  obtain ⟨g3, h⟩ := am_gd h
  refine px_iald (n := 24) l5.toNatClampNeg dX6_slideAll_56 (il0 g1) g3 rfl ?_
  refine ev_isub dX6_slideAll_57 ?_
  obtain ⟨x4, ex4, h⟩ := am_lt h
  refine px_top ex4 ?_
  refine ev_istore (L' := [(6, .int x4), (0, .ref 0), (1, .ref l1), (2, .ref l2), (3, .int l3), (4, .int l4), (5, .int l5)]) dX6_slideAll_58 (by decide) rfl ?_
  refine ev_iload dX6_slideAll_60 0 rfl ?_
  refine ev_if_le 103 dX6_slideAll_62 (by decide) (fun c5 => ?_) (fun c5 => ?_)
  · have h := am_t c5 h
    refine ev_loc [1, 2, 3, 4, 5] rfl ?_
    exact l_X6_slideAll_103 K5 hK5 u l1 l2 l3 l4 _ h
  · have h := am_e c5 h
    refine ev_aload_n dX6_slideAll_65 1 rfl trivial ?_
    refine ev_aload_n dX6_slideAll_66 2 rfl trivial ?_
    refine ev_iload dX6_slideAll_67 0 rfl ?_
    obtain ⟨q6, eq6, h⟩ := am_bd h
    refine px_callvi [.ref l1, .int x4] (by decide) cl_6 (at6 rfl) dX6_slideAll_69 ok_X6_slideOf lk_RX6_318 in_X6_slideOf se_X6_slideOf (by decide) rfl (c_X6_slideOf eq6) rfl (Nat.le_of_ble_eq_true rfl) ?_
    refine ev_istore (L' := [(7, .int q6.2), (6, .int x4), (0, .ref 0), (1, .ref l1), (2, .ref l2), (3, .int l3), (4, .int l4), (5, .int l5)]) dX6_slideAll_72 (by decide) rfl ?_
    refine ev_aload_n dX6_slideAll_74 4 rfl trivial ?_
    refine px_getR dX6_slideAll_75 gf_RX6_149 (at0 g1) (by decide) rfl ?_
    refine ev_iload dX6_slideAll_78 6 rfl ?_
    refine ev_dup2 dX6_slideAll_80 rfl rfl ?_
    refine px_iald (n := 24) l4.toNatClampNeg dX6_slideAll_81 (il0 g1) g2 rfl ?_
    refine ev_iload dX6_slideAll_82 0 rfl ?_
    refine ev_isub dX6_slideAll_84 ?_
    obtain ⟨u7, eu7, h⟩ := am_lt h
    refine px_iast (n := 24) l4.toNatClampNeg dX6_slideAll_85 (il0 g1) g2 rfl eu7 ?_
    refine ev_aload_n dX6_slideAll_86 4 rfl trivial ?_
    refine px_getR dX6_slideAll_87 gf_RX6_149 (at0 g1) (by decide) rfl ?_
    refine ev_iload dX6_slideAll_90 7 rfl ?_
    refine ev_dup2 dX6_slideAll_92 rfl rfl ?_
    refine px_iald (n := 24) l5.toNatClampNeg dX6_slideAll_93 (il0 g1) g3 rfl ?_
    refine ev_iload dX6_slideAll_94 0 rfl ?_
    refine ev_iadd dX6_slideAll_96 ?_
    obtain ⟨u8, eu8, h⟩ := am_lt h
    refine px_iast (n := 24) l5.toNatClampNeg dX6_slideAll_97 (il0 g1) g3 rfl eu8 ?_
    refine ev_iload_n dX6_slideAll_98 5 rfl ?_
    refine ev_iload dX6_slideAll_99 0 rfl ?_
    refine ev_iadd dX6_slideAll_101 ?_
    obtain ⟨x9, ex9, h⟩ := am_lt h
    refine px_top ex9 ?_
    refine ev_istore_n (L' := [(3, .int x9), (7, .int q6.2), (6, .int x4), (0, .ref 0), (1, .ref l1), (2, .ref l2), (4, .int l4), (5, .int l5)]) dX6_slideAll_102 (by decide) rfl ?_
    refine ev_loc [3, 4, 5, 0, 6] rfl ?_
    exact l_X6_slideAll_103 K5 hK5 u8 l1 l2 x9 l4 _ h

theorem l_X6_slideAll_5 {X : Nat × (Nat → Int32)}   : ∀ (n : Nat) (u : am_MU) (l1 : Nat) (l2 : Nat) (l3 : Int32) (l4 : Int32) (r : am_MU × Int32), g_X6_slideAll_5  n u l1 l2 l3 l4 = some r → am_Ev X M_X6_slideAll 5 [(0, .ref 0), (1, .ref l1), (2, .ref l2), (3, .int l3), (4, .int l4)] [] (hp u) (hp r.1, some (.int r.2)) := by
  intro n
  induction n with
  | zero => intro u l1 l2 l3 l4 r h; cases h
  | succ n ih =>
    intro u l1 l2 l3 l4 r h
    rw [g_X6_slideAll_5] at h
    refine ev_iload dX6_slideAll_5 4 rfl ?_
    refine ev_bipush (v := (24 : Int32)) dX6_slideAll_7 kB_24 ?_
    refine ev_icmp_ge 109 dX6_slideAll_9 (by decide) (fun c1 => ?_) (fun c1 => ?_)
    · have h := am_t c1 h
      refine ev_iload_n dX6_slideAll_109 3 rfl ?_
      obtain rfl := Option.some.inj h
      exact ev_iret dX6_slideAll_110 rfl rfl
    · have h := am_e c1 h
      refine ev_iload dX6_slideAll_12 4 rfl ?_
      obtain ⟨q2, eq2, h⟩ := am_bd h
      refine px_callsi [.int l4] dX6_slideAll_14 ok_X6_nextOf lk_RX6_173 st_X6_nextOf (by decide) rfl (c_X6_nextOf eq2) rfl (Nat.le_of_ble_eq_true rfl) ?_
      refine ev_istore (L' := [(5, .int q2.2), (0, .ref 0), (1, .ref l1), (2, .ref l2), (3, .int l3), (4, .int l4)]) dX6_slideAll_17 (by decide) rfl ?_
      refine ev_aload_n dX6_slideAll_19 3 rfl trivial ?_
      obtain ⟨g3, h⟩ := am_gd h
      refine px_getR dX6_slideAll_20 gf_RX6_149 (at0 g3) (by decide) rfl ?_
      refine ev_iload dX6_slideAll_23 5 rfl ?_
      obtain ⟨g4, h⟩ := am_gd h
      refine px_iald (n := 24) l4.toNatClampNeg dX6_slideAll_25 (il0 g3) g4 rfl ?_
      refine ev_aload_n dX6_slideAll_26 3 rfl trivial ?_
      refine px_getR dX6_slideAll_27 gf_RX6_149 (at0 g3) (by decide) rfl ?_
      refine ev_iload dX6_slideAll_30 0 rfl ?_
      obtain ⟨g5, h⟩ := am_gd h
      refine px_iald (n := 24) q2.2.toNatClampNeg dX6_slideAll_32 (il0 g3) g5 rfl ?_
      refine ev_icmp_gt 43 dX6_slideAll_33 (by decide) (fun c6 => ?_) (fun c6 => ?_)
      · have h := am_t c6 h
        refine ev_loc [1, 2, 3, 4, 5, 0] rfl ?_
        exact l_X6_slideAll_43 (g_X6_slideAll_5 n) (fun u l1 l2 l3 l4 r h => ih u l1 l2 l3 l4 r h) q2.1 l1 l2 l3 l4 q2.2 _ h
      · have h := am_e c6 h
        refine ev_iload dX6_slideAll_36 5 rfl ?_
        obtain ⟨q7, eq7, h⟩ := am_bd h
        refine px_callsi [.int l4] dX6_slideAll_38 ok_X6_aheadOf lk_RX6_193 st_X6_aheadOf (by decide) rfl (c_X6_aheadOf eq7) rfl (Nat.le_of_ble_eq_true rfl) ?_
        refine ev_istore (L' := [(5, .int q7.2), (0, .ref 0), (1, .ref l1), (2, .ref l2), (3, .int l3), (4, .int l4)]) dX6_slideAll_41 (by decide) rfl ?_
        refine ev_loc [1, 2, 3, 4, 5, 0] rfl ?_
        exact l_X6_slideAll_43 (g_X6_slideAll_5 n) (fun u l1 l2 l3 l4 r h => ih u l1 l2 l3 l4 r h) q7.1 l1 l2 l3 l4 q7.2 _ h

theorem l_X6_slideAll_0 {X : Nat × (Nat → Int32)}   (u : am_MU) (l1 : Nat) (l2 : Nat) (r : am_MU × Int32) (h : f_X6_slideAll  u l1 l2 = some r) : am_Ev X M_X6_slideAll 0 [(0, .ref 0), (1, .ref l1), (2, .ref l2)] [] (hp u) (hp r.1, some (.int r.2)) := by
  unfold f_X6_slideAll at h
  refine ev_iconst (v := (0 : Int32)) dX6_slideAll_0 kI_0 ?_
  refine ev_istore_n (L' := [(3, .int (0 : Int32)), (0, .ref 0), (1, .ref l1), (2, .ref l2)]) dX6_slideAll_1 (by decide) rfl ?_
  refine ev_iconst (v := (0 : Int32)) dX6_slideAll_2 kI_0 ?_
  refine ev_istore (L' := [(4, .int (0 : Int32)), (3, .int (0 : Int32)), (0, .ref 0), (1, .ref l1), (2, .ref l2)]) dX6_slideAll_3 (by decide) rfl ?_
  refine ev_loc [2, 3, 4, 1, 0] rfl ?_
  exact l_X6_slideAll_5   1700 u l1 l2 (0 : Int32) (0 : Int32) _ h

theorem c_X6_slideAll {X : Nat × (Nat → Int32)} {u : am_MU} {l1 : Nat} {l2 : Nat} {r : am_MU × Int32} (h : f_X6_slideAll u l1 l2 = some r) : am_Cn X M_X6_slideAll [.ref 0, .ref l1, .ref l2] (hp u) (hp r.1, some (.int r.2)) := by
  refine am_Cn.of ok_X6_slideAll (Nat.le_refl _) (Nat.le_refl _) (Nat.le_of_ble_eq_true rfl) ?_
  refine ev_loc [0, 1, 2] rfl ?_
  exact l_X6_slideAll_0 u l1 l2 r h

-- SandRipples.oneTick(LSandRipples$World;LSandRipples$Floor;)I
def f_X6_oneTick  (u : am_MU) (l1 : Nat) (l2 : Nat) : Option (am_MU × Int32) :=
(f_X6_liftAll u l1 l2).bind fun q1 =>
(f_X6_slideAll q1.1 l1 l2).bind fun q2 =>
am_let (q1.2 + q2.2) fun x3 =>
if tg l2 = 0 then (
am_let (am_u2 q2.1 l2 1 ((q2.1 l2 1) + (1 : Int32))) fun u5 =>
some (u5, x3)) else none

theorem l_X6_oneTick_0 {X : Nat × (Nat → Int32)}   (u : am_MU) (l1 : Nat) (l2 : Nat) (r : am_MU × Int32) (h : f_X6_oneTick  u l1 l2 = some r) : am_Ev X M_X6_oneTick 0 [(0, .ref 0), (1, .ref l1), (2, .ref l2)] [] (hp u) (hp r.1, some (.int r.2)) := by
  unfold f_X6_oneTick at h
  refine ev_aload_n dX6_oneTick_0 0 rfl trivial ?_
  refine ev_aload_n dX6_oneTick_1 1 rfl trivial ?_
  refine ev_aload_n dX6_oneTick_2 2 rfl trivial ?_
  obtain ⟨q1, eq1, h⟩ := am_bd h
  refine px_callvi [.ref l1, .ref l2] (by decide) cl_6 (at6 rfl) dX6_oneTick_3 ok_X6_liftAll lk_RX6_312 in_X6_liftAll se_X6_liftAll (by decide) rfl (c_X6_liftAll eq1) rfl (Nat.le_of_ble_eq_true rfl) ?_
  refine ev_aload_n dX6_oneTick_6 0 rfl trivial ?_
  refine ev_aload_n dX6_oneTick_7 1 rfl trivial ?_
  refine ev_aload_n dX6_oneTick_8 2 rfl trivial ?_
  obtain ⟨q2, eq2, h⟩ := am_bd h
  refine px_callvi [.ref l1, .ref l2] (by decide) cl_6 (at6 rfl) dX6_oneTick_9 ok_X6_slideAll lk_RX6_315 in_X6_slideAll se_X6_slideAll (by decide) rfl (c_X6_slideAll eq2) rfl (Nat.le_of_ble_eq_true rfl) ?_
  refine ev_iadd dX6_oneTick_12 ?_
  obtain ⟨x3, ex3, h⟩ := am_lt h
  refine px_top ex3 ?_
  refine ev_istore_n (L' := [(3, .int x3), (0, .ref 0), (1, .ref l1), (2, .ref l2)]) dX6_oneTick_13 (by decide) rfl ?_
  refine ev_aload_n dX6_oneTick_14 3 rfl trivial ?_
  refine ev_dup dX6_oneTick_15 rfl ?_
  obtain ⟨g4, h⟩ := am_gd h
  refine px_getI dX6_oneTick_16 gf_RX6_100 (at0 g4) (by decide) rfl ?_
  refine ev_iconst (v := (1 : Int32)) dX6_oneTick_19 kI_1 ?_
  refine ev_iadd dX6_oneTick_20 ?_
  obtain ⟨u5, eu5, h⟩ := am_lt h
  refine px_putI dX6_oneTick_21 pf_RX6_100 (at0 g4) (by decide) rfl eu5 ?_
  refine ev_iload_n dX6_oneTick_24 0 rfl ?_
  obtain rfl := Option.some.inj h
  exact ev_iret dX6_oneTick_25 rfl rfl

theorem c_X6_oneTick {X : Nat × (Nat → Int32)} {u : am_MU} {l1 : Nat} {l2 : Nat} {r : am_MU × Int32} (h : f_X6_oneTick u l1 l2 = some r) : am_Cn X M_X6_oneTick [.ref 0, .ref l1, .ref l2] (hp u) (hp r.1, some (.int r.2)) := by
  refine am_Cn.of ok_X6_oneTick (Nat.le_refl _) (Nat.le_refl _) (Nat.le_of_ble_eq_true rfl) ?_
  refine ev_loc [0, 1, 2] rfl ?_
  exact l_X6_oneTick_0 u l1 l2 r h

-- SandRipples.run(II)I
def g_X6_run_27  : Nat → am_MU → Int32 → Int32 → Int32 → Int32 → Option (am_MU × Int32)
  | 0 => fun _ _ _ _ _ => none
  | n + 1 => fun u l1 l2 l3 l4 =>
if l2 ≤ l4 then (some (u, l3))
else (if am_in l1 6 then (
(f_X6_oneTick u 1 (5 + 2 * l1.toNatClampNeg)).bind fun q3 =>
am_let (l3 + q3.2) fun x4 =>
am_let (l4 + (1 : Int32)) fun x5 =>
g_X6_run_27 n q3.1 l1 l2 x4 x5) else none)

def f_X6_run  (u : am_MU) (l1 : Int32) (l2 : Int32) : Option (am_MU × Int32) :=
(f_X6_isFloor u l1).bind fun q1 =>
if q1.2 = 0 then (some (q1.1, ((-1000000001) : Int32)))
else (if l2 < (1 : Int32) then (some (q1.1, ((-1000000001) : Int32)))
else (if l2 ≤ (60 : Int32) then (g_X6_run_27 1700 q1.1 l1 l2 (0 : Int32) (0 : Int32))
else (some (q1.1, ((-1000000001) : Int32)))))

theorem l_X6_run_27 {X : Nat × (Nat → Int32)}   : ∀ (n : Nat) (u : am_MU) (l1 : Int32) (l2 : Int32) (l3 : Int32) (l4 : Int32) (r : am_MU × Int32), g_X6_run_27  n u l1 l2 l3 l4 = some r → am_Ev X M_X6_run 27 [(0, .ref 0), (1, .int l1), (2, .int l2), (3, .int l3), (4, .int l4)] [] (hp u) (hp r.1, some (.int r.2)) := by
  intro n
  induction n with
  | zero => intro u l1 l2 l3 l4 r h; cases h
  | succ n ih =>
    intro u l1 l2 l3 l4 r h
    rw [g_X6_run_27] at h
    refine ev_iload dX6_run_27 4 rfl ?_
    refine ev_iload_n dX6_run_29 2 rfl ?_
    refine ev_icmp_ge 59 dX6_run_30 (by decide) (fun c1 => ?_) (fun c1 => ?_)
    · have h := am_t c1 h
      refine ev_iload_n dX6_run_59 3 rfl ?_
      obtain rfl := Option.some.inj h
      exact ev_iret dX6_run_60 rfl rfl
    · have h := am_e c1 h
      refine ev_iload_n dX6_run_33 3 rfl ?_
      refine ev_aload_n dX6_run_34 0 rfl trivial ?_
      refine ev_aload_n dX6_run_35 0 rfl trivial ?_
      refine px_getR dX6_run_36 gf_RX6_14 (at6 rfl) (by decide) rfl ?_
      refine ev_aload_n dX6_run_39 0 rfl trivial ?_
      refine px_getR dX6_run_40 gf_RX6_14 (at6 rfl) (by decide) rfl ?_
      refine px_getR dX6_run_43 gf_RX6_85 (at5 rfl) (by decide) rfl ?_
      refine ev_iload_n dX6_run_46 1 rfl ?_
      obtain ⟨g2, h⟩ := am_gd h
      refine px_aald3 (n := 6) dX6_run_47 rfl rfl g2 ?_
      obtain ⟨q3, eq3, h⟩ := am_bd h
      refine px_callvi [.ref 1, .ref (5 + 2 * l1.toNatClampNeg)] (by decide) cl_6 (at6 rfl) dX6_run_48 ok_X6_oneTick lk_RX6_166 in_X6_oneTick se_X6_oneTick (by decide) rfl (c_X6_oneTick eq3) rfl (Nat.le_of_ble_eq_true rfl) ?_
      refine ev_iadd dX6_run_51 ?_
      obtain ⟨x4, ex4, h⟩ := am_lt h
      refine px_top ex4 ?_
      refine ev_istore_n (L' := [(3, .int x4), (0, .ref 0), (1, .int l1), (2, .int l2), (4, .int l4)]) dX6_run_52 (by decide) rfl ?_
      obtain ⟨x5, ex5, h⟩ := am_lt h
      refine ev_iinc (v := x5) (L' := [(4, .int x5), (3, .int x4), (0, .ref 0), (1, .int l1), (2, .int l2)]) dX6_run_53 4 rfl (by rw [kI_1, ex5]) (by decide) rfl ?_
      refine ev_goto 27 dX6_run_56 (by decide) ?_
      refine ev_loc [2, 3, 4, 1, 0] rfl ?_
      exact ih q3.1 l1 l2 x4 x5 _ h

theorem l_X6_run_0 {X : Nat × (Nat → Int32)}   (u : am_MU) (l1 : Int32) (l2 : Int32) (r : am_MU × Int32) (h : f_X6_run  u l1 l2 = some r) : am_Ev X M_X6_run 0 [(0, .ref 0), (1, .int l1), (2, .int l2)] [] (hp u) (hp r.1, some (.int r.2)) := by
  unfold f_X6_run at h
  refine ev_aload_n dX6_run_0 0 rfl trivial ?_
  refine ev_iload_n dX6_run_1 1 rfl ?_
  obtain ⟨q1, eq1, h⟩ := am_bd h
  refine px_callvi [.int l1] (by decide) cl_6 (at6 rfl) dX6_run_2 ok_X6_isFloor lk_RX6_94 in_X6_isFloor se_X6_isFloor (by decide) rfl (c_X6_isFloor eq1) rfl (Nat.le_of_ble_eq_true rfl) ?_
  refine ev_if_eq 19 dX6_run_5 (by decide) (fun c2 => ?_) (fun c2 => ?_)
  · have h := am_t c2 h
    refine ev_ldc (v := ((-1000000001) : Int32)) dX6_run_19 tw_239 ?_
    obtain rfl := Option.some.inj h
    exact ev_iret dX6_run_21 rfl rfl
  · have h := am_e c2 h
    refine ev_iload_n dX6_run_8 2 rfl ?_
    refine ev_iconst (v := (1 : Int32)) dX6_run_9 kI_1 ?_
    refine ev_icmp_lt 19 dX6_run_10 (by decide) (fun c3 => ?_) (fun c3 => ?_)
    · have h := am_t c3 h
      refine ev_ldc (v := ((-1000000001) : Int32)) dX6_run_19 tw_239 ?_
      obtain rfl := Option.some.inj h
      exact ev_iret dX6_run_21 rfl rfl
    · have h := am_e c3 h
      refine ev_iload_n dX6_run_13 2 rfl ?_
      refine ev_bipush (v := (60 : Int32)) dX6_run_14 kB_60 ?_
      refine ev_icmp_le 22 dX6_run_16 (by decide) (fun c4 => ?_) (fun c4 => ?_)
      · have h := am_t c4 h
        refine ev_iconst (v := (0 : Int32)) dX6_run_22 kI_0 ?_
        refine ev_istore_n (L' := [(3, .int (0 : Int32)), (0, .ref 0), (1, .int l1), (2, .int l2)]) dX6_run_23 (by decide) rfl ?_
        refine ev_iconst (v := (0 : Int32)) dX6_run_24 kI_0 ?_
        refine ev_istore (L' := [(4, .int (0 : Int32)), (3, .int (0 : Int32)), (0, .ref 0), (1, .int l1), (2, .int l2)]) dX6_run_25 (by decide) rfl ?_
        refine ev_loc [2, 3, 4, 1, 0] rfl ?_
        exact l_X6_run_27   1700 q1.1 l1 l2 (0 : Int32) (0 : Int32) _ h
      · have h := am_e c4 h
        refine ev_ldc (v := ((-1000000001) : Int32)) dX6_run_19 tw_239 ?_
        obtain rfl := Option.some.inj h
        exact ev_iret dX6_run_21 rfl rfl

theorem c_X6_run {X : Nat × (Nat → Int32)} {u : am_MU} {l1 : Int32} {l2 : Int32} {r : am_MU × Int32} (h : f_X6_run u l1 l2 = some r) : am_Cn X M_X6_run [.ref 0, .int l1, .int l2] (hp u) (hp r.1, some (.int r.2)) := by
  refine am_Cn.of ok_X6_run (Nat.le_refl _) (Nat.le_refl _) (Nat.le_of_ble_eq_true rfl) ?_
  refine ev_loc [0, 1, 2] rfl ?_
  exact l_X6_run_0 u l1 l2 r h

-- SandRipples.crest(II)I
def g_X6_crest_59 (K31 : am_MU → Int32 → Nat → Int32 → Int32 → Option (am_MU × Int32)) (u : am_MU) (l2 : Int32) (l3 : Nat) (l4 : Int32) (l5 : Int32) : Option (am_MU × Int32) :=
am_let (l5 + (1 : Int32)) fun x1 =>
K31 u l2 l3 l4 x1

def g_X6_crest_31  : Nat → am_MU → Int32 → Nat → Int32 → Int32 → Option (am_MU × Int32)
  | 0 => fun _ _ _ _ _ => none
  | n + 1 => fun u l2 l3 l4 l5 =>
if (24 : Int32) ≤ l5 then (some (u, ((-1000000005) : Int32)))
else (if tg l3 = 0 then (
(f_X0_isCrest u l3 l5).bind fun q2 =>
if q2.2 = 0 then (g_X6_crest_59 (g_X6_crest_31 n) q2.1 l2 l3 l4 l5)
else (if l4 = l2 then (some (q2.1, l5))
else (am_let (l4 + (1 : Int32)) fun x6 =>
g_X6_crest_59 (g_X6_crest_31 n) q2.1 l2 l3 x6 l5))) else none)

def f_X6_crest  (u : am_MU) (l1 : Int32) (l2 : Int32) : Option (am_MU × Int32) :=
(f_X6_isFloor u l1).bind fun q1 =>
if q1.2 = 0 then (some (q1.1, ((-1000000001) : Int32)))
else (if 0 ≤ l2 then (if am_in l1 6 then (
g_X6_crest_31 1700 q1.1 l2 (5 + 2 * l1.toNatClampNeg) (0 : Int32) (0 : Int32)) else none)
else (some (q1.1, ((-1000000001) : Int32))))

theorem l_X6_crest_59 {X : Nat × (Nat → Int32)} (K31 : am_MU → Int32 → Nat → Int32 → Int32 → Option (am_MU × Int32)) (hK31 : ∀ (u : am_MU) (l2 : Int32) (l3 : Nat) (l4 : Int32) (l5 : Int32) (r : am_MU × Int32), K31 u l2 l3 l4 l5 = some r → am_Ev X M_X6_crest 31 [(2, .int l2), (3, .ref l3), (4, .int l4), (5, .int l5)] [] (hp u) (hp r.1, some (.int r.2))) (u : am_MU) (l2 : Int32) (l3 : Nat) (l4 : Int32) (l5 : Int32) (r : am_MU × Int32) (h : g_X6_crest_59 K31 u l2 l3 l4 l5 = some r) : am_Ev X M_X6_crest 59 [(2, .int l2), (3, .ref l3), (4, .int l4), (5, .int l5)] [] (hp u) (hp r.1, some (.int r.2)) := by
  unfold g_X6_crest_59 at h
  obtain ⟨x1, ex1, h⟩ := am_lt h
  refine ev_iinc (v := x1) (L' := [(5, .int x1), (2, .int l2), (3, .ref l3), (4, .int l4)]) dX6_crest_59 3 rfl (by rw [kI_1, ex1]) (by decide) rfl ?_
  refine ev_goto 31 dX6_crest_62 (by decide) ?_
  refine ev_loc [1, 2, 3, 0] rfl ?_
  exact hK31 u l2 l3 l4 x1 _ h

theorem l_X6_crest_31 {X : Nat × (Nat → Int32)}   : ∀ (n : Nat) (u : am_MU) (l2 : Int32) (l3 : Nat) (l4 : Int32) (l5 : Int32) (r : am_MU × Int32), g_X6_crest_31  n u l2 l3 l4 l5 = some r → am_Ev X M_X6_crest 31 [(2, .int l2), (3, .ref l3), (4, .int l4), (5, .int l5)] [] (hp u) (hp r.1, some (.int r.2)) := by
  intro n
  induction n with
  | zero => intro u l2 l3 l4 l5 r h; cases h
  | succ n ih =>
    intro u l2 l3 l4 l5 r h
    rw [g_X6_crest_31] at h
    refine ev_iload dX6_crest_31 3 rfl ?_
    refine ev_bipush (v := (24 : Int32)) dX6_crest_33 kB_24 ?_
    refine ev_icmp_ge 65 dX6_crest_35 (by decide) (fun c1 => ?_) (fun c1 => ?_)
    · have h := am_t c1 h
      refine ev_ldc (v := ((-1000000005) : Int32)) dX6_crest_65 tw_312 ?_
      obtain rfl := Option.some.inj h
      exact ev_iret dX6_crest_67 rfl rfl
    · have h := am_e c1 h
      refine ev_aload_n dX6_crest_38 1 rfl trivial ?_
      refine ev_iload dX6_crest_39 3 rfl ?_
      obtain ⟨g3, h⟩ := am_gd h
      obtain ⟨q2, eq2, h⟩ := am_bd h
      refine px_callvi [.int l5] (by decide) cl_0 (at0 g3) dX6_crest_41 ok_X0_isCrest lk_RX6_169 in_X0_isCrest se_X0_isCrest (by decide) rfl (c_X0_isCrest eq2) rfl (Nat.le_of_ble_eq_true rfl) ?_
      refine ev_if_eq 59 dX6_crest_44 (by decide) (fun c4 => ?_) (fun c4 => ?_)
      · have h := am_t c4 h
        refine ev_loc [0, 1, 2, 3] rfl ?_
        exact l_X6_crest_59 (g_X6_crest_31 n) (fun u l2 l3 l4 l5 r h => ih u l2 l3 l4 l5 r h) q2.1 l2 l3 l4 l5 _ h
      · have h := am_e c4 h
        refine ev_iload dX6_crest_47 2 rfl ?_
        refine ev_iload_n dX6_crest_49 0 rfl ?_
        refine ev_icmp_ne 56 dX6_crest_50 (by decide) (fun c5 => ?_) (fun c5 => ?_)
        · have h := am_e c5 h
          obtain ⟨x6, ex6, h⟩ := am_lt h
          refine ev_iinc (v := x6) (L' := [(4, .int x6), (2, .int l2), (3, .ref l3), (5, .int l5)]) dX6_crest_56 2 rfl (by rw [kI_1, ex6]) (by decide) rfl ?_
          refine ev_loc [1, 2, 0, 3] rfl ?_
          exact l_X6_crest_59 (g_X6_crest_31 n) (fun u l2 l3 l4 l5 r h => ih u l2 l3 l4 l5 r h) q2.1 l2 l3 x6 l5 _ h
        · have h := am_t c5 h
          refine ev_iload dX6_crest_53 3 rfl ?_
          obtain rfl := Option.some.inj h
          exact ev_iret dX6_crest_55 rfl rfl

theorem l_X6_crest_0 {X : Nat × (Nat → Int32)}   (u : am_MU) (l1 : Int32) (l2 : Int32) (r : am_MU × Int32) (h : f_X6_crest  u l1 l2 = some r) : am_Ev X M_X6_crest 0 [(0, .ref 0), (1, .int l1), (2, .int l2)] [] (hp u) (hp r.1, some (.int r.2)) := by
  unfold f_X6_crest at h
  refine ev_aload_n dX6_crest_0 0 rfl trivial ?_
  refine ev_iload_n dX6_crest_1 1 rfl ?_
  obtain ⟨q1, eq1, h⟩ := am_bd h
  refine px_callvi [.int l1] (by decide) cl_6 (at6 rfl) dX6_crest_2 ok_X6_isFloor lk_RX6_94 in_X6_isFloor se_X6_isFloor (by decide) rfl (c_X6_isFloor eq1) rfl (Nat.le_of_ble_eq_true rfl) ?_
  refine ev_if_eq 12 dX6_crest_5 (by decide) (fun c2 => ?_) (fun c2 => ?_)
  · have h := am_t c2 h
    refine ev_ldc (v := ((-1000000001) : Int32)) dX6_crest_12 tw_239 ?_
    obtain rfl := Option.some.inj h
    exact ev_iret dX6_crest_14 rfl rfl
  · have h := am_e c2 h
    refine ev_iload_n dX6_crest_8 2 rfl ?_
    refine ev_if_ge 15 dX6_crest_9 (by decide) (fun c3 => ?_) (fun c3 => ?_)
    · have h := am_t c3 h
      refine ev_aload_n dX6_crest_15 0 rfl trivial ?_
      refine px_getR dX6_crest_16 gf_RX6_14 (at6 rfl) (by decide) rfl ?_
      refine px_getR dX6_crest_19 gf_RX6_85 (at5 rfl) (by decide) rfl ?_
      refine ev_iload_n dX6_crest_22 1 rfl ?_
      obtain ⟨g4, h⟩ := am_gd h
      refine px_aald3 (n := 6) dX6_crest_23 rfl rfl g4 ?_
      refine ev_astore_n (L' := [(3, .ref (5 + 2 * l1.toNatClampNeg)), (0, .ref 0), (1, .int l1), (2, .int l2)]) dX6_crest_24 trivial (by decide) rfl ?_
      refine ev_iconst (v := (0 : Int32)) dX6_crest_25 kI_0 ?_
      refine ev_istore (L' := [(4, .int (0 : Int32)), (3, .ref (5 + 2 * l1.toNatClampNeg)), (0, .ref 0), (1, .int l1), (2, .int l2)]) dX6_crest_26 (by decide) rfl ?_
      refine ev_iconst (v := (0 : Int32)) dX6_crest_28 kI_0 ?_
      refine ev_istore (L' := [(5, .int (0 : Int32)), (4, .int (0 : Int32)), (3, .ref (5 + 2 * l1.toNatClampNeg)), (0, .ref 0), (1, .int l1), (2, .int l2)]) dX6_crest_29 (by decide) rfl ?_
      refine ev_loc [5, 2, 1, 0] rfl ?_
      exact l_X6_crest_31   1700 q1.1 l2 (5 + 2 * l1.toNatClampNeg) (0 : Int32) (0 : Int32) _ h
    · have h := am_e c3 h
      refine ev_ldc (v := ((-1000000001) : Int32)) dX6_crest_12 tw_239 ?_
      obtain rfl := Option.some.inj h
      exact ev_iret dX6_crest_14 rfl rfl

theorem c_X6_crest {X : Nat × (Nat → Int32)} {u : am_MU} {l1 : Int32} {l2 : Int32} {r : am_MU × Int32} (h : f_X6_crest u l1 l2 = some r) : am_Cn X M_X6_crest [.ref 0, .int l1, .int l2] (hp u) (hp r.1, some (.int r.2)) := by
  refine am_Cn.of ok_X6_crest (Nat.le_refl _) (Nat.le_refl _) (Nat.le_of_ble_eq_true rfl) ?_
  refine ev_loc [0, 1, 2] rfl ?_
  exact l_X6_crest_0 u l1 l2 r h

-- SandRipples.apart(I)I
def f_X6_apart  (u : am_MU) (l1 : Int32) : Option (am_MU × Int32) :=
(f_X6_isFloor u l1).bind fun q1 =>
if q1.2 = 0 then (some (q1.1, ((-1000000001) : Int32)))
else (if am_in l1 6 then (
if tg (5 + 2 * l1.toNatClampNeg) = 0 then (
(f_X0_crests q1.1 (5 + 2 * l1.toNatClampNeg)).bind fun q4 =>
if q4.2 = 0 then (some (q4.1, ((-1000000005) : Int32)))
else (if ¬ q4.2 = 0 then (
some (q4.1, (2400 : Int32) / q4.2)) else none)) else none) else none)

theorem l_X6_apart_0 {X : Nat × (Nat → Int32)}   (u : am_MU) (l1 : Int32) (r : am_MU × Int32) (h : f_X6_apart  u l1 = some r) : am_Ev X M_X6_apart 0 [(0, .ref 0), (1, .int l1)] [] (hp u) (hp r.1, some (.int r.2)) := by
  unfold f_X6_apart at h
  refine ev_aload_n dX6_apart_0 0 rfl trivial ?_
  refine ev_iload_n dX6_apart_1 1 rfl ?_
  obtain ⟨q1, eq1, h⟩ := am_bd h
  refine px_callvi [.int l1] (by decide) cl_6 (at6 rfl) dX6_apart_2 ok_X6_isFloor lk_RX6_94 in_X6_isFloor se_X6_isFloor (by decide) rfl (c_X6_isFloor eq1) rfl (Nat.le_of_ble_eq_true rfl) ?_
  refine ev_if_ne 11 dX6_apart_5 (by decide) (fun c2 => ?_) (fun c2 => ?_)
  · have h := am_e c2 h
    refine ev_aload_n dX6_apart_11 0 rfl trivial ?_
    refine px_getR dX6_apart_12 gf_RX6_14 (at6 rfl) (by decide) rfl ?_
    refine px_getR dX6_apart_15 gf_RX6_85 (at5 rfl) (by decide) rfl ?_
    refine ev_iload_n dX6_apart_18 1 rfl ?_
    obtain ⟨g3, h⟩ := am_gd h
    refine px_aald3 (n := 6) dX6_apart_19 rfl rfl g3 ?_
    obtain ⟨g5, h⟩ := am_gd h
    obtain ⟨q4, eq4, h⟩ := am_bd h
    refine px_callvi [] (by decide) cl_0 (at0 g5) dX6_apart_20 ok_X0_crests lk_RX6_113 in_X0_crests se_X0_crests (by decide) rfl (c_X0_crests eq4) rfl (Nat.le_of_ble_eq_true rfl) ?_
    refine ev_istore_n (L' := [(2, .int q4.2), (0, .ref 0), (1, .int l1)]) dX6_apart_23 (by decide) rfl ?_
    refine ev_iload_n dX6_apart_24 0 rfl ?_
    refine ev_if_ne 33 dX6_apart_25 (by decide) (fun c6 => ?_) (fun c6 => ?_)
    · have h := am_e c6 h
      refine ev_sipush (v := (2400 : Int32)) dX6_apart_33 kS_2400 ?_
      refine ev_iload_n dX6_apart_36 0 rfl ?_
      obtain ⟨g7, h⟩ := am_gd h
      refine ev_idiv dX6_apart_37 g7 ?_
      obtain rfl := Option.some.inj h
      exact ev_iret dX6_apart_38 rfl rfl
    · have h := am_t c6 h
      refine ev_ldc (v := ((-1000000005) : Int32)) dX6_apart_28 tw_312 ?_
      refine ev_goto 38 dX6_apart_30 (by decide) ?_
      obtain rfl := Option.some.inj h
      exact ev_iret dX6_apart_38 rfl rfl
  · have h := am_t c2 h
    refine ev_ldc (v := ((-1000000001) : Int32)) dX6_apart_8 tw_239 ?_
    obtain rfl := Option.some.inj h
    exact ev_iret dX6_apart_10 rfl rfl

theorem c_X6_apart {X : Nat × (Nat → Int32)} {u : am_MU} {l1 : Int32} {r : am_MU × Int32} (h : f_X6_apart u l1 = some r) : am_Cn X M_X6_apart [.ref 0, .int l1] (hp u) (hp r.1, some (.int r.2)) := by
  refine am_Cn.of ok_X6_apart (Nat.le_refl _) (Nat.le_refl _) (Nat.le_of_ble_eq_true rfl) ?_
  refine ev_loc [0, 1] rfl ?_
  exact l_X6_apart_0 u l1 r h

-- SandRipples.flat(II)I
def g_X6_flat_34  : Nat → am_MU → Int32 → Nat → Int32 → Option (am_MU × Int32)
  | 0 => fun _ _ _ _ => none
  | n + 1 => fun u l2 l3 l4 =>
if (24 : Int32) ≤ l4 then (some (u, (1 : Int32)))
else (if tg l3 = 0 then (
if am_in l4 24 then (
(f_X6_nextOf u l4).bind fun q4 =>
if am_in q4.2 24 then (
(f_J9_abs_0f7a4 q4.1 ((u (l3 + 1) l4.toNatClampNeg) - (q4.1 (l3 + 1) q4.2.toNatClampNeg))).bind fun q6 =>
if q6.2 ≤ l2 then (am_let (l4 + (1 : Int32)) fun x8 =>
g_X6_flat_34 n q6.1 l2 l3 x8)
else (some (q6.1, (0 : Int32)))) else none) else none) else none)

def f_X6_flat  (u : am_MU) (l1 : Int32) (l2 : Int32) : Option (am_MU × Int32) :=
(f_X6_isFloor u l1).bind fun q1 =>
if q1.2 = 0 then (some (q1.1, ((-1000000001) : Int32)))
else (if l2 < 0 then (some (q1.1, ((-1000000001) : Int32)))
else (if l2 ≤ (99 : Int32) then (if am_in l1 6 then (
g_X6_flat_34 1700 q1.1 l2 (5 + 2 * l1.toNatClampNeg) (0 : Int32)) else none)
else (some (q1.1, ((-1000000001) : Int32)))))

theorem l_X6_flat_34 {X : Nat × (Nat → Int32)}   : ∀ (n : Nat) (u : am_MU) (l2 : Int32) (l3 : Nat) (l4 : Int32) (r : am_MU × Int32), g_X6_flat_34  n u l2 l3 l4 = some r → am_Ev X M_X6_flat 34 [(2, .int l2), (3, .ref l3), (4, .int l4)] [] (hp u) (hp r.1, some (.int r.2)) := by
  intro n
  induction n with
  | zero => intro u l2 l3 l4 r h; cases h
  | succ n ih =>
    intro u l2 l3 l4 r h
    rw [g_X6_flat_34] at h
    refine ev_iload dX6_flat_34 2 rfl ?_
    refine ev_bipush (v := (24 : Int32)) dX6_flat_36 kB_24 ?_
    refine ev_icmp_ge 74 dX6_flat_38 (by decide) (fun c1 => ?_) (fun c1 => ?_)
    · have h := am_t c1 h
      refine ev_iconst (v := (1 : Int32)) dX6_flat_74 kI_1 ?_
      obtain rfl := Option.some.inj h
      exact ev_iret dX6_flat_75 rfl rfl
    · have h := am_e c1 h
      refine ev_aload_n dX6_flat_41 1 rfl trivial ?_
      obtain ⟨g2, h⟩ := am_gd h
      refine px_getR dX6_flat_42 gf_RX6_149 (at0 g2) (by decide) rfl ?_
      refine ev_iload dX6_flat_45 2 rfl ?_
      obtain ⟨g3, h⟩ := am_gd h
      refine px_iald (n := 24) l4.toNatClampNeg dX6_flat_47 (il0 g2) g3 rfl ?_
      refine ev_aload_n dX6_flat_48 1 rfl trivial ?_
      refine px_getR dX6_flat_49 gf_RX6_149 (at0 g2) (by decide) rfl ?_
      refine ev_iload dX6_flat_52 2 rfl ?_
      obtain ⟨q4, eq4, h⟩ := am_bd h
      refine px_callsi [.int l4] dX6_flat_54 ok_X6_nextOf lk_RX6_173 st_X6_nextOf (by decide) rfl (c_X6_nextOf eq4) rfl (Nat.le_of_ble_eq_true rfl) ?_
      obtain ⟨g5, h⟩ := am_gd h
      refine px_iald (n := 24) q4.2.toNatClampNeg dX6_flat_57 (il0 g2) g5 rfl ?_
      refine ev_isub dX6_flat_58 ?_
      obtain ⟨q6, eq6, h⟩ := am_bd h
      refine px_callsi [.int ((u (l3 + 1) l4.toNatClampNeg) - (q4.1 (l3 + 1) q4.2.toNatClampNeg))] dX6_flat_59 ok_J9_abs_0f7a4 lk_RX6_176 st_J9_abs_0f7a4 (by decide) rfl (c_J9_abs_0f7a4 eq6) rfl (Nat.le_of_ble_eq_true rfl) ?_
      refine ev_iload_n dX6_flat_62 0 rfl ?_
      refine ev_icmp_le 68 dX6_flat_63 (by decide) (fun c7 => ?_) (fun c7 => ?_)
      · have h := am_t c7 h
        obtain ⟨x8, ex8, h⟩ := am_lt h
        refine ev_iinc (v := x8) (L' := [(4, .int x8), (2, .int l2), (3, .ref l3)]) dX6_flat_68 2 rfl (by rw [kI_1, ex8]) (by decide) rfl ?_
        refine ev_goto 34 dX6_flat_71 (by decide) ?_
        refine ev_loc [1, 2, 0] rfl ?_
        exact ih q6.1 l2 l3 x8 _ h
      · have h := am_e c7 h
        refine ev_iconst (v := (0 : Int32)) dX6_flat_66 kI_0 ?_
        obtain rfl := Option.some.inj h
        exact ev_iret dX6_flat_67 rfl rfl

theorem l_X6_flat_0 {X : Nat × (Nat → Int32)}   (u : am_MU) (l1 : Int32) (l2 : Int32) (r : am_MU × Int32) (h : f_X6_flat  u l1 l2 = some r) : am_Ev X M_X6_flat 0 [(0, .ref 0), (1, .int l1), (2, .int l2)] [] (hp u) (hp r.1, some (.int r.2)) := by
  unfold f_X6_flat at h
  refine ev_aload_n dX6_flat_0 0 rfl trivial ?_
  refine ev_iload_n dX6_flat_1 1 rfl ?_
  obtain ⟨q1, eq1, h⟩ := am_bd h
  refine px_callvi [.int l1] (by decide) cl_6 (at6 rfl) dX6_flat_2 ok_X6_isFloor lk_RX6_94 in_X6_isFloor se_X6_isFloor (by decide) rfl (c_X6_isFloor eq1) rfl (Nat.le_of_ble_eq_true rfl) ?_
  refine ev_if_eq 18 dX6_flat_5 (by decide) (fun c2 => ?_) (fun c2 => ?_)
  · have h := am_t c2 h
    refine ev_ldc (v := ((-1000000001) : Int32)) dX6_flat_18 tw_239 ?_
    obtain rfl := Option.some.inj h
    exact ev_iret dX6_flat_20 rfl rfl
  · have h := am_e c2 h
    refine ev_iload_n dX6_flat_8 2 rfl ?_
    refine ev_if_lt 18 dX6_flat_9 (by decide) (fun c3 => ?_) (fun c3 => ?_)
    · have h := am_t c3 h
      refine ev_ldc (v := ((-1000000001) : Int32)) dX6_flat_18 tw_239 ?_
      obtain rfl := Option.some.inj h
      exact ev_iret dX6_flat_20 rfl rfl
    · have h := am_e c3 h
      refine ev_iload_n dX6_flat_12 2 rfl ?_
      refine ev_bipush (v := (99 : Int32)) dX6_flat_13 kB_99 ?_
      refine ev_icmp_le 21 dX6_flat_15 (by decide) (fun c4 => ?_) (fun c4 => ?_)
      · have h := am_t c4 h
        refine ev_aload_n dX6_flat_21 0 rfl trivial ?_
        refine px_getR dX6_flat_22 gf_RX6_14 (at6 rfl) (by decide) rfl ?_
        refine px_getR dX6_flat_25 gf_RX6_85 (at5 rfl) (by decide) rfl ?_
        refine ev_iload_n dX6_flat_28 1 rfl ?_
        obtain ⟨g5, h⟩ := am_gd h
        refine px_aald3 (n := 6) dX6_flat_29 rfl rfl g5 ?_
        refine ev_astore_n (L' := [(3, .ref (5 + 2 * l1.toNatClampNeg)), (0, .ref 0), (1, .int l1), (2, .int l2)]) dX6_flat_30 trivial (by decide) rfl ?_
        refine ev_iconst (v := (0 : Int32)) dX6_flat_31 kI_0 ?_
        refine ev_istore (L' := [(4, .int (0 : Int32)), (3, .ref (5 + 2 * l1.toNatClampNeg)), (0, .ref 0), (1, .int l1), (2, .int l2)]) dX6_flat_32 (by decide) rfl ?_
        refine ev_loc [4, 1, 0] rfl ?_
        exact l_X6_flat_34   1700 q1.1 l2 (5 + 2 * l1.toNatClampNeg) (0 : Int32) _ h
      · have h := am_e c4 h
        refine ev_ldc (v := ((-1000000001) : Int32)) dX6_flat_18 tw_239 ?_
        obtain rfl := Option.some.inj h
        exact ev_iret dX6_flat_20 rfl rfl

theorem c_X6_flat {X : Nat × (Nat → Int32)} {u : am_MU} {l1 : Int32} {l2 : Int32} {r : am_MU × Int32} (h : f_X6_flat u l1 l2 = some r) : am_Cn X M_X6_flat [.ref 0, .int l1, .int l2] (hp u) (hp r.1, some (.int r.2)) := by
  refine am_Cn.of ok_X6_flat (Nat.le_refl _) (Nat.le_refl _) (Nat.le_of_ble_eq_true rfl) ?_
  refine ev_loc [0, 1, 2] rfl ?_
  exact l_X6_flat_0 u l1 l2 r h

-- SandRipples$World.becomeSea(LSandRipples$World;)V
def f_X5_becomeSea  (u : am_MU) (l0 : Nat) (l1 : Nat) : Option (am_MU) :=
if tg l1 = 5 then (
if tg l0 = 5 then (
if am_cpok (l1 + 1) (l0 + 1) (0 : Int32) (0 : Int32) (Int32.ofNat 4) then (
am_let (am_ur u (l0 + 1) (va_cpy (u (l1 + 1)) (u (l0 + 1)) (0 : Int32).toNatClampNeg (0 : Int32).toNatClampNeg (Int32.ofNat 4).toNatClampNeg)) fun u4 =>
if am_cpok (l1 + 2) (l0 + 2) (0 : Int32) (0 : Int32) (Int32.ofNat 3) then (
am_let (am_ur u4 (l0 + 2) (va_cpy (u4 (l1 + 2)) (u4 (l0 + 2)) (0 : Int32).toNatClampNeg (0 : Int32).toNatClampNeg (Int32.ofNat 3).toNatClampNeg)) fun u6 =>
some u6) else none) else none) else none) else none

theorem l_X5_becomeSea_0 {X : Nat × (Nat → Int32)}   (u : am_MU) (l0 : Nat) (l1 : Nat) (r : am_MU) (h : f_X5_becomeSea  u l0 l1 = some r) : am_Ev X M_X5_becomeSea 0 [(0, .ref l0), (1, .ref l1)] [] (hp u) (hp r, none) := by
  unfold f_X5_becomeSea at h
  refine ev_aload_n dX5_becomeSea_0 1 rfl trivial ?_
  obtain ⟨g1, h⟩ := am_gd h
  refine px_getR dX5_becomeSea_1 gf_RX5_15 (at5 g1) (by decide) rfl ?_
  refine ev_iconst (v := (0 : Int32)) dX5_becomeSea_4 kI_0 ?_
  refine ev_aload_n dX5_becomeSea_5 0 rfl trivial ?_
  obtain ⟨g2, h⟩ := am_gd h
  refine px_getR dX5_becomeSea_6 gf_RX5_15 (at5 g2) (by decide) rfl ?_
  refine ev_iconst (v := (0 : Int32)) dX5_becomeSea_9 kI_0 ?_
  refine ev_aload_n dX5_becomeSea_10 0 rfl trivial ?_
  refine px_getR dX5_becomeSea_11 gf_RX5_15 (at5 g2) (by decide) rfl ?_
  refine px_alen (n := 4) dX5_becomeSea_14 (il5s g2) (by decide) ?_
  obtain ⟨g3, h⟩ := am_gd h
  obtain ⟨u4, eu4, h⟩ := am_lt h
  refine px_acopy dX5_becomeSea_15 tw_436 w_nat w_sta w_ini (by decide) (Nat.le_of_ble_eq_true rfl) g3 eu4 ?_
  refine ev_aload_n dX5_becomeSea_18 1 rfl trivial ?_
  refine px_getR dX5_becomeSea_19 gf_RX5_26 (at5 g1) (by decide) rfl ?_
  refine ev_iconst (v := (0 : Int32)) dX5_becomeSea_22 kI_0 ?_
  refine ev_aload_n dX5_becomeSea_23 0 rfl trivial ?_
  refine px_getR dX5_becomeSea_24 gf_RX5_26 (at5 g2) (by decide) rfl ?_
  refine ev_iconst (v := (0 : Int32)) dX5_becomeSea_27 kI_0 ?_
  refine ev_aload_n dX5_becomeSea_28 0 rfl trivial ?_
  refine px_getR dX5_becomeSea_29 gf_RX5_26 (at5 g2) (by decide) rfl ?_
  refine px_alen (n := 3) dX5_becomeSea_32 (il5l g2) (by decide) ?_
  obtain ⟨g5, h⟩ := am_gd h
  obtain ⟨u6, eu6, h⟩ := am_lt h
  refine px_acopy dX5_becomeSea_33 tw_436 w_nat w_sta w_ini (by decide) (Nat.le_of_ble_eq_true rfl) g5 eu6 ?_
  obtain rfl := Option.some.inj h
  exact ev_vret dX5_becomeSea_36 rfl

theorem c_X5_becomeSea {X : Nat × (Nat → Int32)} {u : am_MU} {l0 : Nat} {l1 : Nat} {r : am_MU} (h : f_X5_becomeSea u l0 l1 = some r) : am_Cn X M_X5_becomeSea [.ref l0, .ref l1] (hp u) (hp r, none) := by
  refine am_Cn.of ok_X5_becomeSea (Nat.le_refl _) (Nat.le_refl _) (Nat.le_of_ble_eq_true rfl) ?_
  refine ev_loc [0, 1] rfl ?_
  exact l_X5_becomeSea_0 u l0 l1 r h

-- SandRipples$Floor.become(LSandRipples$Floor;)V
def f_X0_become  (u : am_MU) (l0 : Nat) (l1 : Nat) : Option (am_MU) :=
if tg l1 = 0 then (
if tg l0 = 0 then (
if am_cpok (l1 + 1) (l0 + 1) (0 : Int32) (0 : Int32) (24 : Int32) then (
am_let (am_ur u (l0 + 1) (va_cpy (u (l1 + 1)) (u (l0 + 1)) (0 : Int32).toNatClampNeg (0 : Int32).toNatClampNeg (24 : Int32).toNatClampNeg)) fun u4 =>
am_let (am_u2 u4 l0 1 (u4 l1 1)) fun u5 =>
am_let (am_u2 u5 l0 2 (u5 l1 2)) fun u6 =>
some u6) else none) else none) else none

theorem l_X0_become_0 {X : Nat × (Nat → Int32)}   (u : am_MU) (l0 : Nat) (l1 : Nat) (r : am_MU) (h : f_X0_become  u l0 l1 = some r) : am_Ev X M_X0_become 0 [(0, .ref l0), (1, .ref l1)] [] (hp u) (hp r, none) := by
  unfold f_X0_become at h
  refine ev_aload_n dX0_become_0 1 rfl trivial ?_
  obtain ⟨g1, h⟩ := am_gd h
  refine px_getR dX0_become_1 gf_RX0_9 (at0 g1) (by decide) rfl ?_
  refine ev_iconst (v := (0 : Int32)) dX0_become_4 kI_0 ?_
  refine ev_aload_n dX0_become_5 0 rfl trivial ?_
  obtain ⟨g2, h⟩ := am_gd h
  refine px_getR dX0_become_6 gf_RX0_9 (at0 g2) (by decide) rfl ?_
  refine ev_iconst (v := (0 : Int32)) dX0_become_9 kI_0 ?_
  refine ev_bipush (v := (24 : Int32)) dX0_become_10 kB_24 ?_
  obtain ⟨g3, h⟩ := am_gd h
  obtain ⟨u4, eu4, h⟩ := am_lt h
  refine px_acopy dX0_become_12 tw_443 w_nat w_sta w_ini (by decide) (Nat.le_of_ble_eq_true rfl) g3 eu4 ?_
  refine ev_aload_n dX0_become_15 0 rfl trivial ?_
  refine ev_aload_n dX0_become_16 1 rfl trivial ?_
  refine px_getI dX0_become_17 gf_RX0_15 (at0 g1) (by decide) rfl ?_
  obtain ⟨u5, eu5, h⟩ := am_lt h
  refine px_putI dX0_become_20 pf_RX0_15 (at0 g2) (by decide) rfl eu5 ?_
  refine ev_aload_n dX0_become_23 0 rfl trivial ?_
  refine ev_aload_n dX0_become_24 1 rfl trivial ?_
  refine px_getI dX0_become_25 gf_RX0_19 (at0 g1) (by decide) rfl ?_
  obtain ⟨u6, eu6, h⟩ := am_lt h
  refine px_putI dX0_become_28 pf_RX0_19 (at0 g2) (by decide) rfl eu6 ?_
  obtain rfl := Option.some.inj h
  exact ev_vret dX0_become_31 rfl

theorem c_X0_become {X : Nat × (Nat → Int32)} {u : am_MU} {l0 : Nat} {l1 : Nat} {r : am_MU} (h : f_X0_become u l0 l1 = some r) : am_Cn X M_X0_become [.ref l0, .ref l1] (hp u) (hp r, none) := by
  refine am_Cn.of ok_X0_become (Nat.le_refl _) (Nat.le_refl _) (Nat.le_of_ble_eq_true rfl) ?_
  refine ev_loc [0, 1] rfl ?_
  exact l_X0_become_0 u l0 l1 r h

-- SandRipples.think(LSandRipples$World;I)LSandRipples$Floor;
def f_X6_think  (u : am_MU) (l1 : Nat) (l2 : Int32) : Option (am_MU × Nat) :=
(f_X5_becomeSea u 33 l1).bind fun q1 =>
if tg l1 = 5 then (
if am_in l2 (am_ln (l1 + 3)) then (
(f_X0_become q1 37 ((l1 + 3) + 1 + 2 * l2.toNatClampNeg)).bind fun q4 =>
some (q4, 37)) else none) else none

theorem l_X6_think_0 {X : Nat × (Nat → Int32)}   (u : am_MU) (l1 : Nat) (l2 : Int32) (r : am_MU × Nat) (h : f_X6_think  u l1 l2 = some r) : am_Ev X M_X6_think 0 [(0, .ref 0), (1, .ref l1), (2, .int l2)] [] (hp u) (hp r.1, some (.ref r.2)) := by
  unfold f_X6_think at h
  refine ev_aload_n dX6_think_0 0 rfl trivial ?_
  refine px_getR dX6_think_1 gf_RX6_25 (at6 rfl) (by decide) rfl ?_
  refine ev_aload_n dX6_think_4 1 rfl trivial ?_
  obtain ⟨q1, eq1, h⟩ := am_bd h
  refine px_callvv [.ref l1] (by decide) cl_5 (at5 rfl) dX6_think_5 ok_X5_becomeSea lk_RX6_322 in_X5_becomeSea se_X5_becomeSea (by decide) rfl (c_X5_becomeSea eq1) rfl (Nat.le_of_ble_eq_true rfl) ?_
  refine ev_aload_n dX6_think_8 0 rfl trivial ?_
  refine px_getR dX6_think_9 gf_RX6_25 (at6 rfl) (by decide) rfl ?_
  refine px_getR dX6_think_12 gf_RX6_85 (at5 rfl) (by decide) rfl ?_
  refine ev_iconst (v := (0 : Int32)) dX6_think_15 kI_0 ?_
  refine px_aald3 (n := 1) dX6_think_16 rfl rfl (by decide) ?_
  refine ev_aload_n dX6_think_17 1 rfl trivial ?_
  obtain ⟨g2, h⟩ := am_gd h
  refine px_getR dX6_think_18 gf_RX6_85 (at5 g2) (by decide) rfl ?_
  refine ev_iload_n dX6_think_21 2 rfl ?_
  obtain ⟨g3, h⟩ := am_gd h
  refine px_aald3 (n := (am_ln (l1 + 3))) dX6_think_22 (tg5f g2) rfl g3 ?_
  obtain ⟨q4, eq4, h⟩ := am_bd h
  refine px_callvv [.ref ((l1 + 3) + 1 + 2 * l2.toNatClampNeg)] (by decide) cl_0 (at0 rfl) dX6_think_23 ok_X0_become lk_RX6_276 in_X0_become se_X0_become (by decide) rfl (c_X0_become eq4) rfl (Nat.le_of_ble_eq_true rfl) ?_
  refine ev_aload_n dX6_think_26 0 rfl trivial ?_
  refine px_getR dX6_think_27 gf_RX6_25 (at6 rfl) (by decide) rfl ?_
  refine px_getR dX6_think_30 gf_RX6_85 (at5 rfl) (by decide) rfl ?_
  refine ev_iconst (v := (0 : Int32)) dX6_think_33 kI_0 ?_
  refine px_aald3 (n := 1) dX6_think_34 rfl rfl (by decide) ?_
  obtain rfl := Option.some.inj h
  exact ev_aret dX6_think_35 rfl (Or.inl ⟨_, rfl⟩)

theorem c_X6_think {X : Nat × (Nat → Int32)} {u : am_MU} {l1 : Nat} {l2 : Int32} {r : am_MU × Nat} (h : f_X6_think u l1 l2 = some r) : am_Cn X M_X6_think [.ref 0, .ref l1, .int l2] (hp u) (hp r.1, some (.ref r.2)) := by
  refine am_Cn.of ok_X6_think (Nat.le_refl _) (Nat.le_refl _) (Nat.le_of_ble_eq_true rfl) ?_
  refine ev_loc [0, 1, 2] rfl ?_
  exact l_X6_think_0 u l1 l2 r h

-- SandRipples.soon(II)I
def g_X6_soon_34  : Nat → am_MU → Int32 → Nat → Int32 → Option (am_MU × Int32)
  | 0 => fun _ _ _ _ => none
  | n + 1 => fun u l2 l3 l4 =>
if (100 : Int32) < l4 then (some (u, ((-1000000005) : Int32)))
else (if tg l3 = 0 then (
(f_X0_crests u l3).bind fun q2 =>
if q2.2 < l2 then ((f_X6_oneTick q2.1 33 l3).bind fun q5 =>
am_let (l4 + (1 : Int32)) fun x6 =>
g_X6_soon_34 n q5.1 l2 l3 x6)
else (some (q2.1, l4))) else none)

def f_X6_soon  (u : am_MU) (l1 : Int32) (l2 : Int32) : Option (am_MU × Int32) :=
(f_X6_isFloor u l1).bind fun q1 =>
if q1.2 = 0 then (some (q1.1, ((-1000000001) : Int32)))
else (if l2 < 0 then (some (q1.1, ((-1000000001) : Int32)))
else (if l2 ≤ (24 : Int32) then ((f_X6_think q1.1 1 l1).bind fun q5 =>
g_X6_soon_34 1700 q5.1 l2 q5.2 (0 : Int32))
else (some (q1.1, ((-1000000001) : Int32)))))

theorem l_X6_soon_34 {X : Nat × (Nat → Int32)}   : ∀ (n : Nat) (u : am_MU) (l2 : Int32) (l3 : Nat) (l4 : Int32) (r : am_MU × Int32), g_X6_soon_34  n u l2 l3 l4 = some r → am_Ev X M_X6_soon 34 [(0, .ref 0), (2, .int l2), (3, .ref l3), (4, .int l4)] [] (hp u) (hp r.1, some (.int r.2)) := by
  intro n
  induction n with
  | zero => intro u l2 l3 l4 r h; cases h
  | succ n ih =>
    intro u l2 l3 l4 r h
    rw [g_X6_soon_34] at h
    refine ev_iload dX6_soon_34 3 rfl ?_
    refine ev_bipush (v := (100 : Int32)) dX6_soon_36 kB_100 ?_
    refine ev_icmp_gt 68 dX6_soon_38 (by decide) (fun c1 => ?_) (fun c1 => ?_)
    · have h := am_t c1 h
      refine ev_ldc (v := ((-1000000005) : Int32)) dX6_soon_68 tw_312 ?_
      obtain rfl := Option.some.inj h
      exact ev_iret dX6_soon_70 rfl rfl
    · have h := am_e c1 h
      refine ev_aload_n dX6_soon_41 2 rfl trivial ?_
      obtain ⟨g3, h⟩ := am_gd h
      obtain ⟨q2, eq2, h⟩ := am_bd h
      refine px_callvi [] (by decide) cl_0 (at0 g3) dX6_soon_42 ok_X0_crests lk_RX6_113 in_X0_crests se_X0_crests (by decide) rfl (c_X0_crests eq2) rfl (Nat.le_of_ble_eq_true rfl) ?_
      refine ev_iload_n dX6_soon_45 1 rfl ?_
      refine ev_icmp_lt 52 dX6_soon_46 (by decide) (fun c4 => ?_) (fun c4 => ?_)
      · have h := am_t c4 h
        refine ev_aload_n dX6_soon_52 0 rfl trivial ?_
        refine ev_aload_n dX6_soon_53 0 rfl trivial ?_
        refine px_getR dX6_soon_54 gf_RX6_25 (at6 rfl) (by decide) rfl ?_
        refine ev_aload_n dX6_soon_57 2 rfl trivial ?_
        obtain ⟨q5, eq5, h⟩ := am_bd h
        refine px_callvi [.ref 33, .ref l3] (by decide) cl_6 (at6 rfl) dX6_soon_58 ok_X6_oneTick lk_RX6_166 in_X6_oneTick se_X6_oneTick (by decide) rfl (c_X6_oneTick eq5) rfl (Nat.le_of_ble_eq_true rfl) ?_
        refine ev_pop dX6_soon_61 rfl ?_
        obtain ⟨x6, ex6, h⟩ := am_lt h
        refine ev_iinc (v := x6) (L' := [(4, .int x6), (0, .ref 0), (2, .int l2), (3, .ref l3)]) dX6_soon_62 3 rfl (by rw [kI_1, ex6]) (by decide) rfl ?_
        refine ev_goto 34 dX6_soon_65 (by decide) ?_
        refine ev_loc [1, 2, 3, 0] rfl ?_
        exact ih q5.1 l2 l3 x6 _ h
      · have h := am_e c4 h
        refine ev_iload dX6_soon_49 3 rfl ?_
        obtain rfl := Option.some.inj h
        exact ev_iret dX6_soon_51 rfl rfl

theorem l_X6_soon_0 {X : Nat × (Nat → Int32)}   (u : am_MU) (l1 : Int32) (l2 : Int32) (r : am_MU × Int32) (h : f_X6_soon  u l1 l2 = some r) : am_Ev X M_X6_soon 0 [(0, .ref 0), (1, .int l1), (2, .int l2)] [] (hp u) (hp r.1, some (.int r.2)) := by
  unfold f_X6_soon at h
  refine ev_aload_n dX6_soon_0 0 rfl trivial ?_
  refine ev_iload_n dX6_soon_1 1 rfl ?_
  obtain ⟨q1, eq1, h⟩ := am_bd h
  refine px_callvi [.int l1] (by decide) cl_6 (at6 rfl) dX6_soon_2 ok_X6_isFloor lk_RX6_94 in_X6_isFloor se_X6_isFloor (by decide) rfl (c_X6_isFloor eq1) rfl (Nat.le_of_ble_eq_true rfl) ?_
  refine ev_if_eq 18 dX6_soon_5 (by decide) (fun c2 => ?_) (fun c2 => ?_)
  · have h := am_t c2 h
    refine ev_ldc (v := ((-1000000001) : Int32)) dX6_soon_18 tw_239 ?_
    obtain rfl := Option.some.inj h
    exact ev_iret dX6_soon_20 rfl rfl
  · have h := am_e c2 h
    refine ev_iload_n dX6_soon_8 2 rfl ?_
    refine ev_if_lt 18 dX6_soon_9 (by decide) (fun c3 => ?_) (fun c3 => ?_)
    · have h := am_t c3 h
      refine ev_ldc (v := ((-1000000001) : Int32)) dX6_soon_18 tw_239 ?_
      obtain rfl := Option.some.inj h
      exact ev_iret dX6_soon_20 rfl rfl
    · have h := am_e c3 h
      refine ev_iload_n dX6_soon_12 2 rfl ?_
      refine ev_bipush (v := (24 : Int32)) dX6_soon_13 kB_24 ?_
      refine ev_icmp_le 21 dX6_soon_15 (by decide) (fun c4 => ?_) (fun c4 => ?_)
      · have h := am_t c4 h
        refine ev_aload_n dX6_soon_21 0 rfl trivial ?_
        refine ev_aload_n dX6_soon_22 0 rfl trivial ?_
        refine px_getR dX6_soon_23 gf_RX6_14 (at6 rfl) (by decide) rfl ?_
        refine ev_iload_n dX6_soon_26 1 rfl ?_
        obtain ⟨q5, eq5, h⟩ := am_bd h
        refine px_callvr [.ref 1, .int l1] (by decide) cl_6 (at6 rfl) dX6_soon_27 ok_X6_think lk_RX6_181 in_X6_think se_X6_think (by decide) rfl (c_X6_think eq5) rfl (Nat.le_of_ble_eq_true rfl) ?_
        refine ev_astore_n (L' := [(3, .ref q5.2), (0, .ref 0), (1, .int l1), (2, .int l2)]) dX6_soon_30 trivial (by decide) rfl ?_
        refine ev_iconst (v := (0 : Int32)) dX6_soon_31 kI_0 ?_
        refine ev_istore (L' := [(4, .int (0 : Int32)), (3, .ref q5.2), (0, .ref 0), (1, .int l1), (2, .int l2)]) dX6_soon_32 (by decide) rfl ?_
        refine ev_loc [2, 4, 1, 0] rfl ?_
        exact l_X6_soon_34   1700 q5.1 l2 q5.2 (0 : Int32) _ h
      · have h := am_e c4 h
        refine ev_ldc (v := ((-1000000001) : Int32)) dX6_soon_18 tw_239 ?_
        obtain rfl := Option.some.inj h
        exact ev_iret dX6_soon_20 rfl rfl

theorem c_X6_soon {X : Nat × (Nat → Int32)} {u : am_MU} {l1 : Int32} {l2 : Int32} {r : am_MU × Int32} (h : f_X6_soon u l1 l2 = some r) : am_Cn X M_X6_soon [.ref 0, .int l1, .int l2] (hp u) (hp r.1, some (.int r.2)) := by
  refine am_Cn.of ok_X6_soon (Nat.le_refl _) (Nat.le_refl _) (Nat.le_of_ble_eq_true rfl) ?_
  refine ev_loc [0, 1, 2] rfl ?_
  exact l_X6_soon_0 u l1 l2 r h

-- SandRipples$Floor.unlikeTurned(LSandRipples$Floor;I)I
def g_X0_unlikeTurned_37 (K5 : am_MU → Nat → Nat → Int32 → Int32 → Int32 → Option (am_MU × Int32)) (u : am_MU) (l0 : Nat) (l1 : Nat) (l2 : Int32) (l3 : Int32) (l4 : Int32) : Option (am_MU × Int32) :=
am_let (l4 + (1 : Int32)) fun x1 =>
K5 u l0 l1 l2 l3 x1

def g_X0_unlikeTurned_5  : Nat → am_MU → Nat → Nat → Int32 → Int32 → Int32 → Option (am_MU × Int32)
  | 0 => fun _ _ _ _ _ _ => none
  | n + 1 => fun u l0 l1 l2 l3 l4 =>
if (24 : Int32) ≤ l4 then (some (u, l3))
else (if tg l0 = 0 then (
if am_in l4 24 then (
if tg l1 = 0 then (
(f_X6_inRing u (l4 + l2)).bind fun q5 =>
if am_in q5.2 24 then (
if (u (l0 + 1) l4.toNatClampNeg) = (q5.1 (l1 + 1) q5.2.toNatClampNeg) then (g_X0_unlikeTurned_37 (g_X0_unlikeTurned_5 n) q5.1 l0 l1 l2 l3 l4)
else (am_let (l3 + (1 : Int32)) fun x8 =>
g_X0_unlikeTurned_37 (g_X0_unlikeTurned_5 n) q5.1 l0 l1 l2 x8 l4)) else none) else none) else none) else none)

def f_X0_unlikeTurned  (u : am_MU) (l0 : Nat) (l1 : Nat) (l2 : Int32) : Option (am_MU × Int32) :=
g_X0_unlikeTurned_5 1700 u l0 l1 l2 (0 : Int32) (0 : Int32)

theorem l_X0_unlikeTurned_37 {X : Nat × (Nat → Int32)} (K5 : am_MU → Nat → Nat → Int32 → Int32 → Int32 → Option (am_MU × Int32)) (hK5 : ∀ (u : am_MU) (l0 : Nat) (l1 : Nat) (l2 : Int32) (l3 : Int32) (l4 : Int32) (r : am_MU × Int32), K5 u l0 l1 l2 l3 l4 = some r → am_Ev X M_X0_unlikeTurned 5 [(0, .ref l0), (1, .ref l1), (2, .int l2), (3, .int l3), (4, .int l4)] [] (hp u) (hp r.1, some (.int r.2))) (u : am_MU) (l0 : Nat) (l1 : Nat) (l2 : Int32) (l3 : Int32) (l4 : Int32) (r : am_MU × Int32) (h : g_X0_unlikeTurned_37 K5 u l0 l1 l2 l3 l4 = some r) : am_Ev X M_X0_unlikeTurned 37 [(0, .ref l0), (1, .ref l1), (2, .int l2), (3, .int l3), (4, .int l4)] [] (hp u) (hp r.1, some (.int r.2)) := by
  unfold g_X0_unlikeTurned_37 at h
  obtain ⟨x1, ex1, h⟩ := am_lt h
  refine ev_iinc (v := x1) (L' := [(4, .int x1), (0, .ref l0), (1, .ref l1), (2, .int l2), (3, .int l3)]) dX0_unlikeTurned_37 4 rfl (by rw [kI_1, ex1]) (by decide) rfl ?_
  refine ev_goto 5 dX0_unlikeTurned_40 (by decide) ?_
  refine ev_loc [1, 2, 3, 4, 0] rfl ?_
  exact hK5 u l0 l1 l2 l3 x1 _ h

theorem l_X0_unlikeTurned_5 {X : Nat × (Nat → Int32)}   : ∀ (n : Nat) (u : am_MU) (l0 : Nat) (l1 : Nat) (l2 : Int32) (l3 : Int32) (l4 : Int32) (r : am_MU × Int32), g_X0_unlikeTurned_5  n u l0 l1 l2 l3 l4 = some r → am_Ev X M_X0_unlikeTurned 5 [(0, .ref l0), (1, .ref l1), (2, .int l2), (3, .int l3), (4, .int l4)] [] (hp u) (hp r.1, some (.int r.2)) := by
  intro n
  induction n with
  | zero => intro u l0 l1 l2 l3 l4 r h; cases h
  | succ n ih =>
    intro u l0 l1 l2 l3 l4 r h
    rw [g_X0_unlikeTurned_5] at h
    refine ev_iload dX0_unlikeTurned_5 4 rfl ?_
    refine ev_bipush (v := (24 : Int32)) dX0_unlikeTurned_7 kB_24 ?_
    refine ev_icmp_ge 43 dX0_unlikeTurned_9 (by decide) (fun c1 => ?_) (fun c1 => ?_)
    · have h := am_t c1 h
      refine ev_iload_n dX0_unlikeTurned_43 3 rfl ?_
      obtain rfl := Option.some.inj h
      exact ev_iret dX0_unlikeTurned_44 rfl rfl
    · have h := am_e c1 h
      refine ev_aload_n dX0_unlikeTurned_12 0 rfl trivial ?_
      obtain ⟨g2, h⟩ := am_gd h
      refine px_getR dX0_unlikeTurned_13 gf_RX0_9 (at0 g2) (by decide) rfl ?_
      refine ev_iload dX0_unlikeTurned_16 4 rfl ?_
      obtain ⟨g3, h⟩ := am_gd h
      refine px_iald (n := 24) l4.toNatClampNeg dX0_unlikeTurned_18 (il0 g2) g3 rfl ?_
      refine ev_aload_n dX0_unlikeTurned_19 1 rfl trivial ?_
      obtain ⟨g4, h⟩ := am_gd h
      refine px_getR dX0_unlikeTurned_20 gf_RX0_9 (at0 g4) (by decide) rfl ?_
      refine ev_iload dX0_unlikeTurned_23 4 rfl ?_
      refine ev_iload_n dX0_unlikeTurned_25 2 rfl ?_
      refine ev_iadd dX0_unlikeTurned_26 ?_
      obtain ⟨q5, eq5, h⟩ := am_bd h
      refine px_callsi [.int (l4 + l2)] dX0_unlikeTurned_27 ok_X6_inRing lk_RX0_69 st_X6_inRing (by decide) rfl (c_X6_inRing eq5) rfl (Nat.le_of_ble_eq_true rfl) ?_
      obtain ⟨g6, h⟩ := am_gd h
      refine px_iald (n := 24) q5.2.toNatClampNeg dX0_unlikeTurned_30 (il0 g4) g6 rfl ?_
      refine ev_icmp_eq 37 dX0_unlikeTurned_31 (by decide) (fun c7 => ?_) (fun c7 => ?_)
      · have h := am_t c7 h
        refine ev_loc [0, 1, 2, 3, 4] rfl ?_
        exact l_X0_unlikeTurned_37 (g_X0_unlikeTurned_5 n) (fun u l0 l1 l2 l3 l4 r h => ih u l0 l1 l2 l3 l4 r h) q5.1 l0 l1 l2 l3 l4 _ h
      · have h := am_e c7 h
        obtain ⟨x8, ex8, h⟩ := am_lt h
        refine ev_iinc (v := x8) (L' := [(3, .int x8), (0, .ref l0), (1, .ref l1), (2, .int l2), (4, .int l4)]) dX0_unlikeTurned_34 3 rfl (by rw [kI_1, ex8]) (by decide) rfl ?_
        refine ev_loc [1, 2, 3, 0, 4] rfl ?_
        exact l_X0_unlikeTurned_37 (g_X0_unlikeTurned_5 n) (fun u l0 l1 l2 l3 l4 r h => ih u l0 l1 l2 l3 l4 r h) q5.1 l0 l1 l2 x8 l4 _ h

theorem l_X0_unlikeTurned_0 {X : Nat × (Nat → Int32)}   (u : am_MU) (l0 : Nat) (l1 : Nat) (l2 : Int32) (r : am_MU × Int32) (h : f_X0_unlikeTurned  u l0 l1 l2 = some r) : am_Ev X M_X0_unlikeTurned 0 [(0, .ref l0), (1, .ref l1), (2, .int l2)] [] (hp u) (hp r.1, some (.int r.2)) := by
  unfold f_X0_unlikeTurned at h
  refine ev_iconst (v := (0 : Int32)) dX0_unlikeTurned_0 kI_0 ?_
  refine ev_istore_n (L' := [(3, .int (0 : Int32)), (0, .ref l0), (1, .ref l1), (2, .int l2)]) dX0_unlikeTurned_1 (by decide) rfl ?_
  refine ev_iconst (v := (0 : Int32)) dX0_unlikeTurned_2 kI_0 ?_
  refine ev_istore (L' := [(4, .int (0 : Int32)), (3, .int (0 : Int32)), (0, .ref l0), (1, .ref l1), (2, .int l2)]) dX0_unlikeTurned_3 (by decide) rfl ?_
  refine ev_loc [2, 3, 4, 1, 0] rfl ?_
  exact l_X0_unlikeTurned_5   1700 u l0 l1 l2 (0 : Int32) (0 : Int32) _ h

theorem c_X0_unlikeTurned {X : Nat × (Nat → Int32)} {u : am_MU} {l0 : Nat} {l1 : Nat} {l2 : Int32} {r : am_MU × Int32} (h : f_X0_unlikeTurned u l0 l1 l2 = some r) : am_Cn X M_X0_unlikeTurned [.ref l0, .ref l1, .int l2] (hp u) (hp r.1, some (.int r.2)) := by
  refine am_Cn.of ok_X0_unlikeTurned (Nat.le_refl _) (Nat.le_refl _) (Nat.le_of_ble_eq_true rfl) ?_
  refine ev_loc [0, 1, 2] rfl ?_
  exact l_X0_unlikeTurned_0 u l0 l1 l2 r h

-- SandRipples.period(I)I
def g_X6_period_23  : Nat → am_MU → Int32 → Nat → Int32 → Option (am_MU × Int32)
  | 0 => fun _ _ _ _ => none
  | n + 1 => fun u l1 l2 l3 =>
if (100 : Int32) < l3 then (some (u, ((-1000000005) : Int32)))
else ((f_X6_oneTick u 33 l2).bind fun q2 =>
if am_in l1 6 then (
if tg l2 = 0 then (
(f_X0_unlikeTurned q2.1 l2 (5 + 2 * l1.toNatClampNeg) (0 : Int32)).bind fun q4 =>
if q4.2 = 0 then (some (q4.1, l3))
else (am_let (l3 + (1 : Int32)) fun x7 =>
g_X6_period_23 n q4.1 l1 l2 x7)) else none) else none)

def f_X6_period  (u : am_MU) (l1 : Int32) : Option (am_MU × Int32) :=
(f_X6_isFloor u l1).bind fun q1 =>
if q1.2 = 0 then (some (q1.1, ((-1000000001) : Int32)))
else ((f_X6_think q1.1 1 l1).bind fun q3 =>
g_X6_period_23 1700 q3.1 l1 q3.2 (1 : Int32))

theorem l_X6_period_23 {X : Nat × (Nat → Int32)}   : ∀ (n : Nat) (u : am_MU) (l1 : Int32) (l2 : Nat) (l3 : Int32) (r : am_MU × Int32), g_X6_period_23  n u l1 l2 l3 = some r → am_Ev X M_X6_period 23 [(0, .ref 0), (1, .int l1), (2, .ref l2), (3, .int l3)] [] (hp u) (hp r.1, some (.int r.2)) := by
  intro n
  induction n with
  | zero => intro u l1 l2 l3 r h; cases h
  | succ n ih =>
    intro u l1 l2 l3 r h
    rw [g_X6_period_23] at h
    refine ev_iload_n dX6_period_23 3 rfl ?_
    refine ev_bipush (v := (100 : Int32)) dX6_period_24 kB_100 ?_
    refine ev_icmp_gt 64 dX6_period_26 (by decide) (fun c1 => ?_) (fun c1 => ?_)
    · have h := am_t c1 h
      refine ev_ldc (v := ((-1000000005) : Int32)) dX6_period_64 tw_312 ?_
      obtain rfl := Option.some.inj h
      exact ev_iret dX6_period_66 rfl rfl
    · have h := am_e c1 h
      refine ev_aload_n dX6_period_29 0 rfl trivial ?_
      refine ev_aload_n dX6_period_30 0 rfl trivial ?_
      refine px_getR dX6_period_31 gf_RX6_25 (at6 rfl) (by decide) rfl ?_
      refine ev_aload_n dX6_period_34 2 rfl trivial ?_
      obtain ⟨q2, eq2, h⟩ := am_bd h
      refine px_callvi [.ref 33, .ref l2] (by decide) cl_6 (at6 rfl) dX6_period_35 ok_X6_oneTick lk_RX6_166 in_X6_oneTick se_X6_oneTick (by decide) rfl (c_X6_oneTick eq2) rfl (Nat.le_of_ble_eq_true rfl) ?_
      refine ev_pop dX6_period_38 rfl ?_
      refine ev_aload_n dX6_period_39 2 rfl trivial ?_
      refine ev_aload_n dX6_period_40 0 rfl trivial ?_
      refine px_getR dX6_period_41 gf_RX6_14 (at6 rfl) (by decide) rfl ?_
      refine px_getR dX6_period_44 gf_RX6_85 (at5 rfl) (by decide) rfl ?_
      refine ev_iload_n dX6_period_47 1 rfl ?_
      obtain ⟨g3, h⟩ := am_gd h
      refine px_aald3 (n := 6) dX6_period_48 rfl rfl g3 ?_
      refine ev_iconst (v := (0 : Int32)) dX6_period_49 kI_0 ?_
      obtain ⟨g5, h⟩ := am_gd h
      obtain ⟨q4, eq4, h⟩ := am_bd h
      refine px_callvi [.ref (5 + 2 * l1.toNatClampNeg), .int (0 : Int32)] (by decide) cl_0 (at0 g5) dX6_period_50 ok_X0_unlikeTurned lk_RX6_185 in_X0_unlikeTurned se_X0_unlikeTurned (by decide) rfl (c_X0_unlikeTurned eq4) rfl (Nat.le_of_ble_eq_true rfl) ?_
      refine ev_if_ne 58 dX6_period_53 (by decide) (fun c6 => ?_) (fun c6 => ?_)
      · have h := am_e c6 h
        obtain ⟨x7, ex7, h⟩ := am_lt h
        refine ev_iinc (v := x7) (L' := [(3, .int x7), (0, .ref 0), (1, .int l1), (2, .ref l2)]) dX6_period_58 3 rfl (by rw [kI_1, ex7]) (by decide) rfl ?_
        refine ev_goto 23 dX6_period_61 (by decide) ?_
        refine ev_loc [1, 2, 3, 0] rfl ?_
        exact ih q4.1 l1 l2 x7 _ h
      · have h := am_t c6 h
        refine ev_iload_n dX6_period_56 3 rfl ?_
        obtain rfl := Option.some.inj h
        exact ev_iret dX6_period_57 rfl rfl

theorem l_X6_period_0 {X : Nat × (Nat → Int32)}   (u : am_MU) (l1 : Int32) (r : am_MU × Int32) (h : f_X6_period  u l1 = some r) : am_Ev X M_X6_period 0 [(0, .ref 0), (1, .int l1)] [] (hp u) (hp r.1, some (.int r.2)) := by
  unfold f_X6_period at h
  refine ev_aload_n dX6_period_0 0 rfl trivial ?_
  refine ev_iload_n dX6_period_1 1 rfl ?_
  obtain ⟨q1, eq1, h⟩ := am_bd h
  refine px_callvi [.int l1] (by decide) cl_6 (at6 rfl) dX6_period_2 ok_X6_isFloor lk_RX6_94 in_X6_isFloor se_X6_isFloor (by decide) rfl (c_X6_isFloor eq1) rfl (Nat.le_of_ble_eq_true rfl) ?_
  refine ev_if_ne 11 dX6_period_5 (by decide) (fun c2 => ?_) (fun c2 => ?_)
  · have h := am_e c2 h
    refine ev_aload_n dX6_period_11 0 rfl trivial ?_
    refine ev_aload_n dX6_period_12 0 rfl trivial ?_
    refine px_getR dX6_period_13 gf_RX6_14 (at6 rfl) (by decide) rfl ?_
    refine ev_iload_n dX6_period_16 1 rfl ?_
    obtain ⟨q3, eq3, h⟩ := am_bd h
    refine px_callvr [.ref 1, .int l1] (by decide) cl_6 (at6 rfl) dX6_period_17 ok_X6_think lk_RX6_181 in_X6_think se_X6_think (by decide) rfl (c_X6_think eq3) rfl (Nat.le_of_ble_eq_true rfl) ?_
    refine ev_astore_n (L' := [(2, .ref q3.2), (0, .ref 0), (1, .int l1)]) dX6_period_20 trivial (by decide) rfl ?_
    refine ev_iconst (v := (1 : Int32)) dX6_period_21 kI_1 ?_
    refine ev_istore_n (L' := [(3, .int (1 : Int32)), (2, .ref q3.2), (0, .ref 0), (1, .int l1)]) dX6_period_22 (by decide) rfl ?_
    refine ev_loc [2, 3, 1, 0] rfl ?_
    exact l_X6_period_23   1700 q3.1 l1 q3.2 (1 : Int32) _ h
  · have h := am_t c2 h
    refine ev_ldc (v := ((-1000000001) : Int32)) dX6_period_8 tw_239 ?_
    obtain rfl := Option.some.inj h
    exact ev_iret dX6_period_10 rfl rfl

theorem c_X6_period {X : Nat × (Nat → Int32)} {u : am_MU} {l1 : Int32} {r : am_MU × Int32} (h : f_X6_period u l1 = some r) : am_Cn X M_X6_period [.ref 0, .int l1] (hp u) (hp r.1, some (.int r.2)) := by
  refine am_Cn.of ok_X6_period (Nat.le_refl _) (Nat.le_refl _) (Nat.le_of_ble_eq_true rfl) ?_
  refine ev_loc [0, 1] rfl ?_
  exact l_X6_period_0 u l1 r h

-- SandRipples.foot(III)I
def f_X6_foot  (u : am_MU) (l1 : Int32) (l2 : Int32) (l3 : Int32) : Option (am_MU × Int32) :=
(f_X6_isFloor u l1).bind fun q1 =>
if q1.2 = 0 then (some (q1.1, ((-1000000001) : Int32)))
else ((f_X6_isCell q1.1 l2).bind fun q3 =>
if q3.2 = 0 then (some (q3.1, ((-1000000001) : Int32)))
else (if l3 < 0 then (some (q3.1, ((-1000000001) : Int32)))
else (if l3 ≤ (99 : Int32) then (if am_in l1 6 then (
if tg (5 + 2 * l1.toNatClampNeg) = 0 then (
if am_in l2 24 then (
(f_J9_min_7cf53 q3.1 l3 (q3.1 ((5 + 2 * l1.toNatClampNeg) + 1) l2.toNatClampNeg)).bind fun q10 =>
am_let (am_u2 q10.1 ((5 + 2 * l1.toNatClampNeg) + 1) l2.toNatClampNeg ((q10.1 ((5 + 2 * l1.toNatClampNeg) + 1) l2.toNatClampNeg) - q10.2)) fun u11 =>
(f_X6_nextOf u11 l2).bind fun q12 =>
if am_in q12.2 24 then (
am_let (am_u2 q12.1 ((5 + 2 * l1.toNatClampNeg) + 1) q12.2.toNatClampNeg ((q12.1 ((5 + 2 * l1.toNatClampNeg) + 1) q12.2.toNatClampNeg) + (q10.2 - (q10.2 / (2 : Int32))))) fun u14 =>
(f_X6_aheadOf u14 l2).bind fun q15 =>
if am_in q15.2 24 then (
am_let (am_u2 q15.1 ((5 + 2 * l1.toNatClampNeg) + 1) q15.2.toNatClampNeg ((q15.1 ((5 + 2 * l1.toNatClampNeg) + 1) q15.2.toNatClampNeg) + (q10.2 / (2 : Int32)))) fun u17 =>
some (u17, q10.2)) else none) else none) else none) else none) else none)
else (some (q3.1, ((-1000000001) : Int32))))))

theorem l_X6_foot_0 {X : Nat × (Nat → Int32)}   (u : am_MU) (l1 : Int32) (l2 : Int32) (l3 : Int32) (r : am_MU × Int32) (h : f_X6_foot  u l1 l2 l3 = some r) : am_Ev X M_X6_foot 0 [(0, .ref 0), (1, .int l1), (2, .int l2), (3, .int l3)] [] (hp u) (hp r.1, some (.int r.2)) := by
  unfold f_X6_foot at h
  refine ev_aload_n dX6_foot_0 0 rfl trivial ?_
  refine ev_iload_n dX6_foot_1 1 rfl ?_
  obtain ⟨q1, eq1, h⟩ := am_bd h
  refine px_callvi [.int l1] (by decide) cl_6 (at6 rfl) dX6_foot_2 ok_X6_isFloor lk_RX6_94 in_X6_isFloor se_X6_isFloor (by decide) rfl (c_X6_isFloor eq1) rfl (Nat.le_of_ble_eq_true rfl) ?_
  refine ev_if_eq 25 dX6_foot_5 (by decide) (fun c2 => ?_) (fun c2 => ?_)
  · have h := am_t c2 h
    refine ev_ldc (v := ((-1000000001) : Int32)) dX6_foot_25 tw_239 ?_
    obtain rfl := Option.some.inj h
    exact ev_iret dX6_foot_27 rfl rfl
  · have h := am_e c2 h
    refine ev_iload_n dX6_foot_8 2 rfl ?_
    obtain ⟨q3, eq3, h⟩ := am_bd h
    refine px_callsi [.int l2] dX6_foot_9 ok_X6_isCell lk_RX6_146 st_X6_isCell (by decide) rfl (c_X6_isCell eq3) rfl (Nat.le_of_ble_eq_true rfl) ?_
    refine ev_if_eq 25 dX6_foot_12 (by decide) (fun c4 => ?_) (fun c4 => ?_)
    · have h := am_t c4 h
      refine ev_ldc (v := ((-1000000001) : Int32)) dX6_foot_25 tw_239 ?_
      obtain rfl := Option.some.inj h
      exact ev_iret dX6_foot_27 rfl rfl
    · have h := am_e c4 h
      refine ev_iload_n dX6_foot_15 3 rfl ?_
      refine ev_if_lt 25 dX6_foot_16 (by decide) (fun c5 => ?_) (fun c5 => ?_)
      · have h := am_t c5 h
        refine ev_ldc (v := ((-1000000001) : Int32)) dX6_foot_25 tw_239 ?_
        obtain rfl := Option.some.inj h
        exact ev_iret dX6_foot_27 rfl rfl
      · have h := am_e c5 h
        refine ev_iload_n dX6_foot_19 3 rfl ?_
        refine ev_bipush (v := (99 : Int32)) dX6_foot_20 kB_99 ?_
        refine ev_icmp_le 28 dX6_foot_22 (by decide) (fun c6 => ?_) (fun c6 => ?_)
        · have h := am_t c6 h
          refine ev_aload_n dX6_foot_28 0 rfl trivial ?_
          refine px_getR dX6_foot_29 gf_RX6_14 (at6 rfl) (by decide) rfl ?_
          refine px_getR dX6_foot_32 gf_RX6_85 (at5 rfl) (by decide) rfl ?_
          refine ev_iload_n dX6_foot_35 1 rfl ?_
          obtain ⟨g7, h⟩ := am_gd h
          refine px_aald3 (n := 6) dX6_foot_36 rfl rfl g7 ?_
          refine ev_astore (L' := [(4, .ref (5 + 2 * l1.toNatClampNeg)), (0, .ref 0), (1, .int l1), (2, .int l2), (3, .int l3)]) dX6_foot_37 trivial (by decide) rfl ?_
          refine ev_iload_n dX6_foot_39 4 rfl ?_
          refine ev_aload dX6_foot_40 0 rfl trivial ?_
          obtain ⟨g8, h⟩ := am_gd h
          refine px_getR dX6_foot_42 gf_RX6_149 (at0 g8) (by decide) rfl ?_
          refine ev_iload_n dX6_foot_45 3 rfl ?_
          obtain ⟨g9, h⟩ := am_gd h
          refine px_iald (n := 24) l2.toNatClampNeg dX6_foot_46 (il0 g8) g9 rfl ?_
          obtain ⟨q10, eq10, h⟩ := am_bd h
          refine px_callsi [.int l3, .int (q3.1 ((5 + 2 * l1.toNatClampNeg) + 1) l2.toNatClampNeg)] dX6_foot_47 ok_J9_min_7cf53 lk_RX6_189 st_J9_min_7cf53 (by decide) rfl (c_J9_min_7cf53 eq10) rfl (Nat.le_of_ble_eq_true rfl) ?_
          refine ev_istore (L' := [(5, .int q10.2), (4, .ref (5 + 2 * l1.toNatClampNeg)), (0, .ref 0), (1, .int l1), (2, .int l2), (3, .int l3)]) dX6_foot_50 (by decide) rfl ?_
          refine ev_aload dX6_foot_52 1 rfl trivial ?_
          refine px_getR dX6_foot_54 gf_RX6_149 (at0 g8) (by decide) rfl ?_
          refine ev_iload_n dX6_foot_57 4 rfl ?_
          refine ev_dup2 dX6_foot_58 rfl rfl ?_
          refine px_iald (n := 24) l2.toNatClampNeg dX6_foot_59 (il0 g8) g9 rfl ?_
          refine ev_iload dX6_foot_60 0 rfl ?_
          refine ev_isub dX6_foot_62 ?_
          obtain ⟨u11, eu11, h⟩ := am_lt h
          refine px_iast (n := 24) l2.toNatClampNeg dX6_foot_63 (il0 g8) g9 rfl eu11 ?_
          refine ev_aload dX6_foot_64 1 rfl trivial ?_
          refine px_getR dX6_foot_66 gf_RX6_149 (at0 g8) (by decide) rfl ?_
          refine ev_iload_n dX6_foot_69 4 rfl ?_
          obtain ⟨q12, eq12, h⟩ := am_bd h
          refine px_callsi [.int l2] dX6_foot_70 ok_X6_nextOf lk_RX6_173 st_X6_nextOf (by decide) rfl (c_X6_nextOf eq12) rfl (Nat.le_of_ble_eq_true rfl) ?_
          refine ev_dup2 dX6_foot_73 rfl rfl ?_
          obtain ⟨g13, h⟩ := am_gd h
          refine px_iald (n := 24) q12.2.toNatClampNeg dX6_foot_74 (il0 g8) g13 rfl ?_
          refine ev_iload dX6_foot_75 0 rfl ?_
          refine ev_iload dX6_foot_77 0 rfl ?_
          refine ev_iconst (v := (2 : Int32)) dX6_foot_79 kI_2 ?_
          refine ev_idiv dX6_foot_80 (by decide) ?_
          refine ev_isub dX6_foot_81 ?_
          refine ev_iadd dX6_foot_82 ?_
          obtain ⟨u14, eu14, h⟩ := am_lt h
          refine px_iast (n := 24) q12.2.toNatClampNeg dX6_foot_83 (il0 g8) g13 rfl eu14 ?_
          refine ev_aload dX6_foot_84 1 rfl trivial ?_
          refine px_getR dX6_foot_86 gf_RX6_149 (at0 g8) (by decide) rfl ?_
          refine ev_iload_n dX6_foot_89 4 rfl ?_
          obtain ⟨q15, eq15, h⟩ := am_bd h
          refine px_callsi [.int l2] dX6_foot_90 ok_X6_aheadOf lk_RX6_193 st_X6_aheadOf (by decide) rfl (c_X6_aheadOf eq15) rfl (Nat.le_of_ble_eq_true rfl) ?_
          refine ev_dup2 dX6_foot_93 rfl rfl ?_
          obtain ⟨g16, h⟩ := am_gd h
          refine px_iald (n := 24) q15.2.toNatClampNeg dX6_foot_94 (il0 g8) g16 rfl ?_
          refine ev_iload dX6_foot_95 0 rfl ?_
          refine ev_iconst (v := (2 : Int32)) dX6_foot_97 kI_2 ?_
          refine ev_idiv dX6_foot_98 (by decide) ?_
          refine ev_iadd dX6_foot_99 ?_
          obtain ⟨u17, eu17, h⟩ := am_lt h
          refine px_iast (n := 24) q15.2.toNatClampNeg dX6_foot_100 (il0 g8) g16 rfl eu17 ?_
          refine ev_iload dX6_foot_101 0 rfl ?_
          obtain rfl := Option.some.inj h
          exact ev_iret dX6_foot_103 rfl rfl
        · have h := am_e c6 h
          refine ev_ldc (v := ((-1000000001) : Int32)) dX6_foot_25 tw_239 ?_
          obtain rfl := Option.some.inj h
          exact ev_iret dX6_foot_27 rfl rfl

theorem c_X6_foot {X : Nat × (Nat → Int32)} {u : am_MU} {l1 : Int32} {l2 : Int32} {l3 : Int32} {r : am_MU × Int32} (h : f_X6_foot u l1 l2 l3 = some r) : am_Cn X M_X6_foot [.ref 0, .int l1, .int l2, .int l3] (hp u) (hp r.1, some (.int r.2)) := by
  refine am_Cn.of ok_X6_foot (Nat.le_refl _) (Nat.le_refl _) (Nat.le_of_ble_eq_true rfl) ?_
  refine ev_loc [0, 1, 2, 3] rfl ?_
  exact l_X6_foot_0 u l1 l2 l3 r h

-- SandRipples.worm(II)I
def f_X6_worm  (u : am_MU) (l1 : Int32) (l2 : Int32) : Option (am_MU × Int32) :=
(f_X6_isFloor u l1).bind fun q1 =>
if q1.2 = 0 then (some (q1.1, ((-1000000001) : Int32)))
else ((f_X6_isCell q1.1 l2).bind fun q3 =>
if q3.2 = 0 then (some (q3.1, ((-1000000001) : Int32)))
else (if am_in l1 6 then (
(f_X6_nextOf q3.1 l2).bind fun q6 =>
(f_X6_aheadOf q6.1 l2).bind fun q7 =>
if tg (5 + 2 * l1.toNatClampNeg) = 0 then (
if am_in q7.2 24 then (
if am_in l2 24 then (
if am_in q6.2 24 then (
am_let (((q7.1 ((5 + 2 * l1.toNatClampNeg) + 1) q7.2.toNatClampNeg) + (q7.1 ((5 + 2 * l1.toNatClampNeg) + 1) l2.toNatClampNeg)) + (q7.1 ((5 + 2 * l1.toNatClampNeg) + 1) q6.2.toNatClampNeg)) fun x12 =>
am_let (am_u2 q7.1 ((5 + 2 * l1.toNatClampNeg) + 1) q7.2.toNatClampNeg (x12 / (3 : Int32))) fun u13 =>
am_let (am_u2 u13 ((5 + 2 * l1.toNatClampNeg) + 1) q6.2.toNatClampNeg (x12 / (3 : Int32))) fun u14 =>
am_let (am_u2 u14 ((5 + 2 * l1.toNatClampNeg) + 1) l2.toNatClampNeg (x12 - ((x12 / (3 : Int32)) * (2 : Int32)))) fun u15 =>
some (u15, u15 ((5 + 2 * l1.toNatClampNeg) + 1) l2.toNatClampNeg)) else none) else none) else none) else none) else none))

theorem l_X6_worm_0 {X : Nat × (Nat → Int32)}   (u : am_MU) (l1 : Int32) (l2 : Int32) (r : am_MU × Int32) (h : f_X6_worm  u l1 l2 = some r) : am_Ev X M_X6_worm 0 [(0, .ref 0), (1, .int l1), (2, .int l2)] [] (hp u) (hp r.1, some (.int r.2)) := by
  unfold f_X6_worm at h
  refine ev_aload_n dX6_worm_0 0 rfl trivial ?_
  refine ev_iload_n dX6_worm_1 1 rfl ?_
  obtain ⟨q1, eq1, h⟩ := am_bd h
  refine px_callvi [.int l1] (by decide) cl_6 (at6 rfl) dX6_worm_2 ok_X6_isFloor lk_RX6_94 in_X6_isFloor se_X6_isFloor (by decide) rfl (c_X6_isFloor eq1) rfl (Nat.le_of_ble_eq_true rfl) ?_
  refine ev_if_eq 15 dX6_worm_5 (by decide) (fun c2 => ?_) (fun c2 => ?_)
  · have h := am_t c2 h
    refine ev_ldc (v := ((-1000000001) : Int32)) dX6_worm_15 tw_239 ?_
    obtain rfl := Option.some.inj h
    exact ev_iret dX6_worm_17 rfl rfl
  · have h := am_e c2 h
    refine ev_iload_n dX6_worm_8 2 rfl ?_
    obtain ⟨q3, eq3, h⟩ := am_bd h
    refine px_callsi [.int l2] dX6_worm_9 ok_X6_isCell lk_RX6_146 st_X6_isCell (by decide) rfl (c_X6_isCell eq3) rfl (Nat.le_of_ble_eq_true rfl) ?_
    refine ev_if_ne 18 dX6_worm_12 (by decide) (fun c4 => ?_) (fun c4 => ?_)
    · have h := am_e c4 h
      refine ev_aload_n dX6_worm_18 0 rfl trivial ?_
      refine px_getR dX6_worm_19 gf_RX6_14 (at6 rfl) (by decide) rfl ?_
      refine px_getR dX6_worm_22 gf_RX6_85 (at5 rfl) (by decide) rfl ?_
      refine ev_iload_n dX6_worm_25 1 rfl ?_
      obtain ⟨g5, h⟩ := am_gd h
      refine px_aald3 (n := 6) dX6_worm_26 rfl rfl g5 ?_
      refine ev_astore_n (L' := [(3, .ref (5 + 2 * l1.toNatClampNeg)), (0, .ref 0), (1, .int l1), (2, .int l2)]) dX6_worm_27 trivial (by decide) rfl ?_
      refine ev_iload_n dX6_worm_28 3 rfl ?_
      obtain ⟨q6, eq6, h⟩ := am_bd h
      refine px_callsi [.int l2] dX6_worm_29 ok_X6_nextOf lk_RX6_173 st_X6_nextOf (by decide) rfl (c_X6_nextOf eq6) rfl (Nat.le_of_ble_eq_true rfl) ?_
      refine ev_istore (L' := [(4, .int q6.2), (3, .ref (5 + 2 * l1.toNatClampNeg)), (0, .ref 0), (1, .int l1), (2, .int l2)]) dX6_worm_32 (by decide) rfl ?_
      refine ev_iload_n dX6_worm_34 4 rfl ?_
      obtain ⟨q7, eq7, h⟩ := am_bd h
      refine px_callsi [.int l2] dX6_worm_35 ok_X6_aheadOf lk_RX6_193 st_X6_aheadOf (by decide) rfl (c_X6_aheadOf eq7) rfl (Nat.le_of_ble_eq_true rfl) ?_
      refine ev_istore (L' := [(5, .int q7.2), (4, .int q6.2), (3, .ref (5 + 2 * l1.toNatClampNeg)), (0, .ref 0), (1, .int l1), (2, .int l2)]) dX6_worm_38 (by decide) rfl ?_
      refine ev_aload_n dX6_worm_40 2 rfl trivial ?_
      obtain ⟨g8, h⟩ := am_gd h
      refine px_getR dX6_worm_41 gf_RX6_149 (at0 g8) (by decide) rfl ?_
      refine ev_iload dX6_worm_44 0 rfl ?_
      obtain ⟨g9, h⟩ := am_gd h
      refine px_iald (n := 24) q7.2.toNatClampNeg dX6_worm_46 (il0 g8) g9 rfl ?_
      refine ev_aload_n dX6_worm_47 2 rfl trivial ?_
      refine px_getR dX6_worm_48 gf_RX6_149 (at0 g8) (by decide) rfl ?_
      refine ev_iload_n dX6_worm_51 5 rfl ?_
      obtain ⟨g10, h⟩ := am_gd h
      refine px_iald (n := 24) l2.toNatClampNeg dX6_worm_52 (il0 g8) g10 rfl ?_
      refine ev_iadd dX6_worm_53 ?_
      refine ev_aload_n dX6_worm_54 2 rfl trivial ?_
      refine px_getR dX6_worm_55 gf_RX6_149 (at0 g8) (by decide) rfl ?_
      refine ev_iload dX6_worm_58 1 rfl ?_
      obtain ⟨g11, h⟩ := am_gd h
      refine px_iald (n := 24) q6.2.toNatClampNeg dX6_worm_60 (il0 g8) g11 rfl ?_
      refine ev_iadd dX6_worm_61 ?_
      obtain ⟨x12, ex12, h⟩ := am_lt h
      refine px_top ex12 ?_
      refine ev_istore (L' := [(6, .int x12), (5, .int q7.2), (4, .int q6.2), (3, .ref (5 + 2 * l1.toNatClampNeg)), (0, .ref 0), (1, .int l1), (2, .int l2)]) dX6_worm_62 (by decide) rfl ?_
      refine ev_aload_n dX6_worm_64 3 rfl trivial ?_
      refine px_getR dX6_worm_65 gf_RX6_149 (at0 g8) (by decide) rfl ?_
      refine ev_iload dX6_worm_68 1 rfl ?_
      refine ev_iload dX6_worm_70 0 rfl ?_
      refine ev_iconst (v := (3 : Int32)) dX6_worm_72 kI_3 ?_
      refine ev_idiv dX6_worm_73 (by decide) ?_
      obtain ⟨u13, eu13, h⟩ := am_lt h
      refine px_iast (n := 24) q7.2.toNatClampNeg dX6_worm_74 (il0 g8) g9 rfl eu13 ?_
      refine ev_aload_n dX6_worm_75 3 rfl trivial ?_
      refine px_getR dX6_worm_76 gf_RX6_149 (at0 g8) (by decide) rfl ?_
      refine ev_iload dX6_worm_79 2 rfl ?_
      refine ev_iload dX6_worm_81 0 rfl ?_
      refine ev_iconst (v := (3 : Int32)) dX6_worm_83 kI_3 ?_
      refine ev_idiv dX6_worm_84 (by decide) ?_
      obtain ⟨u14, eu14, h⟩ := am_lt h
      refine px_iast (n := 24) q6.2.toNatClampNeg dX6_worm_85 (il0 g8) g11 rfl eu14 ?_
      refine ev_aload_n dX6_worm_86 3 rfl trivial ?_
      refine px_getR dX6_worm_87 gf_RX6_149 (at0 g8) (by decide) rfl ?_
      refine ev_iload_n dX6_worm_90 6 rfl ?_
      refine ev_iload dX6_worm_91 0 rfl ?_
      refine ev_iload dX6_worm_93 0 rfl ?_
      refine ev_iconst (v := (3 : Int32)) dX6_worm_95 kI_3 ?_
      refine ev_idiv dX6_worm_96 (by decide) ?_
      refine ev_iconst (v := (2 : Int32)) dX6_worm_97 kI_2 ?_
      refine ev_imul dX6_worm_98 ?_
      refine ev_isub dX6_worm_99 ?_
      obtain ⟨u15, eu15, h⟩ := am_lt h
      refine px_iast (n := 24) l2.toNatClampNeg dX6_worm_100 (il0 g8) g10 rfl eu15 ?_
      refine ev_aload_n dX6_worm_101 3 rfl trivial ?_
      refine px_getR dX6_worm_102 gf_RX6_149 (at0 g8) (by decide) rfl ?_
      refine ev_iload_n dX6_worm_105 6 rfl ?_
      refine px_iald (n := 24) l2.toNatClampNeg dX6_worm_106 (il0 g8) g10 rfl ?_
      obtain rfl := Option.some.inj h
      exact ev_iret dX6_worm_107 rfl rfl
    · have h := am_t c4 h
      refine ev_ldc (v := ((-1000000001) : Int32)) dX6_worm_15 tw_239 ?_
      obtain rfl := Option.some.inj h
      exact ev_iret dX6_worm_17 rfl rfl

theorem c_X6_worm {X : Nat × (Nat → Int32)} {u : am_MU} {l1 : Int32} {l2 : Int32} {r : am_MU × Int32} (h : f_X6_worm u l1 l2 = some r) : am_Cn X M_X6_worm [.ref 0, .int l1, .int l2] (hp u) (hp r.1, some (.int r.2)) := by
  refine am_Cn.of ok_X6_worm (Nat.le_refl _) (Nat.le_refl _) (Nat.le_of_ble_eq_true rfl) ?_
  refine ev_loc [0, 1, 2] rfl ?_
  exact l_X6_worm_0 u l1 l2 r h

-- SandRipples.press(II)I
def g_X6_press_40  : Nat → am_MU → Int32 → Nat → Int32 → Int32 → Option (am_MU × Int32)
  | 0 => fun _ _ _ _ _ => none
  | n + 1 => fun u l2 l3 l4 l5 =>
if (24 : Int32) ≤ l5 then (if tg l3 = 0 then (
(f_X0_total u l3).bind fun q2 =>
some (q2.1, l4 - q2.2)) else none)
else (if tg l3 = 0 then (
if am_in l5 24 then (
am_let (am_u2 u (l3 + 1) l5.toNatClampNeg (((u (l3 + 1) l5.toNatClampNeg) * l2) / (100 : Int32))) fun u6 =>
am_let (l5 + (1 : Int32)) fun x7 =>
g_X6_press_40 n u6 l2 l3 l4 x7) else none) else none)

def f_X6_press  (u : am_MU) (l1 : Int32) (l2 : Int32) : Option (am_MU × Int32) :=
(f_X6_isFloor u l1).bind fun q1 =>
if q1.2 = 0 then (some (q1.1, ((-1000000001) : Int32)))
else (if l2 < 0 then (some (q1.1, ((-1000000001) : Int32)))
else (if l2 ≤ (100 : Int32) then (if am_in l1 6 then (
if tg (5 + 2 * l1.toNatClampNeg) = 0 then (
(f_X0_total q1.1 (5 + 2 * l1.toNatClampNeg)).bind fun q6 =>
g_X6_press_40 1700 q6.1 l2 (5 + 2 * l1.toNatClampNeg) q6.2 (0 : Int32)) else none) else none)
else (some (q1.1, ((-1000000001) : Int32)))))

theorem l_X6_press_40 {X : Nat × (Nat → Int32)}   : ∀ (n : Nat) (u : am_MU) (l2 : Int32) (l3 : Nat) (l4 : Int32) (l5 : Int32) (r : am_MU × Int32), g_X6_press_40  n u l2 l3 l4 l5 = some r → am_Ev X M_X6_press 40 [(2, .int l2), (3, .ref l3), (4, .int l4), (5, .int l5)] [] (hp u) (hp r.1, some (.int r.2)) := by
  intro n
  induction n with
  | zero => intro u l2 l3 l4 l5 r h; cases h
  | succ n ih =>
    intro u l2 l3 l4 l5 r h
    rw [g_X6_press_40] at h
    refine ev_iload dX6_press_40 3 rfl ?_
    refine ev_bipush (v := (24 : Int32)) dX6_press_42 kB_24 ?_
    refine ev_icmp_ge 72 dX6_press_44 (by decide) (fun c1 => ?_) (fun c1 => ?_)
    · have h := am_t c1 h
      refine ev_iload dX6_press_72 2 rfl ?_
      refine ev_aload_n dX6_press_74 1 rfl trivial ?_
      obtain ⟨g3, h⟩ := am_gd h
      obtain ⟨q2, eq2, h⟩ := am_bd h
      refine px_callvi [] (by decide) cl_0 (at0 g3) dX6_press_75 ok_X0_total lk_RX6_103 in_X0_total se_X0_total (by decide) rfl (c_X0_total eq2) rfl (Nat.le_of_ble_eq_true rfl) ?_
      refine ev_isub dX6_press_78 ?_
      obtain rfl := Option.some.inj h
      exact ev_iret dX6_press_79 rfl rfl
    · have h := am_e c1 h
      refine ev_aload_n dX6_press_47 1 rfl trivial ?_
      obtain ⟨g4, h⟩ := am_gd h
      refine px_getR dX6_press_48 gf_RX6_149 (at0 g4) (by decide) rfl ?_
      refine ev_iload dX6_press_51 3 rfl ?_
      refine ev_aload_n dX6_press_53 1 rfl trivial ?_
      refine px_getR dX6_press_54 gf_RX6_149 (at0 g4) (by decide) rfl ?_
      refine ev_iload dX6_press_57 3 rfl ?_
      obtain ⟨g5, h⟩ := am_gd h
      refine px_iald (n := 24) l5.toNatClampNeg dX6_press_59 (il0 g4) g5 rfl ?_
      refine ev_iload_n dX6_press_60 0 rfl ?_
      refine ev_imul dX6_press_61 ?_
      refine ev_bipush (v := (100 : Int32)) dX6_press_62 kB_100 ?_
      refine ev_idiv dX6_press_64 (by decide) ?_
      obtain ⟨u6, eu6, h⟩ := am_lt h
      refine px_iast (n := 24) l5.toNatClampNeg dX6_press_65 (il0 g4) g5 rfl eu6 ?_
      obtain ⟨x7, ex7, h⟩ := am_lt h
      refine ev_iinc (v := x7) (L' := [(5, .int x7), (2, .int l2), (3, .ref l3), (4, .int l4)]) dX6_press_66 3 rfl (by rw [kI_1, ex7]) (by decide) rfl ?_
      refine ev_goto 40 dX6_press_69 (by decide) ?_
      refine ev_loc [1, 2, 3, 0] rfl ?_
      exact ih u6 l2 l3 l4 x7 _ h

theorem l_X6_press_0 {X : Nat × (Nat → Int32)}   (u : am_MU) (l1 : Int32) (l2 : Int32) (r : am_MU × Int32) (h : f_X6_press  u l1 l2 = some r) : am_Ev X M_X6_press 0 [(0, .ref 0), (1, .int l1), (2, .int l2)] [] (hp u) (hp r.1, some (.int r.2)) := by
  unfold f_X6_press at h
  refine ev_aload_n dX6_press_0 0 rfl trivial ?_
  refine ev_iload_n dX6_press_1 1 rfl ?_
  obtain ⟨q1, eq1, h⟩ := am_bd h
  refine px_callvi [.int l1] (by decide) cl_6 (at6 rfl) dX6_press_2 ok_X6_isFloor lk_RX6_94 in_X6_isFloor se_X6_isFloor (by decide) rfl (c_X6_isFloor eq1) rfl (Nat.le_of_ble_eq_true rfl) ?_
  refine ev_if_eq 18 dX6_press_5 (by decide) (fun c2 => ?_) (fun c2 => ?_)
  · have h := am_t c2 h
    refine ev_ldc (v := ((-1000000001) : Int32)) dX6_press_18 tw_239 ?_
    obtain rfl := Option.some.inj h
    exact ev_iret dX6_press_20 rfl rfl
  · have h := am_e c2 h
    refine ev_iload_n dX6_press_8 2 rfl ?_
    refine ev_if_lt 18 dX6_press_9 (by decide) (fun c3 => ?_) (fun c3 => ?_)
    · have h := am_t c3 h
      refine ev_ldc (v := ((-1000000001) : Int32)) dX6_press_18 tw_239 ?_
      obtain rfl := Option.some.inj h
      exact ev_iret dX6_press_20 rfl rfl
    · have h := am_e c3 h
      refine ev_iload_n dX6_press_12 2 rfl ?_
      refine ev_bipush (v := (100 : Int32)) dX6_press_13 kB_100 ?_
      refine ev_icmp_le 21 dX6_press_15 (by decide) (fun c4 => ?_) (fun c4 => ?_)
      · have h := am_t c4 h
        refine ev_aload_n dX6_press_21 0 rfl trivial ?_
        refine px_getR dX6_press_22 gf_RX6_14 (at6 rfl) (by decide) rfl ?_
        refine px_getR dX6_press_25 gf_RX6_85 (at5 rfl) (by decide) rfl ?_
        refine ev_iload_n dX6_press_28 1 rfl ?_
        obtain ⟨g5, h⟩ := am_gd h
        refine px_aald3 (n := 6) dX6_press_29 rfl rfl g5 ?_
        refine ev_astore_n (L' := [(3, .ref (5 + 2 * l1.toNatClampNeg)), (0, .ref 0), (1, .int l1), (2, .int l2)]) dX6_press_30 trivial (by decide) rfl ?_
        refine ev_aload_n dX6_press_31 0 rfl trivial ?_
        obtain ⟨g7, h⟩ := am_gd h
        obtain ⟨q6, eq6, h⟩ := am_bd h
        refine px_callvi [] (by decide) cl_0 (at0 g7) dX6_press_32 ok_X0_total lk_RX6_103 in_X0_total se_X0_total (by decide) rfl (c_X0_total eq6) rfl (Nat.le_of_ble_eq_true rfl) ?_
        refine ev_istore (L' := [(4, .int q6.2), (3, .ref (5 + 2 * l1.toNatClampNeg)), (0, .ref 0), (1, .int l1), (2, .int l2)]) dX6_press_35 (by decide) rfl ?_
        refine ev_iconst (v := (0 : Int32)) dX6_press_37 kI_0 ?_
        refine ev_istore (L' := [(5, .int (0 : Int32)), (4, .int q6.2), (3, .ref (5 + 2 * l1.toNatClampNeg)), (0, .ref 0), (1, .int l1), (2, .int l2)]) dX6_press_38 (by decide) rfl ?_
        refine ev_loc [5, 2, 1, 0] rfl ?_
        exact l_X6_press_40   1700 q6.1 l2 (5 + 2 * l1.toNatClampNeg) q6.2 (0 : Int32) _ h
      · have h := am_e c4 h
        refine ev_ldc (v := ((-1000000001) : Int32)) dX6_press_18 tw_239 ?_
        obtain rfl := Option.some.inj h
        exact ev_iret dX6_press_20 rfl rfl

theorem c_X6_press {X : Nat × (Nat → Int32)} {u : am_MU} {l1 : Int32} {l2 : Int32} {r : am_MU × Int32} (h : f_X6_press u l1 l2 = some r) : am_Cn X M_X6_press [.ref 0, .int l1, .int l2] (hp u) (hp r.1, some (.int r.2)) := by
  refine am_Cn.of ok_X6_press (Nat.le_refl _) (Nat.le_refl _) (Nat.le_of_ble_eq_true rfl) ?_
  refine ev_loc [0, 1, 2] rfl ?_
  exact l_X6_press_0 u l1 l2 r h

-- SandRipples.unlike(II)I
def f_X6_unlike  (u : am_MU) (l1 : Int32) (l2 : Int32) : Option (am_MU × Int32) :=
(f_X6_isFloor u l1).bind fun q1 =>
if q1.2 = 0 then (some (q1.1, ((-1000000001) : Int32)))
else ((f_X6_isFloor q1.1 l2).bind fun q3 =>
if q3.2 = 0 then (some (q3.1, ((-1000000001) : Int32)))
else (if am_in l1 6 then (
if am_in l2 6 then (
if tg (5 + 2 * l1.toNatClampNeg) = 0 then (
(f_X0_unlikeTurned q3.1 (5 + 2 * l1.toNatClampNeg) (5 + 2 * l2.toNatClampNeg) (0 : Int32)).bind fun q7 =>
some (q7.1, q7.2)) else none) else none) else none))

theorem l_X6_unlike_0 {X : Nat × (Nat → Int32)}   (u : am_MU) (l1 : Int32) (l2 : Int32) (r : am_MU × Int32) (h : f_X6_unlike  u l1 l2 = some r) : am_Ev X M_X6_unlike 0 [(0, .ref 0), (1, .int l1), (2, .int l2)] [] (hp u) (hp r.1, some (.int r.2)) := by
  unfold f_X6_unlike at h
  refine ev_aload_n dX6_unlike_0 0 rfl trivial ?_
  refine ev_iload_n dX6_unlike_1 1 rfl ?_
  obtain ⟨q1, eq1, h⟩ := am_bd h
  refine px_callvi [.int l1] (by decide) cl_6 (at6 rfl) dX6_unlike_2 ok_X6_isFloor lk_RX6_94 in_X6_isFloor se_X6_isFloor (by decide) rfl (c_X6_isFloor eq1) rfl (Nat.le_of_ble_eq_true rfl) ?_
  refine ev_if_eq 16 dX6_unlike_5 (by decide) (fun c2 => ?_) (fun c2 => ?_)
  · have h := am_t c2 h
    refine ev_ldc (v := ((-1000000001) : Int32)) dX6_unlike_16 tw_239 ?_
    obtain rfl := Option.some.inj h
    exact ev_iret dX6_unlike_18 rfl rfl
  · have h := am_e c2 h
    refine ev_aload_n dX6_unlike_8 0 rfl trivial ?_
    refine ev_iload_n dX6_unlike_9 2 rfl ?_
    obtain ⟨q3, eq3, h⟩ := am_bd h
    refine px_callvi [.int l2] (by decide) cl_6 (at6 rfl) dX6_unlike_10 ok_X6_isFloor lk_RX6_94 in_X6_isFloor se_X6_isFloor (by decide) rfl (c_X6_isFloor eq3) rfl (Nat.le_of_ble_eq_true rfl) ?_
    refine ev_if_ne 19 dX6_unlike_13 (by decide) (fun c4 => ?_) (fun c4 => ?_)
    · have h := am_e c4 h
      refine ev_aload_n dX6_unlike_19 0 rfl trivial ?_
      refine px_getR dX6_unlike_20 gf_RX6_14 (at6 rfl) (by decide) rfl ?_
      refine px_getR dX6_unlike_23 gf_RX6_85 (at5 rfl) (by decide) rfl ?_
      refine ev_iload_n dX6_unlike_26 1 rfl ?_
      obtain ⟨g5, h⟩ := am_gd h
      refine px_aald3 (n := 6) dX6_unlike_27 rfl rfl g5 ?_
      refine ev_aload_n dX6_unlike_28 0 rfl trivial ?_
      refine px_getR dX6_unlike_29 gf_RX6_14 (at6 rfl) (by decide) rfl ?_
      refine px_getR dX6_unlike_32 gf_RX6_85 (at5 rfl) (by decide) rfl ?_
      refine ev_iload_n dX6_unlike_35 2 rfl ?_
      obtain ⟨g6, h⟩ := am_gd h
      refine px_aald3 (n := 6) dX6_unlike_36 rfl rfl g6 ?_
      refine ev_iconst (v := (0 : Int32)) dX6_unlike_37 kI_0 ?_
      obtain ⟨g8, h⟩ := am_gd h
      obtain ⟨q7, eq7, h⟩ := am_bd h
      refine px_callvi [.ref (5 + 2 * l2.toNatClampNeg), .int (0 : Int32)] (by decide) cl_0 (at0 g8) dX6_unlike_38 ok_X0_unlikeTurned lk_RX6_185 in_X0_unlikeTurned se_X0_unlikeTurned (by decide) rfl (c_X0_unlikeTurned eq7) rfl (Nat.le_of_ble_eq_true rfl) ?_
      obtain rfl := Option.some.inj h
      exact ev_iret dX6_unlike_41 rfl rfl
    · have h := am_t c4 h
      refine ev_ldc (v := ((-1000000001) : Int32)) dX6_unlike_16 tw_239 ?_
      obtain rfl := Option.some.inj h
      exact ev_iret dX6_unlike_18 rfl rfl

theorem c_X6_unlike {X : Nat × (Nat → Int32)} {u : am_MU} {l1 : Int32} {l2 : Int32} {r : am_MU × Int32} (h : f_X6_unlike u l1 l2 = some r) : am_Cn X M_X6_unlike [.ref 0, .int l1, .int l2] (hp u) (hp r.1, some (.int r.2)) := by
  refine am_Cn.of ok_X6_unlike (Nat.le_refl _) (Nat.le_refl _) (Nat.le_of_ble_eq_true rfl) ?_
  refine ev_loc [0, 1, 2] rfl ?_
  exact l_X6_unlike_0 u l1 l2 r h

-- SandRipples.turned(III)I
def g_X6_turned_85 (K38 : am_MU → Int32 → Int32 → Int32 → Int32 → Int32 → Int32 → Option (am_MU × Int32)) (u : am_MU) (l1 : Int32) (l2 : Int32) (l3 : Int32) (l4 : Int32) (l5 : Int32) (l6 : Int32) : Option (am_MU × Int32) :=
am_let (l6 + (1 : Int32)) fun x1 =>
K38 u l1 l2 l3 l4 l5 x1

def g_X6_turned_38  : Nat → am_MU → Int32 → Int32 → Int32 → Int32 → Int32 → Int32 → Option (am_MU × Int32)
  | 0 => fun _ _ _ _ _ _ _ => none
  | n + 1 => fun u l1 l2 l3 l4 l5 l6 =>
if (24 : Int32) ≤ l6 then (if l3 = 0 then (some (u, l4))
else (some (u, l5)))
else (if am_in l1 6 then (
if am_in l2 6 then (
if tg (5 + 2 * l1.toNatClampNeg) = 0 then (
(f_X0_unlikeTurned u (5 + 2 * l1.toNatClampNeg) (5 + 2 * l2.toNatClampNeg) l6).bind fun q5 =>
if l5 ≤ q5.2 then (g_X6_turned_85 (g_X6_turned_38 n) q5.1 l1 l2 l3 l4 l5 l6)
else (g_X6_turned_85 (g_X6_turned_38 n) q5.1 l1 l2 l3 l6 q5.2 l6)) else none) else none) else none)

def f_X6_turned  (u : am_MU) (l1 : Int32) (l2 : Int32) (l3 : Int32) : Option (am_MU × Int32) :=
(f_X6_isFloor u l1).bind fun q1 =>
if q1.2 = 0 then (some (q1.1, ((-1000000001) : Int32)))
else ((f_X6_isFloor q1.1 l2).bind fun q3 =>
if q3.2 = 0 then (some (q3.1, ((-1000000001) : Int32)))
else (if l3 < 0 then (some (q3.1, ((-1000000001) : Int32)))
else (if l3 ≤ (1 : Int32) then (g_X6_turned_38 1700 q3.1 l1 l2 l3 (0 : Int32) (25 : Int32) (0 : Int32))
else (some (q3.1, ((-1000000001) : Int32))))))

theorem l_X6_turned_85 {X : Nat × (Nat → Int32)} (K38 : am_MU → Int32 → Int32 → Int32 → Int32 → Int32 → Int32 → Option (am_MU × Int32)) (hK38 : ∀ (u : am_MU) (l1 : Int32) (l2 : Int32) (l3 : Int32) (l4 : Int32) (l5 : Int32) (l6 : Int32) (r : am_MU × Int32), K38 u l1 l2 l3 l4 l5 l6 = some r → am_Ev X M_X6_turned 38 [(0, .ref 0), (1, .int l1), (2, .int l2), (3, .int l3), (4, .int l4), (5, .int l5), (6, .int l6)] [] (hp u) (hp r.1, some (.int r.2))) (u : am_MU) (l1 : Int32) (l2 : Int32) (l3 : Int32) (l4 : Int32) (l5 : Int32) (l6 : Int32) (r : am_MU × Int32) (h : g_X6_turned_85 K38 u l1 l2 l3 l4 l5 l6 = some r) : am_Ev X M_X6_turned 85 [(0, .ref 0), (1, .int l1), (2, .int l2), (3, .int l3), (4, .int l4), (5, .int l5), (6, .int l6)] [] (hp u) (hp r.1, some (.int r.2)) := by
  unfold g_X6_turned_85 at h
  obtain ⟨x1, ex1, h⟩ := am_lt h
  refine ev_iinc (v := x1) (L' := [(6, .int x1), (0, .ref 0), (1, .int l1), (2, .int l2), (3, .int l3), (4, .int l4), (5, .int l5)]) dX6_turned_85 6 rfl (by rw [kI_1, ex1]) (by decide) rfl ?_
  refine ev_goto 38 dX6_turned_88 (by decide) ?_
  refine ev_loc [1, 2, 3, 4, 5, 6, 0] rfl ?_
  exact hK38 u l1 l2 l3 l4 l5 x1 _ h

theorem l_X6_turned_38 {X : Nat × (Nat → Int32)}   : ∀ (n : Nat) (u : am_MU) (l1 : Int32) (l2 : Int32) (l3 : Int32) (l4 : Int32) (l5 : Int32) (l6 : Int32) (r : am_MU × Int32), g_X6_turned_38  n u l1 l2 l3 l4 l5 l6 = some r → am_Ev X M_X6_turned 38 [(0, .ref 0), (1, .int l1), (2, .int l2), (3, .int l3), (4, .int l4), (5, .int l5), (6, .int l6)] [] (hp u) (hp r.1, some (.int r.2)) := by
  intro n
  induction n with
  | zero => intro u l1 l2 l3 l4 l5 l6 r h; cases h
  | succ n ih =>
    intro u l1 l2 l3 l4 l5 l6 r h
    rw [g_X6_turned_38] at h
    refine ev_iload dX6_turned_38 6 rfl ?_
    refine ev_bipush (v := (24 : Int32)) dX6_turned_40 kB_24 ?_
    refine ev_icmp_ge 91 dX6_turned_42 (by decide) (fun c1 => ?_) (fun c1 => ?_)
    · have h := am_t c1 h
      refine ev_iload_n dX6_turned_91 3 rfl ?_
      refine ev_if_ne 100 dX6_turned_92 (by decide) (fun c2 => ?_) (fun c2 => ?_)
      · have h := am_e c2 h
        refine ev_iload dX6_turned_100 5 rfl ?_
        obtain rfl := Option.some.inj h
        exact ev_iret dX6_turned_102 rfl rfl
      · have h := am_t c2 h
        refine ev_iload dX6_turned_95 4 rfl ?_
        refine ev_goto 102 dX6_turned_97 (by decide) ?_
        obtain rfl := Option.some.inj h
        exact ev_iret dX6_turned_102 rfl rfl
    · have h := am_e c1 h
      refine ev_aload_n dX6_turned_45 0 rfl trivial ?_
      refine px_getR dX6_turned_46 gf_RX6_14 (at6 rfl) (by decide) rfl ?_
      refine px_getR dX6_turned_49 gf_RX6_85 (at5 rfl) (by decide) rfl ?_
      refine ev_iload_n dX6_turned_52 1 rfl ?_
      obtain ⟨g3, h⟩ := am_gd h
      refine px_aald3 (n := 6) dX6_turned_53 rfl rfl g3 ?_
      refine ev_aload_n dX6_turned_54 0 rfl trivial ?_
      refine px_getR dX6_turned_55 gf_RX6_14 (at6 rfl) (by decide) rfl ?_
      refine px_getR dX6_turned_58 gf_RX6_85 (at5 rfl) (by decide) rfl ?_
      refine ev_iload_n dX6_turned_61 2 rfl ?_
      obtain ⟨g4, h⟩ := am_gd h
      refine px_aald3 (n := 6) dX6_turned_62 rfl rfl g4 ?_
      refine ev_iload dX6_turned_63 6 rfl ?_
      obtain ⟨g6, h⟩ := am_gd h
      obtain ⟨q5, eq5, h⟩ := am_bd h
      refine px_callvi [.ref (5 + 2 * l2.toNatClampNeg), .int l6] (by decide) cl_0 (at0 g6) dX6_turned_65 ok_X0_unlikeTurned lk_RX6_185 in_X0_unlikeTurned se_X0_unlikeTurned (by decide) rfl (c_X0_unlikeTurned eq5) rfl (Nat.le_of_ble_eq_true rfl) ?_
      refine ev_istore (L' := [(7, .int q5.2), (0, .ref 0), (1, .int l1), (2, .int l2), (3, .int l3), (4, .int l4), (5, .int l5), (6, .int l6)]) dX6_turned_68 (by decide) rfl ?_
      refine ev_iload dX6_turned_70 0 rfl ?_
      refine ev_iload dX6_turned_72 6 rfl ?_
      refine ev_icmp_ge 85 dX6_turned_74 (by decide) (fun c7 => ?_) (fun c7 => ?_)
      · have h := am_t c7 h
        refine ev_loc [1, 2, 3, 4, 5, 6, 7] rfl ?_
        exact l_X6_turned_85 (g_X6_turned_38 n) (fun u l1 l2 l3 l4 l5 l6 r h => ih u l1 l2 l3 l4 l5 l6 r h) q5.1 l1 l2 l3 l4 l5 l6 _ h
      · have h := am_e c7 h
        refine ev_iload dX6_turned_77 0 rfl ?_
        refine ev_istore (L' := [(5, .int q5.2), (7, .int q5.2), (0, .ref 0), (1, .int l1), (2, .int l2), (3, .int l3), (4, .int l4), (6, .int l6)]) dX6_turned_79 (by decide) rfl ?_
        refine ev_iload dX6_turned_81 7 rfl ?_
        refine ev_istore (L' := [(4, .int l6), (5, .int q5.2), (7, .int q5.2), (0, .ref 0), (1, .int l1), (2, .int l2), (3, .int l3), (6, .int l6)]) dX6_turned_83 (by decide) rfl ?_
        refine ev_loc [3, 4, 5, 6, 0, 1, 7] rfl ?_
        exact l_X6_turned_85 (g_X6_turned_38 n) (fun u l1 l2 l3 l4 l5 l6 r h => ih u l1 l2 l3 l4 l5 l6 r h) q5.1 l1 l2 l3 l6 q5.2 l6 _ h

theorem l_X6_turned_0 {X : Nat × (Nat → Int32)}   (u : am_MU) (l1 : Int32) (l2 : Int32) (l3 : Int32) (r : am_MU × Int32) (h : f_X6_turned  u l1 l2 l3 = some r) : am_Ev X M_X6_turned 0 [(0, .ref 0), (1, .int l1), (2, .int l2), (3, .int l3)] [] (hp u) (hp r.1, some (.int r.2)) := by
  unfold f_X6_turned at h
  refine ev_aload_n dX6_turned_0 0 rfl trivial ?_
  refine ev_iload_n dX6_turned_1 1 rfl ?_
  obtain ⟨q1, eq1, h⟩ := am_bd h
  refine px_callvi [.int l1] (by decide) cl_6 (at6 rfl) dX6_turned_2 ok_X6_isFloor lk_RX6_94 in_X6_isFloor se_X6_isFloor (by decide) rfl (c_X6_isFloor eq1) rfl (Nat.le_of_ble_eq_true rfl) ?_
  refine ev_if_eq 25 dX6_turned_5 (by decide) (fun c2 => ?_) (fun c2 => ?_)
  · have h := am_t c2 h
    refine ev_ldc (v := ((-1000000001) : Int32)) dX6_turned_25 tw_239 ?_
    obtain rfl := Option.some.inj h
    exact ev_iret dX6_turned_27 rfl rfl
  · have h := am_e c2 h
    refine ev_aload_n dX6_turned_8 0 rfl trivial ?_
    refine ev_iload_n dX6_turned_9 2 rfl ?_
    obtain ⟨q3, eq3, h⟩ := am_bd h
    refine px_callvi [.int l2] (by decide) cl_6 (at6 rfl) dX6_turned_10 ok_X6_isFloor lk_RX6_94 in_X6_isFloor se_X6_isFloor (by decide) rfl (c_X6_isFloor eq3) rfl (Nat.le_of_ble_eq_true rfl) ?_
    refine ev_if_eq 25 dX6_turned_13 (by decide) (fun c4 => ?_) (fun c4 => ?_)
    · have h := am_t c4 h
      refine ev_ldc (v := ((-1000000001) : Int32)) dX6_turned_25 tw_239 ?_
      obtain rfl := Option.some.inj h
      exact ev_iret dX6_turned_27 rfl rfl
    · have h := am_e c4 h
      refine ev_iload_n dX6_turned_16 3 rfl ?_
      refine ev_if_lt 25 dX6_turned_17 (by decide) (fun c5 => ?_) (fun c5 => ?_)
      · have h := am_t c5 h
        refine ev_ldc (v := ((-1000000001) : Int32)) dX6_turned_25 tw_239 ?_
        obtain rfl := Option.some.inj h
        exact ev_iret dX6_turned_27 rfl rfl
      · have h := am_e c5 h
        refine ev_iload_n dX6_turned_20 3 rfl ?_
        refine ev_iconst (v := (1 : Int32)) dX6_turned_21 kI_1 ?_
        refine ev_icmp_le 28 dX6_turned_22 (by decide) (fun c6 => ?_) (fun c6 => ?_)
        · have h := am_t c6 h
          refine ev_iconst (v := (0 : Int32)) dX6_turned_28 kI_0 ?_
          refine ev_istore (L' := [(4, .int (0 : Int32)), (0, .ref 0), (1, .int l1), (2, .int l2), (3, .int l3)]) dX6_turned_29 (by decide) rfl ?_
          refine ev_bipush (v := (25 : Int32)) dX6_turned_31 kB_25 ?_
          refine ev_istore (L' := [(5, .int (25 : Int32)), (4, .int (0 : Int32)), (0, .ref 0), (1, .int l1), (2, .int l2), (3, .int l3)]) dX6_turned_33 (by decide) rfl ?_
          refine ev_iconst (v := (0 : Int32)) dX6_turned_35 kI_0 ?_
          refine ev_istore (L' := [(6, .int (0 : Int32)), (5, .int (25 : Int32)), (4, .int (0 : Int32)), (0, .ref 0), (1, .int l1), (2, .int l2), (3, .int l3)]) dX6_turned_36 (by decide) rfl ?_
          refine ev_loc [3, 4, 5, 6, 2, 1, 0] rfl ?_
          exact l_X6_turned_38   1700 q3.1 l1 l2 l3 (0 : Int32) (25 : Int32) (0 : Int32) _ h
        · have h := am_e c6 h
          refine ev_ldc (v := ((-1000000001) : Int32)) dX6_turned_25 tw_239 ?_
          obtain rfl := Option.some.inj h
          exact ev_iret dX6_turned_27 rfl rfl

theorem c_X6_turned {X : Nat × (Nat → Int32)} {u : am_MU} {l1 : Int32} {l2 : Int32} {l3 : Int32} {r : am_MU × Int32} (h : f_X6_turned u l1 l2 l3 = some r) : am_Cn X M_X6_turned [.ref 0, .int l1, .int l2, .int l3] (hp u) (hp r.1, some (.int r.2)) := by
  refine am_Cn.of ok_X6_turned (Nat.le_refl _) (Nat.le_refl _) (Nat.le_of_ble_eq_true rfl) ?_
  refine ev_loc [0, 1, 2, 3] rfl ?_
  exact l_X6_turned_0 u l1 l2 l3 r h

-- SandRipples.isSheet(I)Z
def f_X6_isSheet  (u : am_MU) (l0 : Int32) : Option (am_MU × Int32) :=
if l0 < 0 then (some (u, (0 : Int32)))
else (if (4 : Int32) ≤ l0 then (some (u, (0 : Int32)))
else (some (u, (1 : Int32))))

theorem l_X6_isSheet_0 {X : Nat × (Nat → Int32)}   (u : am_MU) (l0 : Int32) (r : am_MU × Int32) (h : f_X6_isSheet  u l0 = some r) : am_Ev X M_X6_isSheet 0 [(0, .int l0)] [] (hp u) (hp r.1, some (.int r.2)) := by
  unfold f_X6_isSheet at h
  refine ev_iload_n dX6_isSheet_0 0 rfl ?_
  refine ev_if_lt 13 dX6_isSheet_1 (by decide) (fun c1 => ?_) (fun c1 => ?_)
  · have h := am_t c1 h
    refine ev_iconst (v := (0 : Int32)) dX6_isSheet_13 kI_0 ?_
    obtain rfl := Option.some.inj h
    exact ev_iret dX6_isSheet_14 rfl (am_zn (Or.inl rfl))
  · have h := am_e c1 h
    refine ev_iload_n dX6_isSheet_4 0 rfl ?_
    refine ev_iconst (v := (4 : Int32)) dX6_isSheet_5 kI_4 ?_
    refine ev_icmp_ge 13 dX6_isSheet_6 (by decide) (fun c2 => ?_) (fun c2 => ?_)
    · have h := am_t c2 h
      refine ev_iconst (v := (0 : Int32)) dX6_isSheet_13 kI_0 ?_
      obtain rfl := Option.some.inj h
      exact ev_iret dX6_isSheet_14 rfl (am_zn (Or.inl rfl))
    · have h := am_e c2 h
      refine ev_iconst (v := (1 : Int32)) dX6_isSheet_9 kI_1 ?_
      refine ev_goto 14 dX6_isSheet_10 (by decide) ?_
      obtain rfl := Option.some.inj h
      exact ev_iret dX6_isSheet_14 rfl (am_zn (Or.inr rfl))

theorem c_X6_isSheet {X : Nat × (Nat → Int32)} {u : am_MU} {l0 : Int32} {r : am_MU × Int32} (h : f_X6_isSheet u l0 = some r) : am_Cn X M_X6_isSheet [.int l0] (hp u) (hp r.1, some (.int r.2)) := by
  refine am_Cn.of ok_X6_isSheet (Nat.le_refl _) (Nat.le_refl _) (Nat.le_of_ble_eq_true rfl) ?_
  refine ev_loc [0] rfl ?_
  exact l_X6_isSheet_0 u l0 r h

-- SandRipples.thinkBehind(IIII)LSandRipples$Floor;
def g_X6_thinkBehind_24  : Nat → am_MU → Int32 → Nat → Int32 → Option (am_MU × Nat)
  | 0 => fun _ _ _ _ => none
  | n + 1 => fun u l4 l5 l6 =>
if l4 ≤ l6 then (some (u, l5))
else ((f_X6_oneTick u 33 l5).bind fun q2 =>
am_let (l6 + (1 : Int32)) fun x3 =>
g_X6_thinkBehind_24 n q2.1 l4 l5 x3)

def f_X6_thinkBehind  (u : am_MU) (l1 : Int32) (l2 : Int32) (l3 : Int32) (l4 : Int32) : Option (am_MU × Nat) :=
(f_X6_think u 1 l1).bind fun q1 =>
if am_in l2 4 then (
am_let (am_u2 q1.1 34 l2.toNatClampNeg l3) fun u3 =>
g_X6_thinkBehind_24 1700 u3 l4 q1.2 (0 : Int32)) else none

theorem l_X6_thinkBehind_24 {X : Nat × (Nat → Int32)}   : ∀ (n : Nat) (u : am_MU) (l4 : Int32) (l5 : Nat) (l6 : Int32) (r : am_MU × Nat), g_X6_thinkBehind_24  n u l4 l5 l6 = some r → am_Ev X M_X6_thinkBehind 24 [(0, .ref 0), (4, .int l4), (5, .ref l5), (6, .int l6)] [] (hp u) (hp r.1, some (.ref r.2)) := by
  intro n
  induction n with
  | zero => intro u l4 l5 l6 r h; cases h
  | succ n ih =>
    intro u l4 l5 l6 r h
    rw [g_X6_thinkBehind_24] at h
    refine ev_iload dX6_thinkBehind_24 3 rfl ?_
    refine ev_iload dX6_thinkBehind_26 1 rfl ?_
    refine ev_icmp_ge 48 dX6_thinkBehind_28 (by decide) (fun c1 => ?_) (fun c1 => ?_)
    · have h := am_t c1 h
      refine ev_aload dX6_thinkBehind_48 2 rfl trivial ?_
      obtain rfl := Option.some.inj h
      exact ev_aret dX6_thinkBehind_50 rfl (Or.inl ⟨_, rfl⟩)
    · have h := am_e c1 h
      refine ev_aload_n dX6_thinkBehind_31 0 rfl trivial ?_
      refine ev_aload_n dX6_thinkBehind_32 0 rfl trivial ?_
      refine px_getR dX6_thinkBehind_33 gf_RX6_25 (at6 rfl) (by decide) rfl ?_
      refine ev_aload dX6_thinkBehind_36 2 rfl trivial ?_
      obtain ⟨q2, eq2, h⟩ := am_bd h
      refine px_callvi [.ref 33, .ref l5] (by decide) cl_6 (at6 rfl) dX6_thinkBehind_38 ok_X6_oneTick lk_RX6_166 in_X6_oneTick se_X6_oneTick (by decide) rfl (c_X6_oneTick eq2) rfl (Nat.le_of_ble_eq_true rfl) ?_
      refine ev_pop dX6_thinkBehind_41 rfl ?_
      obtain ⟨x3, ex3, h⟩ := am_lt h
      refine ev_iinc (v := x3) (L' := [(6, .int x3), (0, .ref 0), (4, .int l4), (5, .ref l5)]) dX6_thinkBehind_42 3 rfl (by rw [kI_1, ex3]) (by decide) rfl ?_
      refine ev_goto 24 dX6_thinkBehind_45 (by decide) ?_
      refine ev_loc [1, 2, 3, 0] rfl ?_
      exact ih q2.1 l4 l5 x3 _ h

theorem l_X6_thinkBehind_0 {X : Nat × (Nat → Int32)}   (u : am_MU) (l1 : Int32) (l2 : Int32) (l3 : Int32) (l4 : Int32) (r : am_MU × Nat) (h : f_X6_thinkBehind  u l1 l2 l3 l4 = some r) : am_Ev X M_X6_thinkBehind 0 [(0, .ref 0), (1, .int l1), (2, .int l2), (3, .int l3), (4, .int l4)] [] (hp u) (hp r.1, some (.ref r.2)) := by
  unfold f_X6_thinkBehind at h
  refine ev_aload_n dX6_thinkBehind_0 0 rfl trivial ?_
  refine ev_aload_n dX6_thinkBehind_1 0 rfl trivial ?_
  refine px_getR dX6_thinkBehind_2 gf_RX6_14 (at6 rfl) (by decide) rfl ?_
  refine ev_iload_n dX6_thinkBehind_5 1 rfl ?_
  obtain ⟨q1, eq1, h⟩ := am_bd h
  refine px_callvr [.ref 1, .int l1] (by decide) cl_6 (at6 rfl) dX6_thinkBehind_6 ok_X6_think lk_RX6_181 in_X6_think se_X6_think (by decide) rfl (c_X6_think eq1) rfl (Nat.le_of_ble_eq_true rfl) ?_
  refine ev_astore (L' := [(5, .ref q1.2), (0, .ref 0), (1, .int l1), (2, .int l2), (3, .int l3), (4, .int l4)]) dX6_thinkBehind_9 trivial (by decide) rfl ?_
  refine ev_aload_n dX6_thinkBehind_11 1 rfl trivial ?_
  refine px_getR dX6_thinkBehind_12 gf_RX6_25 (at6 rfl) (by decide) rfl ?_
  refine px_getR dX6_thinkBehind_15 gf_RX6_143 (at5 rfl) (by decide) rfl ?_
  refine ev_iload_n dX6_thinkBehind_18 3 rfl ?_
  refine ev_iload_n dX6_thinkBehind_19 4 rfl ?_
  obtain ⟨g2, h⟩ := am_gd h
  obtain ⟨u3, eu3, h⟩ := am_lt h
  refine px_iast (n := 4) l2.toNatClampNeg dX6_thinkBehind_20 rfl g2 rfl eu3 ?_
  refine ev_iconst (v := (0 : Int32)) dX6_thinkBehind_21 kI_0 ?_
  refine ev_istore (L' := [(6, .int (0 : Int32)), (5, .ref q1.2), (0, .ref 0), (1, .int l1), (2, .int l2), (3, .int l3), (4, .int l4)]) dX6_thinkBehind_22 (by decide) rfl ?_
  refine ev_loc [2, 6, 1, 0] rfl ?_
  exact l_X6_thinkBehind_24   1700 u3 l4 q1.2 (0 : Int32) _ h

theorem c_X6_thinkBehind {X : Nat × (Nat → Int32)} {u : am_MU} {l1 : Int32} {l2 : Int32} {l3 : Int32} {l4 : Int32} {r : am_MU × Nat} (h : f_X6_thinkBehind u l1 l2 l3 l4 = some r) : am_Cn X M_X6_thinkBehind [.ref 0, .int l1, .int l2, .int l3, .int l4] (hp u) (hp r.1, some (.ref r.2)) := by
  refine am_Cn.of ok_X6_thinkBehind (Nat.le_refl _) (Nat.le_refl _) (Nat.le_of_ble_eq_true rfl) ?_
  refine ev_loc [0, 1, 2, 3, 4] rfl ?_
  exact l_X6_thinkBehind_0 u l1 l2 l3 l4 r h

