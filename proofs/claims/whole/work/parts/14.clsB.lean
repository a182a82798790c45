-- SandRipples$Sheet.hasPlace(I)Z
def f_X2_hasPlace  (u : am_MU) (l0 : Nat) (l1 : Int32) : Option (am_MU × Int32) :=
if l1 < 0 then (some (u, (0 : Int32)))
else (if tg l0 = 2 then (
if (u l0 1) ≤ l1 then (some (u, (0 : Int32)))
else (if (24 : Int32) ≤ l1 then (some (u, (0 : Int32)))
else (some (u, (1 : Int32))))) else none)

theorem l_X2_hasPlace_0 {X : Nat × (Nat → Int32)}   (u : am_MU) (l0 : Nat) (l1 : Int32) (r : am_MU × Int32) (h : f_X2_hasPlace  u l0 l1 = some r) : am_Ev X M_X2_hasPlace 0 [(0, .ref l0), (1, .int l1)] [] (hp u) (hp r.1, some (.int r.2)) := by
  unfold f_X2_hasPlace at h
  refine ev_iload_n dX2_hasPlace_0 1 rfl ?_
  refine ev_if_lt 22 dX2_hasPlace_1 (by decide) (fun c1 => ?_) (fun c1 => ?_)
  · have h := am_t c1 h
    refine ev_iconst (v := (0 : Int32)) dX2_hasPlace_22 kI_0 ?_
    obtain rfl := Option.some.inj h
    exact ev_iret dX2_hasPlace_23 rfl (am_zn (Or.inl rfl))
  · have h := am_e c1 h
    refine ev_iload_n dX2_hasPlace_4 1 rfl ?_
    refine ev_aload_n dX2_hasPlace_5 0 rfl trivial ?_
    obtain ⟨g2, h⟩ := am_gd h
    refine px_getI dX2_hasPlace_6 gf_RX2_15 (at2 g2) (by decide) rfl ?_
    refine ev_icmp_ge 22 dX2_hasPlace_9 (by decide) (fun c3 => ?_) (fun c3 => ?_)
    · have h := am_t c3 h
      refine ev_iconst (v := (0 : Int32)) dX2_hasPlace_22 kI_0 ?_
      obtain rfl := Option.some.inj h
      exact ev_iret dX2_hasPlace_23 rfl (am_zn (Or.inl rfl))
    · have h := am_e c3 h
      refine ev_iload_n dX2_hasPlace_12 1 rfl ?_
      refine ev_bipush (v := (24 : Int32)) dX2_hasPlace_13 kB_24 ?_
      refine ev_icmp_ge 22 dX2_hasPlace_15 (by decide) (fun c4 => ?_) (fun c4 => ?_)
      · have h := am_t c4 h
        refine ev_iconst (v := (0 : Int32)) dX2_hasPlace_22 kI_0 ?_
        obtain rfl := Option.some.inj h
        exact ev_iret dX2_hasPlace_23 rfl (am_zn (Or.inl rfl))
      · have h := am_e c4 h
        refine ev_iconst (v := (1 : Int32)) dX2_hasPlace_18 kI_1 ?_
        refine ev_goto 23 dX2_hasPlace_19 (by decide) ?_
        obtain rfl := Option.some.inj h
        exact ev_iret dX2_hasPlace_23 rfl (am_zn (Or.inr rfl))

theorem c_X2_hasPlace {X : Nat × (Nat → Int32)} {u : am_MU} {l0 : Nat} {l1 : Int32} {r : am_MU × Int32} (h : f_X2_hasPlace u l0 l1 = some r) : am_Cn X M_X2_hasPlace [.ref l0, .int l1] (hp u) (hp r.1, some (.int r.2)) := by
  refine am_Cn.of ok_X2_hasPlace (Nat.le_refl _) (Nat.le_refl _) (Nat.le_of_ble_eq_true rfl) ?_
  refine ev_loc [0, 1] rfl ?_
  exact l_X2_hasPlace_0 u l0 l1 r h

-- SandRipples$Sheet.isNumber(I)Z
def f_X2_isNumber  (u : am_MU) (l0 : Nat) (l1 : Int32) : Option (am_MU × Int32) :=
if tg l0 = 2 then (
(f_X2_hasPlace u l0 l1).bind fun q1 =>
if q1.2 = 0 then (some (q1.1, (0 : Int32)))
else (if am_in l1 24 then (
if (q1.1 (l0 + 1) l1.toNatClampNeg) = ((-1000000005) : Int32) then (some (q1.1, (0 : Int32)))
else (some (q1.1, (1 : Int32)))) else none)) else none

theorem l_X2_isNumber_0 {X : Nat × (Nat → Int32)}   (u : am_MU) (l0 : Nat) (l1 : Int32) (r : am_MU × Int32) (h : f_X2_isNumber  u l0 l1 = some r) : am_Ev X M_X2_isNumber 0 [(0, .ref l0), (1, .int l1)] [] (hp u) (hp r.1, some (.int r.2)) := by
  unfold f_X2_isNumber at h
  refine ev_aload_n dX2_isNumber_0 0 rfl trivial ?_
  refine ev_iload_n dX2_isNumber_1 1 rfl ?_
  obtain ⟨g2, h⟩ := am_gd h
  obtain ⟨q1, eq1, h⟩ := am_bd h
  refine px_callvi [.int l1] (by decide) cl_2 (at2 g2) dX2_isNumber_2 ok_X2_hasPlace lk_RX2_28 in_X2_hasPlace se_X2_hasPlace (by decide) rfl (c_X2_hasPlace eq1) rfl (Nat.le_of_ble_eq_true rfl) ?_
  refine ev_if_eq 23 dX2_isNumber_5 (by decide) (fun c3 => ?_) (fun c3 => ?_)
  · have h := am_t c3 h
    refine ev_iconst (v := (0 : Int32)) dX2_isNumber_23 kI_0 ?_
    obtain rfl := Option.some.inj h
    exact ev_iret dX2_isNumber_24 rfl (am_zn (Or.inl rfl))
  · have h := am_e c3 h
    refine ev_aload_n dX2_isNumber_8 0 rfl trivial ?_
    refine px_getR dX2_isNumber_9 gf_RX2_18 (at2 g2) (by decide) rfl ?_
    refine ev_iload_n dX2_isNumber_12 1 rfl ?_
    obtain ⟨g4, h⟩ := am_gd h
    refine px_iald (n := 24) l1.toNatClampNeg dX2_isNumber_13 (il2 g2) g4 rfl ?_
    refine ev_ldc (v := ((-1000000005) : Int32)) dX2_isNumber_14 tw_498 ?_
    refine ev_icmp_eq 23 dX2_isNumber_16 (by decide) (fun c5 => ?_) (fun c5 => ?_)
    · have h := am_t c5 h
      refine ev_iconst (v := (0 : Int32)) dX2_isNumber_23 kI_0 ?_
      obtain rfl := Option.some.inj h
      exact ev_iret dX2_isNumber_24 rfl (am_zn (Or.inl rfl))
    · have h := am_e c5 h
      refine ev_iconst (v := (1 : Int32)) dX2_isNumber_19 kI_1 ?_
      refine ev_goto 24 dX2_isNumber_20 (by decide) ?_
      obtain rfl := Option.some.inj h
      exact ev_iret dX2_isNumber_24 rfl (am_zn (Or.inr rfl))

theorem c_X2_isNumber {X : Nat × (Nat → Int32)} {u : am_MU} {l0 : Nat} {l1 : Int32} {r : am_MU × Int32} (h : f_X2_isNumber u l0 l1 = some r) : am_Cn X M_X2_isNumber [.ref l0, .int l1] (hp u) (hp r.1, some (.int r.2)) := by
  refine am_Cn.of ok_X2_isNumber (Nat.le_refl _) (Nat.le_refl _) (Nat.le_of_ble_eq_true rfl) ?_
  refine ev_loc [0, 1] rfl ?_
  exact l_X2_isNumber_0 u l0 l1 r h

-- SandRipples$Sheet.differences(LSandRipples$Floor;)I
def g_X2_differences_37 (K4 : am_MU → Nat → Nat → Int32 → Int32 → Option (am_MU × Int32)) (u : am_MU) (l0 : Nat) (l1 : Nat) (l2 : Int32) (l3 : Int32) : Option (am_MU × Int32) :=
am_let (l3 + (1 : Int32)) fun x1 =>
K4 u l0 l1 l2 x1

def g_X2_differences_4  : Nat → am_MU → Nat → Nat → Int32 → Int32 → Option (am_MU × Int32)
  | 0 => fun _ _ _ _ _ => none
  | n + 1 => fun u l0 l1 l2 l3 =>
if (24 : Int32) ≤ l3 then (some (u, l2))
else (if tg l0 = 2 then (
(f_X2_isNumber u l0 l3).bind fun q2 =>
if q2.2 = 0 then (g_X2_differences_37 (g_X2_differences_4 n) q2.1 l0 l1 l2 l3)
else (if am_in l3 24 then (
if tg l1 = 0 then (
(f_J9_abs_0f7a4 q2.1 ((q2.1 (l0 + 1) l3.toNatClampNeg) - (q2.1 (l1 + 1) l3.toNatClampNeg))).bind fun q7 =>
am_let (l2 + q7.2) fun x8 =>
g_X2_differences_37 (g_X2_differences_4 n) q7.1 l0 l1 x8 l3) else none) else none)) else none)

def f_X2_differences  (u : am_MU) (l0 : Nat) (l1 : Nat) : Option (am_MU × Int32) :=
g_X2_differences_4 1700 u l0 l1 (0 : Int32) (0 : Int32)

theorem l_X2_differences_37 {X : Nat × (Nat → Int32)} (K4 : am_MU → Nat → Nat → Int32 → Int32 → Option (am_MU × Int32)) (hK4 : ∀ (u : am_MU) (l0 : Nat) (l1 : Nat) (l2 : Int32) (l3 : Int32) (r : am_MU × Int32), K4 u l0 l1 l2 l3 = some r → am_Ev X M_X2_differences 4 [(0, .ref l0), (1, .ref l1), (2, .int l2), (3, .int l3)] [] (hp u) (hp r.1, some (.int r.2))) (u : am_MU) (l0 : Nat) (l1 : Nat) (l2 : Int32) (l3 : Int32) (r : am_MU × Int32) (h : g_X2_differences_37 K4 u l0 l1 l2 l3 = some r) : am_Ev X M_X2_differences 37 [(0, .ref l0), (1, .ref l1), (2, .int l2), (3, .int l3)] [] (hp u) (hp r.1, some (.int r.2)) := by
  unfold g_X2_differences_37 at h
  obtain ⟨x1, ex1, h⟩ := am_lt h
  refine ev_iinc (v := x1) (L' := [(3, .int x1), (0, .ref l0), (1, .ref l1), (2, .int l2)]) dX2_differences_37 3 rfl (by rw [kI_1, ex1]) (by decide) rfl ?_
  refine ev_goto 4 dX2_differences_40 (by decide) ?_
  refine ev_loc [1, 2, 3, 0] rfl ?_
  exact hK4 u l0 l1 l2 x1 _ h

theorem l_X2_differences_4 {X : Nat × (Nat → Int32)}   : ∀ (n : Nat) (u : am_MU) (l0 : Nat) (l1 : Nat) (l2 : Int32) (l3 : Int32) (r : am_MU × Int32), g_X2_differences_4  n u l0 l1 l2 l3 = some r → am_Ev X M_X2_differences 4 [(0, .ref l0), (1, .ref l1), (2, .int l2), (3, .int l3)] [] (hp u) (hp r.1, some (.int r.2)) := by
  intro n
  induction n with
  | zero => intro u l0 l1 l2 l3 r h; cases h
  | succ n ih =>
    intro u l0 l1 l2 l3 r h
    rw [g_X2_differences_4] at h
    refine ev_iload_n dX2_differences_4 3 rfl ?_
    refine ev_bipush (v := (24 : Int32)) dX2_differences_5 kB_24 ?_
    refine ev_icmp_ge 43 dX2_differences_7 (by decide) (fun c1 => ?_) (fun c1 => ?_)
    · have h := am_t c1 h
      refine ev_iload_n dX2_differences_43 2 rfl ?_
      obtain rfl := Option.some.inj h
      exact ev_iret dX2_differences_44 rfl rfl
    · have h := am_e c1 h
      refine ev_aload_n dX2_differences_10 0 rfl trivial ?_
      refine ev_iload_n dX2_differences_11 3 rfl ?_
      obtain ⟨g3, h⟩ := am_gd h
      obtain ⟨q2, eq2, h⟩ := am_bd h
      refine px_callvi [.int l3] (by decide) cl_2 (at2 g3) dX2_differences_12 ok_X2_isNumber lk_RX2_33 in_X2_isNumber se_X2_isNumber (by decide) rfl (c_X2_isNumber eq2) rfl (Nat.le_of_ble_eq_true rfl) ?_
      refine ev_if_eq 37 dX2_differences_15 (by decide) (fun c4 => ?_) (fun c4 => ?_)
      · have h := am_t c4 h
        refine ev_loc [0, 1, 2, 3] rfl ?_
        exact l_X2_differences_37 (g_X2_differences_4 n) (fun u l0 l1 l2 l3 r h => ih u l0 l1 l2 l3 r h) q2.1 l0 l1 l2 l3 _ h
      · have h := am_e c4 h
        refine ev_iload_n dX2_differences_18 2 rfl ?_
        refine ev_aload_n dX2_differences_19 0 rfl trivial ?_
        refine px_getR dX2_differences_20 gf_RX2_18 (at2 g3) (by decide) rfl ?_
        refine ev_iload_n dX2_differences_23 3 rfl ?_
        obtain ⟨g5, h⟩ := am_gd h
        refine px_iald (n := 24) l3.toNatClampNeg dX2_differences_24 (il2 g3) g5 rfl ?_
        refine ev_aload_n dX2_differences_25 1 rfl trivial ?_
        obtain ⟨g6, h⟩ := am_gd h
        refine px_getR dX2_differences_26 gf_RX2_36 (at0 g6) (by decide) rfl ?_
        refine ev_iload_n dX2_differences_29 3 rfl ?_
        refine px_iald (n := 24) l3.toNatClampNeg dX2_differences_30 (il0 g6) g5 rfl ?_
        refine ev_isub dX2_differences_31 ?_
        obtain ⟨q7, eq7, h⟩ := am_bd h
        refine px_callsi [.int ((q2.1 (l0 + 1) l3.toNatClampNeg) - (q2.1 (l1 + 1) l3.toNatClampNeg))] dX2_differences_32 ok_J9_abs_0f7a4 lk_RX2_41 st_J9_abs_0f7a4 (by decide) rfl (c_J9_abs_0f7a4 eq7) rfl (Nat.le_of_ble_eq_true rfl) ?_
        refine ev_iadd dX2_differences_35 ?_
        obtain ⟨x8, ex8, h⟩ := am_lt h
        refine px_top ex8 ?_
        refine ev_istore_n (L' := [(2, .int x8), (0, .ref l0), (1, .ref l1), (3, .int l3)]) dX2_differences_36 (by decide) rfl ?_
        refine ev_loc [1, 2, 0, 3] rfl ?_
        exact l_X2_differences_37 (g_X2_differences_4 n) (fun u l0 l1 l2 l3 r h => ih u l0 l1 l2 l3 r h) q7.1 l0 l1 x8 l3 _ h

theorem l_X2_differences_0 {X : Nat × (Nat → Int32)}   (u : am_MU) (l0 : Nat) (l1 : Nat) (r : am_MU × Int32) (h : f_X2_differences  u l0 l1 = some r) : am_Ev X M_X2_differences 0 [(0, .ref l0), (1, .ref l1)] [] (hp u) (hp r.1, some (.int r.2)) := by
  unfold f_X2_differences at h
  refine ev_iconst (v := (0 : Int32)) dX2_differences_0 kI_0 ?_
  refine ev_istore_n (L' := [(2, .int (0 : Int32)), (0, .ref l0), (1, .ref l1)]) dX2_differences_1 (by decide) rfl ?_
  refine ev_iconst (v := (0 : Int32)) dX2_differences_2 kI_0 ?_
  refine ev_istore_n (L' := [(3, .int (0 : Int32)), (2, .int (0 : Int32)), (0, .ref l0), (1, .ref l1)]) dX2_differences_3 (by decide) rfl ?_
  refine ev_loc [2, 3, 1, 0] rfl ?_
  exact l_X2_differences_4   1700 u l0 l1 (0 : Int32) (0 : Int32) _ h

theorem c_X2_differences {X : Nat × (Nat → Int32)} {u : am_MU} {l0 : Nat} {l1 : Nat} {r : am_MU × Int32} (h : f_X2_differences u l0 l1 = some r) : am_Cn X M_X2_differences [.ref l0, .ref l1] (hp u) (hp r.1, some (.int r.2)) := by
  refine am_Cn.of ok_X2_differences (Nat.le_refl _) (Nat.le_refl _) (Nat.le_of_ble_eq_true rfl) ?_
  refine ev_loc [0, 1] rfl ?_
  exact l_X2_differences_0 u l0 l1 r h

-- SandRipples.seen(III)I
def g_X6_seen_103 (K62 : am_MU → Int32 → Int32 → Nat → Int32 → Int32 → Int32 → Option (am_MU × Int32)) (u : am_MU) (l2 : Int32) (l3 : Int32) (l4 : Nat) (l5 : Int32) (l6 : Int32) (l7 : Int32) : Option (am_MU × Int32) :=
am_let (l7 + (1 : Int32)) fun x1 =>
K62 u l2 l3 l4 l5 l6 x1

def g_X6_seen_62  : Nat → am_MU → Int32 → Int32 → Nat → Int32 → Int32 → Int32 → Option (am_MU × Int32)
  | 0 => fun _ _ _ _ _ _ _ => none
  | n + 1 => fun u l2 l3 l4 l5 l6 l7 =>
if am_in (0 : Int32) 4 then (
if (kA3 (0 : Int32).toNatClampNeg) < l7 then (some (u, l5))
else ((f_X6_thinkBehind u l2 (0 : Int32) l7 l3).bind fun q3 =>
if tg l4 = 2 then (
(f_X2_differences q3.1 l4 q3.2).bind fun q4 =>
if l6 ≤ q4.2 then (g_X6_seen_103 (g_X6_seen_62 n) q4.1 l2 l3 l4 l5 l6 l7)
else (g_X6_seen_103 (g_X6_seen_62 n) q4.1 l2 l3 l4 l7 q4.2 l7)) else none)) else none

def f_X6_seen  (u : am_MU) (l1 : Int32) (l2 : Int32) (l3 : Int32) : Option (am_MU × Int32) :=
(f_X6_isSheet u l1).bind fun q1 =>
if q1.2 = 0 then (some (q1.1, ((-1000000001) : Int32)))
else ((f_X6_isFloor q1.1 l2).bind fun q3 =>
if q3.2 = 0 then (some (q3.1, ((-1000000001) : Int32)))
else (if l3 < 0 then (some (q3.1, ((-1000000001) : Int32)))
else (if l3 ≤ (30 : Int32) then (if am_in l1 4 then (
if tg (77 + 2 * l1.toNatClampNeg) = 2 then (
if (q3.1 (77 + 2 * l1.toNatClampNeg) 0) = ((-1) : Int32) then (some (q3.1, ((-1000000011) : Int32)))
else (if am_in (0 : Int32) 4 then (
am_let (kA2 (0 : Int32).toNatClampNeg) fun x11 =>
g_X6_seen_62 1700 q3.1 l2 l3 (77 + 2 * l1.toNatClampNeg) (0 : Int32) (2147483647 : Int32) x11) else none)) else none) else none)
else (some (q3.1, ((-1000000001) : Int32))))))

theorem l_X6_seen_103 {X : Nat × (Nat → Int32)} (K62 : am_MU → Int32 → Int32 → Nat → Int32 → Int32 → Int32 → Option (am_MU × Int32)) (hK62 : ∀ (u : am_MU) (l2 : Int32) (l3 : Int32) (l4 : Nat) (l5 : Int32) (l6 : Int32) (l7 : Int32) (r : am_MU × Int32), K62 u l2 l3 l4 l5 l6 l7 = some r → am_Ev X M_X6_seen 62 [(0, .ref 0), (2, .int l2), (3, .int l3), (4, .ref l4), (5, .int l5), (6, .int l6), (7, .int l7)] [] (hp u) (hp r.1, some (.int r.2))) (u : am_MU) (l2 : Int32) (l3 : Int32) (l4 : Nat) (l5 : Int32) (l6 : Int32) (l7 : Int32) (r : am_MU × Int32) (h : g_X6_seen_103 K62 u l2 l3 l4 l5 l6 l7 = some r) : am_Ev X M_X6_seen 103 [(0, .ref 0), (2, .int l2), (3, .int l3), (4, .ref l4), (5, .int l5), (6, .int l6), (7, .int l7)] [] (hp u) (hp r.1, some (.int r.2)) := by
  unfold g_X6_seen_103 at h
  obtain ⟨x1, ex1, h⟩ := am_lt h
  refine ev_iinc (v := x1) (L' := [(7, .int x1), (0, .ref 0), (2, .int l2), (3, .int l3), (4, .ref l4), (5, .int l5), (6, .int l6)]) dX6_seen_103 6 rfl (by rw [kI_1, ex1]) (by decide) rfl ?_
  refine ev_goto 62 dX6_seen_106 (by decide) ?_
  refine ev_loc [1, 2, 3, 4, 5, 6, 0] rfl ?_
  exact hK62 u l2 l3 l4 l5 l6 x1 _ h

theorem l_X6_seen_62 {X : Nat × (Nat → Int32)}   : ∀ (n : Nat) (u : am_MU) (l2 : Int32) (l3 : Int32) (l4 : Nat) (l5 : Int32) (l6 : Int32) (l7 : Int32) (r : am_MU × Int32), g_X6_seen_62  n u l2 l3 l4 l5 l6 l7 = some r → am_Ev X M_X6_seen 62 [(0, .ref 0), (2, .int l2), (3, .int l3), (4, .ref l4), (5, .int l5), (6, .int l6), (7, .int l7)] [] (hp u) (hp r.1, some (.int r.2)) := by
  intro n
  induction n with
  | zero => intro u l2 l3 l4 l5 l6 l7 r h; cases h
  | succ n ih =>
    intro u l2 l3 l4 l5 l6 l7 r h
    rw [g_X6_seen_62] at h
    refine ev_iload dX6_seen_62 6 rfl ?_
    refine ev_gets (v := .retAddr 3) dX6_seen_64 tw_347 (List.mem_of_getElem? (i := 2) rfl) ?_
    refine ev_iconst (v := (0 : Int32)) dX6_seen_67 kI_0 ?_
    obtain ⟨g1, h⟩ := am_gd h
    refine ev_ti (n := 4) (f := kA3) dX6_seen_68 (fun G _ => rfl) (am_in_vp g1) ?_
    refine ev_icmp_gt 109 dX6_seen_69 (by decide) (fun c2 => ?_) (fun c2 => ?_)
    · have h := am_t c2 h
      refine ev_iload dX6_seen_109 4 rfl ?_
      obtain rfl := Option.some.inj h
      exact ev_iret dX6_seen_111 rfl rfl
    · have h := am_e c2 h
      refine ev_aload dX6_seen_72 3 rfl trivial ?_
      refine ev_aload_n dX6_seen_74 0 rfl trivial ?_
      refine ev_iload_n dX6_seen_75 1 rfl ?_
      refine ev_iconst (v := (0 : Int32)) dX6_seen_76 kI_0 ?_
      refine ev_iload dX6_seen_77 6 rfl ?_
      refine ev_iload_n dX6_seen_79 2 rfl ?_
      obtain ⟨q3, eq3, h⟩ := am_bd h
      refine px_callvr [.int l2, .int (0 : Int32), .int l7, .int l3] (by decide) cl_6 (at6 rfl) dX6_seen_80 ok_X6_thinkBehind lk_RX6_206 in_X6_thinkBehind se_X6_thinkBehind (by decide) rfl (c_X6_thinkBehind eq3) rfl (Nat.le_of_ble_eq_true rfl) ?_
      obtain ⟨g5, h⟩ := am_gd h
      obtain ⟨q4, eq4, h⟩ := am_bd h
      refine px_callvi [.ref q3.2] (by decide) cl_2 (at2 g5) dX6_seen_83 ok_X2_differences lk_RX6_210 in_X2_differences se_X2_differences (by decide) rfl (c_X2_differences eq4) rfl (Nat.le_of_ble_eq_true rfl) ?_
      refine ev_istore (L' := [(8, .int q4.2), (0, .ref 0), (2, .int l2), (3, .int l3), (4, .ref l4), (5, .int l5), (6, .int l6), (7, .int l7)]) dX6_seen_86 (by decide) rfl ?_
      refine ev_iload dX6_seen_88 0 rfl ?_
      refine ev_iload dX6_seen_90 6 rfl ?_
      refine ev_icmp_ge 103 dX6_seen_92 (by decide) (fun c6 => ?_) (fun c6 => ?_)
      · have h := am_t c6 h
        refine ev_loc [1, 2, 3, 4, 5, 6, 7] rfl ?_
        exact l_X6_seen_103 (g_X6_seen_62 n) (fun u l2 l3 l4 l5 l6 l7 r h => ih u l2 l3 l4 l5 l6 l7 r h) q4.1 l2 l3 l4 l5 l6 l7 _ h
      · have h := am_e c6 h
        refine ev_iload dX6_seen_95 0 rfl ?_
        refine ev_istore (L' := [(6, .int q4.2), (8, .int q4.2), (0, .ref 0), (2, .int l2), (3, .int l3), (4, .ref l4), (5, .int l5), (7, .int l7)]) dX6_seen_97 (by decide) rfl ?_
        refine ev_iload dX6_seen_99 7 rfl ?_
        refine ev_istore (L' := [(5, .int l7), (6, .int q4.2), (8, .int q4.2), (0, .ref 0), (2, .int l2), (3, .int l3), (4, .ref l4), (7, .int l7)]) dX6_seen_101 (by decide) rfl ?_
        refine ev_loc [3, 4, 5, 6, 0, 1, 7] rfl ?_
        exact l_X6_seen_103 (g_X6_seen_62 n) (fun u l2 l3 l4 l5 l6 l7 r h => ih u l2 l3 l4 l5 l6 l7 r h) q4.1 l2 l3 l4 l7 q4.2 l7 _ h

theorem l_X6_seen_0 {X : Nat × (Nat → Int32)}   (u : am_MU) (l1 : Int32) (l2 : Int32) (l3 : Int32) (r : am_MU × Int32) (h : f_X6_seen  u l1 l2 l3 = some r) : am_Ev X M_X6_seen 0 [(0, .ref 0), (1, .int l1), (2, .int l2), (3, .int l3)] [] (hp u) (hp r.1, some (.int r.2)) := by
  unfold f_X6_seen at h
  refine ev_iload_n dX6_seen_0 1 rfl ?_
  obtain ⟨q1, eq1, h⟩ := am_bd h
  refine px_callsi [.int l1] dX6_seen_1 ok_X6_isSheet lk_RX6_196 st_X6_isSheet (by decide) rfl (c_X6_isSheet eq1) rfl (Nat.le_of_ble_eq_true rfl) ?_
  refine ev_if_eq 25 dX6_seen_4 (by decide) (fun c2 => ?_) (fun c2 => ?_)
  · have h := am_t c2 h
    refine ev_ldc (v := ((-1000000001) : Int32)) dX6_seen_25 tw_239 ?_
    obtain rfl := Option.some.inj h
    exact ev_iret dX6_seen_27 rfl rfl
  · have h := am_e c2 h
    refine ev_aload_n dX6_seen_7 0 rfl trivial ?_
    refine ev_iload_n dX6_seen_8 2 rfl ?_
    obtain ⟨q3, eq3, h⟩ := am_bd h
    refine px_callvi [.int l2] (by decide) cl_6 (at6 rfl) dX6_seen_9 ok_X6_isFloor lk_RX6_94 in_X6_isFloor se_X6_isFloor (by decide) rfl (c_X6_isFloor eq3) rfl (Nat.le_of_ble_eq_true rfl) ?_
    refine ev_if_eq 25 dX6_seen_12 (by decide) (fun c4 => ?_) (fun c4 => ?_)
    · have h := am_t c4 h
      refine ev_ldc (v := ((-1000000001) : Int32)) dX6_seen_25 tw_239 ?_
      obtain rfl := Option.some.inj h
      exact ev_iret dX6_seen_27 rfl rfl
    · have h := am_e c4 h
      refine ev_iload_n dX6_seen_15 3 rfl ?_
      refine ev_if_lt 25 dX6_seen_16 (by decide) (fun c5 => ?_) (fun c5 => ?_)
      · have h := am_t c5 h
        refine ev_ldc (v := ((-1000000001) : Int32)) dX6_seen_25 tw_239 ?_
        obtain rfl := Option.some.inj h
        exact ev_iret dX6_seen_27 rfl rfl
      · have h := am_e c5 h
        refine ev_iload_n dX6_seen_19 3 rfl ?_
        refine ev_bipush (v := (30 : Int32)) dX6_seen_20 kB_30 ?_
        refine ev_icmp_le 28 dX6_seen_22 (by decide) (fun c6 => ?_) (fun c6 => ?_)
        · have h := am_t c6 h
          refine ev_aload_n dX6_seen_28 0 rfl trivial ?_
          refine px_getR dX6_seen_29 gf_RX6_57 (at6 rfl) (by decide) rfl ?_
          refine ev_iload_n dX6_seen_32 1 rfl ?_
          obtain ⟨g7, h⟩ := am_gd h
          refine px_aald5 (n := 4) dX6_seen_33 rfl rfl g7 ?_
          refine ev_astore (L' := [(4, .ref (77 + 2 * l1.toNatClampNeg)), (0, .ref 0), (1, .int l1), (2, .int l2), (3, .int l3)]) dX6_seen_34 trivial (by decide) rfl ?_
          refine ev_aload dX6_seen_36 0 rfl trivial ?_
          obtain ⟨g8, h⟩ := am_gd h
          refine px_getI dX6_seen_38 gf_RX6_199 (at2 g8) (by decide) rfl ?_
          refine ev_iconst (v := ((-1) : Int32)) dX6_seen_41 kI_m1 ?_
          refine ev_icmp_ne 48 dX6_seen_42 (by decide) (fun c9 => ?_) (fun c9 => ?_)
          · have h := am_e c9 h
            refine ev_iconst (v := (0 : Int32)) dX6_seen_48 kI_0 ?_
            refine ev_istore (L' := [(5, .int (0 : Int32)), (4, .ref (77 + 2 * l1.toNatClampNeg)), (0, .ref 0), (1, .int l1), (2, .int l2), (3, .int l3)]) dX6_seen_49 (by decide) rfl ?_
            refine ev_ldc (v := (2147483647 : Int32)) dX6_seen_51 tw_481 ?_
            refine ev_istore (L' := [(6, .int (2147483647 : Int32)), (5, .int (0 : Int32)), (4, .ref (77 + 2 * l1.toNatClampNeg)), (0, .ref 0), (1, .int l1), (2, .int l2), (3, .int l3)]) dX6_seen_53 (by decide) rfl ?_
            refine ev_gets (v := .retAddr 2) dX6_seen_55 tw_345 (List.mem_of_getElem? (i := 1) rfl) ?_
            refine ev_iconst (v := (0 : Int32)) dX6_seen_58 kI_0 ?_
            obtain ⟨g10, h⟩ := am_gd h
            refine ev_ti (n := 4) (f := kA2) dX6_seen_59 (fun G _ => rfl) (am_in_vp g10) ?_
            obtain ⟨x11, ex11, h⟩ := am_lt h
            refine px_top ex11 ?_
            refine ev_istore (L' := [(7, .int x11), (6, .int (2147483647 : Int32)), (5, .int (0 : Int32)), (4, .ref (77 + 2 * l1.toNatClampNeg)), (0, .ref 0), (1, .int l1), (2, .int l2), (3, .int l3)]) dX6_seen_60 (by decide) rfl ?_
            refine ev_loc [4, 6, 7, 3, 2, 1, 0] rfl ?_
            exact l_X6_seen_62   1700 q3.1 l2 l3 (77 + 2 * l1.toNatClampNeg) (0 : Int32) (2147483647 : Int32) x11 _ h
          · have h := am_t c9 h
            refine ev_ldc (v := ((-1000000011) : Int32)) dX6_seen_45 tw_480 ?_
            obtain rfl := Option.some.inj h
            exact ev_iret dX6_seen_47 rfl rfl
        · have h := am_e c6 h
          refine ev_ldc (v := ((-1000000001) : Int32)) dX6_seen_25 tw_239 ?_
          obtain rfl := Option.some.inj h
          exact ev_iret dX6_seen_27 rfl rfl

theorem c_X6_seen {X : Nat × (Nat → Int32)} {u : am_MU} {l1 : Int32} {l2 : Int32} {l3 : Int32} {r : am_MU × Int32} (h : f_X6_seen u l1 l2 l3 = some r) : am_Cn X M_X6_seen [.ref 0, .int l1, .int l2, .int l3] (hp u) (hp r.1, some (.int r.2)) := by
  refine am_Cn.of ok_X6_seen (Nat.le_refl _) (Nat.le_refl _) (Nat.le_of_ble_eq_true rfl) ?_
  refine ev_loc [0, 1, 2, 3] rfl ?_
  exact l_X6_seen_0 u l1 l2 l3 r h

-- SandRipples.best(III)I
def g_X6_best_82 (K43 : am_MU → Int32 → Int32 → Int32 → Int32 → Int32 → Int32 → Option (am_MU × Int32)) (u : am_MU) (l1 : Int32) (l2 : Int32) (l3 : Int32) (l4 : Int32) (l5 : Int32) (l6 : Int32) : Option (am_MU × Int32) :=
am_let (l6 + (1 : Int32)) fun x1 =>
K43 u l1 l2 l3 l4 l5 x1

def g_X6_best_43  : Nat → am_MU → Int32 → Int32 → Int32 → Int32 → Int32 → Int32 → Option (am_MU × Int32)
  | 0 => fun _ _ _ _ _ _ _ => none
  | n + 1 => fun u l1 l2 l3 l4 l5 l6 =>
if am_in (1 : Int32) 4 then (
if (kA3 (1 : Int32).toNatClampNeg) < l6 then (if l3 = 0 then (some (u, l4))
else (some (u, l5)))
else ((f_X6_thinkBehind u l1 (1 : Int32) l6 l2).bind fun q4 =>
if tg q4.2 = 0 then (
(f_X0_crests q4.1 q4.2).bind fun q5 =>
if q5.2 ≤ l5 then (g_X6_best_82 (g_X6_best_43 n) q5.1 l1 l2 l3 l4 l5 l6)
else (g_X6_best_82 (g_X6_best_43 n) q5.1 l1 l2 l3 l6 q5.2 l6)) else none)) else none

def f_X6_best  (u : am_MU) (l1 : Int32) (l2 : Int32) (l3 : Int32) : Option (am_MU × Int32) :=
(f_X6_isFloor u l1).bind fun q1 =>
if q1.2 = 0 then (some (q1.1, ((-1000000001) : Int32)))
else (if l2 < 0 then (some (q1.1, ((-1000000001) : Int32)))
else (if (30 : Int32) < l2 then (some (q1.1, ((-1000000001) : Int32)))
else (if l3 < 0 then (some (q1.1, ((-1000000001) : Int32)))
else (if l3 ≤ (1 : Int32) then (if am_in (1 : Int32) 4 then (
am_let (kA2 (1 : Int32).toNatClampNeg) fun x8 =>
g_X6_best_43 1700 q1.1 l1 l2 l3 (0 : Int32) ((-1) : Int32) x8) else none)
else (some (q1.1, ((-1000000001) : Int32)))))))

theorem l_X6_best_82 {X : Nat × (Nat → Int32)} (K43 : am_MU → Int32 → Int32 → Int32 → Int32 → Int32 → Int32 → Option (am_MU × Int32)) (hK43 : ∀ (u : am_MU) (l1 : Int32) (l2 : Int32) (l3 : Int32) (l4 : Int32) (l5 : Int32) (l6 : Int32) (r : am_MU × Int32), K43 u l1 l2 l3 l4 l5 l6 = some r → am_Ev X M_X6_best 43 [(0, .ref 0), (1, .int l1), (2, .int l2), (3, .int l3), (4, .int l4), (5, .int l5), (6, .int l6)] [] (hp u) (hp r.1, some (.int r.2))) (u : am_MU) (l1 : Int32) (l2 : Int32) (l3 : Int32) (l4 : Int32) (l5 : Int32) (l6 : Int32) (r : am_MU × Int32) (h : g_X6_best_82 K43 u l1 l2 l3 l4 l5 l6 = some r) : am_Ev X M_X6_best 82 [(0, .ref 0), (1, .int l1), (2, .int l2), (3, .int l3), (4, .int l4), (5, .int l5), (6, .int l6)] [] (hp u) (hp r.1, some (.int r.2)) := by
  unfold g_X6_best_82 at h
  obtain ⟨x1, ex1, h⟩ := am_lt h
  refine ev_iinc (v := x1) (L' := [(6, .int x1), (0, .ref 0), (1, .int l1), (2, .int l2), (3, .int l3), (4, .int l4), (5, .int l5)]) dX6_best_82 6 rfl (by rw [kI_1, ex1]) (by decide) rfl ?_
  refine ev_goto 43 dX6_best_85 (by decide) ?_
  refine ev_loc [1, 2, 3, 4, 5, 6, 0] rfl ?_
  exact hK43 u l1 l2 l3 l4 l5 x1 _ h

theorem l_X6_best_43 {X : Nat × (Nat → Int32)}   : ∀ (n : Nat) (u : am_MU) (l1 : Int32) (l2 : Int32) (l3 : Int32) (l4 : Int32) (l5 : Int32) (l6 : Int32) (r : am_MU × Int32), g_X6_best_43  n u l1 l2 l3 l4 l5 l6 = some r → am_Ev X M_X6_best 43 [(0, .ref 0), (1, .int l1), (2, .int l2), (3, .int l3), (4, .int l4), (5, .int l5), (6, .int l6)] [] (hp u) (hp r.1, some (.int r.2)) := by
  intro n
  induction n with
  | zero => intro u l1 l2 l3 l4 l5 l6 r h; cases h
  | succ n ih =>
    intro u l1 l2 l3 l4 l5 l6 r h
    rw [g_X6_best_43] at h
    refine ev_iload dX6_best_43 6 rfl ?_
    refine ev_gets (v := .retAddr 3) dX6_best_45 tw_347 (List.mem_of_getElem? (i := 2) rfl) ?_
    refine ev_iconst (v := (1 : Int32)) dX6_best_48 kI_1 ?_
    obtain ⟨g1, h⟩ := am_gd h
    refine ev_ti (n := 4) (f := kA3) dX6_best_49 (fun G _ => rfl) (am_in_vp g1) ?_
    refine ev_icmp_gt 88 dX6_best_50 (by decide) (fun c2 => ?_) (fun c2 => ?_)
    · have h := am_t c2 h
      refine ev_iload_n dX6_best_88 3 rfl ?_
      refine ev_if_ne 97 dX6_best_89 (by decide) (fun c3 => ?_) (fun c3 => ?_)
      · have h := am_e c3 h
        refine ev_iload dX6_best_97 5 rfl ?_
        obtain rfl := Option.some.inj h
        exact ev_iret dX6_best_99 rfl rfl
      · have h := am_t c3 h
        refine ev_iload dX6_best_92 4 rfl ?_
        refine ev_goto 99 dX6_best_94 (by decide) ?_
        obtain rfl := Option.some.inj h
        exact ev_iret dX6_best_99 rfl rfl
    · have h := am_e c2 h
      refine ev_aload_n dX6_best_53 0 rfl trivial ?_
      refine ev_iload_n dX6_best_54 1 rfl ?_
      refine ev_iconst (v := (1 : Int32)) dX6_best_55 kI_1 ?_
      refine ev_iload dX6_best_56 6 rfl ?_
      refine ev_iload_n dX6_best_58 2 rfl ?_
      obtain ⟨q4, eq4, h⟩ := am_bd h
      refine px_callvr [.int l1, .int (1 : Int32), .int l6, .int l2] (by decide) cl_6 (at6 rfl) dX6_best_59 ok_X6_thinkBehind lk_RX6_206 in_X6_thinkBehind se_X6_thinkBehind (by decide) rfl (c_X6_thinkBehind eq4) rfl (Nat.le_of_ble_eq_true rfl) ?_
      obtain ⟨g6, h⟩ := am_gd h
      obtain ⟨q5, eq5, h⟩ := am_bd h
      refine px_callvi [] (by decide) cl_0 (at0 g6) dX6_best_62 ok_X0_crests lk_RX6_113 in_X0_crests se_X0_crests (by decide) rfl (c_X0_crests eq5) rfl (Nat.le_of_ble_eq_true rfl) ?_
      refine ev_istore (L' := [(7, .int q5.2), (0, .ref 0), (1, .int l1), (2, .int l2), (3, .int l3), (4, .int l4), (5, .int l5), (6, .int l6)]) dX6_best_65 (by decide) rfl ?_
      refine ev_iload dX6_best_67 0 rfl ?_
      refine ev_iload dX6_best_69 6 rfl ?_
      refine ev_icmp_le 82 dX6_best_71 (by decide) (fun c7 => ?_) (fun c7 => ?_)
      · have h := am_t c7 h
        refine ev_loc [1, 2, 3, 4, 5, 6, 7] rfl ?_
        exact l_X6_best_82 (g_X6_best_43 n) (fun u l1 l2 l3 l4 l5 l6 r h => ih u l1 l2 l3 l4 l5 l6 r h) q5.1 l1 l2 l3 l4 l5 l6 _ h
      · have h := am_e c7 h
        refine ev_iload dX6_best_74 0 rfl ?_
        refine ev_istore (L' := [(5, .int q5.2), (7, .int q5.2), (0, .ref 0), (1, .int l1), (2, .int l2), (3, .int l3), (4, .int l4), (6, .int l6)]) dX6_best_76 (by decide) rfl ?_
        refine ev_iload dX6_best_78 7 rfl ?_
        refine ev_istore (L' := [(4, .int l6), (5, .int q5.2), (7, .int q5.2), (0, .ref 0), (1, .int l1), (2, .int l2), (3, .int l3), (6, .int l6)]) dX6_best_80 (by decide) rfl ?_
        refine ev_loc [3, 4, 5, 6, 0, 1, 7] rfl ?_
        exact l_X6_best_82 (g_X6_best_43 n) (fun u l1 l2 l3 l4 l5 l6 r h => ih u l1 l2 l3 l4 l5 l6 r h) q5.1 l1 l2 l3 l6 q5.2 l6 _ h

theorem l_X6_best_0 {X : Nat × (Nat → Int32)}   (u : am_MU) (l1 : Int32) (l2 : Int32) (l3 : Int32) (r : am_MU × Int32) (h : f_X6_best  u l1 l2 l3 = some r) : am_Ev X M_X6_best 0 [(0, .ref 0), (1, .int l1), (2, .int l2), (3, .int l3)] [] (hp u) (hp r.1, some (.int r.2)) := by
  unfold f_X6_best at h
  refine ev_aload_n dX6_best_0 0 rfl trivial ?_
  refine ev_iload_n dX6_best_1 1 rfl ?_
  obtain ⟨q1, eq1, h⟩ := am_bd h
  refine px_callvi [.int l1] (by decide) cl_6 (at6 rfl) dX6_best_2 ok_X6_isFloor lk_RX6_94 in_X6_isFloor se_X6_isFloor (by decide) rfl (c_X6_isFloor eq1) rfl (Nat.le_of_ble_eq_true rfl) ?_
  refine ev_if_eq 27 dX6_best_5 (by decide) (fun c2 => ?_) (fun c2 => ?_)
  · have h := am_t c2 h
    refine ev_ldc (v := ((-1000000001) : Int32)) dX6_best_27 tw_239 ?_
    obtain rfl := Option.some.inj h
    exact ev_iret dX6_best_29 rfl rfl
  · have h := am_e c2 h
    refine ev_iload_n dX6_best_8 2 rfl ?_
    refine ev_if_lt 27 dX6_best_9 (by decide) (fun c3 => ?_) (fun c3 => ?_)
    · have h := am_t c3 h
      refine ev_ldc (v := ((-1000000001) : Int32)) dX6_best_27 tw_239 ?_
      obtain rfl := Option.some.inj h
      exact ev_iret dX6_best_29 rfl rfl
    · have h := am_e c3 h
      refine ev_iload_n dX6_best_12 2 rfl ?_
      refine ev_bipush (v := (30 : Int32)) dX6_best_13 kB_30 ?_
      refine ev_icmp_gt 27 dX6_best_15 (by decide) (fun c4 => ?_) (fun c4 => ?_)
      · have h := am_t c4 h
        refine ev_ldc (v := ((-1000000001) : Int32)) dX6_best_27 tw_239 ?_
        obtain rfl := Option.some.inj h
        exact ev_iret dX6_best_29 rfl rfl
      · have h := am_e c4 h
        refine ev_iload_n dX6_best_18 3 rfl ?_
        refine ev_if_lt 27 dX6_best_19 (by decide) (fun c5 => ?_) (fun c5 => ?_)
        · have h := am_t c5 h
          refine ev_ldc (v := ((-1000000001) : Int32)) dX6_best_27 tw_239 ?_
          obtain rfl := Option.some.inj h
          exact ev_iret dX6_best_29 rfl rfl
        · have h := am_e c5 h
          refine ev_iload_n dX6_best_22 3 rfl ?_
          refine ev_iconst (v := (1 : Int32)) dX6_best_23 kI_1 ?_
          refine ev_icmp_le 30 dX6_best_24 (by decide) (fun c6 => ?_) (fun c6 => ?_)
          · have h := am_t c6 h
            refine ev_iconst (v := (0 : Int32)) dX6_best_30 kI_0 ?_
            refine ev_istore (L' := [(4, .int (0 : Int32)), (0, .ref 0), (1, .int l1), (2, .int l2), (3, .int l3)]) dX6_best_31 (by decide) rfl ?_
            refine ev_iconst (v := ((-1) : Int32)) dX6_best_33 kI_m1 ?_
            refine ev_istore (L' := [(5, .int ((-1) : Int32)), (4, .int (0 : Int32)), (0, .ref 0), (1, .int l1), (2, .int l2), (3, .int l3)]) dX6_best_34 (by decide) rfl ?_
            refine ev_gets (v := .retAddr 2) dX6_best_36 tw_345 (List.mem_of_getElem? (i := 1) rfl) ?_
            refine ev_iconst (v := (1 : Int32)) dX6_best_39 kI_1 ?_
            obtain ⟨g7, h⟩ := am_gd h
            refine ev_ti (n := 4) (f := kA2) dX6_best_40 (fun G _ => rfl) (am_in_vp g7) ?_
            obtain ⟨x8, ex8, h⟩ := am_lt h
            refine px_top ex8 ?_
            refine ev_istore (L' := [(6, .int x8), (5, .int ((-1) : Int32)), (4, .int (0 : Int32)), (0, .ref 0), (1, .int l1), (2, .int l2), (3, .int l3)]) dX6_best_41 (by decide) rfl ?_
            refine ev_loc [3, 4, 5, 6, 2, 1, 0] rfl ?_
            exact l_X6_best_43   1700 q1.1 l1 l2 l3 (0 : Int32) ((-1) : Int32) x8 _ h
          · have h := am_e c6 h
            refine ev_ldc (v := ((-1000000001) : Int32)) dX6_best_27 tw_239 ?_
            obtain rfl := Option.some.inj h
            exact ev_iret dX6_best_29 rfl rfl

theorem c_X6_best {X : Nat × (Nat → Int32)} {u : am_MU} {l1 : Int32} {l2 : Int32} {l3 : Int32} {r : am_MU × Int32} (h : f_X6_best u l1 l2 l3 = some r) : am_Cn X M_X6_best [.ref 0, .int l1, .int l2, .int l3] (hp u) (hp r.1, some (.int r.2)) := by
  refine am_Cn.of ok_X6_best (Nat.le_refl _) (Nat.le_refl _) (Nat.le_of_ble_eq_true rfl) ?_
  refine ev_loc [0, 1, 2, 3] rfl ?_
  exact l_X6_best_0 u l1 l2 l3 r h

-- SandRipples.feedNumber(I)V
def g_X6_feedNumber_42 (K3 : am_MU → Int32 → Int32 → Option (am_MU)) (u : am_MU) (l1 : Int32) (l2 : Int32) : Option (am_MU) :=
am_let (l2 + ((-8) : Int32)) fun x1 =>
K3 u l1 x1

def g_X6_feedNumber_3  : Nat → am_MU → Int32 → Int32 → Option (am_MU)
  | 0 => fun _ _ _ => none
  | n + 1 => fun u l1 l2 =>
if l2 < 0 then (some u)
else (if (96 : Int32) ≤ (u 0 9) then (g_X6_feedNumber_42 (g_X6_feedNumber_3 n) u l1 l2)
else (if am_in (u 0 9) 96 then (
am_let (am_u2 u 45 ((u 0 9).toNatClampNeg) (((l1.toUInt32 >>> (l2.toUInt32 &&& Int32.toUInt32 31)).toInt32) &&& (255 : Int32))) fun u4 =>
am_let (am_u2 u4 0 9 ((u4 0 9) + (1 : Int32))) fun u5 =>
g_X6_feedNumber_42 (g_X6_feedNumber_3 n) u5 l1 l2) else none))

def f_X6_feedNumber  (u : am_MU) (l1 : Int32) : Option (am_MU) :=
g_X6_feedNumber_3 1700 u l1 (24 : Int32)

theorem l_X6_feedNumber_42 {X : Nat × (Nat → Int32)} (K3 : am_MU → Int32 → Int32 → Option (am_MU)) (hK3 : ∀ (u : am_MU) (l1 : Int32) (l2 : Int32) (r : am_MU), K3 u l1 l2 = some r → am_Ev X M_X6_feedNumber 3 [(0, .ref 0), (1, .int l1), (2, .int l2)] [] (hp u) (hp r, none)) (u : am_MU) (l1 : Int32) (l2 : Int32) (r : am_MU) (h : g_X6_feedNumber_42 K3 u l1 l2 = some r) : am_Ev X M_X6_feedNumber 42 [(0, .ref 0), (1, .int l1), (2, .int l2)] [] (hp u) (hp r, none) := by
  unfold g_X6_feedNumber_42 at h
  obtain ⟨x1, ex1, h⟩ := am_lt h
  refine ev_iinc (v := x1) (L' := [(2, .int x1), (0, .ref 0), (1, .int l1)]) dX6_feedNumber_42 2 rfl (by rw [kI_m8, ex1]) (by decide) rfl ?_
  refine ev_goto 3 dX6_feedNumber_45 (by decide) ?_
  refine ev_loc [1, 2, 0] rfl ?_
  exact hK3 u l1 x1 _ h

theorem l_X6_feedNumber_3 {X : Nat × (Nat → Int32)}   : ∀ (n : Nat) (u : am_MU) (l1 : Int32) (l2 : Int32) (r : am_MU), g_X6_feedNumber_3  n u l1 l2 = some r → am_Ev X M_X6_feedNumber 3 [(0, .ref 0), (1, .int l1), (2, .int l2)] [] (hp u) (hp r, none) := by
  intro n
  induction n with
  | zero => intro u l1 l2 r h; cases h
  | succ n ih =>
    intro u l1 l2 r h
    rw [g_X6_feedNumber_3] at h
    refine ev_iload_n dX6_feedNumber_3 2 rfl ?_
    refine ev_if_lt 48 dX6_feedNumber_4 (by decide) (fun c1 => ?_) (fun c1 => ?_)
    · have h := am_t c1 h
      obtain rfl := Option.some.inj h
      exact ev_vret dX6_feedNumber_48 rfl
    · have h := am_e c1 h
      refine ev_aload_n dX6_feedNumber_7 0 rfl trivial ?_
      refine px_getI dX6_feedNumber_8 gf_RX6_51 (at6 rfl) (by decide) rfl ?_
      refine ev_bipush (v := (96 : Int32)) dX6_feedNumber_11 kB_96 ?_
      refine ev_icmp_ge 42 dX6_feedNumber_13 (by decide) (fun c2 => ?_) (fun c2 => ?_)
      · have h := am_t c2 h
        refine ev_loc [0, 1, 2] rfl ?_
        exact l_X6_feedNumber_42 (g_X6_feedNumber_3 n) (fun u l1 l2 r h => ih u l1 l2 r h) u l1 l2 _ h
      · have h := am_e c2 h
        refine ev_aload_n dX6_feedNumber_16 0 rfl trivial ?_
        refine px_getR dX6_feedNumber_17 gf_RX6_48 (at6 rfl) (by decide) rfl ?_
        refine ev_aload_n dX6_feedNumber_20 0 rfl trivial ?_
        refine px_getI dX6_feedNumber_21 gf_RX6_51 (at6 rfl) (by decide) rfl ?_
        refine ev_iload_n dX6_feedNumber_24 1 rfl ?_
        refine ev_iload_n dX6_feedNumber_25 2 rfl ?_
        refine ev_iushr dX6_feedNumber_26 ?_
        refine ev_sipush (v := (255 : Int32)) dX6_feedNumber_27 kS_255 ?_
        refine ev_iand dX6_feedNumber_30 ?_
        obtain ⟨g3, h⟩ := am_gd h
        obtain ⟨u4, eu4, h⟩ := am_lt h
        refine px_iast (n := 96) ((u 0 9).toNatClampNeg) dX6_feedNumber_31 rfl g3 rfl eu4 ?_
        refine ev_aload_n dX6_feedNumber_32 0 rfl trivial ?_
        refine ev_dup dX6_feedNumber_33 rfl ?_
        refine px_getI dX6_feedNumber_34 gf_RX6_51 (at6 rfl) (by decide) rfl ?_
        refine ev_iconst (v := (1 : Int32)) dX6_feedNumber_37 kI_1 ?_
        refine ev_iadd dX6_feedNumber_38 ?_
        obtain ⟨u5, eu5, h⟩ := am_lt h
        refine px_putI dX6_feedNumber_39 pf_RX6_51 (at6 rfl) (by decide) rfl eu5 ?_
        refine ev_loc [0, 1, 2] rfl ?_
        exact l_X6_feedNumber_42 (g_X6_feedNumber_3 n) (fun u l1 l2 r h => ih u l1 l2 r h) u5 l1 l2 _ h

theorem l_X6_feedNumber_0 {X : Nat × (Nat → Int32)}   (u : am_MU) (l1 : Int32) (r : am_MU) (h : f_X6_feedNumber  u l1 = some r) : am_Ev X M_X6_feedNumber 0 [(0, .ref 0), (1, .int l1)] [] (hp u) (hp r, none) := by
  unfold f_X6_feedNumber at h
  refine ev_bipush (v := (24 : Int32)) dX6_feedNumber_0 kB_24 ?_
  refine ev_istore_n (L' := [(2, .int (24 : Int32)), (0, .ref 0), (1, .int l1)]) dX6_feedNumber_2 (by decide) rfl ?_
  refine ev_loc [1, 2, 0] rfl ?_
  exact l_X6_feedNumber_3   1700 u l1 (24 : Int32) _ h

theorem c_X6_feedNumber {X : Nat × (Nat → Int32)} {u : am_MU} {l1 : Int32} {r : am_MU} (h : f_X6_feedNumber u l1 = some r) : am_Cn X M_X6_feedNumber [.ref 0, .int l1] (hp u) (hp r, none) := by
  refine am_Cn.of ok_X6_feedNumber (Nat.le_refl _) (Nat.le_refl _) (Nat.le_of_ble_eq_true rfl) ?_
  refine ev_loc [0, 1] rfl ?_
  exact l_X6_feedNumber_0 u l1 r h

-- SandRipples.feed(III)I
def f_X6_feed  (u : am_MU) (l1 : Int32) (l2 : Int32) (l3 : Int32) : Option (am_MU × Int32) :=
if ((u 0 9) + (12 : Int32)) ≤ (96 : Int32) then ((f_X6_feedNumber u l1).bind fun q2 =>
(f_X6_feedNumber q2 l2).bind fun q3 =>
(f_X6_feedNumber q3 l3).bind fun q4 =>
some (q4, q4 0 9))
else (some (u, ((-1000000003) : Int32)))

theorem l_X6_feed_0 {X : Nat × (Nat → Int32)}   (u : am_MU) (l1 : Int32) (l2 : Int32) (l3 : Int32) (r : am_MU × Int32) (h : f_X6_feed  u l1 l2 l3 = some r) : am_Ev X M_X6_feed 0 [(0, .ref 0), (1, .int l1), (2, .int l2), (3, .int l3)] [] (hp u) (hp r.1, some (.int r.2)) := by
  unfold f_X6_feed at h
  refine ev_aload_n dX6_feed_0 0 rfl trivial ?_
  refine px_getI dX6_feed_1 gf_RX6_51 (at6 rfl) (by decide) rfl ?_
  refine ev_bipush (v := (12 : Int32)) dX6_feed_4 kB_12 ?_
  refine ev_iadd dX6_feed_6 ?_
  refine ev_bipush (v := (96 : Int32)) dX6_feed_7 kB_96 ?_
  refine ev_icmp_le 15 dX6_feed_9 (by decide) (fun c1 => ?_) (fun c1 => ?_)
  · have h := am_t c1 h
    refine ev_aload_n dX6_feed_15 0 rfl trivial ?_
    refine ev_iload_n dX6_feed_16 1 rfl ?_
    obtain ⟨q2, eq2, h⟩ := am_bd h
    refine px_callvv [.int l1] (by decide) cl_6 (at6 rfl) dX6_feed_17 ok_X6_feedNumber lk_RX6_214 in_X6_feedNumber se_X6_feedNumber (by decide) rfl (c_X6_feedNumber eq2) rfl (Nat.le_of_ble_eq_true rfl) ?_
    refine ev_aload_n dX6_feed_20 0 rfl trivial ?_
    refine ev_iload_n dX6_feed_21 2 rfl ?_
    obtain ⟨q3, eq3, h⟩ := am_bd h
    refine px_callvv [.int l2] (by decide) cl_6 (at6 rfl) dX6_feed_22 ok_X6_feedNumber lk_RX6_214 in_X6_feedNumber se_X6_feedNumber (by decide) rfl (c_X6_feedNumber eq3) rfl (Nat.le_of_ble_eq_true rfl) ?_
    refine ev_aload_n dX6_feed_25 0 rfl trivial ?_
    refine ev_iload_n dX6_feed_26 3 rfl ?_
    obtain ⟨q4, eq4, h⟩ := am_bd h
    refine px_callvv [.int l3] (by decide) cl_6 (at6 rfl) dX6_feed_27 ok_X6_feedNumber lk_RX6_214 in_X6_feedNumber se_X6_feedNumber (by decide) rfl (c_X6_feedNumber eq4) rfl (Nat.le_of_ble_eq_true rfl) ?_
    refine ev_aload_n dX6_feed_30 0 rfl trivial ?_
    refine px_getI dX6_feed_31 gf_RX6_51 (at6 rfl) (by decide) rfl ?_
    obtain rfl := Option.some.inj h
    exact ev_iret dX6_feed_34 rfl rfl
  · have h := am_e c1 h
    refine ev_ldc (v := ((-1000000003) : Int32)) dX6_feed_12 tw_240 ?_
    obtain rfl := Option.some.inj h
    exact ev_iret dX6_feed_14 rfl rfl

theorem c_X6_feed {X : Nat × (Nat → Int32)} {u : am_MU} {l1 : Int32} {l2 : Int32} {l3 : Int32} {r : am_MU × Int32} (h : f_X6_feed u l1 l2 l3 = some r) : am_Cn X M_X6_feed [.ref 0, .int l1, .int l2, .int l3] (hp u) (hp r.1, some (.int r.2)) := by
  refine am_Cn.of ok_X6_feed (Nat.le_refl _) (Nat.le_refl _) (Nat.le_of_ble_eq_true rfl) ?_
  refine ev_loc [0, 1, 2, 3] rfl ?_
  exact l_X6_feed_0 u l1 l2 l3 r h

-- SandRipples.trim(I)I
def f_X6_trim  (u : am_MU) (l1 : Int32) : Option (am_MU × Int32) :=
if l1 < 0 then (some (u, ((-1000000001) : Int32)))
else (if l1 ≤ (u 0 9) then (am_let (am_u2 u 0 9 l1) fun u3 =>
some (u3, l1))
else (some (u, ((-1000000001) : Int32))))

theorem l_X6_trim_0 {X : Nat × (Nat → Int32)}   (u : am_MU) (l1 : Int32) (r : am_MU × Int32) (h : f_X6_trim  u l1 = some r) : am_Ev X M_X6_trim 0 [(0, .ref 0), (1, .int l1)] [] (hp u) (hp r.1, some (.int r.2)) := by
  unfold f_X6_trim at h
  refine ev_iload_n dX6_trim_0 1 rfl ?_
  refine ev_if_lt 12 dX6_trim_1 (by decide) (fun c1 => ?_) (fun c1 => ?_)
  · have h := am_t c1 h
    refine ev_ldc (v := ((-1000000001) : Int32)) dX6_trim_12 tw_239 ?_
    obtain rfl := Option.some.inj h
    exact ev_iret dX6_trim_14 rfl rfl
  · have h := am_e c1 h
    refine ev_iload_n dX6_trim_4 1 rfl ?_
    refine ev_aload_n dX6_trim_5 0 rfl trivial ?_
    refine px_getI dX6_trim_6 gf_RX6_51 (at6 rfl) (by decide) rfl ?_
    refine ev_icmp_le 15 dX6_trim_9 (by decide) (fun c2 => ?_) (fun c2 => ?_)
    · have h := am_t c2 h
      refine ev_aload_n dX6_trim_15 0 rfl trivial ?_
      refine ev_iload_n dX6_trim_16 1 rfl ?_
      obtain ⟨u3, eu3, h⟩ := am_lt h
      refine px_putI dX6_trim_17 pf_RX6_51 (at6 rfl) (by decide) rfl eu3 ?_
      refine ev_iload_n dX6_trim_20 1 rfl ?_
      obtain rfl := Option.some.inj h
      exact ev_iret dX6_trim_21 rfl rfl
    · have h := am_e c2 h
      refine ev_ldc (v := ((-1000000001) : Int32)) dX6_trim_12 tw_239 ?_
      obtain rfl := Option.some.inj h
      exact ev_iret dX6_trim_14 rfl rfl

theorem c_X6_trim {X : Nat × (Nat → Int32)} {u : am_MU} {l1 : Int32} {r : am_MU × Int32} (h : f_X6_trim u l1 = some r) : am_Cn X M_X6_trim [.ref 0, .int l1] (hp u) (hp r.1, some (.int r.2)) := by
  refine am_Cn.of ok_X6_trim (Nat.le_refl _) (Nat.le_refl _) (Nat.le_of_ble_eq_true rfl) ?_
  refine ev_loc [0, 1] rfl ?_
  exact l_X6_trim_0 u l1 r h

-- SandRipples$Reader.begin()V
def f_X1_begin  (u : am_MU)  : Option (am_MU) :=
am_let (am_u2 u 41 1 (0 : Int32)) fun u1 =>
am_let (am_u2 u1 41 2 (0 : Int32)) fun u2 =>
am_let (am_u2 u2 41 5 (0 : Int32)) fun u3 =>
am_let (am_u2 u3 41 6 (0 : Int32)) fun u4 =>
am_let (am_u2 u4 41 7 (0 : Int32)) fun u5 =>
am_let (am_u2 u5 41 8 (1 : Int32)) fun u6 =>
some u6

theorem l_X1_begin_0 {X : Nat × (Nat → Int32)}   (u : am_MU)  (r : am_MU) (h : f_X1_begin  u  = some r) : am_Ev X M_X1_begin 0 [(0, .ref 41)] [] (hp u) (hp r, none) := by
  unfold f_X1_begin at h
  refine ev_aload_n dX1_begin_0 0 rfl trivial ?_
  refine ev_iconst (v := (0 : Int32)) dX1_begin_1 kI_0 ?_
  obtain ⟨u1, eu1, h⟩ := am_lt h
  refine px_putI dX1_begin_2 pf_RX1_15 (at1 rfl) (by decide) rfl eu1 ?_
  refine ev_aload_n dX1_begin_5 0 rfl trivial ?_
  refine ev_iconst (v := (0 : Int32)) dX1_begin_6 kI_0 ?_
  obtain ⟨u2, eu2, h⟩ := am_lt h
  refine px_putI dX1_begin_7 pf_RX1_18 (at1 rfl) (by decide) rfl eu2 ?_
  refine ev_aload_n dX1_begin_10 0 rfl trivial ?_
  refine ev_iconst (v := (0 : Int32)) dX1_begin_11 kI_0 ?_
  obtain ⟨u3, eu3, h⟩ := am_lt h
  refine px_putI dX1_begin_12 pf_RX1_28 (at1 rfl) (by decide) rfl eu3 ?_
  refine ev_aload_n dX1_begin_15 0 rfl trivial ?_
  refine ev_iconst (v := (0 : Int32)) dX1_begin_16 kI_0 ?_
  obtain ⟨u4, eu4, h⟩ := am_lt h
  refine px_putI dX1_begin_17 pf_RX1_31 (at1 rfl) (by decide) rfl eu4 ?_
  refine ev_aload_n dX1_begin_20 0 rfl trivial ?_
  refine ev_iconst (v := (0 : Int32)) dX1_begin_21 kI_0 ?_
  obtain ⟨u5, eu5, h⟩ := am_lt h
  refine px_putI dX1_begin_22 pf_RX1_34 (at1 rfl) (by decide) rfl eu5 ?_
  refine ev_aload_n dX1_begin_25 0 rfl trivial ?_
  refine ev_iconst (v := (1 : Int32)) dX1_begin_26 kI_1 ?_
  obtain ⟨u6, eu6, h⟩ := am_lt h
  refine px_putZ dX1_begin_27 pf_RX1_37 (at1 rfl) (by decide) rfl (Or.inr rfl) eu6 ?_
  obtain rfl := Option.some.inj h
  exact ev_vret dX1_begin_30 rfl

theorem c_X1_begin {X : Nat × (Nat → Int32)} {u : am_MU}  {r : am_MU} (h : f_X1_begin u  = some r) : am_Cn X M_X1_begin [.ref 41] (hp u) (hp r, none) := by
  refine am_Cn.of ok_X1_begin (Nat.le_refl _) (Nat.le_refl _) (Nat.le_of_ble_eq_true rfl) ?_
  refine ev_loc [0] rfl ?_
  exact l_X1_begin_0 u  r h

-- SandRipples$Reader.pastBlanks([III)I
def g_X1_pastBlanks_2  : Nat → am_MU → Nat → Int32 → Int32 → Option (am_MU × Int32)
  | 0 => fun _ _ _ _ => none
  | n + 1 => fun u l0 l2 l3 =>
if l2 ≤ l3 then (some (u, l3))
else (if am_in l3 (il l0) then (
if (u l0 l3.toNatClampNeg) = (32 : Int32) then (am_let (l3 + (1 : Int32)) fun x4 =>
g_X1_pastBlanks_2 n u l0 l2 x4)
else (some (u, l3))) else none)

def f_X1_pastBlanks  (u : am_MU) (l0 : Nat) (l1 : Int32) (l2 : Int32) : Option (am_MU × Int32) :=
g_X1_pastBlanks_2 1700 u l0 l2 l1

theorem l_X1_pastBlanks_2 {X : Nat × (Nat → Int32)}   : ∀ (n : Nat) (u : am_MU) (l0 : Nat) (l2 : Int32) (l3 : Int32) (r : am_MU × Int32), g_X1_pastBlanks_2  n u l0 l2 l3 = some r → am_Ev X M_X1_pastBlanks 2 [(0, .ref l0), (2, .int l2), (3, .int l3)] [] (hp u) (hp r.1, some (.int r.2)) := by
  intro n
  induction n with
  | zero => intro u l0 l2 l3 r h; cases h
  | succ n ih =>
    intro u l0 l2 l3 r h
    rw [g_X1_pastBlanks_2] at h
    refine ev_iload_n dX1_pastBlanks_2 2 rfl ?_
    refine ev_iload_n dX1_pastBlanks_3 1 rfl ?_
    refine ev_icmp_ge 21 dX1_pastBlanks_4 (by decide) (fun c1 => ?_) (fun c1 => ?_)
    · have h := am_t c1 h
      refine ev_iload_n dX1_pastBlanks_21 2 rfl ?_
      obtain rfl := Option.some.inj h
      exact ev_iret dX1_pastBlanks_22 rfl rfl
    · have h := am_e c1 h
      refine ev_aload_n dX1_pastBlanks_7 0 rfl trivial ?_
      refine ev_iload_n dX1_pastBlanks_8 2 rfl ?_
      obtain ⟨g2, h⟩ := am_gd h
      refine px_iald (n := (il l0)) l3.toNatClampNeg dX1_pastBlanks_9 rfl g2 rfl ?_
      refine ev_bipush (v := (32 : Int32)) dX1_pastBlanks_10 kB_32 ?_
      refine ev_icmp_ne 21 dX1_pastBlanks_12 (by decide) (fun c3 => ?_) (fun c3 => ?_)
      · have h := am_e c3 h
        refine ev_iload_n dX1_pastBlanks_21 2 rfl ?_
        obtain rfl := Option.some.inj h
        exact ev_iret dX1_pastBlanks_22 rfl rfl
      · have h := am_t c3 h
        obtain ⟨x4, ex4, h⟩ := am_lt h
        refine ev_iinc (v := x4) (L' := [(3, .int x4), (0, .ref l0), (2, .int l2)]) dX1_pastBlanks_15 2 rfl (by rw [kI_1, ex4]) (by decide) rfl ?_
        refine ev_goto 2 dX1_pastBlanks_18 (by decide) ?_
        refine ev_loc [1, 2, 0] rfl ?_
        exact ih u l0 l2 x4 _ h

theorem l_X1_pastBlanks_0 {X : Nat × (Nat → Int32)}   (u : am_MU) (l0 : Nat) (l1 : Int32) (l2 : Int32) (r : am_MU × Int32) (h : f_X1_pastBlanks  u l0 l1 l2 = some r) : am_Ev X M_X1_pastBlanks 0 [(0, .ref l0), (1, .int l1), (2, .int l2)] [] (hp u) (hp r.1, some (.int r.2)) := by
  unfold f_X1_pastBlanks at h
  refine ev_iload_n dX1_pastBlanks_0 1 rfl ?_
  refine ev_istore_n (L' := [(3, .int l1), (0, .ref l0), (1, .int l1), (2, .int l2)]) dX1_pastBlanks_1 (by decide) rfl ?_
  refine ev_loc [1, 3, 0] rfl ?_
  exact l_X1_pastBlanks_2   1700 u l0 l2 l1 _ h

theorem c_X1_pastBlanks {X : Nat × (Nat → Int32)} {u : am_MU} {l0 : Nat} {l1 : Int32} {l2 : Int32} {r : am_MU × Int32} (h : f_X1_pastBlanks u l0 l1 l2 = some r) : am_Cn X M_X1_pastBlanks [.ref l0, .int l1, .int l2] (hp u) (hp r.1, some (.int r.2)) := by
  refine am_Cn.of ok_X1_pastBlanks (Nat.le_refl _) (Nat.le_refl _) (Nat.le_of_ble_eq_true rfl) ?_
  refine ev_loc [0, 1, 2] rfl ?_
  exact l_X1_pastBlanks_0 u l0 l1 l2 r h

-- SandRipples$Reader.isLetter(I)Z
def f_X1_isLetter  (u : am_MU) (l0 : Int32) : Option (am_MU × Int32) :=
if l0 < (97 : Int32) then (some (u, (0 : Int32)))
else (if (122 : Int32) < l0 then (some (u, (0 : Int32)))
else (some (u, (1 : Int32))))

theorem l_X1_isLetter_0 {X : Nat × (Nat → Int32)}   (u : am_MU) (l0 : Int32) (r : am_MU × Int32) (h : f_X1_isLetter  u l0 = some r) : am_Ev X M_X1_isLetter 0 [(0, .int l0)] [] (hp u) (hp r.1, some (.int r.2)) := by
  unfold f_X1_isLetter at h
  refine ev_iload_n dX1_isLetter_0 0 rfl ?_
  refine ev_bipush (v := (97 : Int32)) dX1_isLetter_1 kB_97 ?_
  refine ev_icmp_lt 16 dX1_isLetter_3 (by decide) (fun c1 => ?_) (fun c1 => ?_)
  · have h := am_t c1 h
    refine ev_iconst (v := (0 : Int32)) dX1_isLetter_16 kI_0 ?_
    obtain rfl := Option.some.inj h
    exact ev_iret dX1_isLetter_17 rfl (am_zn (Or.inl rfl))
  · have h := am_e c1 h
    refine ev_iload_n dX1_isLetter_6 0 rfl ?_
    refine ev_bipush (v := (122 : Int32)) dX1_isLetter_7 kB_122 ?_
    refine ev_icmp_gt 16 dX1_isLetter_9 (by decide) (fun c2 => ?_) (fun c2 => ?_)
    · have h := am_t c2 h
      refine ev_iconst (v := (0 : Int32)) dX1_isLetter_16 kI_0 ?_
      obtain rfl := Option.some.inj h
      exact ev_iret dX1_isLetter_17 rfl (am_zn (Or.inl rfl))
    · have h := am_e c2 h
      refine ev_iconst (v := (1 : Int32)) dX1_isLetter_12 kI_1 ?_
      refine ev_goto 17 dX1_isLetter_13 (by decide) ?_
      obtain rfl := Option.some.inj h
      exact ev_iret dX1_isLetter_17 rfl (am_zn (Or.inr rfl))

theorem c_X1_isLetter {X : Nat × (Nat → Int32)} {u : am_MU} {l0 : Int32} {r : am_MU × Int32} (h : f_X1_isLetter u l0 = some r) : am_Cn X M_X1_isLetter [.int l0] (hp u) (hp r.1, some (.int r.2)) := by
  refine am_Cn.of ok_X1_isLetter (Nat.le_refl _) (Nat.le_refl _) (Nat.le_of_ble_eq_true rfl) ?_
  refine ev_loc [0] rfl ?_
  exact l_X1_isLetter_0 u l0 r h

-- SandRipples$Reader.isDigit(I)Z
def f_X1_isDigit  (u : am_MU) (l0 : Int32) : Option (am_MU × Int32) :=
if l0 < (48 : Int32) then (some (u, (0 : Int32)))
else (if (57 : Int32) < l0 then (some (u, (0 : Int32)))
else (some (u, (1 : Int32))))

theorem l_X1_isDigit_0 {X : Nat × (Nat → Int32)}   (u : am_MU) (l0 : Int32) (r : am_MU × Int32) (h : f_X1_isDigit  u l0 = some r) : am_Ev X M_X1_isDigit 0 [(0, .int l0)] [] (hp u) (hp r.1, some (.int r.2)) := by
  unfold f_X1_isDigit at h
  refine ev_iload_n dX1_isDigit_0 0 rfl ?_
  refine ev_bipush (v := (48 : Int32)) dX1_isDigit_1 kB_48 ?_
  refine ev_icmp_lt 16 dX1_isDigit_3 (by decide) (fun c1 => ?_) (fun c1 => ?_)
  · have h := am_t c1 h
    refine ev_iconst (v := (0 : Int32)) dX1_isDigit_16 kI_0 ?_
    obtain rfl := Option.some.inj h
    exact ev_iret dX1_isDigit_17 rfl (am_zn (Or.inl rfl))
  · have h := am_e c1 h
    refine ev_iload_n dX1_isDigit_6 0 rfl ?_
    refine ev_bipush (v := (57 : Int32)) dX1_isDigit_7 kB_57 ?_
    refine ev_icmp_gt 16 dX1_isDigit_9 (by decide) (fun c2 => ?_) (fun c2 => ?_)
    · have h := am_t c2 h
      refine ev_iconst (v := (0 : Int32)) dX1_isDigit_16 kI_0 ?_
      obtain rfl := Option.some.inj h
      exact ev_iret dX1_isDigit_17 rfl (am_zn (Or.inl rfl))
    · have h := am_e c2 h
      refine ev_iconst (v := (1 : Int32)) dX1_isDigit_12 kI_1 ?_
      refine ev_goto 17 dX1_isDigit_13 (by decide) ?_
      obtain rfl := Option.some.inj h
      exact ev_iret dX1_isDigit_17 rfl (am_zn (Or.inr rfl))

theorem c_X1_isDigit {X : Nat × (Nat → Int32)} {u : am_MU} {l0 : Int32} {r : am_MU × Int32} (h : f_X1_isDigit u l0 = some r) : am_Cn X M_X1_isDigit [.int l0] (hp u) (hp r.1, some (.int r.2)) := by
  refine am_Cn.of ok_X1_isDigit (Nat.le_refl _) (Nat.le_refl _) (Nat.le_of_ble_eq_true rfl) ?_
  refine ev_loc [0] rfl ?_
  exact l_X1_isDigit_0 u l0 r h

-- SandRipples$Reader.endOfWord([III)I
def g_X1_endOfWord_62 (K27 : am_MU → Nat → Int32 → Int32 → Int32 → Int32 → Option (am_MU × Int32)) (u : am_MU) (l0 : Nat) (l2 : Int32) (l3 : Int32) (l4 : Int32) (l5 : Int32) : Option (am_MU × Int32) :=
am_let (l5 + (1 : Int32)) fun x1 =>
K27 u l0 l2 l3 l4 x1

def g_X1_endOfWord_47 (K27 : am_MU → Nat → Int32 → Int32 → Int32 → Int32 → Option (am_MU × Int32)) (u : am_MU) (l0 : Nat) (l2 : Int32) (l3 : Int32) (l4 : Int32) (l5 : Int32) : Option (am_MU × Int32) :=
if l4 = 0 then (some (u, l5))
else (if am_in l5 (il l0) then (
(f_X1_isDigit u (u l0 l5.toNatClampNeg)).bind fun q3 =>
if q3.2 = 0 then (some (q3.1, l5))
else (g_X1_endOfWord_62 K27 q3.1 l0 l2 l3 l4 l5)) else none)

def g_X1_endOfWord_27  : Nat → am_MU → Nat → Int32 → Int32 → Int32 → Int32 → Option (am_MU × Int32)
  | 0 => fun _ _ _ _ _ _ => none
  | n + 1 => fun u l0 l2 l3 l4 l5 =>
if l2 ≤ l5 then (some (u, l5))
else (if l3 = 0 then (g_X1_endOfWord_47 (g_X1_endOfWord_27 n) u l0 l2 l3 l4 l5)
else (if am_in l5 (il l0) then (
(f_X1_isLetter u (u l0 l5.toNatClampNeg)).bind fun q4 =>
if q4.2 = 0 then (g_X1_endOfWord_47 (g_X1_endOfWord_27 n) q4.1 l0 l2 l3 l4 l5)
else (g_X1_endOfWord_62 (g_X1_endOfWord_27 n) q4.1 l0 l2 l3 l4 l5)) else none))

def f_X1_endOfWord  (u : am_MU) (l0 : Nat) (l1 : Int32) (l2 : Int32) : Option (am_MU × Int32) :=
if l1 < l2 then (if am_in l1 (il l0) then (
(f_X1_isLetter u (u l0 l1.toNatClampNeg)).bind fun q3 =>
(f_X1_isDigit q3.1 (q3.1 l0 l1.toNatClampNeg)).bind fun q4 =>
am_let (l1 + (1 : Int32)) fun x5 =>
g_X1_endOfWord_27 1700 q4.1 l0 l2 q3.2 q4.2 x5) else none)
else (some (u, l2))

theorem l_X1_endOfWord_62 {X : Nat × (Nat → Int32)} (K27 : am_MU → Nat → Int32 → Int32 → Int32 → Int32 → Option (am_MU × Int32)) (hK27 : ∀ (u : am_MU) (l0 : Nat) (l2 : Int32) (l3 : Int32) (l4 : Int32) (l5 : Int32) (r : am_MU × Int32), K27 u l0 l2 l3 l4 l5 = some r → am_Ev X M_X1_endOfWord 27 [(0, .ref l0), (2, .int l2), (3, .int l3), (4, .int l4), (5, .int l5)] [] (hp u) (hp r.1, some (.int r.2))) (u : am_MU) (l0 : Nat) (l2 : Int32) (l3 : Int32) (l4 : Int32) (l5 : Int32) (r : am_MU × Int32) (h : g_X1_endOfWord_62 K27 u l0 l2 l3 l4 l5 = some r) : am_Ev X M_X1_endOfWord 62 [(0, .ref l0), (2, .int l2), (3, .int l3), (4, .int l4), (5, .int l5)] [] (hp u) (hp r.1, some (.int r.2)) := by
  unfold g_X1_endOfWord_62 at h
  obtain ⟨x1, ex1, h⟩ := am_lt h
  refine ev_iinc (v := x1) (L' := [(5, .int x1), (0, .ref l0), (2, .int l2), (3, .int l3), (4, .int l4)]) dX1_endOfWord_62 4 rfl (by rw [kI_1, ex1]) (by decide) rfl ?_
  refine ev_goto 27 dX1_endOfWord_65 (by decide) ?_
  refine ev_loc [1, 2, 3, 4, 0] rfl ?_
  exact hK27 u l0 l2 l3 l4 x1 _ h

theorem l_X1_endOfWord_47 {X : Nat × (Nat → Int32)} (K27 : am_MU → Nat → Int32 → Int32 → Int32 → Int32 → Option (am_MU × Int32)) (hK27 : ∀ (u : am_MU) (l0 : Nat) (l2 : Int32) (l3 : Int32) (l4 : Int32) (l5 : Int32) (r : am_MU × Int32), K27 u l0 l2 l3 l4 l5 = some r → am_Ev X M_X1_endOfWord 27 [(0, .ref l0), (2, .int l2), (3, .int l3), (4, .int l4), (5, .int l5)] [] (hp u) (hp r.1, some (.int r.2))) (u : am_MU) (l0 : Nat) (l2 : Int32) (l3 : Int32) (l4 : Int32) (l5 : Int32) (r : am_MU × Int32) (h : g_X1_endOfWord_47 K27 u l0 l2 l3 l4 l5 = some r) : am_Ev X M_X1_endOfWord 47 [(0, .ref l0), (2, .int l2), (3, .int l3), (4, .int l4), (5, .int l5)] [] (hp u) (hp r.1, some (.int r.2)) := by
  unfold g_X1_endOfWord_47 at h
  refine ev_iload dX1_endOfWord_47 3 rfl ?_
  refine ev_if_eq 68 dX1_endOfWord_49 (by decide) (fun c1 => ?_) (fun c1 => ?_)
  · have h := am_t c1 h
    refine ev_iload dX1_endOfWord_68 4 rfl ?_
    obtain rfl := Option.some.inj h
    exact ev_iret dX1_endOfWord_70 rfl rfl
  · have h := am_e c1 h
    refine ev_aload_n dX1_endOfWord_52 0 rfl trivial ?_
    refine ev_iload dX1_endOfWord_53 4 rfl ?_
    obtain ⟨g2, h⟩ := am_gd h
    refine px_iald (n := (il l0)) l5.toNatClampNeg dX1_endOfWord_55 rfl g2 rfl ?_
    obtain ⟨q3, eq3, h⟩ := am_bd h
    refine px_callsi [.int (u l0 l5.toNatClampNeg)] dX1_endOfWord_56 ok_X1_isDigit lk_RX1_69 st_X1_isDigit (by decide) rfl (c_X1_isDigit eq3) rfl (Nat.le_of_ble_eq_true rfl) ?_
    refine ev_if_eq 68 dX1_endOfWord_59 (by decide) (fun c4 => ?_) (fun c4 => ?_)
    · have h := am_t c4 h
      refine ev_iload dX1_endOfWord_68 4 rfl ?_
      obtain rfl := Option.some.inj h
      exact ev_iret dX1_endOfWord_70 rfl rfl
    · have h := am_e c4 h
      refine ev_loc [0, 1, 2, 3, 4] rfl ?_
      exact l_X1_endOfWord_62 K27 hK27 q3.1 l0 l2 l3 l4 l5 _ h

theorem l_X1_endOfWord_27 {X : Nat × (Nat → Int32)}   : ∀ (n : Nat) (u : am_MU) (l0 : Nat) (l2 : Int32) (l3 : Int32) (l4 : Int32) (l5 : Int32) (r : am_MU × Int32), g_X1_endOfWord_27  n u l0 l2 l3 l4 l5 = some r → am_Ev X M_X1_endOfWord 27 [(0, .ref l0), (2, .int l2), (3, .int l3), (4, .int l4), (5, .int l5)] [] (hp u) (hp r.1, some (.int r.2)) := by
  intro n
  induction n with
  | zero => intro u l0 l2 l3 l4 l5 r h; cases h
  | succ n ih =>
    intro u l0 l2 l3 l4 l5 r h
    rw [g_X1_endOfWord_27] at h
    refine ev_iload dX1_endOfWord_27 4 rfl ?_
    refine ev_iload_n dX1_endOfWord_29 1 rfl ?_
    refine ev_icmp_ge 68 dX1_endOfWord_30 (by decide) (fun c1 => ?_) (fun c1 => ?_)
    · have h := am_t c1 h
      refine ev_iload dX1_endOfWord_68 4 rfl ?_
      obtain rfl := Option.some.inj h
      exact ev_iret dX1_endOfWord_70 rfl rfl
    · have h := am_e c1 h
      refine ev_iload_n dX1_endOfWord_33 2 rfl ?_
      refine ev_if_eq 47 dX1_endOfWord_34 (by decide) (fun c2 => ?_) (fun c2 => ?_)
      · have h := am_t c2 h
        refine ev_loc [0, 1, 2, 3, 4] rfl ?_
        exact l_X1_endOfWord_47 (g_X1_endOfWord_27 n) (fun u l0 l2 l3 l4 l5 r h => ih u l0 l2 l3 l4 l5 r h) u l0 l2 l3 l4 l5 _ h
      · have h := am_e c2 h
        refine ev_aload_n dX1_endOfWord_37 0 rfl trivial ?_
        refine ev_iload dX1_endOfWord_38 4 rfl ?_
        obtain ⟨g3, h⟩ := am_gd h
        refine px_iald (n := (il l0)) l5.toNatClampNeg dX1_endOfWord_40 rfl g3 rfl ?_
        obtain ⟨q4, eq4, h⟩ := am_bd h
        refine px_callsi [.int (u l0 l5.toNatClampNeg)] dX1_endOfWord_41 ok_X1_isLetter lk_RX1_75 st_X1_isLetter (by decide) rfl (c_X1_isLetter eq4) rfl (Nat.le_of_ble_eq_true rfl) ?_
        refine ev_if_ne 62 dX1_endOfWord_44 (by decide) (fun c5 => ?_) (fun c5 => ?_)
        · have h := am_e c5 h
          refine ev_loc [0, 1, 2, 3, 4] rfl ?_
          exact l_X1_endOfWord_62 (g_X1_endOfWord_27 n) (fun u l0 l2 l3 l4 l5 r h => ih u l0 l2 l3 l4 l5 r h) q4.1 l0 l2 l3 l4 l5 _ h
        · have h := am_t c5 h
          refine ev_loc [0, 1, 2, 3, 4] rfl ?_
          exact l_X1_endOfWord_47 (g_X1_endOfWord_27 n) (fun u l0 l2 l3 l4 l5 r h => ih u l0 l2 l3 l4 l5 r h) q4.1 l0 l2 l3 l4 l5 _ h

theorem l_X1_endOfWord_0 {X : Nat × (Nat → Int32)}   (u : am_MU) (l0 : Nat) (l1 : Int32) (l2 : Int32) (r : am_MU × Int32) (h : f_X1_endOfWord  u l0 l1 l2 = some r) : am_Ev X M_X1_endOfWord 0 [(0, .ref l0), (1, .int l1), (2, .int l2)] [] (hp u) (hp r.1, some (.int r.2)) := by
  unfold f_X1_endOfWord at h
  refine ev_iload_n dX1_endOfWord_0 1 rfl ?_
  refine ev_iload_n dX1_endOfWord_1 2 rfl ?_
  refine ev_icmp_lt 7 dX1_endOfWord_2 (by decide) (fun c1 => ?_) (fun c1 => ?_)
  · have h := am_t c1 h
    refine ev_aload_n dX1_endOfWord_7 0 rfl trivial ?_
    refine ev_iload_n dX1_endOfWord_8 1 rfl ?_
    obtain ⟨g2, h⟩ := am_gd h
    refine px_iald (n := (il l0)) l1.toNatClampNeg dX1_endOfWord_9 rfl g2 rfl ?_
    obtain ⟨q3, eq3, h⟩ := am_bd h
    refine px_callsi [.int (u l0 l1.toNatClampNeg)] dX1_endOfWord_10 ok_X1_isLetter lk_RX1_75 st_X1_isLetter (by decide) rfl (c_X1_isLetter eq3) rfl (Nat.le_of_ble_eq_true rfl) ?_
    refine ev_istore_n (L' := [(3, .int q3.2), (0, .ref l0), (1, .int l1), (2, .int l2)]) dX1_endOfWord_13 (by decide) rfl ?_
    refine ev_aload_n dX1_endOfWord_14 1 rfl trivial ?_
    refine ev_iload_n dX1_endOfWord_15 2 rfl ?_
    refine px_iald (n := (il l0)) l1.toNatClampNeg dX1_endOfWord_16 rfl g2 rfl ?_
    obtain ⟨q4, eq4, h⟩ := am_bd h
    refine px_callsi [.int (q3.1 l0 l1.toNatClampNeg)] dX1_endOfWord_17 ok_X1_isDigit lk_RX1_69 st_X1_isDigit (by decide) rfl (c_X1_isDigit eq4) rfl (Nat.le_of_ble_eq_true rfl) ?_
    refine ev_istore (L' := [(4, .int q4.2), (3, .int q3.2), (0, .ref l0), (1, .int l1), (2, .int l2)]) dX1_endOfWord_20 (by decide) rfl ?_
    refine ev_iload_n dX1_endOfWord_22 3 rfl ?_
    refine ev_iconst (v := (1 : Int32)) dX1_endOfWord_23 kI_1 ?_
    refine ev_iadd dX1_endOfWord_24 ?_
    obtain ⟨x5, ex5, h⟩ := am_lt h
    refine px_top ex5 ?_
    refine ev_istore (L' := [(5, .int x5), (4, .int q4.2), (3, .int q3.2), (0, .ref l0), (1, .int l1), (2, .int l2)]) dX1_endOfWord_25 (by decide) rfl ?_
    refine ev_loc [3, 5, 2, 1, 0] rfl ?_
    exact l_X1_endOfWord_27   1700 q4.1 l0 l2 q3.2 q4.2 x5 _ h
  · have h := am_e c1 h
    refine ev_iload_n dX1_endOfWord_5 2 rfl ?_
    obtain rfl := Option.some.inj h
    exact ev_iret dX1_endOfWord_6 rfl rfl

theorem c_X1_endOfWord {X : Nat × (Nat → Int32)} {u : am_MU} {l0 : Nat} {l1 : Int32} {l2 : Int32} {r : am_MU × Int32} (h : f_X1_endOfWord u l0 l1 l2 = some r) : am_Cn X M_X1_endOfWord [.ref l0, .int l1, .int l2] (hp u) (hp r.1, some (.int r.2)) := by
  refine am_Cn.of ok_X1_endOfWord (Nat.le_refl _) (Nat.le_refl _) (Nat.le_of_ble_eq_true rfl) ?_
  refine ev_loc [0, 1, 2] rfl ?_
  exact l_X1_endOfWord_0 u l0 l1 l2 r h

-- SandRipples$Reader.wordOf(I)Ljava/lang/String;
def f_X1_wordOf  (u : am_MU) (l0 : Int32) : Option (am_MU × Nat) :=
if l0 = (0 : Int32) then (some (u, 4))
else if l0 = (1 : Int32) then (some (u, 5))
else (some (u, 6))

theorem l_X1_wordOf_0 {X : Nat × (Nat → Int32)}   (u : am_MU) (l0 : Int32) (r : am_MU × Nat) (h : f_X1_wordOf  u l0 = some r) : am_Ev X M_X1_wordOf 0 [(0, .int l0)] [] (hp u) (hp r.1, some (.retAddr r.2)) := by
  unfold f_X1_wordOf at h
  refine ev_iload_n dX1_wordOf_0 0 rfl ?_
  refine am_cs h (fun c1 h => ?_) (fun c1 h => ?_)
  · refine ev_lookup 28 (27) dX1_wordOf_1 (by decide) (by rw [c1]; decide) (by decide) ?_
    refine ev_ldcS (k := 4) dX1_wordOf_28 rfl (List.mem_of_getElem? (i := 0) rfl) ?_
    obtain rfl := Option.some.inj h
    exact ev_aretC dX1_wordOf_30 rfl (Or.inl ⟨_, rfl⟩)
  refine am_cs h (fun c2 h => ?_) (fun c2 h => ?_)
  · refine ev_lookup 31 (30) dX1_wordOf_1 (by decide) (by rw [c2]; decide) (by decide) ?_
    refine ev_ldcS (k := 5) dX1_wordOf_31 rfl (List.mem_of_getElem? (i := 1) rfl) ?_
    obtain rfl := Option.some.inj h
    exact ev_aretC dX1_wordOf_33 rfl (Or.inl ⟨_, rfl⟩)
  refine ev_lookup 34 (33) dX1_wordOf_1 (by decide) ((lv_osw c1 (by decide)).trans ((lv_osw c2 (by decide)).trans rfl)) (by decide) ?_
  refine ev_ldcS (k := 6) dX1_wordOf_34 rfl (List.mem_of_getElem? (i := 2) rfl) ?_
  obtain rfl := Option.some.inj h
  exact ev_aretC dX1_wordOf_36 rfl (Or.inl ⟨_, rfl⟩)

theorem c_X1_wordOf {X : Nat × (Nat → Int32)} {u : am_MU} {l0 : Int32} {r : am_MU × Nat} (h : f_X1_wordOf u l0 = some r) : am_Cn X M_X1_wordOf [.int l0] (hp u) (hp r.1, some (.retAddr r.2)) := by
  refine am_Cn.of ok_X1_wordOf (Nat.le_refl _) (Nat.le_refl _) (Nat.le_of_ble_eq_true rfl) ?_
  refine ev_loc [0] rfl ?_
  exact l_X1_wordOf_0 u l0 r h

-- SandRipples$Reader.isWord([IIILjava/lang/String;)Z
def g_X1_isWord_15  : Nat → am_MU → Nat → Int32 → Nat → Int32 → Option (am_MU × Int32)
  | 0 => fun _ _ _ _ _ => none
  | n + 1 => fun u l0 l1 l3 l4 =>
if 4 ≤ l3 ∧ l3 < 10 then (
(f_J0_length_8abf5 u l3).bind fun q1 =>
if q1.2 ≤ l4 then (some (q1.1, (1 : Int32)))
else (if am_in (l1 + l4) (il l0) then (
(f_J0_charAt_5068e q1.1 l3 l4).bind fun q5 =>
if (q1.1 l0 ((l1 + l4).toNatClampNeg)) = q5.2 then (am_let (l4 + (1 : Int32)) fun x7 =>
g_X1_isWord_15 n q5.1 l0 l1 l3 x7)
else (some (q5.1, (0 : Int32)))) else none)) else none

def f_X1_isWord  (u : am_MU) (l0 : Nat) (l1 : Int32) (l2 : Int32) (l3 : Nat) : Option (am_MU × Int32) :=
if 4 ≤ l3 ∧ l3 < 10 then (
(f_J0_length_8abf5 u l3).bind fun q1 =>
if (l2 - l1) = q1.2 then (g_X1_isWord_15 1700 q1.1 l0 l1 l3 (0 : Int32))
else (some (q1.1, (0 : Int32)))) else none

theorem l_X1_isWord_15 {X : Nat × (Nat → Int32)}   : ∀ (n : Nat) (u : am_MU) (l0 : Nat) (l1 : Int32) (l3 : Nat) (l4 : Int32) (r : am_MU × Int32), g_X1_isWord_15  n u l0 l1 l3 l4 = some r → am_Ev X M_X1_isWord 15 [(0, .ref l0), (1, .int l1), (3, .retAddr l3), (4, .int l4)] [] (hp u) (hp r.1, some (.int r.2)) := by
  intro n
  induction n with
  | zero => intro u l0 l1 l3 l4 r h; cases h
  | succ n ih =>
    intro u l0 l1 l3 l4 r h
    rw [g_X1_isWord_15] at h
    refine ev_iload dX1_isWord_15 3 rfl ?_
    refine ev_aload_n dX1_isWord_17 2 rfl trivial ?_
    obtain ⟨g2, h⟩ := am_gd h
    obtain ⟨q1, eq1, h⟩ := am_bd h
    refine px_callSi [] rfl g2 dX1_isWord_18 ok_J0_length_8abf5 lk_RX1_132 in_J0_length_8abf5 se_J0_length_8abf5 (by decide) rfl (c_J0_length_8abf5 eq1) rfl (Nat.le_of_ble_eq_true rfl) ?_
    refine ev_icmp_ge 47 dX1_isWord_21 (by decide) (fun c3 => ?_) (fun c3 => ?_)
    · have h := am_t c3 h
      refine ev_iconst (v := (1 : Int32)) dX1_isWord_47 kI_1 ?_
      obtain rfl := Option.some.inj h
      exact ev_iret dX1_isWord_48 rfl (am_zn (Or.inr rfl))
    · have h := am_e c3 h
      refine ev_aload_n dX1_isWord_24 0 rfl trivial ?_
      refine ev_iload_n dX1_isWord_25 1 rfl ?_
      refine ev_iload dX1_isWord_26 3 rfl ?_
      refine ev_iadd dX1_isWord_28 ?_
      obtain ⟨g4, h⟩ := am_gd h
      refine px_iald (n := (il l0)) ((l1 + l4).toNatClampNeg) dX1_isWord_29 rfl g4 rfl ?_
      refine ev_aload_n dX1_isWord_30 2 rfl trivial ?_
      refine ev_iload dX1_isWord_31 3 rfl ?_
      obtain ⟨q5, eq5, h⟩ := am_bd h
      refine px_callSi [.int l4] rfl g2 dX1_isWord_33 ok_J0_charAt_5068e lk_RX1_135 in_J0_charAt_5068e se_J0_charAt_5068e (by decide) rfl (c_J0_charAt_5068e eq5) rfl (Nat.le_of_ble_eq_true rfl) ?_
      refine ev_icmp_eq 41 dX1_isWord_36 (by decide) (fun c6 => ?_) (fun c6 => ?_)
      · have h := am_t c6 h
        obtain ⟨x7, ex7, h⟩ := am_lt h
        refine ev_iinc (v := x7) (L' := [(4, .int x7), (0, .ref l0), (1, .int l1), (3, .retAddr l3)]) dX1_isWord_41 3 rfl (by rw [kI_1, ex7]) (by decide) rfl ?_
        refine ev_goto 15 dX1_isWord_44 (by decide) ?_
        refine ev_loc [1, 2, 3, 0] rfl ?_
        exact ih q5.1 l0 l1 l3 x7 _ h
      · have h := am_e c6 h
        refine ev_iconst (v := (0 : Int32)) dX1_isWord_39 kI_0 ?_
        obtain rfl := Option.some.inj h
        exact ev_iret dX1_isWord_40 rfl (am_zn (Or.inl rfl))

theorem l_X1_isWord_0 {X : Nat × (Nat → Int32)}   (u : am_MU) (l0 : Nat) (l1 : Int32) (l2 : Int32) (l3 : Nat) (r : am_MU × Int32) (h : f_X1_isWord  u l0 l1 l2 l3 = some r) : am_Ev X M_X1_isWord 0 [(0, .ref l0), (1, .int l1), (2, .int l2), (3, .retAddr l3)] [] (hp u) (hp r.1, some (.int r.2)) := by
  unfold f_X1_isWord at h
  refine ev_iload_n dX1_isWord_0 2 rfl ?_
  refine ev_iload_n dX1_isWord_1 1 rfl ?_
  refine ev_isub dX1_isWord_2 ?_
  refine ev_aload_n dX1_isWord_3 3 rfl trivial ?_
  obtain ⟨g2, h⟩ := am_gd h
  obtain ⟨q1, eq1, h⟩ := am_bd h
  refine px_callSi [] rfl g2 dX1_isWord_4 ok_J0_length_8abf5 lk_RX1_132 in_J0_length_8abf5 se_J0_length_8abf5 (by decide) rfl (c_J0_length_8abf5 eq1) rfl (Nat.le_of_ble_eq_true rfl) ?_
  refine ev_icmp_eq 12 dX1_isWord_7 (by decide) (fun c3 => ?_) (fun c3 => ?_)
  · have h := am_t c3 h
    refine ev_iconst (v := (0 : Int32)) dX1_isWord_12 kI_0 ?_
    refine ev_istore (L' := [(4, .int (0 : Int32)), (0, .ref l0), (1, .int l1), (2, .int l2), (3, .retAddr l3)]) dX1_isWord_13 (by decide) rfl ?_
    refine ev_loc [1, 2, 4, 0] rfl ?_
    exact l_X1_isWord_15   1700 q1.1 l0 l1 l3 (0 : Int32) _ h
  · have h := am_e c3 h
    refine ev_iconst (v := (0 : Int32)) dX1_isWord_10 kI_0 ?_
    obtain rfl := Option.some.inj h
    exact ev_iret dX1_isWord_11 rfl (am_zn (Or.inl rfl))

theorem c_X1_isWord {X : Nat × (Nat → Int32)} {u : am_MU} {l0 : Nat} {l1 : Int32} {l2 : Int32} {l3 : Nat} {r : am_MU × Int32} (h : f_X1_isWord u l0 l1 l2 l3 = some r) : am_Cn X M_X1_isWord [.ref l0, .int l1, .int l2, .retAddr l3] (hp u) (hp r.1, some (.int r.2)) := by
  refine am_Cn.of ok_X1_isWord (Nat.le_refl _) (Nat.le_refl _) (Nat.le_of_ble_eq_true rfl) ?_
  refine ev_loc [0, 1, 2, 3] rfl ?_
  exact l_X1_isWord_0 u l0 l1 l2 l3 r h

-- SandRipples$Reader.keyOf([III)I
def g_X1_keyOf_2  : Nat → am_MU → Nat → Int32 → Int32 → Int32 → Option (am_MU × Int32)
  | 0 => fun _ _ _ _ _ => none
  | n + 1 => fun u l0 l1 l2 l3 =>
if (2 : Int32) < l3 then (some (u, ((-1) : Int32)))
else ((f_X1_wordOf u l3).bind fun q2 =>
(f_X1_isWord q2.1 l0 l1 l2 q2.2).bind fun q3 =>
if q3.2 = 0 then (am_let (l3 + (1 : Int32)) fun x5 =>
g_X1_keyOf_2 n q3.1 l0 l1 l2 x5)
else (some (q3.1, l3)))

def f_X1_keyOf  (u : am_MU) (l0 : Nat) (l1 : Int32) (l2 : Int32) : Option (am_MU × Int32) :=
g_X1_keyOf_2 1700 u l0 l1 l2 (0 : Int32)

theorem l_X1_keyOf_2 {X : Nat × (Nat → Int32)}   : ∀ (n : Nat) (u : am_MU) (l0 : Nat) (l1 : Int32) (l2 : Int32) (l3 : Int32) (r : am_MU × Int32), g_X1_keyOf_2  n u l0 l1 l2 l3 = some r → am_Ev X M_X1_keyOf 2 [(0, .ref l0), (1, .int l1), (2, .int l2), (3, .int l3)] [] (hp u) (hp r.1, some (.int r.2)) := by
  intro n
  induction n with
  | zero => intro u l0 l1 l2 l3 r h; cases h
  | succ n ih =>
    intro u l0 l1 l2 l3 r h
    rw [g_X1_keyOf_2] at h
    refine ev_iload_n dX1_keyOf_2 3 rfl ?_
    refine ev_iconst (v := (2 : Int32)) dX1_keyOf_3 kI_2 ?_
    refine ev_icmp_gt 28 dX1_keyOf_4 (by decide) (fun c1 => ?_) (fun c1 => ?_)
    · have h := am_t c1 h
      refine ev_iconst (v := ((-1) : Int32)) dX1_keyOf_28 kI_m1 ?_
      obtain rfl := Option.some.inj h
      exact ev_iret dX1_keyOf_29 rfl rfl
    · have h := am_e c1 h
      refine ev_aload_n dX1_keyOf_7 0 rfl trivial ?_
      refine ev_iload_n dX1_keyOf_8 1 rfl ?_
      refine ev_iload_n dX1_keyOf_9 2 rfl ?_
      refine ev_iload_n dX1_keyOf_10 3 rfl ?_
      obtain ⟨q2, eq2, h⟩ := am_bd h
      refine px_callsk [.int l3] dX1_keyOf_11 ok_X1_wordOf lk_RX1_113 st_X1_wordOf (by decide) rfl (c_X1_wordOf eq2) rfl (Nat.le_of_ble_eq_true rfl) ?_
      obtain ⟨q3, eq3, h⟩ := am_bd h
      refine px_callsi [.ref l0, .int l1, .int l2, .retAddr q2.2] dX1_keyOf_14 ok_X1_isWord lk_RX1_116 st_X1_isWord (by decide) rfl (c_X1_isWord eq3) rfl (Nat.le_of_ble_eq_true rfl) ?_
      refine ev_if_eq 22 dX1_keyOf_17 (by decide) (fun c4 => ?_) (fun c4 => ?_)
      · have h := am_t c4 h
        obtain ⟨x5, ex5, h⟩ := am_lt h
        refine ev_iinc (v := x5) (L' := [(3, .int x5), (0, .ref l0), (1, .int l1), (2, .int l2)]) dX1_keyOf_22 3 rfl (by rw [kI_1, ex5]) (by decide) rfl ?_
        refine ev_goto 2 dX1_keyOf_25 (by decide) ?_
        refine ev_loc [1, 2, 3, 0] rfl ?_
        exact ih q3.1 l0 l1 l2 x5 _ h
      · have h := am_e c4 h
        refine ev_iload_n dX1_keyOf_20 3 rfl ?_
        obtain rfl := Option.some.inj h
        exact ev_iret dX1_keyOf_21 rfl rfl

theorem l_X1_keyOf_0 {X : Nat × (Nat → Int32)}   (u : am_MU) (l0 : Nat) (l1 : Int32) (l2 : Int32) (r : am_MU × Int32) (h : f_X1_keyOf  u l0 l1 l2 = some r) : am_Ev X M_X1_keyOf 0 [(0, .ref l0), (1, .int l1), (2, .int l2)] [] (hp u) (hp r.1, some (.int r.2)) := by
  unfold f_X1_keyOf at h
  refine ev_iconst (v := (0 : Int32)) dX1_keyOf_0 kI_0 ?_
  refine ev_istore_n (L' := [(3, .int (0 : Int32)), (0, .ref l0), (1, .int l1), (2, .int l2)]) dX1_keyOf_1 (by decide) rfl ?_
  refine ev_loc [1, 2, 3, 0] rfl ?_
  exact l_X1_keyOf_2   1700 u l0 l1 l2 (0 : Int32) _ h

theorem c_X1_keyOf {X : Nat × (Nat → Int32)} {u : am_MU} {l0 : Nat} {l1 : Int32} {l2 : Int32} {r : am_MU × Int32} (h : f_X1_keyOf u l0 l1 l2 = some r) : am_Cn X M_X1_keyOf [.ref l0, .int l1, .int l2] (hp u) (hp r.1, some (.int r.2)) := by
  refine am_Cn.of ok_X1_keyOf (Nat.le_refl _) (Nat.le_refl _) (Nat.le_of_ble_eq_true rfl) ?_
  refine ev_loc [0, 1, 2] rfl ?_
  exact l_X1_keyOf_0 u l0 l1 l2 r h

-- SandRipples$Reader.isInWord(I)Z
def f_X1_isInWord  (u : am_MU) (l0 : Int32) : Option (am_MU × Int32) :=
(f_X1_isLetter u l0).bind fun q1 =>
if q1.2 = 0 then ((f_X1_isDigit q1.1 l0).bind fun q3 =>
if q3.2 = 0 then (some (q3.1, (0 : Int32)))
else (some (q3.1, (1 : Int32))))
else (some (q1.1, (1 : Int32)))

theorem l_X1_isInWord_0 {X : Nat × (Nat → Int32)}   (u : am_MU) (l0 : Int32) (r : am_MU × Int32) (h : f_X1_isInWord  u l0 = some r) : am_Ev X M_X1_isInWord 0 [(0, .int l0)] [] (hp u) (hp r.1, some (.int r.2)) := by
  unfold f_X1_isInWord at h
  refine ev_iload_n dX1_isInWord_0 0 rfl ?_
  obtain ⟨q1, eq1, h⟩ := am_bd h
  refine px_callsi [.int l0] dX1_isInWord_1 ok_X1_isLetter lk_RX1_75 st_X1_isLetter (by decide) rfl (c_X1_isLetter eq1) rfl (Nat.le_of_ble_eq_true rfl) ?_
  refine ev_if_ne 14 dX1_isInWord_4 (by decide) (fun c2 => ?_) (fun c2 => ?_)
  · have h := am_e c2 h
    refine ev_iconst (v := (1 : Int32)) dX1_isInWord_14 kI_1 ?_
    refine ev_goto 19 dX1_isInWord_15 (by decide) ?_
    obtain rfl := Option.some.inj h
    exact ev_iret dX1_isInWord_19 rfl (am_zn (Or.inr rfl))
  · have h := am_t c2 h
    refine ev_iload_n dX1_isInWord_7 0 rfl ?_
    obtain ⟨q3, eq3, h⟩ := am_bd h
    refine px_callsi [.int l0] dX1_isInWord_8 ok_X1_isDigit lk_RX1_69 st_X1_isDigit (by decide) rfl (c_X1_isDigit eq3) rfl (Nat.le_of_ble_eq_true rfl) ?_
    refine ev_if_eq 18 dX1_isInWord_11 (by decide) (fun c4 => ?_) (fun c4 => ?_)
    · have h := am_t c4 h
      refine ev_iconst (v := (0 : Int32)) dX1_isInWord_18 kI_0 ?_
      obtain rfl := Option.some.inj h
      exact ev_iret dX1_isInWord_19 rfl (am_zn (Or.inl rfl))
    · have h := am_e c4 h
      refine ev_iconst (v := (1 : Int32)) dX1_isInWord_14 kI_1 ?_
      refine ev_goto 19 dX1_isInWord_15 (by decide) ?_
      obtain rfl := Option.some.inj h
      exact ev_iret dX1_isInWord_19 rfl (am_zn (Or.inr rfl))

theorem c_X1_isInWord {X : Nat × (Nat → Int32)} {u : am_MU} {l0 : Int32} {r : am_MU × Int32} (h : f_X1_isInWord u l0 = some r) : am_Cn X M_X1_isInWord [.int l0] (hp u) (hp r.1, some (.int r.2)) := by
  refine am_Cn.of ok_X1_isInWord (Nat.le_refl _) (Nat.le_refl _) (Nat.le_of_ble_eq_true rfl) ?_
  refine ev_loc [0] rfl ?_
  exact l_X1_isInWord_0 u l0 r h

-- SandRipples$Reader.put(I)V
def f_X1_put  (u : am_MU) (l1 : Int32) : Option (am_MU) :=
if (96 : Int32) ≤ (u 41 2) then (some u)
else (if am_in (u 41 2) 96 then (
am_let (am_u2 u 42 ((u 41 2).toNatClampNeg) l1) fun u3 =>
am_let (am_u2 u3 41 2 ((u3 41 2) + (1 : Int32))) fun u4 =>
some u4) else none)

theorem l_X1_put_0 {X : Nat × (Nat → Int32)}   (u : am_MU) (l1 : Int32) (r : am_MU) (h : f_X1_put  u l1 = some r) : am_Ev X M_X1_put 0 [(0, .ref 41), (1, .int l1)] [] (hp u) (hp r, none) := by
  unfold f_X1_put at h
  refine ev_aload_n dX1_put_0 0 rfl trivial ?_
  refine px_getI dX1_put_1 gf_RX1_18 (at1 rfl) (by decide) rfl ?_
  refine ev_bipush (v := (96 : Int32)) dX1_put_4 kB_96 ?_
  refine ev_icmp_ge 29 dX1_put_6 (by decide) (fun c1 => ?_) (fun c1 => ?_)
  · have h := am_t c1 h
    obtain rfl := Option.some.inj h
    exact ev_vret dX1_put_29 rfl
  · have h := am_e c1 h
    refine ev_aload_n dX1_put_9 0 rfl trivial ?_
    refine px_getR dX1_put_10 gf_RX1_21 (at1 rfl) (by decide) rfl ?_
    refine ev_aload_n dX1_put_13 0 rfl trivial ?_
    refine px_getI dX1_put_14 gf_RX1_18 (at1 rfl) (by decide) rfl ?_
    refine ev_iload_n dX1_put_17 1 rfl ?_
    obtain ⟨g2, h⟩ := am_gd h
    obtain ⟨u3, eu3, h⟩ := am_lt h
    refine px_iast (n := 96) ((u 41 2).toNatClampNeg) dX1_put_18 rfl g2 rfl eu3 ?_
    refine ev_aload_n dX1_put_19 0 rfl trivial ?_
    refine ev_dup dX1_put_20 rfl ?_
    refine px_getI dX1_put_21 gf_RX1_18 (at1 rfl) (by decide) rfl ?_
    refine ev_iconst (v := (1 : Int32)) dX1_put_24 kI_1 ?_
    refine ev_iadd dX1_put_25 ?_
    obtain ⟨u4, eu4, h⟩ := am_lt h
    refine px_putI dX1_put_26 pf_RX1_18 (at1 rfl) (by decide) rfl eu4 ?_
    obtain rfl := Option.some.inj h
    exact ev_vret dX1_put_29 rfl

theorem c_X1_put {X : Nat × (Nat → Int32)} {u : am_MU} {l1 : Int32} {r : am_MU} (h : f_X1_put u l1 = some r) : am_Cn X M_X1_put [.ref 41, .int l1] (hp u) (hp r, none) := by
  refine am_Cn.of ok_X1_put (Nat.le_refl _) (Nat.le_refl _) (Nat.le_of_ble_eq_true rfl) ?_
  refine ev_loc [0, 1] rfl ?_
  exact l_X1_put_0 u l1 r h

-- SandRipples$Reader.endPiece()V
def g_X1_endPiece_5  : Nat → am_MU → Option (am_MU)
  | 0 => fun _  => none
  | n + 1 => fun u  =>
if (u 41 5) ≤ 0 then (some u)
else (if am_in ((u 41 5) - (1 : Int32)) 96 then (
if (u 43 (((u 41 5) - (1 : Int32)).toNatClampNeg)) = (33 : Int32) then (am_let (am_u2 u 41 5 ((u 41 5) - (1 : Int32))) fun u4 =>
am_let (am_u2 u4 41 7 ((u4 41 7) - (1 : Int32))) fun u5 =>
(f_X1_put u5 ((-33) : Int32)).bind fun q6 =>
g_X1_endPiece_5 n q6 )
else (some u)) else none)

def f_X1_endPiece  (u : am_MU)  : Option (am_MU) :=
am_let (am_u2 u 41 8 (0 : Int32)) fun u1 =>
g_X1_endPiece_5 1700 u1 

theorem l_X1_endPiece_5 {X : Nat × (Nat → Int32)}   : ∀ (n : Nat) (u : am_MU)  (r : am_MU), g_X1_endPiece_5  n u  = some r → am_Ev X M_X1_endPiece 5 [(0, .ref 41)] [] (hp u) (hp r, none) := by
  intro n
  induction n with
  | zero => intro u  r h; cases h
  | succ n ih =>
    intro u  r h
    rw [g_X1_endPiece_5] at h
    refine ev_aload_n dX1_endPiece_5 0 rfl trivial ?_
    refine px_getI dX1_endPiece_6 gf_RX1_28 (at1 rfl) (by decide) rfl ?_
    refine ev_if_le 57 dX1_endPiece_9 (by decide) (fun c1 => ?_) (fun c1 => ?_)
    · have h := am_t c1 h
      obtain rfl := Option.some.inj h
      exact ev_vret dX1_endPiece_57 rfl
    · have h := am_e c1 h
      refine ev_aload_n dX1_endPiece_12 0 rfl trivial ?_
      refine px_getR dX1_endPiece_13 gf_RX1_25 (at1 rfl) (by decide) rfl ?_
      refine ev_aload_n dX1_endPiece_16 0 rfl trivial ?_
      refine px_getI dX1_endPiece_17 gf_RX1_28 (at1 rfl) (by decide) rfl ?_
      refine ev_iconst (v := (1 : Int32)) dX1_endPiece_20 kI_1 ?_
      refine ev_isub dX1_endPiece_21 ?_
      obtain ⟨g2, h⟩ := am_gd h
      refine px_iald (n := 96) (((u 41 5) - (1 : Int32)).toNatClampNeg) dX1_endPiece_22 rfl g2 rfl ?_
      refine ev_bipush (v := (33 : Int32)) dX1_endPiece_23 kB_33 ?_
      refine ev_icmp_ne 57 dX1_endPiece_25 (by decide) (fun c3 => ?_) (fun c3 => ?_)
      · have h := am_e c3 h
        obtain rfl := Option.some.inj h
        exact ev_vret dX1_endPiece_57 rfl
      · have h := am_t c3 h
        refine ev_aload_n dX1_endPiece_28 0 rfl trivial ?_
        refine ev_dup dX1_endPiece_29 rfl ?_
        refine px_getI dX1_endPiece_30 gf_RX1_28 (at1 rfl) (by decide) rfl ?_
        refine ev_iconst (v := (1 : Int32)) dX1_endPiece_33 kI_1 ?_
        refine ev_isub dX1_endPiece_34 ?_
        obtain ⟨u4, eu4, h⟩ := am_lt h
        refine px_putI dX1_endPiece_35 pf_RX1_28 (at1 rfl) (by decide) rfl eu4 ?_
        refine ev_aload_n dX1_endPiece_38 0 rfl trivial ?_
        refine ev_dup dX1_endPiece_39 rfl ?_
        refine px_getI dX1_endPiece_40 gf_RX1_34 (at1 rfl) (by decide) rfl ?_
        refine ev_iconst (v := (1 : Int32)) dX1_endPiece_43 kI_1 ?_
        refine ev_isub dX1_endPiece_44 ?_
        obtain ⟨u5, eu5, h⟩ := am_lt h
        refine px_putI dX1_endPiece_45 pf_RX1_34 (at1 rfl) (by decide) rfl eu5 ?_
        refine ev_aload_n dX1_endPiece_48 0 rfl trivial ?_
        refine ev_bipush (v := ((-33) : Int32)) dX1_endPiece_49 kB_m33 ?_
        obtain ⟨q6, eq6, h⟩ := am_bd h
        refine px_callvv [.int ((-33) : Int32)] (by decide) cl_1 (at1 rfl) dX1_endPiece_51 ok_X1_put lk_RX1_98 in_X1_put se_X1_put (by decide) rfl (c_X1_put eq6) rfl (Nat.le_of_ble_eq_true rfl) ?_
        refine ev_goto 5 dX1_endPiece_54 (by decide) ?_
        refine ev_loc [0] rfl ?_
        exact ih q6  _ h

theorem l_X1_endPiece_0 {X : Nat × (Nat → Int32)}   (u : am_MU)  (r : am_MU) (h : f_X1_endPiece  u  = some r) : am_Ev X M_X1_endPiece 0 [(0, .ref 41)] [] (hp u) (hp r, none) := by
  unfold f_X1_endPiece at h
  refine ev_aload_n dX1_endPiece_0 0 rfl trivial ?_
  refine ev_iconst (v := (0 : Int32)) dX1_endPiece_1 kI_0 ?_
  obtain ⟨u1, eu1, h⟩ := am_lt h
  refine px_putZ dX1_endPiece_2 pf_RX1_37 (at1 rfl) (by decide) rfl (Or.inl rfl) eu1 ?_
  refine ev_loc [0] rfl ?_
  exact l_X1_endPiece_5   1700 u1  _ h

theorem c_X1_endPiece {X : Nat × (Nat → Int32)} {u : am_MU}  {r : am_MU} (h : f_X1_endPiece u  = some r) : am_Cn X M_X1_endPiece [.ref 41] (hp u) (hp r, none) := by
  refine am_Cn.of ok_X1_endPiece (Nat.le_refl _) (Nat.le_refl _) (Nat.le_of_ble_eq_true rfl) ?_
  refine ev_loc [0] rfl ?_
  exact l_X1_endPiece_0 u  r h

-- SandRipples$Reader.takeLeaf(I)V
def f_X1_takeLeaf  (u : am_MU) (l1 : Int32) : Option (am_MU) :=
am_let (am_u2 u 41 1 ((u 41 1) + (1 : Int32))) fun u1 =>
(f_X1_put u1 l1).bind fun q2 =>
(f_X1_endPiece q2 ).bind fun q3 =>
some q3

theorem l_X1_takeLeaf_0 {X : Nat × (Nat → Int32)}   (u : am_MU) (l1 : Int32) (r : am_MU) (h : f_X1_takeLeaf  u l1 = some r) : am_Ev X M_X1_takeLeaf 0 [(0, .ref 41), (1, .int l1)] [] (hp u) (hp r, none) := by
  unfold f_X1_takeLeaf at h
  refine ev_aload_n dX1_takeLeaf_0 0 rfl trivial ?_
  refine ev_dup dX1_takeLeaf_1 rfl ?_
  refine px_getI dX1_takeLeaf_2 gf_RX1_15 (at1 rfl) (by decide) rfl ?_
  refine ev_iconst (v := (1 : Int32)) dX1_takeLeaf_5 kI_1 ?_
  refine ev_iadd dX1_takeLeaf_6 ?_
  obtain ⟨u1, eu1, h⟩ := am_lt h
  refine px_putI dX1_takeLeaf_7 pf_RX1_15 (at1 rfl) (by decide) rfl eu1 ?_
  refine ev_aload_n dX1_takeLeaf_10 0 rfl trivial ?_
  refine ev_iload_n dX1_takeLeaf_11 1 rfl ?_
  obtain ⟨q2, eq2, h⟩ := am_bd h
  refine px_callvv [.int l1] (by decide) cl_1 (at1 rfl) dX1_takeLeaf_12 ok_X1_put lk_RX1_98 in_X1_put se_X1_put (by decide) rfl (c_X1_put eq2) rfl (Nat.le_of_ble_eq_true rfl) ?_
  refine ev_aload_n dX1_takeLeaf_15 0 rfl trivial ?_
  obtain ⟨q3, eq3, h⟩ := am_bd h
  refine px_callvv [] (by decide) cl_1 (at1 rfl) dX1_takeLeaf_16 ok_X1_endPiece lk_RX1_101 in_X1_endPiece se_X1_endPiece (by decide) rfl (c_X1_endPiece eq3) rfl (Nat.le_of_ble_eq_true rfl) ?_
  obtain rfl := Option.some.inj h
  exact ev_vret dX1_takeLeaf_19 rfl

theorem c_X1_takeLeaf {X : Nat × (Nat → Int32)} {u : am_MU} {l1 : Int32} {r : am_MU} (h : f_X1_takeLeaf u l1 = some r) : am_Cn X M_X1_takeLeaf [.ref 41, .int l1] (hp u) (hp r, none) := by
  refine am_Cn.of ok_X1_takeLeaf (Nat.le_refl _) (Nat.le_refl _) (Nat.le_of_ble_eq_true rfl) ?_
  refine ev_loc [0, 1] rfl ?_
  exact l_X1_takeLeaf_0 u l1 r h

-- SandRipples$Reader.takesNumber([III)Z
def g_X1_takesNumber_15  : Nat → am_MU → Nat → Int32 → Int32 → Int32 → Option (am_MU × Int32)
  | 0 => fun _ _ _ _ _ => none
  | n + 1 => fun u l1 l3 l4 l5 =>
if l3 ≤ l5 then ((f_X1_takeLeaf u l4).bind fun q2 =>
some (q2, (1 : Int32)))
else (if am_in l5 (il l1) then (
am_let (((l4 * (10 : Int32)) + (u l1 l5.toNatClampNeg)) - (48 : Int32)) fun x4 =>
am_let (l5 + (1 : Int32)) fun x5 =>
g_X1_takesNumber_15 n u l1 l3 x4 x5) else none)

def f_X1_takesNumber  (u : am_MU) (l1 : Nat) (l2 : Int32) (l3 : Int32) : Option (am_MU × Int32) :=
if (l3 - l2) ≤ (4 : Int32) then (g_X1_takesNumber_15 1700 u l1 l3 (0 : Int32) l2)
else (some (u, (0 : Int32)))

theorem l_X1_takesNumber_15 {X : Nat × (Nat → Int32)}   : ∀ (n : Nat) (u : am_MU) (l1 : Nat) (l3 : Int32) (l4 : Int32) (l5 : Int32) (r : am_MU × Int32), g_X1_takesNumber_15  n u l1 l3 l4 l5 = some r → am_Ev X M_X1_takesNumber 15 [(0, .ref 41), (1, .ref l1), (3, .int l3), (4, .int l4), (5, .int l5)] [] (hp u) (hp r.1, some (.int r.2)) := by
  intro n
  induction n with
  | zero => intro u l1 l3 l4 l5 r h; cases h
  | succ n ih =>
    intro u l1 l3 l4 l5 r h
    rw [g_X1_takesNumber_15] at h
    refine ev_iload dX1_takesNumber_15 4 rfl ?_
    refine ev_iload_n dX1_takesNumber_17 2 rfl ?_
    refine ev_icmp_ge 42 dX1_takesNumber_18 (by decide) (fun c1 => ?_) (fun c1 => ?_)
    · have h := am_t c1 h
      refine ev_aload_n dX1_takesNumber_42 0 rfl trivial ?_
      refine ev_iload dX1_takesNumber_43 3 rfl ?_
      obtain ⟨q2, eq2, h⟩ := am_bd h
      refine px_callvv [.int l4] (by decide) cl_1 (at1 rfl) dX1_takesNumber_45 ok_X1_takeLeaf lk_RX1_84 in_X1_takeLeaf se_X1_takeLeaf (by decide) rfl (c_X1_takeLeaf eq2) rfl (Nat.le_of_ble_eq_true rfl) ?_
      refine ev_iconst (v := (1 : Int32)) dX1_takesNumber_48 kI_1 ?_
      obtain rfl := Option.some.inj h
      exact ev_iret dX1_takesNumber_49 rfl (am_zn (Or.inr rfl))
    · have h := am_e c1 h
      refine ev_iload dX1_takesNumber_21 3 rfl ?_
      refine ev_bipush (v := (10 : Int32)) dX1_takesNumber_23 kB_10 ?_
      refine ev_imul dX1_takesNumber_25 ?_
      refine ev_aload_n dX1_takesNumber_26 1 rfl trivial ?_
      refine ev_iload dX1_takesNumber_27 4 rfl ?_
      obtain ⟨g3, h⟩ := am_gd h
      refine px_iald (n := (il l1)) l5.toNatClampNeg dX1_takesNumber_29 rfl g3 rfl ?_
      refine ev_iadd dX1_takesNumber_30 ?_
      refine ev_bipush (v := (48 : Int32)) dX1_takesNumber_31 kB_48 ?_
      refine ev_isub dX1_takesNumber_33 ?_
      obtain ⟨x4, ex4, h⟩ := am_lt h
      refine px_top ex4 ?_
      refine ev_istore (L' := [(4, .int x4), (0, .ref 41), (1, .ref l1), (3, .int l3), (5, .int l5)]) dX1_takesNumber_34 (by decide) rfl ?_
      obtain ⟨x5, ex5, h⟩ := am_lt h
      refine ev_iinc (v := x5) (L' := [(5, .int x5), (4, .int x4), (0, .ref 41), (1, .ref l1), (3, .int l3)]) dX1_takesNumber_36 4 rfl (by rw [kI_1, ex5]) (by decide) rfl ?_
      refine ev_goto 15 dX1_takesNumber_39 (by decide) ?_
      refine ev_loc [2, 3, 4, 1, 0] rfl ?_
      exact ih u l1 l3 x4 x5 _ h

theorem l_X1_takesNumber_0 {X : Nat × (Nat → Int32)}   (u : am_MU) (l1 : Nat) (l2 : Int32) (l3 : Int32) (r : am_MU × Int32) (h : f_X1_takesNumber  u l1 l2 l3 = some r) : am_Ev X M_X1_takesNumber 0 [(0, .ref 41), (1, .ref l1), (2, .int l2), (3, .int l3)] [] (hp u) (hp r.1, some (.int r.2)) := by
  unfold f_X1_takesNumber at h
  refine ev_iload_n dX1_takesNumber_0 3 rfl ?_
  refine ev_iload_n dX1_takesNumber_1 2 rfl ?_
  refine ev_isub dX1_takesNumber_2 ?_
  refine ev_iconst (v := (4 : Int32)) dX1_takesNumber_3 kI_4 ?_
  refine ev_icmp_le 9 dX1_takesNumber_4 (by decide) (fun c1 => ?_) (fun c1 => ?_)
  · have h := am_t c1 h
    refine ev_iconst (v := (0 : Int32)) dX1_takesNumber_9 kI_0 ?_
    refine ev_istore (L' := [(4, .int (0 : Int32)), (0, .ref 41), (1, .ref l1), (2, .int l2), (3, .int l3)]) dX1_takesNumber_10 (by decide) rfl ?_
    refine ev_iload_n dX1_takesNumber_12 3 rfl ?_
    refine ev_istore (L' := [(5, .int l2), (4, .int (0 : Int32)), (0, .ref 41), (1, .ref l1), (2, .int l2), (3, .int l3)]) dX1_takesNumber_13 (by decide) rfl ?_
    refine ev_loc [2, 3, 5, 1, 0] rfl ?_
    exact l_X1_takesNumber_15   1700 u l1 l3 (0 : Int32) l2 _ h
  · have h := am_e c1 h
    refine ev_iconst (v := (0 : Int32)) dX1_takesNumber_7 kI_0 ?_
    obtain rfl := Option.some.inj h
    exact ev_iret dX1_takesNumber_8 rfl (am_zn (Or.inl rfl))

theorem c_X1_takesNumber {X : Nat × (Nat → Int32)} {u : am_MU} {l1 : Nat} {l2 : Int32} {l3 : Int32} {r : am_MU × Int32} (h : f_X1_takesNumber u l1 l2 l3 = some r) : am_Cn X M_X1_takesNumber [.ref 41, .ref l1, .int l2, .int l3] (hp u) (hp r.1, some (.int r.2)) := by
  refine am_Cn.of ok_X1_takesNumber (Nat.le_refl _) (Nat.le_refl _) (Nat.le_of_ble_eq_true rfl) ?_
  refine ev_loc [0, 1, 2, 3] rfl ?_
  exact l_X1_takesNumber_0 u l1 l2 l3 r h

-- SandRipples$Reader.namesOf(I)Ljava/lang/String;
def f_X1_namesOf  (u : am_MU) (l0 : Int32) : Option (am_MU × Nat) :=
if l0 = (0 : Int32) then (some (u, 7))
else if l0 = (1 : Int32) then (some (u, 8))
else (some (u, 9))

theorem l_X1_namesOf_0 {X : Nat × (Nat → Int32)}   (u : am_MU) (l0 : Int32) (r : am_MU × Nat) (h : f_X1_namesOf  u l0 = some r) : am_Ev X M_X1_namesOf 0 [(0, .int l0)] [] (hp u) (hp r.1, some (.retAddr r.2)) := by
  unfold f_X1_namesOf at h
  refine ev_iload_n dX1_namesOf_0 0 rfl ?_
  refine am_cs h (fun c1 h => ?_) (fun c1 h => ?_)
  · refine ev_lookup 28 (27) dX1_namesOf_1 (by decide) (by rw [c1]; decide) (by decide) ?_
    refine ev_ldcS (k := 7) dX1_namesOf_28 rfl (List.mem_of_getElem? (i := 3) rfl) ?_
    obtain rfl := Option.some.inj h
    exact ev_aretC dX1_namesOf_30 rfl (Or.inl ⟨_, rfl⟩)
  refine am_cs h (fun c2 h => ?_) (fun c2 h => ?_)
  · refine ev_lookup 31 (30) dX1_namesOf_1 (by decide) (by rw [c2]; decide) (by decide) ?_
    refine ev_ldcS (k := 8) dX1_namesOf_31 rfl (List.mem_of_getElem? (i := 4) rfl) ?_
    obtain rfl := Option.some.inj h
    exact ev_aretC dX1_namesOf_33 rfl (Or.inl ⟨_, rfl⟩)
  refine ev_lookup 34 (33) dX1_namesOf_1 (by decide) ((lv_osw c1 (by decide)).trans ((lv_osw c2 (by decide)).trans rfl)) (by decide) ?_
  refine ev_ldcS (k := 9) dX1_namesOf_34 rfl (List.mem_of_getElem? (i := 5) rfl) ?_
  obtain rfl := Option.some.inj h
  exact ev_aretC dX1_namesOf_36 rfl (Or.inl ⟨_, rfl⟩)

theorem c_X1_namesOf {X : Nat × (Nat → Int32)} {u : am_MU} {l0 : Int32} {r : am_MU × Nat} (h : f_X1_namesOf u l0 = some r) : am_Cn X M_X1_namesOf [.int l0] (hp u) (hp r.1, some (.retAddr r.2)) := by
  refine am_Cn.of ok_X1_namesOf (Nat.le_refl _) (Nat.le_refl _) (Nat.le_of_ble_eq_true rfl) ?_
  refine ev_loc [0] rfl ?_
  exact l_X1_namesOf_0 u l0 r h

-- SandRipples$Reader.takesName(I)Z
def f_X1_takesName  (u : am_MU) (l1 : Int32) : Option (am_MU × Int32) :=
(f_X1_namesOf u (u 41 0)).bind fun q1 =>
if 4 ≤ q1.2 ∧ q1.2 < 10 then (
(f_J0_indexOf_0f7a4 q1.1 q1.2 ((l1.toUInt32 % 65536).toInt32)).bind fun q2 =>
if 0 ≤ q2.2 then ((f_X1_takeLeaf q2.1 (((-1) : Int32) - q2.2)).bind fun q5 =>
some (q5, (1 : Int32)))
else (some (q2.1, (0 : Int32)))) else none

theorem l_X1_takesName_0 {X : Nat × (Nat → Int32)}   (u : am_MU) (l1 : Int32) (r : am_MU × Int32) (h : f_X1_takesName  u l1 = some r) : am_Ev X M_X1_takesName 0 [(0, .ref 41), (1, .int l1)] [] (hp u) (hp r.1, some (.int r.2)) := by
  unfold f_X1_takesName at h
  refine ev_aload_n dX1_takesName_0 0 rfl trivial ?_
  refine px_getI dX1_takesName_1 gf_RX1_9 (at1 rfl) (by decide) rfl ?_
  obtain ⟨q1, eq1, h⟩ := am_bd h
  refine px_callsk [.int (u 41 0)] dX1_takesName_4 ok_X1_namesOf lk_RX1_88 st_X1_namesOf (by decide) rfl (c_X1_namesOf eq1) rfl (Nat.le_of_ble_eq_true rfl) ?_
  refine ev_iload_n dX1_takesName_7 1 rfl ?_
  refine ev_i2c dX1_takesName_8 ?_
  obtain ⟨g3, h⟩ := am_gd h
  obtain ⟨q2, eq2, h⟩ := am_bd h
  refine px_callSi [.int ((l1.toUInt32 % 65536).toInt32)] rfl g3 dX1_takesName_9 ok_J0_indexOf_0f7a4 lk_RX1_92 in_J0_indexOf_0f7a4 se_J0_indexOf_0f7a4 (by decide) rfl (c_J0_indexOf_0f7a4 eq2) rfl (Nat.le_of_ble_eq_true rfl) ?_
  refine ev_istore_n (L' := [(2, .int q2.2), (0, .ref 41), (1, .int l1)]) dX1_takesName_12 (by decide) rfl ?_
  refine ev_iload_n dX1_takesName_13 0 rfl ?_
  refine ev_if_ge 19 dX1_takesName_14 (by decide) (fun c4 => ?_) (fun c4 => ?_)
  · have h := am_t c4 h
    refine ev_aload_n dX1_takesName_19 1 rfl trivial ?_
    refine ev_iconst (v := ((-1) : Int32)) dX1_takesName_20 kI_m1 ?_
    refine ev_iload_n dX1_takesName_21 0 rfl ?_
    refine ev_isub dX1_takesName_22 ?_
    obtain ⟨q5, eq5, h⟩ := am_bd h
    refine px_callvv [.int (((-1) : Int32) - q2.2)] (by decide) cl_1 (at1 rfl) dX1_takesName_23 ok_X1_takeLeaf lk_RX1_84 in_X1_takeLeaf se_X1_takeLeaf (by decide) rfl (c_X1_takeLeaf eq5) rfl (Nat.le_of_ble_eq_true rfl) ?_
    refine ev_iconst (v := (1 : Int32)) dX1_takesName_26 kI_1 ?_
    obtain rfl := Option.some.inj h
    exact ev_iret dX1_takesName_27 rfl (am_zn (Or.inr rfl))
  · have h := am_e c4 h
    refine ev_iconst (v := (0 : Int32)) dX1_takesName_17 kI_0 ?_
    obtain rfl := Option.some.inj h
    exact ev_iret dX1_takesName_18 rfl (am_zn (Or.inl rfl))

theorem c_X1_takesName {X : Nat × (Nat → Int32)} {u : am_MU} {l1 : Int32} {r : am_MU × Int32} (h : f_X1_takesName u l1 = some r) : am_Cn X M_X1_takesName [.ref 41, .int l1] (hp u) (hp r.1, some (.int r.2)) := by
  refine am_Cn.of ok_X1_takesName (Nat.le_refl _) (Nat.le_refl _) (Nat.le_of_ble_eq_true rfl) ?_
  refine ev_loc [0, 1] rfl ?_
  exact l_X1_takesName_0 u l1 r h

-- SandRipples$Reader.waits(I)Z
def f_X1_waits  (u : am_MU) (l1 : Int32) : Option (am_MU × Int32) :=
if (u 41 5) < (96 : Int32) then (if am_in (u 41 5) 96 then (
am_let (am_u2 u 43 ((u 41 5).toNatClampNeg) l1) fun u3 =>
am_let (am_u2 u3 41 5 ((u3 41 5) + (1 : Int32))) fun u4 =>
some (u4, (1 : Int32))) else none)
else (some (u, (0 : Int32)))

theorem l_X1_waits_0 {X : Nat × (Nat → Int32)}   (u : am_MU) (l1 : Int32) (r : am_MU × Int32) (h : f_X1_waits  u l1 = some r) : am_Ev X M_X1_waits 0 [(0, .ref 41), (1, .int l1)] [] (hp u) (hp r.1, some (.int r.2)) := by
  unfold f_X1_waits at h
  refine ev_aload_n dX1_waits_0 0 rfl trivial ?_
  refine px_getI dX1_waits_1 gf_RX1_28 (at1 rfl) (by decide) rfl ?_
  refine ev_bipush (v := (96 : Int32)) dX1_waits_4 kB_96 ?_
  refine ev_icmp_lt 11 dX1_waits_6 (by decide) (fun c1 => ?_) (fun c1 => ?_)
  · have h := am_t c1 h
    refine ev_aload_n dX1_waits_11 0 rfl trivial ?_
    refine px_getR dX1_waits_12 gf_RX1_25 (at1 rfl) (by decide) rfl ?_
    refine ev_aload_n dX1_waits_15 0 rfl trivial ?_
    refine px_getI dX1_waits_16 gf_RX1_28 (at1 rfl) (by decide) rfl ?_
    refine ev_iload_n dX1_waits_19 1 rfl ?_
    obtain ⟨g2, h⟩ := am_gd h
    obtain ⟨u3, eu3, h⟩ := am_lt h
    refine px_iast (n := 96) ((u 41 5).toNatClampNeg) dX1_waits_20 rfl g2 rfl eu3 ?_
    refine ev_aload_n dX1_waits_21 0 rfl trivial ?_
    refine ev_dup dX1_waits_22 rfl ?_
    refine px_getI dX1_waits_23 gf_RX1_28 (at1 rfl) (by decide) rfl ?_
    refine ev_iconst (v := (1 : Int32)) dX1_waits_26 kI_1 ?_
    refine ev_iadd dX1_waits_27 ?_
    obtain ⟨u4, eu4, h⟩ := am_lt h
    refine px_putI dX1_waits_28 pf_RX1_28 (at1 rfl) (by decide) rfl eu4 ?_
    refine ev_iconst (v := (1 : Int32)) dX1_waits_31 kI_1 ?_
    obtain rfl := Option.some.inj h
    exact ev_iret dX1_waits_32 rfl (am_zn (Or.inr rfl))
  · have h := am_e c1 h
    refine ev_iconst (v := (0 : Int32)) dX1_waits_9 kI_0 ?_
    obtain rfl := Option.some.inj h
    exact ev_iret dX1_waits_10 rfl (am_zn (Or.inl rfl))

theorem c_X1_waits {X : Nat × (Nat → Int32)} {u : am_MU} {l1 : Int32} {r : am_MU × Int32} (h : f_X1_waits u l1 = some r) : am_Cn X M_X1_waits [.ref 41, .int l1] (hp u) (hp r.1, some (.int r.2)) := by
  refine am_Cn.of ok_X1_waits (Nat.le_refl _) (Nat.le_refl _) (Nat.le_of_ble_eq_true rfl) ?_
  refine ev_loc [0, 1] rfl ?_
  exact l_X1_waits_0 u l1 r h

-- SandRipples$Reader.takesPiece([III)Z
def g_X1_takesPiece_84  (u : am_MU) (l4 : Int32) : Option (am_MU × Int32) :=
if l4 = (40 : Int32) then (if (8 : Int32) ≤ (u 41 6) then (some (u, (0 : Int32)))
else (am_let (am_u2 u 41 6 ((u 41 6) + (1 : Int32))) fun u3 =>
(f_X1_waits u3 l4).bind fun q4 =>
if q4.2 = 0 ∨ q4.2 = 1 then (
some (q4.1, q4.2)) else none))
else (some (u, (0 : Int32)))

def f_X1_takesPiece  (u : am_MU) (l1 : Nat) (l2 : Int32) (l3 : Int32) : Option (am_MU × Int32) :=
if am_in l2 (il l1) then (
am_let (u l1 l2.toNatClampNeg) fun x2 =>
(f_X1_isDigit u x2).bind fun q3 =>
if q3.2 = 0 then ((f_X1_isLetter q3.1 x2).bind fun q5 =>
if q5.2 = 0 then (if x2 = (33 : Int32) then (if (8 : Int32) ≤ (q5.1 41 7) then (g_X1_takesPiece_84 q5.1 x2)
else (am_let (am_u2 q5.1 41 7 ((q5.1 41 7) + (1 : Int32))) fun u9 =>
(f_X1_waits u9 x2).bind fun q10 =>
if q10.2 = 0 ∨ q10.2 = 1 then (
some (q10.1, q10.2)) else none))
else (g_X1_takesPiece_84 q5.1 x2))
else (if (l3 - l2) = (1 : Int32) then ((f_X1_takesName q5.1 x2).bind fun q13 =>
if q13.2 = 0 then (some (q13.1, (0 : Int32)))
else (some (q13.1, (1 : Int32))))
else (some (q5.1, (0 : Int32)))))
else ((f_X1_takesNumber q3.1 l1 l2 l3).bind fun q15 =>
if q15.2 = 0 ∨ q15.2 = 1 then (
some (q15.1, q15.2)) else none)) else none

theorem l_X1_takesPiece_84 {X : Nat × (Nat → Int32)}   (u : am_MU) (l4 : Int32) (r : am_MU × Int32) (h : g_X1_takesPiece_84  u l4 = some r) : am_Ev X M_X1_takesPiece 84 [(0, .ref 41), (4, .int l4)] [] (hp u) (hp r.1, some (.int r.2)) := by
  unfold g_X1_takesPiece_84 at h
  refine ev_iload dX1_takesPiece_84 1 rfl ?_
  refine ev_bipush (v := (40 : Int32)) dX1_takesPiece_86 kB_40 ?_
  refine ev_icmp_ne 117 dX1_takesPiece_88 (by decide) (fun c1 => ?_) (fun c1 => ?_)
  · have h := am_e c1 h
    refine ev_iconst (v := (0 : Int32)) dX1_takesPiece_117 kI_0 ?_
    obtain rfl := Option.some.inj h
    exact ev_iret dX1_takesPiece_118 rfl (am_zn (Or.inl rfl))
  · have h := am_t c1 h
    refine ev_aload_n dX1_takesPiece_91 0 rfl trivial ?_
    refine px_getI dX1_takesPiece_92 gf_RX1_31 (at1 rfl) (by decide) rfl ?_
    refine ev_bipush (v := (8 : Int32)) dX1_takesPiece_95 kB_8 ?_
    refine ev_icmp_ge 117 dX1_takesPiece_97 (by decide) (fun c2 => ?_) (fun c2 => ?_)
    · have h := am_t c2 h
      refine ev_iconst (v := (0 : Int32)) dX1_takesPiece_117 kI_0 ?_
      obtain rfl := Option.some.inj h
      exact ev_iret dX1_takesPiece_118 rfl (am_zn (Or.inl rfl))
    · have h := am_e c2 h
      refine ev_aload_n dX1_takesPiece_100 0 rfl trivial ?_
      refine ev_dup dX1_takesPiece_101 rfl ?_
      refine px_getI dX1_takesPiece_102 gf_RX1_31 (at1 rfl) (by decide) rfl ?_
      refine ev_iconst (v := (1 : Int32)) dX1_takesPiece_105 kI_1 ?_
      refine ev_iadd dX1_takesPiece_106 ?_
      obtain ⟨u3, eu3, h⟩ := am_lt h
      refine px_putI dX1_takesPiece_107 pf_RX1_31 (at1 rfl) (by decide) rfl eu3 ?_
      refine ev_aload_n dX1_takesPiece_110 0 rfl trivial ?_
      refine ev_iload dX1_takesPiece_111 1 rfl ?_
      obtain ⟨q4, eq4, h⟩ := am_bd h
      refine px_callvi [.int l4] (by decide) cl_1 (at1 rfl) dX1_takesPiece_113 ok_X1_waits lk_RX1_81 in_X1_waits se_X1_waits (by decide) rfl (c_X1_waits eq4) rfl (Nat.le_of_ble_eq_true rfl) ?_
      obtain ⟨g5, h⟩ := am_gd h
      obtain rfl := Option.some.inj h
      exact ev_iret dX1_takesPiece_116 rfl (am_zn g5)

theorem l_X1_takesPiece_0 {X : Nat × (Nat → Int32)}   (u : am_MU) (l1 : Nat) (l2 : Int32) (l3 : Int32) (r : am_MU × Int32) (h : f_X1_takesPiece  u l1 l2 l3 = some r) : am_Ev X M_X1_takesPiece 0 [(0, .ref 41), (1, .ref l1), (2, .int l2), (3, .int l3)] [] (hp u) (hp r.1, some (.int r.2)) := by
  unfold f_X1_takesPiece at h
  refine ev_aload_n dX1_takesPiece_0 1 rfl trivial ?_
  refine ev_iload_n dX1_takesPiece_1 2 rfl ?_
  obtain ⟨g1, h⟩ := am_gd h
  refine px_iald (n := (il l1)) l2.toNatClampNeg dX1_takesPiece_2 rfl g1 rfl ?_
  obtain ⟨x2, ex2, h⟩ := am_lt h
  refine px_top ex2 ?_
  refine ev_istore (L' := [(4, .int x2), (0, .ref 41), (1, .ref l1), (2, .int l2), (3, .int l3)]) dX1_takesPiece_3 (by decide) rfl ?_
  refine ev_iload dX1_takesPiece_5 0 rfl ?_
  obtain ⟨q3, eq3, h⟩ := am_bd h
  refine px_callsi [.int x2] dX1_takesPiece_7 ok_X1_isDigit lk_RX1_69 st_X1_isDigit (by decide) rfl (c_X1_isDigit eq3) rfl (Nat.le_of_ble_eq_true rfl) ?_
  refine ev_if_eq 21 dX1_takesPiece_10 (by decide) (fun c4 => ?_) (fun c4 => ?_)
  · have h := am_t c4 h
    refine ev_iload dX1_takesPiece_21 0 rfl ?_
    obtain ⟨q5, eq5, h⟩ := am_bd h
    refine px_callsi [.int x2] dX1_takesPiece_23 ok_X1_isLetter lk_RX1_75 st_X1_isLetter (by decide) rfl (c_X1_isLetter eq5) rfl (Nat.le_of_ble_eq_true rfl) ?_
    refine ev_if_eq 51 dX1_takesPiece_26 (by decide) (fun c6 => ?_) (fun c6 => ?_)
    · have h := am_t c6 h
      refine ev_iload dX1_takesPiece_51 0 rfl ?_
      refine ev_bipush (v := (33 : Int32)) dX1_takesPiece_53 kB_33 ?_
      refine ev_icmp_ne 84 dX1_takesPiece_55 (by decide) (fun c7 => ?_) (fun c7 => ?_)
      · have h := am_e c7 h
        refine ev_loc [1, 0] rfl ?_
        exact l_X1_takesPiece_84   q5.1 x2 _ h
      · have h := am_t c7 h
        refine ev_aload_n dX1_takesPiece_58 1 rfl trivial ?_
        refine px_getI dX1_takesPiece_59 gf_RX1_34 (at1 rfl) (by decide) rfl ?_
        refine ev_bipush (v := (8 : Int32)) dX1_takesPiece_62 kB_8 ?_
        refine ev_icmp_ge 84 dX1_takesPiece_64 (by decide) (fun c8 => ?_) (fun c8 => ?_)
        · have h := am_t c8 h
          refine ev_loc [1, 0] rfl ?_
          exact l_X1_takesPiece_84   q5.1 x2 _ h
        · have h := am_e c8 h
          refine ev_aload_n dX1_takesPiece_67 1 rfl trivial ?_
          refine ev_dup dX1_takesPiece_68 rfl ?_
          refine px_getI dX1_takesPiece_69 gf_RX1_34 (at1 rfl) (by decide) rfl ?_
          refine ev_iconst (v := (1 : Int32)) dX1_takesPiece_72 kI_1 ?_
          refine ev_iadd dX1_takesPiece_73 ?_
          obtain ⟨u9, eu9, h⟩ := am_lt h
          refine px_putI dX1_takesPiece_74 pf_RX1_34 (at1 rfl) (by decide) rfl eu9 ?_
          refine ev_aload_n dX1_takesPiece_77 1 rfl trivial ?_
          refine ev_iload dX1_takesPiece_78 0 rfl ?_
          obtain ⟨q10, eq10, h⟩ := am_bd h
          refine px_callvi [.int x2] (by decide) cl_1 (at1 rfl) dX1_takesPiece_80 ok_X1_waits lk_RX1_81 in_X1_waits se_X1_waits (by decide) rfl (c_X1_waits eq10) rfl (Nat.le_of_ble_eq_true rfl) ?_
          obtain ⟨g11, h⟩ := am_gd h
          obtain rfl := Option.some.inj h
          exact ev_iret dX1_takesPiece_83 rfl (am_zn g11)
    · have h := am_e c6 h
      refine ev_iload_n dX1_takesPiece_29 4 rfl ?_
      refine ev_iload_n dX1_takesPiece_30 3 rfl ?_
      refine ev_isub dX1_takesPiece_31 ?_
      refine ev_iconst (v := (1 : Int32)) dX1_takesPiece_32 kI_1 ?_
      refine ev_icmp_ne 49 dX1_takesPiece_33 (by decide) (fun c12 => ?_) (fun c12 => ?_)
      · have h := am_e c12 h
        refine ev_iconst (v := (0 : Int32)) dX1_takesPiece_49 kI_0 ?_
        obtain rfl := Option.some.inj h
        exact ev_iret dX1_takesPiece_50 rfl (am_zn (Or.inl rfl))
      · have h := am_t c12 h
        refine ev_aload_n dX1_takesPiece_36 1 rfl trivial ?_
        refine ev_iload dX1_takesPiece_37 0 rfl ?_
        obtain ⟨q13, eq13, h⟩ := am_bd h
        refine px_callvi [.int x2] (by decide) cl_1 (at1 rfl) dX1_takesPiece_39 ok_X1_takesName lk_RX1_78 in_X1_takesName se_X1_takesName (by decide) rfl (c_X1_takesName eq13) rfl (Nat.le_of_ble_eq_true rfl) ?_
        refine ev_if_eq 49 dX1_takesPiece_42 (by decide) (fun c14 => ?_) (fun c14 => ?_)
        · have h := am_t c14 h
          refine ev_iconst (v := (0 : Int32)) dX1_takesPiece_49 kI_0 ?_
          obtain rfl := Option.some.inj h
          exact ev_iret dX1_takesPiece_50 rfl (am_zn (Or.inl rfl))
        · have h := am_e c14 h
          refine ev_iconst (v := (1 : Int32)) dX1_takesPiece_45 kI_1 ?_
          refine ev_goto 50 dX1_takesPiece_46 (by decide) ?_
          obtain rfl := Option.some.inj h
          exact ev_iret dX1_takesPiece_50 rfl (am_zn (Or.inr rfl))
  · have h := am_e c4 h
    refine ev_aload_n dX1_takesPiece_13 1 rfl trivial ?_
    refine ev_aload_n dX1_takesPiece_14 2 rfl trivial ?_
    refine ev_iload_n dX1_takesPiece_15 3 rfl ?_
    refine ev_iload_n dX1_takesPiece_16 4 rfl ?_
    obtain ⟨q15, eq15, h⟩ := am_bd h
    refine px_callvi [.ref l1, .int l2, .int l3] (by decide) cl_1 (at1 rfl) dX1_takesPiece_17 ok_X1_takesNumber lk_RX1_72 in_X1_takesNumber se_X1_takesNumber (by decide) rfl (c_X1_takesNumber eq15) rfl (Nat.le_of_ble_eq_true rfl) ?_
    obtain ⟨g16, h⟩ := am_gd h
    obtain rfl := Option.some.inj h
    exact ev_iret dX1_takesPiece_20 rfl (am_zn g16)

theorem c_X1_takesPiece {X : Nat × (Nat → Int32)} {u : am_MU} {l1 : Nat} {l2 : Int32} {l3 : Int32} {r : am_MU × Int32} (h : f_X1_takesPiece u l1 l2 l3 = some r) : am_Cn X M_X1_takesPiece [.ref 41, .ref l1, .int l2, .int l3] (hp u) (hp r.1, some (.int r.2)) := by
  refine am_Cn.of ok_X1_takesPiece (Nat.le_refl _) (Nat.le_refl _) (Nat.le_of_ble_eq_true rfl) ?_
  refine ev_loc [0, 1, 2, 3] rfl ?_
  exact l_X1_takesPiece_0 u l1 l2 l3 r h

-- SandRipples$Reader.rankOf(I)I
def f_X1_rankOf  (u : am_MU) (l0 : Int32) : Option (am_MU × Int32) :=
if l0 = (38 : Int32) then (some (u, (2 : Int32)))
else if l0 = (42 : Int32) then (some (u, (5 : Int32)))
else if l0 = (43 : Int32) then (some (u, (4 : Int32)))
else if l0 = (45 : Int32) then (some (u, (4 : Int32)))
else if l0 = (47 : Int32) then (some (u, (5 : Int32)))
else if l0 = (60 : Int32) then (some (u, (3 : Int32)))
else if l0 = (61 : Int32) then (some (u, (3 : Int32)))
else if l0 = (62 : Int32) then (some (u, (3 : Int32)))
else if l0 = (124 : Int32) then (some (u, (1 : Int32)))
else (some (u, (0 : Int32)))

theorem l_X1_rankOf_0 {X : Nat × (Nat → Int32)}   (u : am_MU) (l0 : Int32) (r : am_MU × Int32) (h : f_X1_rankOf  u l0 = some r) : am_Ev X M_X1_rankOf 0 [(0, .int l0)] [] (hp u) (hp r.1, some (.int r.2)) := by
  unfold f_X1_rankOf at h
  refine ev_iload_n dX1_rankOf_0 0 rfl ?_
  refine am_cs h (fun c1 h => ?_) (fun c1 h => ?_)
  · refine ev_lookup 86 (85) dX1_rankOf_1 (by decide) (by rw [c1]; decide) (by decide) ?_
    refine ev_iconst (v := (2 : Int32)) dX1_rankOf_86 kI_2 ?_
    obtain rfl := Option.some.inj h
    exact ev_iret dX1_rankOf_87 rfl rfl
  refine am_cs h (fun c2 h => ?_) (fun c2 h => ?_)
  · refine ev_lookup 92 (91) dX1_rankOf_1 (by decide) (by rw [c2]; decide) (by decide) ?_
    refine ev_iconst (v := (5 : Int32)) dX1_rankOf_92 kI_5 ?_
    obtain rfl := Option.some.inj h
    exact ev_iret dX1_rankOf_93 rfl rfl
  refine am_cs h (fun c3 h => ?_) (fun c3 h => ?_)
  · refine ev_lookup 90 (89) dX1_rankOf_1 (by decide) (by rw [c3]; decide) (by decide) ?_
    refine ev_iconst (v := (4 : Int32)) dX1_rankOf_90 kI_4 ?_
    obtain rfl := Option.some.inj h
    exact ev_iret dX1_rankOf_91 rfl rfl
  refine am_cs h (fun c4 h => ?_) (fun c4 h => ?_)
  · refine ev_lookup 90 (89) dX1_rankOf_1 (by decide) (by rw [c4]; decide) (by decide) ?_
    refine ev_iconst (v := (4 : Int32)) dX1_rankOf_90 kI_4 ?_
    obtain rfl := Option.some.inj h
    exact ev_iret dX1_rankOf_91 rfl rfl
  refine am_cs h (fun c5 h => ?_) (fun c5 h => ?_)
  · refine ev_lookup 92 (91) dX1_rankOf_1 (by decide) (by rw [c5]; decide) (by decide) ?_
    refine ev_iconst (v := (5 : Int32)) dX1_rankOf_92 kI_5 ?_
    obtain rfl := Option.some.inj h
    exact ev_iret dX1_rankOf_93 rfl rfl
  refine am_cs h (fun c6 h => ?_) (fun c6 h => ?_)
  · refine ev_lookup 88 (87) dX1_rankOf_1 (by decide) (by rw [c6]; decide) (by decide) ?_
    refine ev_iconst (v := (3 : Int32)) dX1_rankOf_88 kI_3 ?_
    obtain rfl := Option.some.inj h
    exact ev_iret dX1_rankOf_89 rfl rfl
  refine am_cs h (fun c7 h => ?_) (fun c7 h => ?_)
  · refine ev_lookup 88 (87) dX1_rankOf_1 (by decide) (by rw [c7]; decide) (by decide) ?_
    refine ev_iconst (v := (3 : Int32)) dX1_rankOf_88 kI_3 ?_
    obtain rfl := Option.some.inj h
    exact ev_iret dX1_rankOf_89 rfl rfl
  refine am_cs h (fun c8 h => ?_) (fun c8 h => ?_)
  · refine ev_lookup 88 (87) dX1_rankOf_1 (by decide) (by rw [c8]; decide) (by decide) ?_
    refine ev_iconst (v := (3 : Int32)) dX1_rankOf_88 kI_3 ?_
    obtain rfl := Option.some.inj h
    exact ev_iret dX1_rankOf_89 rfl rfl
  refine am_cs h (fun c9 h => ?_) (fun c9 h => ?_)
  · refine ev_lookup 84 (83) dX1_rankOf_1 (by decide) (by rw [c9]; decide) (by decide) ?_
    refine ev_iconst (v := (1 : Int32)) dX1_rankOf_84 kI_1 ?_
    obtain rfl := Option.some.inj h
    exact ev_iret dX1_rankOf_85 rfl rfl
  refine ev_lookup 94 (93) dX1_rankOf_1 (by decide) ((lv_osw c1 (by decide)).trans ((lv_osw c2 (by decide)).trans ((lv_osw c3 (by decide)).trans ((lv_osw c4 (by decide)).trans ((lv_osw c5 (by decide)).trans ((lv_osw c6 (by decide)).trans ((lv_osw c7 (by decide)).trans ((lv_osw c8 (by decide)).trans ((lv_osw c9 (by decide)).trans rfl))))))))) (by decide) ?_
  refine ev_iconst (v := (0 : Int32)) dX1_rankOf_94 kI_0 ?_
  obtain rfl := Option.some.inj h
  exact ev_iret dX1_rankOf_95 rfl rfl

theorem c_X1_rankOf {X : Nat × (Nat → Int32)} {u : am_MU} {l0 : Int32} {r : am_MU × Int32} (h : f_X1_rankOf u l0 = some r) : am_Cn X M_X1_rankOf [.int l0] (hp u) (hp r.1, some (.int r.2)) := by
  refine am_Cn.of ok_X1_rankOf (Nat.le_refl _) (Nat.le_refl _) (Nat.le_of_ble_eq_true rfl) ?_
  refine ev_loc [0] rfl ?_
  exact l_X1_rankOf_0 u l0 r h

-- SandRipples$Reader.putThoseAbove(I)V
def g_X1_putThoseAbove_0  : Nat → am_MU → Int32 → Option (am_MU)
  | 0 => fun _ _ => none
  | n + 1 => fun u l1 =>
if (u 41 5) ≤ 0 then (some u)
else (if am_in ((u 41 5) - (1 : Int32)) 96 then (
(f_X1_rankOf u (u 43 (((u 41 5) - (1 : Int32)).toNatClampNeg))).bind fun q3 =>
if q3.2 ≤ l1 then (some q3.1)
else (am_let (am_u2 q3.1 41 5 ((q3.1 41 5) - (1 : Int32))) fun u5 =>
if am_in (u5 41 5) 96 then (
(f_X1_put u5 (-(u5 43 ((u5 41 5).toNatClampNeg)))).bind fun q7 =>
g_X1_putThoseAbove_0 n q7 l1) else none)) else none)

def f_X1_putThoseAbove (u : am_MU) (l1 : Int32) : Option (am_MU) := g_X1_putThoseAbove_0 1700 u l1

theorem l_X1_putThoseAbove_0 {X : Nat × (Nat → Int32)}   : ∀ (n : Nat) (u : am_MU) (l1 : Int32) (r : am_MU), g_X1_putThoseAbove_0  n u l1 = some r → am_Ev X M_X1_putThoseAbove 0 [(0, .ref 41), (1, .int l1)] [] (hp u) (hp r, none) := by
  intro n
  induction n with
  | zero => intro u l1 r h; cases h
  | succ n ih =>
    intro u l1 r h
    rw [g_X1_putThoseAbove_0] at h
    refine ev_aload_n dX1_putThoseAbove_0 0 rfl trivial ?_
    refine px_getI dX1_putThoseAbove_1 gf_RX1_28 (at1 rfl) (by decide) rfl ?_
    refine ev_if_le 52 dX1_putThoseAbove_4 (by decide) (fun c1 => ?_) (fun c1 => ?_)
    · have h := am_t c1 h
      obtain rfl := Option.some.inj h
      exact ev_vret dX1_putThoseAbove_52 rfl
    · have h := am_e c1 h
      refine ev_aload_n dX1_putThoseAbove_7 0 rfl trivial ?_
      refine px_getR dX1_putThoseAbove_8 gf_RX1_25 (at1 rfl) (by decide) rfl ?_
      refine ev_aload_n dX1_putThoseAbove_11 0 rfl trivial ?_
      refine px_getI dX1_putThoseAbove_12 gf_RX1_28 (at1 rfl) (by decide) rfl ?_
      refine ev_iconst (v := (1 : Int32)) dX1_putThoseAbove_15 kI_1 ?_
      refine ev_isub dX1_putThoseAbove_16 ?_
      obtain ⟨g2, h⟩ := am_gd h
      refine px_iald (n := 96) (((u 41 5) - (1 : Int32)).toNatClampNeg) dX1_putThoseAbove_17 rfl g2 rfl ?_
      obtain ⟨q3, eq3, h⟩ := am_bd h
      refine px_callsi [.int (u 43 (((u 41 5) - (1 : Int32)).toNatClampNeg))] dX1_putThoseAbove_18 ok_X1_rankOf lk_RX1_107 st_X1_rankOf (by decide) rfl (c_X1_rankOf eq3) rfl (Nat.le_of_ble_eq_true rfl) ?_
      refine ev_iload_n dX1_putThoseAbove_21 1 rfl ?_
      refine ev_icmp_le 52 dX1_putThoseAbove_22 (by decide) (fun c4 => ?_) (fun c4 => ?_)
      · have h := am_t c4 h
        obtain rfl := Option.some.inj h
        exact ev_vret dX1_putThoseAbove_52 rfl
      · have h := am_e c4 h
        refine ev_aload_n dX1_putThoseAbove_25 0 rfl trivial ?_
        refine ev_dup dX1_putThoseAbove_26 rfl ?_
        refine px_getI dX1_putThoseAbove_27 gf_RX1_28 (at1 rfl) (by decide) rfl ?_
        refine ev_iconst (v := (1 : Int32)) dX1_putThoseAbove_30 kI_1 ?_
        refine ev_isub dX1_putThoseAbove_31 ?_
        obtain ⟨u5, eu5, h⟩ := am_lt h
        refine px_putI dX1_putThoseAbove_32 pf_RX1_28 (at1 rfl) (by decide) rfl eu5 ?_
        refine ev_aload_n dX1_putThoseAbove_35 0 rfl trivial ?_
        refine ev_aload_n dX1_putThoseAbove_36 0 rfl trivial ?_
        refine px_getR dX1_putThoseAbove_37 gf_RX1_25 (at1 rfl) (by decide) rfl ?_
        refine ev_aload_n dX1_putThoseAbove_40 0 rfl trivial ?_
        refine px_getI dX1_putThoseAbove_41 gf_RX1_28 (at1 rfl) (by decide) rfl ?_
        obtain ⟨g6, h⟩ := am_gd h
        refine px_iald (n := 96) ((u5 41 5).toNatClampNeg) dX1_putThoseAbove_44 rfl g6 rfl ?_
        refine ev_ineg dX1_putThoseAbove_45 ?_
        obtain ⟨q7, eq7, h⟩ := am_bd h
        refine px_callvv [.int (-(u5 43 ((u5 41 5).toNatClampNeg)))] (by decide) cl_1 (at1 rfl) dX1_putThoseAbove_46 ok_X1_put lk_RX1_98 in_X1_put se_X1_put (by decide) rfl (c_X1_put eq7) rfl (Nat.le_of_ble_eq_true rfl) ?_
        refine ev_goto 0 dX1_putThoseAbove_49 (by decide) ?_
        refine ev_loc [0, 1] rfl ?_
        exact ih q7 l1 _ h

theorem c_X1_putThoseAbove {X : Nat × (Nat → Int32)} {u : am_MU} {l1 : Int32} {r : am_MU} (h : f_X1_putThoseAbove u l1 = some r) : am_Cn X M_X1_putThoseAbove [.ref 41, .int l1] (hp u) (hp r, none) := by
  refine am_Cn.of ok_X1_putThoseAbove (Nat.le_refl _) (Nat.le_refl _) (Nat.le_of_ble_eq_true rfl) ?_
  refine ev_loc [0, 1] rfl ?_
  exact l_X1_putThoseAbove_0 1700 u l1 r h

-- SandRipples$Reader.closesBracket()Z
def f_X1_closesBracket  (u : am_MU)  : Option (am_MU × Int32) :=
(f_X1_putThoseAbove u (0 : Int32)).bind fun q1 =>
if (q1 41 6) = 0 then (some (q1, (0 : Int32)))
else (if (q1 41 5) = 0 then (some (q1, (0 : Int32)))
else (am_let (am_u2 q1 41 5 ((q1 41 5) - (1 : Int32))) fun u4 =>
am_let (am_u2 u4 41 6 ((u4 41 6) - (1 : Int32))) fun u5 =>
(f_X1_endPiece u5 ).bind fun q6 =>
some (q6, (1 : Int32))))

theorem l_X1_closesBracket_0 {X : Nat × (Nat → Int32)}   (u : am_MU)  (r : am_MU × Int32) (h : f_X1_closesBracket  u  = some r) : am_Ev X M_X1_closesBracket 0 [(0, .ref 41)] [] (hp u) (hp r.1, some (.int r.2)) := by
  unfold f_X1_closesBracket at h
  refine ev_aload_n dX1_closesBracket_0 0 rfl trivial ?_
  refine ev_iconst (v := (0 : Int32)) dX1_closesBracket_1 kI_0 ?_
  obtain ⟨q1, eq1, h⟩ := am_bd h
  refine px_callvv [.int (0 : Int32)] (by decide) cl_1 (at1 rfl) dX1_closesBracket_2 ok_X1_putThoseAbove lk_RX1_110 in_X1_putThoseAbove se_X1_putThoseAbove (by decide) rfl (c_X1_putThoseAbove eq1) rfl (Nat.le_of_ble_eq_true rfl) ?_
  refine ev_aload_n dX1_closesBracket_5 0 rfl trivial ?_
  refine px_getI dX1_closesBracket_6 gf_RX1_31 (at1 rfl) (by decide) rfl ?_
  refine ev_if_eq 19 dX1_closesBracket_9 (by decide) (fun c2 => ?_) (fun c2 => ?_)
  · have h := am_t c2 h
    refine ev_iconst (v := (0 : Int32)) dX1_closesBracket_19 kI_0 ?_
    obtain rfl := Option.some.inj h
    exact ev_iret dX1_closesBracket_20 rfl (am_zn (Or.inl rfl))
  · have h := am_e c2 h
    refine ev_aload_n dX1_closesBracket_12 0 rfl trivial ?_
    refine px_getI dX1_closesBracket_13 gf_RX1_28 (at1 rfl) (by decide) rfl ?_
    refine ev_if_ne 21 dX1_closesBracket_16 (by decide) (fun c3 => ?_) (fun c3 => ?_)
    · have h := am_e c3 h
      refine ev_aload_n dX1_closesBracket_21 0 rfl trivial ?_
      refine ev_dup dX1_closesBracket_22 rfl ?_
      refine px_getI dX1_closesBracket_23 gf_RX1_28 (at1 rfl) (by decide) rfl ?_
      refine ev_iconst (v := (1 : Int32)) dX1_closesBracket_26 kI_1 ?_
      refine ev_isub dX1_closesBracket_27 ?_
      obtain ⟨u4, eu4, h⟩ := am_lt h
      refine px_putI dX1_closesBracket_28 pf_RX1_28 (at1 rfl) (by decide) rfl eu4 ?_
      refine ev_aload_n dX1_closesBracket_31 0 rfl trivial ?_
      refine ev_dup dX1_closesBracket_32 rfl ?_
      refine px_getI dX1_closesBracket_33 gf_RX1_31 (at1 rfl) (by decide) rfl ?_
      refine ev_iconst (v := (1 : Int32)) dX1_closesBracket_36 kI_1 ?_
      refine ev_isub dX1_closesBracket_37 ?_
      obtain ⟨u5, eu5, h⟩ := am_lt h
      refine px_putI dX1_closesBracket_38 pf_RX1_31 (at1 rfl) (by decide) rfl eu5 ?_
      refine ev_aload_n dX1_closesBracket_41 0 rfl trivial ?_
      obtain ⟨q6, eq6, h⟩ := am_bd h
      refine px_callvv [] (by decide) cl_1 (at1 rfl) dX1_closesBracket_42 ok_X1_endPiece lk_RX1_101 in_X1_endPiece se_X1_endPiece (by decide) rfl (c_X1_endPiece eq6) rfl (Nat.le_of_ble_eq_true rfl) ?_
      refine ev_iconst (v := (1 : Int32)) dX1_closesBracket_45 kI_1 ?_
      obtain rfl := Option.some.inj h
      exact ev_iret dX1_closesBracket_46 rfl (am_zn (Or.inr rfl))
    · have h := am_t c3 h
      refine ev_iconst (v := (0 : Int32)) dX1_closesBracket_19 kI_0 ?_
      obtain rfl := Option.some.inj h
      exact ev_iret dX1_closesBracket_20 rfl (am_zn (Or.inl rfl))

theorem c_X1_closesBracket {X : Nat × (Nat → Int32)} {u : am_MU}  {r : am_MU × Int32} (h : f_X1_closesBracket u  = some r) : am_Cn X M_X1_closesBracket [.ref 41] (hp u) (hp r.1, some (.int r.2)) := by
  refine am_Cn.of ok_X1_closesBracket (Nat.le_refl _) (Nat.le_refl _) (Nat.le_of_ble_eq_true rfl) ?_
  refine ev_loc [0] rfl ?_
  exact l_X1_closesBracket_0 u  r h

-- SandRipples$Reader.takesSign(I)Z
def g_X1_takesSign_69  (u : am_MU) (l1 : Int32) (l2 : Int32) : Option (am_MU × Int32) :=
(f_X1_putThoseAbove u (l2 - (1 : Int32))).bind fun q1 =>
am_let (am_u2 q1 41 8 (1 : Int32)) fun u2 =>
(f_X1_waits u2 l1).bind fun q3 =>
if q3.2 = 0 ∨ q3.2 = 1 then (
some (q3.1, q3.2)) else none

def g_X1_takesSign_57  (u : am_MU) (l1 : Int32) (l2 : Int32) (s0 : Int32) : Option (am_MU × Int32) :=
if s0 = 0 then (g_X1_takesSign_69 u l1 l2)
else (if l2 = (3 : Int32) then (some (u, (0 : Int32)))
else (g_X1_takesSign_69 u l1 l2))

def g_X1_takesSign_56  (u : am_MU) (l1 : Int32) (l2 : Int32) : Option (am_MU × Int32) :=
g_X1_takesSign_57 u l1 l2 (0 : Int32)

def f_X1_takesSign  (u : am_MU) (l1 : Int32) : Option (am_MU × Int32) :=
if l1 = (41 : Int32) then ((f_X1_closesBracket u ).bind fun q9 =>
if q9.2 = 0 ∨ q9.2 = 1 then (
some (q9.1, q9.2)) else none)
else ((f_X1_rankOf u l1).bind fun q2 =>
if q2.2 = 0 then (some (q2.1, (0 : Int32)))
else ((f_X1_putThoseAbove q2.1 q2.2).bind fun q4 =>
if (q4 41 5) ≤ 0 then (g_X1_takesSign_56 q4 l1 q2.2)
else (if am_in ((q4 41 5) - (1 : Int32)) 96 then (
(f_X1_rankOf q4 (q4 43 (((q4 41 5) - (1 : Int32)).toNatClampNeg))).bind fun q7 =>
if q7.2 = q2.2 then (g_X1_takesSign_57 q7.1 l1 q2.2 (1 : Int32))
else (g_X1_takesSign_56 q7.1 l1 q2.2)) else none)))

theorem l_X1_takesSign_69 {X : Nat × (Nat → Int32)}   (u : am_MU) (l1 : Int32) (l2 : Int32) (r : am_MU × Int32) (h : g_X1_takesSign_69  u l1 l2 = some r) : am_Ev X M_X1_takesSign 69 [(0, .ref 41), (1, .int l1), (2, .int l2)] [] (hp u) (hp r.1, some (.int r.2)) := by
  unfold g_X1_takesSign_69 at h
  refine ev_aload_n dX1_takesSign_69 0 rfl trivial ?_
  refine ev_iload_n dX1_takesSign_70 2 rfl ?_
  refine ev_iconst (v := (1 : Int32)) dX1_takesSign_71 kI_1 ?_
  refine ev_isub dX1_takesSign_72 ?_
  obtain ⟨q1, eq1, h⟩ := am_bd h
  refine px_callvv [.int (l2 - (1 : Int32))] (by decide) cl_1 (at1 rfl) dX1_takesSign_73 ok_X1_putThoseAbove lk_RX1_110 in_X1_putThoseAbove se_X1_putThoseAbove (by decide) rfl (c_X1_putThoseAbove eq1) rfl (Nat.le_of_ble_eq_true rfl) ?_
  refine ev_aload_n dX1_takesSign_76 0 rfl trivial ?_
  refine ev_iconst (v := (1 : Int32)) dX1_takesSign_77 kI_1 ?_
  obtain ⟨u2, eu2, h⟩ := am_lt h
  refine px_putZ dX1_takesSign_78 pf_RX1_37 (at1 rfl) (by decide) rfl (Or.inr rfl) eu2 ?_
  refine ev_aload_n dX1_takesSign_81 0 rfl trivial ?_
  refine ev_iload_n dX1_takesSign_82 1 rfl ?_
  obtain ⟨q3, eq3, h⟩ := am_bd h
  refine px_callvi [.int l1] (by decide) cl_1 (at1 rfl) dX1_takesSign_83 ok_X1_waits lk_RX1_81 in_X1_waits se_X1_waits (by decide) rfl (c_X1_waits eq3) rfl (Nat.le_of_ble_eq_true rfl) ?_
  obtain ⟨g4, h⟩ := am_gd h
  obtain rfl := Option.some.inj h
  exact ev_iret dX1_takesSign_86 rfl (am_zn g4)

theorem l_X1_takesSign_57 {X : Nat × (Nat → Int32)}   (u : am_MU) (l1 : Int32) (l2 : Int32) (s0 : Int32) (r : am_MU × Int32) (h : g_X1_takesSign_57  u l1 l2 s0 = some r) : am_Ev X M_X1_takesSign 57 [(0, .ref 41), (1, .int l1), (2, .int l2)] [.int s0] (hp u) (hp r.1, some (.int r.2)) := by
  unfold g_X1_takesSign_57 at h
  refine ev_istore_n (L' := [(3, .int s0), (0, .ref 41), (1, .int l1), (2, .int l2)]) dX1_takesSign_57 (by decide) rfl ?_
  refine ev_iload_n dX1_takesSign_58 0 rfl ?_
  refine ev_if_eq 69 dX1_takesSign_59 (by decide) (fun c1 => ?_) (fun c1 => ?_)
  · have h := am_t c1 h
    refine ev_loc [1, 2, 3] rfl ?_
    exact l_X1_takesSign_69   u l1 l2 _ h
  · have h := am_e c1 h
    refine ev_iload_n dX1_takesSign_62 3 rfl ?_
    refine ev_iconst (v := (3 : Int32)) dX1_takesSign_63 kI_3 ?_
    refine ev_icmp_ne 69 dX1_takesSign_64 (by decide) (fun c2 => ?_) (fun c2 => ?_)
    · have h := am_e c2 h
      refine ev_loc [1, 2, 3] rfl ?_
      exact l_X1_takesSign_69   u l1 l2 _ h
    · have h := am_t c2 h
      refine ev_iconst (v := (0 : Int32)) dX1_takesSign_67 kI_0 ?_
      obtain rfl := Option.some.inj h
      exact ev_iret dX1_takesSign_68 rfl (am_zn (Or.inl rfl))

theorem l_X1_takesSign_56 {X : Nat × (Nat → Int32)}   (u : am_MU) (l1 : Int32) (l2 : Int32) (r : am_MU × Int32) (h : g_X1_takesSign_56  u l1 l2 = some r) : am_Ev X M_X1_takesSign 56 [(0, .ref 41), (1, .int l1), (2, .int l2)] [] (hp u) (hp r.1, some (.int r.2)) := by
  unfold g_X1_takesSign_56 at h
  refine ev_iconst (v := (0 : Int32)) dX1_takesSign_56 kI_0 ?_
  refine ev_loc [0, 1, 2] rfl ?_
  exact l_X1_takesSign_57   u l1 l2 (0 : Int32) _ h

theorem l_X1_takesSign_0 {X : Nat × (Nat → Int32)}   (u : am_MU) (l1 : Int32) (r : am_MU × Int32) (h : f_X1_takesSign  u l1 = some r) : am_Ev X M_X1_takesSign 0 [(0, .ref 41), (1, .int l1)] [] (hp u) (hp r.1, some (.int r.2)) := by
  unfold f_X1_takesSign at h
  refine ev_iload_n dX1_takesSign_0 1 rfl ?_
  refine ev_bipush (v := (41 : Int32)) dX1_takesSign_1 kB_41 ?_
  refine ev_icmp_ne 11 dX1_takesSign_3 (by decide) (fun c1 => ?_) (fun c1 => ?_)
  · have h := am_e c1 h
    refine ev_iload_n dX1_takesSign_11 1 rfl ?_
    obtain ⟨q2, eq2, h⟩ := am_bd h
    refine px_callsi [.int l1] dX1_takesSign_12 ok_X1_rankOf lk_RX1_107 st_X1_rankOf (by decide) rfl (c_X1_rankOf eq2) rfl (Nat.le_of_ble_eq_true rfl) ?_
    refine ev_istore_n (L' := [(2, .int q2.2), (0, .ref 41), (1, .int l1)]) dX1_takesSign_15 (by decide) rfl ?_
    refine ev_iload_n dX1_takesSign_16 0 rfl ?_
    refine ev_if_ne 22 dX1_takesSign_17 (by decide) (fun c3 => ?_) (fun c3 => ?_)
    · have h := am_e c3 h
      refine ev_aload_n dX1_takesSign_22 1 rfl trivial ?_
      refine ev_iload_n dX1_takesSign_23 0 rfl ?_
      obtain ⟨q4, eq4, h⟩ := am_bd h
      refine px_callvv [.int q2.2] (by decide) cl_1 (at1 rfl) dX1_takesSign_24 ok_X1_putThoseAbove lk_RX1_110 in_X1_putThoseAbove se_X1_putThoseAbove (by decide) rfl (c_X1_putThoseAbove eq4) rfl (Nat.le_of_ble_eq_true rfl) ?_
      refine ev_aload_n dX1_takesSign_27 1 rfl trivial ?_
      refine px_getI dX1_takesSign_28 gf_RX1_28 (at1 rfl) (by decide) rfl ?_
      refine ev_if_le 56 dX1_takesSign_31 (by decide) (fun c5 => ?_) (fun c5 => ?_)
      · have h := am_t c5 h
        refine ev_loc [1, 2, 0] rfl ?_
        exact l_X1_takesSign_56   q4 l1 q2.2 _ h
      · have h := am_e c5 h
        refine ev_aload_n dX1_takesSign_34 1 rfl trivial ?_
        refine px_getR dX1_takesSign_35 gf_RX1_25 (at1 rfl) (by decide) rfl ?_
        refine ev_aload_n dX1_takesSign_38 1 rfl trivial ?_
        refine px_getI dX1_takesSign_39 gf_RX1_28 (at1 rfl) (by decide) rfl ?_
        refine ev_iconst (v := (1 : Int32)) dX1_takesSign_42 kI_1 ?_
        refine ev_isub dX1_takesSign_43 ?_
        obtain ⟨g6, h⟩ := am_gd h
        refine px_iald (n := 96) (((q4 41 5) - (1 : Int32)).toNatClampNeg) dX1_takesSign_44 rfl g6 rfl ?_
        obtain ⟨q7, eq7, h⟩ := am_bd h
        refine px_callsi [.int (q4 43 (((q4 41 5) - (1 : Int32)).toNatClampNeg))] dX1_takesSign_45 ok_X1_rankOf lk_RX1_107 st_X1_rankOf (by decide) rfl (c_X1_rankOf eq7) rfl (Nat.le_of_ble_eq_true rfl) ?_
        refine ev_iload_n dX1_takesSign_48 0 rfl ?_
        refine ev_icmp_ne 56 dX1_takesSign_49 (by decide) (fun c8 => ?_) (fun c8 => ?_)
        · have h := am_e c8 h
          refine ev_loc [1, 2, 0] rfl ?_
          exact l_X1_takesSign_56   q7.1 l1 q2.2 _ h
        · have h := am_t c8 h
          refine ev_iconst (v := (1 : Int32)) dX1_takesSign_52 kI_1 ?_
          refine ev_goto 57 dX1_takesSign_53 (by decide) ?_
          refine ev_loc [1, 2, 0] rfl ?_
          exact l_X1_takesSign_57   q7.1 l1 q2.2 (1 : Int32) _ h
    · have h := am_t c3 h
      refine ev_iconst (v := (0 : Int32)) dX1_takesSign_20 kI_0 ?_
      obtain rfl := Option.some.inj h
      exact ev_iret dX1_takesSign_21 rfl (am_zn (Or.inl rfl))
  · have h := am_t c1 h
    refine ev_aload_n dX1_takesSign_6 0 rfl trivial ?_
    obtain ⟨q9, eq9, h⟩ := am_bd h
    refine px_callvi [] (by decide) cl_1 (at1 rfl) dX1_takesSign_7 ok_X1_closesBracket lk_RX1_104 in_X1_closesBracket se_X1_closesBracket (by decide) rfl (c_X1_closesBracket eq9) rfl (Nat.le_of_ble_eq_true rfl) ?_
    obtain ⟨g10, h⟩ := am_gd h
    obtain rfl := Option.some.inj h
    exact ev_iret dX1_takesSign_10 rfl (am_zn g10)

theorem c_X1_takesSign {X : Nat × (Nat → Int32)} {u : am_MU} {l1 : Int32} {r : am_MU × Int32} (h : f_X1_takesSign u l1 = some r) : am_Cn X M_X1_takesSign [.ref 41, .int l1] (hp u) (hp r.1, some (.int r.2)) := by
  refine am_Cn.of ok_X1_takesSign (Nat.le_refl _) (Nat.le_refl _) (Nat.le_of_ble_eq_true rfl) ?_
  refine ev_loc [0, 1] rfl ?_
  exact l_X1_takesSign_0 u l1 r h

-- SandRipples$Reader.endsHere()Z
def f_X1_endsHere  (u : am_MU)  : Option (am_MU × Int32) :=
if (u 41 8) = 0 then (if (u 41 6) ≤ 0 then ((f_X1_putThoseAbove u (0 : Int32)).bind fun q3 =>
some (q3, (1 : Int32)))
else (some (u, (0 : Int32))))
else (some (u, (0 : Int32)))

theorem l_X1_endsHere_0 {X : Nat × (Nat → Int32)}   (u : am_MU)  (r : am_MU × Int32) (h : f_X1_endsHere  u  = some r) : am_Ev X M_X1_endsHere 0 [(0, .ref 41)] [] (hp u) (hp r.1, some (.int r.2)) := by
  unfold f_X1_endsHere at h
  refine ev_aload_n dX1_endsHere_0 0 rfl trivial ?_
  refine px_getI dX1_endsHere_1 gf_RX1_37 (at1 rfl) (by decide) rfl ?_
  refine ev_if_ne 14 dX1_endsHere_4 (by decide) (fun c1 => ?_) (fun c1 => ?_)
  · have h := am_e c1 h
    refine ev_iconst (v := (0 : Int32)) dX1_endsHere_14 kI_0 ?_
    obtain rfl := Option.some.inj h
    exact ev_iret dX1_endsHere_15 rfl (am_zn (Or.inl rfl))
  · have h := am_t c1 h
    refine ev_aload_n dX1_endsHere_7 0 rfl trivial ?_
    refine px_getI dX1_endsHere_8 gf_RX1_31 (at1 rfl) (by decide) rfl ?_
    refine ev_if_le 16 dX1_endsHere_11 (by decide) (fun c2 => ?_) (fun c2 => ?_)
    · have h := am_t c2 h
      refine ev_aload_n dX1_endsHere_16 0 rfl trivial ?_
      refine ev_iconst (v := (0 : Int32)) dX1_endsHere_17 kI_0 ?_
      obtain ⟨q3, eq3, h⟩ := am_bd h
      refine px_callvv [.int (0 : Int32)] (by decide) cl_1 (at1 rfl) dX1_endsHere_18 ok_X1_putThoseAbove lk_RX1_110 in_X1_putThoseAbove se_X1_putThoseAbove (by decide) rfl (c_X1_putThoseAbove eq3) rfl (Nat.le_of_ble_eq_true rfl) ?_
      refine ev_iconst (v := (1 : Int32)) dX1_endsHere_21 kI_1 ?_
      obtain rfl := Option.some.inj h
      exact ev_iret dX1_endsHere_22 rfl (am_zn (Or.inr rfl))
    · have h := am_e c2 h
      refine ev_iconst (v := (0 : Int32)) dX1_endsHere_14 kI_0 ?_
      obtain rfl := Option.some.inj h
      exact ev_iret dX1_endsHere_15 rfl (am_zn (Or.inl rfl))

theorem c_X1_endsHere {X : Nat × (Nat → Int32)} {u : am_MU}  {r : am_MU × Int32} (h : f_X1_endsHere u  = some r) : am_Cn X M_X1_endsHere [.ref 41] (hp u) (hp r.1, some (.int r.2)) := by
  refine am_Cn.of ok_X1_endsHere (Nat.le_refl _) (Nat.le_refl _) (Nat.le_of_ble_eq_true rfl) ?_
  refine ev_loc [0] rfl ?_
  exact l_X1_endsHere_0 u  r h

-- SandRipples$Reader.faultOf([II)I
def g_X1_faultOf_165  (u : am_MU) (l2 : Int32) : Option (am_MU × Int32) :=
(f_X1_endsHere u ).bind fun q1 =>
if q1.2 = 0 then (some (q1.1, l2))
else (some (q1.1, ((-1) : Int32)))

def g_X1_faultOf_150 (K42 : am_MU → Nat → Int32 → Int32 → Int32 → Option (am_MU × Int32)) (u : am_MU) (l1 : Nat) (l2 : Int32) (l3 : Int32) (l4 : Int32) (l5 : Int32) (s0 : Int32) : Option (am_MU × Int32) :=
if s0 = 0 then (some (u, l3))
else (am_let (l5 + (1 : Int32)) fun x2 =>
K42 u l1 l2 l4 x2)

def g_X1_faultOf_139 (K42 : am_MU → Nat → Int32 → Int32 → Int32 → Option (am_MU × Int32)) (u : am_MU) (l1 : Nat) (l2 : Int32) (l3 : Int32) (l4 : Int32) (l5 : Int32) : Option (am_MU × Int32) :=
g_X1_faultOf_150 K42 u l1 l2 l3 l4 l5 (0 : Int32)

def g_X1_faultOf_86 (K42 : am_MU → Nat → Int32 → Int32 → Int32 → Option (am_MU × Int32)) (u : am_MU) (l1 : Nat) (l2 : Int32) (l4 : Int32) (l5 : Int32) (s0 : Int32) : Option (am_MU × Int32) :=
(f_X1_pastBlanks u l1 l4 l2).bind fun q1 =>
if q1.2 < l2 then ((f_X1_endOfWord q1.1 l1 q1.2 l2).bind fun q3 =>
if (q3.1 41 8) = 0 then (if am_in q1.2 (il l1) then (
(f_X1_takesSign q3.1 (q3.1 l1 q1.2.toNatClampNeg)).bind fun q6 =>
g_X1_faultOf_150 K42 q6.1 l1 l2 q1.2 q3.2 l5 q6.2) else none)
else (if s0 = 0 then ((f_X1_takesPiece q3.1 l1 q1.2 q3.2).bind fun q8 =>
if q8.2 = 0 then (g_X1_faultOf_139 K42 q8.1 l1 l2 q1.2 q3.2 l5)
else (g_X1_faultOf_150 K42 q8.1 l1 l2 q1.2 q3.2 l5 (1 : Int32)))
else (g_X1_faultOf_139 K42 q3.1 l1 l2 q1.2 q3.2 l5)))
else (g_X1_faultOf_165 q1.1 l2)

def g_X1_faultOf_85 (K42 : am_MU → Nat → Int32 → Int32 → Int32 → Option (am_MU × Int32)) (u : am_MU) (l1 : Nat) (l2 : Int32) (l4 : Int32) (l5 : Int32) : Option (am_MU × Int32) :=
g_X1_faultOf_86 K42 u l1 l2 l4 l5 (0 : Int32)

def g_X1_faultOf_42  : Nat → am_MU → Nat → Int32 → Int32 → Int32 → Option (am_MU × Int32)
  | 0 => fun _ _ _ _ _ => none
  | n + 1 => fun u l1 l2 l4 l5 =>
if l2 ≤ l5 then (g_X1_faultOf_165 u l2)
else (if l4 ≤ 0 then (g_X1_faultOf_85 (g_X1_faultOf_42 n) u l1 l2 l4 l5)
else (if l2 ≤ l4 then (g_X1_faultOf_85 (g_X1_faultOf_42 n) u l1 l2 l4 l5)
else (if am_in (l4 - (1 : Int32)) (il l1) then (
(f_X1_isInWord u (u l1 ((l4 - (1 : Int32)).toNatClampNeg))).bind fun q5 =>
if q5.2 = 0 then (g_X1_faultOf_85 (g_X1_faultOf_42 n) q5.1 l1 l2 l4 l5)
else (if am_in l4 (il l1) then (
(f_X1_isInWord q5.1 (q5.1 l1 l4.toNatClampNeg)).bind fun q8 =>
if q8.2 = 0 then (g_X1_faultOf_85 (g_X1_faultOf_42 n) q8.1 l1 l2 l4 l5)
else (g_X1_faultOf_86 (g_X1_faultOf_42 n) q8.1 l1 l2 l4 l5 (1 : Int32))) else none)) else none)))

def f_X1_faultOf  (u : am_MU) (l1 : Nat) (l2 : Int32) : Option (am_MU × Int32) :=
(f_X1_begin u ).bind fun q1 =>
(f_X1_pastBlanks q1 l1 (0 : Int32) l2).bind fun q2 =>
(f_X1_endOfWord q2.1 l1 q2.2 l2).bind fun q3 =>
(f_X1_keyOf q3.1 l1 q2.2 q3.2).bind fun q4 =>
am_let (am_u2 q4.1 41 0 q4.2) fun u5 =>
if 0 ≤ (u5 41 0) then (g_X1_faultOf_42 1700 u5 l1 l2 q3.2 (0 : Int32))
else (some (u5, q2.2))

theorem l_X1_faultOf_165 {X : Nat × (Nat → Int32)}   (u : am_MU) (l2 : Int32) (r : am_MU × Int32) (h : g_X1_faultOf_165  u l2 = some r) : am_Ev X M_X1_faultOf 165 [(0, .ref 41), (2, .int l2)] [] (hp u) (hp r.1, some (.int r.2)) := by
  unfold g_X1_faultOf_165 at h
  refine ev_aload_n dX1_faultOf_165 0 rfl trivial ?_
  obtain ⟨q1, eq1, h⟩ := am_bd h
  refine px_callvi [] (by decide) cl_1 (at1 rfl) dX1_faultOf_166 ok_X1_endsHere lk_RX1_65 in_X1_endsHere se_X1_endsHere (by decide) rfl (c_X1_endsHere eq1) rfl (Nat.le_of_ble_eq_true rfl) ?_
  refine ev_if_eq 176 dX1_faultOf_169 (by decide) (fun c2 => ?_) (fun c2 => ?_)
  · have h := am_t c2 h
    refine ev_iload_n dX1_faultOf_176 1 rfl ?_
    obtain rfl := Option.some.inj h
    exact ev_iret dX1_faultOf_177 rfl rfl
  · have h := am_e c2 h
    refine ev_iconst (v := ((-1) : Int32)) dX1_faultOf_172 kI_m1 ?_
    refine ev_goto 177 dX1_faultOf_173 (by decide) ?_
    obtain rfl := Option.some.inj h
    exact ev_iret dX1_faultOf_177 rfl rfl

theorem l_X1_faultOf_150 {X : Nat × (Nat → Int32)} (K42 : am_MU → Nat → Int32 → Int32 → Int32 → Option (am_MU × Int32)) (hK42 : ∀ (u : am_MU) (l1 : Nat) (l2 : Int32) (l4 : Int32) (l5 : Int32) (r : am_MU × Int32), K42 u l1 l2 l4 l5 = some r → am_Ev X M_X1_faultOf 42 [(0, .ref 41), (1, .ref l1), (2, .int l2), (4, .int l4), (5, .int l5)] [] (hp u) (hp r.1, some (.int r.2))) (u : am_MU) (l1 : Nat) (l2 : Int32) (l3 : Int32) (l4 : Int32) (l5 : Int32) (s0 : Int32) (r : am_MU × Int32) (h : g_X1_faultOf_150 K42 u l1 l2 l3 l4 l5 s0 = some r) : am_Ev X M_X1_faultOf 150 [(0, .ref 41), (1, .ref l1), (2, .int l2), (3, .int l3), (4, .int l4), (5, .int l5)] [.int s0] (hp u) (hp r.1, some (.int r.2)) := by
  unfold g_X1_faultOf_150 at h
  refine ev_istore (L' := [(7, .int s0), (0, .ref 41), (1, .ref l1), (2, .int l2), (3, .int l3), (4, .int l4), (5, .int l5)]) dX1_faultOf_150 (by decide) rfl ?_
  refine ev_iload dX1_faultOf_152 0 rfl ?_
  refine ev_if_ne 159 dX1_faultOf_154 (by decide) (fun c1 => ?_) (fun c1 => ?_)
  · have h := am_e c1 h
    obtain ⟨x2, ex2, h⟩ := am_lt h
    refine ev_iinc (v := x2) (L' := [(5, .int x2), (7, .int s0), (0, .ref 41), (1, .ref l1), (2, .int l2), (3, .int l3), (4, .int l4)]) dX1_faultOf_159 6 rfl (by rw [kI_1, ex2]) (by decide) rfl ?_
    refine ev_goto 42 dX1_faultOf_162 (by decide) ?_
    refine ev_loc [2, 3, 4, 6, 0] rfl ?_
    exact hK42 u l1 l2 l4 x2 _ h
  · have h := am_t c1 h
    refine ev_iload_n dX1_faultOf_157 4 rfl ?_
    obtain rfl := Option.some.inj h
    exact ev_iret dX1_faultOf_158 rfl rfl

theorem l_X1_faultOf_139 {X : Nat × (Nat → Int32)} (K42 : am_MU → Nat → Int32 → Int32 → Int32 → Option (am_MU × Int32)) (hK42 : ∀ (u : am_MU) (l1 : Nat) (l2 : Int32) (l4 : Int32) (l5 : Int32) (r : am_MU × Int32), K42 u l1 l2 l4 l5 = some r → am_Ev X M_X1_faultOf 42 [(0, .ref 41), (1, .ref l1), (2, .int l2), (4, .int l4), (5, .int l5)] [] (hp u) (hp r.1, some (.int r.2))) (u : am_MU) (l1 : Nat) (l2 : Int32) (l3 : Int32) (l4 : Int32) (l5 : Int32) (r : am_MU × Int32) (h : g_X1_faultOf_139 K42 u l1 l2 l3 l4 l5 = some r) : am_Ev X M_X1_faultOf 139 [(0, .ref 41), (1, .ref l1), (2, .int l2), (3, .int l3), (4, .int l4), (5, .int l5)] [] (hp u) (hp r.1, some (.int r.2)) := by
  unfold g_X1_faultOf_139 at h
  refine ev_iconst (v := (0 : Int32)) dX1_faultOf_139 kI_0 ?_
  refine ev_goto 150 dX1_faultOf_140 (by decide) ?_
  refine ev_loc [0, 1, 2, 3, 4, 5] rfl ?_
  exact l_X1_faultOf_150 K42 hK42 u l1 l2 l3 l4 l5 (0 : Int32) _ h

theorem l_X1_faultOf_86 {X : Nat × (Nat → Int32)} (K42 : am_MU → Nat → Int32 → Int32 → Int32 → Option (am_MU × Int32)) (hK42 : ∀ (u : am_MU) (l1 : Nat) (l2 : Int32) (l4 : Int32) (l5 : Int32) (r : am_MU × Int32), K42 u l1 l2 l4 l5 = some r → am_Ev X M_X1_faultOf 42 [(0, .ref 41), (1, .ref l1), (2, .int l2), (4, .int l4), (5, .int l5)] [] (hp u) (hp r.1, some (.int r.2))) (u : am_MU) (l1 : Nat) (l2 : Int32) (l4 : Int32) (l5 : Int32) (s0 : Int32) (r : am_MU × Int32) (h : g_X1_faultOf_86 K42 u l1 l2 l4 l5 s0 = some r) : am_Ev X M_X1_faultOf 86 [(0, .ref 41), (1, .ref l1), (2, .int l2), (4, .int l4), (5, .int l5)] [.int s0] (hp u) (hp r.1, some (.int r.2)) := by
  unfold g_X1_faultOf_86 at h
  refine ev_istore (L' := [(6, .int s0), (0, .ref 41), (1, .ref l1), (2, .int l2), (4, .int l4), (5, .int l5)]) dX1_faultOf_86 (by decide) rfl ?_
  refine ev_aload_n dX1_faultOf_88 2 rfl trivial ?_
  refine ev_iload dX1_faultOf_89 4 rfl ?_
  refine ev_iload_n dX1_faultOf_91 3 rfl ?_
  obtain ⟨q1, eq1, h⟩ := am_bd h
  refine px_callsi [.ref l1, .int l4, .int l2] dX1_faultOf_92 ok_X1_pastBlanks lk_RX1_44 st_X1_pastBlanks (by decide) rfl (c_X1_pastBlanks eq1) rfl (Nat.le_of_ble_eq_true rfl) ?_
  refine ev_istore_n (L' := [(3, .int q1.2), (6, .int s0), (0, .ref 41), (1, .ref l1), (2, .int l2), (4, .int l4), (5, .int l5)]) dX1_faultOf_95 (by decide) rfl ?_
  refine ev_iload_n dX1_faultOf_96 0 rfl ?_
  refine ev_iload_n dX1_faultOf_97 4 rfl ?_
  refine ev_icmp_lt 104 dX1_faultOf_98 (by decide) (fun c2 => ?_) (fun c2 => ?_)
  · have h := am_t c2 h
    refine ev_aload_n dX1_faultOf_104 3 rfl trivial ?_
    refine ev_iload_n dX1_faultOf_105 0 rfl ?_
    refine ev_iload_n dX1_faultOf_106 4 rfl ?_
    obtain ⟨q3, eq3, h⟩ := am_bd h
    refine px_callsi [.ref l1, .int q1.2, .int l2] dX1_faultOf_107 ok_X1_endOfWord lk_RX1_48 st_X1_endOfWord (by decide) rfl (c_X1_endOfWord eq3) rfl (Nat.le_of_ble_eq_true rfl) ?_
    refine ev_istore (L' := [(4, .int q3.2), (3, .int q1.2), (6, .int s0), (0, .ref 41), (1, .ref l1), (2, .int l2), (5, .int l5)]) dX1_faultOf_110 (by decide) rfl ?_
    refine ev_aload_n dX1_faultOf_112 3 rfl trivial ?_
    refine px_getI dX1_faultOf_113 gf_RX1_37 (at1 rfl) (by decide) rfl ?_
    refine ev_if_eq 143 dX1_faultOf_116 (by decide) (fun c4 => ?_) (fun c4 => ?_)
    · have h := am_t c4 h
      refine ev_aload_n dX1_faultOf_143 3 rfl trivial ?_
      refine ev_aload_n dX1_faultOf_144 4 rfl trivial ?_
      refine ev_iload_n dX1_faultOf_145 1 rfl ?_
      obtain ⟨g5, h⟩ := am_gd h
      refine px_iald (n := (il l1)) q1.2.toNatClampNeg dX1_faultOf_146 rfl g5 rfl ?_
      obtain ⟨q6, eq6, h⟩ := am_bd h
      refine px_callvi [.int (q3.1 l1 q1.2.toNatClampNeg)] (by decide) cl_1 (at1 rfl) dX1_faultOf_147 ok_X1_takesSign lk_RX1_62 in_X1_takesSign se_X1_takesSign (by decide) rfl (c_X1_takesSign eq6) rfl (Nat.le_of_ble_eq_true rfl) ?_
      refine ev_loc [3, 4, 5, 1, 0, 6] rfl ?_
      exact l_X1_faultOf_150 K42 hK42 q6.1 l1 l2 q1.2 q3.2 l5 q6.2 _ h
    · have h := am_e c4 h
      refine ev_iload dX1_faultOf_119 2 rfl ?_
      refine ev_if_ne 139 dX1_faultOf_121 (by decide) (fun c7 => ?_) (fun c7 => ?_)
      · have h := am_e c7 h
        refine ev_loc [3, 4, 5, 1, 0, 6] rfl ?_
        exact l_X1_faultOf_139 K42 hK42 q3.1 l1 l2 q1.2 q3.2 l5 _ h
      · have h := am_t c7 h
        refine ev_aload_n dX1_faultOf_124 3 rfl trivial ?_
        refine ev_aload_n dX1_faultOf_125 4 rfl trivial ?_
        refine ev_iload_n dX1_faultOf_126 1 rfl ?_
        refine ev_iload dX1_faultOf_127 0 rfl ?_
        obtain ⟨q8, eq8, h⟩ := am_bd h
        refine px_callvi [.ref l1, .int q1.2, .int q3.2] (by decide) cl_1 (at1 rfl) dX1_faultOf_129 ok_X1_takesPiece lk_RX1_58 in_X1_takesPiece se_X1_takesPiece (by decide) rfl (c_X1_takesPiece eq8) rfl (Nat.le_of_ble_eq_true rfl) ?_
        refine ev_if_eq 139 dX1_faultOf_132 (by decide) (fun c9 => ?_) (fun c9 => ?_)
        · have h := am_t c9 h
          refine ev_loc [3, 4, 5, 1, 0, 6] rfl ?_
          exact l_X1_faultOf_139 K42 hK42 q8.1 l1 l2 q1.2 q3.2 l5 _ h
        · have h := am_e c9 h
          refine ev_iconst (v := (1 : Int32)) dX1_faultOf_135 kI_1 ?_
          refine ev_goto 150 dX1_faultOf_136 (by decide) ?_
          refine ev_loc [3, 4, 5, 1, 0, 6] rfl ?_
          exact l_X1_faultOf_150 K42 hK42 q8.1 l1 l2 q1.2 q3.2 l5 (1 : Int32) _ h
  · have h := am_e c2 h
    refine ev_goto 165 dX1_faultOf_101 (by decide) ?_
    refine ev_loc [2, 4] rfl ?_
    exact l_X1_faultOf_165   q1.1 l2 _ h

theorem l_X1_faultOf_85 {X : Nat × (Nat → Int32)} (K42 : am_MU → Nat → Int32 → Int32 → Int32 → Option (am_MU × Int32)) (hK42 : ∀ (u : am_MU) (l1 : Nat) (l2 : Int32) (l4 : Int32) (l5 : Int32) (r : am_MU × Int32), K42 u l1 l2 l4 l5 = some r → am_Ev X M_X1_faultOf 42 [(0, .ref 41), (1, .ref l1), (2, .int l2), (4, .int l4), (5, .int l5)] [] (hp u) (hp r.1, some (.int r.2))) (u : am_MU) (l1 : Nat) (l2 : Int32) (l4 : Int32) (l5 : Int32) (r : am_MU × Int32) (h : g_X1_faultOf_85 K42 u l1 l2 l4 l5 = some r) : am_Ev X M_X1_faultOf 85 [(0, .ref 41), (1, .ref l1), (2, .int l2), (4, .int l4), (5, .int l5)] [] (hp u) (hp r.1, some (.int r.2)) := by
  unfold g_X1_faultOf_85 at h
  refine ev_iconst (v := (0 : Int32)) dX1_faultOf_85 kI_0 ?_
  refine ev_loc [0, 1, 2, 3, 4] rfl ?_
  exact l_X1_faultOf_86 K42 hK42 u l1 l2 l4 l5 (0 : Int32) _ h

theorem l_X1_faultOf_42 {X : Nat × (Nat → Int32)}   : ∀ (n : Nat) (u : am_MU) (l1 : Nat) (l2 : Int32) (l4 : Int32) (l5 : Int32) (r : am_MU × Int32), g_X1_faultOf_42  n u l1 l2 l4 l5 = some r → am_Ev X M_X1_faultOf 42 [(0, .ref 41), (1, .ref l1), (2, .int l2), (4, .int l4), (5, .int l5)] [] (hp u) (hp r.1, some (.int r.2)) := by
  intro n
  induction n with
  | zero => intro u l1 l2 l4 l5 r h; cases h
  | succ n ih =>
    intro u l1 l2 l4 l5 r h
    rw [g_X1_faultOf_42] at h
    refine ev_iload dX1_faultOf_42 4 rfl ?_
    refine ev_iload_n dX1_faultOf_44 2 rfl ?_
    refine ev_icmp_ge 165 dX1_faultOf_45 (by decide) (fun c1 => ?_) (fun c1 => ?_)
    · have h := am_t c1 h
      refine ev_loc [0, 2] rfl ?_
      exact l_X1_faultOf_165   u l2 _ h
    · have h := am_e c1 h
      refine ev_iload dX1_faultOf_48 3 rfl ?_
      refine ev_if_le 85 dX1_faultOf_50 (by decide) (fun c2 => ?_) (fun c2 => ?_)
      · have h := am_t c2 h
        refine ev_loc [0, 1, 2, 3, 4] rfl ?_
        exact l_X1_faultOf_85 (g_X1_faultOf_42 n) (fun u l1 l2 l4 l5 r h => ih u l1 l2 l4 l5 r h) u l1 l2 l4 l5 _ h
      · have h := am_e c2 h
        refine ev_iload dX1_faultOf_53 3 rfl ?_
        refine ev_iload_n dX1_faultOf_55 2 rfl ?_
        refine ev_icmp_ge 85 dX1_faultOf_56 (by decide) (fun c3 => ?_) (fun c3 => ?_)
        · have h := am_t c3 h
          refine ev_loc [0, 1, 2, 3, 4] rfl ?_
          exact l_X1_faultOf_85 (g_X1_faultOf_42 n) (fun u l1 l2 l4 l5 r h => ih u l1 l2 l4 l5 r h) u l1 l2 l4 l5 _ h
        · have h := am_e c3 h
          refine ev_aload_n dX1_faultOf_59 1 rfl trivial ?_
          refine ev_iload dX1_faultOf_60 3 rfl ?_
          refine ev_iconst (v := (1 : Int32)) dX1_faultOf_62 kI_1 ?_
          refine ev_isub dX1_faultOf_63 ?_
          obtain ⟨g4, h⟩ := am_gd h
          refine px_iald (n := (il l1)) ((l4 - (1 : Int32)).toNatClampNeg) dX1_faultOf_64 rfl g4 rfl ?_
          obtain ⟨q5, eq5, h⟩ := am_bd h
          refine px_callsi [.int (u l1 ((l4 - (1 : Int32)).toNatClampNeg))] dX1_faultOf_65 ok_X1_isInWord lk_RX1_54 st_X1_isInWord (by decide) rfl (c_X1_isInWord eq5) rfl (Nat.le_of_ble_eq_true rfl) ?_
          refine ev_if_eq 85 dX1_faultOf_68 (by decide) (fun c6 => ?_) (fun c6 => ?_)
          · have h := am_t c6 h
            refine ev_loc [0, 1, 2, 3, 4] rfl ?_
            exact l_X1_faultOf_85 (g_X1_faultOf_42 n) (fun u l1 l2 l4 l5 r h => ih u l1 l2 l4 l5 r h) q5.1 l1 l2 l4 l5 _ h
          · have h := am_e c6 h
            refine ev_aload_n dX1_faultOf_71 1 rfl trivial ?_
            refine ev_iload dX1_faultOf_72 3 rfl ?_
            obtain ⟨g7, h⟩ := am_gd h
            refine px_iald (n := (il l1)) l4.toNatClampNeg dX1_faultOf_74 rfl g7 rfl ?_
            obtain ⟨q8, eq8, h⟩ := am_bd h
            refine px_callsi [.int (q5.1 l1 l4.toNatClampNeg)] dX1_faultOf_75 ok_X1_isInWord lk_RX1_54 st_X1_isInWord (by decide) rfl (c_X1_isInWord eq8) rfl (Nat.le_of_ble_eq_true rfl) ?_
            refine ev_if_eq 85 dX1_faultOf_78 (by decide) (fun c9 => ?_) (fun c9 => ?_)
            · have h := am_t c9 h
              refine ev_loc [0, 1, 2, 3, 4] rfl ?_
              exact l_X1_faultOf_85 (g_X1_faultOf_42 n) (fun u l1 l2 l4 l5 r h => ih u l1 l2 l4 l5 r h) q8.1 l1 l2 l4 l5 _ h
            · have h := am_e c9 h
              refine ev_iconst (v := (1 : Int32)) dX1_faultOf_81 kI_1 ?_
              refine ev_goto 86 dX1_faultOf_82 (by decide) ?_
              refine ev_loc [0, 1, 2, 3, 4] rfl ?_
              exact l_X1_faultOf_86 (g_X1_faultOf_42 n) (fun u l1 l2 l4 l5 r h => ih u l1 l2 l4 l5 r h) q8.1 l1 l2 l4 l5 (1 : Int32) _ h

theorem l_X1_faultOf_0 {X : Nat × (Nat → Int32)}   (u : am_MU) (l1 : Nat) (l2 : Int32) (r : am_MU × Int32) (h : f_X1_faultOf  u l1 l2 = some r) : am_Ev X M_X1_faultOf 0 [(0, .ref 41), (1, .ref l1), (2, .int l2)] [] (hp u) (hp r.1, some (.int r.2)) := by
  unfold f_X1_faultOf at h
  refine ev_aload_n dX1_faultOf_0 0 rfl trivial ?_
  obtain ⟨q1, eq1, h⟩ := am_bd h
  refine px_callvv [] (by decide) cl_1 (at1 rfl) dX1_faultOf_1 ok_X1_begin lk_RX1_41 in_X1_begin se_X1_begin (by decide) rfl (c_X1_begin eq1) rfl (Nat.le_of_ble_eq_true rfl) ?_
  refine ev_aload_n dX1_faultOf_4 1 rfl trivial ?_
  refine ev_iconst (v := (0 : Int32)) dX1_faultOf_5 kI_0 ?_
  refine ev_iload_n dX1_faultOf_6 2 rfl ?_
  obtain ⟨q2, eq2, h⟩ := am_bd h
  refine px_callsi [.ref l1, .int (0 : Int32), .int l2] dX1_faultOf_7 ok_X1_pastBlanks lk_RX1_44 st_X1_pastBlanks (by decide) rfl (c_X1_pastBlanks eq2) rfl (Nat.le_of_ble_eq_true rfl) ?_
  refine ev_istore_n (L' := [(3, .int q2.2), (0, .ref 41), (1, .ref l1), (2, .int l2)]) dX1_faultOf_10 (by decide) rfl ?_
  refine ev_aload_n dX1_faultOf_11 2 rfl trivial ?_
  refine ev_iload_n dX1_faultOf_12 0 rfl ?_
  refine ev_iload_n dX1_faultOf_13 3 rfl ?_
  obtain ⟨q3, eq3, h⟩ := am_bd h
  refine px_callsi [.ref l1, .int q2.2, .int l2] dX1_faultOf_14 ok_X1_endOfWord lk_RX1_48 st_X1_endOfWord (by decide) rfl (c_X1_endOfWord eq3) rfl (Nat.le_of_ble_eq_true rfl) ?_
  refine ev_istore (L' := [(4, .int q3.2), (3, .int q2.2), (0, .ref 41), (1, .ref l1), (2, .int l2)]) dX1_faultOf_17 (by decide) rfl ?_
  refine ev_aload_n dX1_faultOf_19 2 rfl trivial ?_
  refine ev_aload_n dX1_faultOf_20 3 rfl trivial ?_
  refine ev_iload_n dX1_faultOf_21 1 rfl ?_
  refine ev_iload dX1_faultOf_22 0 rfl ?_
  obtain ⟨q4, eq4, h⟩ := am_bd h
  refine px_callsi [.ref l1, .int q2.2, .int q3.2] dX1_faultOf_24 ok_X1_keyOf lk_RX1_51 st_X1_keyOf (by decide) rfl (c_X1_keyOf eq4) rfl (Nat.le_of_ble_eq_true rfl) ?_
  obtain ⟨u5, eu5, h⟩ := am_lt h
  refine px_putI dX1_faultOf_27 pf_RX1_9 (at1 rfl) (by decide) rfl eu5 ?_
  refine ev_aload_n dX1_faultOf_30 2 rfl trivial ?_
  refine px_getI dX1_faultOf_31 gf_RX1_9 (at1 rfl) (by decide) rfl ?_
  refine ev_if_ge 39 dX1_faultOf_34 (by decide) (fun c6 => ?_) (fun c6 => ?_)
  · have h := am_t c6 h
    refine ev_iconst (v := (0 : Int32)) dX1_faultOf_39 kI_0 ?_
    refine ev_istore (L' := [(5, .int (0 : Int32)), (4, .int q3.2), (3, .int q2.2), (0, .ref 41), (1, .ref l1), (2, .int l2)]) dX1_faultOf_40 (by decide) rfl ?_
    refine ev_loc [3, 4, 5, 1, 0] rfl ?_
    exact l_X1_faultOf_42   1700 u5 l1 l2 q3.2 (0 : Int32) _ h
  · have h := am_e c6 h
    refine ev_iload_n dX1_faultOf_37 1 rfl ?_
    obtain rfl := Option.some.inj h
    exact ev_iret dX1_faultOf_38 rfl rfl

theorem c_X1_faultOf {X : Nat × (Nat → Int32)} {u : am_MU} {l1 : Nat} {l2 : Int32} {r : am_MU × Int32} (h : f_X1_faultOf u l1 l2 = some r) : am_Cn X M_X1_faultOf [.ref 41, .ref l1, .int l2] (hp u) (hp r.1, some (.int r.2)) := by
  refine am_Cn.of ok_X1_faultOf (Nat.le_refl _) (Nat.le_refl _) (Nat.le_of_ble_eq_true rfl) ?_
  refine ev_loc [0, 1, 2] rfl ?_
  exact l_X1_faultOf_0 u l1 l2 r h

-- SandRipples$Text.take(LSandRipples$Reader;)V
def f_X4_take  (u : am_MU) (l0 : Nat) (l1 : Nat) : Option (am_MU) :=
if tg l1 = 1 then (
if tg l0 = 4 then (
am_let (am_u2 u l0 0 (u l1 0)) fun u3 =>
am_let (am_u2 u3 l0 1 (u3 l1 1)) fun u4 =>
am_let (am_u2 u4 l0 2 (u4 l1 2)) fun u5 =>
if am_cpok (l1 + 1) (l0 + 1) (0 : Int32) (0 : Int32) (96 : Int32) then (
am_let (am_ur u5 (l0 + 1) (va_cpy (u5 (l1 + 1)) (u5 (l0 + 1)) (0 : Int32).toNatClampNeg (0 : Int32).toNatClampNeg (96 : Int32).toNatClampNeg)) fun u7 =>
some u7) else none) else none) else none

theorem l_X4_take_0 {X : Nat × (Nat → Int32)}   (u : am_MU) (l0 : Nat) (l1 : Nat) (r : am_MU) (h : f_X4_take  u l0 l1 = some r) : am_Ev X M_X4_take 0 [(0, .ref l0), (1, .ref l1)] [] (hp u) (hp r, none) := by
  unfold f_X4_take at h
  refine ev_aload_n dX4_take_0 0 rfl trivial ?_
  refine ev_aload_n dX4_take_1 1 rfl trivial ?_
  obtain ⟨g1, h⟩ := am_gd h
  refine px_getI dX4_take_2 gf_RX4_25 (at1 g1) (by decide) rfl ?_
  obtain ⟨g2, h⟩ := am_gd h
  obtain ⟨u3, eu3, h⟩ := am_lt h
  refine px_putI dX4_take_5 pf_RX4_9 (at4 g2) (by decide) rfl eu3 ?_
  refine ev_aload_n dX4_take_8 0 rfl trivial ?_
  refine ev_aload_n dX4_take_9 1 rfl trivial ?_
  refine px_getI dX4_take_10 gf_RX4_28 (at1 g1) (by decide) rfl ?_
  obtain ⟨u4, eu4, h⟩ := am_lt h
  refine px_putI dX4_take_13 pf_RX4_15 (at4 g2) (by decide) rfl eu4 ?_
  refine ev_aload_n dX4_take_16 0 rfl trivial ?_
  refine ev_aload_n dX4_take_17 1 rfl trivial ?_
  refine px_getI dX4_take_18 gf_RX4_29 (at1 g1) (by decide) rfl ?_
  obtain ⟨u5, eu5, h⟩ := am_lt h
  refine px_putI dX4_take_21 pf_RX4_18 (at4 g2) (by decide) rfl eu5 ?_
  refine ev_aload_n dX4_take_24 1 rfl trivial ?_
  refine px_getR dX4_take_25 gf_RX4_30 (at1 g1) (by decide) rfl ?_
  refine ev_iconst (v := (0 : Int32)) dX4_take_28 kI_0 ?_
  refine ev_aload_n dX4_take_29 0 rfl trivial ?_
  refine px_getR dX4_take_30 gf_RX4_21 (at4 g2) (by decide) rfl ?_
  refine ev_iconst (v := (0 : Int32)) dX4_take_33 kI_0 ?_
  refine ev_bipush (v := (96 : Int32)) dX4_take_34 kB_96 ?_
  obtain ⟨g6, h⟩ := am_gd h
  obtain ⟨u7, eu7, h⟩ := am_lt h
  refine px_acopy dX4_take_36 tw_715 w_nat w_sta w_ini (by decide) (Nat.le_of_ble_eq_true rfl) g6 eu7 ?_
  obtain rfl := Option.some.inj h
  exact ev_vret dX4_take_39 rfl

theorem c_X4_take {X : Nat × (Nat → Int32)} {u : am_MU} {l0 : Nat} {l1 : Nat} {r : am_MU} (h : f_X4_take u l0 l1 = some r) : am_Cn X M_X4_take [.ref l0, .ref l1] (hp u) (hp r, none) := by
  refine am_Cn.of ok_X4_take (Nat.le_refl _) (Nat.le_refl _) (Nat.le_of_ble_eq_true rfl) ?_
  refine ev_loc [0, 1] rfl ?_
  exact l_X4_take_0 u l0 l1 r h

-- SandRipples.text()I
def f_X6_text  (u : am_MU)  : Option (am_MU × Int32) :=
am_let (u 0 9) fun x1 =>
am_let (am_u2 u 0 9 (0 : Int32)) fun u2 =>
(f_X1_faultOf u2 45 x1).bind fun q3 =>
if q3.2 < 0 then (if (q3.1 1 4) < (14 : Int32) then (am_let (q3.1 1 4) fun x6 =>
if am_in x6 14 then (
if tg (49 + 2 * x6.toNatClampNeg) = 4 then (
(f_X4_take q3.1 (49 + 2 * x6.toNatClampNeg) 41).bind fun q8 =>
if am_in (q8 (49 + 2 * x6.toNatClampNeg) 0) 3 then (
am_let (am_u2 q8 3 ((q8 (49 + 2 * x6.toNatClampNeg) 0).toNatClampNeg) x6) fun u11 =>
am_let (am_u2 u11 1 4 ((u11 1 4) + (1 : Int32))) fun u12 =>
some (u12, x6)) else none) else none) else none)
else (some (q3.1, ((-1000000003) : Int32))))
else (some (q3.1, ((-100) : Int32) - q3.2))

theorem l_X6_text_0 {X : Nat × (Nat → Int32)}   (u : am_MU)  (r : am_MU × Int32) (h : f_X6_text  u  = some r) : am_Ev X M_X6_text 0 [(0, .ref 0)] [] (hp u) (hp r.1, some (.int r.2)) := by
  unfold f_X6_text at h
  refine ev_aload_n dX6_text_0 0 rfl trivial ?_
  refine px_getI dX6_text_1 gf_RX6_51 (at6 rfl) (by decide) rfl ?_
  obtain ⟨x1, ex1, h⟩ := am_lt h
  refine px_top ex1 ?_
  refine ev_istore_n (L' := [(1, .int x1), (0, .ref 0)]) dX6_text_4 (by decide) rfl ?_
  refine ev_aload_n dX6_text_5 1 rfl trivial ?_
  refine ev_iconst (v := (0 : Int32)) dX6_text_6 kI_0 ?_
  obtain ⟨u2, eu2, h⟩ := am_lt h
  refine px_putI dX6_text_7 pf_RX6_51 (at6 rfl) (by decide) rfl eu2 ?_
  refine ev_aload_n dX6_text_10 1 rfl trivial ?_
  refine px_getR dX6_text_11 gf_RX6_41 (at6 rfl) (by decide) rfl ?_
  refine ev_aload_n dX6_text_14 1 rfl trivial ?_
  refine px_getR dX6_text_15 gf_RX6_48 (at6 rfl) (by decide) rfl ?_
  refine ev_iload_n dX6_text_18 0 rfl ?_
  obtain ⟨q3, eq3, h⟩ := am_bd h
  refine px_callvi [.ref 45, .int x1] (by decide) cl_1 (at1 rfl) dX6_text_19 ok_X1_faultOf lk_RX6_217 in_X1_faultOf se_X1_faultOf (by decide) rfl (c_X1_faultOf eq3) rfl (Nat.le_of_ble_eq_true rfl) ?_
  refine ev_istore_n (L' := [(2, .int q3.2), (1, .int x1), (0, .ref 0)]) dX6_text_22 (by decide) rfl ?_
  refine ev_iload_n dX6_text_23 0 rfl ?_
  refine ev_if_lt 32 dX6_text_24 (by decide) (fun c4 => ?_) (fun c4 => ?_)
  · have h := am_t c4 h
    refine ev_aload_n dX6_text_32 2 rfl trivial ?_
    refine px_getR dX6_text_33 gf_RX6_14 (at6 rfl) (by decide) rfl ?_
    refine px_getI dX6_text_36 gf_RX6_221 (at5 rfl) (by decide) rfl ?_
    refine ev_bipush (v := (14 : Int32)) dX6_text_39 kB_14 ?_
    refine ev_icmp_lt 47 dX6_text_41 (by decide) (fun c5 => ?_) (fun c5 => ?_)
    · have h := am_t c5 h
      refine ev_aload_n dX6_text_47 2 rfl trivial ?_
      refine px_getR dX6_text_48 gf_RX6_14 (at6 rfl) (by decide) rfl ?_
      refine px_getI dX6_text_51 gf_RX6_221 (at5 rfl) (by decide) rfl ?_
      obtain ⟨x6, ex6, h⟩ := am_lt h
      refine px_top ex6 ?_
      refine ev_istore_n (L' := [(3, .int x6), (2, .int q3.2), (1, .int x1), (0, .ref 0)]) dX6_text_54 (by decide) rfl ?_
      refine ev_aload_n dX6_text_55 3 rfl trivial ?_
      refine px_getR dX6_text_56 gf_RX6_34 (at6 rfl) (by decide) rfl ?_
      refine ev_iload_n dX6_text_59 0 rfl ?_
      obtain ⟨g7, h⟩ := am_gd h
      refine px_aald4 (n := 14) dX6_text_60 rfl rfl g7 ?_
      refine ev_aload_n dX6_text_61 3 rfl trivial ?_
      refine px_getR dX6_text_62 gf_RX6_41 (at6 rfl) (by decide) rfl ?_
      obtain ⟨g9, h⟩ := am_gd h
      obtain ⟨q8, eq8, h⟩ := am_bd h
      refine px_callvv [.ref 41] (by decide) cl_4 (at4 g9) dX6_text_65 ok_X4_take lk_RX6_224 in_X4_take se_X4_take (by decide) rfl (c_X4_take eq8) rfl (Nat.le_of_ble_eq_true rfl) ?_
      refine ev_aload_n dX6_text_68 3 rfl trivial ?_
      refine px_getR dX6_text_69 gf_RX6_14 (at6 rfl) (by decide) rfl ?_
      refine px_getR dX6_text_72 gf_RX6_228 (at5 rfl) (by decide) rfl ?_
      refine ev_aload_n dX6_text_75 3 rfl trivial ?_
      refine px_getR dX6_text_76 gf_RX6_34 (at6 rfl) (by decide) rfl ?_
      refine ev_iload_n dX6_text_79 0 rfl ?_
      refine px_aald4 (n := 14) dX6_text_80 rfl rfl g7 ?_
      refine px_getI dX6_text_81 gf_RX6_231 (at4 g9) (by decide) rfl ?_
      refine ev_iload_n dX6_text_84 0 rfl ?_
      obtain ⟨g10, h⟩ := am_gd h
      obtain ⟨u11, eu11, h⟩ := am_lt h
      refine px_iast (n := 3) ((q8 (49 + 2 * x6.toNatClampNeg) 0).toNatClampNeg) dX6_text_85 rfl g10 rfl eu11 ?_
      refine ev_aload_n dX6_text_86 3 rfl trivial ?_
      refine px_getR dX6_text_87 gf_RX6_14 (at6 rfl) (by decide) rfl ?_
      refine ev_dup dX6_text_90 rfl ?_
      refine px_getI dX6_text_91 gf_RX6_221 (at5 rfl) (by decide) rfl ?_
      refine ev_iconst (v := (1 : Int32)) dX6_text_94 kI_1 ?_
      refine ev_iadd dX6_text_95 ?_
      obtain ⟨u12, eu12, h⟩ := am_lt h
      refine px_putI dX6_text_96 pf_RX6_221 (at5 rfl) (by decide) rfl eu12 ?_
      refine ev_iload_n dX6_text_99 0 rfl ?_
      obtain rfl := Option.some.inj h
      exact ev_iret dX6_text_100 rfl rfl
    · have h := am_e c5 h
      refine ev_ldc (v := ((-1000000003) : Int32)) dX6_text_44 tw_240 ?_
      obtain rfl := Option.some.inj h
      exact ev_iret dX6_text_46 rfl rfl
  · have h := am_e c4 h
    refine ev_bipush (v := ((-100) : Int32)) dX6_text_27 kB_m100 ?_
    refine ev_iload_n dX6_text_29 0 rfl ?_
    refine ev_isub dX6_text_30 ?_
    obtain rfl := Option.some.inj h
    exact ev_iret dX6_text_31 rfl rfl

theorem c_X6_text {X : Nat × (Nat → Int32)} {u : am_MU}  {r : am_MU × Int32} (h : f_X6_text u  = some r) : am_Cn X M_X6_text [.ref 0] (hp u) (hp r.1, some (.int r.2)) := by
  refine am_Cn.of ok_X6_text (Nat.le_refl _) (Nat.le_refl _) (Nat.le_of_ble_eq_true rfl) ?_
  refine ev_loc [0] rfl ?_
  exact l_X6_text_0 u  r h

-- SandRipples.textTold(II)I
def f_X6_textTold  (u : am_MU) (l1 : Int32) (l2 : Int32) : Option (am_MU × Int32) :=
if l1 < 0 then (some (u, ((-1000000001) : Int32)))
else (if (u 1 4) ≤ l1 then (some (u, ((-1000000001) : Int32)))
else (if l2 < 0 then (some (u, ((-1000000001) : Int32)))
else (if l2 ≤ (1 : Int32) then (if l2 = 0 then (if am_in l1 14 then (
if tg (49 + 2 * l1.toNatClampNeg) = 4 then (
some (u, u (49 + 2 * l1.toNatClampNeg) 0)) else none) else none)
else (if am_in l1 14 then (
if tg (49 + 2 * l1.toNatClampNeg) = 4 then (
some (u, u (49 + 2 * l1.toNatClampNeg) 1)) else none) else none))
else (some (u, ((-1000000001) : Int32))))))

theorem l_X6_textTold_0 {X : Nat × (Nat → Int32)}   (u : am_MU) (l1 : Int32) (l2 : Int32) (r : am_MU × Int32) (h : f_X6_textTold  u l1 l2 = some r) : am_Ev X M_X6_textTold 0 [(0, .ref 0), (1, .int l1), (2, .int l2)] [] (hp u) (hp r.1, some (.int r.2)) := by
  unfold f_X6_textTold at h
  refine ev_iload_n dX6_textTold_0 1 rfl ?_
  refine ev_if_lt 24 dX6_textTold_1 (by decide) (fun c1 => ?_) (fun c1 => ?_)
  · have h := am_t c1 h
    refine ev_ldc (v := ((-1000000001) : Int32)) dX6_textTold_24 tw_239 ?_
    obtain rfl := Option.some.inj h
    exact ev_iret dX6_textTold_26 rfl rfl
  · have h := am_e c1 h
    refine ev_iload_n dX6_textTold_4 1 rfl ?_
    refine ev_aload_n dX6_textTold_5 0 rfl trivial ?_
    refine px_getR dX6_textTold_6 gf_RX6_14 (at6 rfl) (by decide) rfl ?_
    refine px_getI dX6_textTold_9 gf_RX6_221 (at5 rfl) (by decide) rfl ?_
    refine ev_icmp_ge 24 dX6_textTold_12 (by decide) (fun c2 => ?_) (fun c2 => ?_)
    · have h := am_t c2 h
      refine ev_ldc (v := ((-1000000001) : Int32)) dX6_textTold_24 tw_239 ?_
      obtain rfl := Option.some.inj h
      exact ev_iret dX6_textTold_26 rfl rfl
    · have h := am_e c2 h
      refine ev_iload_n dX6_textTold_15 2 rfl ?_
      refine ev_if_lt 24 dX6_textTold_16 (by decide) (fun c3 => ?_) (fun c3 => ?_)
      · have h := am_t c3 h
        refine ev_ldc (v := ((-1000000001) : Int32)) dX6_textTold_24 tw_239 ?_
        obtain rfl := Option.some.inj h
        exact ev_iret dX6_textTold_26 rfl rfl
      · have h := am_e c3 h
        refine ev_iload_n dX6_textTold_19 2 rfl ?_
        refine ev_iconst (v := (1 : Int32)) dX6_textTold_20 kI_1 ?_
        refine ev_icmp_le 27 dX6_textTold_21 (by decide) (fun c4 => ?_) (fun c4 => ?_)
        · have h := am_t c4 h
          refine ev_iload_n dX6_textTold_27 2 rfl ?_
          refine ev_if_ne 43 dX6_textTold_28 (by decide) (fun c5 => ?_) (fun c5 => ?_)
          · have h := am_e c5 h
            refine ev_aload_n dX6_textTold_43 0 rfl trivial ?_
            refine px_getR dX6_textTold_44 gf_RX6_34 (at6 rfl) (by decide) rfl ?_
            refine ev_iload_n dX6_textTold_47 1 rfl ?_
            obtain ⟨g6, h⟩ := am_gd h
            refine px_aald4 (n := 14) dX6_textTold_48 rfl rfl g6 ?_
            obtain ⟨g7, h⟩ := am_gd h
            refine px_getI dX6_textTold_49 gf_RX6_234 (at4 g7) (by decide) rfl ?_
            obtain rfl := Option.some.inj h
            exact ev_iret dX6_textTold_52 rfl rfl
          · have h := am_t c5 h
            refine ev_aload_n dX6_textTold_31 0 rfl trivial ?_
            refine px_getR dX6_textTold_32 gf_RX6_34 (at6 rfl) (by decide) rfl ?_
            refine ev_iload_n dX6_textTold_35 1 rfl ?_
            obtain ⟨g8, h⟩ := am_gd h
            refine px_aald4 (n := 14) dX6_textTold_36 rfl rfl g8 ?_
            obtain ⟨g9, h⟩ := am_gd h
            refine px_getI dX6_textTold_37 gf_RX6_231 (at4 g9) (by decide) rfl ?_
            refine ev_goto 52 dX6_textTold_40 (by decide) ?_
            obtain rfl := Option.some.inj h
            exact ev_iret dX6_textTold_52 rfl rfl
        · have h := am_e c4 h
          refine ev_ldc (v := ((-1000000001) : Int32)) dX6_textTold_24 tw_239 ?_
          obtain rfl := Option.some.inj h
          exact ev_iret dX6_textTold_26 rfl rfl

theorem c_X6_textTold {X : Nat × (Nat → Int32)} {u : am_MU} {l1 : Int32} {l2 : Int32} {r : am_MU × Int32} (h : f_X6_textTold u l1 l2 = some r) : am_Cn X M_X6_textTold [.ref 0, .int l1, .int l2] (hp u) (hp r.1, some (.int r.2)) := by
  refine am_Cn.of ok_X6_textTold (Nat.le_refl _) (Nat.le_refl _) (Nat.le_of_ble_eq_true rfl) ?_
  refine ev_loc [0, 1, 2] rfl ?_
  exact l_X6_textTold_0 u l1 l2 r h

-- SandRipples.why(I)I
def f_X6_why  (u : am_MU) (l1 : Int32) : Option (am_MU × Int32) :=
if l1 < 0 then (some (u, ((-1000000001) : Int32)))
else (if l1 ≤ (2 : Int32) then (if am_in l1 3 then (
some (u, u 3 l1.toNatClampNeg)) else none)
else (some (u, ((-1000000001) : Int32))))

theorem l_X6_why_0 {X : Nat × (Nat → Int32)}   (u : am_MU) (l1 : Int32) (r : am_MU × Int32) (h : f_X6_why  u l1 = some r) : am_Ev X M_X6_why 0 [(0, .ref 0), (1, .int l1)] [] (hp u) (hp r.1, some (.int r.2)) := by
  unfold f_X6_why at h
  refine ev_iload_n dX6_why_0 1 rfl ?_
  refine ev_if_lt 9 dX6_why_1 (by decide) (fun c1 => ?_) (fun c1 => ?_)
  · have h := am_t c1 h
    refine ev_ldc (v := ((-1000000001) : Int32)) dX6_why_9 tw_239 ?_
    obtain rfl := Option.some.inj h
    exact ev_iret dX6_why_11 rfl rfl
  · have h := am_e c1 h
    refine ev_iload_n dX6_why_4 1 rfl ?_
    refine ev_iconst (v := (2 : Int32)) dX6_why_5 kI_2 ?_
    refine ev_icmp_le 12 dX6_why_6 (by decide) (fun c2 => ?_) (fun c2 => ?_)
    · have h := am_t c2 h
      refine ev_aload_n dX6_why_12 0 rfl trivial ?_
      refine px_getR dX6_why_13 gf_RX6_14 (at6 rfl) (by decide) rfl ?_
      refine px_getR dX6_why_16 gf_RX6_228 (at5 rfl) (by decide) rfl ?_
      refine ev_iload_n dX6_why_19 1 rfl ?_
      obtain ⟨g3, h⟩ := am_gd h
      refine px_iald (n := 3) l1.toNatClampNeg dX6_why_20 rfl g3 rfl ?_
      obtain rfl := Option.some.inj h
      exact ev_iret dX6_why_21 rfl rfl
    · have h := am_e c2 h
      refine ev_ldc (v := ((-1000000001) : Int32)) dX6_why_9 tw_239 ?_
      obtain rfl := Option.some.inj h
      exact ev_iret dX6_why_11 rfl rfl

theorem c_X6_why {X : Nat × (Nat → Int32)} {u : am_MU} {l1 : Int32} {r : am_MU × Int32} (h : f_X6_why u l1 = some r) : am_Cn X M_X6_why [.ref 0, .int l1] (hp u) (hp r.1, some (.int r.2)) := by
  refine am_Cn.of ok_X6_why (Nat.le_refl _) (Nat.le_refl _) (Nat.le_of_ble_eq_true rfl) ?_
  refine ev_loc [0, 1] rfl ?_
  exact l_X6_why_0 u l1 r h

-- SandRipples$Sheet.begin(II)V
def g_X2_begin_12  : Nat → am_MU → Nat → Int32 → Option (am_MU)
  | 0 => fun _ _ _ => none
  | n + 1 => fun u l0 l3 =>
if (24 : Int32) ≤ l3 then (some u)
else (if tg l0 = 2 then (
if am_in l3 24 then (
am_let (am_u2 u (l0 + 1) l3.toNatClampNeg (0 : Int32)) fun u4 =>
am_let (l3 + (1 : Int32)) fun x5 =>
g_X2_begin_12 n u4 l0 x5) else none) else none)

def f_X2_begin  (u : am_MU) (l0 : Nat) (l1 : Int32) (l2 : Int32) : Option (am_MU) :=
if tg l0 = 2 then (
am_let (am_u2 u l0 0 l1) fun u2 =>
am_let (am_u2 u2 l0 1 l2) fun u3 =>
g_X2_begin_12 1700 u3 l0 (0 : Int32)) else none

theorem l_X2_begin_12 {X : Nat × (Nat → Int32)}   : ∀ (n : Nat) (u : am_MU) (l0 : Nat) (l3 : Int32) (r : am_MU), g_X2_begin_12  n u l0 l3 = some r → am_Ev X M_X2_begin 12 [(0, .ref l0), (3, .int l3)] [] (hp u) (hp r, none) := by
  intro n
  induction n with
  | zero => intro u l0 l3 r h; cases h
  | succ n ih =>
    intro u l0 l3 r h
    rw [g_X2_begin_12] at h
    refine ev_iload_n dX2_begin_12 1 rfl ?_
    refine ev_bipush (v := (24 : Int32)) dX2_begin_13 kB_24 ?_
    refine ev_icmp_ge 31 dX2_begin_15 (by decide) (fun c1 => ?_) (fun c1 => ?_)
    · have h := am_t c1 h
      obtain rfl := Option.some.inj h
      exact ev_vret dX2_begin_31 rfl
    · have h := am_e c1 h
      refine ev_aload_n dX2_begin_18 0 rfl trivial ?_
      obtain ⟨g2, h⟩ := am_gd h
      refine px_getR dX2_begin_19 gf_RX2_18 (at2 g2) (by decide) rfl ?_
      refine ev_iload_n dX2_begin_22 1 rfl ?_
      refine ev_iconst (v := (0 : Int32)) dX2_begin_23 kI_0 ?_
      obtain ⟨g3, h⟩ := am_gd h
      obtain ⟨u4, eu4, h⟩ := am_lt h
      refine px_iast (n := 24) l3.toNatClampNeg dX2_begin_24 (il2 g2) g3 rfl eu4 ?_
      obtain ⟨x5, ex5, h⟩ := am_lt h
      refine ev_iinc (v := x5) (L' := [(3, .int x5), (0, .ref l0)]) dX2_begin_25 1 rfl (by rw [kI_1, ex5]) (by decide) rfl ?_
      refine ev_goto 12 dX2_begin_28 (by decide) ?_
      refine ev_loc [1, 0] rfl ?_
      exact ih u4 l0 x5 _ h

theorem l_X2_begin_0 {X : Nat × (Nat → Int32)}   (u : am_MU) (l0 : Nat) (l1 : Int32) (l2 : Int32) (r : am_MU) (h : f_X2_begin  u l0 l1 l2 = some r) : am_Ev X M_X2_begin 0 [(0, .ref l0), (1, .int l1), (2, .int l2)] [] (hp u) (hp r, none) := by
  unfold f_X2_begin at h
  refine ev_aload_n dX2_begin_0 0 rfl trivial ?_
  refine ev_iload_n dX2_begin_1 1 rfl ?_
  obtain ⟨g1, h⟩ := am_gd h
  obtain ⟨u2, eu2, h⟩ := am_lt h
  refine px_putI dX2_begin_2 pf_RX2_9 (at2 g1) (by decide) rfl eu2 ?_
  refine ev_aload_n dX2_begin_5 0 rfl trivial ?_
  refine ev_iload_n dX2_begin_6 2 rfl ?_
  obtain ⟨u3, eu3, h⟩ := am_lt h
  refine px_putI dX2_begin_7 pf_RX2_15 (at2 g1) (by decide) rfl eu3 ?_
  refine ev_iconst (v := (0 : Int32)) dX2_begin_10 kI_0 ?_
  refine ev_istore_n (L' := [(3, .int (0 : Int32)), (0, .ref l0), (1, .int l1), (2, .int l2)]) dX2_begin_11 (by decide) rfl ?_
  refine ev_loc [1, 0] rfl ?_
  exact l_X2_begin_12   1700 u3 l0 (0 : Int32) _ h

theorem c_X2_begin {X : Nat × (Nat → Int32)} {u : am_MU} {l0 : Nat} {l1 : Int32} {l2 : Int32} {r : am_MU} (h : f_X2_begin u l0 l1 l2 = some r) : am_Cn X M_X2_begin [.ref l0, .int l1, .int l2] (hp u) (hp r, none) := by
  refine am_Cn.of ok_X2_begin (Nat.le_refl _) (Nat.le_refl _) (Nat.le_of_ble_eq_true rfl) ?_
  refine ev_loc [0, 1, 2] rfl ?_
  exact l_X2_begin_0 u l0 l1 l2 r h

-- SandRipples.sheet(III)I
def f_X6_sheet  (u : am_MU) (l1 : Int32) (l2 : Int32) (l3 : Int32) : Option (am_MU × Int32) :=
(f_X6_isSheet u l1).bind fun q1 =>
if q1.2 = 0 then (some (q1.1, ((-1000000001) : Int32)))
else (if l2 < ((-1) : Int32) then (some (q1.1, ((-1000000001) : Int32)))
else (if l2 ≤ (1 : Int32) then (if l2 = ((-1) : Int32) then (if am_in l1 4 then (
if tg (77 + 2 * l1.toNatClampNeg) = 2 then (
(f_X2_begin q1.1 (77 + 2 * l1.toNatClampNeg) ((-1) : Int32) (0 : Int32)).bind fun q12 =>
some (q12, (0 : Int32))) else none) else none)
else (if l3 ≤ (24 : Int32) then (if 0 ≤ l3 then (if am_in l1 4 then (
if tg (77 + 2 * l1.toNatClampNeg) = 2 then (
(f_X2_begin q1.1 (77 + 2 * l1.toNatClampNeg) l2 l3).bind fun q9 =>
some (q9, l3)) else none) else none)
else (some (q1.1, ((-1000000014) : Int32))))
else (some (q1.1, ((-1000000001) : Int32)))))
else (some (q1.1, ((-1000000001) : Int32)))))

theorem l_X6_sheet_0 {X : Nat × (Nat → Int32)}   (u : am_MU) (l1 : Int32) (l2 : Int32) (l3 : Int32) (r : am_MU × Int32) (h : f_X6_sheet  u l1 l2 l3 = some r) : am_Ev X M_X6_sheet 0 [(0, .ref 0), (1, .int l1), (2, .int l2), (3, .int l3)] [] (hp u) (hp r.1, some (.int r.2)) := by
  unfold f_X6_sheet at h
  refine ev_iload_n dX6_sheet_0 1 rfl ?_
  obtain ⟨q1, eq1, h⟩ := am_bd h
  refine px_callsi [.int l1] dX6_sheet_1 ok_X6_isSheet lk_RX6_196 st_X6_isSheet (by decide) rfl (c_X6_isSheet eq1) rfl (Nat.le_of_ble_eq_true rfl) ?_
  refine ev_if_eq 17 dX6_sheet_4 (by decide) (fun c2 => ?_) (fun c2 => ?_)
  · have h := am_t c2 h
    refine ev_ldc (v := ((-1000000001) : Int32)) dX6_sheet_17 tw_239 ?_
    obtain rfl := Option.some.inj h
    exact ev_iret dX6_sheet_19 rfl rfl
  · have h := am_e c2 h
    refine ev_iload_n dX6_sheet_7 2 rfl ?_
    refine ev_iconst (v := ((-1) : Int32)) dX6_sheet_8 kI_m1 ?_
    refine ev_icmp_lt 17 dX6_sheet_9 (by decide) (fun c3 => ?_) (fun c3 => ?_)
    · have h := am_t c3 h
      refine ev_ldc (v := ((-1000000001) : Int32)) dX6_sheet_17 tw_239 ?_
      obtain rfl := Option.some.inj h
      exact ev_iret dX6_sheet_19 rfl rfl
    · have h := am_e c3 h
      refine ev_iload_n dX6_sheet_12 2 rfl ?_
      refine ev_iconst (v := (1 : Int32)) dX6_sheet_13 kI_1 ?_
      refine ev_icmp_le 20 dX6_sheet_14 (by decide) (fun c4 => ?_) (fun c4 => ?_)
      · have h := am_t c4 h
        refine ev_iload_n dX6_sheet_20 2 rfl ?_
        refine ev_iconst (v := ((-1) : Int32)) dX6_sheet_21 kI_m1 ?_
        refine ev_icmp_ne 38 dX6_sheet_22 (by decide) (fun c5 => ?_) (fun c5 => ?_)
        · have h := am_e c5 h
          refine ev_iload_n dX6_sheet_38 3 rfl ?_
          refine ev_bipush (v := (24 : Int32)) dX6_sheet_39 kB_24 ?_
          refine ev_icmp_le 47 dX6_sheet_41 (by decide) (fun c6 => ?_) (fun c6 => ?_)
          · have h := am_t c6 h
            refine ev_iload_n dX6_sheet_47 3 rfl ?_
            refine ev_if_ge 54 dX6_sheet_48 (by decide) (fun c7 => ?_) (fun c7 => ?_)
            · have h := am_t c7 h
              refine ev_aload_n dX6_sheet_54 0 rfl trivial ?_
              refine px_getR dX6_sheet_55 gf_RX6_57 (at6 rfl) (by decide) rfl ?_
              refine ev_iload_n dX6_sheet_58 1 rfl ?_
              obtain ⟨g8, h⟩ := am_gd h
              refine px_aald5 (n := 4) dX6_sheet_59 rfl rfl g8 ?_
              refine ev_iload_n dX6_sheet_60 2 rfl ?_
              refine ev_iload_n dX6_sheet_61 3 rfl ?_
              obtain ⟨g10, h⟩ := am_gd h
              obtain ⟨q9, eq9, h⟩ := am_bd h
              refine px_callvv [.int l2, .int l3] (by decide) cl_2 (at2 g10) dX6_sheet_62 ok_X2_begin lk_RX6_237 in_X2_begin se_X2_begin (by decide) rfl (c_X2_begin eq9) rfl (Nat.le_of_ble_eq_true rfl) ?_
              refine ev_iload_n dX6_sheet_65 3 rfl ?_
              obtain rfl := Option.some.inj h
              exact ev_iret dX6_sheet_66 rfl rfl
            · have h := am_e c7 h
              refine ev_ldc (v := ((-1000000014) : Int32)) dX6_sheet_51 tw_733 ?_
              obtain rfl := Option.some.inj h
              exact ev_iret dX6_sheet_53 rfl rfl
          · have h := am_e c6 h
            refine ev_ldc (v := ((-1000000001) : Int32)) dX6_sheet_44 tw_239 ?_
            obtain rfl := Option.some.inj h
            exact ev_iret dX6_sheet_46 rfl rfl
        · have h := am_t c5 h
          refine ev_aload_n dX6_sheet_25 0 rfl trivial ?_
          refine px_getR dX6_sheet_26 gf_RX6_57 (at6 rfl) (by decide) rfl ?_
          refine ev_iload_n dX6_sheet_29 1 rfl ?_
          obtain ⟨g11, h⟩ := am_gd h
          refine px_aald5 (n := 4) dX6_sheet_30 rfl rfl g11 ?_
          refine ev_iconst (v := ((-1) : Int32)) dX6_sheet_31 kI_m1 ?_
          refine ev_iconst (v := (0 : Int32)) dX6_sheet_32 kI_0 ?_
          obtain ⟨g13, h⟩ := am_gd h
          obtain ⟨q12, eq12, h⟩ := am_bd h
          refine px_callvv [.int ((-1) : Int32), .int (0 : Int32)] (by decide) cl_2 (at2 g13) dX6_sheet_33 ok_X2_begin lk_RX6_237 in_X2_begin se_X2_begin (by decide) rfl (c_X2_begin eq12) rfl (Nat.le_of_ble_eq_true rfl) ?_
          refine ev_iconst (v := (0 : Int32)) dX6_sheet_36 kI_0 ?_
          obtain rfl := Option.some.inj h
          exact ev_iret dX6_sheet_37 rfl rfl
      · have h := am_e c4 h
        refine ev_ldc (v := ((-1000000001) : Int32)) dX6_sheet_17 tw_239 ?_
        obtain rfl := Option.some.inj h
        exact ev_iret dX6_sheet_19 rfl rfl

theorem c_X6_sheet {X : Nat × (Nat → Int32)} {u : am_MU} {l1 : Int32} {l2 : Int32} {l3 : Int32} {r : am_MU × Int32} (h : f_X6_sheet u l1 l2 l3 = some r) : am_Cn X M_X6_sheet [.ref 0, .int l1, .int l2, .int l3] (hp u) (hp r.1, some (.int r.2)) := by
  refine am_Cn.of ok_X6_sheet (Nat.le_refl _) (Nat.le_refl _) (Nat.le_of_ble_eq_true rfl) ?_
  refine ev_loc [0, 1, 2, 3] rfl ?_
  exact l_X6_sheet_0 u l1 l2 l3 r h

-- SandRipples.mark(III)I
def g_X6_mark_91  (u : am_MU) (l2 : Int32) (l3 : Int32) (l4 : Nat) : Option (am_MU × Int32) :=
if tg l4 = 2 then (
if am_in l2 24 then (
am_let (am_u2 u (l4 + 1) l2.toNatClampNeg l3) fun u3 =>
some (u3, (1 : Int32))) else none) else none

def f_X6_mark  (u : am_MU) (l1 : Int32) (l2 : Int32) (l3 : Int32) : Option (am_MU × Int32) :=
(f_X6_isSheet u l1).bind fun q1 =>
if q1.2 = 0 then (some (q1.1, ((-1000000001) : Int32)))
else (if am_in l1 4 then (
if tg (77 + 2 * l1.toNatClampNeg) = 2 then (
if (q1.1 (77 + 2 * l1.toNatClampNeg) 0) = ((-1) : Int32) then (some (q1.1, ((-1000000011) : Int32)))
else ((f_X2_hasPlace q1.1 (77 + 2 * l1.toNatClampNeg) l2).bind fun q6 =>
if q6.2 = 0 then (some (q6.1, ((-1000000013) : Int32)))
else (if (q6.1 (77 + 2 * l1.toNatClampNeg) 0) = 0 then (if l3 = ((-1000000005) : Int32) then (some (q6.1, ((-1000000012) : Int32)))
else (if am_in l2 24 then (
am_let (am_u2 q6.1 ((77 + 2 * l1.toNatClampNeg) + 1) l2.toNatClampNeg l3.toInt16.toInt32) fun u14 =>
some (u14, (1 : Int32))) else none))
else (if l3 = ((-1000000005) : Int32) then (g_X6_mark_91 q6.1 l2 l3 (77 + 2 * l1.toNatClampNeg))
else (if l3 < ((-99999) : Int32) then (some (q6.1, ((-1000000001) : Int32)))
else (if l3 ≤ (99999 : Int32) then (g_X6_mark_91 q6.1 l2 l3 (77 + 2 * l1.toNatClampNeg))
else (some (q6.1, ((-1000000001) : Int32))))))))) else none) else none)

theorem l_X6_mark_91 {X : Nat × (Nat → Int32)}   (u : am_MU) (l2 : Int32) (l3 : Int32) (l4 : Nat) (r : am_MU × Int32) (h : g_X6_mark_91  u l2 l3 l4 = some r) : am_Ev X M_X6_mark 91 [(2, .int l2), (3, .int l3), (4, .ref l4)] [] (hp u) (hp r.1, some (.int r.2)) := by
  unfold g_X6_mark_91 at h
  refine ev_aload dX6_mark_91 2 rfl trivial ?_
  obtain ⟨g1, h⟩ := am_gd h
  refine px_getR dX6_mark_93 gf_RX6_245 (at2 g1) (by decide) rfl ?_
  refine ev_iload_n dX6_mark_96 0 rfl ?_
  refine ev_iload_n dX6_mark_97 1 rfl ?_
  obtain ⟨g2, h⟩ := am_gd h
  obtain ⟨u3, eu3, h⟩ := am_lt h
  refine px_iast (n := 24) l2.toNatClampNeg dX6_mark_98 (il2 g1) g2 rfl eu3 ?_
  refine ev_iconst (v := (1 : Int32)) dX6_mark_99 kI_1 ?_
  obtain rfl := Option.some.inj h
  exact ev_iret dX6_mark_100 rfl rfl

theorem l_X6_mark_0 {X : Nat × (Nat → Int32)}   (u : am_MU) (l1 : Int32) (l2 : Int32) (l3 : Int32) (r : am_MU × Int32) (h : f_X6_mark  u l1 l2 l3 = some r) : am_Ev X M_X6_mark 0 [(0, .ref 0), (1, .int l1), (2, .int l2), (3, .int l3)] [] (hp u) (hp r.1, some (.int r.2)) := by
  unfold f_X6_mark at h
  refine ev_iload_n dX6_mark_0 1 rfl ?_
  obtain ⟨q1, eq1, h⟩ := am_bd h
  refine px_callsi [.int l1] dX6_mark_1 ok_X6_isSheet lk_RX6_196 st_X6_isSheet (by decide) rfl (c_X6_isSheet eq1) rfl (Nat.le_of_ble_eq_true rfl) ?_
  refine ev_if_ne 10 dX6_mark_4 (by decide) (fun c2 => ?_) (fun c2 => ?_)
  · have h := am_e c2 h
    refine ev_aload_n dX6_mark_10 0 rfl trivial ?_
    refine px_getR dX6_mark_11 gf_RX6_57 (at6 rfl) (by decide) rfl ?_
    refine ev_iload_n dX6_mark_14 1 rfl ?_
    obtain ⟨g3, h⟩ := am_gd h
    refine px_aald5 (n := 4) dX6_mark_15 rfl rfl g3 ?_
    refine ev_astore (L' := [(4, .ref (77 + 2 * l1.toNatClampNeg)), (0, .ref 0), (1, .int l1), (2, .int l2), (3, .int l3)]) dX6_mark_16 trivial (by decide) rfl ?_
    refine ev_aload dX6_mark_18 0 rfl trivial ?_
    obtain ⟨g4, h⟩ := am_gd h
    refine px_getI dX6_mark_20 gf_RX6_199 (at2 g4) (by decide) rfl ?_
    refine ev_iconst (v := ((-1) : Int32)) dX6_mark_23 kI_m1 ?_
    refine ev_icmp_ne 30 dX6_mark_24 (by decide) (fun c5 => ?_) (fun c5 => ?_)
    · have h := am_e c5 h
      refine ev_aload dX6_mark_30 0 rfl trivial ?_
      refine ev_iload_n dX6_mark_32 3 rfl ?_
      obtain ⟨q6, eq6, h⟩ := am_bd h
      refine px_callvi [.int l2] (by decide) cl_2 (at2 g4) dX6_mark_33 ok_X2_hasPlace lk_RX6_241 in_X2_hasPlace se_X2_hasPlace (by decide) rfl (c_X2_hasPlace eq6) rfl (Nat.le_of_ble_eq_true rfl) ?_
      refine ev_if_ne 42 dX6_mark_36 (by decide) (fun c7 => ?_) (fun c7 => ?_)
      · have h := am_e c7 h
        refine ev_aload dX6_mark_42 0 rfl trivial ?_
        refine px_getI dX6_mark_44 gf_RX6_199 (at2 g4) (by decide) rfl ?_
        refine ev_if_ne 70 dX6_mark_47 (by decide) (fun c8 => ?_) (fun c8 => ?_)
        · have h := am_e c8 h
          refine ev_iload_n dX6_mark_70 4 rfl ?_
          refine ev_ldc (v := ((-1000000005) : Int32)) dX6_mark_71 tw_312 ?_
          refine ev_icmp_eq 91 dX6_mark_73 (by decide) (fun c9 => ?_) (fun c9 => ?_)
          · have h := am_t c9 h
            refine ev_loc [3, 4, 0] rfl ?_
            exact l_X6_mark_91   q6.1 l2 l3 (77 + 2 * l1.toNatClampNeg) _ h
          · have h := am_e c9 h
            refine ev_iload_n dX6_mark_76 4 rfl ?_
            refine ev_ldc (v := ((-99999) : Int32)) dX6_mark_77 tw_740 ?_
            refine ev_icmp_lt 88 dX6_mark_79 (by decide) (fun c10 => ?_) (fun c10 => ?_)
            · have h := am_t c10 h
              refine ev_ldc (v := ((-1000000001) : Int32)) dX6_mark_88 tw_239 ?_
              obtain rfl := Option.some.inj h
              exact ev_iret dX6_mark_90 rfl rfl
            · have h := am_e c10 h
              refine ev_iload_n dX6_mark_82 4 rfl ?_
              refine ev_ldc (v := (99999 : Int32)) dX6_mark_83 tw_741 ?_
              refine ev_icmp_le 91 dX6_mark_85 (by decide) (fun c11 => ?_) (fun c11 => ?_)
              · have h := am_t c11 h
                refine ev_loc [3, 4, 0] rfl ?_
                exact l_X6_mark_91   q6.1 l2 l3 (77 + 2 * l1.toNatClampNeg) _ h
              · have h := am_e c11 h
                refine ev_ldc (v := ((-1000000001) : Int32)) dX6_mark_88 tw_239 ?_
                obtain rfl := Option.some.inj h
                exact ev_iret dX6_mark_90 rfl rfl
        · have h := am_t c8 h
          refine ev_iload_n dX6_mark_50 4 rfl ?_
          refine ev_ldc (v := ((-1000000005) : Int32)) dX6_mark_51 tw_312 ?_
          refine ev_icmp_ne 59 dX6_mark_53 (by decide) (fun c12 => ?_) (fun c12 => ?_)
          · have h := am_e c12 h
            refine ev_aload dX6_mark_59 0 rfl trivial ?_
            refine px_getR dX6_mark_61 gf_RX6_245 (at2 g4) (by decide) rfl ?_
            refine ev_iload_n dX6_mark_64 3 rfl ?_
            refine ev_iload_n dX6_mark_65 4 rfl ?_
            refine ev_i2s dX6_mark_66 ?_
            obtain ⟨g13, h⟩ := am_gd h
            obtain ⟨u14, eu14, h⟩ := am_lt h
            refine px_iast (n := 24) l2.toNatClampNeg dX6_mark_67 (il2 g4) g13 rfl eu14 ?_
            refine ev_iconst (v := (1 : Int32)) dX6_mark_68 kI_1 ?_
            obtain rfl := Option.some.inj h
            exact ev_iret dX6_mark_69 rfl rfl
          · have h := am_t c12 h
            refine ev_ldc (v := ((-1000000012) : Int32)) dX6_mark_56 tw_336 ?_
            obtain rfl := Option.some.inj h
            exact ev_iret dX6_mark_58 rfl rfl
      · have h := am_t c7 h
        refine ev_ldc (v := ((-1000000013) : Int32)) dX6_mark_39 tw_739 ?_
        obtain rfl := Option.some.inj h
        exact ev_iret dX6_mark_41 rfl rfl
    · have h := am_t c5 h
      refine ev_ldc (v := ((-1000000011) : Int32)) dX6_mark_27 tw_480 ?_
      obtain rfl := Option.some.inj h
      exact ev_iret dX6_mark_29 rfl rfl
  · have h := am_t c2 h
    refine ev_ldc (v := ((-1000000001) : Int32)) dX6_mark_7 tw_239 ?_
    obtain rfl := Option.some.inj h
    exact ev_iret dX6_mark_9 rfl rfl

theorem c_X6_mark {X : Nat × (Nat → Int32)} {u : am_MU} {l1 : Int32} {l2 : Int32} {l3 : Int32} {r : am_MU × Int32} (h : f_X6_mark u l1 l2 l3 = some r) : am_Cn X M_X6_mark [.ref 0, .int l1, .int l2, .int l3] (hp u) (hp r.1, some (.int r.2)) := by
  refine am_Cn.of ok_X6_mark (Nat.le_refl _) (Nat.le_refl _) (Nat.le_of_ble_eq_true rfl) ?_
  refine ev_loc [0, 1, 2, 3] rfl ?_
  exact l_X6_mark_0 u l1 l2 l3 r h

-- SandRipples.pour(II)I
def g_X6_pour_110 (K53 : am_MU → Nat → Nat → Int32 → Int32 → Option (am_MU × Int32)) (u : am_MU) (l3 : Nat) (l4 : Nat) (l5 : Int32) (l6 : Int32) : Option (am_MU × Int32) :=
am_let (l6 + (1 : Int32)) fun x1 =>
K53 u l3 l4 l5 x1

def g_X6_pour_53  : Nat → am_MU → Nat → Nat → Int32 → Int32 → Option (am_MU × Int32)
  | 0 => fun _ _ _ _ _ => none
  | n + 1 => fun u l3 l4 l5 l6 =>
if (24 : Int32) ≤ l6 then (some (u, l5))
else (if tg l3 = 2 then (
(f_X2_isNumber u l3 l6).bind fun q2 =>
if q2.2 = 0 then (g_X6_pour_110 (g_X6_pour_53 n) q2.1 l3 l4 l5 l6)
else (if am_in l6 24 then (
(f_X6_within q2.1 (q2.1 (l3 + 1) l6.toNatClampNeg) (0 : Int32) (99 : Int32)).bind fun q6 =>
if tg l4 = 0 then (
if (q6.1 (l4 + 1) l6.toNatClampNeg) = q6.2 then (g_X6_pour_110 (g_X6_pour_53 n) q6.1 l3 l4 l5 l6)
else (am_let (am_u2 q6.1 (l4 + 1) l6.toNatClampNeg q6.2) fun u9 =>
am_let (l5 + (1 : Int32)) fun x10 =>
g_X6_pour_110 (g_X6_pour_53 n) u9 l3 l4 x10 l6)) else none) else none)) else none)

def f_X6_pour  (u : am_MU) (l1 : Int32) (l2 : Int32) : Option (am_MU × Int32) :=
(f_X6_isSheet u l1).bind fun q1 =>
if q1.2 = 0 then (some (q1.1, ((-1000000001) : Int32)))
else ((f_X6_isFloor q1.1 l2).bind fun q3 =>
if q3.2 = 0 then (some (q3.1, ((-1000000001) : Int32)))
else (if am_in l1 4 then (
if tg (77 + 2 * l1.toNatClampNeg) = 2 then (
if (q3.1 (77 + 2 * l1.toNatClampNeg) 0) = ((-1) : Int32) then (some (q3.1, ((-1000000011) : Int32)))
else (if am_in l2 6 then (
g_X6_pour_53 1700 q3.1 (77 + 2 * l1.toNatClampNeg) (5 + 2 * l2.toNatClampNeg) (0 : Int32) (0 : Int32)) else none)) else none) else none))

theorem l_X6_pour_110 {X : Nat × (Nat → Int32)} (K53 : am_MU → Nat → Nat → Int32 → Int32 → Option (am_MU × Int32)) (hK53 : ∀ (u : am_MU) (l3 : Nat) (l4 : Nat) (l5 : Int32) (l6 : Int32) (r : am_MU × Int32), K53 u l3 l4 l5 l6 = some r → am_Ev X M_X6_pour 53 [(3, .ref l3), (4, .ref l4), (5, .int l5), (6, .int l6)] [] (hp u) (hp r.1, some (.int r.2))) (u : am_MU) (l3 : Nat) (l4 : Nat) (l5 : Int32) (l6 : Int32) (r : am_MU × Int32) (h : g_X6_pour_110 K53 u l3 l4 l5 l6 = some r) : am_Ev X M_X6_pour 110 [(3, .ref l3), (4, .ref l4), (5, .int l5), (6, .int l6)] [] (hp u) (hp r.1, some (.int r.2)) := by
  unfold g_X6_pour_110 at h
  obtain ⟨x1, ex1, h⟩ := am_lt h
  refine ev_iinc (v := x1) (L' := [(6, .int x1), (3, .ref l3), (4, .ref l4), (5, .int l5)]) dX6_pour_110 3 rfl (by rw [kI_1, ex1]) (by decide) rfl ?_
  refine ev_goto 53 dX6_pour_113 (by decide) ?_
  refine ev_loc [1, 2, 3, 0] rfl ?_
  exact hK53 u l3 l4 l5 x1 _ h

theorem l_X6_pour_53 {X : Nat × (Nat → Int32)}   : ∀ (n : Nat) (u : am_MU) (l3 : Nat) (l4 : Nat) (l5 : Int32) (l6 : Int32) (r : am_MU × Int32), g_X6_pour_53  n u l3 l4 l5 l6 = some r → am_Ev X M_X6_pour 53 [(3, .ref l3), (4, .ref l4), (5, .int l5), (6, .int l6)] [] (hp u) (hp r.1, some (.int r.2)) := by
  intro n
  induction n with
  | zero => intro u l3 l4 l5 l6 r h; cases h
  | succ n ih =>
    intro u l3 l4 l5 l6 r h
    rw [g_X6_pour_53] at h
    refine ev_iload dX6_pour_53 3 rfl ?_
    refine ev_bipush (v := (24 : Int32)) dX6_pour_55 kB_24 ?_
    refine ev_icmp_ge 116 dX6_pour_57 (by decide) (fun c1 => ?_) (fun c1 => ?_)
    · have h := am_t c1 h
      refine ev_iload dX6_pour_116 2 rfl ?_
      obtain rfl := Option.some.inj h
      exact ev_iret dX6_pour_118 rfl rfl
    · have h := am_e c1 h
      refine ev_aload_n dX6_pour_60 0 rfl trivial ?_
      refine ev_iload dX6_pour_61 3 rfl ?_
      obtain ⟨g3, h⟩ := am_gd h
      obtain ⟨q2, eq2, h⟩ := am_bd h
      refine px_callvi [.int l6] (by decide) cl_2 (at2 g3) dX6_pour_63 ok_X2_isNumber lk_RX6_250 in_X2_isNumber se_X2_isNumber (by decide) rfl (c_X2_isNumber eq2) rfl (Nat.le_of_ble_eq_true rfl) ?_
      refine ev_if_eq 110 dX6_pour_66 (by decide) (fun c4 => ?_) (fun c4 => ?_)
      · have h := am_t c4 h
        refine ev_loc [0, 1, 2, 3] rfl ?_
        exact l_X6_pour_110 (g_X6_pour_53 n) (fun u l3 l4 l5 l6 r h => ih u l3 l4 l5 l6 r h) q2.1 l3 l4 l5 l6 _ h
      · have h := am_e c4 h
        refine ev_aload_n dX6_pour_69 0 rfl trivial ?_
        refine px_getR dX6_pour_70 gf_RX6_245 (at2 g3) (by decide) rfl ?_
        refine ev_iload dX6_pour_73 3 rfl ?_
        obtain ⟨g5, h⟩ := am_gd h
        refine px_iald (n := 24) l6.toNatClampNeg dX6_pour_75 (il2 g3) g5 rfl ?_
        refine ev_iconst (v := (0 : Int32)) dX6_pour_76 kI_0 ?_
        refine ev_bipush (v := (99 : Int32)) dX6_pour_77 kB_99 ?_
        obtain ⟨q6, eq6, h⟩ := am_bd h
        refine px_callsi [.int (q2.1 (l3 + 1) l6.toNatClampNeg), .int (0 : Int32), .int (99 : Int32)] dX6_pour_79 ok_X6_within lk_RX6_253 st_X6_within (by decide) rfl (c_X6_within eq6) rfl (Nat.le_of_ble_eq_true rfl) ?_
        refine ev_istore (L' := [(7, .int q6.2), (3, .ref l3), (4, .ref l4), (5, .int l5), (6, .int l6)]) dX6_pour_82 (by decide) rfl ?_
        refine ev_aload dX6_pour_84 2 rfl trivial ?_
        obtain ⟨g7, h⟩ := am_gd h
        refine px_getR dX6_pour_86 gf_RX6_149 (at0 g7) (by decide) rfl ?_
        refine ev_iload dX6_pour_89 4 rfl ?_
        refine px_iald (n := 24) l6.toNatClampNeg dX6_pour_91 (il0 g7) g5 rfl ?_
        refine ev_iload dX6_pour_92 0 rfl ?_
        refine ev_icmp_eq 110 dX6_pour_94 (by decide) (fun c8 => ?_) (fun c8 => ?_)
        · have h := am_t c8 h
          refine ev_loc [1, 2, 3, 4] rfl ?_
          exact l_X6_pour_110 (g_X6_pour_53 n) (fun u l3 l4 l5 l6 r h => ih u l3 l4 l5 l6 r h) q6.1 l3 l4 l5 l6 _ h
        · have h := am_e c8 h
          refine ev_aload dX6_pour_97 2 rfl trivial ?_
          refine px_getR dX6_pour_99 gf_RX6_149 (at0 g7) (by decide) rfl ?_
          refine ev_iload dX6_pour_102 4 rfl ?_
          refine ev_iload dX6_pour_104 0 rfl ?_
          obtain ⟨u9, eu9, h⟩ := am_lt h
          refine px_iast (n := 24) l6.toNatClampNeg dX6_pour_106 (il0 g7) g5 rfl eu9 ?_
          obtain ⟨x10, ex10, h⟩ := am_lt h
          refine ev_iinc (v := x10) (L' := [(5, .int x10), (7, .int q6.2), (3, .ref l3), (4, .ref l4), (6, .int l6)]) dX6_pour_107 3 rfl (by rw [kI_1, ex10]) (by decide) rfl ?_
          refine ev_loc [2, 3, 0, 4] rfl ?_
          exact l_X6_pour_110 (g_X6_pour_53 n) (fun u l3 l4 l5 l6 r h => ih u l3 l4 l5 l6 r h) u9 l3 l4 x10 l6 _ h

theorem l_X6_pour_0 {X : Nat × (Nat → Int32)}   (u : am_MU) (l1 : Int32) (l2 : Int32) (r : am_MU × Int32) (h : f_X6_pour  u l1 l2 = some r) : am_Ev X M_X6_pour 0 [(0, .ref 0), (1, .int l1), (2, .int l2)] [] (hp u) (hp r.1, some (.int r.2)) := by
  unfold f_X6_pour at h
  refine ev_iload_n dX6_pour_0 1 rfl ?_
  obtain ⟨q1, eq1, h⟩ := am_bd h
  refine px_callsi [.int l1] dX6_pour_1 ok_X6_isSheet lk_RX6_196 st_X6_isSheet (by decide) rfl (c_X6_isSheet eq1) rfl (Nat.le_of_ble_eq_true rfl) ?_
  refine ev_if_eq 15 dX6_pour_4 (by decide) (fun c2 => ?_) (fun c2 => ?_)
  · have h := am_t c2 h
    refine ev_ldc (v := ((-1000000001) : Int32)) dX6_pour_15 tw_239 ?_
    obtain rfl := Option.some.inj h
    exact ev_iret dX6_pour_17 rfl rfl
  · have h := am_e c2 h
    refine ev_aload_n dX6_pour_7 0 rfl trivial ?_
    refine ev_iload_n dX6_pour_8 2 rfl ?_
    obtain ⟨q3, eq3, h⟩ := am_bd h
    refine px_callvi [.int l2] (by decide) cl_6 (at6 rfl) dX6_pour_9 ok_X6_isFloor lk_RX6_94 in_X6_isFloor se_X6_isFloor (by decide) rfl (c_X6_isFloor eq3) rfl (Nat.le_of_ble_eq_true rfl) ?_
    refine ev_if_ne 18 dX6_pour_12 (by decide) (fun c4 => ?_) (fun c4 => ?_)
    · have h := am_e c4 h
      refine ev_aload_n dX6_pour_18 0 rfl trivial ?_
      refine px_getR dX6_pour_19 gf_RX6_57 (at6 rfl) (by decide) rfl ?_
      refine ev_iload_n dX6_pour_22 1 rfl ?_
      obtain ⟨g5, h⟩ := am_gd h
      refine px_aald5 (n := 4) dX6_pour_23 rfl rfl g5 ?_
      refine ev_astore_n (L' := [(3, .ref (77 + 2 * l1.toNatClampNeg)), (0, .ref 0), (1, .int l1), (2, .int l2)]) dX6_pour_24 trivial (by decide) rfl ?_
      refine ev_aload_n dX6_pour_25 0 rfl trivial ?_
      obtain ⟨g6, h⟩ := am_gd h
      refine px_getI dX6_pour_26 gf_RX6_199 (at2 g6) (by decide) rfl ?_
      refine ev_iconst (v := ((-1) : Int32)) dX6_pour_29 kI_m1 ?_
      refine ev_icmp_ne 36 dX6_pour_30 (by decide) (fun c7 => ?_) (fun c7 => ?_)
      · have h := am_e c7 h
        refine ev_aload_n dX6_pour_36 1 rfl trivial ?_
        refine px_getR dX6_pour_37 gf_RX6_14 (at6 rfl) (by decide) rfl ?_
        refine px_getR dX6_pour_40 gf_RX6_85 (at5 rfl) (by decide) rfl ?_
        refine ev_iload_n dX6_pour_43 3 rfl ?_
        obtain ⟨g8, h⟩ := am_gd h
        refine px_aald3 (n := 6) dX6_pour_44 rfl rfl g8 ?_
        refine ev_astore (L' := [(4, .ref (5 + 2 * l2.toNatClampNeg)), (3, .ref (77 + 2 * l1.toNatClampNeg)), (0, .ref 0), (1, .int l1), (2, .int l2)]) dX6_pour_45 trivial (by decide) rfl ?_
        refine ev_iconst (v := (0 : Int32)) dX6_pour_47 kI_0 ?_
        refine ev_istore (L' := [(5, .int (0 : Int32)), (4, .ref (5 + 2 * l2.toNatClampNeg)), (3, .ref (77 + 2 * l1.toNatClampNeg)), (0, .ref 0), (1, .int l1), (2, .int l2)]) dX6_pour_48 (by decide) rfl ?_
        refine ev_iconst (v := (0 : Int32)) dX6_pour_50 kI_0 ?_
        refine ev_istore (L' := [(6, .int (0 : Int32)), (5, .int (0 : Int32)), (4, .ref (5 + 2 * l2.toNatClampNeg)), (3, .ref (77 + 2 * l1.toNatClampNeg)), (0, .ref 0), (1, .int l1), (2, .int l2)]) dX6_pour_51 (by decide) rfl ?_
        refine ev_loc [3, 2, 1, 0] rfl ?_
        exact l_X6_pour_53   1700 q3.1 (77 + 2 * l1.toNatClampNeg) (5 + 2 * l2.toNatClampNeg) (0 : Int32) (0 : Int32) _ h
      · have h := am_t c7 h
        refine ev_ldc (v := ((-1000000011) : Int32)) dX6_pour_33 tw_480 ?_
        obtain rfl := Option.some.inj h
        exact ev_iret dX6_pour_35 rfl rfl
    · have h := am_t c4 h
      refine ev_ldc (v := ((-1000000001) : Int32)) dX6_pour_15 tw_239 ?_
      obtain rfl := Option.some.inj h
      exact ev_iret dX6_pour_17 rfl rfl

theorem c_X6_pour {X : Nat × (Nat → Int32)} {u : am_MU} {l1 : Int32} {l2 : Int32} {r : am_MU × Int32} (h : f_X6_pour u l1 l2 = some r) : am_Cn X M_X6_pour [.ref 0, .int l1, .int l2] (hp u) (hp r.1, some (.int r.2)) := by
  refine am_Cn.of ok_X6_pour (Nat.le_refl _) (Nat.le_refl _) (Nat.le_of_ble_eq_true rfl) ?_
  refine ev_loc [0, 1, 2] rfl ?_
  exact l_X6_pour_0 u l1 l2 r h

-- SandRipples.reads(II)I
def g_X6_reads_87 (K50 : am_MU → Nat → Nat → Int32 → Option (am_MU × Int32)) (u : am_MU) (l3 : Nat) (l4 : Nat) (l5 : Int32) : Option (am_MU × Int32) :=
am_let (l5 + (1 : Int32)) fun x1 =>
K50 u l3 l4 x1

def g_X6_reads_50  : Nat → am_MU → Nat → Nat → Int32 → Option (am_MU × Int32)
  | 0 => fun _ _ _ _ => none
  | n + 1 => fun u l3 l4 l5 =>
if (24 : Int32) ≤ l5 then (some (u, ((-1000000005) : Int32)))
else (if tg l3 = 2 then (
(f_X2_isNumber u l3 l5).bind fun q2 =>
if q2.2 = 0 then (g_X6_reads_87 (g_X6_reads_50 n) q2.1 l3 l4 l5)
else (if am_in l5 24 then (
if tg l4 = 0 then (
if (q2.1 (l3 + 1) l5.toNatClampNeg) = (q2.1 (l4 + 1) l5.toNatClampNeg) then (g_X6_reads_87 (g_X6_reads_50 n) q2.1 l3 l4 l5)
else (some (q2.1, l5))) else none) else none)) else none)

def f_X6_reads  (u : am_MU) (l1 : Int32) (l2 : Int32) : Option (am_MU × Int32) :=
(f_X6_isSheet u l1).bind fun q1 =>
if q1.2 = 0 then (some (q1.1, ((-1000000001) : Int32)))
else ((f_X6_isFloor q1.1 l2).bind fun q3 =>
if q3.2 = 0 then (some (q3.1, ((-1000000001) : Int32)))
else (if am_in l1 4 then (
if tg (77 + 2 * l1.toNatClampNeg) = 2 then (
if (q3.1 (77 + 2 * l1.toNatClampNeg) 0) = ((-1) : Int32) then (some (q3.1, ((-1000000011) : Int32)))
else (if am_in l2 6 then (
g_X6_reads_50 1700 q3.1 (77 + 2 * l1.toNatClampNeg) (5 + 2 * l2.toNatClampNeg) (0 : Int32)) else none)) else none) else none))

theorem l_X6_reads_87 {X : Nat × (Nat → Int32)} (K50 : am_MU → Nat → Nat → Int32 → Option (am_MU × Int32)) (hK50 : ∀ (u : am_MU) (l3 : Nat) (l4 : Nat) (l5 : Int32) (r : am_MU × Int32), K50 u l3 l4 l5 = some r → am_Ev X M_X6_reads 50 [(3, .ref l3), (4, .ref l4), (5, .int l5)] [] (hp u) (hp r.1, some (.int r.2))) (u : am_MU) (l3 : Nat) (l4 : Nat) (l5 : Int32) (r : am_MU × Int32) (h : g_X6_reads_87 K50 u l3 l4 l5 = some r) : am_Ev X M_X6_reads 87 [(3, .ref l3), (4, .ref l4), (5, .int l5)] [] (hp u) (hp r.1, some (.int r.2)) := by
  unfold g_X6_reads_87 at h
  obtain ⟨x1, ex1, h⟩ := am_lt h
  refine ev_iinc (v := x1) (L' := [(5, .int x1), (3, .ref l3), (4, .ref l4)]) dX6_reads_87 2 rfl (by rw [kI_1, ex1]) (by decide) rfl ?_
  refine ev_goto 50 dX6_reads_90 (by decide) ?_
  refine ev_loc [1, 2, 0] rfl ?_
  exact hK50 u l3 l4 x1 _ h

theorem l_X6_reads_50 {X : Nat × (Nat → Int32)}   : ∀ (n : Nat) (u : am_MU) (l3 : Nat) (l4 : Nat) (l5 : Int32) (r : am_MU × Int32), g_X6_reads_50  n u l3 l4 l5 = some r → am_Ev X M_X6_reads 50 [(3, .ref l3), (4, .ref l4), (5, .int l5)] [] (hp u) (hp r.1, some (.int r.2)) := by
  intro n
  induction n with
  | zero => intro u l3 l4 l5 r h; cases h
  | succ n ih =>
    intro u l3 l4 l5 r h
    rw [g_X6_reads_50] at h
    refine ev_iload dX6_reads_50 2 rfl ?_
    refine ev_bipush (v := (24 : Int32)) dX6_reads_52 kB_24 ?_
    refine ev_icmp_ge 93 dX6_reads_54 (by decide) (fun c1 => ?_) (fun c1 => ?_)
    · have h := am_t c1 h
      refine ev_ldc (v := ((-1000000005) : Int32)) dX6_reads_93 tw_312 ?_
      obtain rfl := Option.some.inj h
      exact ev_iret dX6_reads_95 rfl rfl
    · have h := am_e c1 h
      refine ev_aload_n dX6_reads_57 0 rfl trivial ?_
      refine ev_iload dX6_reads_58 2 rfl ?_
      obtain ⟨g3, h⟩ := am_gd h
      obtain ⟨q2, eq2, h⟩ := am_bd h
      refine px_callvi [.int l5] (by decide) cl_2 (at2 g3) dX6_reads_60 ok_X2_isNumber lk_RX6_250 in_X2_isNumber se_X2_isNumber (by decide) rfl (c_X2_isNumber eq2) rfl (Nat.le_of_ble_eq_true rfl) ?_
      refine ev_if_eq 87 dX6_reads_63 (by decide) (fun c4 => ?_) (fun c4 => ?_)
      · have h := am_t c4 h
        refine ev_loc [0, 1, 2] rfl ?_
        exact l_X6_reads_87 (g_X6_reads_50 n) (fun u l3 l4 l5 r h => ih u l3 l4 l5 r h) q2.1 l3 l4 l5 _ h
      · have h := am_e c4 h
        refine ev_aload_n dX6_reads_66 0 rfl trivial ?_
        refine px_getR dX6_reads_67 gf_RX6_245 (at2 g3) (by decide) rfl ?_
        refine ev_iload dX6_reads_70 2 rfl ?_
        obtain ⟨g5, h⟩ := am_gd h
        refine px_iald (n := 24) l5.toNatClampNeg dX6_reads_72 (il2 g3) g5 rfl ?_
        refine ev_aload dX6_reads_73 1 rfl trivial ?_
        obtain ⟨g6, h⟩ := am_gd h
        refine px_getR dX6_reads_75 gf_RX6_149 (at0 g6) (by decide) rfl ?_
        refine ev_iload dX6_reads_78 2 rfl ?_
        refine px_iald (n := 24) l5.toNatClampNeg dX6_reads_80 (il0 g6) g5 rfl ?_
        refine ev_icmp_eq 87 dX6_reads_81 (by decide) (fun c7 => ?_) (fun c7 => ?_)
        · have h := am_t c7 h
          refine ev_loc [0, 1, 2] rfl ?_
          exact l_X6_reads_87 (g_X6_reads_50 n) (fun u l3 l4 l5 r h => ih u l3 l4 l5 r h) q2.1 l3 l4 l5 _ h
        · have h := am_e c7 h
          refine ev_iload dX6_reads_84 2 rfl ?_
          obtain rfl := Option.some.inj h
          exact ev_iret dX6_reads_86 rfl rfl

theorem l_X6_reads_0 {X : Nat × (Nat → Int32)}   (u : am_MU) (l1 : Int32) (l2 : Int32) (r : am_MU × Int32) (h : f_X6_reads  u l1 l2 = some r) : am_Ev X M_X6_reads 0 [(0, .ref 0), (1, .int l1), (2, .int l2)] [] (hp u) (hp r.1, some (.int r.2)) := by
  unfold f_X6_reads at h
  refine ev_iload_n dX6_reads_0 1 rfl ?_
  obtain ⟨q1, eq1, h⟩ := am_bd h
  refine px_callsi [.int l1] dX6_reads_1 ok_X6_isSheet lk_RX6_196 st_X6_isSheet (by decide) rfl (c_X6_isSheet eq1) rfl (Nat.le_of_ble_eq_true rfl) ?_
  refine ev_if_eq 15 dX6_reads_4 (by decide) (fun c2 => ?_) (fun c2 => ?_)
  · have h := am_t c2 h
    refine ev_ldc (v := ((-1000000001) : Int32)) dX6_reads_15 tw_239 ?_
    obtain rfl := Option.some.inj h
    exact ev_iret dX6_reads_17 rfl rfl
  · have h := am_e c2 h
    refine ev_aload_n dX6_reads_7 0 rfl trivial ?_
    refine ev_iload_n dX6_reads_8 2 rfl ?_
    obtain ⟨q3, eq3, h⟩ := am_bd h
    refine px_callvi [.int l2] (by decide) cl_6 (at6 rfl) dX6_reads_9 ok_X6_isFloor lk_RX6_94 in_X6_isFloor se_X6_isFloor (by decide) rfl (c_X6_isFloor eq3) rfl (Nat.le_of_ble_eq_true rfl) ?_
    refine ev_if_ne 18 dX6_reads_12 (by decide) (fun c4 => ?_) (fun c4 => ?_)
    · have h := am_e c4 h
      refine ev_aload_n dX6_reads_18 0 rfl trivial ?_
      refine px_getR dX6_reads_19 gf_RX6_57 (at6 rfl) (by decide) rfl ?_
      refine ev_iload_n dX6_reads_22 1 rfl ?_
      obtain ⟨g5, h⟩ := am_gd h
      refine px_aald5 (n := 4) dX6_reads_23 rfl rfl g5 ?_
      refine ev_astore_n (L' := [(3, .ref (77 + 2 * l1.toNatClampNeg)), (0, .ref 0), (1, .int l1), (2, .int l2)]) dX6_reads_24 trivial (by decide) rfl ?_
      refine ev_aload_n dX6_reads_25 0 rfl trivial ?_
      obtain ⟨g6, h⟩ := am_gd h
      refine px_getI dX6_reads_26 gf_RX6_199 (at2 g6) (by decide) rfl ?_
      refine ev_iconst (v := ((-1) : Int32)) dX6_reads_29 kI_m1 ?_
      refine ev_icmp_ne 36 dX6_reads_30 (by decide) (fun c7 => ?_) (fun c7 => ?_)
      · have h := am_e c7 h
        refine ev_aload_n dX6_reads_36 1 rfl trivial ?_
        refine px_getR dX6_reads_37 gf_RX6_14 (at6 rfl) (by decide) rfl ?_
        refine px_getR dX6_reads_40 gf_RX6_85 (at5 rfl) (by decide) rfl ?_
        refine ev_iload_n dX6_reads_43 3 rfl ?_
        obtain ⟨g8, h⟩ := am_gd h
        refine px_aald3 (n := 6) dX6_reads_44 rfl rfl g8 ?_
        refine ev_astore (L' := [(4, .ref (5 + 2 * l2.toNatClampNeg)), (3, .ref (77 + 2 * l1.toNatClampNeg)), (0, .ref 0), (1, .int l1), (2, .int l2)]) dX6_reads_45 trivial (by decide) rfl ?_
        refine ev_iconst (v := (0 : Int32)) dX6_reads_47 kI_0 ?_
        refine ev_istore (L' := [(5, .int (0 : Int32)), (4, .ref (5 + 2 * l2.toNatClampNeg)), (3, .ref (77 + 2 * l1.toNatClampNeg)), (0, .ref 0), (1, .int l1), (2, .int l2)]) dX6_reads_48 (by decide) rfl ?_
        refine ev_loc [2, 1, 0] rfl ?_
        exact l_X6_reads_50   1700 q3.1 (77 + 2 * l1.toNatClampNeg) (5 + 2 * l2.toNatClampNeg) (0 : Int32) _ h
      · have h := am_t c7 h
        refine ev_ldc (v := ((-1000000011) : Int32)) dX6_reads_33 tw_480 ?_
        obtain rfl := Option.some.inj h
        exact ev_iret dX6_reads_35 rfl rfl
    · have h := am_t c4 h
      refine ev_ldc (v := ((-1000000001) : Int32)) dX6_reads_15 tw_239 ?_
      obtain rfl := Option.some.inj h
      exact ev_iret dX6_reads_17 rfl rfl

theorem c_X6_reads {X : Nat × (Nat → Int32)} {u : am_MU} {l1 : Int32} {l2 : Int32} {r : am_MU × Int32} (h : f_X6_reads u l1 l2 = some r) : am_Cn X M_X6_reads [.ref 0, .int l1, .int l2] (hp u) (hp r.1, some (.int r.2)) := by
  refine am_Cn.of ok_X6_reads (Nat.le_refl _) (Nat.le_refl _) (Nat.le_of_ble_eq_true rfl) ?_
  refine ev_loc [0, 1, 2] rfl ?_
  exact l_X6_reads_0 u l1 l2 r h

-- SandRipples$Sheet.hasStretch(II)Z
def f_X2_hasStretch  (u : am_MU) (l0 : Nat) (l1 : Int32) (l2 : Int32) : Option (am_MU × Int32) :=
if l1 < 0 then (some (u, (0 : Int32)))
else (if l2 < 0 then (some (u, (0 : Int32)))
else (if tg l0 = 2 then (
if (u l0 1) < l1 then (some (u, (0 : Int32)))
else (if ((u l0 1) - l1) < l2 then (some (u, (0 : Int32)))
else (some (u, (1 : Int32))))) else none))

theorem l_X2_hasStretch_0 {X : Nat × (Nat → Int32)}   (u : am_MU) (l0 : Nat) (l1 : Int32) (l2 : Int32) (r : am_MU × Int32) (h : f_X2_hasStretch  u l0 l1 l2 = some r) : am_Ev X M_X2_hasStretch 0 [(0, .ref l0), (1, .int l1), (2, .int l2)] [] (hp u) (hp r.1, some (.int r.2)) := by
  unfold f_X2_hasStretch at h
  refine ev_iload_n dX2_hasStretch_0 1 rfl ?_
  refine ev_if_lt 30 dX2_hasStretch_1 (by decide) (fun c1 => ?_) (fun c1 => ?_)
  · have h := am_t c1 h
    refine ev_iconst (v := (0 : Int32)) dX2_hasStretch_30 kI_0 ?_
    obtain rfl := Option.some.inj h
    exact ev_iret dX2_hasStretch_31 rfl (am_zn (Or.inl rfl))
  · have h := am_e c1 h
    refine ev_iload_n dX2_hasStretch_4 2 rfl ?_
    refine ev_if_lt 30 dX2_hasStretch_5 (by decide) (fun c2 => ?_) (fun c2 => ?_)
    · have h := am_t c2 h
      refine ev_iconst (v := (0 : Int32)) dX2_hasStretch_30 kI_0 ?_
      obtain rfl := Option.some.inj h
      exact ev_iret dX2_hasStretch_31 rfl (am_zn (Or.inl rfl))
    · have h := am_e c2 h
      refine ev_iload_n dX2_hasStretch_8 1 rfl ?_
      refine ev_aload_n dX2_hasStretch_9 0 rfl trivial ?_
      obtain ⟨g3, h⟩ := am_gd h
      refine px_getI dX2_hasStretch_10 gf_RX2_15 (at2 g3) (by decide) rfl ?_
      refine ev_icmp_gt 30 dX2_hasStretch_13 (by decide) (fun c4 => ?_) (fun c4 => ?_)
      · have h := am_t c4 h
        refine ev_iconst (v := (0 : Int32)) dX2_hasStretch_30 kI_0 ?_
        obtain rfl := Option.some.inj h
        exact ev_iret dX2_hasStretch_31 rfl (am_zn (Or.inl rfl))
      · have h := am_e c4 h
        refine ev_iload_n dX2_hasStretch_16 2 rfl ?_
        refine ev_aload_n dX2_hasStretch_17 0 rfl trivial ?_
        refine px_getI dX2_hasStretch_18 gf_RX2_15 (at2 g3) (by decide) rfl ?_
        refine ev_iload_n dX2_hasStretch_21 1 rfl ?_
        refine ev_isub dX2_hasStretch_22 ?_
        refine ev_icmp_gt 30 dX2_hasStretch_23 (by decide) (fun c5 => ?_) (fun c5 => ?_)
        · have h := am_t c5 h
          refine ev_iconst (v := (0 : Int32)) dX2_hasStretch_30 kI_0 ?_
          obtain rfl := Option.some.inj h
          exact ev_iret dX2_hasStretch_31 rfl (am_zn (Or.inl rfl))
        · have h := am_e c5 h
          refine ev_iconst (v := (1 : Int32)) dX2_hasStretch_26 kI_1 ?_
          refine ev_goto 31 dX2_hasStretch_27 (by decide) ?_
          obtain rfl := Option.some.inj h
          exact ev_iret dX2_hasStretch_31 rfl (am_zn (Or.inr rfl))

theorem c_X2_hasStretch {X : Nat × (Nat → Int32)} {u : am_MU} {l0 : Nat} {l1 : Int32} {l2 : Int32} {r : am_MU × Int32} (h : f_X2_hasStretch u l0 l1 l2 = some r) : am_Cn X M_X2_hasStretch [.ref l0, .int l1, .int l2] (hp u) (hp r.1, some (.int r.2)) := by
  refine am_Cn.of ok_X2_hasStretch (Nat.le_refl _) (Nat.le_refl _) (Nat.le_of_ble_eq_true rfl) ?_
  refine ev_loc [0, 1, 2] rfl ?_
  exact l_X2_hasStretch_0 u l0 l1 l2 r h

-- SandRipples.copy(IIIII)I
def f_X6_copy  (u : am_MU) (l1 : Int32) (l2 : Int32) (l3 : Int32) (l4 : Int32) (l5 : Int32) : Option (am_MU × Int32) :=
(f_X6_isSheet u l1).bind fun q1 =>
if q1.2 = 0 then (some (q1.1, ((-1000000001) : Int32)))
else ((f_X6_isSheet q1.1 l3).bind fun q3 =>
if q3.2 = 0 then (some (q3.1, ((-1000000001) : Int32)))
else (if am_in l1 4 then (
if am_in l3 4 then (
if tg (77 + 2 * l1.toNatClampNeg) = 2 then (
if (q3.1 (77 + 2 * l1.toNatClampNeg) 0) = ((-1) : Int32) then (some (q3.1, ((-1000000011) : Int32)))
else (if tg (77 + 2 * l3.toNatClampNeg) = 2 then (
if (q3.1 (77 + 2 * l3.toNatClampNeg) 0) = ((-1) : Int32) then (some (q3.1, ((-1000000011) : Int32)))
else (if (q3.1 (77 + 2 * l1.toNatClampNeg) 0) = (q3.1 (77 + 2 * l3.toNatClampNeg) 0) then ((f_X2_hasStretch q3.1 (77 + 2 * l1.toNatClampNeg) l2 l5).bind fun q12 =>
if q12.2 = 0 then (some (q12.1, ((-1000000013) : Int32)))
else ((f_X2_hasStretch q12.1 (77 + 2 * l3.toNatClampNeg) l4 l5).bind fun q14 =>
if q14.2 = 0 then (some (q14.1, ((-1000000013) : Int32)))
else (if am_cpok ((77 + 2 * l1.toNatClampNeg) + 1) ((77 + 2 * l3.toNatClampNeg) + 1) l2 l4 l5 then (
am_let (am_ur q14.1 ((77 + 2 * l3.toNatClampNeg) + 1) (va_cpy (q14.1 ((77 + 2 * l1.toNatClampNeg) + 1)) (q14.1 ((77 + 2 * l3.toNatClampNeg) + 1)) l2.toNatClampNeg l4.toNatClampNeg l5.toNatClampNeg)) fun u17 =>
some (u17, l5)) else none)))
else (some (q3.1, ((-1000000012) : Int32))))) else none)) else none) else none) else none))

theorem l_X6_copy_0 {X : Nat × (Nat → Int32)}   (u : am_MU) (l1 : Int32) (l2 : Int32) (l3 : Int32) (l4 : Int32) (l5 : Int32) (r : am_MU × Int32) (h : f_X6_copy  u l1 l2 l3 l4 l5 = some r) : am_Ev X M_X6_copy 0 [(0, .ref 0), (1, .int l1), (2, .int l2), (3, .int l3), (4, .int l4), (5, .int l5)] [] (hp u) (hp r.1, some (.int r.2)) := by
  unfold f_X6_copy at h
  refine ev_iload_n dX6_copy_0 1 rfl ?_
  obtain ⟨q1, eq1, h⟩ := am_bd h
  refine px_callsi [.int l1] dX6_copy_1 ok_X6_isSheet lk_RX6_196 st_X6_isSheet (by decide) rfl (c_X6_isSheet eq1) rfl (Nat.le_of_ble_eq_true rfl) ?_
  refine ev_if_eq 14 dX6_copy_4 (by decide) (fun c2 => ?_) (fun c2 => ?_)
  · have h := am_t c2 h
    refine ev_ldc (v := ((-1000000001) : Int32)) dX6_copy_14 tw_239 ?_
    obtain rfl := Option.some.inj h
    exact ev_iret dX6_copy_16 rfl rfl
  · have h := am_e c2 h
    refine ev_iload_n dX6_copy_7 3 rfl ?_
    obtain ⟨q3, eq3, h⟩ := am_bd h
    refine px_callsi [.int l3] dX6_copy_8 ok_X6_isSheet lk_RX6_196 st_X6_isSheet (by decide) rfl (c_X6_isSheet eq3) rfl (Nat.le_of_ble_eq_true rfl) ?_
    refine ev_if_ne 17 dX6_copy_11 (by decide) (fun c4 => ?_) (fun c4 => ?_)
    · have h := am_e c4 h
      refine ev_aload_n dX6_copy_17 0 rfl trivial ?_
      refine px_getR dX6_copy_18 gf_RX6_57 (at6 rfl) (by decide) rfl ?_
      refine ev_iload_n dX6_copy_21 1 rfl ?_
      obtain ⟨g5, h⟩ := am_gd h
      refine px_aald5 (n := 4) dX6_copy_22 rfl rfl g5 ?_
      refine ev_astore (L' := [(6, .ref (77 + 2 * l1.toNatClampNeg)), (0, .ref 0), (1, .int l1), (2, .int l2), (3, .int l3), (4, .int l4), (5, .int l5)]) dX6_copy_23 trivial (by decide) rfl ?_
      refine ev_aload_n dX6_copy_25 1 rfl trivial ?_
      refine px_getR dX6_copy_26 gf_RX6_57 (at6 rfl) (by decide) rfl ?_
      refine ev_iload_n dX6_copy_29 4 rfl ?_
      obtain ⟨g6, h⟩ := am_gd h
      refine px_aald5 (n := 4) dX6_copy_30 rfl rfl g6 ?_
      refine ev_astore (L' := [(7, .ref (77 + 2 * l3.toNatClampNeg)), (6, .ref (77 + 2 * l1.toNatClampNeg)), (0, .ref 0), (1, .int l1), (2, .int l2), (3, .int l3), (4, .int l4), (5, .int l5)]) dX6_copy_31 trivial (by decide) rfl ?_
      refine ev_aload dX6_copy_33 1 rfl trivial ?_
      obtain ⟨g7, h⟩ := am_gd h
      refine px_getI dX6_copy_35 gf_RX6_199 (at2 g7) (by decide) rfl ?_
      refine ev_iconst (v := ((-1) : Int32)) dX6_copy_38 kI_m1 ?_
      refine ev_icmp_eq 51 dX6_copy_39 (by decide) (fun c8 => ?_) (fun c8 => ?_)
      · have h := am_t c8 h
        refine ev_ldc (v := ((-1000000011) : Int32)) dX6_copy_51 tw_480 ?_
        obtain rfl := Option.some.inj h
        exact ev_iret dX6_copy_53 rfl rfl
      · have h := am_e c8 h
        refine ev_aload dX6_copy_42 0 rfl trivial ?_
        obtain ⟨g9, h⟩ := am_gd h
        refine px_getI dX6_copy_44 gf_RX6_199 (at2 g9) (by decide) rfl ?_
        refine ev_iconst (v := ((-1) : Int32)) dX6_copy_47 kI_m1 ?_
        refine ev_icmp_ne 54 dX6_copy_48 (by decide) (fun c10 => ?_) (fun c10 => ?_)
        · have h := am_e c10 h
          refine ev_aload dX6_copy_54 1 rfl trivial ?_
          refine px_getI dX6_copy_56 gf_RX6_199 (at2 g7) (by decide) rfl ?_
          refine ev_aload dX6_copy_59 0 rfl trivial ?_
          refine px_getI dX6_copy_61 gf_RX6_199 (at2 g9) (by decide) rfl ?_
          refine ev_icmp_eq 70 dX6_copy_64 (by decide) (fun c11 => ?_) (fun c11 => ?_)
          · have h := am_t c11 h
            refine ev_aload dX6_copy_70 1 rfl trivial ?_
            refine ev_iload_n dX6_copy_72 4 rfl ?_
            refine ev_iload dX6_copy_73 7 rfl ?_
            obtain ⟨q12, eq12, h⟩ := am_bd h
            refine px_callvi [.int l2, .int l5] (by decide) cl_2 (at2 g7) dX6_copy_75 ok_X2_hasStretch lk_RX6_257 in_X2_hasStretch se_X2_hasStretch (by decide) rfl (c_X2_hasStretch eq12) rfl (Nat.le_of_ble_eq_true rfl) ?_
            refine ev_if_eq 93 dX6_copy_78 (by decide) (fun c13 => ?_) (fun c13 => ?_)
            · have h := am_t c13 h
              refine ev_ldc (v := ((-1000000013) : Int32)) dX6_copy_93 tw_739 ?_
              obtain rfl := Option.some.inj h
              exact ev_iret dX6_copy_95 rfl rfl
            · have h := am_e c13 h
              refine ev_aload dX6_copy_81 0 rfl trivial ?_
              refine ev_iload dX6_copy_83 6 rfl ?_
              refine ev_iload dX6_copy_85 7 rfl ?_
              obtain ⟨q14, eq14, h⟩ := am_bd h
              refine px_callvi [.int l4, .int l5] (by decide) cl_2 (at2 g9) dX6_copy_87 ok_X2_hasStretch lk_RX6_257 in_X2_hasStretch se_X2_hasStretch (by decide) rfl (c_X2_hasStretch eq14) rfl (Nat.le_of_ble_eq_true rfl) ?_
              refine ev_if_ne 96 dX6_copy_90 (by decide) (fun c15 => ?_) (fun c15 => ?_)
              · have h := am_e c15 h
                refine ev_aload dX6_copy_96 1 rfl trivial ?_
                refine px_getR dX6_copy_98 gf_RX6_245 (at2 g7) (by decide) rfl ?_
                refine ev_iload_n dX6_copy_101 4 rfl ?_
                refine ev_aload dX6_copy_102 0 rfl trivial ?_
                refine px_getR dX6_copy_104 gf_RX6_245 (at2 g9) (by decide) rfl ?_
                refine ev_iload dX6_copy_107 6 rfl ?_
                refine ev_iload dX6_copy_109 7 rfl ?_
                obtain ⟨g16, h⟩ := am_gd h
                obtain ⟨u17, eu17, h⟩ := am_lt h
                refine px_acopy dX6_copy_111 tw_759 w_nat w_sta w_ini (by decide) (Nat.le_of_ble_eq_true rfl) g16 eu17 ?_
                refine ev_iload dX6_copy_114 7 rfl ?_
                obtain rfl := Option.some.inj h
                exact ev_iret dX6_copy_116 rfl rfl
              · have h := am_t c15 h
                refine ev_ldc (v := ((-1000000013) : Int32)) dX6_copy_93 tw_739 ?_
                obtain rfl := Option.some.inj h
                exact ev_iret dX6_copy_95 rfl rfl
          · have h := am_e c11 h
            refine ev_ldc (v := ((-1000000012) : Int32)) dX6_copy_67 tw_336 ?_
            obtain rfl := Option.some.inj h
            exact ev_iret dX6_copy_69 rfl rfl
        · have h := am_t c10 h
          refine ev_ldc (v := ((-1000000011) : Int32)) dX6_copy_51 tw_480 ?_
          obtain rfl := Option.some.inj h
          exact ev_iret dX6_copy_53 rfl rfl
    · have h := am_t c4 h
      refine ev_ldc (v := ((-1000000001) : Int32)) dX6_copy_14 tw_239 ?_
      obtain rfl := Option.some.inj h
      exact ev_iret dX6_copy_16 rfl rfl

theorem c_X6_copy {X : Nat × (Nat → Int32)} {u : am_MU} {l1 : Int32} {l2 : Int32} {l3 : Int32} {l4 : Int32} {l5 : Int32} {r : am_MU × Int32} (h : f_X6_copy u l1 l2 l3 l4 l5 = some r) : am_Cn X M_X6_copy [.ref 0, .int l1, .int l2, .int l3, .int l4, .int l5] (hp u) (hp r.1, some (.int r.2)) := by
  refine am_Cn.of ok_X6_copy (Nat.le_refl _) (Nat.le_refl _) (Nat.le_of_ble_eq_true rfl) ?_
  refine ev_loc [0, 1, 2, 3, 4, 5] rfl ?_
  exact l_X6_copy_0 u l1 l2 l3 l4 l5 r h

-- SandRipples.isSlot(I)Z
def f_X6_isSlot  (u : am_MU) (l0 : Int32) : Option (am_MU × Int32) :=
if l0 < 0 then (some (u, (0 : Int32)))
else (if (5 : Int32) ≤ l0 then (some (u, (0 : Int32)))
else (some (u, (1 : Int32))))

theorem l_X6_isSlot_0 {X : Nat × (Nat → Int32)}   (u : am_MU) (l0 : Int32) (r : am_MU × Int32) (h : f_X6_isSlot  u l0 = some r) : am_Ev X M_X6_isSlot 0 [(0, .int l0)] [] (hp u) (hp r.1, some (.int r.2)) := by
  unfold f_X6_isSlot at h
  refine ev_iload_n dX6_isSlot_0 0 rfl ?_
  refine ev_if_lt 13 dX6_isSlot_1 (by decide) (fun c1 => ?_) (fun c1 => ?_)
  · have h := am_t c1 h
    refine ev_iconst (v := (0 : Int32)) dX6_isSlot_13 kI_0 ?_
    obtain rfl := Option.some.inj h
    exact ev_iret dX6_isSlot_14 rfl (am_zn (Or.inl rfl))
  · have h := am_e c1 h
    refine ev_iload_n dX6_isSlot_4 0 rfl ?_
    refine ev_iconst (v := (5 : Int32)) dX6_isSlot_5 kI_5 ?_
    refine ev_icmp_ge 13 dX6_isSlot_6 (by decide) (fun c2 => ?_) (fun c2 => ?_)
    · have h := am_t c2 h
      refine ev_iconst (v := (0 : Int32)) dX6_isSlot_13 kI_0 ?_
      obtain rfl := Option.some.inj h
      exact ev_iret dX6_isSlot_14 rfl (am_zn (Or.inl rfl))
    · have h := am_e c2 h
      refine ev_iconst (v := (1 : Int32)) dX6_isSlot_9 kI_1 ?_
      refine ev_goto 14 dX6_isSlot_10 (by decide) ?_
      obtain rfl := Option.some.inj h
      exact ev_iret dX6_isSlot_14 rfl (am_zn (Or.inr rfl))

theorem c_X6_isSlot {X : Nat × (Nat → Int32)} {u : am_MU} {l0 : Int32} {r : am_MU × Int32} (h : f_X6_isSlot u l0 = some r) : am_Cn X M_X6_isSlot [.int l0] (hp u) (hp r.1, some (.int r.2)) := by
  refine am_Cn.of ok_X6_isSlot (Nat.le_refl _) (Nat.le_refl _) (Nat.le_of_ble_eq_true rfl) ?_
  refine ev_loc [0] rfl ?_
  exact l_X6_isSlot_0 u l0 r h

-- SandRipples$Sheet.become(LSandRipples$Sheet;)V
def f_X2_become  (u : am_MU) (l0 : Nat) (l1 : Nat) : Option (am_MU) :=
if tg l1 = 2 then (
if tg l0 = 2 then (
am_let (am_u2 u l0 0 (u l1 0)) fun u3 =>
am_let (am_u2 u3 l0 1 (u3 l1 1)) fun u4 =>
if am_cpok (l1 + 1) (l0 + 1) (0 : Int32) (0 : Int32) (24 : Int32) then (
am_let (am_ur u4 (l0 + 1) (va_cpy (u4 (l1 + 1)) (u4 (l0 + 1)) (0 : Int32).toNatClampNeg (0 : Int32).toNatClampNeg (24 : Int32).toNatClampNeg)) fun u6 =>
some u6) else none) else none) else none

theorem l_X2_become_0 {X : Nat × (Nat → Int32)}   (u : am_MU) (l0 : Nat) (l1 : Nat) (r : am_MU) (h : f_X2_become  u l0 l1 = some r) : am_Ev X M_X2_become 0 [(0, .ref l0), (1, .ref l1)] [] (hp u) (hp r, none) := by
  unfold f_X2_become at h
  refine ev_aload_n dX2_become_0 0 rfl trivial ?_
  refine ev_aload_n dX2_become_1 1 rfl trivial ?_
  obtain ⟨g1, h⟩ := am_gd h
  refine px_getI dX2_become_2 gf_RX2_9 (at2 g1) (by decide) rfl ?_
  obtain ⟨g2, h⟩ := am_gd h
  obtain ⟨u3, eu3, h⟩ := am_lt h
  refine px_putI dX2_become_5 pf_RX2_9 (at2 g2) (by decide) rfl eu3 ?_
  refine ev_aload_n dX2_become_8 0 rfl trivial ?_
  refine ev_aload_n dX2_become_9 1 rfl trivial ?_
  refine px_getI dX2_become_10 gf_RX2_15 (at2 g1) (by decide) rfl ?_
  obtain ⟨u4, eu4, h⟩ := am_lt h
  refine px_putI dX2_become_13 pf_RX2_15 (at2 g2) (by decide) rfl eu4 ?_
  refine ev_aload_n dX2_become_16 1 rfl trivial ?_
  refine px_getR dX2_become_17 gf_RX2_18 (at2 g1) (by decide) rfl ?_
  refine ev_iconst (v := (0 : Int32)) dX2_become_20 kI_0 ?_
  refine ev_aload_n dX2_become_21 0 rfl trivial ?_
  refine px_getR dX2_become_22 gf_RX2_18 (at2 g2) (by decide) rfl ?_
  refine ev_iconst (v := (0 : Int32)) dX2_become_25 kI_0 ?_
  refine ev_bipush (v := (24 : Int32)) dX2_become_26 kB_24 ?_
  obtain ⟨g5, h⟩ := am_gd h
  obtain ⟨u6, eu6, h⟩ := am_lt h
  refine px_acopy dX2_become_28 tw_771 w_nat w_sta w_ini (by decide) (Nat.le_of_ble_eq_true rfl) g5 eu6 ?_
  obtain rfl := Option.some.inj h
  exact ev_vret dX2_become_31 rfl

theorem c_X2_become {X : Nat × (Nat → Int32)} {u : am_MU} {l0 : Nat} {l1 : Nat} {r : am_MU} (h : f_X2_become u l0 l1 = some r) : am_Cn X M_X2_become [.ref l0, .ref l1] (hp u) (hp r, none) := by
  refine am_Cn.of ok_X2_become (Nat.le_refl _) (Nat.le_refl _) (Nat.le_of_ble_eq_true rfl) ?_
  refine ev_loc [0, 1] rfl ?_
  exact l_X2_become_0 u l0 l1 r h

-- SandRipples.lay(III)I
def g_X6_lay_68  (u : am_MU) (l1 : Int32) (l2 : Int32) (l3 : Int32) : Option (am_MU × Int32) :=
if am_in l1 5 then (
if tg (85 + 5 * l1.toNatClampNeg) = 3 then (
am_let (u (85 + 5 * l1.toNatClampNeg) 0) fun x3 =>
am_let (am_u2 u (85 + 5 * l1.toNatClampNeg) 0 l2) fun u4 =>
if l2 = (1 : Int32) then (if am_in l3 6 then (
(f_X0_become u4 ((85 + 5 * l1.toNatClampNeg) + 1) (5 + 2 * l3.toNatClampNeg)).bind fun q12 =>
some (q12, x3)) else none)
else (if l2 = (2 : Int32) then (if am_in l3 4 then (
(f_X2_become u4 ((85 + 5 * l1.toNatClampNeg) + 3) (77 + 2 * l3.toNatClampNeg)).bind fun q10 =>
some (q10, x3)) else none)
else (if l2 = (3 : Int32) then (am_let (am_u2 u4 (85 + 5 * l1.toNatClampNeg) 3 l3) fun u8 =>
some (u8, x3))
else (some (u4, x3))))) else none) else none

def g_X6_lay_47  (u : am_MU) (l1 : Int32) (l2 : Int32) (l3 : Int32) : Option (am_MU × Int32) :=
if l2 = (2 : Int32) then (if am_in l3 4 then (
if tg (77 + 2 * l3.toNatClampNeg) = 2 then (
if (u (77 + 2 * l3.toNatClampNeg) 0) = ((-1) : Int32) then (some (u, ((-1000000011) : Int32)))
else (g_X6_lay_68 u l1 l2 l3)) else none) else none)
else (g_X6_lay_68 u l1 l2 l3)

def g_X6_lay_32  (u : am_MU) (l1 : Int32) (l2 : Int32) (l3 : Int32) : Option (am_MU × Int32) :=
if l2 = (2 : Int32) then ((f_X6_isSheet u l3).bind fun q2 =>
if q2.2 = 0 then (some (q2.1, ((-1000000001) : Int32)))
else (g_X6_lay_47 q2.1 l1 l2 l3))
else (g_X6_lay_47 u l1 l2 l3)

def f_X6_lay  (u : am_MU) (l1 : Int32) (l2 : Int32) (l3 : Int32) : Option (am_MU × Int32) :=
(f_X6_isSlot u l1).bind fun q1 =>
if q1.2 = 0 then (some (q1.1, ((-1000000001) : Int32)))
else (if l2 < 0 then (some (q1.1, ((-1000000001) : Int32)))
else (if l2 ≤ (3 : Int32) then (if l2 = (1 : Int32) then ((f_X6_isFloor q1.1 l3).bind fun q6 =>
if q6.2 = 0 then (some (q6.1, ((-1000000001) : Int32)))
else (g_X6_lay_32 q6.1 l1 l2 l3))
else (g_X6_lay_32 q1.1 l1 l2 l3))
else (some (q1.1, ((-1000000001) : Int32)))))

theorem l_X6_lay_68 {X : Nat × (Nat → Int32)}   (u : am_MU) (l1 : Int32) (l2 : Int32) (l3 : Int32) (r : am_MU × Int32) (h : g_X6_lay_68  u l1 l2 l3 = some r) : am_Ev X M_X6_lay 68 [(0, .ref 0), (1, .int l1), (2, .int l2), (3, .int l3)] [] (hp u) (hp r.1, some (.int r.2)) := by
  unfold g_X6_lay_68 at h
  refine ev_aload_n dX6_lay_68 0 rfl trivial ?_
  refine px_getR dX6_lay_69 gf_RX6_63 (at6 rfl) (by decide) rfl ?_
  refine ev_iload_n dX6_lay_72 1 rfl ?_
  obtain ⟨g1, h⟩ := am_gd h
  refine px_aald6 (n := 5) dX6_lay_73 rfl rfl g1 ?_
  refine ev_astore (L' := [(4, .ref (85 + 5 * l1.toNatClampNeg)), (0, .ref 0), (1, .int l1), (2, .int l2), (3, .int l3)]) dX6_lay_74 trivial (by decide) rfl ?_
  refine ev_aload dX6_lay_76 0 rfl trivial ?_
  obtain ⟨g2, h⟩ := am_gd h
  refine px_getI dX6_lay_78 gf_RX6_269 (at3 g2) (by decide) rfl ?_
  obtain ⟨x3, ex3, h⟩ := am_lt h
  refine px_top ex3 ?_
  refine ev_istore (L' := [(5, .int x3), (4, .ref (85 + 5 * l1.toNatClampNeg)), (0, .ref 0), (1, .int l1), (2, .int l2), (3, .int l3)]) dX6_lay_81 (by decide) rfl ?_
  refine ev_aload dX6_lay_83 1 rfl trivial ?_
  refine ev_iload_n dX6_lay_85 4 rfl ?_
  obtain ⟨u4, eu4, h⟩ := am_lt h
  refine px_putI dX6_lay_86 pf_RX6_269 (at3 g2) (by decide) rfl eu4 ?_
  refine ev_iload_n dX6_lay_89 4 rfl ?_
  refine ev_iconst (v := (1 : Int32)) dX6_lay_90 kI_1 ?_
  refine ev_icmp_ne 114 dX6_lay_91 (by decide) (fun c5 => ?_) (fun c5 => ?_)
  · have h := am_e c5 h
    refine ev_iload_n dX6_lay_114 4 rfl ?_
    refine ev_iconst (v := (2 : Int32)) dX6_lay_115 kI_2 ?_
    refine ev_icmp_ne 136 dX6_lay_116 (by decide) (fun c6 => ?_) (fun c6 => ?_)
    · have h := am_e c6 h
      refine ev_iload_n dX6_lay_136 4 rfl ?_
      refine ev_iconst (v := (3 : Int32)) dX6_lay_137 kI_3 ?_
      refine ev_icmp_ne 147 dX6_lay_138 (by decide) (fun c7 => ?_) (fun c7 => ?_)
      · have h := am_e c7 h
        refine ev_iload dX6_lay_147 0 rfl ?_
        obtain rfl := Option.some.inj h
        exact ev_iret dX6_lay_149 rfl rfl
      · have h := am_t c7 h
        refine ev_aload dX6_lay_141 1 rfl trivial ?_
        refine ev_iload_n dX6_lay_143 5 rfl ?_
        obtain ⟨u8, eu8, h⟩ := am_lt h
        refine px_putI dX6_lay_144 pf_RX6_287 (at3 g2) (by decide) rfl eu8 ?_
        refine ev_iload dX6_lay_147 0 rfl ?_
        obtain rfl := Option.some.inj h
        exact ev_iret dX6_lay_149 rfl rfl
    · have h := am_t c6 h
      refine ev_aload dX6_lay_119 1 rfl trivial ?_
      refine px_getR dX6_lay_121 gf_RX6_280 (at3 g2) (by decide) rfl ?_
      refine ev_aload_n dX6_lay_124 2 rfl trivial ?_
      refine px_getR dX6_lay_125 gf_RX6_57 (at6 rfl) (by decide) rfl ?_
      refine ev_iload_n dX6_lay_128 5 rfl ?_
      obtain ⟨g9, h⟩ := am_gd h
      refine px_aald5 (n := 4) dX6_lay_129 rfl rfl g9 ?_
      obtain ⟨q10, eq10, h⟩ := am_bd h
      refine px_callvv [.ref (77 + 2 * l3.toNatClampNeg)] (by decide) cl_2 (at2 (tg3s g2)) dX6_lay_130 ok_X2_become lk_RX6_284 in_X2_become se_X2_become (by decide) rfl (c_X2_become eq10) rfl (Nat.le_of_ble_eq_true rfl) ?_
      refine ev_goto 147 dX6_lay_133 (by decide) ?_
      refine ev_iload dX6_lay_147 0 rfl ?_
      obtain rfl := Option.some.inj h
      exact ev_iret dX6_lay_149 rfl rfl
  · have h := am_t c5 h
    refine ev_aload dX6_lay_94 1 rfl trivial ?_
    refine px_getR dX6_lay_96 gf_RX6_272 (at3 g2) (by decide) rfl ?_
    refine ev_aload_n dX6_lay_99 2 rfl trivial ?_
    refine px_getR dX6_lay_100 gf_RX6_14 (at6 rfl) (by decide) rfl ?_
    refine px_getR dX6_lay_103 gf_RX6_85 (at5 rfl) (by decide) rfl ?_
    refine ev_iload_n dX6_lay_106 5 rfl ?_
    obtain ⟨g11, h⟩ := am_gd h
    refine px_aald3 (n := 6) dX6_lay_107 rfl rfl g11 ?_
    obtain ⟨q12, eq12, h⟩ := am_bd h
    refine px_callvv [.ref (5 + 2 * l3.toNatClampNeg)] (by decide) cl_0 (at0 (tg3f g2)) dX6_lay_108 ok_X0_become lk_RX6_276 in_X0_become se_X0_become (by decide) rfl (c_X0_become eq12) rfl (Nat.le_of_ble_eq_true rfl) ?_
    refine ev_goto 147 dX6_lay_111 (by decide) ?_
    refine ev_iload dX6_lay_147 0 rfl ?_
    obtain rfl := Option.some.inj h
    exact ev_iret dX6_lay_149 rfl rfl

theorem l_X6_lay_47 {X : Nat × (Nat → Int32)}   (u : am_MU) (l1 : Int32) (l2 : Int32) (l3 : Int32) (r : am_MU × Int32) (h : g_X6_lay_47  u l1 l2 l3 = some r) : am_Ev X M_X6_lay 47 [(0, .ref 0), (1, .int l1), (2, .int l2), (3, .int l3)] [] (hp u) (hp r.1, some (.int r.2)) := by
  unfold g_X6_lay_47 at h
  refine ev_iload_n dX6_lay_47 2 rfl ?_
  refine ev_iconst (v := (2 : Int32)) dX6_lay_48 kI_2 ?_
  refine ev_icmp_ne 68 dX6_lay_49 (by decide) (fun c1 => ?_) (fun c1 => ?_)
  · have h := am_e c1 h
    refine ev_loc [0, 1, 2, 3] rfl ?_
    exact l_X6_lay_68   u l1 l2 l3 _ h
  · have h := am_t c1 h
    refine ev_aload_n dX6_lay_52 0 rfl trivial ?_
    refine px_getR dX6_lay_53 gf_RX6_57 (at6 rfl) (by decide) rfl ?_
    refine ev_iload_n dX6_lay_56 3 rfl ?_
    obtain ⟨g2, h⟩ := am_gd h
    refine px_aald5 (n := 4) dX6_lay_57 rfl rfl g2 ?_
    obtain ⟨g3, h⟩ := am_gd h
    refine px_getI dX6_lay_58 gf_RX6_199 (at2 g3) (by decide) rfl ?_
    refine ev_iconst (v := ((-1) : Int32)) dX6_lay_61 kI_m1 ?_
    refine ev_icmp_ne 68 dX6_lay_62 (by decide) (fun c4 => ?_) (fun c4 => ?_)
    · have h := am_e c4 h
      refine ev_loc [0, 1, 2, 3] rfl ?_
      exact l_X6_lay_68   u l1 l2 l3 _ h
    · have h := am_t c4 h
      refine ev_ldc (v := ((-1000000011) : Int32)) dX6_lay_65 tw_480 ?_
      obtain rfl := Option.some.inj h
      exact ev_iret dX6_lay_67 rfl rfl

theorem l_X6_lay_32 {X : Nat × (Nat → Int32)}   (u : am_MU) (l1 : Int32) (l2 : Int32) (l3 : Int32) (r : am_MU × Int32) (h : g_X6_lay_32  u l1 l2 l3 = some r) : am_Ev X M_X6_lay 32 [(0, .ref 0), (1, .int l1), (2, .int l2), (3, .int l3)] [] (hp u) (hp r.1, some (.int r.2)) := by
  unfold g_X6_lay_32 at h
  refine ev_iload_n dX6_lay_32 2 rfl ?_
  refine ev_iconst (v := (2 : Int32)) dX6_lay_33 kI_2 ?_
  refine ev_icmp_ne 47 dX6_lay_34 (by decide) (fun c1 => ?_) (fun c1 => ?_)
  · have h := am_e c1 h
    refine ev_loc [0, 1, 2, 3] rfl ?_
    exact l_X6_lay_47   u l1 l2 l3 _ h
  · have h := am_t c1 h
    refine ev_iload_n dX6_lay_37 3 rfl ?_
    obtain ⟨q2, eq2, h⟩ := am_bd h
    refine px_callsi [.int l3] dX6_lay_38 ok_X6_isSheet lk_RX6_196 st_X6_isSheet (by decide) rfl (c_X6_isSheet eq2) rfl (Nat.le_of_ble_eq_true rfl) ?_
    refine ev_if_ne 47 dX6_lay_41 (by decide) (fun c3 => ?_) (fun c3 => ?_)
    · have h := am_e c3 h
      refine ev_loc [0, 1, 2, 3] rfl ?_
      exact l_X6_lay_47   q2.1 l1 l2 l3 _ h
    · have h := am_t c3 h
      refine ev_ldc (v := ((-1000000001) : Int32)) dX6_lay_44 tw_239 ?_
      obtain rfl := Option.some.inj h
      exact ev_iret dX6_lay_46 rfl rfl

theorem l_X6_lay_0 {X : Nat × (Nat → Int32)}   (u : am_MU) (l1 : Int32) (l2 : Int32) (l3 : Int32) (r : am_MU × Int32) (h : f_X6_lay  u l1 l2 l3 = some r) : am_Ev X M_X6_lay 0 [(0, .ref 0), (1, .int l1), (2, .int l2), (3, .int l3)] [] (hp u) (hp r.1, some (.int r.2)) := by
  unfold f_X6_lay at h
  refine ev_iload_n dX6_lay_0 1 rfl ?_
  obtain ⟨q1, eq1, h⟩ := am_bd h
  refine px_callsi [.int l1] dX6_lay_1 ok_X6_isSlot lk_RX6_266 st_X6_isSlot (by decide) rfl (c_X6_isSlot eq1) rfl (Nat.le_of_ble_eq_true rfl) ?_
  refine ev_if_eq 16 dX6_lay_4 (by decide) (fun c2 => ?_) (fun c2 => ?_)
  · have h := am_t c2 h
    refine ev_ldc (v := ((-1000000001) : Int32)) dX6_lay_16 tw_239 ?_
    obtain rfl := Option.some.inj h
    exact ev_iret dX6_lay_18 rfl rfl
  · have h := am_e c2 h
    refine ev_iload_n dX6_lay_7 2 rfl ?_
    refine ev_if_lt 16 dX6_lay_8 (by decide) (fun c3 => ?_) (fun c3 => ?_)
    · have h := am_t c3 h
      refine ev_ldc (v := ((-1000000001) : Int32)) dX6_lay_16 tw_239 ?_
      obtain rfl := Option.some.inj h
      exact ev_iret dX6_lay_18 rfl rfl
    · have h := am_e c3 h
      refine ev_iload_n dX6_lay_11 2 rfl ?_
      refine ev_iconst (v := (3 : Int32)) dX6_lay_12 kI_3 ?_
      refine ev_icmp_le 19 dX6_lay_13 (by decide) (fun c4 => ?_) (fun c4 => ?_)
      · have h := am_t c4 h
        refine ev_iload_n dX6_lay_19 2 rfl ?_
        refine ev_iconst (v := (1 : Int32)) dX6_lay_20 kI_1 ?_
        refine ev_icmp_ne 32 dX6_lay_21 (by decide) (fun c5 => ?_) (fun c5 => ?_)
        · have h := am_e c5 h
          refine ev_loc [0, 1, 2, 3] rfl ?_
          exact l_X6_lay_32   q1.1 l1 l2 l3 _ h
        · have h := am_t c5 h
          refine ev_aload_n dX6_lay_24 0 rfl trivial ?_
          refine ev_iload_n dX6_lay_25 3 rfl ?_
          obtain ⟨q6, eq6, h⟩ := am_bd h
          refine px_callvi [.int l3] (by decide) cl_6 (at6 rfl) dX6_lay_26 ok_X6_isFloor lk_RX6_94 in_X6_isFloor se_X6_isFloor (by decide) rfl (c_X6_isFloor eq6) rfl (Nat.le_of_ble_eq_true rfl) ?_
          refine ev_if_eq 44 dX6_lay_29 (by decide) (fun c7 => ?_) (fun c7 => ?_)
          · have h := am_t c7 h
            refine ev_ldc (v := ((-1000000001) : Int32)) dX6_lay_44 tw_239 ?_
            obtain rfl := Option.some.inj h
            exact ev_iret dX6_lay_46 rfl rfl
          · have h := am_e c7 h
            refine ev_loc [0, 1, 2, 3] rfl ?_
            exact l_X6_lay_32   q6.1 l1 l2 l3 _ h
      · have h := am_e c4 h
        refine ev_ldc (v := ((-1000000001) : Int32)) dX6_lay_16 tw_239 ?_
        obtain rfl := Option.some.inj h
        exact ev_iret dX6_lay_18 rfl rfl

theorem c_X6_lay {X : Nat × (Nat → Int32)} {u : am_MU} {l1 : Int32} {l2 : Int32} {l3 : Int32} {r : am_MU × Int32} (h : f_X6_lay u l1 l2 l3 = some r) : am_Cn X M_X6_lay [.ref 0, .int l1, .int l2, .int l3] (hp u) (hp r.1, some (.int r.2)) := by
  refine am_Cn.of ok_X6_lay (Nat.le_refl _) (Nat.le_refl _) (Nat.le_of_ble_eq_true rfl) ?_
  refine ev_loc [0, 1, 2, 3] rfl ?_
  exact l_X6_lay_0 u l1 l2 l3 r h

-- SandRipples.ask(II)I
def f_X6_ask  (u : am_MU) (l1 : Int32) (l2 : Int32) : Option (am_MU × Int32) :=
(f_X6_isSlot u l1).bind fun q1 =>
if q1.2 = 0 then (some (q1.1, ((-1000000001) : Int32)))
else ((f_X6_isKind q1.1 l2).bind fun q3 =>
if q3.2 = 0 then (some (q3.1, ((-1000000001) : Int32)))
else (if am_in l1 5 then (
if tg (85 + 5 * l1.toNatClampNeg) = 3 then (
if (q3.1 (85 + 5 * l1.toNatClampNeg) 0) = 0 then (some (q3.1, ((-1000000011) : Int32)))
else (if (q3.1 (85 + 5 * l1.toNatClampNeg) 0) = (1 : Int32) then ((f_X6_isUnder q3.1 (q3.1 ((85 + 5 * l1.toNatClampNeg) + 1) 2) l2).bind fun q9 =>
if q9.2 = 0 then (some (q9.1, ((-1000000012) : Int32)))
else ((f_X0_worth q9.1 ((85 + 5 * l1.toNatClampNeg) + 1)).bind fun q11 =>
some (q11.1, q11.2)))
else (some (q3.1, ((-1000000012) : Int32))))) else none) else none))

theorem l_X6_ask_0 {X : Nat × (Nat → Int32)}   (u : am_MU) (l1 : Int32) (l2 : Int32) (r : am_MU × Int32) (h : f_X6_ask  u l1 l2 = some r) : am_Ev X M_X6_ask 0 [(0, .ref 0), (1, .int l1), (2, .int l2)] [] (hp u) (hp r.1, some (.int r.2)) := by
  unfold f_X6_ask at h
  refine ev_iload_n dX6_ask_0 1 rfl ?_
  obtain ⟨q1, eq1, h⟩ := am_bd h
  refine px_callsi [.int l1] dX6_ask_1 ok_X6_isSlot lk_RX6_266 st_X6_isSlot (by decide) rfl (c_X6_isSlot eq1) rfl (Nat.le_of_ble_eq_true rfl) ?_
  refine ev_if_eq 14 dX6_ask_4 (by decide) (fun c2 => ?_) (fun c2 => ?_)
  · have h := am_t c2 h
    refine ev_ldc (v := ((-1000000001) : Int32)) dX6_ask_14 tw_239 ?_
    obtain rfl := Option.some.inj h
    exact ev_iret dX6_ask_16 rfl rfl
  · have h := am_e c2 h
    refine ev_iload_n dX6_ask_7 2 rfl ?_
    obtain ⟨q3, eq3, h⟩ := am_bd h
    refine px_callsi [.int l2] dX6_ask_8 ok_X6_isKind lk_RX6_76 st_X6_isKind (by decide) rfl (c_X6_isKind eq3) rfl (Nat.le_of_ble_eq_true rfl) ?_
    refine ev_if_ne 17 dX6_ask_11 (by decide) (fun c4 => ?_) (fun c4 => ?_)
    · have h := am_e c4 h
      refine ev_aload_n dX6_ask_17 0 rfl trivial ?_
      refine px_getR dX6_ask_18 gf_RX6_63 (at6 rfl) (by decide) rfl ?_
      refine ev_iload_n dX6_ask_21 1 rfl ?_
      obtain ⟨g5, h⟩ := am_gd h
      refine px_aald6 (n := 5) dX6_ask_22 rfl rfl g5 ?_
      refine ev_astore_n (L' := [(3, .ref (85 + 5 * l1.toNatClampNeg)), (0, .ref 0), (1, .int l1), (2, .int l2)]) dX6_ask_23 trivial (by decide) rfl ?_
      refine ev_aload_n dX6_ask_24 0 rfl trivial ?_
      obtain ⟨g6, h⟩ := am_gd h
      refine px_getI dX6_ask_25 gf_RX6_269 (at3 g6) (by decide) rfl ?_
      refine ev_if_ne 34 dX6_ask_28 (by decide) (fun c7 => ?_) (fun c7 => ?_)
      · have h := am_e c7 h
        refine ev_aload_n dX6_ask_34 0 rfl trivial ?_
        refine px_getI dX6_ask_35 gf_RX6_269 (at3 g6) (by decide) rfl ?_
        refine ev_iconst (v := (1 : Int32)) dX6_ask_38 kI_1 ?_
        refine ev_icmp_ne 56 dX6_ask_39 (by decide) (fun c8 => ?_) (fun c8 => ?_)
        · have h := am_e c8 h
          refine ev_ldc (v := ((-1000000012) : Int32)) dX6_ask_56 tw_336 ?_
          obtain rfl := Option.some.inj h
          exact ev_iret dX6_ask_58 rfl rfl
        · have h := am_t c8 h
          refine ev_aload_n dX6_ask_42 0 rfl trivial ?_
          refine px_getR dX6_ask_43 gf_RX6_272 (at3 g6) (by decide) rfl ?_
          refine px_getI dX6_ask_46 gf_RX6_97 (at0 (tg3f g6)) (by decide) rfl ?_
          refine ev_iload_n dX6_ask_49 3 rfl ?_
          obtain ⟨q9, eq9, h⟩ := am_bd h
          refine px_callsi [.int (q3.1 ((85 + 5 * l1.toNatClampNeg) + 1) 2), .int l2] dX6_ask_50 ok_X6_isUnder lk_RX6_132 st_X6_isUnder (by decide) rfl (c_X6_isUnder eq9) rfl (Nat.le_of_ble_eq_true rfl) ?_
          refine ev_if_ne 59 dX6_ask_53 (by decide) (fun c10 => ?_) (fun c10 => ?_)
          · have h := am_e c10 h
            refine ev_aload_n dX6_ask_59 0 rfl trivial ?_
            refine px_getR dX6_ask_60 gf_RX6_272 (at3 g6) (by decide) rfl ?_
            obtain ⟨q11, eq11, h⟩ := am_bd h
            refine px_callvi [] (by decide) cl_0 (at0 (tg3f g6)) dX6_ask_63 ok_X0_worth lk_RX6_119 in_X0_worth se_X0_worth (by decide) rfl (c_X0_worth eq11) rfl (Nat.le_of_ble_eq_true rfl) ?_
            obtain rfl := Option.some.inj h
            exact ev_iret dX6_ask_66 rfl rfl
          · have h := am_t c10 h
            refine ev_ldc (v := ((-1000000012) : Int32)) dX6_ask_56 tw_336 ?_
            obtain rfl := Option.some.inj h
            exact ev_iret dX6_ask_58 rfl rfl
      · have h := am_t c7 h
        refine ev_ldc (v := ((-1000000011) : Int32)) dX6_ask_31 tw_480 ?_
        obtain rfl := Option.some.inj h
        exact ev_iret dX6_ask_33 rfl rfl
    · have h := am_t c4 h
      refine ev_ldc (v := ((-1000000001) : Int32)) dX6_ask_14 tw_239 ?_
      obtain rfl := Option.some.inj h
      exact ev_iret dX6_ask_16 rfl rfl

theorem c_X6_ask {X : Nat × (Nat → Int32)} {u : am_MU} {l1 : Int32} {l2 : Int32} {r : am_MU × Int32} (h : f_X6_ask u l1 l2 = some r) : am_Cn X M_X6_ask [.ref 0, .int l1, .int l2] (hp u) (hp r.1, some (.int r.2)) := by
  refine am_Cn.of ok_X6_ask (Nat.le_refl _) (Nat.le_refl _) (Nat.le_of_ble_eq_true rfl) ?_
  refine ev_loc [0, 1, 2] rfl ?_
  exact l_X6_ask_0 u l1 l2 r h

-- SandRipples.item(II)I
def f_X6_item  (u : am_MU) (l1 : Int32) (l2 : Int32) : Option (am_MU × Int32) :=
(f_X6_isSlot u l1).bind fun q1 =>
if q1.2 = 0 then (some (q1.1, ((-1000000001) : Int32)))
else (if am_in l1 5 then (
if tg (85 + 5 * l1.toNatClampNeg) = 3 then (
if (q1.1 (85 + 5 * l1.toNatClampNeg) 0) = 0 then (some (q1.1, ((-1000000011) : Int32)))
else (if (q1.1 (85 + 5 * l1.toNatClampNeg) 0) = (2 : Int32) then ((f_X2_hasPlace q1.1 ((85 + 5 * l1.toNatClampNeg) + 3) l2).bind fun q7 =>
if q7.2 = 0 then (some (q7.1, ((-1000000013) : Int32)))
else ((f_X2_isNumber q7.1 ((85 + 5 * l1.toNatClampNeg) + 3) l2).bind fun q9 =>
if q9.2 = 0 then (some (q9.1, ((-1000000012) : Int32)))
else (if am_in l2 24 then (
some (q9.1, q9.1 (((85 + 5 * l1.toNatClampNeg) + 3) + 1) l2.toNatClampNeg)) else none)))
else (some (q1.1, ((-1000000012) : Int32))))) else none) else none)

theorem l_X6_item_0 {X : Nat × (Nat → Int32)}   (u : am_MU) (l1 : Int32) (l2 : Int32) (r : am_MU × Int32) (h : f_X6_item  u l1 l2 = some r) : am_Ev X M_X6_item 0 [(0, .ref 0), (1, .int l1), (2, .int l2)] [] (hp u) (hp r.1, some (.int r.2)) := by
  unfold f_X6_item at h
  refine ev_iload_n dX6_item_0 1 rfl ?_
  obtain ⟨q1, eq1, h⟩ := am_bd h
  refine px_callsi [.int l1] dX6_item_1 ok_X6_isSlot lk_RX6_266 st_X6_isSlot (by decide) rfl (c_X6_isSlot eq1) rfl (Nat.le_of_ble_eq_true rfl) ?_
  refine ev_if_ne 10 dX6_item_4 (by decide) (fun c2 => ?_) (fun c2 => ?_)
  · have h := am_e c2 h
    refine ev_aload_n dX6_item_10 0 rfl trivial ?_
    refine px_getR dX6_item_11 gf_RX6_63 (at6 rfl) (by decide) rfl ?_
    refine ev_iload_n dX6_item_14 1 rfl ?_
    obtain ⟨g3, h⟩ := am_gd h
    refine px_aald6 (n := 5) dX6_item_15 rfl rfl g3 ?_
    refine ev_astore_n (L' := [(3, .ref (85 + 5 * l1.toNatClampNeg)), (0, .ref 0), (1, .int l1), (2, .int l2)]) dX6_item_16 trivial (by decide) rfl ?_
    refine ev_aload_n dX6_item_17 0 rfl trivial ?_
    obtain ⟨g4, h⟩ := am_gd h
    refine px_getI dX6_item_18 gf_RX6_269 (at3 g4) (by decide) rfl ?_
    refine ev_if_ne 27 dX6_item_21 (by decide) (fun c5 => ?_) (fun c5 => ?_)
    · have h := am_e c5 h
      refine ev_aload_n dX6_item_27 0 rfl trivial ?_
      refine px_getI dX6_item_28 gf_RX6_269 (at3 g4) (by decide) rfl ?_
      refine ev_iconst (v := (2 : Int32)) dX6_item_31 kI_2 ?_
      refine ev_icmp_eq 38 dX6_item_32 (by decide) (fun c6 => ?_) (fun c6 => ?_)
      · have h := am_t c6 h
        refine ev_aload_n dX6_item_38 0 rfl trivial ?_
        refine px_getR dX6_item_39 gf_RX6_280 (at3 g4) (by decide) rfl ?_
        refine ev_iload_n dX6_item_42 3 rfl ?_
        obtain ⟨q7, eq7, h⟩ := am_bd h
        refine px_callvi [.int l2] (by decide) cl_2 (at2 (tg3s g4)) dX6_item_43 ok_X2_hasPlace lk_RX6_241 in_X2_hasPlace se_X2_hasPlace (by decide) rfl (c_X2_hasPlace eq7) rfl (Nat.le_of_ble_eq_true rfl) ?_
        refine ev_if_ne 52 dX6_item_46 (by decide) (fun c8 => ?_) (fun c8 => ?_)
        · have h := am_e c8 h
          refine ev_aload_n dX6_item_52 0 rfl trivial ?_
          refine px_getR dX6_item_53 gf_RX6_280 (at3 g4) (by decide) rfl ?_
          refine ev_iload_n dX6_item_56 3 rfl ?_
          obtain ⟨q9, eq9, h⟩ := am_bd h
          refine px_callvi [.int l2] (by decide) cl_2 (at2 (tg3s g4)) dX6_item_57 ok_X2_isNumber lk_RX6_250 in_X2_isNumber se_X2_isNumber (by decide) rfl (c_X2_isNumber eq9) rfl (Nat.le_of_ble_eq_true rfl) ?_
          refine ev_if_eq 75 dX6_item_60 (by decide) (fun c10 => ?_) (fun c10 => ?_)
          · have h := am_t c10 h
            refine ev_ldc (v := ((-1000000012) : Int32)) dX6_item_75 tw_336 ?_
            obtain rfl := Option.some.inj h
            exact ev_iret dX6_item_77 rfl rfl
          · have h := am_e c10 h
            refine ev_aload_n dX6_item_63 0 rfl trivial ?_
            refine px_getR dX6_item_64 gf_RX6_280 (at3 g4) (by decide) rfl ?_
            refine px_getR dX6_item_67 gf_RX6_245 (at2 (tg3s g4)) (by decide) rfl ?_
            refine ev_iload_n dX6_item_70 3 rfl ?_
            obtain ⟨g11, h⟩ := am_gd h
            refine px_iald (n := 24) l2.toNatClampNeg dX6_item_71 (il2 (tg3s g4)) g11 rfl ?_
            refine ev_goto 77 dX6_item_72 (by decide) ?_
            obtain rfl := Option.some.inj h
            exact ev_iret dX6_item_77 rfl rfl
        · have h := am_t c8 h
          refine ev_ldc (v := ((-1000000013) : Int32)) dX6_item_49 tw_739 ?_
          obtain rfl := Option.some.inj h
          exact ev_iret dX6_item_51 rfl rfl
      · have h := am_e c6 h
        refine ev_ldc (v := ((-1000000012) : Int32)) dX6_item_35 tw_336 ?_
        obtain rfl := Option.some.inj h
        exact ev_iret dX6_item_37 rfl rfl
    · have h := am_t c5 h
      refine ev_ldc (v := ((-1000000011) : Int32)) dX6_item_24 tw_480 ?_
      obtain rfl := Option.some.inj h
      exact ev_iret dX6_item_26 rfl rfl
  · have h := am_t c2 h
    refine ev_ldc (v := ((-1000000001) : Int32)) dX6_item_7 tw_239 ?_
    obtain rfl := Option.some.inj h
    exact ev_iret dX6_item_9 rfl rfl

theorem c_X6_item {X : Nat × (Nat → Int32)} {u : am_MU} {l1 : Int32} {l2 : Int32} {r : am_MU × Int32} (h : f_X6_item u l1 l2 = some r) : am_Cn X M_X6_item [.ref 0, .int l1, .int l2] (hp u) (hp r.1, some (.int r.2)) := by
  refine am_Cn.of ok_X6_item (Nat.le_refl _) (Nat.le_refl _) (Nat.le_of_ble_eq_true rfl) ?_
  refine ev_loc [0, 1, 2] rfl ?_
  exact l_X6_item_0 u l1 l2 r h

-- SandRipples.rest(II)I
def f_X6_rest  (u : am_MU) (l1 : Int32) (l2 : Int32) : Option (am_MU × Int32) :=
(f_X6_isSlot u l1).bind fun q1 =>
if q1.2 = 0 then (some (q1.1, ((-1000000001) : Int32)))
else (if am_in l1 5 then (
if tg (85 + 5 * l1.toNatClampNeg) = 3 then (
if (q1.1 (85 + 5 * l1.toNatClampNeg) 0) = 0 then (some (q1.1, ((-1000000011) : Int32)))
else (if (q1.1 (85 + 5 * l1.toNatClampNeg) 0) = (3 : Int32) then (if l2 = 0 then (some (q1.1, ((-1000000002) : Int32)))
else (if ¬ l2 = 0 then (
some (q1.1, (q1.1 (85 + 5 * l1.toNatClampNeg) 3) - (q1.1 (85 + 5 * l1.toNatClampNeg) 3) / l2 * l2)) else none))
else (some (q1.1, ((-1000000012) : Int32))))) else none) else none)

theorem l_X6_rest_0 {X : Nat × (Nat → Int32)}   (u : am_MU) (l1 : Int32) (l2 : Int32) (r : am_MU × Int32) (h : f_X6_rest  u l1 l2 = some r) : am_Ev X M_X6_rest 0 [(0, .ref 0), (1, .int l1), (2, .int l2)] [] (hp u) (hp r.1, some (.int r.2)) := by
  unfold f_X6_rest at h
  refine ev_iload_n dX6_rest_0 1 rfl ?_
  obtain ⟨q1, eq1, h⟩ := am_bd h
  refine px_callsi [.int l1] dX6_rest_1 ok_X6_isSlot lk_RX6_266 st_X6_isSlot (by decide) rfl (c_X6_isSlot eq1) rfl (Nat.le_of_ble_eq_true rfl) ?_
  refine ev_if_ne 10 dX6_rest_4 (by decide) (fun c2 => ?_) (fun c2 => ?_)
  · have h := am_e c2 h
    refine ev_aload_n dX6_rest_10 0 rfl trivial ?_
    refine px_getR dX6_rest_11 gf_RX6_63 (at6 rfl) (by decide) rfl ?_
    refine ev_iload_n dX6_rest_14 1 rfl ?_
    obtain ⟨g3, h⟩ := am_gd h
    refine px_aald6 (n := 5) dX6_rest_15 rfl rfl g3 ?_
    refine ev_astore_n (L' := [(3, .ref (85 + 5 * l1.toNatClampNeg)), (0, .ref 0), (1, .int l1), (2, .int l2)]) dX6_rest_16 trivial (by decide) rfl ?_
    refine ev_aload_n dX6_rest_17 0 rfl trivial ?_
    obtain ⟨g4, h⟩ := am_gd h
    refine px_getI dX6_rest_18 gf_RX6_269 (at3 g4) (by decide) rfl ?_
    refine ev_if_ne 27 dX6_rest_21 (by decide) (fun c5 => ?_) (fun c5 => ?_)
    · have h := am_e c5 h
      refine ev_aload_n dX6_rest_27 0 rfl trivial ?_
      refine px_getI dX6_rest_28 gf_RX6_269 (at3 g4) (by decide) rfl ?_
      refine ev_iconst (v := (3 : Int32)) dX6_rest_31 kI_3 ?_
      refine ev_icmp_eq 38 dX6_rest_32 (by decide) (fun c6 => ?_) (fun c6 => ?_)
      · have h := am_t c6 h
        refine ev_iload_n dX6_rest_38 3 rfl ?_
        refine ev_if_ne 48 dX6_rest_39 (by decide) (fun c7 => ?_) (fun c7 => ?_)
        · have h := am_e c7 h
          refine ev_aload_n dX6_rest_48 0 rfl trivial ?_
          refine px_getI dX6_rest_49 gf_RX6_287 (at3 g4) (by decide) rfl ?_
          refine ev_iload_n dX6_rest_52 3 rfl ?_
          obtain ⟨g8, h⟩ := am_gd h
          refine ev_irem dX6_rest_53 g8 ?_
          obtain rfl := Option.some.inj h
          exact ev_iret dX6_rest_54 rfl rfl
        · have h := am_t c7 h
          refine ev_ldcw (v := ((-1000000002) : Int32)) dX6_rest_42 tw_784 ?_
          refine ev_goto 54 dX6_rest_45 (by decide) ?_
          obtain rfl := Option.some.inj h
          exact ev_iret dX6_rest_54 rfl rfl
      · have h := am_e c6 h
        refine ev_ldc (v := ((-1000000012) : Int32)) dX6_rest_35 tw_336 ?_
        obtain rfl := Option.some.inj h
        exact ev_iret dX6_rest_37 rfl rfl
    · have h := am_t c5 h
      refine ev_ldc (v := ((-1000000011) : Int32)) dX6_rest_24 tw_480 ?_
      obtain rfl := Option.some.inj h
      exact ev_iret dX6_rest_26 rfl rfl
  · have h := am_t c2 h
    refine ev_ldc (v := ((-1000000001) : Int32)) dX6_rest_7 tw_239 ?_
    obtain rfl := Option.some.inj h
    exact ev_iret dX6_rest_9 rfl rfl

theorem c_X6_rest {X : Nat × (Nat → Int32)} {u : am_MU} {l1 : Int32} {l2 : Int32} {r : am_MU × Int32} (h : f_X6_rest u l1 l2 = some r) : am_Cn X M_X6_rest [.ref 0, .int l1, .int l2] (hp u) (hp r.1, some (.int r.2)) := by
  refine am_Cn.of ok_X6_rest (Nat.le_refl _) (Nat.le_refl _) (Nat.le_of_ble_eq_true rfl) ?_
  refine ev_loc [0, 1, 2] rfl ?_
  exact l_X6_rest_0 u l1 l2 r h

-- SandRipples.tell(I)I
def f_X6_tell  (u : am_MU) (l1 : Int32) : Option (am_MU × Int32) :=
if (u 0 13) < (60 : Int32) then (if am_in (u 0 13) 60 then (
am_let (am_u2 u 48 ((u 0 13).toNatClampNeg) l1) fun u3 =>
am_let (am_u2 u3 0 13 ((u3 0 13) + (1 : Int32))) fun u4 =>
some (u4, u4 0 13)) else none)
else (some (u, ((-1000000003) : Int32)))

theorem l_X6_tell_0 {X : Nat × (Nat → Int32)}   (u : am_MU) (l1 : Int32) (r : am_MU × Int32) (h : f_X6_tell  u l1 = some r) : am_Ev X M_X6_tell 0 [(0, .ref 0), (1, .int l1)] [] (hp u) (hp r.1, some (.int r.2)) := by
  unfold f_X6_tell at h
  refine ev_aload_n dX6_tell_0 0 rfl trivial ?_
  refine px_getI dX6_tell_1 gf_RX6_70 (at6 rfl) (by decide) rfl ?_
  refine ev_bipush (v := (60 : Int32)) dX6_tell_4 kB_60 ?_
  refine ev_icmp_lt 12 dX6_tell_6 (by decide) (fun c1 => ?_) (fun c1 => ?_)
  · have h := am_t c1 h
    refine ev_aload_n dX6_tell_12 0 rfl trivial ?_
    refine px_getR dX6_tell_13 gf_RX6_67 (at6 rfl) (by decide) rfl ?_
    refine ev_aload_n dX6_tell_16 0 rfl trivial ?_
    refine px_getI dX6_tell_17 gf_RX6_70 (at6 rfl) (by decide) rfl ?_
    refine ev_iload_n dX6_tell_20 1 rfl ?_
    obtain ⟨g2, h⟩ := am_gd h
    obtain ⟨u3, eu3, h⟩ := am_lt h
    refine px_iast (n := 60) ((u 0 13).toNatClampNeg) dX6_tell_21 rfl g2 rfl eu3 ?_
    refine ev_aload_n dX6_tell_22 0 rfl trivial ?_
    refine ev_dup dX6_tell_23 rfl ?_
    refine px_getI dX6_tell_24 gf_RX6_70 (at6 rfl) (by decide) rfl ?_
    refine ev_iconst (v := (1 : Int32)) dX6_tell_27 kI_1 ?_
    refine ev_iadd dX6_tell_28 ?_
    obtain ⟨u4, eu4, h⟩ := am_lt h
    refine px_putI dX6_tell_29 pf_RX6_70 (at6 rfl) (by decide) rfl eu4 ?_
    refine ev_aload_n dX6_tell_32 0 rfl trivial ?_
    refine px_getI dX6_tell_33 gf_RX6_70 (at6 rfl) (by decide) rfl ?_
    obtain rfl := Option.some.inj h
    exact ev_iret dX6_tell_36 rfl rfl
  · have h := am_e c1 h
    refine ev_ldc (v := ((-1000000003) : Int32)) dX6_tell_9 tw_240 ?_
    obtain rfl := Option.some.inj h
    exact ev_iret dX6_tell_11 rfl rfl

theorem c_X6_tell {X : Nat × (Nat → Int32)} {u : am_MU} {l1 : Int32} {r : am_MU × Int32} (h : f_X6_tell u l1 = some r) : am_Cn X M_X6_tell [.ref 0, .int l1] (hp u) (hp r.1, some (.int r.2)) := by
  refine am_Cn.of ok_X6_tell (Nat.le_refl _) (Nat.le_refl _) (Nat.le_of_ble_eq_true rfl) ?_
  refine ev_loc [0, 1] rfl ?_
  exact l_X6_tell_0 u l1 r h

-- SandRipples.isTold(III)Z
def f_X6_isTold  (u : am_MU) (l1 : Int32) (l2 : Int32) (l3 : Int32) : Option (am_MU × Int32) :=
if l2 ≤ l1 then (some (u, (0 : Int32)))
else (if (60 : Int32) ≤ l1 then (some (u, (0 : Int32)))
else (if am_in l1 60 then (
if (u 48 l1.toNatClampNeg) = l3 then (some (u, (1 : Int32)))
else (some (u, (0 : Int32)))) else none))

theorem l_X6_isTold_0 {X : Nat × (Nat → Int32)}   (u : am_MU) (l1 : Int32) (l2 : Int32) (l3 : Int32) (r : am_MU × Int32) (h : f_X6_isTold  u l1 l2 l3 = some r) : am_Ev X M_X6_isTold 0 [(0, .ref 0), (1, .int l1), (2, .int l2), (3, .int l3)] [] (hp u) (hp r.1, some (.int r.2)) := by
  unfold f_X6_isTold at h
  refine ev_iload_n dX6_isTold_0 1 rfl ?_
  refine ev_iload_n dX6_isTold_1 2 rfl ?_
  refine ev_icmp_ge 25 dX6_isTold_2 (by decide) (fun c1 => ?_) (fun c1 => ?_)
  · have h := am_t c1 h
    refine ev_iconst (v := (0 : Int32)) dX6_isTold_25 kI_0 ?_
    obtain rfl := Option.some.inj h
    exact ev_iret dX6_isTold_26 rfl (am_zn (Or.inl rfl))
  · have h := am_e c1 h
    refine ev_iload_n dX6_isTold_5 1 rfl ?_
    refine ev_bipush (v := (60 : Int32)) dX6_isTold_6 kB_60 ?_
    refine ev_icmp_ge 25 dX6_isTold_8 (by decide) (fun c2 => ?_) (fun c2 => ?_)
    · have h := am_t c2 h
      refine ev_iconst (v := (0 : Int32)) dX6_isTold_25 kI_0 ?_
      obtain rfl := Option.some.inj h
      exact ev_iret dX6_isTold_26 rfl (am_zn (Or.inl rfl))
    · have h := am_e c2 h
      refine ev_aload_n dX6_isTold_11 0 rfl trivial ?_
      refine px_getR dX6_isTold_12 gf_RX6_67 (at6 rfl) (by decide) rfl ?_
      refine ev_iload_n dX6_isTold_15 1 rfl ?_
      obtain ⟨g3, h⟩ := am_gd h
      refine px_iald (n := 60) l1.toNatClampNeg dX6_isTold_16 rfl g3 rfl ?_
      refine ev_iload_n dX6_isTold_17 3 rfl ?_
      refine ev_icmp_ne 25 dX6_isTold_18 (by decide) (fun c4 => ?_) (fun c4 => ?_)
      · have h := am_e c4 h
        refine ev_iconst (v := (0 : Int32)) dX6_isTold_25 kI_0 ?_
        obtain rfl := Option.some.inj h
        exact ev_iret dX6_isTold_26 rfl (am_zn (Or.inl rfl))
      · have h := am_t c4 h
        refine ev_iconst (v := (1 : Int32)) dX6_isTold_21 kI_1 ?_
        refine ev_goto 26 dX6_isTold_22 (by decide) ?_
        obtain rfl := Option.some.inj h
        exact ev_iret dX6_isTold_26 rfl (am_zn (Or.inr rfl))

theorem c_X6_isTold {X : Nat × (Nat → Int32)} {u : am_MU} {l1 : Int32} {l2 : Int32} {l3 : Int32} {r : am_MU × Int32} (h : f_X6_isTold u l1 l2 l3 = some r) : am_Cn X M_X6_isTold [.ref 0, .int l1, .int l2, .int l3] (hp u) (hp r.1, some (.int r.2)) := by
  refine am_Cn.of ok_X6_isTold (Nat.le_refl _) (Nat.le_refl _) (Nat.le_of_ble_eq_true rfl) ?_
  refine ev_loc [0, 1, 2, 3] rfl ?_
  exact l_X6_isTold_0 u l1 l2 l3 r h

-- SandRipples.check(II)I
def g_X6_check_67  : Nat → am_MU → Int32 → Int32 → Nat → Int32 → Option (am_MU × Int32)
  | 0 => fun _ _ _ _ _ => none
  | n + 1 => fun u l2 l3 l4 l5 =>
if l2 ≤ l5 then (if l3 ≤ ((2 : Int32) * l2) then (some (u, (0 : Int32)))
else (some (u, (1 : Int32) + ((2 : Int32) * l2))))
else ((f_X6_oneTick u 33 l4).bind fun q3 =>
(f_X6_isTold q3.1 ((2 : Int32) * l5) l3 q3.2).bind fun q4 =>
if q4.2 = 0 then (some (q4.1, (1 : Int32) + ((2 : Int32) * l5)))
else (if tg l4 = 0 then (
(f_X0_crests q4.1 l4).bind fun q6 =>
(f_X6_isTold q6.1 (((2 : Int32) * l5) + (1 : Int32)) l3 q6.2).bind fun q8 =>
if q8.2 = 0 then (some (q8.1, (2 : Int32) + ((2 : Int32) * l5)))
else (am_let (l5 + (1 : Int32)) fun x10 =>
g_X6_check_67 n q8.1 l2 l3 l4 x10)) else none))

def f_X6_check  (u : am_MU) (l1 : Int32) (l2 : Int32) : Option (am_MU × Int32) :=
am_let (u 0 13) fun x1 =>
am_let (am_u2 u 0 13 (0 : Int32)) fun u2 =>
if l2 < (1 : Int32) then (some (u2, ((-1000000001) : Int32)))
else (if l2 ≤ (30 : Int32) then (if (u2 0 2) = 0 then (some (u2, ((-1000000002) : Int32)))
else (if l1 < 0 then (some (u2, ((-1000000001) : Int32)))
else (if l1 < (u2 17 1) then ((f_X6_think u2 17 l1).bind fun q8 =>
g_X6_check_67 1700 q8.1 l2 x1 q8.2 (0 : Int32))
else (some (u2, ((-1000000001) : Int32))))))
else (some (u2, ((-1000000001) : Int32))))

theorem l_X6_check_67 {X : Nat × (Nat → Int32)}   : ∀ (n : Nat) (u : am_MU) (l2 : Int32) (l3 : Int32) (l4 : Nat) (l5 : Int32) (r : am_MU × Int32), g_X6_check_67  n u l2 l3 l4 l5 = some r → am_Ev X M_X6_check 67 [(0, .ref 0), (2, .int l2), (3, .int l3), (4, .ref l4), (5, .int l5)] [] (hp u) (hp r.1, some (.int r.2)) := by
  intro n
  induction n with
  | zero => intro u l2 l3 l4 l5 r h; cases h
  | succ n ih =>
    intro u l2 l3 l4 l5 r h
    rw [g_X6_check_67] at h
    refine ev_iload dX6_check_67 4 rfl ?_
    refine ev_iload_n dX6_check_69 1 rfl ?_
    refine ev_icmp_ge 138 dX6_check_70 (by decide) (fun c1 => ?_) (fun c1 => ?_)
    · have h := am_t c1 h
      refine ev_iload_n dX6_check_138 2 rfl ?_
      refine ev_iconst (v := (2 : Int32)) dX6_check_139 kI_2 ?_
      refine ev_iload_n dX6_check_140 1 rfl ?_
      refine ev_imul dX6_check_141 ?_
      refine ev_icmp_le 153 dX6_check_142 (by decide) (fun c2 => ?_) (fun c2 => ?_)
      · have h := am_t c2 h
        refine ev_iconst (v := (0 : Int32)) dX6_check_153 kI_0 ?_
        obtain rfl := Option.some.inj h
        exact ev_iret dX6_check_154 rfl rfl
      · have h := am_e c2 h
        refine ev_iconst (v := (1 : Int32)) dX6_check_145 kI_1 ?_
        refine ev_iconst (v := (2 : Int32)) dX6_check_146 kI_2 ?_
        refine ev_iload_n dX6_check_147 1 rfl ?_
        refine ev_imul dX6_check_148 ?_
        refine ev_iadd dX6_check_149 ?_
        refine ev_goto 154 dX6_check_150 (by decide) ?_
        obtain rfl := Option.some.inj h
        exact ev_iret dX6_check_154 rfl rfl
    · have h := am_e c1 h
      refine ev_aload_n dX6_check_73 0 rfl trivial ?_
      refine ev_aload_n dX6_check_74 0 rfl trivial ?_
      refine px_getR dX6_check_75 gf_RX6_25 (at6 rfl) (by decide) rfl ?_
      refine ev_aload dX6_check_78 3 rfl trivial ?_
      obtain ⟨q3, eq3, h⟩ := am_bd h
      refine px_callvi [.ref 33, .ref l4] (by decide) cl_6 (at6 rfl) dX6_check_80 ok_X6_oneTick lk_RX6_166 in_X6_oneTick se_X6_oneTick (by decide) rfl (c_X6_oneTick eq3) rfl (Nat.le_of_ble_eq_true rfl) ?_
      refine ev_istore (L' := [(6, .int q3.2), (0, .ref 0), (2, .int l2), (3, .int l3), (4, .ref l4), (5, .int l5)]) dX6_check_83 (by decide) rfl ?_
      refine ev_aload_n dX6_check_85 1 rfl trivial ?_
      refine ev_iconst (v := (2 : Int32)) dX6_check_86 kI_2 ?_
      refine ev_iload dX6_check_87 5 rfl ?_
      refine ev_imul dX6_check_89 ?_
      refine ev_iload_n dX6_check_90 3 rfl ?_
      refine ev_iload dX6_check_91 0 rfl ?_
      obtain ⟨q4, eq4, h⟩ := am_bd h
      refine px_callvi [.int ((2 : Int32) * l5), .int l3, .int q3.2] (by decide) cl_6 (at6 rfl) dX6_check_93 ok_X6_isTold lk_RX6_291 in_X6_isTold se_X6_isTold (by decide) rfl (c_X6_isTold eq4) rfl (Nat.le_of_ble_eq_true rfl) ?_
      refine ev_if_ne 106 dX6_check_96 (by decide) (fun c5 => ?_) (fun c5 => ?_)
      · have h := am_e c5 h
        refine ev_aload_n dX6_check_106 1 rfl trivial ?_
        refine ev_iconst (v := (2 : Int32)) dX6_check_107 kI_2 ?_
        refine ev_iload dX6_check_108 5 rfl ?_
        refine ev_imul dX6_check_110 ?_
        refine ev_iconst (v := (1 : Int32)) dX6_check_111 kI_1 ?_
        refine ev_iadd dX6_check_112 ?_
        refine ev_iload_n dX6_check_113 3 rfl ?_
        refine ev_aload dX6_check_114 4 rfl trivial ?_
        obtain ⟨g7, h⟩ := am_gd h
        obtain ⟨q6, eq6, h⟩ := am_bd h
        refine px_callvi [] (by decide) cl_0 (at0 g7) dX6_check_116 ok_X0_crests lk_RX6_113 in_X0_crests se_X0_crests (by decide) rfl (c_X0_crests eq6) rfl (Nat.le_of_ble_eq_true rfl) ?_
        obtain ⟨q8, eq8, h⟩ := am_bd h
        refine px_callvi [.int (((2 : Int32) * l5) + (1 : Int32)), .int l3, .int q6.2] (by decide) cl_6 (at6 rfl) dX6_check_119 ok_X6_isTold lk_RX6_291 in_X6_isTold se_X6_isTold (by decide) rfl (c_X6_isTold eq8) rfl (Nat.le_of_ble_eq_true rfl) ?_
        refine ev_if_ne 132 dX6_check_122 (by decide) (fun c9 => ?_) (fun c9 => ?_)
        · have h := am_e c9 h
          obtain ⟨x10, ex10, h⟩ := am_lt h
          refine ev_iinc (v := x10) (L' := [(5, .int x10), (6, .int q3.2), (0, .ref 0), (2, .int l2), (3, .int l3), (4, .ref l4)]) dX6_check_132 5 rfl (by rw [kI_1, ex10]) (by decide) rfl ?_
          refine ev_goto 67 dX6_check_135 (by decide) ?_
          refine ev_loc [2, 3, 4, 5, 0] rfl ?_
          exact ih q8.1 l2 l3 l4 x10 _ h
        · have h := am_t c9 h
          refine ev_iconst (v := (2 : Int32)) dX6_check_125 kI_2 ?_
          refine ev_iconst (v := (2 : Int32)) dX6_check_126 kI_2 ?_
          refine ev_iload dX6_check_127 5 rfl ?_
          refine ev_imul dX6_check_129 ?_
          refine ev_iadd dX6_check_130 ?_
          obtain rfl := Option.some.inj h
          exact ev_iret dX6_check_131 rfl rfl
      · have h := am_t c5 h
        refine ev_iconst (v := (1 : Int32)) dX6_check_99 kI_1 ?_
        refine ev_iconst (v := (2 : Int32)) dX6_check_100 kI_2 ?_
        refine ev_iload dX6_check_101 5 rfl ?_
        refine ev_imul dX6_check_103 ?_
        refine ev_iadd dX6_check_104 ?_
        obtain rfl := Option.some.inj h
        exact ev_iret dX6_check_105 rfl rfl

theorem l_X6_check_0 {X : Nat × (Nat → Int32)}   (u : am_MU) (l1 : Int32) (l2 : Int32) (r : am_MU × Int32) (h : f_X6_check  u l1 l2 = some r) : am_Ev X M_X6_check 0 [(0, .ref 0), (1, .int l1), (2, .int l2)] [] (hp u) (hp r.1, some (.int r.2)) := by
  unfold f_X6_check at h
  refine ev_aload_n dX6_check_0 0 rfl trivial ?_
  refine px_getI dX6_check_1 gf_RX6_70 (at6 rfl) (by decide) rfl ?_
  obtain ⟨x1, ex1, h⟩ := am_lt h
  refine px_top ex1 ?_
  refine ev_istore_n (L' := [(3, .int x1), (0, .ref 0), (1, .int l1), (2, .int l2)]) dX6_check_4 (by decide) rfl ?_
  refine ev_aload_n dX6_check_5 1 rfl trivial ?_
  refine ev_iconst (v := (0 : Int32)) dX6_check_6 kI_0 ?_
  obtain ⟨u2, eu2, h⟩ := am_lt h
  refine px_putI dX6_check_7 pf_RX6_70 (at6 rfl) (by decide) rfl eu2 ?_
  refine ev_iload_n dX6_check_10 3 rfl ?_
  refine ev_iconst (v := (1 : Int32)) dX6_check_11 kI_1 ?_
  refine ev_icmp_lt 21 dX6_check_12 (by decide) (fun c3 => ?_) (fun c3 => ?_)
  · have h := am_t c3 h
    refine ev_ldc (v := ((-1000000001) : Int32)) dX6_check_21 tw_239 ?_
    obtain rfl := Option.some.inj h
    exact ev_iret dX6_check_23 rfl rfl
  · have h := am_e c3 h
    refine ev_iload_n dX6_check_15 3 rfl ?_
    refine ev_bipush (v := (30 : Int32)) dX6_check_16 kB_30 ?_
    refine ev_icmp_le 24 dX6_check_18 (by decide) (fun c4 => ?_) (fun c4 => ?_)
    · have h := am_t c4 h
      refine ev_aload_n dX6_check_24 1 rfl trivial ?_
      refine px_getI dX6_check_25 gf_RX6_21 (at6 rfl) (by decide) rfl ?_
      refine ev_if_ne 35 dX6_check_28 (by decide) (fun c5 => ?_) (fun c5 => ?_)
      · have h := am_e c5 h
        refine ev_iload_n dX6_check_35 2 rfl ?_
        refine ev_if_lt 50 dX6_check_36 (by decide) (fun c6 => ?_) (fun c6 => ?_)
        · have h := am_t c6 h
          refine ev_ldc (v := ((-1000000001) : Int32)) dX6_check_50 tw_239 ?_
          obtain rfl := Option.some.inj h
          exact ev_iret dX6_check_52 rfl rfl
        · have h := am_e c6 h
          refine ev_iload_n dX6_check_39 2 rfl ?_
          refine ev_aload_n dX6_check_40 1 rfl trivial ?_
          refine px_getR dX6_check_41 gf_RX6_18 (at6 rfl) (by decide) rfl ?_
          refine px_getI dX6_check_44 gf_RX6_81 (at5 rfl) (by decide) rfl ?_
          refine ev_icmp_lt 53 dX6_check_47 (by decide) (fun c7 => ?_) (fun c7 => ?_)
          · have h := am_t c7 h
            refine ev_aload_n dX6_check_53 1 rfl trivial ?_
            refine ev_aload_n dX6_check_54 1 rfl trivial ?_
            refine px_getR dX6_check_55 gf_RX6_18 (at6 rfl) (by decide) rfl ?_
            refine ev_iload_n dX6_check_58 2 rfl ?_
            obtain ⟨q8, eq8, h⟩ := am_bd h
            refine px_callvr [.ref 17, .int l1] (by decide) cl_6 (at6 rfl) dX6_check_59 ok_X6_think lk_RX6_181 in_X6_think se_X6_think (by decide) rfl (c_X6_think eq8) rfl (Nat.le_of_ble_eq_true rfl) ?_
            refine ev_astore (L' := [(4, .ref q8.2), (3, .int x1), (0, .ref 0), (1, .int l1), (2, .int l2)]) dX6_check_62 trivial (by decide) rfl ?_
            refine ev_iconst (v := (0 : Int32)) dX6_check_64 kI_0 ?_
            refine ev_istore (L' := [(5, .int (0 : Int32)), (4, .ref q8.2), (3, .int x1), (0, .ref 0), (1, .int l1), (2, .int l2)]) dX6_check_65 (by decide) rfl ?_
            refine ev_loc [3, 5, 2, 1, 0] rfl ?_
            exact l_X6_check_67   1700 q8.1 l2 x1 q8.2 (0 : Int32) _ h
          · have h := am_e c7 h
            refine ev_ldc (v := ((-1000000001) : Int32)) dX6_check_50 tw_239 ?_
            obtain rfl := Option.some.inj h
            exact ev_iret dX6_check_52 rfl rfl
      · have h := am_t c5 h
        refine ev_ldcw (v := ((-1000000002) : Int32)) dX6_check_31 tw_784 ?_
        obtain rfl := Option.some.inj h
        exact ev_iret dX6_check_34 rfl rfl
    · have h := am_e c4 h
      refine ev_ldc (v := ((-1000000001) : Int32)) dX6_check_21 tw_239 ?_
      obtain rfl := Option.some.inj h
      exact ev_iret dX6_check_23 rfl rfl

theorem c_X6_check {X : Nat × (Nat → Int32)} {u : am_MU} {l1 : Int32} {l2 : Int32} {r : am_MU × Int32} (h : f_X6_check u l1 l2 = some r) : am_Cn X M_X6_check [.ref 0, .int l1, .int l2] (hp u) (hp r.1, some (.int r.2)) := by
  refine am_Cn.of ok_X6_check (Nat.le_refl _) (Nat.le_refl _) (Nat.le_of_ble_eq_true rfl) ?_
  refine ev_loc [0, 1, 2] rfl ?_
  exact l_X6_check_0 u l1 l2 r h

-- SandRipples$World.becomeAll(LSandRipples$World;)V
def g_X5_becomeAll_31  : Nat → am_MU → Nat → Nat → Int32 → Option (am_MU)
  | 0 => fun _ _ _ _ => none
  | n + 1 => fun u l0 l1 l2 =>
if tg l0 = 5 then (
if (u l0 1) ≤ l2 then (some u)
else (if (Int32.ofNat (am_ln (l0 + 3))) ≤ l2 then (some u)
else (if tg l1 = 5 then (
if (Int32.ofNat (am_ln (l1 + 3))) ≤ l2 then (some u)
else (if am_in l2 (am_ln (l0 + 3)) then (
if am_in l2 (am_ln (l1 + 3)) then (
if tg ((l0 + 3) + 1 + 2 * l2.toNatClampNeg) = 0 then (
(f_X0_become u ((l0 + 3) + 1 + 2 * l2.toNatClampNeg) ((l1 + 3) + 1 + 2 * l2.toNatClampNeg)).bind fun q8 =>
am_let (l2 + (1 : Int32)) fun x10 =>
g_X5_becomeAll_31 n q8 l0 l1 x10) else none) else none) else none)) else none))) else none

def f_X5_becomeAll  (u : am_MU) (l0 : Nat) (l1 : Nat) : Option (am_MU) :=
if tg l0 = 5 then (
(f_X5_becomeSea u l0 l1).bind fun q1 =>
if tg l1 = 5 then (
am_let (am_u2 q1 l0 3 (q1 l1 3)) fun u4 =>
am_let (am_u2 u4 l0 4 (u4 l1 4)) fun u5 =>
am_let (am_u2 u5 l0 1 (u5 l1 1)) fun u6 =>
g_X5_becomeAll_31 1700 u6 l0 l1 (0 : Int32)) else none) else none

theorem l_X5_becomeAll_31 {X : Nat × (Nat → Int32)}   : ∀ (n : Nat) (u : am_MU) (l0 : Nat) (l1 : Nat) (l2 : Int32) (r : am_MU), g_X5_becomeAll_31  n u l0 l1 l2 = some r → am_Ev X M_X5_becomeAll 31 [(0, .ref l0), (1, .ref l1), (2, .int l2)] [] (hp u) (hp r, none) := by
  intro n
  induction n with
  | zero => intro u l0 l1 l2 r h; cases h
  | succ n ih =>
    intro u l0 l1 l2 r h
    rw [g_X5_becomeAll_31] at h
    refine ev_iload_n dX5_becomeAll_31 2 rfl ?_
    refine ev_aload_n dX5_becomeAll_32 0 rfl trivial ?_
    obtain ⟨g1, h⟩ := am_gd h
    refine px_getI dX5_becomeAll_33 gf_RX5_9 (at5 g1) (by decide) rfl ?_
    refine ev_icmp_ge 78 dX5_becomeAll_36 (by decide) (fun c2 => ?_) (fun c2 => ?_)
    · have h := am_t c2 h
      obtain rfl := Option.some.inj h
      exact ev_vret dX5_becomeAll_78 rfl
    · have h := am_e c2 h
      refine ev_iload_n dX5_becomeAll_39 2 rfl ?_
      refine ev_aload_n dX5_becomeAll_40 0 rfl trivial ?_
      refine px_getR dX5_becomeAll_41 gf_RX5_37 (at5 g1) (by decide) rfl ?_
      refine px_rlen (n := (am_ln (l0 + 3))) dX5_becomeAll_44 (tg5f g1) rfl ?_
      refine ev_icmp_ge 78 dX5_becomeAll_45 (by decide) (fun c3 => ?_) (fun c3 => ?_)
      · have h := am_t c3 h
        obtain rfl := Option.some.inj h
        exact ev_vret dX5_becomeAll_78 rfl
      · have h := am_e c3 h
        refine ev_iload_n dX5_becomeAll_48 2 rfl ?_
        refine ev_aload_n dX5_becomeAll_49 1 rfl trivial ?_
        obtain ⟨g4, h⟩ := am_gd h
        refine px_getR dX5_becomeAll_50 gf_RX5_37 (at5 g4) (by decide) rfl ?_
        refine px_rlen (n := (am_ln (l1 + 3))) dX5_becomeAll_53 (tg5f g4) rfl ?_
        refine ev_icmp_ge 78 dX5_becomeAll_54 (by decide) (fun c5 => ?_) (fun c5 => ?_)
        · have h := am_t c5 h
          obtain rfl := Option.some.inj h
          exact ev_vret dX5_becomeAll_78 rfl
        · have h := am_e c5 h
          refine ev_aload_n dX5_becomeAll_57 0 rfl trivial ?_
          refine px_getR dX5_becomeAll_58 gf_RX5_37 (at5 g1) (by decide) rfl ?_
          refine ev_iload_n dX5_becomeAll_61 2 rfl ?_
          obtain ⟨g6, h⟩ := am_gd h
          refine px_aald3 (n := (am_ln (l0 + 3))) dX5_becomeAll_62 (tg5f g1) rfl g6 ?_
          refine ev_aload_n dX5_becomeAll_63 1 rfl trivial ?_
          refine px_getR dX5_becomeAll_64 gf_RX5_37 (at5 g4) (by decide) rfl ?_
          refine ev_iload_n dX5_becomeAll_67 2 rfl ?_
          obtain ⟨g7, h⟩ := am_gd h
          refine px_aald3 (n := (am_ln (l1 + 3))) dX5_becomeAll_68 (tg5f g4) rfl g7 ?_
          obtain ⟨g9, h⟩ := am_gd h
          obtain ⟨q8, eq8, h⟩ := am_bd h
          refine px_callvv [.ref ((l1 + 3) + 1 + 2 * l2.toNatClampNeg)] (by decide) cl_0 (at0 g9) dX5_becomeAll_69 ok_X0_become lk_RX5_46 in_X0_become se_X0_become (by decide) rfl (c_X0_become eq8) rfl (Nat.le_of_ble_eq_true rfl) ?_
          obtain ⟨x10, ex10, h⟩ := am_lt h
          refine ev_iinc (v := x10) (L' := [(2, .int x10), (0, .ref l0), (1, .ref l1)]) dX5_becomeAll_72 2 rfl (by rw [kI_1, ex10]) (by decide) rfl ?_
          refine ev_goto 31 dX5_becomeAll_75 (by decide) ?_
          refine ev_loc [1, 2, 0] rfl ?_
          exact ih q8 l0 l1 x10 _ h

theorem l_X5_becomeAll_0 {X : Nat × (Nat → Int32)}   (u : am_MU) (l0 : Nat) (l1 : Nat) (r : am_MU) (h : f_X5_becomeAll  u l0 l1 = some r) : am_Ev X M_X5_becomeAll 0 [(0, .ref l0), (1, .ref l1)] [] (hp u) (hp r, none) := by
  unfold f_X5_becomeAll at h
  refine ev_aload_n dX5_becomeAll_0 0 rfl trivial ?_
  refine ev_aload_n dX5_becomeAll_1 1 rfl trivial ?_
  obtain ⟨g2, h⟩ := am_gd h
  obtain ⟨q1, eq1, h⟩ := am_bd h
  refine px_callvv [.ref l1] (by decide) cl_5 (at5 g2) dX5_becomeAll_2 ok_X5_becomeSea lk_RX5_42 in_X5_becomeSea se_X5_becomeSea (by decide) rfl (c_X5_becomeSea eq1) rfl (Nat.le_of_ble_eq_true rfl) ?_
  refine ev_aload_n dX5_becomeAll_5 0 rfl trivial ?_
  refine ev_aload_n dX5_becomeAll_6 1 rfl trivial ?_
  obtain ⟨g3, h⟩ := am_gd h
  refine px_getI dX5_becomeAll_7 gf_RX5_19 (at5 g3) (by decide) rfl ?_
  obtain ⟨u4, eu4, h⟩ := am_lt h
  refine px_putI dX5_becomeAll_10 pf_RX5_19 (at5 g2) (by decide) rfl eu4 ?_
  refine ev_aload_n dX5_becomeAll_13 0 rfl trivial ?_
  refine ev_aload_n dX5_becomeAll_14 1 rfl trivial ?_
  refine px_getI dX5_becomeAll_15 gf_RX5_22 (at5 g3) (by decide) rfl ?_
  obtain ⟨u5, eu5, h⟩ := am_lt h
  refine px_putI dX5_becomeAll_18 pf_RX5_22 (at5 g2) (by decide) rfl eu5 ?_
  refine ev_aload_n dX5_becomeAll_21 0 rfl trivial ?_
  refine ev_aload_n dX5_becomeAll_22 1 rfl trivial ?_
  refine px_getI dX5_becomeAll_23 gf_RX5_9 (at5 g3) (by decide) rfl ?_
  obtain ⟨u6, eu6, h⟩ := am_lt h
  refine px_putI dX5_becomeAll_26 pf_RX5_9 (at5 g2) (by decide) rfl eu6 ?_
  refine ev_iconst (v := (0 : Int32)) dX5_becomeAll_29 kI_0 ?_
  refine ev_istore_n (L' := [(2, .int (0 : Int32)), (0, .ref l0), (1, .ref l1)]) dX5_becomeAll_30 (by decide) rfl ?_
  refine ev_loc [1, 2, 0] rfl ?_
  exact l_X5_becomeAll_31   1700 u6 l0 l1 (0 : Int32) _ h

theorem c_X5_becomeAll {X : Nat × (Nat → Int32)} {u : am_MU} {l0 : Nat} {l1 : Nat} {r : am_MU} (h : f_X5_becomeAll u l0 l1 = some r) : am_Cn X M_X5_becomeAll [.ref l0, .ref l1] (hp u) (hp r, none) := by
  refine am_Cn.of ok_X5_becomeAll (Nat.le_refl _) (Nat.le_refl _) (Nat.le_of_ble_eq_true rfl) ?_
  refine ev_loc [0, 1] rfl ?_
  exact l_X5_becomeAll_0 u l0 l1 r h

-- SandRipples.keep()I
def f_X6_keep  (u : am_MU)  : Option (am_MU × Int32) :=
(f_X5_becomeAll u 17 1).bind fun q1 =>
am_let (am_u2 q1 0 2 (1 : Int32)) fun u2 =>
some (u2, u2 1 1)

theorem l_X6_keep_0 {X : Nat × (Nat → Int32)}   (u : am_MU)  (r : am_MU × Int32) (h : f_X6_keep  u  = some r) : am_Ev X M_X6_keep 0 [(0, .ref 0)] [] (hp u) (hp r.1, some (.int r.2)) := by
  unfold f_X6_keep at h
  refine ev_aload_n dX6_keep_0 0 rfl trivial ?_
  refine px_getR dX6_keep_1 gf_RX6_18 (at6 rfl) (by decide) rfl ?_
  refine ev_aload_n dX6_keep_4 0 rfl trivial ?_
  refine px_getR dX6_keep_5 gf_RX6_14 (at6 rfl) (by decide) rfl ?_
  obtain ⟨q1, eq1, h⟩ := am_bd h
  refine px_callvv [.ref 1] (by decide) cl_5 (at5 rfl) dX6_keep_8 ok_X5_becomeAll lk_RX6_295 in_X5_becomeAll se_X5_becomeAll (by decide) rfl (c_X5_becomeAll eq1) rfl (Nat.le_of_ble_eq_true rfl) ?_
  refine ev_aload_n dX6_keep_11 0 rfl trivial ?_
  refine ev_iconst (v := (1 : Int32)) dX6_keep_12 kI_1 ?_
  obtain ⟨u2, eu2, h⟩ := am_lt h
  refine px_putZ dX6_keep_13 pf_RX6_21 (at6 rfl) (by decide) rfl (Or.inr rfl) eu2 ?_
  refine ev_aload_n dX6_keep_16 0 rfl trivial ?_
  refine px_getR dX6_keep_17 gf_RX6_14 (at6 rfl) (by decide) rfl ?_
  refine px_getI dX6_keep_20 gf_RX6_81 (at5 rfl) (by decide) rfl ?_
  obtain rfl := Option.some.inj h
  exact ev_iret dX6_keep_23 rfl rfl

theorem c_X6_keep {X : Nat × (Nat → Int32)} {u : am_MU}  {r : am_MU × Int32} (h : f_X6_keep u  = some r) : am_Cn X M_X6_keep [.ref 0] (hp u) (hp r.1, some (.int r.2)) := by
  refine am_Cn.of ok_X6_keep (Nat.le_refl _) (Nat.le_refl _) (Nat.le_of_ble_eq_true rfl) ?_
  refine ev_loc [0] rfl ?_
  exact l_X6_keep_0 u  r h

-- SandRipples.back()I
def f_X6_back  (u : am_MU)  : Option (am_MU × Int32) :=
if (u 0 2) = 0 then (some (u, ((-1000000002) : Int32)))
else ((f_X5_becomeAll u 1 17).bind fun q2 =>
some (q2, q2 1 1))

theorem l_X6_back_0 {X : Nat × (Nat → Int32)}   (u : am_MU)  (r : am_MU × Int32) (h : f_X6_back  u  = some r) : am_Ev X M_X6_back 0 [(0, .ref 0)] [] (hp u) (hp r.1, some (.int r.2)) := by
  unfold f_X6_back at h
  refine ev_aload_n dX6_back_0 0 rfl trivial ?_
  refine px_getI dX6_back_1 gf_RX6_21 (at6 rfl) (by decide) rfl ?_
  refine ev_if_ne 11 dX6_back_4 (by decide) (fun c1 => ?_) (fun c1 => ?_)
  · have h := am_e c1 h
    refine ev_aload_n dX6_back_11 0 rfl trivial ?_
    refine px_getR dX6_back_12 gf_RX6_14 (at6 rfl) (by decide) rfl ?_
    refine ev_aload_n dX6_back_15 0 rfl trivial ?_
    refine px_getR dX6_back_16 gf_RX6_18 (at6 rfl) (by decide) rfl ?_
    obtain ⟨q2, eq2, h⟩ := am_bd h
    refine px_callvv [.ref 17] (by decide) cl_5 (at5 rfl) dX6_back_19 ok_X5_becomeAll lk_RX6_295 in_X5_becomeAll se_X5_becomeAll (by decide) rfl (c_X5_becomeAll eq2) rfl (Nat.le_of_ble_eq_true rfl) ?_
    refine ev_aload_n dX6_back_22 0 rfl trivial ?_
    refine px_getR dX6_back_23 gf_RX6_14 (at6 rfl) (by decide) rfl ?_
    refine px_getI dX6_back_26 gf_RX6_81 (at5 rfl) (by decide) rfl ?_
    obtain rfl := Option.some.inj h
    exact ev_iret dX6_back_29 rfl rfl
  · have h := am_t c1 h
    refine ev_ldcw (v := ((-1000000002) : Int32)) dX6_back_7 tw_784 ?_
    obtain rfl := Option.some.inj h
    exact ev_iret dX6_back_10 rfl rfl

theorem c_X6_back {X : Nat × (Nat → Int32)} {u : am_MU}  {r : am_MU × Int32} (h : f_X6_back u  = some r) : am_Cn X M_X6_back [.ref 0] (hp u) (hp r.1, some (.int r.2)) := by
  refine am_Cn.of ok_X6_back (Nat.le_refl _) (Nat.le_refl _) (Nat.le_of_ble_eq_true rfl) ?_
  refine ev_loc [0] rfl ?_
  exact l_X6_back_0 u  r h

-- SandRipples.count(I)I
def f_X6_count  (u : am_MU) (l1 : Int32) : Option (am_MU × Int32) :=
if l1 = (0 : Int32) then (some (u, u 1 1))
else if l1 = (1 : Int32) then (some (u, u 2 0))
else if l1 = (2 : Int32) then (some (u, u 2 1))
else if l1 = (3 : Int32) then (some (u, u 2 2))
else if l1 = (4 : Int32) then (some (u, u 2 3))
else if l1 = (5 : Int32) then (some (u, u 1 4))
else if l1 = (6 : Int32) then (some (u, u 0 13))
else if l1 = (7 : Int32) then (some (u, u 0 9))
else if l1 = (8 : Int32) then (some (u, u 1 3))
else (some (u, ((-1000000001) : Int32)))

theorem l_X6_count_0 {X : Nat × (Nat → Int32)}   (u : am_MU) (l1 : Int32) (r : am_MU × Int32) (h : f_X6_count  u l1 = some r) : am_Ev X M_X6_count 0 [(0, .ref 0), (1, .int l1)] [] (hp u) (hp r.1, some (.int r.2)) := by
  unfold f_X6_count at h
  refine ev_iload_n dX6_count_0 1 rfl ?_
  refine am_cs h (fun c1 h => ?_) (fun c1 h => ?_)
  · refine ev_tableIn 52 (51) dX6_count_1 (by rw [c1]; decide) (by rw [c1]; decide) (by rw [c1]; decide) (by decide) ?_
    refine ev_aload_n dX6_count_52 0 rfl trivial ?_
    refine px_getR dX6_count_53 gf_RX6_14 (at6 rfl) (by decide) rfl ?_
    refine px_getI dX6_count_56 gf_RX6_81 (at5 rfl) (by decide) rfl ?_
    obtain rfl := Option.some.inj h
    exact ev_iret dX6_count_59 rfl rfl
  refine am_cs h (fun c2 h => ?_) (fun c2 h => ?_)
  · refine ev_tableIn 60 (59) dX6_count_1 (by rw [c2]; decide) (by rw [c2]; decide) (by rw [c2]; decide) (by decide) ?_
    refine ev_aload_n dX6_count_60 0 rfl trivial ?_
    refine px_getR dX6_count_61 gf_RX6_14 (at6 rfl) (by decide) rfl ?_
    refine px_getR dX6_count_64 gf_RX6_143 (at5 rfl) (by decide) rfl ?_
    refine ev_iconst (v := (0 : Int32)) dX6_count_67 kI_0 ?_
    refine px_iald (n := 4) 0 dX6_count_68 rfl (by decide) (by decide) ?_
    obtain rfl := Option.some.inj h
    exact ev_iret dX6_count_69 rfl rfl
  refine am_cs h (fun c3 h => ?_) (fun c3 h => ?_)
  · refine ev_tableIn 70 (69) dX6_count_1 (by rw [c3]; decide) (by rw [c3]; decide) (by rw [c3]; decide) (by decide) ?_
    refine ev_aload_n dX6_count_70 0 rfl trivial ?_
    refine px_getR dX6_count_71 gf_RX6_14 (at6 rfl) (by decide) rfl ?_
    refine px_getR dX6_count_74 gf_RX6_143 (at5 rfl) (by decide) rfl ?_
    refine ev_iconst (v := (1 : Int32)) dX6_count_77 kI_1 ?_
    refine px_iald (n := 4) 1 dX6_count_78 rfl (by decide) (by decide) ?_
    obtain rfl := Option.some.inj h
    exact ev_iret dX6_count_79 rfl rfl
  refine am_cs h (fun c4 h => ?_) (fun c4 h => ?_)
  · refine ev_tableIn 80 (79) dX6_count_1 (by rw [c4]; decide) (by rw [c4]; decide) (by rw [c4]; decide) (by decide) ?_
    refine ev_aload_n dX6_count_80 0 rfl trivial ?_
    refine px_getR dX6_count_81 gf_RX6_14 (at6 rfl) (by decide) rfl ?_
    refine px_getR dX6_count_84 gf_RX6_143 (at5 rfl) (by decide) rfl ?_
    refine ev_iconst (v := (2 : Int32)) dX6_count_87 kI_2 ?_
    refine px_iald (n := 4) 2 dX6_count_88 rfl (by decide) (by decide) ?_
    obtain rfl := Option.some.inj h
    exact ev_iret dX6_count_89 rfl rfl
  refine am_cs h (fun c5 h => ?_) (fun c5 h => ?_)
  · refine ev_tableIn 90 (89) dX6_count_1 (by rw [c5]; decide) (by rw [c5]; decide) (by rw [c5]; decide) (by decide) ?_
    refine ev_aload_n dX6_count_90 0 rfl trivial ?_
    refine px_getR dX6_count_91 gf_RX6_14 (at6 rfl) (by decide) rfl ?_
    refine px_getR dX6_count_94 gf_RX6_143 (at5 rfl) (by decide) rfl ?_
    refine ev_iconst (v := (3 : Int32)) dX6_count_97 kI_3 ?_
    refine px_iald (n := 4) 3 dX6_count_98 rfl (by decide) (by decide) ?_
    obtain rfl := Option.some.inj h
    exact ev_iret dX6_count_99 rfl rfl
  refine am_cs h (fun c6 h => ?_) (fun c6 h => ?_)
  · refine ev_tableIn 100 (99) dX6_count_1 (by rw [c6]; decide) (by rw [c6]; decide) (by rw [c6]; decide) (by decide) ?_
    refine ev_aload_n dX6_count_100 0 rfl trivial ?_
    refine px_getR dX6_count_101 gf_RX6_14 (at6 rfl) (by decide) rfl ?_
    refine px_getI dX6_count_104 gf_RX6_221 (at5 rfl) (by decide) rfl ?_
    obtain rfl := Option.some.inj h
    exact ev_iret dX6_count_107 rfl rfl
  refine am_cs h (fun c7 h => ?_) (fun c7 h => ?_)
  · refine ev_tableIn 108 (107) dX6_count_1 (by rw [c7]; decide) (by rw [c7]; decide) (by rw [c7]; decide) (by decide) ?_
    refine ev_aload_n dX6_count_108 0 rfl trivial ?_
    refine px_getI dX6_count_109 gf_RX6_70 (at6 rfl) (by decide) rfl ?_
    obtain rfl := Option.some.inj h
    exact ev_iret dX6_count_112 rfl rfl
  refine am_cs h (fun c8 h => ?_) (fun c8 h => ?_)
  · refine ev_tableIn 113 (112) dX6_count_1 (by rw [c8]; decide) (by rw [c8]; decide) (by rw [c8]; decide) (by decide) ?_
    refine ev_aload_n dX6_count_113 0 rfl trivial ?_
    refine px_getI dX6_count_114 gf_RX6_51 (at6 rfl) (by decide) rfl ?_
    obtain rfl := Option.some.inj h
    exact ev_iret dX6_count_117 rfl rfl
  refine am_cs h (fun c9 h => ?_) (fun c9 h => ?_)
  · refine ev_tableIn 118 (117) dX6_count_1 (by rw [c9]; decide) (by rw [c9]; decide) (by rw [c9]; decide) (by decide) ?_
    refine ev_aload_n dX6_count_118 0 rfl trivial ?_
    refine px_getR dX6_count_119 gf_RX6_14 (at6 rfl) (by decide) rfl ?_
    refine px_getI dX6_count_122 gf_RX6_155 (at5 rfl) (by decide) rfl ?_
    obtain rfl := Option.some.inj h
    exact ev_iret dX6_count_125 rfl rfl
  have nc1 := lv_neT (a := 0) c1 (by decide)
  have nc2 := lv_neT (a := 1) c2 (by decide)
  have nc3 := lv_neT (a := 2) c3 (by decide)
  have nc4 := lv_neT (a := 3) c4 (by decide)
  have nc5 := lv_neT (a := 4) c5 (by decide)
  have nc6 := lv_neT (a := 5) c6 (by decide)
  have nc7 := lv_neT (a := 6) c7 (by decide)
  have nc8 := lv_neT (a := 7) c8 (by decide)
  have nc9 := lv_neT (a := 8) c9 (by decide)
  refine ev_tableOut 126 dX6_count_1 (by omega) (by decide) ?_
  refine ev_ldc (v := ((-1000000001) : Int32)) dX6_count_126 tw_239 ?_
  obtain rfl := Option.some.inj h
  exact ev_iret dX6_count_128 rfl rfl

theorem c_X6_count {X : Nat × (Nat → Int32)} {u : am_MU} {l1 : Int32} {r : am_MU × Int32} (h : f_X6_count u l1 = some r) : am_Cn X M_X6_count [.ref 0, .int l1] (hp u) (hp r.1, some (.int r.2)) := by
  refine am_Cn.of ok_X6_count (Nat.le_refl _) (Nat.le_refl _) (Nat.le_of_ble_eq_true rfl) ?_
  refine ev_loc [0, 1] rfl ?_
  exact l_X6_count_0 u l1 r h

