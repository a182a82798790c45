-- SandRipplesLaw.law([I)Z
def g_L_law_1582 (X : Nat × (Nat → Int32)) (K18 : am_MU → Int32 → Option (am_MU × Int32)) (u : am_MU) (l3 : Int32) : Option (am_MU × Int32) :=
am_let (l3 + (6 : Int32)) fun x1 =>
K18 u x1

def g_L_law_18 (X : Nat × (Nat → Int32))  : Nat → am_MU → Int32 → Option (am_MU × Int32)
  | 0 => fun _ _ => none
  | n + 1 => fun u l3 =>
if ((Int32.ofNat X.1) - (6 : Int32)) < l3 then (some (u, (1 : Int32)))
else (if am_in l3 X.1 then (
if ((X.2 l3.toNatClampNeg) &&& (63 : Int32)) = (0 : Int32) then (if am_in (l3 + (1 : Int32)) X.1 then (
(f_X6_floor u (X.2 (l3 + (1 : Int32)).toNatClampNeg)).bind fun q5 =>
(f_X7_floor q5.1 (X.2 (l3 + (1 : Int32)).toNatClampNeg)).bind fun q6 =>
if q5.2 = q6.2 then (g_L_law_1582 X (g_L_law_18 X n) q6.1 l3)
else (some (q6.1, (0 : Int32)))) else none)
else if ((X.2 l3.toNatClampNeg) &&& (63 : Int32)) = (1 : Int32) then (if am_in (l3 + (1 : Int32)) X.1 then (
if am_in (l3 + (2 : Int32)) X.1 then (
(f_X6_told u (X.2 (l3 + (1 : Int32)).toNatClampNeg) (X.2 (l3 + (2 : Int32)).toNatClampNeg)).bind fun q11 =>
(f_X7_told q11.1 (X.2 (l3 + (1 : Int32)).toNatClampNeg) (X.2 (l3 + (2 : Int32)).toNatClampNeg)).bind fun q12 =>
if q11.2 = q12.2 then (g_L_law_1582 X (g_L_law_18 X n) q12.1 l3)
else (some (q12.1, (0 : Int32)))) else none) else none)
else if ((X.2 l3.toNatClampNeg) &&& (63 : Int32)) = (2 : Int32) then (if am_in (l3 + (1 : Int32)) X.1 then (
if am_in (l3 + (2 : Int32)) X.1 then (
(f_X6_as u (X.2 (l3 + (1 : Int32)).toNatClampNeg) (X.2 (l3 + (2 : Int32)).toNatClampNeg)).bind fun q17 =>
(f_X7_as q17.1 (X.2 (l3 + (1 : Int32)).toNatClampNeg) (X.2 (l3 + (2 : Int32)).toNatClampNeg)).bind fun q18 =>
if q17.2 = q18.2 then (g_L_law_1582 X (g_L_law_18 X n) q18.1 l3)
else (some (q18.1, (0 : Int32)))) else none) else none)
else if ((X.2 l3.toNatClampNeg) &&& (63 : Int32)) = (3 : Int32) then (if am_in (l3 + (1 : Int32)) X.1 then (
if am_in (l3 + (2 : Int32)) X.1 then (
(f_X6_turns u (X.2 (l3 + (1 : Int32)).toNatClampNeg) (X.2 (l3 + (2 : Int32)).toNatClampNeg)).bind fun q23 =>
(f_X7_turns q23.1 (X.2 (l3 + (1 : Int32)).toNatClampNeg) (X.2 (l3 + (2 : Int32)).toNatClampNeg)).bind fun q24 =>
if q23.2 = q24.2 then (g_L_law_1582 X (g_L_law_18 X n) q24.1 l3)
else (some (q24.1, (0 : Int32)))) else none) else none)
else if ((X.2 l3.toNatClampNeg) &&& (63 : Int32)) = (4 : Int32) then (if am_in (l3 + (1 : Int32)) X.1 then (
if am_in (l3 + (2 : Int32)) X.1 then (
(f_X6_sea u (X.2 (l3 + (1 : Int32)).toNatClampNeg) (X.2 (l3 + (2 : Int32)).toNatClampNeg)).bind fun q29 =>
(f_X7_sea q29.1 (X.2 (l3 + (1 : Int32)).toNatClampNeg) (X.2 (l3 + (2 : Int32)).toNatClampNeg)).bind fun q30 =>
if q29.2 = q30.2 then (g_L_law_1582 X (g_L_law_18 X n) q30.1 l3)
else (some (q30.1, (0 : Int32)))) else none) else none)
else if ((X.2 l3.toNatClampNeg) &&& (63 : Int32)) = (5 : Int32) then (if am_in (l3 + (1 : Int32)) X.1 then (
if am_in (l3 + (2 : Int32)) X.1 then (
(f_X6_sand u (X.2 (l3 + (1 : Int32)).toNatClampNeg) (X.2 (l3 + (2 : Int32)).toNatClampNeg)).bind fun q35 =>
(f_X7_sand q35.1 (X.2 (l3 + (1 : Int32)).toNatClampNeg) (X.2 (l3 + (2 : Int32)).toNatClampNeg)).bind fun q36 =>
if q35.2 = q36.2 then (g_L_law_1582 X (g_L_law_18 X n) q36.1 l3)
else (some (q36.1, (0 : Int32)))) else none) else none)
else if ((X.2 l3.toNatClampNeg) &&& (63 : Int32)) = (6 : Int32) then (if am_in (l3 + (1 : Int32)) X.1 then (
if am_in (l3 + (2 : Int32)) X.1 then (
if am_in (l3 + (3 : Int32)) X.1 then (
(f_X6_heap u (X.2 (l3 + (1 : Int32)).toNatClampNeg) (X.2 (l3 + (2 : Int32)).toNatClampNeg) (X.2 (l3 + (3 : Int32)).toNatClampNeg)).bind fun q42 =>
(f_X7_heap q42.1 (X.2 (l3 + (1 : Int32)).toNatClampNeg) (X.2 (l3 + (2 : Int32)).toNatClampNeg) (X.2 (l3 + (3 : Int32)).toNatClampNeg)).bind fun q43 =>
if q42.2 = q43.2 then (g_L_law_1582 X (g_L_law_18 X n) q43.1 l3)
else (some (q43.1, (0 : Int32)))) else none) else none) else none)
else if ((X.2 l3.toNatClampNeg) &&& (63 : Int32)) = (7 : Int32) then (if am_in (l3 + (1 : Int32)) X.1 then (
(f_X6_deal u (X.2 (l3 + (1 : Int32)).toNatClampNeg)).bind fun q47 =>
(f_X7_deal q47.1 (X.2 (l3 + (1 : Int32)).toNatClampNeg)).bind fun q48 =>
if q47.2 = q48.2 then (g_L_law_1582 X (g_L_law_18 X n) q48.1 l3)
else (some (q48.1, (0 : Int32)))) else none)
else if ((X.2 l3.toNatClampNeg) &&& (63 : Int32)) = (8 : Int32) then (if am_in (l3 + (1 : Int32)) X.1 then (
(f_X6_seed u (X.2 (l3 + (1 : Int32)).toNatClampNeg)).bind fun q52 =>
(f_X7_seed q52.1 (X.2 (l3 + (1 : Int32)).toNatClampNeg)).bind fun q53 =>
if q52.2 = q53.2 then (g_L_law_1582 X (g_L_law_18 X n) q53.1 l3)
else (some (q53.1, (0 : Int32)))) else none)
else if ((X.2 l3.toNatClampNeg) &&& (63 : Int32)) = (9 : Int32) then (if am_in (l3 + (1 : Int32)) X.1 then (
if am_in (l3 + (2 : Int32)) X.1 then (
if am_in (l3 + (3 : Int32)) X.1 then (
(f_X6_lift u (X.2 (l3 + (1 : Int32)).toNatClampNeg) (X.2 (l3 + (2 : Int32)).toNatClampNeg) (X.2 (l3 + (3 : Int32)).toNatClampNeg)).bind fun q59 =>
(f_X7_lift q59.1 (X.2 (l3 + (1 : Int32)).toNatClampNeg) (X.2 (l3 + (2 : Int32)).toNatClampNeg) (X.2 (l3 + (3 : Int32)).toNatClampNeg)).bind fun q60 =>
if q59.2 = q60.2 then (g_L_law_1582 X (g_L_law_18 X n) q60.1 l3)
else (some (q60.1, (0 : Int32)))) else none) else none) else none)
else if ((X.2 l3.toNatClampNeg) &&& (63 : Int32)) = (10 : Int32) then (if am_in (l3 + (1 : Int32)) X.1 then (
if am_in (l3 + (2 : Int32)) X.1 then (
(f_X6_run u (X.2 (l3 + (1 : Int32)).toNatClampNeg) (X.2 (l3 + (2 : Int32)).toNatClampNeg)).bind fun q65 =>
(f_X7_run q65.1 (X.2 (l3 + (1 : Int32)).toNatClampNeg) (X.2 (l3 + (2 : Int32)).toNatClampNeg)).bind fun q66 =>
if q65.2 = q66.2 then (g_L_law_1582 X (g_L_law_18 X n) q66.1 l3)
else (some (q66.1, (0 : Int32)))) else none) else none)
else if ((X.2 l3.toNatClampNeg) &&& (63 : Int32)) = (11 : Int32) then (if am_in (l3 + (1 : Int32)) X.1 then (
if am_in (l3 + (2 : Int32)) X.1 then (
(f_X6_crest u (X.2 (l3 + (1 : Int32)).toNatClampNeg) (X.2 (l3 + (2 : Int32)).toNatClampNeg)).bind fun q71 =>
(f_X7_crest q71.1 (X.2 (l3 + (1 : Int32)).toNatClampNeg) (X.2 (l3 + (2 : Int32)).toNatClampNeg)).bind fun q72 =>
if q71.2 = q72.2 then (g_L_law_1582 X (g_L_law_18 X n) q72.1 l3)
else (some (q72.1, (0 : Int32)))) else none) else none)
else if ((X.2 l3.toNatClampNeg) &&& (63 : Int32)) = (12 : Int32) then (if am_in (l3 + (1 : Int32)) X.1 then (
(f_X6_apart u (X.2 (l3 + (1 : Int32)).toNatClampNeg)).bind fun q76 =>
(f_X7_apart q76.1 (X.2 (l3 + (1 : Int32)).toNatClampNeg)).bind fun q77 =>
if q76.2 = q77.2 then (g_L_law_1582 X (g_L_law_18 X n) q77.1 l3)
else (some (q77.1, (0 : Int32)))) else none)
else if ((X.2 l3.toNatClampNeg) &&& (63 : Int32)) = (13 : Int32) then (if am_in (l3 + (1 : Int32)) X.1 then (
if am_in (l3 + (2 : Int32)) X.1 then (
(f_X6_flat u (X.2 (l3 + (1 : Int32)).toNatClampNeg) (X.2 (l3 + (2 : Int32)).toNatClampNeg)).bind fun q82 =>
(f_X7_flat q82.1 (X.2 (l3 + (1 : Int32)).toNatClampNeg) (X.2 (l3 + (2 : Int32)).toNatClampNeg)).bind fun q83 =>
if q82.2 = q83.2 then (g_L_law_1582 X (g_L_law_18 X n) q83.1 l3)
else (some (q83.1, (0 : Int32)))) else none) else none)
else if ((X.2 l3.toNatClampNeg) &&& (63 : Int32)) = (14 : Int32) then (if am_in (l3 + (1 : Int32)) X.1 then (
if am_in (l3 + (2 : Int32)) X.1 then (
(f_X6_soon u (X.2 (l3 + (1 : Int32)).toNatClampNeg) (X.2 (l3 + (2 : Int32)).toNatClampNeg)).bind fun q88 =>
(f_X7_soon q88.1 (X.2 (l3 + (1 : Int32)).toNatClampNeg) (X.2 (l3 + (2 : Int32)).toNatClampNeg)).bind fun q89 =>
if q88.2 = q89.2 then (g_L_law_1582 X (g_L_law_18 X n) q89.1 l3)
else (some (q89.1, (0 : Int32)))) else none) else none)
else if ((X.2 l3.toNatClampNeg) &&& (63 : Int32)) = (15 : Int32) then (if am_in (l3 + (1 : Int32)) X.1 then (
(f_X6_period u (X.2 (l3 + (1 : Int32)).toNatClampNeg)).bind fun q93 =>
(f_X7_period q93.1 (X.2 (l3 + (1 : Int32)).toNatClampNeg)).bind fun q94 =>
if q93.2 = q94.2 then (g_L_law_1582 X (g_L_law_18 X n) q94.1 l3)
else (some (q94.1, (0 : Int32)))) else none)
else if ((X.2 l3.toNatClampNeg) &&& (63 : Int32)) = (16 : Int32) then (if am_in (l3 + (1 : Int32)) X.1 then (
if am_in (l3 + (2 : Int32)) X.1 then (
if am_in (l3 + (3 : Int32)) X.1 then (
(f_X6_foot u (X.2 (l3 + (1 : Int32)).toNatClampNeg) (X.2 (l3 + (2 : Int32)).toNatClampNeg) (X.2 (l3 + (3 : Int32)).toNatClampNeg)).bind fun q100 =>
(f_X7_foot q100.1 (X.2 (l3 + (1 : Int32)).toNatClampNeg) (X.2 (l3 + (2 : Int32)).toNatClampNeg) (X.2 (l3 + (3 : Int32)).toNatClampNeg)).bind fun q101 =>
if q100.2 = q101.2 then (g_L_law_1582 X (g_L_law_18 X n) q101.1 l3)
else (some (q101.1, (0 : Int32)))) else none) else none) else none)
else if ((X.2 l3.toNatClampNeg) &&& (63 : Int32)) = (17 : Int32) then (if am_in (l3 + (1 : Int32)) X.1 then (
if am_in (l3 + (2 : Int32)) X.1 then (
(f_X6_worm u (X.2 (l3 + (1 : Int32)).toNatClampNeg) (X.2 (l3 + (2 : Int32)).toNatClampNeg)).bind fun q106 =>
(f_X7_worm q106.1 (X.2 (l3 + (1 : Int32)).toNatClampNeg) (X.2 (l3 + (2 : Int32)).toNatClampNeg)).bind fun q107 =>
if q106.2 = q107.2 then (g_L_law_1582 X (g_L_law_18 X n) q107.1 l3)
else (some (q107.1, (0 : Int32)))) else none) else none)
else if ((X.2 l3.toNatClampNeg) &&& (63 : Int32)) = (18 : Int32) then (if am_in (l3 + (1 : Int32)) X.1 then (
if am_in (l3 + (2 : Int32)) X.1 then (
(f_X6_press u (X.2 (l3 + (1 : Int32)).toNatClampNeg) (X.2 (l3 + (2 : Int32)).toNatClampNeg)).bind fun q112 =>
(f_X7_press q112.1 (X.2 (l3 + (1 : Int32)).toNatClampNeg) (X.2 (l3 + (2 : Int32)).toNatClampNeg)).bind fun q113 =>
if q112.2 = q113.2 then (g_L_law_1582 X (g_L_law_18 X n) q113.1 l3)
else (some (q113.1, (0 : Int32)))) else none) else none)
else if ((X.2 l3.toNatClampNeg) &&& (63 : Int32)) = (19 : Int32) then (if am_in (l3 + (1 : Int32)) X.1 then (
if am_in (l3 + (2 : Int32)) X.1 then (
(f_X6_unlike u (X.2 (l3 + (1 : Int32)).toNatClampNeg) (X.2 (l3 + (2 : Int32)).toNatClampNeg)).bind fun q118 =>
(f_X7_unlike q118.1 (X.2 (l3 + (1 : Int32)).toNatClampNeg) (X.2 (l3 + (2 : Int32)).toNatClampNeg)).bind fun q119 =>
if q118.2 = q119.2 then (g_L_law_1582 X (g_L_law_18 X n) q119.1 l3)
else (some (q119.1, (0 : Int32)))) else none) else none)
else if ((X.2 l3.toNatClampNeg) &&& (63 : Int32)) = (20 : Int32) then (if am_in (l3 + (1 : Int32)) X.1 then (
if am_in (l3 + (2 : Int32)) X.1 then (
if am_in (l3 + (3 : Int32)) X.1 then (
(f_X6_turned u (X.2 (l3 + (1 : Int32)).toNatClampNeg) (X.2 (l3 + (2 : Int32)).toNatClampNeg) (X.2 (l3 + (3 : Int32)).toNatClampNeg)).bind fun q125 =>
(f_X7_turned q125.1 (X.2 (l3 + (1 : Int32)).toNatClampNeg) (X.2 (l3 + (2 : Int32)).toNatClampNeg) (X.2 (l3 + (3 : Int32)).toNatClampNeg)).bind fun q126 =>
if q125.2 = q126.2 then (g_L_law_1582 X (g_L_law_18 X n) q126.1 l3)
else (some (q126.1, (0 : Int32)))) else none) else none) else none)
else if ((X.2 l3.toNatClampNeg) &&& (63 : Int32)) = (21 : Int32) then (if am_in (l3 + (1 : Int32)) X.1 then (
if am_in (l3 + (2 : Int32)) X.1 then (
if am_in (l3 + (3 : Int32)) X.1 then (
(f_X6_seen u (X.2 (l3 + (1 : Int32)).toNatClampNeg) (X.2 (l3 + (2 : Int32)).toNatClampNeg) (X.2 (l3 + (3 : Int32)).toNatClampNeg)).bind fun q132 =>
(f_X7_seen q132.1 (X.2 (l3 + (1 : Int32)).toNatClampNeg) (X.2 (l3 + (2 : Int32)).toNatClampNeg) (X.2 (l3 + (3 : Int32)).toNatClampNeg)).bind fun q133 =>
if q132.2 = q133.2 then (g_L_law_1582 X (g_L_law_18 X n) q133.1 l3)
else (some (q133.1, (0 : Int32)))) else none) else none) else none)
else if ((X.2 l3.toNatClampNeg) &&& (63 : Int32)) = (22 : Int32) then (if am_in (l3 + (1 : Int32)) X.1 then (
if am_in (l3 + (2 : Int32)) X.1 then (
if am_in (l3 + (3 : Int32)) X.1 then (
(f_X6_best u (X.2 (l3 + (1 : Int32)).toNatClampNeg) (X.2 (l3 + (2 : Int32)).toNatClampNeg) (X.2 (l3 + (3 : Int32)).toNatClampNeg)).bind fun q139 =>
(f_X7_best q139.1 (X.2 (l3 + (1 : Int32)).toNatClampNeg) (X.2 (l3 + (2 : Int32)).toNatClampNeg) (X.2 (l3 + (3 : Int32)).toNatClampNeg)).bind fun q140 =>
if q139.2 = q140.2 then (g_L_law_1582 X (g_L_law_18 X n) q140.1 l3)
else (some (q140.1, (0 : Int32)))) else none) else none) else none)
else if ((X.2 l3.toNatClampNeg) &&& (63 : Int32)) = (23 : Int32) then (if am_in (l3 + (1 : Int32)) X.1 then (
if am_in (l3 + (2 : Int32)) X.1 then (
if am_in (l3 + (3 : Int32)) X.1 then (
(f_X6_feed u (X.2 (l3 + (1 : Int32)).toNatClampNeg) (X.2 (l3 + (2 : Int32)).toNatClampNeg) (X.2 (l3 + (3 : Int32)).toNatClampNeg)).bind fun q146 =>
(f_X7_feed q146.1 (X.2 (l3 + (1 : Int32)).toNatClampNeg) (X.2 (l3 + (2 : Int32)).toNatClampNeg) (X.2 (l3 + (3 : Int32)).toNatClampNeg)).bind fun q147 =>
if q146.2 = q147.2 then (g_L_law_1582 X (g_L_law_18 X n) q147.1 l3)
else (some (q147.1, (0 : Int32)))) else none) else none) else none)
else if ((X.2 l3.toNatClampNeg) &&& (63 : Int32)) = (24 : Int32) then (if am_in (l3 + (1 : Int32)) X.1 then (
(f_X6_trim u (X.2 (l3 + (1 : Int32)).toNatClampNeg)).bind fun q151 =>
(f_X7_trim q151.1 (X.2 (l3 + (1 : Int32)).toNatClampNeg)).bind fun q152 =>
if q151.2 = q152.2 then (g_L_law_1582 X (g_L_law_18 X n) q152.1 l3)
else (some (q152.1, (0 : Int32)))) else none)
else if ((X.2 l3.toNatClampNeg) &&& (63 : Int32)) = (25 : Int32) then ((f_X6_text u ).bind fun q155 =>
(f_X7_text q155.1 ).bind fun q156 =>
if q155.2 = q156.2 then (g_L_law_1582 X (g_L_law_18 X n) q156.1 l3)
else (some (q156.1, (0 : Int32))))
else if ((X.2 l3.toNatClampNeg) &&& (63 : Int32)) = (26 : Int32) then (if am_in (l3 + (1 : Int32)) X.1 then (
if am_in (l3 + (2 : Int32)) X.1 then (
(f_X6_textTold u (X.2 (l3 + (1 : Int32)).toNatClampNeg) (X.2 (l3 + (2 : Int32)).toNatClampNeg)).bind fun q161 =>
(f_X7_textTold q161.1 (X.2 (l3 + (1 : Int32)).toNatClampNeg) (X.2 (l3 + (2 : Int32)).toNatClampNeg)).bind fun q162 =>
if q161.2 = q162.2 then (g_L_law_1582 X (g_L_law_18 X n) q162.1 l3)
else (some (q162.1, (0 : Int32)))) else none) else none)
else if ((X.2 l3.toNatClampNeg) &&& (63 : Int32)) = (27 : Int32) then (if am_in (l3 + (1 : Int32)) X.1 then (
(f_X6_why u (X.2 (l3 + (1 : Int32)).toNatClampNeg)).bind fun q166 =>
(f_X7_why q166.1 (X.2 (l3 + (1 : Int32)).toNatClampNeg)).bind fun q167 =>
if q166.2 = q167.2 then (g_L_law_1582 X (g_L_law_18 X n) q167.1 l3)
else (some (q167.1, (0 : Int32)))) else none)
else if ((X.2 l3.toNatClampNeg) &&& (63 : Int32)) = (28 : Int32) then (if am_in (l3 + (1 : Int32)) X.1 then (
if am_in (l3 + (2 : Int32)) X.1 then (
if am_in (l3 + (3 : Int32)) X.1 then (
(f_X6_sheet u (X.2 (l3 + (1 : Int32)).toNatClampNeg) (X.2 (l3 + (2 : Int32)).toNatClampNeg) (X.2 (l3 + (3 : Int32)).toNatClampNeg)).bind fun q173 =>
(f_X7_sheet q173.1 (X.2 (l3 + (1 : Int32)).toNatClampNeg) (X.2 (l3 + (2 : Int32)).toNatClampNeg) (X.2 (l3 + (3 : Int32)).toNatClampNeg)).bind fun q174 =>
if q173.2 = q174.2 then (g_L_law_1582 X (g_L_law_18 X n) q174.1 l3)
else (some (q174.1, (0 : Int32)))) else none) else none) else none)
else if ((X.2 l3.toNatClampNeg) &&& (63 : Int32)) = (29 : Int32) then (if am_in (l3 + (1 : Int32)) X.1 then (
if am_in (l3 + (2 : Int32)) X.1 then (
if am_in (l3 + (3 : Int32)) X.1 then (
(f_X6_mark u (X.2 (l3 + (1 : Int32)).toNatClampNeg) (X.2 (l3 + (2 : Int32)).toNatClampNeg) (X.2 (l3 + (3 : Int32)).toNatClampNeg)).bind fun q180 =>
(f_X7_mark q180.1 (X.2 (l3 + (1 : Int32)).toNatClampNeg) (X.2 (l3 + (2 : Int32)).toNatClampNeg) (X.2 (l3 + (3 : Int32)).toNatClampNeg)).bind fun q181 =>
if q180.2 = q181.2 then (g_L_law_1582 X (g_L_law_18 X n) q181.1 l3)
else (some (q181.1, (0 : Int32)))) else none) else none) else none)
else if ((X.2 l3.toNatClampNeg) &&& (63 : Int32)) = (30 : Int32) then (if am_in (l3 + (1 : Int32)) X.1 then (
if am_in (l3 + (2 : Int32)) X.1 then (
(f_X6_pour u (X.2 (l3 + (1 : Int32)).toNatClampNeg) (X.2 (l3 + (2 : Int32)).toNatClampNeg)).bind fun q186 =>
(f_X7_pour q186.1 (X.2 (l3 + (1 : Int32)).toNatClampNeg) (X.2 (l3 + (2 : Int32)).toNatClampNeg)).bind fun q187 =>
if q186.2 = q187.2 then (g_L_law_1582 X (g_L_law_18 X n) q187.1 l3)
else (some (q187.1, (0 : Int32)))) else none) else none)
else if ((X.2 l3.toNatClampNeg) &&& (63 : Int32)) = (31 : Int32) then (if am_in (l3 + (1 : Int32)) X.1 then (
if am_in (l3 + (2 : Int32)) X.1 then (
(f_X6_reads u (X.2 (l3 + (1 : Int32)).toNatClampNeg) (X.2 (l3 + (2 : Int32)).toNatClampNeg)).bind fun q192 =>
(f_X7_reads q192.1 (X.2 (l3 + (1 : Int32)).toNatClampNeg) (X.2 (l3 + (2 : Int32)).toNatClampNeg)).bind fun q193 =>
if q192.2 = q193.2 then (g_L_law_1582 X (g_L_law_18 X n) q193.1 l3)
else (some (q193.1, (0 : Int32)))) else none) else none)
else if ((X.2 l3.toNatClampNeg) &&& (63 : Int32)) = (32 : Int32) then (if am_in (l3 + (1 : Int32)) X.1 then (
if am_in (l3 + (2 : Int32)) X.1 then (
if am_in (l3 + (3 : Int32)) X.1 then (
if am_in (l3 + (4 : Int32)) X.1 then (
if am_in (l3 + (5 : Int32)) X.1 then (
(f_X6_copy u (X.2 (l3 + (1 : Int32)).toNatClampNeg) (X.2 (l3 + (2 : Int32)).toNatClampNeg) (X.2 (l3 + (3 : Int32)).toNatClampNeg) (X.2 (l3 + (4 : Int32)).toNatClampNeg) (X.2 (l3 + (5 : Int32)).toNatClampNeg)).bind fun q201 =>
(f_X7_copy q201.1 (X.2 (l3 + (1 : Int32)).toNatClampNeg) (X.2 (l3 + (2 : Int32)).toNatClampNeg) (X.2 (l3 + (3 : Int32)).toNatClampNeg) (X.2 (l3 + (4 : Int32)).toNatClampNeg) (X.2 (l3 + (5 : Int32)).toNatClampNeg)).bind fun q202 =>
if q201.2 = q202.2 then (g_L_law_1582 X (g_L_law_18 X n) q202.1 l3)
else (some (q202.1, (0 : Int32)))) else none) else none) else none) else none) else none)
else if ((X.2 l3.toNatClampNeg) &&& (63 : Int32)) = (33 : Int32) then (if am_in (l3 + (1 : Int32)) X.1 then (
if am_in (l3 + (2 : Int32)) X.1 then (
if am_in (l3 + (3 : Int32)) X.1 then (
(f_X6_lay u (X.2 (l3 + (1 : Int32)).toNatClampNeg) (X.2 (l3 + (2 : Int32)).toNatClampNeg) (X.2 (l3 + (3 : Int32)).toNatClampNeg)).bind fun q208 =>
(f_X7_lay q208.1 (X.2 (l3 + (1 : Int32)).toNatClampNeg) (X.2 (l3 + (2 : Int32)).toNatClampNeg) (X.2 (l3 + (3 : Int32)).toNatClampNeg)).bind fun q209 =>
if q208.2 = q209.2 then (g_L_law_1582 X (g_L_law_18 X n) q209.1 l3)
else (some (q209.1, (0 : Int32)))) else none) else none) else none)
else if ((X.2 l3.toNatClampNeg) &&& (63 : Int32)) = (34 : Int32) then (if am_in (l3 + (1 : Int32)) X.1 then (
if am_in (l3 + (2 : Int32)) X.1 then (
(f_X6_ask u (X.2 (l3 + (1 : Int32)).toNatClampNeg) (X.2 (l3 + (2 : Int32)).toNatClampNeg)).bind fun q214 =>
(f_X7_ask q214.1 (X.2 (l3 + (1 : Int32)).toNatClampNeg) (X.2 (l3 + (2 : Int32)).toNatClampNeg)).bind fun q215 =>
if q214.2 = q215.2 then (g_L_law_1582 X (g_L_law_18 X n) q215.1 l3)
else (some (q215.1, (0 : Int32)))) else none) else none)
else if ((X.2 l3.toNatClampNeg) &&& (63 : Int32)) = (35 : Int32) then (if am_in (l3 + (1 : Int32)) X.1 then (
if am_in (l3 + (2 : Int32)) X.1 then (
(f_X6_item u (X.2 (l3 + (1 : Int32)).toNatClampNeg) (X.2 (l3 + (2 : Int32)).toNatClampNeg)).bind fun q220 =>
(f_X7_item q220.1 (X.2 (l3 + (1 : Int32)).toNatClampNeg) (X.2 (l3 + (2 : Int32)).toNatClampNeg)).bind fun q221 =>
if q220.2 = q221.2 then (g_L_law_1582 X (g_L_law_18 X n) q221.1 l3)
else (some (q221.1, (0 : Int32)))) else none) else none)
else if ((X.2 l3.toNatClampNeg) &&& (63 : Int32)) = (36 : Int32) then (if am_in (l3 + (1 : Int32)) X.1 then (
if am_in (l3 + (2 : Int32)) X.1 then (
(f_X6_rest u (X.2 (l3 + (1 : Int32)).toNatClampNeg) (X.2 (l3 + (2 : Int32)).toNatClampNeg)).bind fun q226 =>
(f_X7_rest q226.1 (X.2 (l3 + (1 : Int32)).toNatClampNeg) (X.2 (l3 + (2 : Int32)).toNatClampNeg)).bind fun q227 =>
if q226.2 = q227.2 then (g_L_law_1582 X (g_L_law_18 X n) q227.1 l3)
else (some (q227.1, (0 : Int32)))) else none) else none)
else if ((X.2 l3.toNatClampNeg) &&& (63 : Int32)) = (37 : Int32) then (if am_in (l3 + (1 : Int32)) X.1 then (
(f_X6_tell u (X.2 (l3 + (1 : Int32)).toNatClampNeg)).bind fun q231 =>
(f_X7_tell q231.1 (X.2 (l3 + (1 : Int32)).toNatClampNeg)).bind fun q232 =>
if q231.2 = q232.2 then (g_L_law_1582 X (g_L_law_18 X n) q232.1 l3)
else (some (q232.1, (0 : Int32)))) else none)
else if ((X.2 l3.toNatClampNeg) &&& (63 : Int32)) = (38 : Int32) then (if am_in (l3 + (1 : Int32)) X.1 then (
if am_in (l3 + (2 : Int32)) X.1 then (
(f_X6_check u (X.2 (l3 + (1 : Int32)).toNatClampNeg) (X.2 (l3 + (2 : Int32)).toNatClampNeg)).bind fun q237 =>
(f_X7_check q237.1 (X.2 (l3 + (1 : Int32)).toNatClampNeg) (X.2 (l3 + (2 : Int32)).toNatClampNeg)).bind fun q238 =>
if q237.2 = q238.2 then (g_L_law_1582 X (g_L_law_18 X n) q238.1 l3)
else (some (q238.1, (0 : Int32)))) else none) else none)
else if ((X.2 l3.toNatClampNeg) &&& (63 : Int32)) = (39 : Int32) then ((f_X6_keep u ).bind fun q241 =>
(f_X7_keep q241.1 ).bind fun q242 =>
if q241.2 = q242.2 then (g_L_law_1582 X (g_L_law_18 X n) q242.1 l3)
else (some (q242.1, (0 : Int32))))
else if ((X.2 l3.toNatClampNeg) &&& (63 : Int32)) = (40 : Int32) then ((f_X6_back u ).bind fun q245 =>
(f_X7_back q245.1 ).bind fun q246 =>
if q245.2 = q246.2 then (g_L_law_1582 X (g_L_law_18 X n) q246.1 l3)
else (some (q246.1, (0 : Int32))))
else if ((X.2 l3.toNatClampNeg) &&& (63 : Int32)) = (41 : Int32) then (if am_in (l3 + (1 : Int32)) X.1 then (
(f_X6_count u (X.2 (l3 + (1 : Int32)).toNatClampNeg)).bind fun q250 =>
(f_X7_count q250.1 (X.2 (l3 + (1 : Int32)).toNatClampNeg)).bind fun q251 =>
if q250.2 = q251.2 then (g_L_law_1582 X (g_L_law_18 X n) q251.1 l3)
else (some (q251.1, (0 : Int32)))) else none)
else (g_L_law_1582 X (g_L_law_18 X n) u l3)) else none)

theorem l_L_law_1582 (X : Nat × (Nat → Int32)) (K18 : am_MU → Int32 → Option (am_MU × Int32)) (hK18 : ∀ (u : am_MU) (l3 : Int32) (r : am_MU × Int32), K18 u l3 = some r → am_Ev X M_L_law 18 [(0, .retAddr 0), (1, .ref 0), (2, .ref 110), (3, .int l3)] [] (hp u) (hp r.1, some (.int r.2))) (u : am_MU) (l3 : Int32) (r : am_MU × Int32) (h : g_L_law_1582 X K18 u l3 = some r) : am_Ev X M_L_law 1582 [(0, .retAddr 0), (1, .ref 0), (2, .ref 110), (3, .int l3)] [] (hp u) (hp r.1, some (.int r.2)) := by
  unfold g_L_law_1582 at h
  obtain ⟨x1, ex1, h⟩ := am_lt h
  refine ev_iinc (v := x1) (L' := [(3, .int x1), (0, .retAddr 0), (1, .ref 0), (2, .ref 110)]) dL_law_1582 3 rfl (by rw [kI_6, ex1]) (by decide) rfl ?_
  refine ev_goto 18 dL_law_1585 (by decide) ?_
  refine ev_loc [1, 2, 3, 0] rfl ?_
  exact hK18 u x1 _ h

theorem l_L_law_18 (X : Nat × (Nat → Int32))   : ∀ (n : Nat) (u : am_MU) (l3 : Int32) (r : am_MU × Int32), g_L_law_18 X  n u l3 = some r → am_Ev X M_L_law 18 [(0, .retAddr 0), (1, .ref 0), (2, .ref 110), (3, .int l3)] [] (hp u) (hp r.1, some (.int r.2)) := by
  intro n
  induction n with
  | zero => intro u l3 r h; cases h
  | succ n ih =>
    intro u l3 r h
    rw [g_L_law_18] at h
    refine ev_iload_n dL_law_18 3 rfl ?_
    refine ev_aload_n dL_law_19 0 rfl trivial ?_
    refine ev_tlen (n := X.1) (f := X.2) dL_law_20 (fun G e => by rw [← e]; rfl) ?_
    refine ev_bipush (v := (6 : Int32)) dL_law_21 kB_6 ?_
    refine ev_isub dL_law_23 ?_
    refine ev_icmp_gt 1588 dL_law_24 (by decide) (fun c1 => ?_) (fun c1 => ?_)
    · have h := am_t c1 h
      refine ev_iconst (v := (1 : Int32)) dL_law_1588 kI_1 ?_
      obtain rfl := Option.some.inj h
      exact ev_iret dL_law_1589 rfl (am_zn (Or.inr rfl))
    · have h := am_e c1 h
      refine ev_aload_n dL_law_27 0 rfl trivial ?_
      refine ev_iload_n dL_law_28 3 rfl ?_
      obtain ⟨g2, h⟩ := am_gd h
      refine ev_ti (n := X.1) (f := X.2) dL_law_29 (fun G e => by rw [← e]; rfl) (am_in_vp g2) ?_
      refine ev_bipush (v := (63 : Int32)) dL_law_30 kB_63 ?_
      refine ev_iand dL_law_32 ?_
      refine am_cs h (fun c3 h => ?_) (fun c3 h => ?_)
      · refine ev_tableIn 216 (183) dL_law_33 (by rw [c3]; decide) (by rw [c3]; decide) (by rw [c3]; decide) (by decide) ?_
        refine ev_aload_n dL_law_216 1 rfl trivial ?_
        refine ev_aload_n dL_law_217 0 rfl trivial ?_
        refine ev_iload_n dL_law_218 3 rfl ?_
        refine ev_iconst (v := (1 : Int32)) dL_law_219 kI_1 ?_
        refine ev_iadd dL_law_220 ?_
        obtain ⟨g4, h⟩ := am_gd h
        refine ev_ti (n := X.1) (f := X.2) dL_law_221 (fun G e => by rw [← e]; rfl) (am_in_vp g4) ?_
        obtain ⟨q5, eq5, h⟩ := am_bd h
        refine px_callvi [.int (X.2 (l3 + (1 : Int32)).toNatClampNeg)] (by decide) cl_6 (at6 rfl) dL_law_222 ok_X6_floor lk_RL_13 in_X6_floor se_X6_floor (by decide) rfl (c_X6_floor eq5) rfl (Nat.le_of_ble_eq_true rfl) ?_
        refine ev_aload_n dL_law_225 2 rfl trivial ?_
        refine ev_aload_n dL_law_226 0 rfl trivial ?_
        refine ev_iload_n dL_law_227 3 rfl ?_
        refine ev_iconst (v := (1 : Int32)) dL_law_228 kI_1 ?_
        refine ev_iadd dL_law_229 ?_
        refine ev_ti (n := X.1) (f := X.2) dL_law_230 (fun G e => by rw [← e]; rfl) (am_in_vp g4) ?_
        obtain ⟨q6, eq6, h⟩ := am_bd h
        refine px_callvi [.int (X.2 (l3 + (1 : Int32)).toNatClampNeg)] (by decide) cl_7 (at7 rfl) dL_law_231 ok_X7_floor lk_RL_17 in_X7_floor se_X7_floor (by decide) rfl (c_X7_floor eq6) rfl (Nat.le_of_ble_eq_true rfl) ?_
        refine ev_icmp_eq 1582 dL_law_234 (by decide) (fun c7 => ?_) (fun c7 => ?_)
        · have h := am_t c7 h
          refine ev_loc [0, 1, 2, 3] rfl ?_
          exact l_L_law_1582 X (g_L_law_18 X n) (fun u l3 r h => ih u l3 r h) q6.1 l3 _ h
        · have h := am_e c7 h
          refine ev_iconst (v := (0 : Int32)) dL_law_237 kI_0 ?_
          obtain rfl := Option.some.inj h
          exact ev_iret dL_law_238 rfl (am_zn (Or.inl rfl))
      refine am_cs h (fun c8 h => ?_) (fun c8 h => ?_)
      · refine ev_tableIn 239 (206) dL_law_33 (by rw [c8]; decide) (by rw [c8]; decide) (by rw [c8]; decide) (by decide) ?_
        refine ev_aload_n dL_law_239 1 rfl trivial ?_
        refine ev_aload_n dL_law_240 0 rfl trivial ?_
        refine ev_iload_n dL_law_241 3 rfl ?_
        refine ev_iconst (v := (1 : Int32)) dL_law_242 kI_1 ?_
        refine ev_iadd dL_law_243 ?_
        obtain ⟨g9, h⟩ := am_gd h
        refine ev_ti (n := X.1) (f := X.2) dL_law_244 (fun G e => by rw [← e]; rfl) (am_in_vp g9) ?_
        refine ev_aload_n dL_law_245 0 rfl trivial ?_
        refine ev_iload_n dL_law_246 3 rfl ?_
        refine ev_iconst (v := (2 : Int32)) dL_law_247 kI_2 ?_
        refine ev_iadd dL_law_248 ?_
        obtain ⟨g10, h⟩ := am_gd h
        refine ev_ti (n := X.1) (f := X.2) dL_law_249 (fun G e => by rw [← e]; rfl) (am_in_vp g10) ?_
        obtain ⟨q11, eq11, h⟩ := am_bd h
        refine px_callvi [.int (X.2 (l3 + (1 : Int32)).toNatClampNeg), .int (X.2 (l3 + (2 : Int32)).toNatClampNeg)] (by decide) cl_6 (at6 rfl) dL_law_250 ok_X6_told lk_RL_18 in_X6_told se_X6_told (by decide) rfl (c_X6_told eq11) rfl (Nat.le_of_ble_eq_true rfl) ?_
        refine ev_aload_n dL_law_253 2 rfl trivial ?_
        refine ev_aload_n dL_law_254 0 rfl trivial ?_
        refine ev_iload_n dL_law_255 3 rfl ?_
        refine ev_iconst (v := (1 : Int32)) dL_law_256 kI_1 ?_
        refine ev_iadd dL_law_257 ?_
        refine ev_ti (n := X.1) (f := X.2) dL_law_258 (fun G e => by rw [← e]; rfl) (am_in_vp g9) ?_
        refine ev_aload_n dL_law_259 0 rfl trivial ?_
        refine ev_iload_n dL_law_260 3 rfl ?_
        refine ev_iconst (v := (2 : Int32)) dL_law_261 kI_2 ?_
        refine ev_iadd dL_law_262 ?_
        refine ev_ti (n := X.1) (f := X.2) dL_law_263 (fun G e => by rw [← e]; rfl) (am_in_vp g10) ?_
        obtain ⟨q12, eq12, h⟩ := am_bd h
        refine px_callvi [.int (X.2 (l3 + (1 : Int32)).toNatClampNeg), .int (X.2 (l3 + (2 : Int32)).toNatClampNeg)] (by decide) cl_7 (at7 rfl) dL_law_264 ok_X7_told lk_RL_22 in_X7_told se_X7_told (by decide) rfl (c_X7_told eq12) rfl (Nat.le_of_ble_eq_true rfl) ?_
        refine ev_icmp_eq 1582 dL_law_267 (by decide) (fun c13 => ?_) (fun c13 => ?_)
        · have h := am_t c13 h
          refine ev_loc [0, 1, 2, 3] rfl ?_
          exact l_L_law_1582 X (g_L_law_18 X n) (fun u l3 r h => ih u l3 r h) q12.1 l3 _ h
        · have h := am_e c13 h
          refine ev_iconst (v := (0 : Int32)) dL_law_270 kI_0 ?_
          obtain rfl := Option.some.inj h
          exact ev_iret dL_law_271 rfl (am_zn (Or.inl rfl))
      refine am_cs h (fun c14 h => ?_) (fun c14 h => ?_)
      · refine ev_tableIn 272 (239) dL_law_33 (by rw [c14]; decide) (by rw [c14]; decide) (by rw [c14]; decide) (by decide) ?_
        refine ev_aload_n dL_law_272 1 rfl trivial ?_
        refine ev_aload_n dL_law_273 0 rfl trivial ?_
        refine ev_iload_n dL_law_274 3 rfl ?_
        refine ev_iconst (v := (1 : Int32)) dL_law_275 kI_1 ?_
        refine ev_iadd dL_law_276 ?_
        obtain ⟨g15, h⟩ := am_gd h
        refine ev_ti (n := X.1) (f := X.2) dL_law_277 (fun G e => by rw [← e]; rfl) (am_in_vp g15) ?_
        refine ev_aload_n dL_law_278 0 rfl trivial ?_
        refine ev_iload_n dL_law_279 3 rfl ?_
        refine ev_iconst (v := (2 : Int32)) dL_law_280 kI_2 ?_
        refine ev_iadd dL_law_281 ?_
        obtain ⟨g16, h⟩ := am_gd h
        refine ev_ti (n := X.1) (f := X.2) dL_law_282 (fun G e => by rw [← e]; rfl) (am_in_vp g16) ?_
        obtain ⟨q17, eq17, h⟩ := am_bd h
        refine px_callvi [.int (X.2 (l3 + (1 : Int32)).toNatClampNeg), .int (X.2 (l3 + (2 : Int32)).toNatClampNeg)] (by decide) cl_6 (at6 rfl) dL_law_283 ok_X6_as lk_RL_23 in_X6_as se_X6_as (by decide) rfl (c_X6_as eq17) rfl (Nat.le_of_ble_eq_true rfl) ?_
        refine ev_aload_n dL_law_286 2 rfl trivial ?_
        refine ev_aload_n dL_law_287 0 rfl trivial ?_
        refine ev_iload_n dL_law_288 3 rfl ?_
        refine ev_iconst (v := (1 : Int32)) dL_law_289 kI_1 ?_
        refine ev_iadd dL_law_290 ?_
        refine ev_ti (n := X.1) (f := X.2) dL_law_291 (fun G e => by rw [← e]; rfl) (am_in_vp g15) ?_
        refine ev_aload_n dL_law_292 0 rfl trivial ?_
        refine ev_iload_n dL_law_293 3 rfl ?_
        refine ev_iconst (v := (2 : Int32)) dL_law_294 kI_2 ?_
        refine ev_iadd dL_law_295 ?_
        refine ev_ti (n := X.1) (f := X.2) dL_law_296 (fun G e => by rw [← e]; rfl) (am_in_vp g16) ?_
        obtain ⟨q18, eq18, h⟩ := am_bd h
        refine px_callvi [.int (X.2 (l3 + (1 : Int32)).toNatClampNeg), .int (X.2 (l3 + (2 : Int32)).toNatClampNeg)] (by decide) cl_7 (at7 rfl) dL_law_297 ok_X7_as lk_RL_26 in_X7_as se_X7_as (by decide) rfl (c_X7_as eq18) rfl (Nat.le_of_ble_eq_true rfl) ?_
        refine ev_icmp_eq 1582 dL_law_300 (by decide) (fun c19 => ?_) (fun c19 => ?_)
        · have h := am_t c19 h
          refine ev_loc [0, 1, 2, 3] rfl ?_
          exact l_L_law_1582 X (g_L_law_18 X n) (fun u l3 r h => ih u l3 r h) q18.1 l3 _ h
        · have h := am_e c19 h
          refine ev_iconst (v := (0 : Int32)) dL_law_303 kI_0 ?_
          obtain rfl := Option.some.inj h
          exact ev_iret dL_law_304 rfl (am_zn (Or.inl rfl))
      refine am_cs h (fun c20 h => ?_) (fun c20 h => ?_)
      · refine ev_tableIn 305 (272) dL_law_33 (by rw [c20]; decide) (by rw [c20]; decide) (by rw [c20]; decide) (by decide) ?_
        refine ev_aload_n dL_law_305 1 rfl trivial ?_
        refine ev_aload_n dL_law_306 0 rfl trivial ?_
        refine ev_iload_n dL_law_307 3 rfl ?_
        refine ev_iconst (v := (1 : Int32)) dL_law_308 kI_1 ?_
        refine ev_iadd dL_law_309 ?_
        obtain ⟨g21, h⟩ := am_gd h
        refine ev_ti (n := X.1) (f := X.2) dL_law_310 (fun G e => by rw [← e]; rfl) (am_in_vp g21) ?_
        refine ev_aload_n dL_law_311 0 rfl trivial ?_
        refine ev_iload_n dL_law_312 3 rfl ?_
        refine ev_iconst (v := (2 : Int32)) dL_law_313 kI_2 ?_
        refine ev_iadd dL_law_314 ?_
        obtain ⟨g22, h⟩ := am_gd h
        refine ev_ti (n := X.1) (f := X.2) dL_law_315 (fun G e => by rw [← e]; rfl) (am_in_vp g22) ?_
        obtain ⟨q23, eq23, h⟩ := am_bd h
        refine px_callvi [.int (X.2 (l3 + (1 : Int32)).toNatClampNeg), .int (X.2 (l3 + (2 : Int32)).toNatClampNeg)] (by decide) cl_6 (at6 rfl) dL_law_316 ok_X6_turns lk_RL_27 in_X6_turns se_X6_turns (by decide) rfl (c_X6_turns eq23) rfl (Nat.le_of_ble_eq_true rfl) ?_
        refine ev_aload_n dL_law_319 2 rfl trivial ?_
        refine ev_aload_n dL_law_320 0 rfl trivial ?_
        refine ev_iload_n dL_law_321 3 rfl ?_
        refine ev_iconst (v := (1 : Int32)) dL_law_322 kI_1 ?_
        refine ev_iadd dL_law_323 ?_
        refine ev_ti (n := X.1) (f := X.2) dL_law_324 (fun G e => by rw [← e]; rfl) (am_in_vp g21) ?_
        refine ev_aload_n dL_law_325 0 rfl trivial ?_
        refine ev_iload_n dL_law_326 3 rfl ?_
        refine ev_iconst (v := (2 : Int32)) dL_law_327 kI_2 ?_
        refine ev_iadd dL_law_328 ?_
        refine ev_ti (n := X.1) (f := X.2) dL_law_329 (fun G e => by rw [← e]; rfl) (am_in_vp g22) ?_
        obtain ⟨q24, eq24, h⟩ := am_bd h
        refine px_callvi [.int (X.2 (l3 + (1 : Int32)).toNatClampNeg), .int (X.2 (l3 + (2 : Int32)).toNatClampNeg)] (by decide) cl_7 (at7 rfl) dL_law_330 ok_X7_turns lk_RL_30 in_X7_turns se_X7_turns (by decide) rfl (c_X7_turns eq24) rfl (Nat.le_of_ble_eq_true rfl) ?_
        refine ev_icmp_eq 1582 dL_law_333 (by decide) (fun c25 => ?_) (fun c25 => ?_)
        · have h := am_t c25 h
          refine ev_loc [0, 1, 2, 3] rfl ?_
          exact l_L_law_1582 X (g_L_law_18 X n) (fun u l3 r h => ih u l3 r h) q24.1 l3 _ h
        · have h := am_e c25 h
          refine ev_iconst (v := (0 : Int32)) dL_law_336 kI_0 ?_
          obtain rfl := Option.some.inj h
          exact ev_iret dL_law_337 rfl (am_zn (Or.inl rfl))
      refine am_cs h (fun c26 h => ?_) (fun c26 h => ?_)
      · refine ev_tableIn 338 (305) dL_law_33 (by rw [c26]; decide) (by rw [c26]; decide) (by rw [c26]; decide) (by decide) ?_
        refine ev_aload_n dL_law_338 1 rfl trivial ?_
        refine ev_aload_n dL_law_339 0 rfl trivial ?_
        refine ev_iload_n dL_law_340 3 rfl ?_
        refine ev_iconst (v := (1 : Int32)) dL_law_341 kI_1 ?_
        refine ev_iadd dL_law_342 ?_
        obtain ⟨g27, h⟩ := am_gd h
        refine ev_ti (n := X.1) (f := X.2) dL_law_343 (fun G e => by rw [← e]; rfl) (am_in_vp g27) ?_
        refine ev_aload_n dL_law_344 0 rfl trivial ?_
        refine ev_iload_n dL_law_345 3 rfl ?_
        refine ev_iconst (v := (2 : Int32)) dL_law_346 kI_2 ?_
        refine ev_iadd dL_law_347 ?_
        obtain ⟨g28, h⟩ := am_gd h
        refine ev_ti (n := X.1) (f := X.2) dL_law_348 (fun G e => by rw [← e]; rfl) (am_in_vp g28) ?_
        obtain ⟨q29, eq29, h⟩ := am_bd h
        refine px_callvi [.int (X.2 (l3 + (1 : Int32)).toNatClampNeg), .int (X.2 (l3 + (2 : Int32)).toNatClampNeg)] (by decide) cl_6 (at6 rfl) dL_law_349 ok_X6_sea lk_RL_31 in_X6_sea se_X6_sea (by decide) rfl (c_X6_sea eq29) rfl (Nat.le_of_ble_eq_true rfl) ?_
        refine ev_aload_n dL_law_352 2 rfl trivial ?_
        refine ev_aload_n dL_law_353 0 rfl trivial ?_
        refine ev_iload_n dL_law_354 3 rfl ?_
        refine ev_iconst (v := (1 : Int32)) dL_law_355 kI_1 ?_
        refine ev_iadd dL_law_356 ?_
        refine ev_ti (n := X.1) (f := X.2) dL_law_357 (fun G e => by rw [← e]; rfl) (am_in_vp g27) ?_
        refine ev_aload_n dL_law_358 0 rfl trivial ?_
        refine ev_iload_n dL_law_359 3 rfl ?_
        refine ev_iconst (v := (2 : Int32)) dL_law_360 kI_2 ?_
        refine ev_iadd dL_law_361 ?_
        refine ev_ti (n := X.1) (f := X.2) dL_law_362 (fun G e => by rw [← e]; rfl) (am_in_vp g28) ?_
        obtain ⟨q30, eq30, h⟩ := am_bd h
        refine px_callvi [.int (X.2 (l3 + (1 : Int32)).toNatClampNeg), .int (X.2 (l3 + (2 : Int32)).toNatClampNeg)] (by decide) cl_7 (at7 rfl) dL_law_363 ok_X7_sea lk_RL_34 in_X7_sea se_X7_sea (by decide) rfl (c_X7_sea eq30) rfl (Nat.le_of_ble_eq_true rfl) ?_
        refine ev_icmp_eq 1582 dL_law_366 (by decide) (fun c31 => ?_) (fun c31 => ?_)
        · have h := am_t c31 h
          refine ev_loc [0, 1, 2, 3] rfl ?_
          exact l_L_law_1582 X (g_L_law_18 X n) (fun u l3 r h => ih u l3 r h) q30.1 l3 _ h
        · have h := am_e c31 h
          refine ev_iconst (v := (0 : Int32)) dL_law_369 kI_0 ?_
          obtain rfl := Option.some.inj h
          exact ev_iret dL_law_370 rfl (am_zn (Or.inl rfl))
      refine am_cs h (fun c32 h => ?_) (fun c32 h => ?_)
      · refine ev_tableIn 371 (338) dL_law_33 (by rw [c32]; decide) (by rw [c32]; decide) (by rw [c32]; decide) (by decide) ?_
        refine ev_aload_n dL_law_371 1 rfl trivial ?_
        refine ev_aload_n dL_law_372 0 rfl trivial ?_
        refine ev_iload_n dL_law_373 3 rfl ?_
        refine ev_iconst (v := (1 : Int32)) dL_law_374 kI_1 ?_
        refine ev_iadd dL_law_375 ?_
        obtain ⟨g33, h⟩ := am_gd h
        refine ev_ti (n := X.1) (f := X.2) dL_law_376 (fun G e => by rw [← e]; rfl) (am_in_vp g33) ?_
        refine ev_aload_n dL_law_377 0 rfl trivial ?_
        refine ev_iload_n dL_law_378 3 rfl ?_
        refine ev_iconst (v := (2 : Int32)) dL_law_379 kI_2 ?_
        refine ev_iadd dL_law_380 ?_
        obtain ⟨g34, h⟩ := am_gd h
        refine ev_ti (n := X.1) (f := X.2) dL_law_381 (fun G e => by rw [← e]; rfl) (am_in_vp g34) ?_
        obtain ⟨q35, eq35, h⟩ := am_bd h
        refine px_callvi [.int (X.2 (l3 + (1 : Int32)).toNatClampNeg), .int (X.2 (l3 + (2 : Int32)).toNatClampNeg)] (by decide) cl_6 (at6 rfl) dL_law_382 ok_X6_sand lk_RL_35 in_X6_sand se_X6_sand (by decide) rfl (c_X6_sand eq35) rfl (Nat.le_of_ble_eq_true rfl) ?_
        refine ev_aload_n dL_law_385 2 rfl trivial ?_
        refine ev_aload_n dL_law_386 0 rfl trivial ?_
        refine ev_iload_n dL_law_387 3 rfl ?_
        refine ev_iconst (v := (1 : Int32)) dL_law_388 kI_1 ?_
        refine ev_iadd dL_law_389 ?_
        refine ev_ti (n := X.1) (f := X.2) dL_law_390 (fun G e => by rw [← e]; rfl) (am_in_vp g33) ?_
        refine ev_aload_n dL_law_391 0 rfl trivial ?_
        refine ev_iload_n dL_law_392 3 rfl ?_
        refine ev_iconst (v := (2 : Int32)) dL_law_393 kI_2 ?_
        refine ev_iadd dL_law_394 ?_
        refine ev_ti (n := X.1) (f := X.2) dL_law_395 (fun G e => by rw [← e]; rfl) (am_in_vp g34) ?_
        obtain ⟨q36, eq36, h⟩ := am_bd h
        refine px_callvi [.int (X.2 (l3 + (1 : Int32)).toNatClampNeg), .int (X.2 (l3 + (2 : Int32)).toNatClampNeg)] (by decide) cl_7 (at7 rfl) dL_law_396 ok_X7_sand lk_RL_38 in_X7_sand se_X7_sand (by decide) rfl (c_X7_sand eq36) rfl (Nat.le_of_ble_eq_true rfl) ?_
        refine ev_icmp_eq 1582 dL_law_399 (by decide) (fun c37 => ?_) (fun c37 => ?_)
        · have h := am_t c37 h
          refine ev_loc [0, 1, 2, 3] rfl ?_
          exact l_L_law_1582 X (g_L_law_18 X n) (fun u l3 r h => ih u l3 r h) q36.1 l3 _ h
        · have h := am_e c37 h
          refine ev_iconst (v := (0 : Int32)) dL_law_402 kI_0 ?_
          obtain rfl := Option.some.inj h
          exact ev_iret dL_law_403 rfl (am_zn (Or.inl rfl))
      refine am_cs h (fun c38 h => ?_) (fun c38 h => ?_)
      · refine ev_tableIn 404 (371) dL_law_33 (by rw [c38]; decide) (by rw [c38]; decide) (by rw [c38]; decide) (by decide) ?_
        refine ev_aload_n dL_law_404 1 rfl trivial ?_
        refine ev_aload_n dL_law_405 0 rfl trivial ?_
        refine ev_iload_n dL_law_406 3 rfl ?_
        refine ev_iconst (v := (1 : Int32)) dL_law_407 kI_1 ?_
        refine ev_iadd dL_law_408 ?_
        obtain ⟨g39, h⟩ := am_gd h
        refine ev_ti (n := X.1) (f := X.2) dL_law_409 (fun G e => by rw [← e]; rfl) (am_in_vp g39) ?_
        refine ev_aload_n dL_law_410 0 rfl trivial ?_
        refine ev_iload_n dL_law_411 3 rfl ?_
        refine ev_iconst (v := (2 : Int32)) dL_law_412 kI_2 ?_
        refine ev_iadd dL_law_413 ?_
        obtain ⟨g40, h⟩ := am_gd h
        refine ev_ti (n := X.1) (f := X.2) dL_law_414 (fun G e => by rw [← e]; rfl) (am_in_vp g40) ?_
        refine ev_aload_n dL_law_415 0 rfl trivial ?_
        refine ev_iload_n dL_law_416 3 rfl ?_
        refine ev_iconst (v := (3 : Int32)) dL_law_417 kI_3 ?_
        refine ev_iadd dL_law_418 ?_
        obtain ⟨g41, h⟩ := am_gd h
        refine ev_ti (n := X.1) (f := X.2) dL_law_419 (fun G e => by rw [← e]; rfl) (am_in_vp g41) ?_
        obtain ⟨q42, eq42, h⟩ := am_bd h
        refine px_callvi [.int (X.2 (l3 + (1 : Int32)).toNatClampNeg), .int (X.2 (l3 + (2 : Int32)).toNatClampNeg), .int (X.2 (l3 + (3 : Int32)).toNatClampNeg)] (by decide) cl_6 (at6 rfl) dL_law_420 ok_X6_heap lk_RL_39 in_X6_heap se_X6_heap (by decide) rfl (c_X6_heap eq42) rfl (Nat.le_of_ble_eq_true rfl) ?_
        refine ev_aload_n dL_law_423 2 rfl trivial ?_
        refine ev_aload_n dL_law_424 0 rfl trivial ?_
        refine ev_iload_n dL_law_425 3 rfl ?_
        refine ev_iconst (v := (1 : Int32)) dL_law_426 kI_1 ?_
        refine ev_iadd dL_law_427 ?_
        refine ev_ti (n := X.1) (f := X.2) dL_law_428 (fun G e => by rw [← e]; rfl) (am_in_vp g39) ?_
        refine ev_aload_n dL_law_429 0 rfl trivial ?_
        refine ev_iload_n dL_law_430 3 rfl ?_
        refine ev_iconst (v := (2 : Int32)) dL_law_431 kI_2 ?_
        refine ev_iadd dL_law_432 ?_
        refine ev_ti (n := X.1) (f := X.2) dL_law_433 (fun G e => by rw [← e]; rfl) (am_in_vp g40) ?_
        refine ev_aload_n dL_law_434 0 rfl trivial ?_
        refine ev_iload_n dL_law_435 3 rfl ?_
        refine ev_iconst (v := (3 : Int32)) dL_law_436 kI_3 ?_
        refine ev_iadd dL_law_437 ?_
        refine ev_ti (n := X.1) (f := X.2) dL_law_438 (fun G e => by rw [← e]; rfl) (am_in_vp g41) ?_
        obtain ⟨q43, eq43, h⟩ := am_bd h
        refine px_callvi [.int (X.2 (l3 + (1 : Int32)).toNatClampNeg), .int (X.2 (l3 + (2 : Int32)).toNatClampNeg), .int (X.2 (l3 + (3 : Int32)).toNatClampNeg)] (by decide) cl_7 (at7 rfl) dL_law_439 ok_X7_heap lk_RL_43 in_X7_heap se_X7_heap (by decide) rfl (c_X7_heap eq43) rfl (Nat.le_of_ble_eq_true rfl) ?_
        refine ev_icmp_eq 1582 dL_law_442 (by decide) (fun c44 => ?_) (fun c44 => ?_)
        · have h := am_t c44 h
          refine ev_loc [0, 1, 2, 3] rfl ?_
          exact l_L_law_1582 X (g_L_law_18 X n) (fun u l3 r h => ih u l3 r h) q43.1 l3 _ h
        · have h := am_e c44 h
          refine ev_iconst (v := (0 : Int32)) dL_law_445 kI_0 ?_
          obtain rfl := Option.some.inj h
          exact ev_iret dL_law_446 rfl (am_zn (Or.inl rfl))
      refine am_cs h (fun c45 h => ?_) (fun c45 h => ?_)
      · refine ev_tableIn 447 (414) dL_law_33 (by rw [c45]; decide) (by rw [c45]; decide) (by rw [c45]; decide) (by decide) ?_
        refine ev_aload_n dL_law_447 1 rfl trivial ?_
        refine ev_aload_n dL_law_448 0 rfl trivial ?_
        refine ev_iload_n dL_law_449 3 rfl ?_
        refine ev_iconst (v := (1 : Int32)) dL_law_450 kI_1 ?_
        refine ev_iadd dL_law_451 ?_
        obtain ⟨g46, h⟩ := am_gd h
        refine ev_ti (n := X.1) (f := X.2) dL_law_452 (fun G e => by rw [← e]; rfl) (am_in_vp g46) ?_
        obtain ⟨q47, eq47, h⟩ := am_bd h
        refine px_callvi [.int (X.2 (l3 + (1 : Int32)).toNatClampNeg)] (by decide) cl_6 (at6 rfl) dL_law_453 ok_X6_deal lk_RL_44 in_X6_deal se_X6_deal (by decide) rfl (c_X6_deal eq47) rfl (Nat.le_of_ble_eq_true rfl) ?_
        refine ev_aload_n dL_law_456 2 rfl trivial ?_
        refine ev_aload_n dL_law_457 0 rfl trivial ?_
        refine ev_iload_n dL_law_458 3 rfl ?_
        refine ev_iconst (v := (1 : Int32)) dL_law_459 kI_1 ?_
        refine ev_iadd dL_law_460 ?_
        refine ev_ti (n := X.1) (f := X.2) dL_law_461 (fun G e => by rw [← e]; rfl) (am_in_vp g46) ?_
        obtain ⟨q48, eq48, h⟩ := am_bd h
        refine px_callvi [.int (X.2 (l3 + (1 : Int32)).toNatClampNeg)] (by decide) cl_7 (at7 rfl) dL_law_462 ok_X7_deal lk_RL_47 in_X7_deal se_X7_deal (by decide) rfl (c_X7_deal eq48) rfl (Nat.le_of_ble_eq_true rfl) ?_
        refine ev_icmp_eq 1582 dL_law_465 (by decide) (fun c49 => ?_) (fun c49 => ?_)
        · have h := am_t c49 h
          refine ev_loc [0, 1, 2, 3] rfl ?_
          exact l_L_law_1582 X (g_L_law_18 X n) (fun u l3 r h => ih u l3 r h) q48.1 l3 _ h
        · have h := am_e c49 h
          refine ev_iconst (v := (0 : Int32)) dL_law_468 kI_0 ?_
          obtain rfl := Option.some.inj h
          exact ev_iret dL_law_469 rfl (am_zn (Or.inl rfl))
      refine am_cs h (fun c50 h => ?_) (fun c50 h => ?_)
      · refine ev_tableIn 470 (437) dL_law_33 (by rw [c50]; decide) (by rw [c50]; decide) (by rw [c50]; decide) (by decide) ?_
        refine ev_aload_n dL_law_470 1 rfl trivial ?_
        refine ev_aload_n dL_law_471 0 rfl trivial ?_
        refine ev_iload_n dL_law_472 3 rfl ?_
        refine ev_iconst (v := (1 : Int32)) dL_law_473 kI_1 ?_
        refine ev_iadd dL_law_474 ?_
        obtain ⟨g51, h⟩ := am_gd h
        refine ev_ti (n := X.1) (f := X.2) dL_law_475 (fun G e => by rw [← e]; rfl) (am_in_vp g51) ?_
        obtain ⟨q52, eq52, h⟩ := am_bd h
        refine px_callvi [.int (X.2 (l3 + (1 : Int32)).toNatClampNeg)] (by decide) cl_6 (at6 rfl) dL_law_476 ok_X6_seed lk_RL_48 in_X6_seed se_X6_seed (by decide) rfl (c_X6_seed eq52) rfl (Nat.le_of_ble_eq_true rfl) ?_
        refine ev_aload_n dL_law_479 2 rfl trivial ?_
        refine ev_aload_n dL_law_480 0 rfl trivial ?_
        refine ev_iload_n dL_law_481 3 rfl ?_
        refine ev_iconst (v := (1 : Int32)) dL_law_482 kI_1 ?_
        refine ev_iadd dL_law_483 ?_
        refine ev_ti (n := X.1) (f := X.2) dL_law_484 (fun G e => by rw [← e]; rfl) (am_in_vp g51) ?_
        obtain ⟨q53, eq53, h⟩ := am_bd h
        refine px_callvi [.int (X.2 (l3 + (1 : Int32)).toNatClampNeg)] (by decide) cl_7 (at7 rfl) dL_law_485 ok_X7_seed lk_RL_51 in_X7_seed se_X7_seed (by decide) rfl (c_X7_seed eq53) rfl (Nat.le_of_ble_eq_true rfl) ?_
        refine ev_icmp_eq 1582 dL_law_488 (by decide) (fun c54 => ?_) (fun c54 => ?_)
        · have h := am_t c54 h
          refine ev_loc [0, 1, 2, 3] rfl ?_
          exact l_L_law_1582 X (g_L_law_18 X n) (fun u l3 r h => ih u l3 r h) q53.1 l3 _ h
        · have h := am_e c54 h
          refine ev_iconst (v := (0 : Int32)) dL_law_491 kI_0 ?_
          obtain rfl := Option.some.inj h
          exact ev_iret dL_law_492 rfl (am_zn (Or.inl rfl))
      refine am_cs h (fun c55 h => ?_) (fun c55 h => ?_)
      · refine ev_tableIn 493 (460) dL_law_33 (by rw [c55]; decide) (by rw [c55]; decide) (by rw [c55]; decide) (by decide) ?_
        refine ev_aload_n dL_law_493 1 rfl trivial ?_
        refine ev_aload_n dL_law_494 0 rfl trivial ?_
        refine ev_iload_n dL_law_495 3 rfl ?_
        refine ev_iconst (v := (1 : Int32)) dL_law_496 kI_1 ?_
        refine ev_iadd dL_law_497 ?_
        obtain ⟨g56, h⟩ := am_gd h
        refine ev_ti (n := X.1) (f := X.2) dL_law_498 (fun G e => by rw [← e]; rfl) (am_in_vp g56) ?_
        refine ev_aload_n dL_law_499 0 rfl trivial ?_
        refine ev_iload_n dL_law_500 3 rfl ?_
        refine ev_iconst (v := (2 : Int32)) dL_law_501 kI_2 ?_
        refine ev_iadd dL_law_502 ?_
        obtain ⟨g57, h⟩ := am_gd h
        refine ev_ti (n := X.1) (f := X.2) dL_law_503 (fun G e => by rw [← e]; rfl) (am_in_vp g57) ?_
        refine ev_aload_n dL_law_504 0 rfl trivial ?_
        refine ev_iload_n dL_law_505 3 rfl ?_
        refine ev_iconst (v := (3 : Int32)) dL_law_506 kI_3 ?_
        refine ev_iadd dL_law_507 ?_
        obtain ⟨g58, h⟩ := am_gd h
        refine ev_ti (n := X.1) (f := X.2) dL_law_508 (fun G e => by rw [← e]; rfl) (am_in_vp g58) ?_
        obtain ⟨q59, eq59, h⟩ := am_bd h
        refine px_callvi [.int (X.2 (l3 + (1 : Int32)).toNatClampNeg), .int (X.2 (l3 + (2 : Int32)).toNatClampNeg), .int (X.2 (l3 + (3 : Int32)).toNatClampNeg)] (by decide) cl_6 (at6 rfl) dL_law_509 ok_X6_lift lk_RL_52 in_X6_lift se_X6_lift (by decide) rfl (c_X6_lift eq59) rfl (Nat.le_of_ble_eq_true rfl) ?_
        refine ev_aload_n dL_law_512 2 rfl trivial ?_
        refine ev_aload_n dL_law_513 0 rfl trivial ?_
        refine ev_iload_n dL_law_514 3 rfl ?_
        refine ev_iconst (v := (1 : Int32)) dL_law_515 kI_1 ?_
        refine ev_iadd dL_law_516 ?_
        refine ev_ti (n := X.1) (f := X.2) dL_law_517 (fun G e => by rw [← e]; rfl) (am_in_vp g56) ?_
        refine ev_aload_n dL_law_518 0 rfl trivial ?_
        refine ev_iload_n dL_law_519 3 rfl ?_
        refine ev_iconst (v := (2 : Int32)) dL_law_520 kI_2 ?_
        refine ev_iadd dL_law_521 ?_
        refine ev_ti (n := X.1) (f := X.2) dL_law_522 (fun G e => by rw [← e]; rfl) (am_in_vp g57) ?_
        refine ev_aload_n dL_law_523 0 rfl trivial ?_
        refine ev_iload_n dL_law_524 3 rfl ?_
        refine ev_iconst (v := (3 : Int32)) dL_law_525 kI_3 ?_
        refine ev_iadd dL_law_526 ?_
        refine ev_ti (n := X.1) (f := X.2) dL_law_527 (fun G e => by rw [← e]; rfl) (am_in_vp g58) ?_
        obtain ⟨q60, eq60, h⟩ := am_bd h
        refine px_callvi [.int (X.2 (l3 + (1 : Int32)).toNatClampNeg), .int (X.2 (l3 + (2 : Int32)).toNatClampNeg), .int (X.2 (l3 + (3 : Int32)).toNatClampNeg)] (by decide) cl_7 (at7 rfl) dL_law_528 ok_X7_lift lk_RL_55 in_X7_lift se_X7_lift (by decide) rfl (c_X7_lift eq60) rfl (Nat.le_of_ble_eq_true rfl) ?_
        refine ev_icmp_eq 1582 dL_law_531 (by decide) (fun c61 => ?_) (fun c61 => ?_)
        · have h := am_t c61 h
          refine ev_loc [0, 1, 2, 3] rfl ?_
          exact l_L_law_1582 X (g_L_law_18 X n) (fun u l3 r h => ih u l3 r h) q60.1 l3 _ h
        · have h := am_e c61 h
          refine ev_iconst (v := (0 : Int32)) dL_law_534 kI_0 ?_
          obtain rfl := Option.some.inj h
          exact ev_iret dL_law_535 rfl (am_zn (Or.inl rfl))
      refine am_cs h (fun c62 h => ?_) (fun c62 h => ?_)
      · refine ev_tableIn 536 (503) dL_law_33 (by rw [c62]; decide) (by rw [c62]; decide) (by rw [c62]; decide) (by decide) ?_
        refine ev_aload_n dL_law_536 1 rfl trivial ?_
        refine ev_aload_n dL_law_537 0 rfl trivial ?_
        refine ev_iload_n dL_law_538 3 rfl ?_
        refine ev_iconst (v := (1 : Int32)) dL_law_539 kI_1 ?_
        refine ev_iadd dL_law_540 ?_
        obtain ⟨g63, h⟩ := am_gd h
        refine ev_ti (n := X.1) (f := X.2) dL_law_541 (fun G e => by rw [← e]; rfl) (am_in_vp g63) ?_
        refine ev_aload_n dL_law_542 0 rfl trivial ?_
        refine ev_iload_n dL_law_543 3 rfl ?_
        refine ev_iconst (v := (2 : Int32)) dL_law_544 kI_2 ?_
        refine ev_iadd dL_law_545 ?_
        obtain ⟨g64, h⟩ := am_gd h
        refine ev_ti (n := X.1) (f := X.2) dL_law_546 (fun G e => by rw [← e]; rfl) (am_in_vp g64) ?_
        obtain ⟨q65, eq65, h⟩ := am_bd h
        refine px_callvi [.int (X.2 (l3 + (1 : Int32)).toNatClampNeg), .int (X.2 (l3 + (2 : Int32)).toNatClampNeg)] (by decide) cl_6 (at6 rfl) dL_law_547 ok_X6_run lk_RL_56 in_X6_run se_X6_run (by decide) rfl (c_X6_run eq65) rfl (Nat.le_of_ble_eq_true rfl) ?_
        refine ev_aload_n dL_law_550 2 rfl trivial ?_
        refine ev_aload_n dL_law_551 0 rfl trivial ?_
        refine ev_iload_n dL_law_552 3 rfl ?_
        refine ev_iconst (v := (1 : Int32)) dL_law_553 kI_1 ?_
        refine ev_iadd dL_law_554 ?_
        refine ev_ti (n := X.1) (f := X.2) dL_law_555 (fun G e => by rw [← e]; rfl) (am_in_vp g63) ?_
        refine ev_aload_n dL_law_556 0 rfl trivial ?_
        refine ev_iload_n dL_law_557 3 rfl ?_
        refine ev_iconst (v := (2 : Int32)) dL_law_558 kI_2 ?_
        refine ev_iadd dL_law_559 ?_
        refine ev_ti (n := X.1) (f := X.2) dL_law_560 (fun G e => by rw [← e]; rfl) (am_in_vp g64) ?_
        obtain ⟨q66, eq66, h⟩ := am_bd h
        refine px_callvi [.int (X.2 (l3 + (1 : Int32)).toNatClampNeg), .int (X.2 (l3 + (2 : Int32)).toNatClampNeg)] (by decide) cl_7 (at7 rfl) dL_law_561 ok_X7_run lk_RL_59 in_X7_run se_X7_run (by decide) rfl (c_X7_run eq66) rfl (Nat.le_of_ble_eq_true rfl) ?_
        refine ev_icmp_eq 1582 dL_law_564 (by decide) (fun c67 => ?_) (fun c67 => ?_)
        · have h := am_t c67 h
          refine ev_loc [0, 1, 2, 3] rfl ?_
          exact l_L_law_1582 X (g_L_law_18 X n) (fun u l3 r h => ih u l3 r h) q66.1 l3 _ h
        · have h := am_e c67 h
          refine ev_iconst (v := (0 : Int32)) dL_law_567 kI_0 ?_
          obtain rfl := Option.some.inj h
          exact ev_iret dL_law_568 rfl (am_zn (Or.inl rfl))
      refine am_cs h (fun c68 h => ?_) (fun c68 h => ?_)
      · refine ev_tableIn 569 (536) dL_law_33 (by rw [c68]; decide) (by rw [c68]; decide) (by rw [c68]; decide) (by decide) ?_
        refine ev_aload_n dL_law_569 1 rfl trivial ?_
        refine ev_aload_n dL_law_570 0 rfl trivial ?_
        refine ev_iload_n dL_law_571 3 rfl ?_
        refine ev_iconst (v := (1 : Int32)) dL_law_572 kI_1 ?_
        refine ev_iadd dL_law_573 ?_
        obtain ⟨g69, h⟩ := am_gd h
        refine ev_ti (n := X.1) (f := X.2) dL_law_574 (fun G e => by rw [← e]; rfl) (am_in_vp g69) ?_
        refine ev_aload_n dL_law_575 0 rfl trivial ?_
        refine ev_iload_n dL_law_576 3 rfl ?_
        refine ev_iconst (v := (2 : Int32)) dL_law_577 kI_2 ?_
        refine ev_iadd dL_law_578 ?_
        obtain ⟨g70, h⟩ := am_gd h
        refine ev_ti (n := X.1) (f := X.2) dL_law_579 (fun G e => by rw [← e]; rfl) (am_in_vp g70) ?_
        obtain ⟨q71, eq71, h⟩ := am_bd h
        refine px_callvi [.int (X.2 (l3 + (1 : Int32)).toNatClampNeg), .int (X.2 (l3 + (2 : Int32)).toNatClampNeg)] (by decide) cl_6 (at6 rfl) dL_law_580 ok_X6_crest lk_RL_60 in_X6_crest se_X6_crest (by decide) rfl (c_X6_crest eq71) rfl (Nat.le_of_ble_eq_true rfl) ?_
        refine ev_aload_n dL_law_583 2 rfl trivial ?_
        refine ev_aload_n dL_law_584 0 rfl trivial ?_
        refine ev_iload_n dL_law_585 3 rfl ?_
        refine ev_iconst (v := (1 : Int32)) dL_law_586 kI_1 ?_
        refine ev_iadd dL_law_587 ?_
        refine ev_ti (n := X.1) (f := X.2) dL_law_588 (fun G e => by rw [← e]; rfl) (am_in_vp g69) ?_
        refine ev_aload_n dL_law_589 0 rfl trivial ?_
        refine ev_iload_n dL_law_590 3 rfl ?_
        refine ev_iconst (v := (2 : Int32)) dL_law_591 kI_2 ?_
        refine ev_iadd dL_law_592 ?_
        refine ev_ti (n := X.1) (f := X.2) dL_law_593 (fun G e => by rw [← e]; rfl) (am_in_vp g70) ?_
        obtain ⟨q72, eq72, h⟩ := am_bd h
        refine px_callvi [.int (X.2 (l3 + (1 : Int32)).toNatClampNeg), .int (X.2 (l3 + (2 : Int32)).toNatClampNeg)] (by decide) cl_7 (at7 rfl) dL_law_594 ok_X7_crest lk_RL_63 in_X7_crest se_X7_crest (by decide) rfl (c_X7_crest eq72) rfl (Nat.le_of_ble_eq_true rfl) ?_
        refine ev_icmp_eq 1582 dL_law_597 (by decide) (fun c73 => ?_) (fun c73 => ?_)
        · have h := am_t c73 h
          refine ev_loc [0, 1, 2, 3] rfl ?_
          exact l_L_law_1582 X (g_L_law_18 X n) (fun u l3 r h => ih u l3 r h) q72.1 l3 _ h
        · have h := am_e c73 h
          refine ev_iconst (v := (0 : Int32)) dL_law_600 kI_0 ?_
          obtain rfl := Option.some.inj h
          exact ev_iret dL_law_601 rfl (am_zn (Or.inl rfl))
      refine am_cs h (fun c74 h => ?_) (fun c74 h => ?_)
      · refine ev_tableIn 602 (569) dL_law_33 (by rw [c74]; decide) (by rw [c74]; decide) (by rw [c74]; decide) (by decide) ?_
        refine ev_aload_n dL_law_602 1 rfl trivial ?_
        refine ev_aload_n dL_law_603 0 rfl trivial ?_
        refine ev_iload_n dL_law_604 3 rfl ?_
        refine ev_iconst (v := (1 : Int32)) dL_law_605 kI_1 ?_
        refine ev_iadd dL_law_606 ?_
        obtain ⟨g75, h⟩ := am_gd h
        refine ev_ti (n := X.1) (f := X.2) dL_law_607 (fun G e => by rw [← e]; rfl) (am_in_vp g75) ?_
        obtain ⟨q76, eq76, h⟩ := am_bd h
        refine px_callvi [.int (X.2 (l3 + (1 : Int32)).toNatClampNeg)] (by decide) cl_6 (at6 rfl) dL_law_608 ok_X6_apart lk_RL_64 in_X6_apart se_X6_apart (by decide) rfl (c_X6_apart eq76) rfl (Nat.le_of_ble_eq_true rfl) ?_
        refine ev_aload_n dL_law_611 2 rfl trivial ?_
        refine ev_aload_n dL_law_612 0 rfl trivial ?_
        refine ev_iload_n dL_law_613 3 rfl ?_
        refine ev_iconst (v := (1 : Int32)) dL_law_614 kI_1 ?_
        refine ev_iadd dL_law_615 ?_
        refine ev_ti (n := X.1) (f := X.2) dL_law_616 (fun G e => by rw [← e]; rfl) (am_in_vp g75) ?_
        obtain ⟨q77, eq77, h⟩ := am_bd h
        refine px_callvi [.int (X.2 (l3 + (1 : Int32)).toNatClampNeg)] (by decide) cl_7 (at7 rfl) dL_law_617 ok_X7_apart lk_RL_67 in_X7_apart se_X7_apart (by decide) rfl (c_X7_apart eq77) rfl (Nat.le_of_ble_eq_true rfl) ?_
        refine ev_icmp_eq 1582 dL_law_620 (by decide) (fun c78 => ?_) (fun c78 => ?_)
        · have h := am_t c78 h
          refine ev_loc [0, 1, 2, 3] rfl ?_
          exact l_L_law_1582 X (g_L_law_18 X n) (fun u l3 r h => ih u l3 r h) q77.1 l3 _ h
        · have h := am_e c78 h
          refine ev_iconst (v := (0 : Int32)) dL_law_623 kI_0 ?_
          obtain rfl := Option.some.inj h
          exact ev_iret dL_law_624 rfl (am_zn (Or.inl rfl))
      refine am_cs h (fun c79 h => ?_) (fun c79 h => ?_)
      · refine ev_tableIn 625 (592) dL_law_33 (by rw [c79]; decide) (by rw [c79]; decide) (by rw [c79]; decide) (by decide) ?_
        refine ev_aload_n dL_law_625 1 rfl trivial ?_
        refine ev_aload_n dL_law_626 0 rfl trivial ?_
        refine ev_iload_n dL_law_627 3 rfl ?_
        refine ev_iconst (v := (1 : Int32)) dL_law_628 kI_1 ?_
        refine ev_iadd dL_law_629 ?_
        obtain ⟨g80, h⟩ := am_gd h
        refine ev_ti (n := X.1) (f := X.2) dL_law_630 (fun G e => by rw [← e]; rfl) (am_in_vp g80) ?_
        refine ev_aload_n dL_law_631 0 rfl trivial ?_
        refine ev_iload_n dL_law_632 3 rfl ?_
        refine ev_iconst (v := (2 : Int32)) dL_law_633 kI_2 ?_
        refine ev_iadd dL_law_634 ?_
        obtain ⟨g81, h⟩ := am_gd h
        refine ev_ti (n := X.1) (f := X.2) dL_law_635 (fun G e => by rw [← e]; rfl) (am_in_vp g81) ?_
        obtain ⟨q82, eq82, h⟩ := am_bd h
        refine px_callvi [.int (X.2 (l3 + (1 : Int32)).toNatClampNeg), .int (X.2 (l3 + (2 : Int32)).toNatClampNeg)] (by decide) cl_6 (at6 rfl) dL_law_636 ok_X6_flat lk_RL_68 in_X6_flat se_X6_flat (by decide) rfl (c_X6_flat eq82) rfl (Nat.le_of_ble_eq_true rfl) ?_
        refine ev_aload_n dL_law_639 2 rfl trivial ?_
        refine ev_aload_n dL_law_640 0 rfl trivial ?_
        refine ev_iload_n dL_law_641 3 rfl ?_
        refine ev_iconst (v := (1 : Int32)) dL_law_642 kI_1 ?_
        refine ev_iadd dL_law_643 ?_
        refine ev_ti (n := X.1) (f := X.2) dL_law_644 (fun G e => by rw [← e]; rfl) (am_in_vp g80) ?_
        refine ev_aload_n dL_law_645 0 rfl trivial ?_
        refine ev_iload_n dL_law_646 3 rfl ?_
        refine ev_iconst (v := (2 : Int32)) dL_law_647 kI_2 ?_
        refine ev_iadd dL_law_648 ?_
        refine ev_ti (n := X.1) (f := X.2) dL_law_649 (fun G e => by rw [← e]; rfl) (am_in_vp g81) ?_
        obtain ⟨q83, eq83, h⟩ := am_bd h
        refine px_callvi [.int (X.2 (l3 + (1 : Int32)).toNatClampNeg), .int (X.2 (l3 + (2 : Int32)).toNatClampNeg)] (by decide) cl_7 (at7 rfl) dL_law_650 ok_X7_flat lk_RL_71 in_X7_flat se_X7_flat (by decide) rfl (c_X7_flat eq83) rfl (Nat.le_of_ble_eq_true rfl) ?_
        refine ev_icmp_eq 1582 dL_law_653 (by decide) (fun c84 => ?_) (fun c84 => ?_)
        · have h := am_t c84 h
          refine ev_loc [0, 1, 2, 3] rfl ?_
          exact l_L_law_1582 X (g_L_law_18 X n) (fun u l3 r h => ih u l3 r h) q83.1 l3 _ h
        · have h := am_e c84 h
          refine ev_iconst (v := (0 : Int32)) dL_law_656 kI_0 ?_
          obtain rfl := Option.some.inj h
          exact ev_iret dL_law_657 rfl (am_zn (Or.inl rfl))
      refine am_cs h (fun c85 h => ?_) (fun c85 h => ?_)
      · refine ev_tableIn 658 (625) dL_law_33 (by rw [c85]; decide) (by rw [c85]; decide) (by rw [c85]; decide) (by decide) ?_
        refine ev_aload_n dL_law_658 1 rfl trivial ?_
        refine ev_aload_n dL_law_659 0 rfl trivial ?_
        refine ev_iload_n dL_law_660 3 rfl ?_
        refine ev_iconst (v := (1 : Int32)) dL_law_661 kI_1 ?_
        refine ev_iadd dL_law_662 ?_
        obtain ⟨g86, h⟩ := am_gd h
        refine ev_ti (n := X.1) (f := X.2) dL_law_663 (fun G e => by rw [← e]; rfl) (am_in_vp g86) ?_
        refine ev_aload_n dL_law_664 0 rfl trivial ?_
        refine ev_iload_n dL_law_665 3 rfl ?_
        refine ev_iconst (v := (2 : Int32)) dL_law_666 kI_2 ?_
        refine ev_iadd dL_law_667 ?_
        obtain ⟨g87, h⟩ := am_gd h
        refine ev_ti (n := X.1) (f := X.2) dL_law_668 (fun G e => by rw [← e]; rfl) (am_in_vp g87) ?_
        obtain ⟨q88, eq88, h⟩ := am_bd h
        refine px_callvi [.int (X.2 (l3 + (1 : Int32)).toNatClampNeg), .int (X.2 (l3 + (2 : Int32)).toNatClampNeg)] (by decide) cl_6 (at6 rfl) dL_law_669 ok_X6_soon lk_RL_72 in_X6_soon se_X6_soon (by decide) rfl (c_X6_soon eq88) rfl (Nat.le_of_ble_eq_true rfl) ?_
        refine ev_aload_n dL_law_672 2 rfl trivial ?_
        refine ev_aload_n dL_law_673 0 rfl trivial ?_
        refine ev_iload_n dL_law_674 3 rfl ?_
        refine ev_iconst (v := (1 : Int32)) dL_law_675 kI_1 ?_
        refine ev_iadd dL_law_676 ?_
        refine ev_ti (n := X.1) (f := X.2) dL_law_677 (fun G e => by rw [← e]; rfl) (am_in_vp g86) ?_
        refine ev_aload_n dL_law_678 0 rfl trivial ?_
        refine ev_iload_n dL_law_679 3 rfl ?_
        refine ev_iconst (v := (2 : Int32)) dL_law_680 kI_2 ?_
        refine ev_iadd dL_law_681 ?_
        refine ev_ti (n := X.1) (f := X.2) dL_law_682 (fun G e => by rw [← e]; rfl) (am_in_vp g87) ?_
        obtain ⟨q89, eq89, h⟩ := am_bd h
        refine px_callvi [.int (X.2 (l3 + (1 : Int32)).toNatClampNeg), .int (X.2 (l3 + (2 : Int32)).toNatClampNeg)] (by decide) cl_7 (at7 rfl) dL_law_683 ok_X7_soon lk_RL_75 in_X7_soon se_X7_soon (by decide) rfl (c_X7_soon eq89) rfl (Nat.le_of_ble_eq_true rfl) ?_
        refine ev_icmp_eq 1582 dL_law_686 (by decide) (fun c90 => ?_) (fun c90 => ?_)
        · have h := am_t c90 h
          refine ev_loc [0, 1, 2, 3] rfl ?_
          exact l_L_law_1582 X (g_L_law_18 X n) (fun u l3 r h => ih u l3 r h) q89.1 l3 _ h
        · have h := am_e c90 h
          refine ev_iconst (v := (0 : Int32)) dL_law_689 kI_0 ?_
          obtain rfl := Option.some.inj h
          exact ev_iret dL_law_690 rfl (am_zn (Or.inl rfl))
      refine am_cs h (fun c91 h => ?_) (fun c91 h => ?_)
      · refine ev_tableIn 691 (658) dL_law_33 (by rw [c91]; decide) (by rw [c91]; decide) (by rw [c91]; decide) (by decide) ?_
        refine ev_aload_n dL_law_691 1 rfl trivial ?_
        refine ev_aload_n dL_law_692 0 rfl trivial ?_
        refine ev_iload_n dL_law_693 3 rfl ?_
        refine ev_iconst (v := (1 : Int32)) dL_law_694 kI_1 ?_
        refine ev_iadd dL_law_695 ?_
        obtain ⟨g92, h⟩ := am_gd h
        refine ev_ti (n := X.1) (f := X.2) dL_law_696 (fun G e => by rw [← e]; rfl) (am_in_vp g92) ?_
        obtain ⟨q93, eq93, h⟩ := am_bd h
        refine px_callvi [.int (X.2 (l3 + (1 : Int32)).toNatClampNeg)] (by decide) cl_6 (at6 rfl) dL_law_697 ok_X6_period lk_RL_76 in_X6_period se_X6_period (by decide) rfl (c_X6_period eq93) rfl (Nat.le_of_ble_eq_true rfl) ?_
        refine ev_aload_n dL_law_700 2 rfl trivial ?_
        refine ev_aload_n dL_law_701 0 rfl trivial ?_
        refine ev_iload_n dL_law_702 3 rfl ?_
        refine ev_iconst (v := (1 : Int32)) dL_law_703 kI_1 ?_
        refine ev_iadd dL_law_704 ?_
        refine ev_ti (n := X.1) (f := X.2) dL_law_705 (fun G e => by rw [← e]; rfl) (am_in_vp g92) ?_
        obtain ⟨q94, eq94, h⟩ := am_bd h
        refine px_callvi [.int (X.2 (l3 + (1 : Int32)).toNatClampNeg)] (by decide) cl_7 (at7 rfl) dL_law_706 ok_X7_period lk_RL_79 in_X7_period se_X7_period (by decide) rfl (c_X7_period eq94) rfl (Nat.le_of_ble_eq_true rfl) ?_
        refine ev_icmp_eq 1582 dL_law_709 (by decide) (fun c95 => ?_) (fun c95 => ?_)
        · have h := am_t c95 h
          refine ev_loc [0, 1, 2, 3] rfl ?_
          exact l_L_law_1582 X (g_L_law_18 X n) (fun u l3 r h => ih u l3 r h) q94.1 l3 _ h
        · have h := am_e c95 h
          refine ev_iconst (v := (0 : Int32)) dL_law_712 kI_0 ?_
          obtain rfl := Option.some.inj h
          exact ev_iret dL_law_713 rfl (am_zn (Or.inl rfl))
      refine am_cs h (fun c96 h => ?_) (fun c96 h => ?_)
      · refine ev_tableIn 714 (681) dL_law_33 (by rw [c96]; decide) (by rw [c96]; decide) (by rw [c96]; decide) (by decide) ?_
        refine ev_aload_n dL_law_714 1 rfl trivial ?_
        refine ev_aload_n dL_law_715 0 rfl trivial ?_
        refine ev_iload_n dL_law_716 3 rfl ?_
        refine ev_iconst (v := (1 : Int32)) dL_law_717 kI_1 ?_
        refine ev_iadd dL_law_718 ?_
        obtain ⟨g97, h⟩ := am_gd h
        refine ev_ti (n := X.1) (f := X.2) dL_law_719 (fun G e => by rw [← e]; rfl) (am_in_vp g97) ?_
        refine ev_aload_n dL_law_720 0 rfl trivial ?_
        refine ev_iload_n dL_law_721 3 rfl ?_
        refine ev_iconst (v := (2 : Int32)) dL_law_722 kI_2 ?_
        refine ev_iadd dL_law_723 ?_
        obtain ⟨g98, h⟩ := am_gd h
        refine ev_ti (n := X.1) (f := X.2) dL_law_724 (fun G e => by rw [← e]; rfl) (am_in_vp g98) ?_
        refine ev_aload_n dL_law_725 0 rfl trivial ?_
        refine ev_iload_n dL_law_726 3 rfl ?_
        refine ev_iconst (v := (3 : Int32)) dL_law_727 kI_3 ?_
        refine ev_iadd dL_law_728 ?_
        obtain ⟨g99, h⟩ := am_gd h
        refine ev_ti (n := X.1) (f := X.2) dL_law_729 (fun G e => by rw [← e]; rfl) (am_in_vp g99) ?_
        obtain ⟨q100, eq100, h⟩ := am_bd h
        refine px_callvi [.int (X.2 (l3 + (1 : Int32)).toNatClampNeg), .int (X.2 (l3 + (2 : Int32)).toNatClampNeg), .int (X.2 (l3 + (3 : Int32)).toNatClampNeg)] (by decide) cl_6 (at6 rfl) dL_law_730 ok_X6_foot lk_RL_80 in_X6_foot se_X6_foot (by decide) rfl (c_X6_foot eq100) rfl (Nat.le_of_ble_eq_true rfl) ?_
        refine ev_aload_n dL_law_733 2 rfl trivial ?_
        refine ev_aload_n dL_law_734 0 rfl trivial ?_
        refine ev_iload_n dL_law_735 3 rfl ?_
        refine ev_iconst (v := (1 : Int32)) dL_law_736 kI_1 ?_
        refine ev_iadd dL_law_737 ?_
        refine ev_ti (n := X.1) (f := X.2) dL_law_738 (fun G e => by rw [← e]; rfl) (am_in_vp g97) ?_
        refine ev_aload_n dL_law_739 0 rfl trivial ?_
        refine ev_iload_n dL_law_740 3 rfl ?_
        refine ev_iconst (v := (2 : Int32)) dL_law_741 kI_2 ?_
        refine ev_iadd dL_law_742 ?_
        refine ev_ti (n := X.1) (f := X.2) dL_law_743 (fun G e => by rw [← e]; rfl) (am_in_vp g98) ?_
        refine ev_aload_n dL_law_744 0 rfl trivial ?_
        refine ev_iload_n dL_law_745 3 rfl ?_
        refine ev_iconst (v := (3 : Int32)) dL_law_746 kI_3 ?_
        refine ev_iadd dL_law_747 ?_
        refine ev_ti (n := X.1) (f := X.2) dL_law_748 (fun G e => by rw [← e]; rfl) (am_in_vp g99) ?_
        obtain ⟨q101, eq101, h⟩ := am_bd h
        refine px_callvi [.int (X.2 (l3 + (1 : Int32)).toNatClampNeg), .int (X.2 (l3 + (2 : Int32)).toNatClampNeg), .int (X.2 (l3 + (3 : Int32)).toNatClampNeg)] (by decide) cl_7 (at7 rfl) dL_law_749 ok_X7_foot lk_RL_83 in_X7_foot se_X7_foot (by decide) rfl (c_X7_foot eq101) rfl (Nat.le_of_ble_eq_true rfl) ?_
        refine ev_icmp_eq 1582 dL_law_752 (by decide) (fun c102 => ?_) (fun c102 => ?_)
        · have h := am_t c102 h
          refine ev_loc [0, 1, 2, 3] rfl ?_
          exact l_L_law_1582 X (g_L_law_18 X n) (fun u l3 r h => ih u l3 r h) q101.1 l3 _ h
        · have h := am_e c102 h
          refine ev_iconst (v := (0 : Int32)) dL_law_755 kI_0 ?_
          obtain rfl := Option.some.inj h
          exact ev_iret dL_law_756 rfl (am_zn (Or.inl rfl))
      refine am_cs h (fun c103 h => ?_) (fun c103 h => ?_)
      · refine ev_tableIn 757 (724) dL_law_33 (by rw [c103]; decide) (by rw [c103]; decide) (by rw [c103]; decide) (by decide) ?_
        refine ev_aload_n dL_law_757 1 rfl trivial ?_
        refine ev_aload_n dL_law_758 0 rfl trivial ?_
        refine ev_iload_n dL_law_759 3 rfl ?_
        refine ev_iconst (v := (1 : Int32)) dL_law_760 kI_1 ?_
        refine ev_iadd dL_law_761 ?_
        obtain ⟨g104, h⟩ := am_gd h
        refine ev_ti (n := X.1) (f := X.2) dL_law_762 (fun G e => by rw [← e]; rfl) (am_in_vp g104) ?_
        refine ev_aload_n dL_law_763 0 rfl trivial ?_
        refine ev_iload_n dL_law_764 3 rfl ?_
        refine ev_iconst (v := (2 : Int32)) dL_law_765 kI_2 ?_
        refine ev_iadd dL_law_766 ?_
        obtain ⟨g105, h⟩ := am_gd h
        refine ev_ti (n := X.1) (f := X.2) dL_law_767 (fun G e => by rw [← e]; rfl) (am_in_vp g105) ?_
        obtain ⟨q106, eq106, h⟩ := am_bd h
        refine px_callvi [.int (X.2 (l3 + (1 : Int32)).toNatClampNeg), .int (X.2 (l3 + (2 : Int32)).toNatClampNeg)] (by decide) cl_6 (at6 rfl) dL_law_768 ok_X6_worm lk_RL_84 in_X6_worm se_X6_worm (by decide) rfl (c_X6_worm eq106) rfl (Nat.le_of_ble_eq_true rfl) ?_
        refine ev_aload_n dL_law_771 2 rfl trivial ?_
        refine ev_aload_n dL_law_772 0 rfl trivial ?_
        refine ev_iload_n dL_law_773 3 rfl ?_
        refine ev_iconst (v := (1 : Int32)) dL_law_774 kI_1 ?_
        refine ev_iadd dL_law_775 ?_
        refine ev_ti (n := X.1) (f := X.2) dL_law_776 (fun G e => by rw [← e]; rfl) (am_in_vp g104) ?_
        refine ev_aload_n dL_law_777 0 rfl trivial ?_
        refine ev_iload_n dL_law_778 3 rfl ?_
        refine ev_iconst (v := (2 : Int32)) dL_law_779 kI_2 ?_
        refine ev_iadd dL_law_780 ?_
        refine ev_ti (n := X.1) (f := X.2) dL_law_781 (fun G e => by rw [← e]; rfl) (am_in_vp g105) ?_
        obtain ⟨q107, eq107, h⟩ := am_bd h
        refine px_callvi [.int (X.2 (l3 + (1 : Int32)).toNatClampNeg), .int (X.2 (l3 + (2 : Int32)).toNatClampNeg)] (by decide) cl_7 (at7 rfl) dL_law_782 ok_X7_worm lk_RL_87 in_X7_worm se_X7_worm (by decide) rfl (c_X7_worm eq107) rfl (Nat.le_of_ble_eq_true rfl) ?_
        refine ev_icmp_eq 1582 dL_law_785 (by decide) (fun c108 => ?_) (fun c108 => ?_)
        · have h := am_t c108 h
          refine ev_loc [0, 1, 2, 3] rfl ?_
          exact l_L_law_1582 X (g_L_law_18 X n) (fun u l3 r h => ih u l3 r h) q107.1 l3 _ h
        · have h := am_e c108 h
          refine ev_iconst (v := (0 : Int32)) dL_law_788 kI_0 ?_
          obtain rfl := Option.some.inj h
          exact ev_iret dL_law_789 rfl (am_zn (Or.inl rfl))
      refine am_cs h (fun c109 h => ?_) (fun c109 h => ?_)
      · refine ev_tableIn 790 (757) dL_law_33 (by rw [c109]; decide) (by rw [c109]; decide) (by rw [c109]; decide) (by decide) ?_
        refine ev_aload_n dL_law_790 1 rfl trivial ?_
        refine ev_aload_n dL_law_791 0 rfl trivial ?_
        refine ev_iload_n dL_law_792 3 rfl ?_
        refine ev_iconst (v := (1 : Int32)) dL_law_793 kI_1 ?_
        refine ev_iadd dL_law_794 ?_
        obtain ⟨g110, h⟩ := am_gd h
        refine ev_ti (n := X.1) (f := X.2) dL_law_795 (fun G e => by rw [← e]; rfl) (am_in_vp g110) ?_
        refine ev_aload_n dL_law_796 0 rfl trivial ?_
        refine ev_iload_n dL_law_797 3 rfl ?_
        refine ev_iconst (v := (2 : Int32)) dL_law_798 kI_2 ?_
        refine ev_iadd dL_law_799 ?_
        obtain ⟨g111, h⟩ := am_gd h
        refine ev_ti (n := X.1) (f := X.2) dL_law_800 (fun G e => by rw [← e]; rfl) (am_in_vp g111) ?_
        obtain ⟨q112, eq112, h⟩ := am_bd h
        refine px_callvi [.int (X.2 (l3 + (1 : Int32)).toNatClampNeg), .int (X.2 (l3 + (2 : Int32)).toNatClampNeg)] (by decide) cl_6 (at6 rfl) dL_law_801 ok_X6_press lk_RL_88 in_X6_press se_X6_press (by decide) rfl (c_X6_press eq112) rfl (Nat.le_of_ble_eq_true rfl) ?_
        refine ev_aload_n dL_law_804 2 rfl trivial ?_
        refine ev_aload_n dL_law_805 0 rfl trivial ?_
        refine ev_iload_n dL_law_806 3 rfl ?_
        refine ev_iconst (v := (1 : Int32)) dL_law_807 kI_1 ?_
        refine ev_iadd dL_law_808 ?_
        refine ev_ti (n := X.1) (f := X.2) dL_law_809 (fun G e => by rw [← e]; rfl) (am_in_vp g110) ?_
        refine ev_aload_n dL_law_810 0 rfl trivial ?_
        refine ev_iload_n dL_law_811 3 rfl ?_
        refine ev_iconst (v := (2 : Int32)) dL_law_812 kI_2 ?_
        refine ev_iadd dL_law_813 ?_
        refine ev_ti (n := X.1) (f := X.2) dL_law_814 (fun G e => by rw [← e]; rfl) (am_in_vp g111) ?_
        obtain ⟨q113, eq113, h⟩ := am_bd h
        refine px_callvi [.int (X.2 (l3 + (1 : Int32)).toNatClampNeg), .int (X.2 (l3 + (2 : Int32)).toNatClampNeg)] (by decide) cl_7 (at7 rfl) dL_law_815 ok_X7_press lk_RL_91 in_X7_press se_X7_press (by decide) rfl (c_X7_press eq113) rfl (Nat.le_of_ble_eq_true rfl) ?_
        refine ev_icmp_eq 1582 dL_law_818 (by decide) (fun c114 => ?_) (fun c114 => ?_)
        · have h := am_t c114 h
          refine ev_loc [0, 1, 2, 3] rfl ?_
          exact l_L_law_1582 X (g_L_law_18 X n) (fun u l3 r h => ih u l3 r h) q113.1 l3 _ h
        · have h := am_e c114 h
          refine ev_iconst (v := (0 : Int32)) dL_law_821 kI_0 ?_
          obtain rfl := Option.some.inj h
          exact ev_iret dL_law_822 rfl (am_zn (Or.inl rfl))
      refine am_cs h (fun c115 h => ?_) (fun c115 h => ?_)
      · refine ev_tableIn 823 (790) dL_law_33 (by rw [c115]; decide) (by rw [c115]; decide) (by rw [c115]; decide) (by decide) ?_
        refine ev_aload_n dL_law_823 1 rfl trivial ?_
        refine ev_aload_n dL_law_824 0 rfl trivial ?_
        refine ev_iload_n dL_law_825 3 rfl ?_
        refine ev_iconst (v := (1 : Int32)) dL_law_826 kI_1 ?_
        refine ev_iadd dL_law_827 ?_
        obtain ⟨g116, h⟩ := am_gd h
        refine ev_ti (n := X.1) (f := X.2) dL_law_828 (fun G e => by rw [← e]; rfl) (am_in_vp g116) ?_
        refine ev_aload_n dL_law_829 0 rfl trivial ?_
        refine ev_iload_n dL_law_830 3 rfl ?_
        refine ev_iconst (v := (2 : Int32)) dL_law_831 kI_2 ?_
        refine ev_iadd dL_law_832 ?_
        obtain ⟨g117, h⟩ := am_gd h
        refine ev_ti (n := X.1) (f := X.2) dL_law_833 (fun G e => by rw [← e]; rfl) (am_in_vp g117) ?_
        obtain ⟨q118, eq118, h⟩ := am_bd h
        refine px_callvi [.int (X.2 (l3 + (1 : Int32)).toNatClampNeg), .int (X.2 (l3 + (2 : Int32)).toNatClampNeg)] (by decide) cl_6 (at6 rfl) dL_law_834 ok_X6_unlike lk_RL_92 in_X6_unlike se_X6_unlike (by decide) rfl (c_X6_unlike eq118) rfl (Nat.le_of_ble_eq_true rfl) ?_
        refine ev_aload_n dL_law_837 2 rfl trivial ?_
        refine ev_aload_n dL_law_838 0 rfl trivial ?_
        refine ev_iload_n dL_law_839 3 rfl ?_
        refine ev_iconst (v := (1 : Int32)) dL_law_840 kI_1 ?_
        refine ev_iadd dL_law_841 ?_
        refine ev_ti (n := X.1) (f := X.2) dL_law_842 (fun G e => by rw [← e]; rfl) (am_in_vp g116) ?_
        refine ev_aload_n dL_law_843 0 rfl trivial ?_
        refine ev_iload_n dL_law_844 3 rfl ?_
        refine ev_iconst (v := (2 : Int32)) dL_law_845 kI_2 ?_
        refine ev_iadd dL_law_846 ?_
        refine ev_ti (n := X.1) (f := X.2) dL_law_847 (fun G e => by rw [← e]; rfl) (am_in_vp g117) ?_
        obtain ⟨q119, eq119, h⟩ := am_bd h
        refine px_callvi [.int (X.2 (l3 + (1 : Int32)).toNatClampNeg), .int (X.2 (l3 + (2 : Int32)).toNatClampNeg)] (by decide) cl_7 (at7 rfl) dL_law_848 ok_X7_unlike lk_RL_95 in_X7_unlike se_X7_unlike (by decide) rfl (c_X7_unlike eq119) rfl (Nat.le_of_ble_eq_true rfl) ?_
        refine ev_icmp_eq 1582 dL_law_851 (by decide) (fun c120 => ?_) (fun c120 => ?_)
        · have h := am_t c120 h
          refine ev_loc [0, 1, 2, 3] rfl ?_
          exact l_L_law_1582 X (g_L_law_18 X n) (fun u l3 r h => ih u l3 r h) q119.1 l3 _ h
        · have h := am_e c120 h
          refine ev_iconst (v := (0 : Int32)) dL_law_854 kI_0 ?_
          obtain rfl := Option.some.inj h
          exact ev_iret dL_law_855 rfl (am_zn (Or.inl rfl))
      refine am_cs h (fun c121 h => ?_) (fun c121 h => ?_)
      · refine ev_tableIn 856 (823) dL_law_33 (by rw [c121]; decide) (by rw [c121]; decide) (by rw [c121]; decide) (by decide) ?_
        refine ev_aload_n dL_law_856 1 rfl trivial ?_
        refine ev_aload_n dL_law_857 0 rfl trivial ?_
        refine ev_iload_n dL_law_858 3 rfl ?_
        refine ev_iconst (v := (1 : Int32)) dL_law_859 kI_1 ?_
        refine ev_iadd dL_law_860 ?_
        obtain ⟨g122, h⟩ := am_gd h
        refine ev_ti (n := X.1) (f := X.2) dL_law_861 (fun G e => by rw [← e]; rfl) (am_in_vp g122) ?_
        refine ev_aload_n dL_law_862 0 rfl trivial ?_
        refine ev_iload_n dL_law_863 3 rfl ?_
        refine ev_iconst (v := (2 : Int32)) dL_law_864 kI_2 ?_
        refine ev_iadd dL_law_865 ?_
        obtain ⟨g123, h⟩ := am_gd h
        refine ev_ti (n := X.1) (f := X.2) dL_law_866 (fun G e => by rw [← e]; rfl) (am_in_vp g123) ?_
        refine ev_aload_n dL_law_867 0 rfl trivial ?_
        refine ev_iload_n dL_law_868 3 rfl ?_
        refine ev_iconst (v := (3 : Int32)) dL_law_869 kI_3 ?_
        refine ev_iadd dL_law_870 ?_
        obtain ⟨g124, h⟩ := am_gd h
        refine ev_ti (n := X.1) (f := X.2) dL_law_871 (fun G e => by rw [← e]; rfl) (am_in_vp g124) ?_
        obtain ⟨q125, eq125, h⟩ := am_bd h
        refine px_callvi [.int (X.2 (l3 + (1 : Int32)).toNatClampNeg), .int (X.2 (l3 + (2 : Int32)).toNatClampNeg), .int (X.2 (l3 + (3 : Int32)).toNatClampNeg)] (by decide) cl_6 (at6 rfl) dL_law_872 ok_X6_turned lk_RL_96 in_X6_turned se_X6_turned (by decide) rfl (c_X6_turned eq125) rfl (Nat.le_of_ble_eq_true rfl) ?_
        refine ev_aload_n dL_law_875 2 rfl trivial ?_
        refine ev_aload_n dL_law_876 0 rfl trivial ?_
        refine ev_iload_n dL_law_877 3 rfl ?_
        refine ev_iconst (v := (1 : Int32)) dL_law_878 kI_1 ?_
        refine ev_iadd dL_law_879 ?_
        refine ev_ti (n := X.1) (f := X.2) dL_law_880 (fun G e => by rw [← e]; rfl) (am_in_vp g122) ?_
        refine ev_aload_n dL_law_881 0 rfl trivial ?_
        refine ev_iload_n dL_law_882 3 rfl ?_
        refine ev_iconst (v := (2 : Int32)) dL_law_883 kI_2 ?_
        refine ev_iadd dL_law_884 ?_
        refine ev_ti (n := X.1) (f := X.2) dL_law_885 (fun G e => by rw [← e]; rfl) (am_in_vp g123) ?_
        refine ev_aload_n dL_law_886 0 rfl trivial ?_
        refine ev_iload_n dL_law_887 3 rfl ?_
        refine ev_iconst (v := (3 : Int32)) dL_law_888 kI_3 ?_
        refine ev_iadd dL_law_889 ?_
        refine ev_ti (n := X.1) (f := X.2) dL_law_890 (fun G e => by rw [← e]; rfl) (am_in_vp g124) ?_
        obtain ⟨q126, eq126, h⟩ := am_bd h
        refine px_callvi [.int (X.2 (l3 + (1 : Int32)).toNatClampNeg), .int (X.2 (l3 + (2 : Int32)).toNatClampNeg), .int (X.2 (l3 + (3 : Int32)).toNatClampNeg)] (by decide) cl_7 (at7 rfl) dL_law_891 ok_X7_turned lk_RL_99 in_X7_turned se_X7_turned (by decide) rfl (c_X7_turned eq126) rfl (Nat.le_of_ble_eq_true rfl) ?_
        refine ev_icmp_eq 1582 dL_law_894 (by decide) (fun c127 => ?_) (fun c127 => ?_)
        · have h := am_t c127 h
          refine ev_loc [0, 1, 2, 3] rfl ?_
          exact l_L_law_1582 X (g_L_law_18 X n) (fun u l3 r h => ih u l3 r h) q126.1 l3 _ h
        · have h := am_e c127 h
          refine ev_iconst (v := (0 : Int32)) dL_law_897 kI_0 ?_
          obtain rfl := Option.some.inj h
          exact ev_iret dL_law_898 rfl (am_zn (Or.inl rfl))
      refine am_cs h (fun c128 h => ?_) (fun c128 h => ?_)
      · refine ev_tableIn 899 (866) dL_law_33 (by rw [c128]; decide) (by rw [c128]; decide) (by rw [c128]; decide) (by decide) ?_
        refine ev_aload_n dL_law_899 1 rfl trivial ?_
        refine ev_aload_n dL_law_900 0 rfl trivial ?_
        refine ev_iload_n dL_law_901 3 rfl ?_
        refine ev_iconst (v := (1 : Int32)) dL_law_902 kI_1 ?_
        refine ev_iadd dL_law_903 ?_
        obtain ⟨g129, h⟩ := am_gd h
        refine ev_ti (n := X.1) (f := X.2) dL_law_904 (fun G e => by rw [← e]; rfl) (am_in_vp g129) ?_
        refine ev_aload_n dL_law_905 0 rfl trivial ?_
        refine ev_iload_n dL_law_906 3 rfl ?_
        refine ev_iconst (v := (2 : Int32)) dL_law_907 kI_2 ?_
        refine ev_iadd dL_law_908 ?_
        obtain ⟨g130, h⟩ := am_gd h
        refine ev_ti (n := X.1) (f := X.2) dL_law_909 (fun G e => by rw [← e]; rfl) (am_in_vp g130) ?_
        refine ev_aload_n dL_law_910 0 rfl trivial ?_
        refine ev_iload_n dL_law_911 3 rfl ?_
        refine ev_iconst (v := (3 : Int32)) dL_law_912 kI_3 ?_
        refine ev_iadd dL_law_913 ?_
        obtain ⟨g131, h⟩ := am_gd h
        refine ev_ti (n := X.1) (f := X.2) dL_law_914 (fun G e => by rw [← e]; rfl) (am_in_vp g131) ?_
        obtain ⟨q132, eq132, h⟩ := am_bd h
        refine px_callvi [.int (X.2 (l3 + (1 : Int32)).toNatClampNeg), .int (X.2 (l3 + (2 : Int32)).toNatClampNeg), .int (X.2 (l3 + (3 : Int32)).toNatClampNeg)] (by decide) cl_6 (at6 rfl) dL_law_915 ok_X6_seen lk_RL_100 in_X6_seen se_X6_seen (by decide) rfl (c_X6_seen eq132) rfl (Nat.le_of_ble_eq_true rfl) ?_
        refine ev_aload_n dL_law_918 2 rfl trivial ?_
        refine ev_aload_n dL_law_919 0 rfl trivial ?_
        refine ev_iload_n dL_law_920 3 rfl ?_
        refine ev_iconst (v := (1 : Int32)) dL_law_921 kI_1 ?_
        refine ev_iadd dL_law_922 ?_
        refine ev_ti (n := X.1) (f := X.2) dL_law_923 (fun G e => by rw [← e]; rfl) (am_in_vp g129) ?_
        refine ev_aload_n dL_law_924 0 rfl trivial ?_
        refine ev_iload_n dL_law_925 3 rfl ?_
        refine ev_iconst (v := (2 : Int32)) dL_law_926 kI_2 ?_
        refine ev_iadd dL_law_927 ?_
        refine ev_ti (n := X.1) (f := X.2) dL_law_928 (fun G e => by rw [← e]; rfl) (am_in_vp g130) ?_
        refine ev_aload_n dL_law_929 0 rfl trivial ?_
        refine ev_iload_n dL_law_930 3 rfl ?_
        refine ev_iconst (v := (3 : Int32)) dL_law_931 kI_3 ?_
        refine ev_iadd dL_law_932 ?_
        refine ev_ti (n := X.1) (f := X.2) dL_law_933 (fun G e => by rw [← e]; rfl) (am_in_vp g131) ?_
        obtain ⟨q133, eq133, h⟩ := am_bd h
        refine px_callvi [.int (X.2 (l3 + (1 : Int32)).toNatClampNeg), .int (X.2 (l3 + (2 : Int32)).toNatClampNeg), .int (X.2 (l3 + (3 : Int32)).toNatClampNeg)] (by decide) cl_7 (at7 rfl) dL_law_934 ok_X7_seen lk_RL_103 in_X7_seen se_X7_seen (by decide) rfl (c_X7_seen eq133) rfl (Nat.le_of_ble_eq_true rfl) ?_
        refine ev_icmp_eq 1582 dL_law_937 (by decide) (fun c134 => ?_) (fun c134 => ?_)
        · have h := am_t c134 h
          refine ev_loc [0, 1, 2, 3] rfl ?_
          exact l_L_law_1582 X (g_L_law_18 X n) (fun u l3 r h => ih u l3 r h) q133.1 l3 _ h
        · have h := am_e c134 h
          refine ev_iconst (v := (0 : Int32)) dL_law_940 kI_0 ?_
          obtain rfl := Option.some.inj h
          exact ev_iret dL_law_941 rfl (am_zn (Or.inl rfl))
      refine am_cs h (fun c135 h => ?_) (fun c135 h => ?_)
      · refine ev_tableIn 942 (909) dL_law_33 (by rw [c135]; decide) (by rw [c135]; decide) (by rw [c135]; decide) (by decide) ?_
        refine ev_aload_n dL_law_942 1 rfl trivial ?_
        refine ev_aload_n dL_law_943 0 rfl trivial ?_
        refine ev_iload_n dL_law_944 3 rfl ?_
        refine ev_iconst (v := (1 : Int32)) dL_law_945 kI_1 ?_
        refine ev_iadd dL_law_946 ?_
        obtain ⟨g136, h⟩ := am_gd h
        refine ev_ti (n := X.1) (f := X.2) dL_law_947 (fun G e => by rw [← e]; rfl) (am_in_vp g136) ?_
        refine ev_aload_n dL_law_948 0 rfl trivial ?_
        refine ev_iload_n dL_law_949 3 rfl ?_
        refine ev_iconst (v := (2 : Int32)) dL_law_950 kI_2 ?_
        refine ev_iadd dL_law_951 ?_
        obtain ⟨g137, h⟩ := am_gd h
        refine ev_ti (n := X.1) (f := X.2) dL_law_952 (fun G e => by rw [← e]; rfl) (am_in_vp g137) ?_
        refine ev_aload_n dL_law_953 0 rfl trivial ?_
        refine ev_iload_n dL_law_954 3 rfl ?_
        refine ev_iconst (v := (3 : Int32)) dL_law_955 kI_3 ?_
        refine ev_iadd dL_law_956 ?_
        obtain ⟨g138, h⟩ := am_gd h
        refine ev_ti (n := X.1) (f := X.2) dL_law_957 (fun G e => by rw [← e]; rfl) (am_in_vp g138) ?_
        obtain ⟨q139, eq139, h⟩ := am_bd h
        refine px_callvi [.int (X.2 (l3 + (1 : Int32)).toNatClampNeg), .int (X.2 (l3 + (2 : Int32)).toNatClampNeg), .int (X.2 (l3 + (3 : Int32)).toNatClampNeg)] (by decide) cl_6 (at6 rfl) dL_law_958 ok_X6_best lk_RL_104 in_X6_best se_X6_best (by decide) rfl (c_X6_best eq139) rfl (Nat.le_of_ble_eq_true rfl) ?_
        refine ev_aload_n dL_law_961 2 rfl trivial ?_
        refine ev_aload_n dL_law_962 0 rfl trivial ?_
        refine ev_iload_n dL_law_963 3 rfl ?_
        refine ev_iconst (v := (1 : Int32)) dL_law_964 kI_1 ?_
        refine ev_iadd dL_law_965 ?_
        refine ev_ti (n := X.1) (f := X.2) dL_law_966 (fun G e => by rw [← e]; rfl) (am_in_vp g136) ?_
        refine ev_aload_n dL_law_967 0 rfl trivial ?_
        refine ev_iload_n dL_law_968 3 rfl ?_
        refine ev_iconst (v := (2 : Int32)) dL_law_969 kI_2 ?_
        refine ev_iadd dL_law_970 ?_
        refine ev_ti (n := X.1) (f := X.2) dL_law_971 (fun G e => by rw [← e]; rfl) (am_in_vp g137) ?_
        refine ev_aload_n dL_law_972 0 rfl trivial ?_
        refine ev_iload_n dL_law_973 3 rfl ?_
        refine ev_iconst (v := (3 : Int32)) dL_law_974 kI_3 ?_
        refine ev_iadd dL_law_975 ?_
        refine ev_ti (n := X.1) (f := X.2) dL_law_976 (fun G e => by rw [← e]; rfl) (am_in_vp g138) ?_
        obtain ⟨q140, eq140, h⟩ := am_bd h
        refine px_callvi [.int (X.2 (l3 + (1 : Int32)).toNatClampNeg), .int (X.2 (l3 + (2 : Int32)).toNatClampNeg), .int (X.2 (l3 + (3 : Int32)).toNatClampNeg)] (by decide) cl_7 (at7 rfl) dL_law_977 ok_X7_best lk_RL_107 in_X7_best se_X7_best (by decide) rfl (c_X7_best eq140) rfl (Nat.le_of_ble_eq_true rfl) ?_
        refine ev_icmp_eq 1582 dL_law_980 (by decide) (fun c141 => ?_) (fun c141 => ?_)
        · have h := am_t c141 h
          refine ev_loc [0, 1, 2, 3] rfl ?_
          exact l_L_law_1582 X (g_L_law_18 X n) (fun u l3 r h => ih u l3 r h) q140.1 l3 _ h
        · have h := am_e c141 h
          refine ev_iconst (v := (0 : Int32)) dL_law_983 kI_0 ?_
          obtain rfl := Option.some.inj h
          exact ev_iret dL_law_984 rfl (am_zn (Or.inl rfl))
      refine am_cs h (fun c142 h => ?_) (fun c142 h => ?_)
      · refine ev_tableIn 985 (952) dL_law_33 (by rw [c142]; decide) (by rw [c142]; decide) (by rw [c142]; decide) (by decide) ?_
        refine ev_aload_n dL_law_985 1 rfl trivial ?_
        refine ev_aload_n dL_law_986 0 rfl trivial ?_
        refine ev_iload_n dL_law_987 3 rfl ?_
        refine ev_iconst (v := (1 : Int32)) dL_law_988 kI_1 ?_
        refine ev_iadd dL_law_989 ?_
        obtain ⟨g143, h⟩ := am_gd h
        refine ev_ti (n := X.1) (f := X.2) dL_law_990 (fun G e => by rw [← e]; rfl) (am_in_vp g143) ?_
        refine ev_aload_n dL_law_991 0 rfl trivial ?_
        refine ev_iload_n dL_law_992 3 rfl ?_
        refine ev_iconst (v := (2 : Int32)) dL_law_993 kI_2 ?_
        refine ev_iadd dL_law_994 ?_
        obtain ⟨g144, h⟩ := am_gd h
        refine ev_ti (n := X.1) (f := X.2) dL_law_995 (fun G e => by rw [← e]; rfl) (am_in_vp g144) ?_
        refine ev_aload_n dL_law_996 0 rfl trivial ?_
        refine ev_iload_n dL_law_997 3 rfl ?_
        refine ev_iconst (v := (3 : Int32)) dL_law_998 kI_3 ?_
        refine ev_iadd dL_law_999 ?_
        obtain ⟨g145, h⟩ := am_gd h
        refine ev_ti (n := X.1) (f := X.2) dL_law_1000 (fun G e => by rw [← e]; rfl) (am_in_vp g145) ?_
        obtain ⟨q146, eq146, h⟩ := am_bd h
        refine px_callvi [.int (X.2 (l3 + (1 : Int32)).toNatClampNeg), .int (X.2 (l3 + (2 : Int32)).toNatClampNeg), .int (X.2 (l3 + (3 : Int32)).toNatClampNeg)] (by decide) cl_6 (at6 rfl) dL_law_1001 ok_X6_feed lk_RL_108 in_X6_feed se_X6_feed (by decide) rfl (c_X6_feed eq146) rfl (Nat.le_of_ble_eq_true rfl) ?_
        refine ev_aload_n dL_law_1004 2 rfl trivial ?_
        refine ev_aload_n dL_law_1005 0 rfl trivial ?_
        refine ev_iload_n dL_law_1006 3 rfl ?_
        refine ev_iconst (v := (1 : Int32)) dL_law_1007 kI_1 ?_
        refine ev_iadd dL_law_1008 ?_
        refine ev_ti (n := X.1) (f := X.2) dL_law_1009 (fun G e => by rw [← e]; rfl) (am_in_vp g143) ?_
        refine ev_aload_n dL_law_1010 0 rfl trivial ?_
        refine ev_iload_n dL_law_1011 3 rfl ?_
        refine ev_iconst (v := (2 : Int32)) dL_law_1012 kI_2 ?_
        refine ev_iadd dL_law_1013 ?_
        refine ev_ti (n := X.1) (f := X.2) dL_law_1014 (fun G e => by rw [← e]; rfl) (am_in_vp g144) ?_
        refine ev_aload_n dL_law_1015 0 rfl trivial ?_
        refine ev_iload_n dL_law_1016 3 rfl ?_
        refine ev_iconst (v := (3 : Int32)) dL_law_1017 kI_3 ?_
        refine ev_iadd dL_law_1018 ?_
        refine ev_ti (n := X.1) (f := X.2) dL_law_1019 (fun G e => by rw [← e]; rfl) (am_in_vp g145) ?_
        obtain ⟨q147, eq147, h⟩ := am_bd h
        refine px_callvi [.int (X.2 (l3 + (1 : Int32)).toNatClampNeg), .int (X.2 (l3 + (2 : Int32)).toNatClampNeg), .int (X.2 (l3 + (3 : Int32)).toNatClampNeg)] (by decide) cl_7 (at7 rfl) dL_law_1020 ok_X7_feed lk_RL_111 in_X7_feed se_X7_feed (by decide) rfl (c_X7_feed eq147) rfl (Nat.le_of_ble_eq_true rfl) ?_
        refine ev_icmp_eq 1582 dL_law_1023 (by decide) (fun c148 => ?_) (fun c148 => ?_)
        · have h := am_t c148 h
          refine ev_loc [0, 1, 2, 3] rfl ?_
          exact l_L_law_1582 X (g_L_law_18 X n) (fun u l3 r h => ih u l3 r h) q147.1 l3 _ h
        · have h := am_e c148 h
          refine ev_iconst (v := (0 : Int32)) dL_law_1026 kI_0 ?_
          obtain rfl := Option.some.inj h
          exact ev_iret dL_law_1027 rfl (am_zn (Or.inl rfl))
      refine am_cs h (fun c149 h => ?_) (fun c149 h => ?_)
      · refine ev_tableIn 1028 (995) dL_law_33 (by rw [c149]; decide) (by rw [c149]; decide) (by rw [c149]; decide) (by decide) ?_
        refine ev_aload_n dL_law_1028 1 rfl trivial ?_
        refine ev_aload_n dL_law_1029 0 rfl trivial ?_
        refine ev_iload_n dL_law_1030 3 rfl ?_
        refine ev_iconst (v := (1 : Int32)) dL_law_1031 kI_1 ?_
        refine ev_iadd dL_law_1032 ?_
        obtain ⟨g150, h⟩ := am_gd h
        refine ev_ti (n := X.1) (f := X.2) dL_law_1033 (fun G e => by rw [← e]; rfl) (am_in_vp g150) ?_
        obtain ⟨q151, eq151, h⟩ := am_bd h
        refine px_callvi [.int (X.2 (l3 + (1 : Int32)).toNatClampNeg)] (by decide) cl_6 (at6 rfl) dL_law_1034 ok_X6_trim lk_RL_112 in_X6_trim se_X6_trim (by decide) rfl (c_X6_trim eq151) rfl (Nat.le_of_ble_eq_true rfl) ?_
        refine ev_aload_n dL_law_1037 2 rfl trivial ?_
        refine ev_aload_n dL_law_1038 0 rfl trivial ?_
        refine ev_iload_n dL_law_1039 3 rfl ?_
        refine ev_iconst (v := (1 : Int32)) dL_law_1040 kI_1 ?_
        refine ev_iadd dL_law_1041 ?_
        refine ev_ti (n := X.1) (f := X.2) dL_law_1042 (fun G e => by rw [← e]; rfl) (am_in_vp g150) ?_
        obtain ⟨q152, eq152, h⟩ := am_bd h
        refine px_callvi [.int (X.2 (l3 + (1 : Int32)).toNatClampNeg)] (by decide) cl_7 (at7 rfl) dL_law_1043 ok_X7_trim lk_RL_115 in_X7_trim se_X7_trim (by decide) rfl (c_X7_trim eq152) rfl (Nat.le_of_ble_eq_true rfl) ?_
        refine ev_icmp_eq 1582 dL_law_1046 (by decide) (fun c153 => ?_) (fun c153 => ?_)
        · have h := am_t c153 h
          refine ev_loc [0, 1, 2, 3] rfl ?_
          exact l_L_law_1582 X (g_L_law_18 X n) (fun u l3 r h => ih u l3 r h) q152.1 l3 _ h
        · have h := am_e c153 h
          refine ev_iconst (v := (0 : Int32)) dL_law_1049 kI_0 ?_
          obtain rfl := Option.some.inj h
          exact ev_iret dL_law_1050 rfl (am_zn (Or.inl rfl))
      refine am_cs h (fun c154 h => ?_) (fun c154 h => ?_)
      · refine ev_tableIn 1051 (1018) dL_law_33 (by rw [c154]; decide) (by rw [c154]; decide) (by rw [c154]; decide) (by decide) ?_
        refine ev_aload_n dL_law_1051 1 rfl trivial ?_
        obtain ⟨q155, eq155, h⟩ := am_bd h
        refine px_callvi [] (by decide) cl_6 (at6 rfl) dL_law_1052 ok_X6_text lk_RL_116 in_X6_text se_X6_text (by decide) rfl (c_X6_text eq155) rfl (Nat.le_of_ble_eq_true rfl) ?_
        refine ev_aload_n dL_law_1055 2 rfl trivial ?_
        obtain ⟨q156, eq156, h⟩ := am_bd h
        refine px_callvi [] (by decide) cl_7 (at7 rfl) dL_law_1056 ok_X7_text lk_RL_120 in_X7_text se_X7_text (by decide) rfl (c_X7_text eq156) rfl (Nat.le_of_ble_eq_true rfl) ?_
        refine ev_icmp_eq 1582 dL_law_1059 (by decide) (fun c157 => ?_) (fun c157 => ?_)
        · have h := am_t c157 h
          refine ev_loc [0, 1, 2, 3] rfl ?_
          exact l_L_law_1582 X (g_L_law_18 X n) (fun u l3 r h => ih u l3 r h) q156.1 l3 _ h
        · have h := am_e c157 h
          refine ev_iconst (v := (0 : Int32)) dL_law_1062 kI_0 ?_
          obtain rfl := Option.some.inj h
          exact ev_iret dL_law_1063 rfl (am_zn (Or.inl rfl))
      refine am_cs h (fun c158 h => ?_) (fun c158 h => ?_)
      · refine ev_tableIn 1064 (1031) dL_law_33 (by rw [c158]; decide) (by rw [c158]; decide) (by rw [c158]; decide) (by decide) ?_
        refine ev_aload_n dL_law_1064 1 rfl trivial ?_
        refine ev_aload_n dL_law_1065 0 rfl trivial ?_
        refine ev_iload_n dL_law_1066 3 rfl ?_
        refine ev_iconst (v := (1 : Int32)) dL_law_1067 kI_1 ?_
        refine ev_iadd dL_law_1068 ?_
        obtain ⟨g159, h⟩ := am_gd h
        refine ev_ti (n := X.1) (f := X.2) dL_law_1069 (fun G e => by rw [← e]; rfl) (am_in_vp g159) ?_
        refine ev_aload_n dL_law_1070 0 rfl trivial ?_
        refine ev_iload_n dL_law_1071 3 rfl ?_
        refine ev_iconst (v := (2 : Int32)) dL_law_1072 kI_2 ?_
        refine ev_iadd dL_law_1073 ?_
        obtain ⟨g160, h⟩ := am_gd h
        refine ev_ti (n := X.1) (f := X.2) dL_law_1074 (fun G e => by rw [← e]; rfl) (am_in_vp g160) ?_
        obtain ⟨q161, eq161, h⟩ := am_bd h
        refine px_callvi [.int (X.2 (l3 + (1 : Int32)).toNatClampNeg), .int (X.2 (l3 + (2 : Int32)).toNatClampNeg)] (by decide) cl_6 (at6 rfl) dL_law_1075 ok_X6_textTold lk_RL_121 in_X6_textTold se_X6_textTold (by decide) rfl (c_X6_textTold eq161) rfl (Nat.le_of_ble_eq_true rfl) ?_
        refine ev_aload_n dL_law_1078 2 rfl trivial ?_
        refine ev_aload_n dL_law_1079 0 rfl trivial ?_
        refine ev_iload_n dL_law_1080 3 rfl ?_
        refine ev_iconst (v := (1 : Int32)) dL_law_1081 kI_1 ?_
        refine ev_iadd dL_law_1082 ?_
        refine ev_ti (n := X.1) (f := X.2) dL_law_1083 (fun G e => by rw [← e]; rfl) (am_in_vp g159) ?_
        refine ev_aload_n dL_law_1084 0 rfl trivial ?_
        refine ev_iload_n dL_law_1085 3 rfl ?_
        refine ev_iconst (v := (2 : Int32)) dL_law_1086 kI_2 ?_
        refine ev_iadd dL_law_1087 ?_
        refine ev_ti (n := X.1) (f := X.2) dL_law_1088 (fun G e => by rw [← e]; rfl) (am_in_vp g160) ?_
        obtain ⟨q162, eq162, h⟩ := am_bd h
        refine px_callvi [.int (X.2 (l3 + (1 : Int32)).toNatClampNeg), .int (X.2 (l3 + (2 : Int32)).toNatClampNeg)] (by decide) cl_7 (at7 rfl) dL_law_1089 ok_X7_textTold lk_RL_124 in_X7_textTold se_X7_textTold (by decide) rfl (c_X7_textTold eq162) rfl (Nat.le_of_ble_eq_true rfl) ?_
        refine ev_icmp_eq 1582 dL_law_1092 (by decide) (fun c163 => ?_) (fun c163 => ?_)
        · have h := am_t c163 h
          refine ev_loc [0, 1, 2, 3] rfl ?_
          exact l_L_law_1582 X (g_L_law_18 X n) (fun u l3 r h => ih u l3 r h) q162.1 l3 _ h
        · have h := am_e c163 h
          refine ev_iconst (v := (0 : Int32)) dL_law_1095 kI_0 ?_
          obtain rfl := Option.some.inj h
          exact ev_iret dL_law_1096 rfl (am_zn (Or.inl rfl))
      refine am_cs h (fun c164 h => ?_) (fun c164 h => ?_)
      · refine ev_tableIn 1097 (1064) dL_law_33 (by rw [c164]; decide) (by rw [c164]; decide) (by rw [c164]; decide) (by decide) ?_
        refine ev_aload_n dL_law_1097 1 rfl trivial ?_
        refine ev_aload_n dL_law_1098 0 rfl trivial ?_
        refine ev_iload_n dL_law_1099 3 rfl ?_
        refine ev_iconst (v := (1 : Int32)) dL_law_1100 kI_1 ?_
        refine ev_iadd dL_law_1101 ?_
        obtain ⟨g165, h⟩ := am_gd h
        refine ev_ti (n := X.1) (f := X.2) dL_law_1102 (fun G e => by rw [← e]; rfl) (am_in_vp g165) ?_
        obtain ⟨q166, eq166, h⟩ := am_bd h
        refine px_callvi [.int (X.2 (l3 + (1 : Int32)).toNatClampNeg)] (by decide) cl_6 (at6 rfl) dL_law_1103 ok_X6_why lk_RL_125 in_X6_why se_X6_why (by decide) rfl (c_X6_why eq166) rfl (Nat.le_of_ble_eq_true rfl) ?_
        refine ev_aload_n dL_law_1106 2 rfl trivial ?_
        refine ev_aload_n dL_law_1107 0 rfl trivial ?_
        refine ev_iload_n dL_law_1108 3 rfl ?_
        refine ev_iconst (v := (1 : Int32)) dL_law_1109 kI_1 ?_
        refine ev_iadd dL_law_1110 ?_
        refine ev_ti (n := X.1) (f := X.2) dL_law_1111 (fun G e => by rw [← e]; rfl) (am_in_vp g165) ?_
        obtain ⟨q167, eq167, h⟩ := am_bd h
        refine px_callvi [.int (X.2 (l3 + (1 : Int32)).toNatClampNeg)] (by decide) cl_7 (at7 rfl) dL_law_1112 ok_X7_why lk_RL_128 in_X7_why se_X7_why (by decide) rfl (c_X7_why eq167) rfl (Nat.le_of_ble_eq_true rfl) ?_
        refine ev_icmp_eq 1582 dL_law_1115 (by decide) (fun c168 => ?_) (fun c168 => ?_)
        · have h := am_t c168 h
          refine ev_loc [0, 1, 2, 3] rfl ?_
          exact l_L_law_1582 X (g_L_law_18 X n) (fun u l3 r h => ih u l3 r h) q167.1 l3 _ h
        · have h := am_e c168 h
          refine ev_iconst (v := (0 : Int32)) dL_law_1118 kI_0 ?_
          obtain rfl := Option.some.inj h
          exact ev_iret dL_law_1119 rfl (am_zn (Or.inl rfl))
      refine am_cs h (fun c169 h => ?_) (fun c169 h => ?_)
      · refine ev_tableIn 1120 (1087) dL_law_33 (by rw [c169]; decide) (by rw [c169]; decide) (by rw [c169]; decide) (by decide) ?_
        refine ev_aload_n dL_law_1120 1 rfl trivial ?_
        refine ev_aload_n dL_law_1121 0 rfl trivial ?_
        refine ev_iload_n dL_law_1122 3 rfl ?_
        refine ev_iconst (v := (1 : Int32)) dL_law_1123 kI_1 ?_
        refine ev_iadd dL_law_1124 ?_
        obtain ⟨g170, h⟩ := am_gd h
        refine ev_ti (n := X.1) (f := X.2) dL_law_1125 (fun G e => by rw [← e]; rfl) (am_in_vp g170) ?_
        refine ev_aload_n dL_law_1126 0 rfl trivial ?_
        refine ev_iload_n dL_law_1127 3 rfl ?_
        refine ev_iconst (v := (2 : Int32)) dL_law_1128 kI_2 ?_
        refine ev_iadd dL_law_1129 ?_
        obtain ⟨g171, h⟩ := am_gd h
        refine ev_ti (n := X.1) (f := X.2) dL_law_1130 (fun G e => by rw [← e]; rfl) (am_in_vp g171) ?_
        refine ev_aload_n dL_law_1131 0 rfl trivial ?_
        refine ev_iload_n dL_law_1132 3 rfl ?_
        refine ev_iconst (v := (3 : Int32)) dL_law_1133 kI_3 ?_
        refine ev_iadd dL_law_1134 ?_
        obtain ⟨g172, h⟩ := am_gd h
        refine ev_ti (n := X.1) (f := X.2) dL_law_1135 (fun G e => by rw [← e]; rfl) (am_in_vp g172) ?_
        obtain ⟨q173, eq173, h⟩ := am_bd h
        refine px_callvi [.int (X.2 (l3 + (1 : Int32)).toNatClampNeg), .int (X.2 (l3 + (2 : Int32)).toNatClampNeg), .int (X.2 (l3 + (3 : Int32)).toNatClampNeg)] (by decide) cl_6 (at6 rfl) dL_law_1136 ok_X6_sheet lk_RL_129 in_X6_sheet se_X6_sheet (by decide) rfl (c_X6_sheet eq173) rfl (Nat.le_of_ble_eq_true rfl) ?_
        refine ev_aload_n dL_law_1139 2 rfl trivial ?_
        refine ev_aload_n dL_law_1140 0 rfl trivial ?_
        refine ev_iload_n dL_law_1141 3 rfl ?_
        refine ev_iconst (v := (1 : Int32)) dL_law_1142 kI_1 ?_
        refine ev_iadd dL_law_1143 ?_
        refine ev_ti (n := X.1) (f := X.2) dL_law_1144 (fun G e => by rw [← e]; rfl) (am_in_vp g170) ?_
        refine ev_aload_n dL_law_1145 0 rfl trivial ?_
        refine ev_iload_n dL_law_1146 3 rfl ?_
        refine ev_iconst (v := (2 : Int32)) dL_law_1147 kI_2 ?_
        refine ev_iadd dL_law_1148 ?_
        refine ev_ti (n := X.1) (f := X.2) dL_law_1149 (fun G e => by rw [← e]; rfl) (am_in_vp g171) ?_
        refine ev_aload_n dL_law_1150 0 rfl trivial ?_
        refine ev_iload_n dL_law_1151 3 rfl ?_
        refine ev_iconst (v := (3 : Int32)) dL_law_1152 kI_3 ?_
        refine ev_iadd dL_law_1153 ?_
        refine ev_ti (n := X.1) (f := X.2) dL_law_1154 (fun G e => by rw [← e]; rfl) (am_in_vp g172) ?_
        obtain ⟨q174, eq174, h⟩ := am_bd h
        refine px_callvi [.int (X.2 (l3 + (1 : Int32)).toNatClampNeg), .int (X.2 (l3 + (2 : Int32)).toNatClampNeg), .int (X.2 (l3 + (3 : Int32)).toNatClampNeg)] (by decide) cl_7 (at7 rfl) dL_law_1155 ok_X7_sheet lk_RL_132 in_X7_sheet se_X7_sheet (by decide) rfl (c_X7_sheet eq174) rfl (Nat.le_of_ble_eq_true rfl) ?_
        refine ev_icmp_eq 1582 dL_law_1158 (by decide) (fun c175 => ?_) (fun c175 => ?_)
        · have h := am_t c175 h
          refine ev_loc [0, 1, 2, 3] rfl ?_
          exact l_L_law_1582 X (g_L_law_18 X n) (fun u l3 r h => ih u l3 r h) q174.1 l3 _ h
        · have h := am_e c175 h
          refine ev_iconst (v := (0 : Int32)) dL_law_1161 kI_0 ?_
          obtain rfl := Option.some.inj h
          exact ev_iret dL_law_1162 rfl (am_zn (Or.inl rfl))
      refine am_cs h (fun c176 h => ?_) (fun c176 h => ?_)
      · refine ev_tableIn 1163 (1130) dL_law_33 (by rw [c176]; decide) (by rw [c176]; decide) (by rw [c176]; decide) (by decide) ?_
        refine ev_aload_n dL_law_1163 1 rfl trivial ?_
        refine ev_aload_n dL_law_1164 0 rfl trivial ?_
        refine ev_iload_n dL_law_1165 3 rfl ?_
        refine ev_iconst (v := (1 : Int32)) dL_law_1166 kI_1 ?_
        refine ev_iadd dL_law_1167 ?_
        obtain ⟨g177, h⟩ := am_gd h
        refine ev_ti (n := X.1) (f := X.2) dL_law_1168 (fun G e => by rw [← e]; rfl) (am_in_vp g177) ?_
        refine ev_aload_n dL_law_1169 0 rfl trivial ?_
        refine ev_iload_n dL_law_1170 3 rfl ?_
        refine ev_iconst (v := (2 : Int32)) dL_law_1171 kI_2 ?_
        refine ev_iadd dL_law_1172 ?_
        obtain ⟨g178, h⟩ := am_gd h
        refine ev_ti (n := X.1) (f := X.2) dL_law_1173 (fun G e => by rw [← e]; rfl) (am_in_vp g178) ?_
        refine ev_aload_n dL_law_1174 0 rfl trivial ?_
        refine ev_iload_n dL_law_1175 3 rfl ?_
        refine ev_iconst (v := (3 : Int32)) dL_law_1176 kI_3 ?_
        refine ev_iadd dL_law_1177 ?_
        obtain ⟨g179, h⟩ := am_gd h
        refine ev_ti (n := X.1) (f := X.2) dL_law_1178 (fun G e => by rw [← e]; rfl) (am_in_vp g179) ?_
        obtain ⟨q180, eq180, h⟩ := am_bd h
        refine px_callvi [.int (X.2 (l3 + (1 : Int32)).toNatClampNeg), .int (X.2 (l3 + (2 : Int32)).toNatClampNeg), .int (X.2 (l3 + (3 : Int32)).toNatClampNeg)] (by decide) cl_6 (at6 rfl) dL_law_1179 ok_X6_mark lk_RL_133 in_X6_mark se_X6_mark (by decide) rfl (c_X6_mark eq180) rfl (Nat.le_of_ble_eq_true rfl) ?_
        refine ev_aload_n dL_law_1182 2 rfl trivial ?_
        refine ev_aload_n dL_law_1183 0 rfl trivial ?_
        refine ev_iload_n dL_law_1184 3 rfl ?_
        refine ev_iconst (v := (1 : Int32)) dL_law_1185 kI_1 ?_
        refine ev_iadd dL_law_1186 ?_
        refine ev_ti (n := X.1) (f := X.2) dL_law_1187 (fun G e => by rw [← e]; rfl) (am_in_vp g177) ?_
        refine ev_aload_n dL_law_1188 0 rfl trivial ?_
        refine ev_iload_n dL_law_1189 3 rfl ?_
        refine ev_iconst (v := (2 : Int32)) dL_law_1190 kI_2 ?_
        refine ev_iadd dL_law_1191 ?_
        refine ev_ti (n := X.1) (f := X.2) dL_law_1192 (fun G e => by rw [← e]; rfl) (am_in_vp g178) ?_
        refine ev_aload_n dL_law_1193 0 rfl trivial ?_
        refine ev_iload_n dL_law_1194 3 rfl ?_
        refine ev_iconst (v := (3 : Int32)) dL_law_1195 kI_3 ?_
        refine ev_iadd dL_law_1196 ?_
        refine ev_ti (n := X.1) (f := X.2) dL_law_1197 (fun G e => by rw [← e]; rfl) (am_in_vp g179) ?_
        obtain ⟨q181, eq181, h⟩ := am_bd h
        refine px_callvi [.int (X.2 (l3 + (1 : Int32)).toNatClampNeg), .int (X.2 (l3 + (2 : Int32)).toNatClampNeg), .int (X.2 (l3 + (3 : Int32)).toNatClampNeg)] (by decide) cl_7 (at7 rfl) dL_law_1198 ok_X7_mark lk_RL_136 in_X7_mark se_X7_mark (by decide) rfl (c_X7_mark eq181) rfl (Nat.le_of_ble_eq_true rfl) ?_
        refine ev_icmp_eq 1582 dL_law_1201 (by decide) (fun c182 => ?_) (fun c182 => ?_)
        · have h := am_t c182 h
          refine ev_loc [0, 1, 2, 3] rfl ?_
          exact l_L_law_1582 X (g_L_law_18 X n) (fun u l3 r h => ih u l3 r h) q181.1 l3 _ h
        · have h := am_e c182 h
          refine ev_iconst (v := (0 : Int32)) dL_law_1204 kI_0 ?_
          obtain rfl := Option.some.inj h
          exact ev_iret dL_law_1205 rfl (am_zn (Or.inl rfl))
      refine am_cs h (fun c183 h => ?_) (fun c183 h => ?_)
      · refine ev_tableIn 1206 (1173) dL_law_33 (by rw [c183]; decide) (by rw [c183]; decide) (by rw [c183]; decide) (by decide) ?_
        refine ev_aload_n dL_law_1206 1 rfl trivial ?_
        refine ev_aload_n dL_law_1207 0 rfl trivial ?_
        refine ev_iload_n dL_law_1208 3 rfl ?_
        refine ev_iconst (v := (1 : Int32)) dL_law_1209 kI_1 ?_
        refine ev_iadd dL_law_1210 ?_
        obtain ⟨g184, h⟩ := am_gd h
        refine ev_ti (n := X.1) (f := X.2) dL_law_1211 (fun G e => by rw [← e]; rfl) (am_in_vp g184) ?_
        refine ev_aload_n dL_law_1212 0 rfl trivial ?_
        refine ev_iload_n dL_law_1213 3 rfl ?_
        refine ev_iconst (v := (2 : Int32)) dL_law_1214 kI_2 ?_
        refine ev_iadd dL_law_1215 ?_
        obtain ⟨g185, h⟩ := am_gd h
        refine ev_ti (n := X.1) (f := X.2) dL_law_1216 (fun G e => by rw [← e]; rfl) (am_in_vp g185) ?_
        obtain ⟨q186, eq186, h⟩ := am_bd h
        refine px_callvi [.int (X.2 (l3 + (1 : Int32)).toNatClampNeg), .int (X.2 (l3 + (2 : Int32)).toNatClampNeg)] (by decide) cl_6 (at6 rfl) dL_law_1217 ok_X6_pour lk_RL_137 in_X6_pour se_X6_pour (by decide) rfl (c_X6_pour eq186) rfl (Nat.le_of_ble_eq_true rfl) ?_
        refine ev_aload_n dL_law_1220 2 rfl trivial ?_
        refine ev_aload_n dL_law_1221 0 rfl trivial ?_
        refine ev_iload_n dL_law_1222 3 rfl ?_
        refine ev_iconst (v := (1 : Int32)) dL_law_1223 kI_1 ?_
        refine ev_iadd dL_law_1224 ?_
        refine ev_ti (n := X.1) (f := X.2) dL_law_1225 (fun G e => by rw [← e]; rfl) (am_in_vp g184) ?_
        refine ev_aload_n dL_law_1226 0 rfl trivial ?_
        refine ev_iload_n dL_law_1227 3 rfl ?_
        refine ev_iconst (v := (2 : Int32)) dL_law_1228 kI_2 ?_
        refine ev_iadd dL_law_1229 ?_
        refine ev_ti (n := X.1) (f := X.2) dL_law_1230 (fun G e => by rw [← e]; rfl) (am_in_vp g185) ?_
        obtain ⟨q187, eq187, h⟩ := am_bd h
        refine px_callvi [.int (X.2 (l3 + (1 : Int32)).toNatClampNeg), .int (X.2 (l3 + (2 : Int32)).toNatClampNeg)] (by decide) cl_7 (at7 rfl) dL_law_1231 ok_X7_pour lk_RL_140 in_X7_pour se_X7_pour (by decide) rfl (c_X7_pour eq187) rfl (Nat.le_of_ble_eq_true rfl) ?_
        refine ev_icmp_eq 1582 dL_law_1234 (by decide) (fun c188 => ?_) (fun c188 => ?_)
        · have h := am_t c188 h
          refine ev_loc [0, 1, 2, 3] rfl ?_
          exact l_L_law_1582 X (g_L_law_18 X n) (fun u l3 r h => ih u l3 r h) q187.1 l3 _ h
        · have h := am_e c188 h
          refine ev_iconst (v := (0 : Int32)) dL_law_1237 kI_0 ?_
          obtain rfl := Option.some.inj h
          exact ev_iret dL_law_1238 rfl (am_zn (Or.inl rfl))
      refine am_cs h (fun c189 h => ?_) (fun c189 h => ?_)
      · refine ev_tableIn 1239 (1206) dL_law_33 (by rw [c189]; decide) (by rw [c189]; decide) (by rw [c189]; decide) (by decide) ?_
        refine ev_aload_n dL_law_1239 1 rfl trivial ?_
        refine ev_aload_n dL_law_1240 0 rfl trivial ?_
        refine ev_iload_n dL_law_1241 3 rfl ?_
        refine ev_iconst (v := (1 : Int32)) dL_law_1242 kI_1 ?_
        refine ev_iadd dL_law_1243 ?_
        obtain ⟨g190, h⟩ := am_gd h
        refine ev_ti (n := X.1) (f := X.2) dL_law_1244 (fun G e => by rw [← e]; rfl) (am_in_vp g190) ?_
        refine ev_aload_n dL_law_1245 0 rfl trivial ?_
        refine ev_iload_n dL_law_1246 3 rfl ?_
        refine ev_iconst (v := (2 : Int32)) dL_law_1247 kI_2 ?_
        refine ev_iadd dL_law_1248 ?_
        obtain ⟨g191, h⟩ := am_gd h
        refine ev_ti (n := X.1) (f := X.2) dL_law_1249 (fun G e => by rw [← e]; rfl) (am_in_vp g191) ?_
        obtain ⟨q192, eq192, h⟩ := am_bd h
        refine px_callvi [.int (X.2 (l3 + (1 : Int32)).toNatClampNeg), .int (X.2 (l3 + (2 : Int32)).toNatClampNeg)] (by decide) cl_6 (at6 rfl) dL_law_1250 ok_X6_reads lk_RL_141 in_X6_reads se_X6_reads (by decide) rfl (c_X6_reads eq192) rfl (Nat.le_of_ble_eq_true rfl) ?_
        refine ev_aload_n dL_law_1253 2 rfl trivial ?_
        refine ev_aload_n dL_law_1254 0 rfl trivial ?_
        refine ev_iload_n dL_law_1255 3 rfl ?_
        refine ev_iconst (v := (1 : Int32)) dL_law_1256 kI_1 ?_
        refine ev_iadd dL_law_1257 ?_
        refine ev_ti (n := X.1) (f := X.2) dL_law_1258 (fun G e => by rw [← e]; rfl) (am_in_vp g190) ?_
        refine ev_aload_n dL_law_1259 0 rfl trivial ?_
        refine ev_iload_n dL_law_1260 3 rfl ?_
        refine ev_iconst (v := (2 : Int32)) dL_law_1261 kI_2 ?_
        refine ev_iadd dL_law_1262 ?_
        refine ev_ti (n := X.1) (f := X.2) dL_law_1263 (fun G e => by rw [← e]; rfl) (am_in_vp g191) ?_
        obtain ⟨q193, eq193, h⟩ := am_bd h
        refine px_callvi [.int (X.2 (l3 + (1 : Int32)).toNatClampNeg), .int (X.2 (l3 + (2 : Int32)).toNatClampNeg)] (by decide) cl_7 (at7 rfl) dL_law_1264 ok_X7_reads lk_RL_144 in_X7_reads se_X7_reads (by decide) rfl (c_X7_reads eq193) rfl (Nat.le_of_ble_eq_true rfl) ?_
        refine ev_icmp_eq 1582 dL_law_1267 (by decide) (fun c194 => ?_) (fun c194 => ?_)
        · have h := am_t c194 h
          refine ev_loc [0, 1, 2, 3] rfl ?_
          exact l_L_law_1582 X (g_L_law_18 X n) (fun u l3 r h => ih u l3 r h) q193.1 l3 _ h
        · have h := am_e c194 h
          refine ev_iconst (v := (0 : Int32)) dL_law_1270 kI_0 ?_
          obtain rfl := Option.some.inj h
          exact ev_iret dL_law_1271 rfl (am_zn (Or.inl rfl))
      refine am_cs h (fun c195 h => ?_) (fun c195 h => ?_)
      · refine ev_tableIn 1272 (1239) dL_law_33 (by rw [c195]; decide) (by rw [c195]; decide) (by rw [c195]; decide) (by decide) ?_
        refine ev_aload_n dL_law_1272 1 rfl trivial ?_
        refine ev_aload_n dL_law_1273 0 rfl trivial ?_
        refine ev_iload_n dL_law_1274 3 rfl ?_
        refine ev_iconst (v := (1 : Int32)) dL_law_1275 kI_1 ?_
        refine ev_iadd dL_law_1276 ?_
        obtain ⟨g196, h⟩ := am_gd h
        refine ev_ti (n := X.1) (f := X.2) dL_law_1277 (fun G e => by rw [← e]; rfl) (am_in_vp g196) ?_
        refine ev_aload_n dL_law_1278 0 rfl trivial ?_
        refine ev_iload_n dL_law_1279 3 rfl ?_
        refine ev_iconst (v := (2 : Int32)) dL_law_1280 kI_2 ?_
        refine ev_iadd dL_law_1281 ?_
        obtain ⟨g197, h⟩ := am_gd h
        refine ev_ti (n := X.1) (f := X.2) dL_law_1282 (fun G e => by rw [← e]; rfl) (am_in_vp g197) ?_
        refine ev_aload_n dL_law_1283 0 rfl trivial ?_
        refine ev_iload_n dL_law_1284 3 rfl ?_
        refine ev_iconst (v := (3 : Int32)) dL_law_1285 kI_3 ?_
        refine ev_iadd dL_law_1286 ?_
        obtain ⟨g198, h⟩ := am_gd h
        refine ev_ti (n := X.1) (f := X.2) dL_law_1287 (fun G e => by rw [← e]; rfl) (am_in_vp g198) ?_
        refine ev_aload_n dL_law_1288 0 rfl trivial ?_
        refine ev_iload_n dL_law_1289 3 rfl ?_
        refine ev_iconst (v := (4 : Int32)) dL_law_1290 kI_4 ?_
        refine ev_iadd dL_law_1291 ?_
        obtain ⟨g199, h⟩ := am_gd h
        refine ev_ti (n := X.1) (f := X.2) dL_law_1292 (fun G e => by rw [← e]; rfl) (am_in_vp g199) ?_
        refine ev_aload_n dL_law_1293 0 rfl trivial ?_
        refine ev_iload_n dL_law_1294 3 rfl ?_
        refine ev_iconst (v := (5 : Int32)) dL_law_1295 kI_5 ?_
        refine ev_iadd dL_law_1296 ?_
        obtain ⟨g200, h⟩ := am_gd h
        refine ev_ti (n := X.1) (f := X.2) dL_law_1297 (fun G e => by rw [← e]; rfl) (am_in_vp g200) ?_
        obtain ⟨q201, eq201, h⟩ := am_bd h
        refine px_callvi [.int (X.2 (l3 + (1 : Int32)).toNatClampNeg), .int (X.2 (l3 + (2 : Int32)).toNatClampNeg), .int (X.2 (l3 + (3 : Int32)).toNatClampNeg), .int (X.2 (l3 + (4 : Int32)).toNatClampNeg), .int (X.2 (l3 + (5 : Int32)).toNatClampNeg)] (by decide) cl_6 (at6 rfl) dL_law_1298 ok_X6_copy lk_RL_145 in_X6_copy se_X6_copy (by decide) rfl (c_X6_copy eq201) rfl (Nat.le_of_ble_eq_true rfl) ?_
        refine ev_aload_n dL_law_1301 2 rfl trivial ?_
        refine ev_aload_n dL_law_1302 0 rfl trivial ?_
        refine ev_iload_n dL_law_1303 3 rfl ?_
        refine ev_iconst (v := (1 : Int32)) dL_law_1304 kI_1 ?_
        refine ev_iadd dL_law_1305 ?_
        refine ev_ti (n := X.1) (f := X.2) dL_law_1306 (fun G e => by rw [← e]; rfl) (am_in_vp g196) ?_
        refine ev_aload_n dL_law_1307 0 rfl trivial ?_
        refine ev_iload_n dL_law_1308 3 rfl ?_
        refine ev_iconst (v := (2 : Int32)) dL_law_1309 kI_2 ?_
        refine ev_iadd dL_law_1310 ?_
        refine ev_ti (n := X.1) (f := X.2) dL_law_1311 (fun G e => by rw [← e]; rfl) (am_in_vp g197) ?_
        refine ev_aload_n dL_law_1312 0 rfl trivial ?_
        refine ev_iload_n dL_law_1313 3 rfl ?_
        refine ev_iconst (v := (3 : Int32)) dL_law_1314 kI_3 ?_
        refine ev_iadd dL_law_1315 ?_
        refine ev_ti (n := X.1) (f := X.2) dL_law_1316 (fun G e => by rw [← e]; rfl) (am_in_vp g198) ?_
        refine ev_aload_n dL_law_1317 0 rfl trivial ?_
        refine ev_iload_n dL_law_1318 3 rfl ?_
        refine ev_iconst (v := (4 : Int32)) dL_law_1319 kI_4 ?_
        refine ev_iadd dL_law_1320 ?_
        refine ev_ti (n := X.1) (f := X.2) dL_law_1321 (fun G e => by rw [← e]; rfl) (am_in_vp g199) ?_
        refine ev_aload_n dL_law_1322 0 rfl trivial ?_
        refine ev_iload_n dL_law_1323 3 rfl ?_
        refine ev_iconst (v := (5 : Int32)) dL_law_1324 kI_5 ?_
        refine ev_iadd dL_law_1325 ?_
        refine ev_ti (n := X.1) (f := X.2) dL_law_1326 (fun G e => by rw [← e]; rfl) (am_in_vp g200) ?_
        obtain ⟨q202, eq202, h⟩ := am_bd h
        refine px_callvi [.int (X.2 (l3 + (1 : Int32)).toNatClampNeg), .int (X.2 (l3 + (2 : Int32)).toNatClampNeg), .int (X.2 (l3 + (3 : Int32)).toNatClampNeg), .int (X.2 (l3 + (4 : Int32)).toNatClampNeg), .int (X.2 (l3 + (5 : Int32)).toNatClampNeg)] (by decide) cl_7 (at7 rfl) dL_law_1327 ok_X7_copy lk_RL_149 in_X7_copy se_X7_copy (by decide) rfl (c_X7_copy eq202) rfl (Nat.le_of_ble_eq_true rfl) ?_
        refine ev_icmp_eq 1582 dL_law_1330 (by decide) (fun c203 => ?_) (fun c203 => ?_)
        · have h := am_t c203 h
          refine ev_loc [0, 1, 2, 3] rfl ?_
          exact l_L_law_1582 X (g_L_law_18 X n) (fun u l3 r h => ih u l3 r h) q202.1 l3 _ h
        · have h := am_e c203 h
          refine ev_iconst (v := (0 : Int32)) dL_law_1333 kI_0 ?_
          obtain rfl := Option.some.inj h
          exact ev_iret dL_law_1334 rfl (am_zn (Or.inl rfl))
      refine am_cs h (fun c204 h => ?_) (fun c204 h => ?_)
      · refine ev_tableIn 1335 (1302) dL_law_33 (by rw [c204]; decide) (by rw [c204]; decide) (by rw [c204]; decide) (by decide) ?_
        refine ev_aload_n dL_law_1335 1 rfl trivial ?_
        refine ev_aload_n dL_law_1336 0 rfl trivial ?_
        refine ev_iload_n dL_law_1337 3 rfl ?_
        refine ev_iconst (v := (1 : Int32)) dL_law_1338 kI_1 ?_
        refine ev_iadd dL_law_1339 ?_
        obtain ⟨g205, h⟩ := am_gd h
        refine ev_ti (n := X.1) (f := X.2) dL_law_1340 (fun G e => by rw [← e]; rfl) (am_in_vp g205) ?_
        refine ev_aload_n dL_law_1341 0 rfl trivial ?_
        refine ev_iload_n dL_law_1342 3 rfl ?_
        refine ev_iconst (v := (2 : Int32)) dL_law_1343 kI_2 ?_
        refine ev_iadd dL_law_1344 ?_
        obtain ⟨g206, h⟩ := am_gd h
        refine ev_ti (n := X.1) (f := X.2) dL_law_1345 (fun G e => by rw [← e]; rfl) (am_in_vp g206) ?_
        refine ev_aload_n dL_law_1346 0 rfl trivial ?_
        refine ev_iload_n dL_law_1347 3 rfl ?_
        refine ev_iconst (v := (3 : Int32)) dL_law_1348 kI_3 ?_
        refine ev_iadd dL_law_1349 ?_
        obtain ⟨g207, h⟩ := am_gd h
        refine ev_ti (n := X.1) (f := X.2) dL_law_1350 (fun G e => by rw [← e]; rfl) (am_in_vp g207) ?_
        obtain ⟨q208, eq208, h⟩ := am_bd h
        refine px_callvi [.int (X.2 (l3 + (1 : Int32)).toNatClampNeg), .int (X.2 (l3 + (2 : Int32)).toNatClampNeg), .int (X.2 (l3 + (3 : Int32)).toNatClampNeg)] (by decide) cl_6 (at6 rfl) dL_law_1351 ok_X6_lay lk_RL_150 in_X6_lay se_X6_lay (by decide) rfl (c_X6_lay eq208) rfl (Nat.le_of_ble_eq_true rfl) ?_
        refine ev_aload_n dL_law_1354 2 rfl trivial ?_
        refine ev_aload_n dL_law_1355 0 rfl trivial ?_
        refine ev_iload_n dL_law_1356 3 rfl ?_
        refine ev_iconst (v := (1 : Int32)) dL_law_1357 kI_1 ?_
        refine ev_iadd dL_law_1358 ?_
        refine ev_ti (n := X.1) (f := X.2) dL_law_1359 (fun G e => by rw [← e]; rfl) (am_in_vp g205) ?_
        refine ev_aload_n dL_law_1360 0 rfl trivial ?_
        refine ev_iload_n dL_law_1361 3 rfl ?_
        refine ev_iconst (v := (2 : Int32)) dL_law_1362 kI_2 ?_
        refine ev_iadd dL_law_1363 ?_
        refine ev_ti (n := X.1) (f := X.2) dL_law_1364 (fun G e => by rw [← e]; rfl) (am_in_vp g206) ?_
        refine ev_aload_n dL_law_1365 0 rfl trivial ?_
        refine ev_iload_n dL_law_1366 3 rfl ?_
        refine ev_iconst (v := (3 : Int32)) dL_law_1367 kI_3 ?_
        refine ev_iadd dL_law_1368 ?_
        refine ev_ti (n := X.1) (f := X.2) dL_law_1369 (fun G e => by rw [← e]; rfl) (am_in_vp g207) ?_
        obtain ⟨q209, eq209, h⟩ := am_bd h
        refine px_callvi [.int (X.2 (l3 + (1 : Int32)).toNatClampNeg), .int (X.2 (l3 + (2 : Int32)).toNatClampNeg), .int (X.2 (l3 + (3 : Int32)).toNatClampNeg)] (by decide) cl_7 (at7 rfl) dL_law_1370 ok_X7_lay lk_RL_153 in_X7_lay se_X7_lay (by decide) rfl (c_X7_lay eq209) rfl (Nat.le_of_ble_eq_true rfl) ?_
        refine ev_icmp_eq 1582 dL_law_1373 (by decide) (fun c210 => ?_) (fun c210 => ?_)
        · have h := am_t c210 h
          refine ev_loc [0, 1, 2, 3] rfl ?_
          exact l_L_law_1582 X (g_L_law_18 X n) (fun u l3 r h => ih u l3 r h) q209.1 l3 _ h
        · have h := am_e c210 h
          refine ev_iconst (v := (0 : Int32)) dL_law_1376 kI_0 ?_
          obtain rfl := Option.some.inj h
          exact ev_iret dL_law_1377 rfl (am_zn (Or.inl rfl))
      refine am_cs h (fun c211 h => ?_) (fun c211 h => ?_)
      · refine ev_tableIn 1378 (1345) dL_law_33 (by rw [c211]; decide) (by rw [c211]; decide) (by rw [c211]; decide) (by decide) ?_
        refine ev_aload_n dL_law_1378 1 rfl trivial ?_
        refine ev_aload_n dL_law_1379 0 rfl trivial ?_
        refine ev_iload_n dL_law_1380 3 rfl ?_
        refine ev_iconst (v := (1 : Int32)) dL_law_1381 kI_1 ?_
        refine ev_iadd dL_law_1382 ?_
        obtain ⟨g212, h⟩ := am_gd h
        refine ev_ti (n := X.1) (f := X.2) dL_law_1383 (fun G e => by rw [← e]; rfl) (am_in_vp g212) ?_
        refine ev_aload_n dL_law_1384 0 rfl trivial ?_
        refine ev_iload_n dL_law_1385 3 rfl ?_
        refine ev_iconst (v := (2 : Int32)) dL_law_1386 kI_2 ?_
        refine ev_iadd dL_law_1387 ?_
        obtain ⟨g213, h⟩ := am_gd h
        refine ev_ti (n := X.1) (f := X.2) dL_law_1388 (fun G e => by rw [← e]; rfl) (am_in_vp g213) ?_
        obtain ⟨q214, eq214, h⟩ := am_bd h
        refine px_callvi [.int (X.2 (l3 + (1 : Int32)).toNatClampNeg), .int (X.2 (l3 + (2 : Int32)).toNatClampNeg)] (by decide) cl_6 (at6 rfl) dL_law_1389 ok_X6_ask lk_RL_154 in_X6_ask se_X6_ask (by decide) rfl (c_X6_ask eq214) rfl (Nat.le_of_ble_eq_true rfl) ?_
        refine ev_aload_n dL_law_1392 2 rfl trivial ?_
        refine ev_aload_n dL_law_1393 0 rfl trivial ?_
        refine ev_iload_n dL_law_1394 3 rfl ?_
        refine ev_iconst (v := (1 : Int32)) dL_law_1395 kI_1 ?_
        refine ev_iadd dL_law_1396 ?_
        refine ev_ti (n := X.1) (f := X.2) dL_law_1397 (fun G e => by rw [← e]; rfl) (am_in_vp g212) ?_
        refine ev_aload_n dL_law_1398 0 rfl trivial ?_
        refine ev_iload_n dL_law_1399 3 rfl ?_
        refine ev_iconst (v := (2 : Int32)) dL_law_1400 kI_2 ?_
        refine ev_iadd dL_law_1401 ?_
        refine ev_ti (n := X.1) (f := X.2) dL_law_1402 (fun G e => by rw [← e]; rfl) (am_in_vp g213) ?_
        obtain ⟨q215, eq215, h⟩ := am_bd h
        refine px_callvi [.int (X.2 (l3 + (1 : Int32)).toNatClampNeg), .int (X.2 (l3 + (2 : Int32)).toNatClampNeg)] (by decide) cl_7 (at7 rfl) dL_law_1403 ok_X7_ask lk_RL_157 in_X7_ask se_X7_ask (by decide) rfl (c_X7_ask eq215) rfl (Nat.le_of_ble_eq_true rfl) ?_
        refine ev_icmp_eq 1582 dL_law_1406 (by decide) (fun c216 => ?_) (fun c216 => ?_)
        · have h := am_t c216 h
          refine ev_loc [0, 1, 2, 3] rfl ?_
          exact l_L_law_1582 X (g_L_law_18 X n) (fun u l3 r h => ih u l3 r h) q215.1 l3 _ h
        · have h := am_e c216 h
          refine ev_iconst (v := (0 : Int32)) dL_law_1409 kI_0 ?_
          obtain rfl := Option.some.inj h
          exact ev_iret dL_law_1410 rfl (am_zn (Or.inl rfl))
      refine am_cs h (fun c217 h => ?_) (fun c217 h => ?_)
      · refine ev_tableIn 1411 (1378) dL_law_33 (by rw [c217]; decide) (by rw [c217]; decide) (by rw [c217]; decide) (by decide) ?_
        refine ev_aload_n dL_law_1411 1 rfl trivial ?_
        refine ev_aload_n dL_law_1412 0 rfl trivial ?_
        refine ev_iload_n dL_law_1413 3 rfl ?_
        refine ev_iconst (v := (1 : Int32)) dL_law_1414 kI_1 ?_
        refine ev_iadd dL_law_1415 ?_
        obtain ⟨g218, h⟩ := am_gd h
        refine ev_ti (n := X.1) (f := X.2) dL_law_1416 (fun G e => by rw [← e]; rfl) (am_in_vp g218) ?_
        refine ev_aload_n dL_law_1417 0 rfl trivial ?_
        refine ev_iload_n dL_law_1418 3 rfl ?_
        refine ev_iconst (v := (2 : Int32)) dL_law_1419 kI_2 ?_
        refine ev_iadd dL_law_1420 ?_
        obtain ⟨g219, h⟩ := am_gd h
        refine ev_ti (n := X.1) (f := X.2) dL_law_1421 (fun G e => by rw [← e]; rfl) (am_in_vp g219) ?_
        obtain ⟨q220, eq220, h⟩ := am_bd h
        refine px_callvi [.int (X.2 (l3 + (1 : Int32)).toNatClampNeg), .int (X.2 (l3 + (2 : Int32)).toNatClampNeg)] (by decide) cl_6 (at6 rfl) dL_law_1422 ok_X6_item lk_RL_158 in_X6_item se_X6_item (by decide) rfl (c_X6_item eq220) rfl (Nat.le_of_ble_eq_true rfl) ?_
        refine ev_aload_n dL_law_1425 2 rfl trivial ?_
        refine ev_aload_n dL_law_1426 0 rfl trivial ?_
        refine ev_iload_n dL_law_1427 3 rfl ?_
        refine ev_iconst (v := (1 : Int32)) dL_law_1428 kI_1 ?_
        refine ev_iadd dL_law_1429 ?_
        refine ev_ti (n := X.1) (f := X.2) dL_law_1430 (fun G e => by rw [← e]; rfl) (am_in_vp g218) ?_
        refine ev_aload_n dL_law_1431 0 rfl trivial ?_
        refine ev_iload_n dL_law_1432 3 rfl ?_
        refine ev_iconst (v := (2 : Int32)) dL_law_1433 kI_2 ?_
        refine ev_iadd dL_law_1434 ?_
        refine ev_ti (n := X.1) (f := X.2) dL_law_1435 (fun G e => by rw [← e]; rfl) (am_in_vp g219) ?_
        obtain ⟨q221, eq221, h⟩ := am_bd h
        refine px_callvi [.int (X.2 (l3 + (1 : Int32)).toNatClampNeg), .int (X.2 (l3 + (2 : Int32)).toNatClampNeg)] (by decide) cl_7 (at7 rfl) dL_law_1436 ok_X7_item lk_RL_161 in_X7_item se_X7_item (by decide) rfl (c_X7_item eq221) rfl (Nat.le_of_ble_eq_true rfl) ?_
        refine ev_icmp_eq 1582 dL_law_1439 (by decide) (fun c222 => ?_) (fun c222 => ?_)
        · have h := am_t c222 h
          refine ev_loc [0, 1, 2, 3] rfl ?_
          exact l_L_law_1582 X (g_L_law_18 X n) (fun u l3 r h => ih u l3 r h) q221.1 l3 _ h
        · have h := am_e c222 h
          refine ev_iconst (v := (0 : Int32)) dL_law_1442 kI_0 ?_
          obtain rfl := Option.some.inj h
          exact ev_iret dL_law_1443 rfl (am_zn (Or.inl rfl))
      refine am_cs h (fun c223 h => ?_) (fun c223 h => ?_)
      · refine ev_tableIn 1444 (1411) dL_law_33 (by rw [c223]; decide) (by rw [c223]; decide) (by rw [c223]; decide) (by decide) ?_
        refine ev_aload_n dL_law_1444 1 rfl trivial ?_
        refine ev_aload_n dL_law_1445 0 rfl trivial ?_
        refine ev_iload_n dL_law_1446 3 rfl ?_
        refine ev_iconst (v := (1 : Int32)) dL_law_1447 kI_1 ?_
        refine ev_iadd dL_law_1448 ?_
        obtain ⟨g224, h⟩ := am_gd h
        refine ev_ti (n := X.1) (f := X.2) dL_law_1449 (fun G e => by rw [← e]; rfl) (am_in_vp g224) ?_
        refine ev_aload_n dL_law_1450 0 rfl trivial ?_
        refine ev_iload_n dL_law_1451 3 rfl ?_
        refine ev_iconst (v := (2 : Int32)) dL_law_1452 kI_2 ?_
        refine ev_iadd dL_law_1453 ?_
        obtain ⟨g225, h⟩ := am_gd h
        refine ev_ti (n := X.1) (f := X.2) dL_law_1454 (fun G e => by rw [← e]; rfl) (am_in_vp g225) ?_
        obtain ⟨q226, eq226, h⟩ := am_bd h
        refine px_callvi [.int (X.2 (l3 + (1 : Int32)).toNatClampNeg), .int (X.2 (l3 + (2 : Int32)).toNatClampNeg)] (by decide) cl_6 (at6 rfl) dL_law_1455 ok_X6_rest lk_RL_162 in_X6_rest se_X6_rest (by decide) rfl (c_X6_rest eq226) rfl (Nat.le_of_ble_eq_true rfl) ?_
        refine ev_aload_n dL_law_1458 2 rfl trivial ?_
        refine ev_aload_n dL_law_1459 0 rfl trivial ?_
        refine ev_iload_n dL_law_1460 3 rfl ?_
        refine ev_iconst (v := (1 : Int32)) dL_law_1461 kI_1 ?_
        refine ev_iadd dL_law_1462 ?_
        refine ev_ti (n := X.1) (f := X.2) dL_law_1463 (fun G e => by rw [← e]; rfl) (am_in_vp g224) ?_
        refine ev_aload_n dL_law_1464 0 rfl trivial ?_
        refine ev_iload_n dL_law_1465 3 rfl ?_
        refine ev_iconst (v := (2 : Int32)) dL_law_1466 kI_2 ?_
        refine ev_iadd dL_law_1467 ?_
        refine ev_ti (n := X.1) (f := X.2) dL_law_1468 (fun G e => by rw [← e]; rfl) (am_in_vp g225) ?_
        obtain ⟨q227, eq227, h⟩ := am_bd h
        refine px_callvi [.int (X.2 (l3 + (1 : Int32)).toNatClampNeg), .int (X.2 (l3 + (2 : Int32)).toNatClampNeg)] (by decide) cl_7 (at7 rfl) dL_law_1469 ok_X7_rest lk_RL_165 in_X7_rest se_X7_rest (by decide) rfl (c_X7_rest eq227) rfl (Nat.le_of_ble_eq_true rfl) ?_
        refine ev_icmp_eq 1582 dL_law_1472 (by decide) (fun c228 => ?_) (fun c228 => ?_)
        · have h := am_t c228 h
          refine ev_loc [0, 1, 2, 3] rfl ?_
          exact l_L_law_1582 X (g_L_law_18 X n) (fun u l3 r h => ih u l3 r h) q227.1 l3 _ h
        · have h := am_e c228 h
          refine ev_iconst (v := (0 : Int32)) dL_law_1475 kI_0 ?_
          obtain rfl := Option.some.inj h
          exact ev_iret dL_law_1476 rfl (am_zn (Or.inl rfl))
      refine am_cs h (fun c229 h => ?_) (fun c229 h => ?_)
      · refine ev_tableIn 1477 (1444) dL_law_33 (by rw [c229]; decide) (by rw [c229]; decide) (by rw [c229]; decide) (by decide) ?_
        refine ev_aload_n dL_law_1477 1 rfl trivial ?_
        refine ev_aload_n dL_law_1478 0 rfl trivial ?_
        refine ev_iload_n dL_law_1479 3 rfl ?_
        refine ev_iconst (v := (1 : Int32)) dL_law_1480 kI_1 ?_
        refine ev_iadd dL_law_1481 ?_
        obtain ⟨g230, h⟩ := am_gd h
        refine ev_ti (n := X.1) (f := X.2) dL_law_1482 (fun G e => by rw [← e]; rfl) (am_in_vp g230) ?_
        obtain ⟨q231, eq231, h⟩ := am_bd h
        refine px_callvi [.int (X.2 (l3 + (1 : Int32)).toNatClampNeg)] (by decide) cl_6 (at6 rfl) dL_law_1483 ok_X6_tell lk_RL_166 in_X6_tell se_X6_tell (by decide) rfl (c_X6_tell eq231) rfl (Nat.le_of_ble_eq_true rfl) ?_
        refine ev_aload_n dL_law_1486 2 rfl trivial ?_
        refine ev_aload_n dL_law_1487 0 rfl trivial ?_
        refine ev_iload_n dL_law_1488 3 rfl ?_
        refine ev_iconst (v := (1 : Int32)) dL_law_1489 kI_1 ?_
        refine ev_iadd dL_law_1490 ?_
        refine ev_ti (n := X.1) (f := X.2) dL_law_1491 (fun G e => by rw [← e]; rfl) (am_in_vp g230) ?_
        obtain ⟨q232, eq232, h⟩ := am_bd h
        refine px_callvi [.int (X.2 (l3 + (1 : Int32)).toNatClampNeg)] (by decide) cl_7 (at7 rfl) dL_law_1492 ok_X7_tell lk_RL_169 in_X7_tell se_X7_tell (by decide) rfl (c_X7_tell eq232) rfl (Nat.le_of_ble_eq_true rfl) ?_
        refine ev_icmp_eq 1582 dL_law_1495 (by decide) (fun c233 => ?_) (fun c233 => ?_)
        · have h := am_t c233 h
          refine ev_loc [0, 1, 2, 3] rfl ?_
          exact l_L_law_1582 X (g_L_law_18 X n) (fun u l3 r h => ih u l3 r h) q232.1 l3 _ h
        · have h := am_e c233 h
          refine ev_iconst (v := (0 : Int32)) dL_law_1498 kI_0 ?_
          obtain rfl := Option.some.inj h
          exact ev_iret dL_law_1499 rfl (am_zn (Or.inl rfl))
      refine am_cs h (fun c234 h => ?_) (fun c234 h => ?_)
      · refine ev_tableIn 1500 (1467) dL_law_33 (by rw [c234]; decide) (by rw [c234]; decide) (by rw [c234]; decide) (by decide) ?_
        refine ev_aload_n dL_law_1500 1 rfl trivial ?_
        refine ev_aload_n dL_law_1501 0 rfl trivial ?_
        refine ev_iload_n dL_law_1502 3 rfl ?_
        refine ev_iconst (v := (1 : Int32)) dL_law_1503 kI_1 ?_
        refine ev_iadd dL_law_1504 ?_
        obtain ⟨g235, h⟩ := am_gd h
        refine ev_ti (n := X.1) (f := X.2) dL_law_1505 (fun G e => by rw [← e]; rfl) (am_in_vp g235) ?_
        refine ev_aload_n dL_law_1506 0 rfl trivial ?_
        refine ev_iload_n dL_law_1507 3 rfl ?_
        refine ev_iconst (v := (2 : Int32)) dL_law_1508 kI_2 ?_
        refine ev_iadd dL_law_1509 ?_
        obtain ⟨g236, h⟩ := am_gd h
        refine ev_ti (n := X.1) (f := X.2) dL_law_1510 (fun G e => by rw [← e]; rfl) (am_in_vp g236) ?_
        obtain ⟨q237, eq237, h⟩ := am_bd h
        refine px_callvi [.int (X.2 (l3 + (1 : Int32)).toNatClampNeg), .int (X.2 (l3 + (2 : Int32)).toNatClampNeg)] (by decide) cl_6 (at6 rfl) dL_law_1511 ok_X6_check lk_RL_170 in_X6_check se_X6_check (by decide) rfl (c_X6_check eq237) rfl (Nat.le_of_ble_eq_true rfl) ?_
        refine ev_aload_n dL_law_1514 2 rfl trivial ?_
        refine ev_aload_n dL_law_1515 0 rfl trivial ?_
        refine ev_iload_n dL_law_1516 3 rfl ?_
        refine ev_iconst (v := (1 : Int32)) dL_law_1517 kI_1 ?_
        refine ev_iadd dL_law_1518 ?_
        refine ev_ti (n := X.1) (f := X.2) dL_law_1519 (fun G e => by rw [← e]; rfl) (am_in_vp g235) ?_
        refine ev_aload_n dL_law_1520 0 rfl trivial ?_
        refine ev_iload_n dL_law_1521 3 rfl ?_
        refine ev_iconst (v := (2 : Int32)) dL_law_1522 kI_2 ?_
        refine ev_iadd dL_law_1523 ?_
        refine ev_ti (n := X.1) (f := X.2) dL_law_1524 (fun G e => by rw [← e]; rfl) (am_in_vp g236) ?_
        obtain ⟨q238, eq238, h⟩ := am_bd h
        refine px_callvi [.int (X.2 (l3 + (1 : Int32)).toNatClampNeg), .int (X.2 (l3 + (2 : Int32)).toNatClampNeg)] (by decide) cl_7 (at7 rfl) dL_law_1525 ok_X7_check lk_RL_173 in_X7_check se_X7_check (by decide) rfl (c_X7_check eq238) rfl (Nat.le_of_ble_eq_true rfl) ?_
        refine ev_icmp_eq 1582 dL_law_1528 (by decide) (fun c239 => ?_) (fun c239 => ?_)
        · have h := am_t c239 h
          refine ev_loc [0, 1, 2, 3] rfl ?_
          exact l_L_law_1582 X (g_L_law_18 X n) (fun u l3 r h => ih u l3 r h) q238.1 l3 _ h
        · have h := am_e c239 h
          refine ev_iconst (v := (0 : Int32)) dL_law_1531 kI_0 ?_
          obtain rfl := Option.some.inj h
          exact ev_iret dL_law_1532 rfl (am_zn (Or.inl rfl))
      refine am_cs h (fun c240 h => ?_) (fun c240 h => ?_)
      · refine ev_tableIn 1533 (1500) dL_law_33 (by rw [c240]; decide) (by rw [c240]; decide) (by rw [c240]; decide) (by decide) ?_
        refine ev_aload_n dL_law_1533 1 rfl trivial ?_
        obtain ⟨q241, eq241, h⟩ := am_bd h
        refine px_callvi [] (by decide) cl_6 (at6 rfl) dL_law_1534 ok_X6_keep lk_RL_174 in_X6_keep se_X6_keep (by decide) rfl (c_X6_keep eq241) rfl (Nat.le_of_ble_eq_true rfl) ?_
        refine ev_aload_n dL_law_1537 2 rfl trivial ?_
        obtain ⟨q242, eq242, h⟩ := am_bd h
        refine px_callvi [] (by decide) cl_7 (at7 rfl) dL_law_1538 ok_X7_keep lk_RL_177 in_X7_keep se_X7_keep (by decide) rfl (c_X7_keep eq242) rfl (Nat.le_of_ble_eq_true rfl) ?_
        refine ev_icmp_eq 1582 dL_law_1541 (by decide) (fun c243 => ?_) (fun c243 => ?_)
        · have h := am_t c243 h
          refine ev_loc [0, 1, 2, 3] rfl ?_
          exact l_L_law_1582 X (g_L_law_18 X n) (fun u l3 r h => ih u l3 r h) q242.1 l3 _ h
        · have h := am_e c243 h
          refine ev_iconst (v := (0 : Int32)) dL_law_1544 kI_0 ?_
          obtain rfl := Option.some.inj h
          exact ev_iret dL_law_1545 rfl (am_zn (Or.inl rfl))
      refine am_cs h (fun c244 h => ?_) (fun c244 h => ?_)
      · refine ev_tableIn 1546 (1513) dL_law_33 (by rw [c244]; decide) (by rw [c244]; decide) (by rw [c244]; decide) (by decide) ?_
        refine ev_aload_n dL_law_1546 1 rfl trivial ?_
        obtain ⟨q245, eq245, h⟩ := am_bd h
        refine px_callvi [] (by decide) cl_6 (at6 rfl) dL_law_1547 ok_X6_back lk_RL_178 in_X6_back se_X6_back (by decide) rfl (c_X6_back eq245) rfl (Nat.le_of_ble_eq_true rfl) ?_
        refine ev_aload_n dL_law_1550 2 rfl trivial ?_
        obtain ⟨q246, eq246, h⟩ := am_bd h
        refine px_callvi [] (by decide) cl_7 (at7 rfl) dL_law_1551 ok_X7_back lk_RL_181 in_X7_back se_X7_back (by decide) rfl (c_X7_back eq246) rfl (Nat.le_of_ble_eq_true rfl) ?_
        refine ev_icmp_eq 1582 dL_law_1554 (by decide) (fun c247 => ?_) (fun c247 => ?_)
        · have h := am_t c247 h
          refine ev_loc [0, 1, 2, 3] rfl ?_
          exact l_L_law_1582 X (g_L_law_18 X n) (fun u l3 r h => ih u l3 r h) q246.1 l3 _ h
        · have h := am_e c247 h
          refine ev_iconst (v := (0 : Int32)) dL_law_1557 kI_0 ?_
          obtain rfl := Option.some.inj h
          exact ev_iret dL_law_1558 rfl (am_zn (Or.inl rfl))
      refine am_cs h (fun c248 h => ?_) (fun c248 h => ?_)
      · refine ev_tableIn 1559 (1526) dL_law_33 (by rw [c248]; decide) (by rw [c248]; decide) (by rw [c248]; decide) (by decide) ?_
        refine ev_aload_n dL_law_1559 1 rfl trivial ?_
        refine ev_aload_n dL_law_1560 0 rfl trivial ?_
        refine ev_iload_n dL_law_1561 3 rfl ?_
        refine ev_iconst (v := (1 : Int32)) dL_law_1562 kI_1 ?_
        refine ev_iadd dL_law_1563 ?_
        obtain ⟨g249, h⟩ := am_gd h
        refine ev_ti (n := X.1) (f := X.2) dL_law_1564 (fun G e => by rw [← e]; rfl) (am_in_vp g249) ?_
        obtain ⟨q250, eq250, h⟩ := am_bd h
        refine px_callvi [.int (X.2 (l3 + (1 : Int32)).toNatClampNeg)] (by decide) cl_6 (at6 rfl) dL_law_1565 ok_X6_count lk_RL_182 in_X6_count se_X6_count (by decide) rfl (c_X6_count eq250) rfl (Nat.le_of_ble_eq_true rfl) ?_
        refine ev_aload_n dL_law_1568 2 rfl trivial ?_
        refine ev_aload_n dL_law_1569 0 rfl trivial ?_
        refine ev_iload_n dL_law_1570 3 rfl ?_
        refine ev_iconst (v := (1 : Int32)) dL_law_1571 kI_1 ?_
        refine ev_iadd dL_law_1572 ?_
        refine ev_ti (n := X.1) (f := X.2) dL_law_1573 (fun G e => by rw [← e]; rfl) (am_in_vp g249) ?_
        obtain ⟨q251, eq251, h⟩ := am_bd h
        refine px_callvi [.int (X.2 (l3 + (1 : Int32)).toNatClampNeg)] (by decide) cl_7 (at7 rfl) dL_law_1574 ok_X7_count lk_RL_185 in_X7_count se_X7_count (by decide) rfl (c_X7_count eq251) rfl (Nat.le_of_ble_eq_true rfl) ?_
        refine ev_icmp_eq 1582 dL_law_1577 (by decide) (fun c252 => ?_) (fun c252 => ?_)
        · have h := am_t c252 h
          refine ev_loc [0, 1, 2, 3] rfl ?_
          exact l_L_law_1582 X (g_L_law_18 X n) (fun u l3 r h => ih u l3 r h) q251.1 l3 _ h
        · have h := am_e c252 h
          refine ev_iconst (v := (0 : Int32)) dL_law_1580 kI_0 ?_
          obtain rfl := Option.some.inj h
          exact ev_iret dL_law_1581 rfl (am_zn (Or.inl rfl))
      have nc3 := lv_neT (a := 0) c3 (by decide)
      have nc8 := lv_neT (a := 1) c8 (by decide)
      have nc14 := lv_neT (a := 2) c14 (by decide)
      have nc20 := lv_neT (a := 3) c20 (by decide)
      have nc26 := lv_neT (a := 4) c26 (by decide)
      have nc32 := lv_neT (a := 5) c32 (by decide)
      have nc38 := lv_neT (a := 6) c38 (by decide)
      have nc45 := lv_neT (a := 7) c45 (by decide)
      have nc50 := lv_neT (a := 8) c50 (by decide)
      have nc55 := lv_neT (a := 9) c55 (by decide)
      have nc62 := lv_neT (a := 10) c62 (by decide)
      have nc68 := lv_neT (a := 11) c68 (by decide)
      have nc74 := lv_neT (a := 12) c74 (by decide)
      have nc79 := lv_neT (a := 13) c79 (by decide)
      have nc85 := lv_neT (a := 14) c85 (by decide)
      have nc91 := lv_neT (a := 15) c91 (by decide)
      have nc96 := lv_neT (a := 16) c96 (by decide)
      have nc103 := lv_neT (a := 17) c103 (by decide)
      have nc109 := lv_neT (a := 18) c109 (by decide)
      have nc115 := lv_neT (a := 19) c115 (by decide)
      have nc121 := lv_neT (a := 20) c121 (by decide)
      have nc128 := lv_neT (a := 21) c128 (by decide)
      have nc135 := lv_neT (a := 22) c135 (by decide)
      have nc142 := lv_neT (a := 23) c142 (by decide)
      have nc149 := lv_neT (a := 24) c149 (by decide)
      have nc154 := lv_neT (a := 25) c154 (by decide)
      have nc158 := lv_neT (a := 26) c158 (by decide)
      have nc164 := lv_neT (a := 27) c164 (by decide)
      have nc169 := lv_neT (a := 28) c169 (by decide)
      have nc176 := lv_neT (a := 29) c176 (by decide)
      have nc183 := lv_neT (a := 30) c183 (by decide)
      have nc189 := lv_neT (a := 31) c189 (by decide)
      have nc195 := lv_neT (a := 32) c195 (by decide)
      have nc204 := lv_neT (a := 33) c204 (by decide)
      have nc211 := lv_neT (a := 34) c211 (by decide)
      have nc217 := lv_neT (a := 35) c217 (by decide)
      have nc223 := lv_neT (a := 36) c223 (by decide)
      have nc229 := lv_neT (a := 37) c229 (by decide)
      have nc234 := lv_neT (a := 38) c234 (by decide)
      have nc240 := lv_neT (a := 39) c240 (by decide)
      have nc244 := lv_neT (a := 40) c244 (by decide)
      have nc248 := lv_neT (a := 41) c248 (by decide)
      refine ev_tableOut 1582 dL_law_33 (by omega) (by decide) ?_
      refine ev_loc [0, 1, 2, 3] rfl ?_
      exact l_L_law_1582 X (g_L_law_18 X n) (fun u l3 r h => ih u l3 r h) u l3 _ h

