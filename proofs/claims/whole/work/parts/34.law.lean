def f_law_b1763 (L : Nat) (xs : Nat → Int32) (x3 : Int32) (kh : Int32 → MI → MJ → Prop) (I : MI) (J : MJ) : Prop :=
  ∀ t1763 : Int32, t1763 = x3 + 6 → kh t1763 I J
def f_law_b1750 (L : Nat) (xs : Nat → Int32) (x3 : Int32) (kh : Int32 → MI → MJ → Prop) (I : MI) (J : MJ) : Prop :=
  f_School_status I J (fun r1751 I1751 J1751 => f_Model_status I1751 J1751 (fun r1755 I1755 J1755 => (if r1751 = r1755 then f_law_b1763 L xs x3 kh I1755 J1755 else False)))
def f_law_b1727 (L : Nat) (xs : Nat → Int32) (x3 : Int32) (kh : Int32 → MI → MJ → Prop) (I : MI) (J : MJ) : Prop :=
  vp_in (x3 + 1) L ∧ f_School_raise (xs (x3 + 1).toNatClampNeg) I J (fun r1733 I1733 J1733 => vp_in (x3 + 1) L ∧ f_Model_raise (xs (x3 + 1).toNatClampNeg) I1733 J1733 (fun r1742 I1742 J1742 => (if r1733 = r1742 then f_law_b1763 L xs x3 kh I1742 J1742 else False)))
def f_law_b1694 (L : Nat) (xs : Nat → Int32) (x3 : Int32) (kh : Int32 → MI → MJ → Prop) (I : MI) (J : MJ) : Prop :=
  vp_in (x3 + 1) L ∧ vp_in (x3 + 2) L ∧ f_School_blame (xs (x3 + 1).toNatClampNeg) (xs (x3 + 2).toNatClampNeg) I J (fun r1705 I1705 J1705 => vp_in (x3 + 1) L ∧ vp_in (x3 + 2) L ∧ f_Model_blame (xs (x3 + 1).toNatClampNeg) (xs (x3 + 2).toNatClampNeg) I1705 J1705 (fun r1719 I1719 J1719 => (if r1705 = r1719 then f_law_b1763 L xs x3 kh I1719 J1719 else False)))
def f_law_b1671 (L : Nat) (xs : Nat → Int32) (x3 : Int32) (kh : Int32 → MI → MJ → Prop) (I : MI) (J : MJ) : Prop :=
  vp_in (x3 + 1) L ∧ f_School_fits (xs (x3 + 1).toNatClampNeg) I J (fun r1677 I1677 J1677 => vp_in (x3 + 1) L ∧ f_Model_fits (xs (x3 + 1).toNatClampNeg) I1677 J1677 (fun r1686 I1686 J1686 => (if r1677 = r1686 then f_law_b1763 L xs x3 kh I1686 J1686 else False)))
def f_law_b1648 (L : Nat) (xs : Nat → Int32) (x3 : Int32) (kh : Int32 → MI → MJ → Prop) (I : MI) (J : MJ) : Prop :=
  vp_in (x3 + 1) L ∧ f_School_fewest (xs (x3 + 1).toNatClampNeg) I J (fun r1654 I1654 J1654 => vp_in (x3 + 1) L ∧ f_Model_fewest (xs (x3 + 1).toNatClampNeg) I1654 J1654 (fun r1663 I1663 J1663 => (if r1654 = r1663 then f_law_b1763 L xs x3 kh I1663 J1663 else False)))
def f_law_b1635 (L : Nat) (xs : Nat → Int32) (x3 : Int32) (kh : Int32 → MI → MJ → Prop) (I : MI) (J : MJ) : Prop :=
  f_School_unknow I J (fun r1636 I1636 J1636 => f_Model_unknow I1636 J1636 (fun r1640 I1640 J1640 => (if r1636 = r1640 then f_law_b1763 L xs x3 kh I1640 J1640 else False)))
def f_law_b1572 (L : Nat) (xs : Nat → Int32) (x3 : Int32) (kh : Int32 → MI → MJ → Prop) (I : MI) (J : MJ) : Prop :=
  vp_in (x3 + 1) L ∧ vp_in (x3 + 2) L ∧ vp_in (x3 + 3) L ∧ f_School_know (xs (x3 + 1).toNatClampNeg) ((((xs (x3 + 2).toNatClampNeg).toInt64) <<< ((32 : Int32).toInt64 &&& 63)) ||| (((xs (x3 + 3).toNatClampNeg).toInt64) &&& 4294967295)) I J (fun r1598 I1598 J1598 => vp_in (x3 + 1) L ∧ vp_in (x3 + 2) L ∧ vp_in (x3 + 3) L ∧ f_Model_know (xs (x3 + 1).toNatClampNeg) ((((xs (x3 + 2).toNatClampNeg).toInt64) <<< ((32 : Int32).toInt64 &&& 63)) ||| (((xs (x3 + 3).toNatClampNeg).toInt64) &&& 4294967295)) I1598 J1598 (fun r1627 I1627 J1627 => (if r1598 = r1627 then f_law_b1763 L xs x3 kh I1627 J1627 else False)))
def f_law_b1559 (L : Nat) (xs : Nat → Int32) (x3 : Int32) (kh : Int32 → MI → MJ → Prop) (I : MI) (J : MJ) : Prop :=
  f_School_guesses I J (fun r1560 I1560 J1560 => f_Model_guesses I1560 J1560 (fun r1564 I1564 J1564 => (if r1560 = r1564 then f_law_b1763 L xs x3 kh I1564 J1564 else False)))
def f_law_b1545 (L : Nat) (xs : Nat → Int32) (x3 : Int32) (kh : Int32 → MI → MJ → Prop) (I : MI) (J : MJ) : Prop :=
  f_School_told I J (fun r1546 I1546 J1546 => f_Model_told I1546 J1546 (fun r1550 I1550 J1550 => (if r1546 = r1550 then f_law_b1763 L xs x3 kh I1550 J1550 else False)))
def f_law_b1502 (L : Nat) (xs : Nat → Int32) (x3 : Int32) (kh : Int32 → MI → MJ → Prop) (I : MI) (J : MJ) : Prop :=
  vp_in (x3 + 1) L ∧ vp_in (x3 + 2) L ∧ vp_in (x3 + 3) L ∧ f_School_cell (xs (x3 + 1).toNatClampNeg) (xs (x3 + 2).toNatClampNeg) (xs (x3 + 3).toNatClampNeg) I J (fun r1518 I1518 J1518 => vp_in (x3 + 1) L ∧ vp_in (x3 + 2) L ∧ vp_in (x3 + 3) L ∧ f_Model_cell (xs (x3 + 1).toNatClampNeg) (xs (x3 + 2).toNatClampNeg) (xs (x3 + 3).toNatClampNeg) I1518 J1518 (fun r1537 I1537 J1537 => (if r1518 = r1537 then f_law_b1763 L xs x3 kh I1537 J1537 else False)))
def f_law_b1478 (L : Nat) (xs : Nat → Int32) (x3 : Int32) (kh : Int32 → MI → MJ → Prop) (I : MI) (J : MJ) : Prop :=
  vp_in (x3 + 1) L ∧ f_School_behind (xs (x3 + 1).toNatClampNeg) I J (fun r1484 I1484 J1484 => vp_in (x3 + 1) L ∧ f_Model_behind (xs (x3 + 1).toNatClampNeg) I1484 J1484 (fun r1493 I1493 J1493 => (if r1484 = r1493 then f_law_b1763 L xs x3 kh I1493 J1493 else False)))
def f_law_b1454 (L : Nat) (xs : Nat → Int32) (x3 : Int32) (kh : Int32 → MI → MJ → Prop) (I : MI) (J : MJ) : Prop :=
  vp_in (x3 + 1) L ∧ f_School_ahead (xs (x3 + 1).toNatClampNeg) I J (fun r1460 I1460 J1460 => vp_in (x3 + 1) L ∧ f_Model_ahead (xs (x3 + 1).toNatClampNeg) I1460 J1460 (fun r1469 I1469 J1469 => (if r1460 = r1469 then f_law_b1763 L xs x3 kh I1469 J1469 else False)))
def f_law_b1431 (L : Nat) (xs : Nat → Int32) (x3 : Int32) (kh : Int32 → MI → MJ → Prop) (I : MI) (J : MJ) : Prop :=
  vp_in (x3 + 1) L ∧ f_School_guess (xs (x3 + 1).toNatClampNeg) I J (fun r1437 I1437 J1437 => vp_in (x3 + 1) L ∧ f_Model_guess (xs (x3 + 1).toNatClampNeg) I1437 J1437 (fun r1446 I1446 J1446 => (if r1437 = r1446 then f_law_b1763 L xs x3 kh I1446 J1446 else False)))
def f_law_b1378 (L : Nat) (xs : Nat → Int32) (x3 : Int32) (kh : Int32 → MI → MJ → Prop) (I : MI) (J : MJ) : Prop :=
  vp_in (x3 + 1) L ∧ vp_in (x3 + 2) L ∧ f_School_tell ((((xs (x3 + 1).toNatClampNeg).toInt64) <<< ((32 : Int32).toInt64 &&& 63)) ||| (((xs (x3 + 2).toNatClampNeg).toInt64) &&& 4294967295)) I J (fun r1399 I1399 J1399 => vp_in (x3 + 1) L ∧ vp_in (x3 + 2) L ∧ f_Model_tell ((((xs (x3 + 1).toNatClampNeg).toInt64) <<< ((32 : Int32).toInt64 &&& 63)) ||| (((xs (x3 + 2).toNatClampNeg).toInt64) &&& 4294967295)) I1399 J1399 (fun r1423 I1423 J1423 => (if r1399 = r1423 then f_law_b1763 L xs x3 kh I1423 J1423 else False)))
def f_law_b1365 (L : Nat) (xs : Nat → Int32) (x3 : Int32) (kh : Int32 → MI → MJ → Prop) (I : MI) (J : MJ) : Prop :=
  f_School_exam I J (fun r1366 I1366 J1366 => f_Model_exam I1366 J1366 (fun r1370 I1370 J1370 => (if r1366 = r1370 then f_law_b1763 L xs x3 kh I1370 J1370 else False)))
def f_law_b1342 (L : Nat) (xs : Nat → Int32) (x3 : Int32) (kh : Int32 → MI → MJ → Prop) (I : MI) (J : MJ) : Prop :=
  vp_in (x3 + 1) L ∧ f_School_learn (xs (x3 + 1).toNatClampNeg) I J (fun r1348 I1348 J1348 => vp_in (x3 + 1) L ∧ f_Model_learn (xs (x3 + 1).toNatClampNeg) I1348 J1348 (fun r1357 I1357 J1357 => (if r1348 = r1357 then f_law_b1763 L xs x3 kh I1357 J1357 else False)))
def f_law_b1279 (L : Nat) (xs : Nat → Int32) (x3 : Int32) (kh : Int32 → MI → MJ → Prop) (I : MI) (J : MJ) : Prop :=
  vp_in (x3 + 1) L ∧ vp_in (x3 + 2) L ∧ vp_in (x3 + 3) L ∧ f_School_forget (xs (x3 + 1).toNatClampNeg) ((((xs (x3 + 2).toNatClampNeg).toInt64) <<< ((32 : Int32).toInt64 &&& 63)) ||| (((xs (x3 + 3).toNatClampNeg).toInt64) &&& 4294967295)) I J (fun r1305 I1305 J1305 => vp_in (x3 + 1) L ∧ vp_in (x3 + 2) L ∧ vp_in (x3 + 3) L ∧ f_Model_forget (xs (x3 + 1).toNatClampNeg) ((((xs (x3 + 2).toNatClampNeg).toInt64) <<< ((32 : Int32).toInt64 &&& 63)) ||| (((xs (x3 + 3).toNatClampNeg).toInt64) &&& 4294967295)) I1305 J1305 (fun r1334 I1334 J1334 => (if r1305 = r1334 then f_law_b1763 L xs x3 kh I1334 J1334 else False)))
def f_law_b1226 (L : Nat) (xs : Nat → Int32) (x3 : Int32) (kh : Int32 → MI → MJ → Prop) (I : MI) (J : MJ) : Prop :=
  vp_in (x3 + 1) L ∧ vp_in (x3 + 2) L ∧ vp_in (x3 + 3) L ∧ vp_in (x3 + 4) L ∧ f_School_teacher (xs (x3 + 1).toNatClampNeg) (xs (x3 + 2).toNatClampNeg) (xs (x3 + 3).toNatClampNeg) (xs (x3 + 4).toNatClampNeg) I J (fun r1247 I1247 J1247 => vp_in (x3 + 1) L ∧ vp_in (x3 + 2) L ∧ vp_in (x3 + 3) L ∧ vp_in (x3 + 4) L ∧ f_Model_teacher (xs (x3 + 1).toNatClampNeg) (xs (x3 + 2).toNatClampNeg) (xs (x3 + 3).toNatClampNeg) (xs (x3 + 4).toNatClampNeg) I1247 J1247 (fun r1271 I1271 J1271 => (if r1247 = r1271 then f_law_b1763 L xs x3 kh I1271 J1271 else False)))
def f_law_b1182 (L : Nat) (xs : Nat → Int32) (x3 : Int32) (kh : Int32 → MI → MJ → Prop) (I : MI) (J : MJ) : Prop :=
  vp_in (x3 + 1) L ∧ vp_in (x3 + 2) L ∧ vp_in (x3 + 3) L ∧ f_School_passes (xs (x3 + 1).toNatClampNeg) (xs (x3 + 2).toNatClampNeg) (xs (x3 + 3).toNatClampNeg) I J (fun r1198 I1198 J1198 => vp_in (x3 + 1) L ∧ vp_in (x3 + 2) L ∧ vp_in (x3 + 3) L ∧ f_Model_passes (xs (x3 + 1).toNatClampNeg) (xs (x3 + 2).toNatClampNeg) (xs (x3 + 3).toNatClampNeg) I1198 J1198 (fun r1217 I1217 J1217 => (if r1198 = r1217 then f_law_b1763 L xs x3 kh I1217 J1217 else False)))
def f_law_b1149 (L : Nat) (xs : Nat → Int32) (x3 : Int32) (kh : Int32 → MI → MJ → Prop) (I : MI) (J : MJ) : Prop :=
  vp_in (x3 + 1) L ∧ vp_in (x3 + 2) L ∧ f_School_suite (xs (x3 + 1).toNatClampNeg) (xs (x3 + 2).toNatClampNeg) I J (fun r1160 I1160 J1160 => vp_in (x3 + 1) L ∧ vp_in (x3 + 2) L ∧ f_Model_suite (xs (x3 + 1).toNatClampNeg) (xs (x3 + 2).toNatClampNeg) I1160 J1160 (fun r1174 I1174 J1174 => (if r1160 = r1174 then f_law_b1763 L xs x3 kh I1174 J1174 else False)))
def f_law_b1096 (L : Nat) (xs : Nat → Int32) (x3 : Int32) (kh : Int32 → MI → MJ → Prop) (I : MI) (J : MJ) : Prop :=
  vp_in (x3 + 1) L ∧ vp_in (x3 + 2) L ∧ vp_in (x3 + 3) L ∧ vp_in (x3 + 4) L ∧ f_School_join (xs (x3 + 1).toNatClampNeg) (xs (x3 + 2).toNatClampNeg) (xs (x3 + 3).toNatClampNeg) (xs (x3 + 4).toNatClampNeg) I J (fun r1117 I1117 J1117 => vp_in (x3 + 1) L ∧ vp_in (x3 + 2) L ∧ vp_in (x3 + 3) L ∧ vp_in (x3 + 4) L ∧ f_Model_join (xs (x3 + 1).toNatClampNeg) (xs (x3 + 2).toNatClampNeg) (xs (x3 + 3).toNatClampNeg) (xs (x3 + 4).toNatClampNeg) I1117 J1117 (fun r1141 I1141 J1141 => (if r1117 = r1141 then f_law_b1763 L xs x3 kh I1141 J1141 else False)))
def f_law_b1063 (L : Nat) (xs : Nat → Int32) (x3 : Int32) (kh : Int32 → MI → MJ → Prop) (I : MI) (J : MJ) : Prop :=
  vp_in (x3 + 1) L ∧ vp_in (x3 + 2) L ∧ f_School_least (xs (x3 + 1).toNatClampNeg) (xs (x3 + 2).toNatClampNeg) I J (fun r1074 I1074 J1074 => vp_in (x3 + 1) L ∧ vp_in (x3 + 2) L ∧ f_Model_least (xs (x3 + 1).toNatClampNeg) (xs (x3 + 2).toNatClampNeg) I1074 J1074 (fun r1088 I1088 J1088 => (if r1074 = r1088 then f_law_b1763 L xs x3 kh I1088 J1088 else False)))
def f_law_b1029 (L : Nat) (xs : Nat → Int32) (x3 : Int32) (kh : Int32 → MI → MJ → Prop) (I : MI) (J : MJ) : Prop :=
  vp_in (x3 + 1) L ∧ vp_in (x3 + 2) L ∧ f_School_differ (xs (x3 + 1).toNatClampNeg) (xs (x3 + 2).toNatClampNeg) I J (fun r1040 I1040 J1040 => vp_in (x3 + 1) L ∧ vp_in (x3 + 2) L ∧ f_Model_differ (xs (x3 + 1).toNatClampNeg) (xs (x3 + 2).toNatClampNeg) I1040 J1040 (fun r1054 I1054 J1054 => (if r1040 = r1054 then f_law_b1763 L xs x3 kh I1054 J1054 else False)))
def f_law_b965 (L : Nat) (xs : Nat → Int32) (x3 : Int32) (kh : Int32 → MI → MJ → Prop) (I : MI) (J : MJ) : Prop :=
  vp_in (x3 + 1) L ∧ vp_in (x3 + 2) L ∧ vp_in (x3 + 3) L ∧ f_School_place (xs (x3 + 1).toNatClampNeg) ((((xs (x3 + 2).toNatClampNeg).toInt64) <<< ((32 : Int32).toInt64 &&& 63)) ||| (((xs (x3 + 3).toNatClampNeg).toInt64) &&& 4294967295)) I J (fun r991 I991 J991 => vp_in (x3 + 1) L ∧ vp_in (x3 + 2) L ∧ vp_in (x3 + 3) L ∧ f_Model_place (xs (x3 + 1).toNatClampNeg) ((((xs (x3 + 2).toNatClampNeg).toInt64) <<< ((32 : Int32).toInt64 &&& 63)) ||| (((xs (x3 + 3).toNatClampNeg).toInt64) &&& 4294967295)) I991 J991 (fun r1020 I1020 J1020 => (if r991 = r1020 then f_law_b1763 L xs x3 kh I1020 J1020 else False)))
def f_law_b891 (L : Nat) (xs : Nat → Int32) (x3 : Int32) (kh : Int32 → MI → MJ → Prop) (I : MI) (J : MJ) : Prop :=
  vp_in (x3 + 1) L ∧ vp_in (x3 + 2) L ∧ vp_in (x3 + 3) L ∧ vp_in (x3 + 4) L ∧ f_School_word (xs (x3 + 1).toNatClampNeg) (xs (x3 + 2).toNatClampNeg) ((((xs (x3 + 3).toNatClampNeg).toInt64) <<< ((32 : Int32).toInt64 &&& 63)) ||| (((xs (x3 + 4).toNatClampNeg).toInt64) &&& 4294967295)) I J (fun r922 I922 J922 => vp_in (x3 + 1) L ∧ vp_in (x3 + 2) L ∧ vp_in (x3 + 3) L ∧ vp_in (x3 + 4) L ∧ f_Model_word (xs (x3 + 1).toNatClampNeg) (xs (x3 + 2).toNatClampNeg) ((((xs (x3 + 3).toNatClampNeg).toInt64) <<< ((32 : Int32).toInt64 &&& 63)) ||| (((xs (x3 + 4).toNatClampNeg).toInt64) &&& 4294967295)) I922 J922 (fun r956 I956 J956 => (if r922 = r956 then f_law_b1763 L xs x3 kh I956 J956 else False)))
def f_law_b847 (L : Nat) (xs : Nat → Int32) (x3 : Int32) (kh : Int32 → MI → MJ → Prop) (I : MI) (J : MJ) : Prop :=
  vp_in (x3 + 1) L ∧ vp_in (x3 + 2) L ∧ vp_in (x3 + 3) L ∧ f_School_count (xs (x3 + 1).toNatClampNeg) (xs (x3 + 2).toNatClampNeg) (xs (x3 + 3).toNatClampNeg) I J (fun r863 I863 J863 => vp_in (x3 + 1) L ∧ vp_in (x3 + 2) L ∧ vp_in (x3 + 3) L ∧ f_Model_count (xs (x3 + 1).toNatClampNeg) (xs (x3 + 2).toNatClampNeg) (xs (x3 + 3).toNatClampNeg) I863 J863 (fun r882 I882 J882 => (if r863 = r882 then f_law_b1763 L xs x3 kh I882 J882 else False)))
def f_law_b784 (L : Nat) (xs : Nat → Int32) (x3 : Int32) (kh : Int32 → MI → MJ → Prop) (I : MI) (J : MJ) : Prop :=
  vp_in (x3 + 1) L ∧ vp_in (x3 + 2) L ∧ vp_in (x3 + 3) L ∧ f_School_answer (xs (x3 + 1).toNatClampNeg) ((((xs (x3 + 2).toNatClampNeg).toInt64) <<< ((32 : Int32).toInt64 &&& 63)) ||| (((xs (x3 + 3).toNatClampNeg).toInt64) &&& 4294967295)) I J (fun r810 I810 J810 => vp_in (x3 + 1) L ∧ vp_in (x3 + 2) L ∧ vp_in (x3 + 3) L ∧ f_Model_answer (xs (x3 + 1).toNatClampNeg) ((((xs (x3 + 2).toNatClampNeg).toInt64) <<< ((32 : Int32).toInt64 &&& 63)) ||| (((xs (x3 + 3).toNatClampNeg).toInt64) &&& 4294967295)) I810 J810 (fun r839 I839 J839 => (if r810 = r839 then f_law_b1763 L xs x3 kh I839 J839 else False)))
def f_law_b751 (L : Nat) (xs : Nat → Int32) (x3 : Int32) (kh : Int32 → MI → MJ → Prop) (I : MI) (J : MJ) : Prop :=
  vp_in (x3 + 1) L ∧ vp_in (x3 + 2) L ∧ f_School_says (xs (x3 + 1).toNatClampNeg) (xs (x3 + 2).toNatClampNeg) I J (fun r762 I762 J762 => vp_in (x3 + 1) L ∧ vp_in (x3 + 2) L ∧ f_Model_says (xs (x3 + 1).toNatClampNeg) (xs (x3 + 2).toNatClampNeg) I762 J762 (fun r776 I776 J776 => (if r762 = r776 then f_law_b1763 L xs x3 kh I776 J776 else False)))
def f_law_b708 (L : Nat) (xs : Nat → Int32) (x3 : Int32) (kh : Int32 → MI → MJ → Prop) (I : MI) (J : MJ) : Prop :=
  vp_in (x3 + 1) L ∧ vp_in (x3 + 2) L ∧ vp_in (x3 + 3) L ∧ f_School_what (xs (x3 + 1).toNatClampNeg) (xs (x3 + 2).toNatClampNeg) (xs (x3 + 3).toNatClampNeg) I J (fun r724 I724 J724 => vp_in (x3 + 1) L ∧ vp_in (x3 + 2) L ∧ vp_in (x3 + 3) L ∧ f_Model_what (xs (x3 + 1).toNatClampNeg) (xs (x3 + 2).toNatClampNeg) (xs (x3 + 3).toNatClampNeg) I724 J724 (fun r743 I743 J743 => (if r724 = r743 then f_law_b1763 L xs x3 kh I743 J743 else False)))
def f_law_b665 (L : Nat) (xs : Nat → Int32) (x3 : Int32) (kh : Int32 → MI → MJ → Prop) (I : MI) (J : MJ) : Prop :=
  vp_in (x3 + 1) L ∧ vp_in (x3 + 2) L ∧ vp_in (x3 + 3) L ∧ f_School_leads (xs (x3 + 1).toNatClampNeg) (xs (x3 + 2).toNatClampNeg) (xs (x3 + 3).toNatClampNeg) I J (fun r681 I681 J681 => vp_in (x3 + 1) L ∧ vp_in (x3 + 2) L ∧ vp_in (x3 + 3) L ∧ f_Model_leads (xs (x3 + 1).toNatClampNeg) (xs (x3 + 2).toNatClampNeg) (xs (x3 + 3).toNatClampNeg) I681 J681 (fun r700 I700 J700 => (if r681 = r700 then f_law_b1763 L xs x3 kh I700 J700 else False)))
def f_law_b632 (L : Nat) (xs : Nat → Int32) (x3 : Int32) (kh : Int32 → MI → MJ → Prop) (I : MI) (J : MJ) : Prop :=
  vp_in (x3 + 1) L ∧ vp_in (x3 + 2) L ∧ f_School_size (xs (x3 + 1).toNatClampNeg) (xs (x3 + 2).toNatClampNeg) I J (fun r643 I643 J643 => vp_in (x3 + 1) L ∧ vp_in (x3 + 2) L ∧ f_Model_size (xs (x3 + 1).toNatClampNeg) (xs (x3 + 2).toNatClampNeg) I643 J643 (fun r657 I657 J657 => (if r643 = r657 then f_law_b1763 L xs x3 kh I657 J657 else False)))
def f_law_b609 (L : Nat) (xs : Nat → Int32) (x3 : Int32) (kh : Int32 → MI → MJ → Prop) (I : MI) (J : MJ) : Prop :=
  vp_in (x3 + 1) L ∧ f_School_kind (xs (x3 + 1).toNatClampNeg) I J (fun r615 I615 J615 => vp_in (x3 + 1) L ∧ f_Model_kind (xs (x3 + 1).toNatClampNeg) I615 J615 (fun r624 I624 J624 => (if r615 = r624 then f_law_b1763 L xs x3 kh I624 J624 else False)))
def f_law_b586 (L : Nat) (xs : Nat → Int32) (x3 : Int32) (kh : Int32 → MI → MJ → Prop) (I : MI) (J : MJ) : Prop :=
  vp_in (x3 + 1) L ∧ f_School_lift (xs (x3 + 1).toNatClampNeg) I J (fun r592 I592 J592 => vp_in (x3 + 1) L ∧ f_Model_lift (xs (x3 + 1).toNatClampNeg) I592 J592 (fun r601 I601 J601 => (if r592 = r601 then f_law_b1763 L xs x3 kh I601 J601 else False)))
def f_law_b553 (L : Nat) (xs : Nat → Int32) (x3 : Int32) (kh : Int32 → MI → MJ → Prop) (I : MI) (J : MJ) : Prop :=
  vp_in (x3 + 1) L ∧ vp_in (x3 + 2) L ∧ f_School_draw (xs (x3 + 1).toNatClampNeg) (xs (x3 + 2).toNatClampNeg) I J (fun r564 I564 J564 => vp_in (x3 + 1) L ∧ vp_in (x3 + 2) L ∧ f_Model_draw (xs (x3 + 1).toNatClampNeg) (xs (x3 + 2).toNatClampNeg) I564 J564 (fun r578 I578 J578 => (if r564 = r578 then f_law_b1763 L xs x3 kh I578 J578 else False)))
def f_law_b490 (L : Nat) (xs : Nat → Int32) (x3 : Int32) (kh : Int32 → MI → MJ → Prop) (I : MI) (J : MJ) : Prop :=
  vp_in (x3 + 1) L ∧ vp_in (x3 + 2) L ∧ vp_in (x3 + 3) L ∧ vp_in (x3 + 4) L ∧ vp_in (x3 + 5) L ∧ f_School_copy (xs (x3 + 1).toNatClampNeg) (xs (x3 + 2).toNatClampNeg) (xs (x3 + 3).toNatClampNeg) (xs (x3 + 4).toNatClampNeg) (xs (x3 + 5).toNatClampNeg) I J (fun r516 I516 J516 => vp_in (x3 + 1) L ∧ vp_in (x3 + 2) L ∧ vp_in (x3 + 3) L ∧ vp_in (x3 + 4) L ∧ vp_in (x3 + 5) L ∧ f_Model_copy (xs (x3 + 1).toNatClampNeg) (xs (x3 + 2).toNatClampNeg) (xs (x3 + 3).toNatClampNeg) (xs (x3 + 4).toNatClampNeg) (xs (x3 + 5).toNatClampNeg) I516 J516 (fun r545 I545 J545 => (if r516 = r545 then f_law_b1763 L xs x3 kh I545 J545 else False)))
def f_law_b437 (L : Nat) (xs : Nat → Int32) (x3 : Int32) (kh : Int32 → MI → MJ → Prop) (I : MI) (J : MJ) : Prop :=
  vp_in (x3 + 1) L ∧ vp_in (x3 + 2) L ∧ vp_in (x3 + 3) L ∧ vp_in (x3 + 4) L ∧ f_School_act (xs (x3 + 1).toNatClampNeg) (xs (x3 + 2).toNatClampNeg) (xs (x3 + 3).toNatClampNeg) (xs (x3 + 4).toNatClampNeg) I J (fun r458 I458 J458 => vp_in (x3 + 1) L ∧ vp_in (x3 + 2) L ∧ vp_in (x3 + 3) L ∧ vp_in (x3 + 4) L ∧ f_Model_act (xs (x3 + 1).toNatClampNeg) (xs (x3 + 2).toNatClampNeg) (xs (x3 + 3).toNatClampNeg) (xs (x3 + 4).toNatClampNeg) I458 J458 (fun r482 I482 J482 => (if r458 = r482 then f_law_b1763 L xs x3 kh I482 J482 else False)))
def f_law_b394 (L : Nat) (xs : Nat → Int32) (x3 : Int32) (kh : Int32 → MI → MJ → Prop) (I : MI) (J : MJ) : Prop :=
  vp_in (x3 + 1) L ∧ vp_in (x3 + 2) L ∧ vp_in (x3 + 3) L ∧ f_School_say (xs (x3 + 1).toNatClampNeg) (xs (x3 + 2).toNatClampNeg) (xs (x3 + 3).toNatClampNeg) I J (fun r410 I410 J410 => vp_in (x3 + 1) L ∧ vp_in (x3 + 2) L ∧ vp_in (x3 + 3) L ∧ f_Model_say (xs (x3 + 1).toNatClampNeg) (xs (x3 + 2).toNatClampNeg) (xs (x3 + 3).toNatClampNeg) I410 J410 (fun r429 I429 J429 => (if r410 = r429 then f_law_b1763 L xs x3 kh I429 J429 else False)))
def f_law_b341 (L : Nat) (xs : Nat → Int32) (x3 : Int32) (kh : Int32 → MI → MJ → Prop) (I : MI) (J : MJ) : Prop :=
  vp_in (x3 + 1) L ∧ vp_in (x3 + 2) L ∧ vp_in (x3 + 3) L ∧ vp_in (x3 + 4) L ∧ f_School_take (xs (x3 + 1).toNatClampNeg) (xs (x3 + 2).toNatClampNeg) (xs (x3 + 3).toNatClampNeg) (xs (x3 + 4).toNatClampNeg) I J (fun r362 I362 J362 => vp_in (x3 + 1) L ∧ vp_in (x3 + 2) L ∧ vp_in (x3 + 3) L ∧ vp_in (x3 + 4) L ∧ f_Model_take (xs (x3 + 1).toNatClampNeg) (xs (x3 + 2).toNatClampNeg) (xs (x3 + 3).toNatClampNeg) (xs (x3 + 4).toNatClampNeg) I362 J362 (fun r386 I386 J386 => (if r362 = r386 then f_law_b1763 L xs x3 kh I386 J386 else False)))
def f_law_b308 (L : Nat) (xs : Nat → Int32) (x3 : Int32) (kh : Int32 → MI → MJ → Prop) (I : MI) (J : MJ) : Prop :=
  vp_in (x3 + 1) L ∧ vp_in (x3 + 2) L ∧ f_School_cut (xs (x3 + 1).toNatClampNeg) (xs (x3 + 2).toNatClampNeg) I J (fun r319 I319 J319 => vp_in (x3 + 1) L ∧ vp_in (x3 + 2) L ∧ f_Model_cut (xs (x3 + 1).toNatClampNeg) (xs (x3 + 2).toNatClampNeg) I319 J319 (fun r333 I333 J333 => (if r319 = r333 then f_law_b1763 L xs x3 kh I333 J333 else False)))
def f_law_b265 (L : Nat) (xs : Nat → Int32) (x3 : Int32) (kh : Int32 → MI → MJ → Prop) (I : MI) (J : MJ) : Prop :=
  vp_in (x3 + 1) L ∧ vp_in (x3 + 2) L ∧ vp_in (x3 + 3) L ∧ f_School_row (xs (x3 + 1).toNatClampNeg) (xs (x3 + 2).toNatClampNeg) (xs (x3 + 3).toNatClampNeg) I J (fun r281 I281 J281 => vp_in (x3 + 1) L ∧ vp_in (x3 + 2) L ∧ vp_in (x3 + 3) L ∧ f_Model_row (xs (x3 + 1).toNatClampNeg) (xs (x3 + 2).toNatClampNeg) (xs (x3 + 3).toNatClampNeg) I281 J281 (fun r300 I300 J300 => (if r281 = r300 then f_law_b1763 L xs x3 kh I300 J300 else False)))
def f_law_b212 (L : Nat) (xs : Nat → Int32) (x3 : Int32) (kh : Int32 → MI → MJ → Prop) (I : MI) (J : MJ) : Prop :=
  vp_in (x3 + 1) L ∧ vp_in (x3 + 2) L ∧ vp_in (x3 + 3) L ∧ vp_in (x3 + 4) L ∧ f_School_machine (xs (x3 + 1).toNatClampNeg) (xs (x3 + 2).toNatClampNeg) (xs (x3 + 3).toNatClampNeg) (xs (x3 + 4).toNatClampNeg) I J (fun r233 I233 J233 => vp_in (x3 + 1) L ∧ vp_in (x3 + 2) L ∧ vp_in (x3 + 3) L ∧ vp_in (x3 + 4) L ∧ f_Model_machine (xs (x3 + 1).toNatClampNeg) (xs (x3 + 2).toNatClampNeg) (xs (x3 + 3).toNatClampNeg) (xs (x3 + 4).toNatClampNeg) I233 J233 (fun r257 I257 J257 => (if r233 = r257 then f_law_b1763 L xs x3 kh I257 J257 else False)))
def f_law_L18 (L : Nat) (xs : Nat → Int32) : Nat → Int32 → MI → MJ → Prop
  | 0, _, _, _ => False
  | nf18 + 1, x3, I, J =>
  (if ((Int32.ofNat L) - 6) < x3 then True else vp_in x3 L ∧ (if ((xs x3.toNatClampNeg) &&& 63) = 0 then f_law_b212 L xs x3 (f_law_L18 L xs nf18) I J else (if ((xs x3.toNatClampNeg) &&& 63) = 1 then f_law_b265 L xs x3 (f_law_L18 L xs nf18) I J else (if ((xs x3.toNatClampNeg) &&& 63) = 2 then f_law_b308 L xs x3 (f_law_L18 L xs nf18) I J else (if ((xs x3.toNatClampNeg) &&& 63) = 3 then f_law_b341 L xs x3 (f_law_L18 L xs nf18) I J else (if ((xs x3.toNatClampNeg) &&& 63) = 4 then f_law_b394 L xs x3 (f_law_L18 L xs nf18) I J else (if ((xs x3.toNatClampNeg) &&& 63) = 5 then f_law_b437 L xs x3 (f_law_L18 L xs nf18) I J else (if ((xs x3.toNatClampNeg) &&& 63) = 6 then f_law_b490 L xs x3 (f_law_L18 L xs nf18) I J else (if ((xs x3.toNatClampNeg) &&& 63) = 7 then f_law_b553 L xs x3 (f_law_L18 L xs nf18) I J else (if ((xs x3.toNatClampNeg) &&& 63) = 8 then f_law_b586 L xs x3 (f_law_L18 L xs nf18) I J else (if ((xs x3.toNatClampNeg) &&& 63) = 9 then f_law_b609 L xs x3 (f_law_L18 L xs nf18) I J else (if ((xs x3.toNatClampNeg) &&& 63) = 10 then f_law_b632 L xs x3 (f_law_L18 L xs nf18) I J else (if ((xs x3.toNatClampNeg) &&& 63) = 11 then f_law_b665 L xs x3 (f_law_L18 L xs nf18) I J else (if ((xs x3.toNatClampNeg) &&& 63) = 12 then f_law_b708 L xs x3 (f_law_L18 L xs nf18) I J else (if ((xs x3.toNatClampNeg) &&& 63) = 13 then f_law_b751 L xs x3 (f_law_L18 L xs nf18) I J else (if ((xs x3.toNatClampNeg) &&& 63) = 14 then f_law_b784 L xs x3 (f_law_L18 L xs nf18) I J else (if ((xs x3.toNatClampNeg) &&& 63) = 15 then f_law_b847 L xs x3 (f_law_L18 L xs nf18) I J else (if ((xs x3.toNatClampNeg) &&& 63) = 16 then f_law_b891 L xs x3 (f_law_L18 L xs nf18) I J else (if ((xs x3.toNatClampNeg) &&& 63) = 17 then f_law_b965 L xs x3 (f_law_L18 L xs nf18) I J else (if ((xs x3.toNatClampNeg) &&& 63) = 18 then f_law_b1029 L xs x3 (f_law_L18 L xs nf18) I J else (if ((xs x3.toNatClampNeg) &&& 63) = 19 then f_law_b1063 L xs x3 (f_law_L18 L xs nf18) I J else (if ((xs x3.toNatClampNeg) &&& 63) = 20 then f_law_b1096 L xs x3 (f_law_L18 L xs nf18) I J else (if ((xs x3.toNatClampNeg) &&& 63) = 21 then f_law_b1149 L xs x3 (f_law_L18 L xs nf18) I J else (if ((xs x3.toNatClampNeg) &&& 63) = 22 then f_law_b1182 L xs x3 (f_law_L18 L xs nf18) I J else (if ((xs x3.toNatClampNeg) &&& 63) = 23 then f_law_b1226 L xs x3 (f_law_L18 L xs nf18) I J else (if ((xs x3.toNatClampNeg) &&& 63) = 24 then f_law_b1279 L xs x3 (f_law_L18 L xs nf18) I J else (if ((xs x3.toNatClampNeg) &&& 63) = 25 then f_law_b1342 L xs x3 (f_law_L18 L xs nf18) I J else (if ((xs x3.toNatClampNeg) &&& 63) = 26 then f_law_b1365 L xs x3 (f_law_L18 L xs nf18) I J else (if ((xs x3.toNatClampNeg) &&& 63) = 27 then f_law_b1378 L xs x3 (f_law_L18 L xs nf18) I J else (if ((xs x3.toNatClampNeg) &&& 63) = 28 then f_law_b1431 L xs x3 (f_law_L18 L xs nf18) I J else (if ((xs x3.toNatClampNeg) &&& 63) = 29 then f_law_b1454 L xs x3 (f_law_L18 L xs nf18) I J else (if ((xs x3.toNatClampNeg) &&& 63) = 30 then f_law_b1478 L xs x3 (f_law_L18 L xs nf18) I J else (if ((xs x3.toNatClampNeg) &&& 63) = 31 then f_law_b1502 L xs x3 (f_law_L18 L xs nf18) I J else (if ((xs x3.toNatClampNeg) &&& 63) = 32 then f_law_b1545 L xs x3 (f_law_L18 L xs nf18) I J else (if ((xs x3.toNatClampNeg) &&& 63) = 33 then f_law_b1559 L xs x3 (f_law_L18 L xs nf18) I J else (if ((xs x3.toNatClampNeg) &&& 63) = 34 then f_law_b1572 L xs x3 (f_law_L18 L xs nf18) I J else (if ((xs x3.toNatClampNeg) &&& 63) = 35 then f_law_b1635 L xs x3 (f_law_L18 L xs nf18) I J else (if ((xs x3.toNatClampNeg) &&& 63) = 36 then f_law_b1648 L xs x3 (f_law_L18 L xs nf18) I J else (if ((xs x3.toNatClampNeg) &&& 63) = 37 then f_law_b1671 L xs x3 (f_law_L18 L xs nf18) I J else (if ((xs x3.toNatClampNeg) &&& 63) = 38 then f_law_b1694 L xs x3 (f_law_L18 L xs nf18) I J else (if ((xs x3.toNatClampNeg) &&& 63) = 39 then f_law_b1727 L xs x3 (f_law_L18 L xs nf18) I J else (if ((xs x3.toNatClampNeg) &&& 63) = 40 then f_law_b1750 L xs x3 (f_law_L18 L xs nf18) I J else f_law_b1763 L xs x3 (f_law_L18 L xs nf18) I J))))))))))))))))))))))))))))))))))))))))))
def f_law (L : Nat) (xs : Nat → Int32) (I : MI) (J : MJ) : Prop :=
  ∃ n, f_law_L18 L xs n 0 I J
set_option maxRecDepth 100000 in
set_option maxHeartbeats 4000000 in
theorem w_law_b1763 {Γ : Ctx} {b L : Nat} {xs : Nat → Int32} {x3 : Int32} {kh : Int32 → MI → MJ → Prop} (X : Cx Γ code 4 RL 10) (Y : LY Γ b) (hX : SX Γ b L xs)  (hkh : ∀ (x3 : Int32) (I : MI) (J : MJ), kh x3 I J → Wp Γ 4 18 [(0, .ref b), (1, .ref (ad Γ 0)), (2, .ref (ad Γ 177)), (3, .int x3)] [] I J) {I : MI} {J : MJ} (h : f_law_b1763 L xs x3 kh I J) : Wp Γ 4 1763 [(0, .ref b), (1, .ref (ad Γ 0)), (2, .ref (ad Γ 177)), (3, .int x3)] [] I J := by
  unfold f_law_b1763 at h
  obtain ⟨t1763, et1763⟩ : ∃ y : Int32, y = x3 + 6 := ⟨_, rfl⟩
  have h := h t1763 et1763
  refine wp_iinc (L' := [(3, .int t1763), (0, .ref b), (1, .ref (ad Γ 0)), (2, .ref (ad Γ 177))]) X dL_law_1763 3 rfl (ii_6 et1763) (by decide) rfl ?_
  refine wp_goto (tgt := 18) X dL_law_1766 (by decide) ?_
  refine wp_sub X [1, 2, 3, 0] rfl ?_
  exact hkh _ _ _ h

set_option maxRecDepth 100000 in
set_option maxHeartbeats 4000000 in
theorem w_law_b1750 {Γ : Ctx} {b L : Nat} {xs : Nat → Int32} {x3 : Int32} {kh : Int32 → MI → MJ → Prop} (X : Cx Γ code 4 RL 10) (Y : LY Γ b) (hX : SX Γ b L xs)  (hkh : ∀ (x3 : Int32) (I : MI) (J : MJ), kh x3 I J → Wp Γ 4 18 [(0, .ref b), (1, .ref (ad Γ 0)), (2, .ref (ad Γ 177)), (3, .int x3)] [] I J) {I : MI} {J : MJ} (h : f_law_b1750 L xs x3 kh I J) : Wp Γ 4 1750 [(0, .ref b), (1, .ref (ad Γ 0)), (2, .ref (ad Γ 177)), (3, .int x3)] [] I J := by
  unfold f_law_b1750 at h
  refine wp_aload_n X dL_law_1750 1 rfl ?_
  refine cv_School_status X dL_law_1751 ml_L_189  h (Nat.le_of_ble_eq_true rfl) (by decide) (fun r1751 I1751 J1751 h => ?_)
  refine wp_aload_n X dL_law_1754 2 rfl ?_
  refine cv_Model_status X dL_law_1755 ml_L_192  h (Nat.le_of_ble_eq_true rfl) (by decide) (fun r1755 I1755 J1755 h => ?_)
  refine wp_icmp_eq (tgt := 1763) X dL_law_1758 (by decide) (fun hc => ?_) (fun hc => ?_)
  · have h := ite_t h hc
    exact w_law_b1763 X Y hX hkh h
  · have h := ite_f h hc
    refine wp_iconst X dL_law_1761 ic_0 ?_
    exact h.elim

set_option maxRecDepth 100000 in
set_option maxHeartbeats 4000000 in
theorem w_law_b1727 {Γ : Ctx} {b L : Nat} {xs : Nat → Int32} {x3 : Int32} {kh : Int32 → MI → MJ → Prop} (X : Cx Γ code 4 RL 10) (Y : LY Γ b) (hX : SX Γ b L xs)  (hkh : ∀ (x3 : Int32) (I : MI) (J : MJ), kh x3 I J → Wp Γ 4 18 [(0, .ref b), (1, .ref (ad Γ 0)), (2, .ref (ad Γ 177)), (3, .int x3)] [] I J) {I : MI} {J : MJ} (h : f_law_b1727 L xs x3 kh I J) : Wp Γ 4 1727 [(0, .ref b), (1, .ref (ad Γ 0)), (2, .ref (ad Γ 177)), (3, .int x3)] [] I J := by
  unfold f_law_b1727 at h
  refine wp_aload_n X dL_law_1727 1 rfl ?_
  refine wp_aload_n X dL_law_1728 0 rfl ?_
  refine wp_iload_n X dL_law_1729 3 rfl ?_
  refine wp_iconst X dL_law_1730 ic_1 ?_
  refine wp_iadd X dL_law_1731 ?_
  obtain ⟨hb1732, h⟩ := h
  refine wp_sld X hX hb1732 dL_law_1732 ?_
  refine cv_School_raise X dL_law_1733 ml_L_185  h (Nat.le_of_ble_eq_true rfl) (by decide) (fun r1733 I1733 J1733 h => ?_)
  refine wp_aload_n X dL_law_1736 2 rfl ?_
  refine wp_aload_n X dL_law_1737 0 rfl ?_
  refine wp_iload_n X dL_law_1738 3 rfl ?_
  refine wp_iconst X dL_law_1739 ic_1 ?_
  refine wp_iadd X dL_law_1740 ?_
  obtain ⟨hb1741, h⟩ := h
  refine wp_sld X hX hb1741 dL_law_1741 ?_
  refine cv_Model_raise X dL_law_1742 ml_L_188  h (Nat.le_of_ble_eq_true rfl) (by decide) (fun r1742 I1742 J1742 h => ?_)
  refine wp_icmp_eq (tgt := 1763) X dL_law_1745 (by decide) (fun hc => ?_) (fun hc => ?_)
  · have h := ite_t h hc
    exact w_law_b1763 X Y hX hkh h
  · have h := ite_f h hc
    refine wp_iconst X dL_law_1748 ic_0 ?_
    exact h.elim

set_option maxRecDepth 100000 in
set_option maxHeartbeats 4000000 in
theorem w_law_b1694 {Γ : Ctx} {b L : Nat} {xs : Nat → Int32} {x3 : Int32} {kh : Int32 → MI → MJ → Prop} (X : Cx Γ code 4 RL 10) (Y : LY Γ b) (hX : SX Γ b L xs)  (hkh : ∀ (x3 : Int32) (I : MI) (J : MJ), kh x3 I J → Wp Γ 4 18 [(0, .ref b), (1, .ref (ad Γ 0)), (2, .ref (ad Γ 177)), (3, .int x3)] [] I J) {I : MI} {J : MJ} (h : f_law_b1694 L xs x3 kh I J) : Wp Γ 4 1694 [(0, .ref b), (1, .ref (ad Γ 0)), (2, .ref (ad Γ 177)), (3, .int x3)] [] I J := by
  unfold f_law_b1694 at h
  refine wp_aload_n X dL_law_1694 1 rfl ?_
  refine wp_aload_n X dL_law_1695 0 rfl ?_
  refine wp_iload_n X dL_law_1696 3 rfl ?_
  refine wp_iconst X dL_law_1697 ic_1 ?_
  refine wp_iadd X dL_law_1698 ?_
  obtain ⟨hb1699, h⟩ := h
  refine wp_sld X hX hb1699 dL_law_1699 ?_
  refine wp_aload_n X dL_law_1700 0 rfl ?_
  refine wp_iload_n X dL_law_1701 3 rfl ?_
  refine wp_iconst X dL_law_1702 ic_2 ?_
  refine wp_iadd X dL_law_1703 ?_
  obtain ⟨hb1704, h⟩ := h
  refine wp_sld X hX hb1704 dL_law_1704 ?_
  refine cv_School_blame X dL_law_1705 ml_L_181  h (Nat.le_of_ble_eq_true rfl) (by decide) (fun r1705 I1705 J1705 h => ?_)
  refine wp_aload_n X dL_law_1708 2 rfl ?_
  refine wp_aload_n X dL_law_1709 0 rfl ?_
  refine wp_iload_n X dL_law_1710 3 rfl ?_
  refine wp_iconst X dL_law_1711 ic_1 ?_
  refine wp_iadd X dL_law_1712 ?_
  obtain ⟨hb1713, h⟩ := h
  refine wp_sld X hX hb1713 dL_law_1713 ?_
  refine wp_aload_n X dL_law_1714 0 rfl ?_
  refine wp_iload_n X dL_law_1715 3 rfl ?_
  refine wp_iconst X dL_law_1716 ic_2 ?_
  refine wp_iadd X dL_law_1717 ?_
  obtain ⟨hb1718, h⟩ := h
  refine wp_sld X hX hb1718 dL_law_1718 ?_
  refine cv_Model_blame X dL_law_1719 ml_L_184  h (Nat.le_of_ble_eq_true rfl) (by decide) (fun r1719 I1719 J1719 h => ?_)
  refine wp_icmp_eq (tgt := 1763) X dL_law_1722 (by decide) (fun hc => ?_) (fun hc => ?_)
  · have h := ite_t h hc
    exact w_law_b1763 X Y hX hkh h
  · have h := ite_f h hc
    refine wp_iconst X dL_law_1725 ic_0 ?_
    exact h.elim

set_option maxRecDepth 100000 in
set_option maxHeartbeats 4000000 in
theorem w_law_b1671 {Γ : Ctx} {b L : Nat} {xs : Nat → Int32} {x3 : Int32} {kh : Int32 → MI → MJ → Prop} (X : Cx Γ code 4 RL 10) (Y : LY Γ b) (hX : SX Γ b L xs)  (hkh : ∀ (x3 : Int32) (I : MI) (J : MJ), kh x3 I J → Wp Γ 4 18 [(0, .ref b), (1, .ref (ad Γ 0)), (2, .ref (ad Γ 177)), (3, .int x3)] [] I J) {I : MI} {J : MJ} (h : f_law_b1671 L xs x3 kh I J) : Wp Γ 4 1671 [(0, .ref b), (1, .ref (ad Γ 0)), (2, .ref (ad Γ 177)), (3, .int x3)] [] I J := by
  unfold f_law_b1671 at h
  refine wp_aload_n X dL_law_1671 1 rfl ?_
  refine wp_aload_n X dL_law_1672 0 rfl ?_
  refine wp_iload_n X dL_law_1673 3 rfl ?_
  refine wp_iconst X dL_law_1674 ic_1 ?_
  refine wp_iadd X dL_law_1675 ?_
  obtain ⟨hb1676, h⟩ := h
  refine wp_sld X hX hb1676 dL_law_1676 ?_
  refine cv_School_fits X dL_law_1677 ml_L_177  h (Nat.le_of_ble_eq_true rfl) (by decide) (fun r1677 I1677 J1677 h => ?_)
  refine wp_aload_n X dL_law_1680 2 rfl ?_
  refine wp_aload_n X dL_law_1681 0 rfl ?_
  refine wp_iload_n X dL_law_1682 3 rfl ?_
  refine wp_iconst X dL_law_1683 ic_1 ?_
  refine wp_iadd X dL_law_1684 ?_
  obtain ⟨hb1685, h⟩ := h
  refine wp_sld X hX hb1685 dL_law_1685 ?_
  refine cv_Model_fits X dL_law_1686 ml_L_180  h (Nat.le_of_ble_eq_true rfl) (by decide) (fun r1686 I1686 J1686 h => ?_)
  refine wp_icmp_eq (tgt := 1763) X dL_law_1689 (by decide) (fun hc => ?_) (fun hc => ?_)
  · have h := ite_t h hc
    exact w_law_b1763 X Y hX hkh h
  · have h := ite_f h hc
    refine wp_iconst X dL_law_1692 ic_0 ?_
    exact h.elim

set_option maxRecDepth 100000 in
set_option maxHeartbeats 4000000 in
theorem w_law_b1648 {Γ : Ctx} {b L : Nat} {xs : Nat → Int32} {x3 : Int32} {kh : Int32 → MI → MJ → Prop} (X : Cx Γ code 4 RL 10) (Y : LY Γ b) (hX : SX Γ b L xs)  (hkh : ∀ (x3 : Int32) (I : MI) (J : MJ), kh x3 I J → Wp Γ 4 18 [(0, .ref b), (1, .ref (ad Γ 0)), (2, .ref (ad Γ 177)), (3, .int x3)] [] I J) {I : MI} {J : MJ} (h : f_law_b1648 L xs x3 kh I J) : Wp Γ 4 1648 [(0, .ref b), (1, .ref (ad Γ 0)), (2, .ref (ad Γ 177)), (3, .int x3)] [] I J := by
  unfold f_law_b1648 at h
  refine wp_aload_n X dL_law_1648 1 rfl ?_
  refine wp_aload_n X dL_law_1649 0 rfl ?_
  refine wp_iload_n X dL_law_1650 3 rfl ?_
  refine wp_iconst X dL_law_1651 ic_1 ?_
  refine wp_iadd X dL_law_1652 ?_
  obtain ⟨hb1653, h⟩ := h
  refine wp_sld X hX hb1653 dL_law_1653 ?_
  refine cv_School_fewest X dL_law_1654 ml_L_173  h (Nat.le_of_ble_eq_true rfl) (by decide) (fun r1654 I1654 J1654 h => ?_)
  refine wp_aload_n X dL_law_1657 2 rfl ?_
  refine wp_aload_n X dL_law_1658 0 rfl ?_
  refine wp_iload_n X dL_law_1659 3 rfl ?_
  refine wp_iconst X dL_law_1660 ic_1 ?_
  refine wp_iadd X dL_law_1661 ?_
  obtain ⟨hb1662, h⟩ := h
  refine wp_sld X hX hb1662 dL_law_1662 ?_
  refine cv_Model_fewest X dL_law_1663 ml_L_176  h (Nat.le_of_ble_eq_true rfl) (by decide) (fun r1663 I1663 J1663 h => ?_)
  refine wp_icmp_eq (tgt := 1763) X dL_law_1666 (by decide) (fun hc => ?_) (fun hc => ?_)
  · have h := ite_t h hc
    exact w_law_b1763 X Y hX hkh h
  · have h := ite_f h hc
    refine wp_iconst X dL_law_1669 ic_0 ?_
    exact h.elim

set_option maxRecDepth 100000 in
set_option maxHeartbeats 4000000 in
theorem w_law_b1635 {Γ : Ctx} {b L : Nat} {xs : Nat → Int32} {x3 : Int32} {kh : Int32 → MI → MJ → Prop} (X : Cx Γ code 4 RL 10) (Y : LY Γ b) (hX : SX Γ b L xs)  (hkh : ∀ (x3 : Int32) (I : MI) (J : MJ), kh x3 I J → Wp Γ 4 18 [(0, .ref b), (1, .ref (ad Γ 0)), (2, .ref (ad Γ 177)), (3, .int x3)] [] I J) {I : MI} {J : MJ} (h : f_law_b1635 L xs x3 kh I J) : Wp Γ 4 1635 [(0, .ref b), (1, .ref (ad Γ 0)), (2, .ref (ad Γ 177)), (3, .int x3)] [] I J := by
  unfold f_law_b1635 at h
  refine wp_aload_n X dL_law_1635 1 rfl ?_
  refine cv_School_unknow X dL_law_1636 ml_L_169  h (Nat.le_of_ble_eq_true rfl) (by decide) (fun r1636 I1636 J1636 h => ?_)
  refine wp_aload_n X dL_law_1639 2 rfl ?_
  refine cv_Model_unknow X dL_law_1640 ml_L_172  h (Nat.le_of_ble_eq_true rfl) (by decide) (fun r1640 I1640 J1640 h => ?_)
  refine wp_icmp_eq (tgt := 1763) X dL_law_1643 (by decide) (fun hc => ?_) (fun hc => ?_)
  · have h := ite_t h hc
    exact w_law_b1763 X Y hX hkh h
  · have h := ite_f h hc
    refine wp_iconst X dL_law_1646 ic_0 ?_
    exact h.elim

set_option maxRecDepth 100000 in
set_option maxHeartbeats 4000000 in
theorem w_law_b1572 {Γ : Ctx} {b L : Nat} {xs : Nat → Int32} {x3 : Int32} {kh : Int32 → MI → MJ → Prop} (X : Cx Γ code 4 RL 10) (Y : LY Γ b) (hX : SX Γ b L xs)  (hkh : ∀ (x3 : Int32) (I : MI) (J : MJ), kh x3 I J → Wp Γ 4 18 [(0, .ref b), (1, .ref (ad Γ 0)), (2, .ref (ad Γ 177)), (3, .int x3)] [] I J) {I : MI} {J : MJ} (h : f_law_b1572 L xs x3 kh I J) : Wp Γ 4 1572 [(0, .ref b), (1, .ref (ad Γ 0)), (2, .ref (ad Γ 177)), (3, .int x3)] [] I J := by
  unfold f_law_b1572 at h
  refine wp_aload_n X dL_law_1572 1 rfl ?_
  refine wp_aload_n X dL_law_1573 0 rfl ?_
  refine wp_iload_n X dL_law_1574 3 rfl ?_
  refine wp_iconst X dL_law_1575 ic_1 ?_
  refine wp_iadd X dL_law_1576 ?_
  obtain ⟨hb1577, h⟩ := h
  refine wp_sld X hX hb1577 dL_law_1577 ?_
  refine wp_aload_n X dL_law_1578 0 rfl ?_
  refine wp_iload_n X dL_law_1579 3 rfl ?_
  refine wp_iconst X dL_law_1580 ic_2 ?_
  refine wp_iadd X dL_law_1581 ?_
  obtain ⟨hb1582, h⟩ := h
  refine wp_sld X hX hb1582 dL_law_1582 ?_
  refine wp_i2l X dL_law_1583 ?_
  refine wp_bipush X dL_law_1584 bi_32 ?_
  refine wp_lshl X dL_law_1586 ?_
  refine wp_aload_n X dL_law_1587 0 rfl ?_
  refine wp_iload_n X dL_law_1588 3 rfl ?_
  refine wp_iconst X dL_law_1589 ic_3 ?_
  refine wp_iadd X dL_law_1590 ?_
  obtain ⟨hb1591, h⟩ := h
  refine wp_sld X hX hb1591 dL_law_1591 ?_
  refine wp_i2l X dL_law_1592 ?_
  refine wp_ldc2 X kl_L_74 dL_law_1593 ?_
  refine wp_land X dL_law_1596 ?_
  refine wp_lor X dL_law_1597 ?_
  refine cv_School_know X dL_law_1598 ml_L_165  h (Nat.le_of_ble_eq_true rfl) (by decide) (fun r1598 I1598 J1598 h => ?_)
  refine wp_aload_n X dL_law_1601 2 rfl ?_
  refine wp_aload_n X dL_law_1602 0 rfl ?_
  refine wp_iload_n X dL_law_1603 3 rfl ?_
  refine wp_iconst X dL_law_1604 ic_1 ?_
  refine wp_iadd X dL_law_1605 ?_
  obtain ⟨hb1606, h⟩ := h
  refine wp_sld X hX hb1606 dL_law_1606 ?_
  refine wp_aload_n X dL_law_1607 0 rfl ?_
  refine wp_iload_n X dL_law_1608 3 rfl ?_
  refine wp_iconst X dL_law_1609 ic_2 ?_
  refine wp_iadd X dL_law_1610 ?_
  obtain ⟨hb1611, h⟩ := h
  refine wp_sld X hX hb1611 dL_law_1611 ?_
  refine wp_i2l X dL_law_1612 ?_
  refine wp_bipush X dL_law_1613 bi_32 ?_
  refine wp_lshl X dL_law_1615 ?_
  refine wp_aload_n X dL_law_1616 0 rfl ?_
  refine wp_iload_n X dL_law_1617 3 rfl ?_
  refine wp_iconst X dL_law_1618 ic_3 ?_
  refine wp_iadd X dL_law_1619 ?_
  obtain ⟨hb1620, h⟩ := h
  refine wp_sld X hX hb1620 dL_law_1620 ?_
  refine wp_i2l X dL_law_1621 ?_
  refine wp_ldc2 X kl_L_74 dL_law_1622 ?_
  refine wp_land X dL_law_1625 ?_
  refine wp_lor X dL_law_1626 ?_
  refine cv_Model_know X dL_law_1627 ml_L_168  h (Nat.le_of_ble_eq_true rfl) (by decide) (fun r1627 I1627 J1627 h => ?_)
  refine wp_icmp_eq (tgt := 1763) X dL_law_1630 (by decide) (fun hc => ?_) (fun hc => ?_)
  · have h := ite_t h hc
    exact w_law_b1763 X Y hX hkh h
  · have h := ite_f h hc
    refine wp_iconst X dL_law_1633 ic_0 ?_
    exact h.elim

set_option maxRecDepth 100000 in
set_option maxHeartbeats 4000000 in
theorem w_law_b1559 {Γ : Ctx} {b L : Nat} {xs : Nat → Int32} {x3 : Int32} {kh : Int32 → MI → MJ → Prop} (X : Cx Γ code 4 RL 10) (Y : LY Γ b) (hX : SX Γ b L xs)  (hkh : ∀ (x3 : Int32) (I : MI) (J : MJ), kh x3 I J → Wp Γ 4 18 [(0, .ref b), (1, .ref (ad Γ 0)), (2, .ref (ad Γ 177)), (3, .int x3)] [] I J) {I : MI} {J : MJ} (h : f_law_b1559 L xs x3 kh I J) : Wp Γ 4 1559 [(0, .ref b), (1, .ref (ad Γ 0)), (2, .ref (ad Γ 177)), (3, .int x3)] [] I J := by
  unfold f_law_b1559 at h
  refine wp_aload_n X dL_law_1559 1 rfl ?_
  refine cv_School_guesses X dL_law_1560 ml_L_161  h (Nat.le_of_ble_eq_true rfl) (by decide) (fun r1560 I1560 J1560 h => ?_)
  refine wp_aload_n X dL_law_1563 2 rfl ?_
  refine cv_Model_guesses X dL_law_1564 ml_L_164  h (Nat.le_of_ble_eq_true rfl) (by decide) (fun r1564 I1564 J1564 h => ?_)
  refine wp_icmp_eq (tgt := 1763) X dL_law_1567 (by decide) (fun hc => ?_) (fun hc => ?_)
  · have h := ite_t h hc
    exact w_law_b1763 X Y hX hkh h
  · have h := ite_f h hc
    refine wp_iconst X dL_law_1570 ic_0 ?_
    exact h.elim

set_option maxRecDepth 100000 in
set_option maxHeartbeats 4000000 in
theorem w_law_b1545 {Γ : Ctx} {b L : Nat} {xs : Nat → Int32} {x3 : Int32} {kh : Int32 → MI → MJ → Prop} (X : Cx Γ code 4 RL 10) (Y : LY Γ b) (hX : SX Γ b L xs)  (hkh : ∀ (x3 : Int32) (I : MI) (J : MJ), kh x3 I J → Wp Γ 4 18 [(0, .ref b), (1, .ref (ad Γ 0)), (2, .ref (ad Γ 177)), (3, .int x3)] [] I J) {I : MI} {J : MJ} (h : f_law_b1545 L xs x3 kh I J) : Wp Γ 4 1545 [(0, .ref b), (1, .ref (ad Γ 0)), (2, .ref (ad Γ 177)), (3, .int x3)] [] I J := by
  unfold f_law_b1545 at h
  refine wp_aload_n X dL_law_1545 1 rfl ?_
  refine cv_School_told X dL_law_1546 ml_L_156  h (Nat.le_of_ble_eq_true rfl) (by decide) (fun r1546 I1546 J1546 h => ?_)
  refine wp_aload_n X dL_law_1549 2 rfl ?_
  refine cv_Model_told X dL_law_1550 ml_L_160  h (Nat.le_of_ble_eq_true rfl) (by decide) (fun r1550 I1550 J1550 h => ?_)
  refine wp_lcmp_eq (tgt := 1763) X dL_law_1553 dL_law_1554 (by decide) (fun hc => ?_) (fun hc => ?_)
  · have h := ite_t h hc
    exact w_law_b1763 X Y hX hkh h
  · have h := ite_f h hc
    refine wp_iconst X dL_law_1557 ic_0 ?_
    exact h.elim

set_option maxRecDepth 100000 in
set_option maxHeartbeats 4000000 in
theorem w_law_b1502 {Γ : Ctx} {b L : Nat} {xs : Nat → Int32} {x3 : Int32} {kh : Int32 → MI → MJ → Prop} (X : Cx Γ code 4 RL 10) (Y : LY Γ b) (hX : SX Γ b L xs)  (hkh : ∀ (x3 : Int32) (I : MI) (J : MJ), kh x3 I J → Wp Γ 4 18 [(0, .ref b), (1, .ref (ad Γ 0)), (2, .ref (ad Γ 177)), (3, .int x3)] [] I J) {I : MI} {J : MJ} (h : f_law_b1502 L xs x3 kh I J) : Wp Γ 4 1502 [(0, .ref b), (1, .ref (ad Γ 0)), (2, .ref (ad Γ 177)), (3, .int x3)] [] I J := by
  unfold f_law_b1502 at h
  refine wp_aload_n X dL_law_1502 1 rfl ?_
  refine wp_aload_n X dL_law_1503 0 rfl ?_
  refine wp_iload_n X dL_law_1504 3 rfl ?_
  refine wp_iconst X dL_law_1505 ic_1 ?_
  refine wp_iadd X dL_law_1506 ?_
  obtain ⟨hb1507, h⟩ := h
  refine wp_sld X hX hb1507 dL_law_1507 ?_
  refine wp_aload_n X dL_law_1508 0 rfl ?_
  refine wp_iload_n X dL_law_1509 3 rfl ?_
  refine wp_iconst X dL_law_1510 ic_2 ?_
  refine wp_iadd X dL_law_1511 ?_
  obtain ⟨hb1512, h⟩ := h
  refine wp_sld X hX hb1512 dL_law_1512 ?_
  refine wp_aload_n X dL_law_1513 0 rfl ?_
  refine wp_iload_n X dL_law_1514 3 rfl ?_
  refine wp_iconst X dL_law_1515 ic_3 ?_
  refine wp_iadd X dL_law_1516 ?_
  obtain ⟨hb1517, h⟩ := h
  refine wp_sld X hX hb1517 dL_law_1517 ?_
  refine cv_School_cell X dL_law_1518 ml_L_152  h (Nat.le_of_ble_eq_true rfl) (by decide) (fun r1518 I1518 J1518 h => ?_)
  refine wp_aload_n X dL_law_1521 2 rfl ?_
  refine wp_aload_n X dL_law_1522 0 rfl ?_
  refine wp_iload_n X dL_law_1523 3 rfl ?_
  refine wp_iconst X dL_law_1524 ic_1 ?_
  refine wp_iadd X dL_law_1525 ?_
  obtain ⟨hb1526, h⟩ := h
  refine wp_sld X hX hb1526 dL_law_1526 ?_
  refine wp_aload_n X dL_law_1527 0 rfl ?_
  refine wp_iload_n X dL_law_1528 3 rfl ?_
  refine wp_iconst X dL_law_1529 ic_2 ?_
  refine wp_iadd X dL_law_1530 ?_
  obtain ⟨hb1531, h⟩ := h
  refine wp_sld X hX hb1531 dL_law_1531 ?_
  refine wp_aload_n X dL_law_1532 0 rfl ?_
  refine wp_iload_n X dL_law_1533 3 rfl ?_
  refine wp_iconst X dL_law_1534 ic_3 ?_
  refine wp_iadd X dL_law_1535 ?_
  obtain ⟨hb1536, h⟩ := h
  refine wp_sld X hX hb1536 dL_law_1536 ?_
  refine cv_Model_cell X dL_law_1537 ml_L_155  h (Nat.le_of_ble_eq_true rfl) (by decide) (fun r1537 I1537 J1537 h => ?_)
  refine wp_icmp_eq (tgt := 1763) X dL_law_1540 (by decide) (fun hc => ?_) (fun hc => ?_)
  · have h := ite_t h hc
    exact w_law_b1763 X Y hX hkh h
  · have h := ite_f h hc
    refine wp_iconst X dL_law_1543 ic_0 ?_
    exact h.elim

set_option maxRecDepth 100000 in
set_option maxHeartbeats 4000000 in
theorem w_law_b1478 {Γ : Ctx} {b L : Nat} {xs : Nat → Int32} {x3 : Int32} {kh : Int32 → MI → MJ → Prop} (X : Cx Γ code 4 RL 10) (Y : LY Γ b) (hX : SX Γ b L xs)  (hkh : ∀ (x3 : Int32) (I : MI) (J : MJ), kh x3 I J → Wp Γ 4 18 [(0, .ref b), (1, .ref (ad Γ 0)), (2, .ref (ad Γ 177)), (3, .int x3)] [] I J) {I : MI} {J : MJ} (h : f_law_b1478 L xs x3 kh I J) : Wp Γ 4 1478 [(0, .ref b), (1, .ref (ad Γ 0)), (2, .ref (ad Γ 177)), (3, .int x3)] [] I J := by
  unfold f_law_b1478 at h
  refine wp_aload_n X dL_law_1478 1 rfl ?_
  refine wp_aload_n X dL_law_1479 0 rfl ?_
  refine wp_iload_n X dL_law_1480 3 rfl ?_
  refine wp_iconst X dL_law_1481 ic_1 ?_
  refine wp_iadd X dL_law_1482 ?_
  obtain ⟨hb1483, h⟩ := h
  refine wp_sld X hX hb1483 dL_law_1483 ?_
  refine cv_School_behind X dL_law_1484 ml_L_148  h (Nat.le_of_ble_eq_true rfl) (by decide) (fun r1484 I1484 J1484 h => ?_)
  refine wp_aload_n X dL_law_1487 2 rfl ?_
  refine wp_aload_n X dL_law_1488 0 rfl ?_
  refine wp_iload_n X dL_law_1489 3 rfl ?_
  refine wp_iconst X dL_law_1490 ic_1 ?_
  refine wp_iadd X dL_law_1491 ?_
  obtain ⟨hb1492, h⟩ := h
  refine wp_sld X hX hb1492 dL_law_1492 ?_
  refine cv_Model_behind X dL_law_1493 ml_L_151  h (Nat.le_of_ble_eq_true rfl) (by decide) (fun r1493 I1493 J1493 h => ?_)
  refine wp_lcmp_eq (tgt := 1763) X dL_law_1496 dL_law_1497 (by decide) (fun hc => ?_) (fun hc => ?_)
  · have h := ite_t h hc
    exact w_law_b1763 X Y hX hkh h
  · have h := ite_f h hc
    refine wp_iconst X dL_law_1500 ic_0 ?_
    exact h.elim

set_option maxRecDepth 100000 in
set_option maxHeartbeats 4000000 in
theorem w_law_b1454 {Γ : Ctx} {b L : Nat} {xs : Nat → Int32} {x3 : Int32} {kh : Int32 → MI → MJ → Prop} (X : Cx Γ code 4 RL 10) (Y : LY Γ b) (hX : SX Γ b L xs)  (hkh : ∀ (x3 : Int32) (I : MI) (J : MJ), kh x3 I J → Wp Γ 4 18 [(0, .ref b), (1, .ref (ad Γ 0)), (2, .ref (ad Γ 177)), (3, .int x3)] [] I J) {I : MI} {J : MJ} (h : f_law_b1454 L xs x3 kh I J) : Wp Γ 4 1454 [(0, .ref b), (1, .ref (ad Γ 0)), (2, .ref (ad Γ 177)), (3, .int x3)] [] I J := by
  unfold f_law_b1454 at h
  refine wp_aload_n X dL_law_1454 1 rfl ?_
  refine wp_aload_n X dL_law_1455 0 rfl ?_
  refine wp_iload_n X dL_law_1456 3 rfl ?_
  refine wp_iconst X dL_law_1457 ic_1 ?_
  refine wp_iadd X dL_law_1458 ?_
  obtain ⟨hb1459, h⟩ := h
  refine wp_sld X hX hb1459 dL_law_1459 ?_
  refine cv_School_ahead X dL_law_1460 ml_L_143  h (Nat.le_of_ble_eq_true rfl) (by decide) (fun r1460 I1460 J1460 h => ?_)
  refine wp_aload_n X dL_law_1463 2 rfl ?_
  refine wp_aload_n X dL_law_1464 0 rfl ?_
  refine wp_iload_n X dL_law_1465 3 rfl ?_
  refine wp_iconst X dL_law_1466 ic_1 ?_
  refine wp_iadd X dL_law_1467 ?_
  obtain ⟨hb1468, h⟩ := h
  refine wp_sld X hX hb1468 dL_law_1468 ?_
  refine cv_Model_ahead X dL_law_1469 ml_L_147  h (Nat.le_of_ble_eq_true rfl) (by decide) (fun r1469 I1469 J1469 h => ?_)
  refine wp_lcmp_eq (tgt := 1763) X dL_law_1472 dL_law_1473 (by decide) (fun hc => ?_) (fun hc => ?_)
  · have h := ite_t h hc
    exact w_law_b1763 X Y hX hkh h
  · have h := ite_f h hc
    refine wp_iconst X dL_law_1476 ic_0 ?_
    exact h.elim

set_option maxRecDepth 100000 in
set_option maxHeartbeats 4000000 in
theorem w_law_b1431 {Γ : Ctx} {b L : Nat} {xs : Nat → Int32} {x3 : Int32} {kh : Int32 → MI → MJ → Prop} (X : Cx Γ code 4 RL 10) (Y : LY Γ b) (hX : SX Γ b L xs)  (hkh : ∀ (x3 : Int32) (I : MI) (J : MJ), kh x3 I J → Wp Γ 4 18 [(0, .ref b), (1, .ref (ad Γ 0)), (2, .ref (ad Γ 177)), (3, .int x3)] [] I J) {I : MI} {J : MJ} (h : f_law_b1431 L xs x3 kh I J) : Wp Γ 4 1431 [(0, .ref b), (1, .ref (ad Γ 0)), (2, .ref (ad Γ 177)), (3, .int x3)] [] I J := by
  unfold f_law_b1431 at h
  refine wp_aload_n X dL_law_1431 1 rfl ?_
  refine wp_aload_n X dL_law_1432 0 rfl ?_
  refine wp_iload_n X dL_law_1433 3 rfl ?_
  refine wp_iconst X dL_law_1434 ic_1 ?_
  refine wp_iadd X dL_law_1435 ?_
  obtain ⟨hb1436, h⟩ := h
  refine wp_sld X hX hb1436 dL_law_1436 ?_
  refine cv_School_guess X dL_law_1437 ml_L_139  h (Nat.le_of_ble_eq_true rfl) (by decide) (fun r1437 I1437 J1437 h => ?_)
  refine wp_aload_n X dL_law_1440 2 rfl ?_
  refine wp_aload_n X dL_law_1441 0 rfl ?_
  refine wp_iload_n X dL_law_1442 3 rfl ?_
  refine wp_iconst X dL_law_1443 ic_1 ?_
  refine wp_iadd X dL_law_1444 ?_
  obtain ⟨hb1445, h⟩ := h
  refine wp_sld X hX hb1445 dL_law_1445 ?_
  refine cv_Model_guess X dL_law_1446 ml_L_142  h (Nat.le_of_ble_eq_true rfl) (by decide) (fun r1446 I1446 J1446 h => ?_)
  refine wp_icmp_eq (tgt := 1763) X dL_law_1449 (by decide) (fun hc => ?_) (fun hc => ?_)
  · have h := ite_t h hc
    exact w_law_b1763 X Y hX hkh h
  · have h := ite_f h hc
    refine wp_iconst X dL_law_1452 ic_0 ?_
    exact h.elim

set_option maxRecDepth 100000 in
set_option maxHeartbeats 4000000 in
theorem w_law_b1378 {Γ : Ctx} {b L : Nat} {xs : Nat → Int32} {x3 : Int32} {kh : Int32 → MI → MJ → Prop} (X : Cx Γ code 4 RL 10) (Y : LY Γ b) (hX : SX Γ b L xs)  (hkh : ∀ (x3 : Int32) (I : MI) (J : MJ), kh x3 I J → Wp Γ 4 18 [(0, .ref b), (1, .ref (ad Γ 0)), (2, .ref (ad Γ 177)), (3, .int x3)] [] I J) {I : MI} {J : MJ} (h : f_law_b1378 L xs x3 kh I J) : Wp Γ 4 1378 [(0, .ref b), (1, .ref (ad Γ 0)), (2, .ref (ad Γ 177)), (3, .int x3)] [] I J := by
  unfold f_law_b1378 at h
  refine wp_aload_n X dL_law_1378 1 rfl ?_
  refine wp_aload_n X dL_law_1379 0 rfl ?_
  refine wp_iload_n X dL_law_1380 3 rfl ?_
  refine wp_iconst X dL_law_1381 ic_1 ?_
  refine wp_iadd X dL_law_1382 ?_
  obtain ⟨hb1383, h⟩ := h
  refine wp_sld X hX hb1383 dL_law_1383 ?_
  refine wp_i2l X dL_law_1384 ?_
  refine wp_bipush X dL_law_1385 bi_32 ?_
  refine wp_lshl X dL_law_1387 ?_
  refine wp_aload_n X dL_law_1388 0 rfl ?_
  refine wp_iload_n X dL_law_1389 3 rfl ?_
  refine wp_iconst X dL_law_1390 ic_2 ?_
  refine wp_iadd X dL_law_1391 ?_
  obtain ⟨hb1392, h⟩ := h
  refine wp_sld X hX hb1392 dL_law_1392 ?_
  refine wp_i2l X dL_law_1393 ?_
  refine wp_ldc2 X kl_L_74 dL_law_1394 ?_
  refine wp_land X dL_law_1397 ?_
  refine wp_lor X dL_law_1398 ?_
  refine cv_School_tell X dL_law_1399 ml_L_134  h (Nat.le_of_ble_eq_true rfl) (by decide) (fun r1399 I1399 J1399 h => ?_)
  refine wp_aload_n X dL_law_1402 2 rfl ?_
  refine wp_aload_n X dL_law_1403 0 rfl ?_
  refine wp_iload_n X dL_law_1404 3 rfl ?_
  refine wp_iconst X dL_law_1405 ic_1 ?_
  refine wp_iadd X dL_law_1406 ?_
  obtain ⟨hb1407, h⟩ := h
  refine wp_sld X hX hb1407 dL_law_1407 ?_
  refine wp_i2l X dL_law_1408 ?_
  refine wp_bipush X dL_law_1409 bi_32 ?_
  refine wp_lshl X dL_law_1411 ?_
  refine wp_aload_n X dL_law_1412 0 rfl ?_
  refine wp_iload_n X dL_law_1413 3 rfl ?_
  refine wp_iconst X dL_law_1414 ic_2 ?_
  refine wp_iadd X dL_law_1415 ?_
  obtain ⟨hb1416, h⟩ := h
  refine wp_sld X hX hb1416 dL_law_1416 ?_
  refine wp_i2l X dL_law_1417 ?_
  refine wp_ldc2 X kl_L_74 dL_law_1418 ?_
  refine wp_land X dL_law_1421 ?_
  refine wp_lor X dL_law_1422 ?_
  refine cv_Model_tell X dL_law_1423 ml_L_138  h (Nat.le_of_ble_eq_true rfl) (by decide) (fun r1423 I1423 J1423 h => ?_)
  refine wp_icmp_eq (tgt := 1763) X dL_law_1426 (by decide) (fun hc => ?_) (fun hc => ?_)
  · have h := ite_t h hc
    exact w_law_b1763 X Y hX hkh h
  · have h := ite_f h hc
    refine wp_iconst X dL_law_1429 ic_0 ?_
    exact h.elim

set_option maxRecDepth 100000 in
set_option maxHeartbeats 4000000 in
theorem w_law_b1365 {Γ : Ctx} {b L : Nat} {xs : Nat → Int32} {x3 : Int32} {kh : Int32 → MI → MJ → Prop} (X : Cx Γ code 4 RL 10) (Y : LY Γ b) (hX : SX Γ b L xs)  (hkh : ∀ (x3 : Int32) (I : MI) (J : MJ), kh x3 I J → Wp Γ 4 18 [(0, .ref b), (1, .ref (ad Γ 0)), (2, .ref (ad Γ 177)), (3, .int x3)] [] I J) {I : MI} {J : MJ} (h : f_law_b1365 L xs x3 kh I J) : Wp Γ 4 1365 [(0, .ref b), (1, .ref (ad Γ 0)), (2, .ref (ad Γ 177)), (3, .int x3)] [] I J := by
  unfold f_law_b1365 at h
  refine wp_aload_n X dL_law_1365 1 rfl ?_
  refine cv_School_exam X dL_law_1366 ml_L_129  h (Nat.le_of_ble_eq_true rfl) (by decide) (fun r1366 I1366 J1366 h => ?_)
  refine wp_aload_n X dL_law_1369 2 rfl ?_
  refine cv_Model_exam X dL_law_1370 ml_L_133  h (Nat.le_of_ble_eq_true rfl) (by decide) (fun r1370 I1370 J1370 h => ?_)
  refine wp_icmp_eq (tgt := 1763) X dL_law_1373 (by decide) (fun hc => ?_) (fun hc => ?_)
  · have h := ite_t h hc
    exact w_law_b1763 X Y hX hkh h
  · have h := ite_f h hc
    refine wp_iconst X dL_law_1376 ic_0 ?_
    exact h.elim

set_option maxRecDepth 100000 in
set_option maxHeartbeats 4000000 in
theorem w_law_b1342 {Γ : Ctx} {b L : Nat} {xs : Nat → Int32} {x3 : Int32} {kh : Int32 → MI → MJ → Prop} (X : Cx Γ code 4 RL 10) (Y : LY Γ b) (hX : SX Γ b L xs)  (hkh : ∀ (x3 : Int32) (I : MI) (J : MJ), kh x3 I J → Wp Γ 4 18 [(0, .ref b), (1, .ref (ad Γ 0)), (2, .ref (ad Γ 177)), (3, .int x3)] [] I J) {I : MI} {J : MJ} (h : f_law_b1342 L xs x3 kh I J) : Wp Γ 4 1342 [(0, .ref b), (1, .ref (ad Γ 0)), (2, .ref (ad Γ 177)), (3, .int x3)] [] I J := by
  unfold f_law_b1342 at h
  refine wp_aload_n X dL_law_1342 1 rfl ?_
  refine wp_aload_n X dL_law_1343 0 rfl ?_
  refine wp_iload_n X dL_law_1344 3 rfl ?_
  refine wp_iconst X dL_law_1345 ic_1 ?_
  refine wp_iadd X dL_law_1346 ?_
  obtain ⟨hb1347, h⟩ := h
  refine wp_sld X hX hb1347 dL_law_1347 ?_
  refine cv_School_learn X dL_law_1348 ml_L_125  h (Nat.le_of_ble_eq_true rfl) (by decide) (fun r1348 I1348 J1348 h => ?_)
  refine wp_aload_n X dL_law_1351 2 rfl ?_
  refine wp_aload_n X dL_law_1352 0 rfl ?_
  refine wp_iload_n X dL_law_1353 3 rfl ?_
  refine wp_iconst X dL_law_1354 ic_1 ?_
  refine wp_iadd X dL_law_1355 ?_
  obtain ⟨hb1356, h⟩ := h
  refine wp_sld X hX hb1356 dL_law_1356 ?_
  refine cv_Model_learn X dL_law_1357 ml_L_128  h (Nat.le_of_ble_eq_true rfl) (by decide) (fun r1357 I1357 J1357 h => ?_)
  refine wp_icmp_eq (tgt := 1763) X dL_law_1360 (by decide) (fun hc => ?_) (fun hc => ?_)
  · have h := ite_t h hc
    exact w_law_b1763 X Y hX hkh h
  · have h := ite_f h hc
    refine wp_iconst X dL_law_1363 ic_0 ?_
    exact h.elim

set_option maxRecDepth 100000 in
set_option maxHeartbeats 4000000 in
theorem w_law_b1279 {Γ : Ctx} {b L : Nat} {xs : Nat → Int32} {x3 : Int32} {kh : Int32 → MI → MJ → Prop} (X : Cx Γ code 4 RL 10) (Y : LY Γ b) (hX : SX Γ b L xs)  (hkh : ∀ (x3 : Int32) (I : MI) (J : MJ), kh x3 I J → Wp Γ 4 18 [(0, .ref b), (1, .ref (ad Γ 0)), (2, .ref (ad Γ 177)), (3, .int x3)] [] I J) {I : MI} {J : MJ} (h : f_law_b1279 L xs x3 kh I J) : Wp Γ 4 1279 [(0, .ref b), (1, .ref (ad Γ 0)), (2, .ref (ad Γ 177)), (3, .int x3)] [] I J := by
  unfold f_law_b1279 at h
  refine wp_aload_n X dL_law_1279 1 rfl ?_
  refine wp_aload_n X dL_law_1280 0 rfl ?_
  refine wp_iload_n X dL_law_1281 3 rfl ?_
  refine wp_iconst X dL_law_1282 ic_1 ?_
  refine wp_iadd X dL_law_1283 ?_
  obtain ⟨hb1284, h⟩ := h
  refine wp_sld X hX hb1284 dL_law_1284 ?_
  refine wp_aload_n X dL_law_1285 0 rfl ?_
  refine wp_iload_n X dL_law_1286 3 rfl ?_
  refine wp_iconst X dL_law_1287 ic_2 ?_
  refine wp_iadd X dL_law_1288 ?_
  obtain ⟨hb1289, h⟩ := h
  refine wp_sld X hX hb1289 dL_law_1289 ?_
  refine wp_i2l X dL_law_1290 ?_
  refine wp_bipush X dL_law_1291 bi_32 ?_
  refine wp_lshl X dL_law_1293 ?_
  refine wp_aload_n X dL_law_1294 0 rfl ?_
  refine wp_iload_n X dL_law_1295 3 rfl ?_
  refine wp_iconst X dL_law_1296 ic_3 ?_
  refine wp_iadd X dL_law_1297 ?_
  obtain ⟨hb1298, h⟩ := h
  refine wp_sld X hX hb1298 dL_law_1298 ?_
  refine wp_i2l X dL_law_1299 ?_
  refine wp_ldc2 X kl_L_74 dL_law_1300 ?_
  refine wp_land X dL_law_1303 ?_
  refine wp_lor X dL_law_1304 ?_
  refine cv_School_forget X dL_law_1305 ml_L_121  h (Nat.le_of_ble_eq_true rfl) (by decide) (fun r1305 I1305 J1305 h => ?_)
  refine wp_aload_n X dL_law_1308 2 rfl ?_
  refine wp_aload_n X dL_law_1309 0 rfl ?_
  refine wp_iload_n X dL_law_1310 3 rfl ?_
  refine wp_iconst X dL_law_1311 ic_1 ?_
  refine wp_iadd X dL_law_1312 ?_
  obtain ⟨hb1313, h⟩ := h
  refine wp_sld X hX hb1313 dL_law_1313 ?_
  refine wp_aload_n X dL_law_1314 0 rfl ?_
  refine wp_iload_n X dL_law_1315 3 rfl ?_
  refine wp_iconst X dL_law_1316 ic_2 ?_
  refine wp_iadd X dL_law_1317 ?_
  obtain ⟨hb1318, h⟩ := h
  refine wp_sld X hX hb1318 dL_law_1318 ?_
  refine wp_i2l X dL_law_1319 ?_
  refine wp_bipush X dL_law_1320 bi_32 ?_
  refine wp_lshl X dL_law_1322 ?_
  refine wp_aload_n X dL_law_1323 0 rfl ?_
  refine wp_iload_n X dL_law_1324 3 rfl ?_
  refine wp_iconst X dL_law_1325 ic_3 ?_
  refine wp_iadd X dL_law_1326 ?_
  obtain ⟨hb1327, h⟩ := h
  refine wp_sld X hX hb1327 dL_law_1327 ?_
  refine wp_i2l X dL_law_1328 ?_
  refine wp_ldc2 X kl_L_74 dL_law_1329 ?_
  refine wp_land X dL_law_1332 ?_
  refine wp_lor X dL_law_1333 ?_
  refine cv_Model_forget X dL_law_1334 ml_L_124  h (Nat.le_of_ble_eq_true rfl) (by decide) (fun r1334 I1334 J1334 h => ?_)
  refine wp_icmp_eq (tgt := 1763) X dL_law_1337 (by decide) (fun hc => ?_) (fun hc => ?_)
  · have h := ite_t h hc
    exact w_law_b1763 X Y hX hkh h
  · have h := ite_f h hc
    refine wp_iconst X dL_law_1340 ic_0 ?_
    exact h.elim

set_option maxRecDepth 100000 in
set_option maxHeartbeats 4000000 in
theorem w_law_b1226 {Γ : Ctx} {b L : Nat} {xs : Nat → Int32} {x3 : Int32} {kh : Int32 → MI → MJ → Prop} (X : Cx Γ code 4 RL 10) (Y : LY Γ b) (hX : SX Γ b L xs)  (hkh : ∀ (x3 : Int32) (I : MI) (J : MJ), kh x3 I J → Wp Γ 4 18 [(0, .ref b), (1, .ref (ad Γ 0)), (2, .ref (ad Γ 177)), (3, .int x3)] [] I J) {I : MI} {J : MJ} (h : f_law_b1226 L xs x3 kh I J) : Wp Γ 4 1226 [(0, .ref b), (1, .ref (ad Γ 0)), (2, .ref (ad Γ 177)), (3, .int x3)] [] I J := by
  unfold f_law_b1226 at h
  refine wp_aload_n X dL_law_1226 1 rfl ?_
  refine wp_aload_n X dL_law_1227 0 rfl ?_
  refine wp_iload_n X dL_law_1228 3 rfl ?_
  refine wp_iconst X dL_law_1229 ic_1 ?_
  refine wp_iadd X dL_law_1230 ?_
  obtain ⟨hb1231, h⟩ := h
  refine wp_sld X hX hb1231 dL_law_1231 ?_
  refine wp_aload_n X dL_law_1232 0 rfl ?_
  refine wp_iload_n X dL_law_1233 3 rfl ?_
  refine wp_iconst X dL_law_1234 ic_2 ?_
  refine wp_iadd X dL_law_1235 ?_
  obtain ⟨hb1236, h⟩ := h
  refine wp_sld X hX hb1236 dL_law_1236 ?_
  refine wp_aload_n X dL_law_1237 0 rfl ?_
  refine wp_iload_n X dL_law_1238 3 rfl ?_
  refine wp_iconst X dL_law_1239 ic_3 ?_
  refine wp_iadd X dL_law_1240 ?_
  obtain ⟨hb1241, h⟩ := h
  refine wp_sld X hX hb1241 dL_law_1241 ?_
  refine wp_aload_n X dL_law_1242 0 rfl ?_
  refine wp_iload_n X dL_law_1243 3 rfl ?_
  refine wp_iconst X dL_law_1244 ic_4 ?_
  refine wp_iadd X dL_law_1245 ?_
  obtain ⟨hb1246, h⟩ := h
  refine wp_sld X hX hb1246 dL_law_1246 ?_
  refine cv_School_teacher X dL_law_1247 ml_L_117  h (Nat.le_of_ble_eq_true rfl) (by decide) (fun r1247 I1247 J1247 h => ?_)
  refine wp_aload_n X dL_law_1250 2 rfl ?_
  refine wp_aload_n X dL_law_1251 0 rfl ?_
  refine wp_iload_n X dL_law_1252 3 rfl ?_
  refine wp_iconst X dL_law_1253 ic_1 ?_
  refine wp_iadd X dL_law_1254 ?_
  obtain ⟨hb1255, h⟩ := h
  refine wp_sld X hX hb1255 dL_law_1255 ?_
  refine wp_aload_n X dL_law_1256 0 rfl ?_
  refine wp_iload_n X dL_law_1257 3 rfl ?_
  refine wp_iconst X dL_law_1258 ic_2 ?_
  refine wp_iadd X dL_law_1259 ?_
  obtain ⟨hb1260, h⟩ := h
  refine wp_sld X hX hb1260 dL_law_1260 ?_
  refine wp_aload_n X dL_law_1261 0 rfl ?_
  refine wp_iload_n X dL_law_1262 3 rfl ?_
  refine wp_iconst X dL_law_1263 ic_3 ?_
  refine wp_iadd X dL_law_1264 ?_
  obtain ⟨hb1265, h⟩ := h
  refine wp_sld X hX hb1265 dL_law_1265 ?_
  refine wp_aload_n X dL_law_1266 0 rfl ?_
  refine wp_iload_n X dL_law_1267 3 rfl ?_
  refine wp_iconst X dL_law_1268 ic_4 ?_
  refine wp_iadd X dL_law_1269 ?_
  obtain ⟨hb1270, h⟩ := h
  refine wp_sld X hX hb1270 dL_law_1270 ?_
  refine cv_Model_teacher X dL_law_1271 ml_L_120  h (Nat.le_of_ble_eq_true rfl) (by decide) (fun r1271 I1271 J1271 h => ?_)
  refine wp_icmp_eq (tgt := 1763) X dL_law_1274 (by decide) (fun hc => ?_) (fun hc => ?_)
  · have h := ite_t h hc
    exact w_law_b1763 X Y hX hkh h
  · have h := ite_f h hc
    refine wp_iconst X dL_law_1277 ic_0 ?_
    exact h.elim

set_option maxRecDepth 100000 in
set_option maxHeartbeats 4000000 in
theorem w_law_b1182 {Γ : Ctx} {b L : Nat} {xs : Nat → Int32} {x3 : Int32} {kh : Int32 → MI → MJ → Prop} (X : Cx Γ code 4 RL 10) (Y : LY Γ b) (hX : SX Γ b L xs)  (hkh : ∀ (x3 : Int32) (I : MI) (J : MJ), kh x3 I J → Wp Γ 4 18 [(0, .ref b), (1, .ref (ad Γ 0)), (2, .ref (ad Γ 177)), (3, .int x3)] [] I J) {I : MI} {J : MJ} (h : f_law_b1182 L xs x3 kh I J) : Wp Γ 4 1182 [(0, .ref b), (1, .ref (ad Γ 0)), (2, .ref (ad Γ 177)), (3, .int x3)] [] I J := by
  unfold f_law_b1182 at h
  refine wp_aload_n X dL_law_1182 1 rfl ?_
  refine wp_aload_n X dL_law_1183 0 rfl ?_
  refine wp_iload_n X dL_law_1184 3 rfl ?_
  refine wp_iconst X dL_law_1185 ic_1 ?_
  refine wp_iadd X dL_law_1186 ?_
  obtain ⟨hb1187, h⟩ := h
  refine wp_sld X hX hb1187 dL_law_1187 ?_
  refine wp_aload_n X dL_law_1188 0 rfl ?_
  refine wp_iload_n X dL_law_1189 3 rfl ?_
  refine wp_iconst X dL_law_1190 ic_2 ?_
  refine wp_iadd X dL_law_1191 ?_
  obtain ⟨hb1192, h⟩ := h
  refine wp_sld X hX hb1192 dL_law_1192 ?_
  refine wp_aload_n X dL_law_1193 0 rfl ?_
  refine wp_iload_n X dL_law_1194 3 rfl ?_
  refine wp_iconst X dL_law_1195 ic_3 ?_
  refine wp_iadd X dL_law_1196 ?_
  obtain ⟨hb1197, h⟩ := h
  refine wp_sld X hX hb1197 dL_law_1197 ?_
  refine cv_School_passes X dL_law_1198 ml_L_113  h (Nat.le_of_ble_eq_true rfl) (by decide) (fun r1198 I1198 J1198 h => ?_)
  refine wp_aload_n X dL_law_1201 2 rfl ?_
  refine wp_aload_n X dL_law_1202 0 rfl ?_
  refine wp_iload_n X dL_law_1203 3 rfl ?_
  refine wp_iconst X dL_law_1204 ic_1 ?_
  refine wp_iadd X dL_law_1205 ?_
  obtain ⟨hb1206, h⟩ := h
  refine wp_sld X hX hb1206 dL_law_1206 ?_
  refine wp_aload_n X dL_law_1207 0 rfl ?_
  refine wp_iload_n X dL_law_1208 3 rfl ?_
  refine wp_iconst X dL_law_1209 ic_2 ?_
  refine wp_iadd X dL_law_1210 ?_
  obtain ⟨hb1211, h⟩ := h
  refine wp_sld X hX hb1211 dL_law_1211 ?_
  refine wp_aload_n X dL_law_1212 0 rfl ?_
  refine wp_iload_n X dL_law_1213 3 rfl ?_
  refine wp_iconst X dL_law_1214 ic_3 ?_
  refine wp_iadd X dL_law_1215 ?_
  obtain ⟨hb1216, h⟩ := h
  refine wp_sld X hX hb1216 dL_law_1216 ?_
  refine cv_Model_passes X dL_law_1217 ml_L_116  h (Nat.le_of_ble_eq_true rfl) (by decide) (fun r1217 I1217 J1217 h => ?_)
  refine wp_lcmp_eq (tgt := 1763) X dL_law_1220 dL_law_1221 (by decide) (fun hc => ?_) (fun hc => ?_)
  · have h := ite_t h hc
    exact w_law_b1763 X Y hX hkh h
  · have h := ite_f h hc
    refine wp_iconst X dL_law_1224 ic_0 ?_
    exact h.elim

set_option maxRecDepth 100000 in
set_option maxHeartbeats 4000000 in
theorem w_law_b1149 {Γ : Ctx} {b L : Nat} {xs : Nat → Int32} {x3 : Int32} {kh : Int32 → MI → MJ → Prop} (X : Cx Γ code 4 RL 10) (Y : LY Γ b) (hX : SX Γ b L xs)  (hkh : ∀ (x3 : Int32) (I : MI) (J : MJ), kh x3 I J → Wp Γ 4 18 [(0, .ref b), (1, .ref (ad Γ 0)), (2, .ref (ad Γ 177)), (3, .int x3)] [] I J) {I : MI} {J : MJ} (h : f_law_b1149 L xs x3 kh I J) : Wp Γ 4 1149 [(0, .ref b), (1, .ref (ad Γ 0)), (2, .ref (ad Γ 177)), (3, .int x3)] [] I J := by
  unfold f_law_b1149 at h
  refine wp_aload_n X dL_law_1149 1 rfl ?_
  refine wp_aload_n X dL_law_1150 0 rfl ?_
  refine wp_iload_n X dL_law_1151 3 rfl ?_
  refine wp_iconst X dL_law_1152 ic_1 ?_
  refine wp_iadd X dL_law_1153 ?_
  obtain ⟨hb1154, h⟩ := h
  refine wp_sld X hX hb1154 dL_law_1154 ?_
  refine wp_aload_n X dL_law_1155 0 rfl ?_
  refine wp_iload_n X dL_law_1156 3 rfl ?_
  refine wp_iconst X dL_law_1157 ic_2 ?_
  refine wp_iadd X dL_law_1158 ?_
  obtain ⟨hb1159, h⟩ := h
  refine wp_sld X hX hb1159 dL_law_1159 ?_
  refine cv_School_suite X dL_law_1160 ml_L_109  h (Nat.le_of_ble_eq_true rfl) (by decide) (fun r1160 I1160 J1160 h => ?_)
  refine wp_aload_n X dL_law_1163 2 rfl ?_
  refine wp_aload_n X dL_law_1164 0 rfl ?_
  refine wp_iload_n X dL_law_1165 3 rfl ?_
  refine wp_iconst X dL_law_1166 ic_1 ?_
  refine wp_iadd X dL_law_1167 ?_
  obtain ⟨hb1168, h⟩ := h
  refine wp_sld X hX hb1168 dL_law_1168 ?_
  refine wp_aload_n X dL_law_1169 0 rfl ?_
  refine wp_iload_n X dL_law_1170 3 rfl ?_
  refine wp_iconst X dL_law_1171 ic_2 ?_
  refine wp_iadd X dL_law_1172 ?_
  obtain ⟨hb1173, h⟩ := h
  refine wp_sld X hX hb1173 dL_law_1173 ?_
  refine cv_Model_suite X dL_law_1174 ml_L_112  h (Nat.le_of_ble_eq_true rfl) (by decide) (fun r1174 I1174 J1174 h => ?_)
  refine wp_icmp_eq (tgt := 1763) X dL_law_1177 (by decide) (fun hc => ?_) (fun hc => ?_)
  · have h := ite_t h hc
    exact w_law_b1763 X Y hX hkh h
  · have h := ite_f h hc
    refine wp_iconst X dL_law_1180 ic_0 ?_
    exact h.elim

set_option maxRecDepth 100000 in
set_option maxHeartbeats 4000000 in
theorem w_law_b1096 {Γ : Ctx} {b L : Nat} {xs : Nat → Int32} {x3 : Int32} {kh : Int32 → MI → MJ → Prop} (X : Cx Γ code 4 RL 10) (Y : LY Γ b) (hX : SX Γ b L xs)  (hkh : ∀ (x3 : Int32) (I : MI) (J : MJ), kh x3 I J → Wp Γ 4 18 [(0, .ref b), (1, .ref (ad Γ 0)), (2, .ref (ad Γ 177)), (3, .int x3)] [] I J) {I : MI} {J : MJ} (h : f_law_b1096 L xs x3 kh I J) : Wp Γ 4 1096 [(0, .ref b), (1, .ref (ad Γ 0)), (2, .ref (ad Γ 177)), (3, .int x3)] [] I J := by
  unfold f_law_b1096 at h
  refine wp_aload_n X dL_law_1096 1 rfl ?_
  refine wp_aload_n X dL_law_1097 0 rfl ?_
  refine wp_iload_n X dL_law_1098 3 rfl ?_
  refine wp_iconst X dL_law_1099 ic_1 ?_
  refine wp_iadd X dL_law_1100 ?_
  obtain ⟨hb1101, h⟩ := h
  refine wp_sld X hX hb1101 dL_law_1101 ?_
  refine wp_aload_n X dL_law_1102 0 rfl ?_
  refine wp_iload_n X dL_law_1103 3 rfl ?_
  refine wp_iconst X dL_law_1104 ic_2 ?_
  refine wp_iadd X dL_law_1105 ?_
  obtain ⟨hb1106, h⟩ := h
  refine wp_sld X hX hb1106 dL_law_1106 ?_
  refine wp_aload_n X dL_law_1107 0 rfl ?_
  refine wp_iload_n X dL_law_1108 3 rfl ?_
  refine wp_iconst X dL_law_1109 ic_3 ?_
  refine wp_iadd X dL_law_1110 ?_
  obtain ⟨hb1111, h⟩ := h
  refine wp_sld X hX hb1111 dL_law_1111 ?_
  refine wp_aload_n X dL_law_1112 0 rfl ?_
  refine wp_iload_n X dL_law_1113 3 rfl ?_
  refine wp_iconst X dL_law_1114 ic_4 ?_
  refine wp_iadd X dL_law_1115 ?_
  obtain ⟨hb1116, h⟩ := h
  refine wp_sld X hX hb1116 dL_law_1116 ?_
  refine cv_School_join X dL_law_1117 ml_L_105  h (Nat.le_of_ble_eq_true rfl) (by decide) (fun r1117 I1117 J1117 h => ?_)
  refine wp_aload_n X dL_law_1120 2 rfl ?_
  refine wp_aload_n X dL_law_1121 0 rfl ?_
  refine wp_iload_n X dL_law_1122 3 rfl ?_
  refine wp_iconst X dL_law_1123 ic_1 ?_
  refine wp_iadd X dL_law_1124 ?_
  obtain ⟨hb1125, h⟩ := h
  refine wp_sld X hX hb1125 dL_law_1125 ?_
  refine wp_aload_n X dL_law_1126 0 rfl ?_
  refine wp_iload_n X dL_law_1127 3 rfl ?_
  refine wp_iconst X dL_law_1128 ic_2 ?_
  refine wp_iadd X dL_law_1129 ?_
  obtain ⟨hb1130, h⟩ := h
  refine wp_sld X hX hb1130 dL_law_1130 ?_
  refine wp_aload_n X dL_law_1131 0 rfl ?_
  refine wp_iload_n X dL_law_1132 3 rfl ?_
  refine wp_iconst X dL_law_1133 ic_3 ?_
  refine wp_iadd X dL_law_1134 ?_
  obtain ⟨hb1135, h⟩ := h
  refine wp_sld X hX hb1135 dL_law_1135 ?_
  refine wp_aload_n X dL_law_1136 0 rfl ?_
  refine wp_iload_n X dL_law_1137 3 rfl ?_
  refine wp_iconst X dL_law_1138 ic_4 ?_
  refine wp_iadd X dL_law_1139 ?_
  obtain ⟨hb1140, h⟩ := h
  refine wp_sld X hX hb1140 dL_law_1140 ?_
  refine cv_Model_join X dL_law_1141 ml_L_108  h (Nat.le_of_ble_eq_true rfl) (by decide) (fun r1141 I1141 J1141 h => ?_)
  refine wp_icmp_eq (tgt := 1763) X dL_law_1144 (by decide) (fun hc => ?_) (fun hc => ?_)
  · have h := ite_t h hc
    exact w_law_b1763 X Y hX hkh h
  · have h := ite_f h hc
    refine wp_iconst X dL_law_1147 ic_0 ?_
    exact h.elim

set_option maxRecDepth 100000 in
set_option maxHeartbeats 4000000 in
theorem w_law_b1063 {Γ : Ctx} {b L : Nat} {xs : Nat → Int32} {x3 : Int32} {kh : Int32 → MI → MJ → Prop} (X : Cx Γ code 4 RL 10) (Y : LY Γ b) (hX : SX Γ b L xs)  (hkh : ∀ (x3 : Int32) (I : MI) (J : MJ), kh x3 I J → Wp Γ 4 18 [(0, .ref b), (1, .ref (ad Γ 0)), (2, .ref (ad Γ 177)), (3, .int x3)] [] I J) {I : MI} {J : MJ} (h : f_law_b1063 L xs x3 kh I J) : Wp Γ 4 1063 [(0, .ref b), (1, .ref (ad Γ 0)), (2, .ref (ad Γ 177)), (3, .int x3)] [] I J := by
  unfold f_law_b1063 at h
  refine wp_aload_n X dL_law_1063 1 rfl ?_
  refine wp_aload_n X dL_law_1064 0 rfl ?_
  refine wp_iload_n X dL_law_1065 3 rfl ?_
  refine wp_iconst X dL_law_1066 ic_1 ?_
  refine wp_iadd X dL_law_1067 ?_
  obtain ⟨hb1068, h⟩ := h
  refine wp_sld X hX hb1068 dL_law_1068 ?_
  refine wp_aload_n X dL_law_1069 0 rfl ?_
  refine wp_iload_n X dL_law_1070 3 rfl ?_
  refine wp_iconst X dL_law_1071 ic_2 ?_
  refine wp_iadd X dL_law_1072 ?_
  obtain ⟨hb1073, h⟩ := h
  refine wp_sld X hX hb1073 dL_law_1073 ?_
  refine cv_School_least X dL_law_1074 ml_L_101  h (Nat.le_of_ble_eq_true rfl) (by decide) (fun r1074 I1074 J1074 h => ?_)
  refine wp_aload_n X dL_law_1077 2 rfl ?_
  refine wp_aload_n X dL_law_1078 0 rfl ?_
  refine wp_iload_n X dL_law_1079 3 rfl ?_
  refine wp_iconst X dL_law_1080 ic_1 ?_
  refine wp_iadd X dL_law_1081 ?_
  obtain ⟨hb1082, h⟩ := h
  refine wp_sld X hX hb1082 dL_law_1082 ?_
  refine wp_aload_n X dL_law_1083 0 rfl ?_
  refine wp_iload_n X dL_law_1084 3 rfl ?_
  refine wp_iconst X dL_law_1085 ic_2 ?_
  refine wp_iadd X dL_law_1086 ?_
  obtain ⟨hb1087, h⟩ := h
  refine wp_sld X hX hb1087 dL_law_1087 ?_
  refine cv_Model_least X dL_law_1088 ml_L_104  h (Nat.le_of_ble_eq_true rfl) (by decide) (fun r1088 I1088 J1088 h => ?_)
  refine wp_icmp_eq (tgt := 1763) X dL_law_1091 (by decide) (fun hc => ?_) (fun hc => ?_)
  · have h := ite_t h hc
    exact w_law_b1763 X Y hX hkh h
  · have h := ite_f h hc
    refine wp_iconst X dL_law_1094 ic_0 ?_
    exact h.elim

set_option maxRecDepth 100000 in
set_option maxHeartbeats 4000000 in
theorem w_law_b1029 {Γ : Ctx} {b L : Nat} {xs : Nat → Int32} {x3 : Int32} {kh : Int32 → MI → MJ → Prop} (X : Cx Γ code 4 RL 10) (Y : LY Γ b) (hX : SX Γ b L xs)  (hkh : ∀ (x3 : Int32) (I : MI) (J : MJ), kh x3 I J → Wp Γ 4 18 [(0, .ref b), (1, .ref (ad Γ 0)), (2, .ref (ad Γ 177)), (3, .int x3)] [] I J) {I : MI} {J : MJ} (h : f_law_b1029 L xs x3 kh I J) : Wp Γ 4 1029 [(0, .ref b), (1, .ref (ad Γ 0)), (2, .ref (ad Γ 177)), (3, .int x3)] [] I J := by
  unfold f_law_b1029 at h
  refine wp_aload_n X dL_law_1029 1 rfl ?_
  refine wp_aload_n X dL_law_1030 0 rfl ?_
  refine wp_iload_n X dL_law_1031 3 rfl ?_
  refine wp_iconst X dL_law_1032 ic_1 ?_
  refine wp_iadd X dL_law_1033 ?_
  obtain ⟨hb1034, h⟩ := h
  refine wp_sld X hX hb1034 dL_law_1034 ?_
  refine wp_aload_n X dL_law_1035 0 rfl ?_
  refine wp_iload_n X dL_law_1036 3 rfl ?_
  refine wp_iconst X dL_law_1037 ic_2 ?_
  refine wp_iadd X dL_law_1038 ?_
  obtain ⟨hb1039, h⟩ := h
  refine wp_sld X hX hb1039 dL_law_1039 ?_
  refine cv_School_differ X dL_law_1040 ml_L_96  h (Nat.le_of_ble_eq_true rfl) (by decide) (fun r1040 I1040 J1040 h => ?_)
  refine wp_aload_n X dL_law_1043 2 rfl ?_
  refine wp_aload_n X dL_law_1044 0 rfl ?_
  refine wp_iload_n X dL_law_1045 3 rfl ?_
  refine wp_iconst X dL_law_1046 ic_1 ?_
  refine wp_iadd X dL_law_1047 ?_
  obtain ⟨hb1048, h⟩ := h
  refine wp_sld X hX hb1048 dL_law_1048 ?_
  refine wp_aload_n X dL_law_1049 0 rfl ?_
  refine wp_iload_n X dL_law_1050 3 rfl ?_
  refine wp_iconst X dL_law_1051 ic_2 ?_
  refine wp_iadd X dL_law_1052 ?_
  obtain ⟨hb1053, h⟩ := h
  refine wp_sld X hX hb1053 dL_law_1053 ?_
  refine cv_Model_differ X dL_law_1054 ml_L_100  h (Nat.le_of_ble_eq_true rfl) (by decide) (fun r1054 I1054 J1054 h => ?_)
  refine wp_lcmp_eq (tgt := 1763) X dL_law_1057 dL_law_1058 (by decide) (fun hc => ?_) (fun hc => ?_)
  · have h := ite_t h hc
    exact w_law_b1763 X Y hX hkh h
  · have h := ite_f h hc
    refine wp_iconst X dL_law_1061 ic_0 ?_
    exact h.elim

set_option maxRecDepth 100000 in
set_option maxHeartbeats 4000000 in
theorem w_law_b965 {Γ : Ctx} {b L : Nat} {xs : Nat → Int32} {x3 : Int32} {kh : Int32 → MI → MJ → Prop} (X : Cx Γ code 4 RL 10) (Y : LY Γ b) (hX : SX Γ b L xs)  (hkh : ∀ (x3 : Int32) (I : MI) (J : MJ), kh x3 I J → Wp Γ 4 18 [(0, .ref b), (1, .ref (ad Γ 0)), (2, .ref (ad Γ 177)), (3, .int x3)] [] I J) {I : MI} {J : MJ} (h : f_law_b965 L xs x3 kh I J) : Wp Γ 4 965 [(0, .ref b), (1, .ref (ad Γ 0)), (2, .ref (ad Γ 177)), (3, .int x3)] [] I J := by
  unfold f_law_b965 at h
  refine wp_aload_n X dL_law_965 1 rfl ?_
  refine wp_aload_n X dL_law_966 0 rfl ?_
  refine wp_iload_n X dL_law_967 3 rfl ?_
  refine wp_iconst X dL_law_968 ic_1 ?_
  refine wp_iadd X dL_law_969 ?_
  obtain ⟨hb970, h⟩ := h
  refine wp_sld X hX hb970 dL_law_970 ?_
  refine wp_aload_n X dL_law_971 0 rfl ?_
  refine wp_iload_n X dL_law_972 3 rfl ?_
  refine wp_iconst X dL_law_973 ic_2 ?_
  refine wp_iadd X dL_law_974 ?_
  obtain ⟨hb975, h⟩ := h
  refine wp_sld X hX hb975 dL_law_975 ?_
  refine wp_i2l X dL_law_976 ?_
  refine wp_bipush X dL_law_977 bi_32 ?_
  refine wp_lshl X dL_law_979 ?_
  refine wp_aload_n X dL_law_980 0 rfl ?_
  refine wp_iload_n X dL_law_981 3 rfl ?_
  refine wp_iconst X dL_law_982 ic_3 ?_
  refine wp_iadd X dL_law_983 ?_
  obtain ⟨hb984, h⟩ := h
  refine wp_sld X hX hb984 dL_law_984 ?_
  refine wp_i2l X dL_law_985 ?_
  refine wp_ldc2 X kl_L_74 dL_law_986 ?_
  refine wp_land X dL_law_989 ?_
  refine wp_lor X dL_law_990 ?_
  refine cv_School_place X dL_law_991 ml_L_91  h (Nat.le_of_ble_eq_true rfl) (by decide) (fun r991 I991 J991 h => ?_)
  refine wp_aload_n X dL_law_994 2 rfl ?_
  refine wp_aload_n X dL_law_995 0 rfl ?_
  refine wp_iload_n X dL_law_996 3 rfl ?_
  refine wp_iconst X dL_law_997 ic_1 ?_
  refine wp_iadd X dL_law_998 ?_
  obtain ⟨hb999, h⟩ := h
  refine wp_sld X hX hb999 dL_law_999 ?_
  refine wp_aload_n X dL_law_1000 0 rfl ?_
  refine wp_iload_n X dL_law_1001 3 rfl ?_
  refine wp_iconst X dL_law_1002 ic_2 ?_
  refine wp_iadd X dL_law_1003 ?_
  obtain ⟨hb1004, h⟩ := h
  refine wp_sld X hX hb1004 dL_law_1004 ?_
  refine wp_i2l X dL_law_1005 ?_
  refine wp_bipush X dL_law_1006 bi_32 ?_
  refine wp_lshl X dL_law_1008 ?_
  refine wp_aload_n X dL_law_1009 0 rfl ?_
  refine wp_iload_n X dL_law_1010 3 rfl ?_
  refine wp_iconst X dL_law_1011 ic_3 ?_
  refine wp_iadd X dL_law_1012 ?_
  obtain ⟨hb1013, h⟩ := h
  refine wp_sld X hX hb1013 dL_law_1013 ?_
  refine wp_i2l X dL_law_1014 ?_
  refine wp_ldc2 X kl_L_74 dL_law_1015 ?_
  refine wp_land X dL_law_1018 ?_
  refine wp_lor X dL_law_1019 ?_
  refine cv_Model_place X dL_law_1020 ml_L_95  h (Nat.le_of_ble_eq_true rfl) (by decide) (fun r1020 I1020 J1020 h => ?_)
  refine wp_lcmp_eq (tgt := 1763) X dL_law_1023 dL_law_1024 (by decide) (fun hc => ?_) (fun hc => ?_)
  · have h := ite_t h hc
    exact w_law_b1763 X Y hX hkh h
  · have h := ite_f h hc
    refine wp_iconst X dL_law_1027 ic_0 ?_
    exact h.elim

set_option maxRecDepth 100000 in
set_option maxHeartbeats 4000000 in
theorem w_law_b891 {Γ : Ctx} {b L : Nat} {xs : Nat → Int32} {x3 : Int32} {kh : Int32 → MI → MJ → Prop} (X : Cx Γ code 4 RL 10) (Y : LY Γ b) (hX : SX Γ b L xs)  (hkh : ∀ (x3 : Int32) (I : MI) (J : MJ), kh x3 I J → Wp Γ 4 18 [(0, .ref b), (1, .ref (ad Γ 0)), (2, .ref (ad Γ 177)), (3, .int x3)] [] I J) {I : MI} {J : MJ} (h : f_law_b891 L xs x3 kh I J) : Wp Γ 4 891 [(0, .ref b), (1, .ref (ad Γ 0)), (2, .ref (ad Γ 177)), (3, .int x3)] [] I J := by
  unfold f_law_b891 at h
  refine wp_aload_n X dL_law_891 1 rfl ?_
  refine wp_aload_n X dL_law_892 0 rfl ?_
  refine wp_iload_n X dL_law_893 3 rfl ?_
  refine wp_iconst X dL_law_894 ic_1 ?_
  refine wp_iadd X dL_law_895 ?_
  obtain ⟨hb896, h⟩ := h
  refine wp_sld X hX hb896 dL_law_896 ?_
  refine wp_aload_n X dL_law_897 0 rfl ?_
  refine wp_iload_n X dL_law_898 3 rfl ?_
  refine wp_iconst X dL_law_899 ic_2 ?_
  refine wp_iadd X dL_law_900 ?_
  obtain ⟨hb901, h⟩ := h
  refine wp_sld X hX hb901 dL_law_901 ?_
  refine wp_aload_n X dL_law_902 0 rfl ?_
  refine wp_iload_n X dL_law_903 3 rfl ?_
  refine wp_iconst X dL_law_904 ic_3 ?_
  refine wp_iadd X dL_law_905 ?_
  obtain ⟨hb906, h⟩ := h
  refine wp_sld X hX hb906 dL_law_906 ?_
  refine wp_i2l X dL_law_907 ?_
  refine wp_bipush X dL_law_908 bi_32 ?_
  refine wp_lshl X dL_law_910 ?_
  refine wp_aload_n X dL_law_911 0 rfl ?_
  refine wp_iload_n X dL_law_912 3 rfl ?_
  refine wp_iconst X dL_law_913 ic_4 ?_
  refine wp_iadd X dL_law_914 ?_
  obtain ⟨hb915, h⟩ := h
  refine wp_sld X hX hb915 dL_law_915 ?_
  refine wp_i2l X dL_law_916 ?_
  refine wp_ldc2 X kl_L_74 dL_law_917 ?_
  refine wp_land X dL_law_920 ?_
  refine wp_lor X dL_law_921 ?_
  refine cv_School_word X dL_law_922 ml_L_86  h (Nat.le_of_ble_eq_true rfl) (by decide) (fun r922 I922 J922 h => ?_)
  refine wp_aload_n X dL_law_925 2 rfl ?_
  refine wp_aload_n X dL_law_926 0 rfl ?_
  refine wp_iload_n X dL_law_927 3 rfl ?_
  refine wp_iconst X dL_law_928 ic_1 ?_
  refine wp_iadd X dL_law_929 ?_
  obtain ⟨hb930, h⟩ := h
  refine wp_sld X hX hb930 dL_law_930 ?_
  refine wp_aload_n X dL_law_931 0 rfl ?_
  refine wp_iload_n X dL_law_932 3 rfl ?_
  refine wp_iconst X dL_law_933 ic_2 ?_
  refine wp_iadd X dL_law_934 ?_
  obtain ⟨hb935, h⟩ := h
  refine wp_sld X hX hb935 dL_law_935 ?_
  refine wp_aload_n X dL_law_936 0 rfl ?_
  refine wp_iload_n X dL_law_937 3 rfl ?_
  refine wp_iconst X dL_law_938 ic_3 ?_
  refine wp_iadd X dL_law_939 ?_
  obtain ⟨hb940, h⟩ := h
  refine wp_sld X hX hb940 dL_law_940 ?_
  refine wp_i2l X dL_law_941 ?_
  refine wp_bipush X dL_law_942 bi_32 ?_
  refine wp_lshl X dL_law_944 ?_
  refine wp_aload_n X dL_law_945 0 rfl ?_
  refine wp_iload_n X dL_law_946 3 rfl ?_
  refine wp_iconst X dL_law_947 ic_4 ?_
  refine wp_iadd X dL_law_948 ?_
  obtain ⟨hb949, h⟩ := h
  refine wp_sld X hX hb949 dL_law_949 ?_
  refine wp_i2l X dL_law_950 ?_
  refine wp_ldc2 X kl_L_74 dL_law_951 ?_
  refine wp_land X dL_law_954 ?_
  refine wp_lor X dL_law_955 ?_
  refine cv_Model_word X dL_law_956 ml_L_90  h (Nat.le_of_ble_eq_true rfl) (by decide) (fun r956 I956 J956 h => ?_)
  refine wp_lcmp_eq (tgt := 1763) X dL_law_959 dL_law_960 (by decide) (fun hc => ?_) (fun hc => ?_)
  · have h := ite_t h hc
    exact w_law_b1763 X Y hX hkh h
  · have h := ite_f h hc
    refine wp_iconst X dL_law_963 ic_0 ?_
    exact h.elim

set_option maxRecDepth 100000 in
set_option maxHeartbeats 4000000 in
theorem w_law_b847 {Γ : Ctx} {b L : Nat} {xs : Nat → Int32} {x3 : Int32} {kh : Int32 → MI → MJ → Prop} (X : Cx Γ code 4 RL 10) (Y : LY Γ b) (hX : SX Γ b L xs)  (hkh : ∀ (x3 : Int32) (I : MI) (J : MJ), kh x3 I J → Wp Γ 4 18 [(0, .ref b), (1, .ref (ad Γ 0)), (2, .ref (ad Γ 177)), (3, .int x3)] [] I J) {I : MI} {J : MJ} (h : f_law_b847 L xs x3 kh I J) : Wp Γ 4 847 [(0, .ref b), (1, .ref (ad Γ 0)), (2, .ref (ad Γ 177)), (3, .int x3)] [] I J := by
  unfold f_law_b847 at h
  refine wp_aload_n X dL_law_847 1 rfl ?_
  refine wp_aload_n X dL_law_848 0 rfl ?_
  refine wp_iload_n X dL_law_849 3 rfl ?_
  refine wp_iconst X dL_law_850 ic_1 ?_
  refine wp_iadd X dL_law_851 ?_
  obtain ⟨hb852, h⟩ := h
  refine wp_sld X hX hb852 dL_law_852 ?_
  refine wp_aload_n X dL_law_853 0 rfl ?_
  refine wp_iload_n X dL_law_854 3 rfl ?_
  refine wp_iconst X dL_law_855 ic_2 ?_
  refine wp_iadd X dL_law_856 ?_
  obtain ⟨hb857, h⟩ := h
  refine wp_sld X hX hb857 dL_law_857 ?_
  refine wp_aload_n X dL_law_858 0 rfl ?_
  refine wp_iload_n X dL_law_859 3 rfl ?_
  refine wp_iconst X dL_law_860 ic_3 ?_
  refine wp_iadd X dL_law_861 ?_
  obtain ⟨hb862, h⟩ := h
  refine wp_sld X hX hb862 dL_law_862 ?_
  refine cv_School_count X dL_law_863 ml_L_81  h (Nat.le_of_ble_eq_true rfl) (by decide) (fun r863 I863 J863 h => ?_)
  refine wp_aload_n X dL_law_866 2 rfl ?_
  refine wp_aload_n X dL_law_867 0 rfl ?_
  refine wp_iload_n X dL_law_868 3 rfl ?_
  refine wp_iconst X dL_law_869 ic_1 ?_
  refine wp_iadd X dL_law_870 ?_
  obtain ⟨hb871, h⟩ := h
  refine wp_sld X hX hb871 dL_law_871 ?_
  refine wp_aload_n X dL_law_872 0 rfl ?_
  refine wp_iload_n X dL_law_873 3 rfl ?_
  refine wp_iconst X dL_law_874 ic_2 ?_
  refine wp_iadd X dL_law_875 ?_
  obtain ⟨hb876, h⟩ := h
  refine wp_sld X hX hb876 dL_law_876 ?_
  refine wp_aload_n X dL_law_877 0 rfl ?_
  refine wp_iload_n X dL_law_878 3 rfl ?_
  refine wp_iconst X dL_law_879 ic_3 ?_
  refine wp_iadd X dL_law_880 ?_
  obtain ⟨hb881, h⟩ := h
  refine wp_sld X hX hb881 dL_law_881 ?_
  refine cv_Model_count X dL_law_882 ml_L_85  h (Nat.le_of_ble_eq_true rfl) (by decide) (fun r882 I882 J882 h => ?_)
  refine wp_lcmp_eq (tgt := 1763) X dL_law_885 dL_law_886 (by decide) (fun hc => ?_) (fun hc => ?_)
  · have h := ite_t h hc
    exact w_law_b1763 X Y hX hkh h
  · have h := ite_f h hc
    refine wp_iconst X dL_law_889 ic_0 ?_
    exact h.elim

set_option maxRecDepth 100000 in
set_option maxHeartbeats 4000000 in
theorem w_law_b784 {Γ : Ctx} {b L : Nat} {xs : Nat → Int32} {x3 : Int32} {kh : Int32 → MI → MJ → Prop} (X : Cx Γ code 4 RL 10) (Y : LY Γ b) (hX : SX Γ b L xs)  (hkh : ∀ (x3 : Int32) (I : MI) (J : MJ), kh x3 I J → Wp Γ 4 18 [(0, .ref b), (1, .ref (ad Γ 0)), (2, .ref (ad Γ 177)), (3, .int x3)] [] I J) {I : MI} {J : MJ} (h : f_law_b784 L xs x3 kh I J) : Wp Γ 4 784 [(0, .ref b), (1, .ref (ad Γ 0)), (2, .ref (ad Γ 177)), (3, .int x3)] [] I J := by
  unfold f_law_b784 at h
  refine wp_aload_n X dL_law_784 1 rfl ?_
  refine wp_aload_n X dL_law_785 0 rfl ?_
  refine wp_iload_n X dL_law_786 3 rfl ?_
  refine wp_iconst X dL_law_787 ic_1 ?_
  refine wp_iadd X dL_law_788 ?_
  obtain ⟨hb789, h⟩ := h
  refine wp_sld X hX hb789 dL_law_789 ?_
  refine wp_aload_n X dL_law_790 0 rfl ?_
  refine wp_iload_n X dL_law_791 3 rfl ?_
  refine wp_iconst X dL_law_792 ic_2 ?_
  refine wp_iadd X dL_law_793 ?_
  obtain ⟨hb794, h⟩ := h
  refine wp_sld X hX hb794 dL_law_794 ?_
  refine wp_i2l X dL_law_795 ?_
  refine wp_bipush X dL_law_796 bi_32 ?_
  refine wp_lshl X dL_law_798 ?_
  refine wp_aload_n X dL_law_799 0 rfl ?_
  refine wp_iload_n X dL_law_800 3 rfl ?_
  refine wp_iconst X dL_law_801 ic_3 ?_
  refine wp_iadd X dL_law_802 ?_
  obtain ⟨hb803, h⟩ := h
  refine wp_sld X hX hb803 dL_law_803 ?_
  refine wp_i2l X dL_law_804 ?_
  refine wp_ldc2 X kl_L_74 dL_law_805 ?_
  refine wp_land X dL_law_808 ?_
  refine wp_lor X dL_law_809 ?_
  refine cv_School_answer X dL_law_810 ml_L_76  h (Nat.le_of_ble_eq_true rfl) (by decide) (fun r810 I810 J810 h => ?_)
  refine wp_aload_n X dL_law_813 2 rfl ?_
  refine wp_aload_n X dL_law_814 0 rfl ?_
  refine wp_iload_n X dL_law_815 3 rfl ?_
  refine wp_iconst X dL_law_816 ic_1 ?_
  refine wp_iadd X dL_law_817 ?_
  obtain ⟨hb818, h⟩ := h
  refine wp_sld X hX hb818 dL_law_818 ?_
  refine wp_aload_n X dL_law_819 0 rfl ?_
  refine wp_iload_n X dL_law_820 3 rfl ?_
  refine wp_iconst X dL_law_821 ic_2 ?_
  refine wp_iadd X dL_law_822 ?_
  obtain ⟨hb823, h⟩ := h
  refine wp_sld X hX hb823 dL_law_823 ?_
  refine wp_i2l X dL_law_824 ?_
  refine wp_bipush X dL_law_825 bi_32 ?_
  refine wp_lshl X dL_law_827 ?_
  refine wp_aload_n X dL_law_828 0 rfl ?_
  refine wp_iload_n X dL_law_829 3 rfl ?_
  refine wp_iconst X dL_law_830 ic_3 ?_
  refine wp_iadd X dL_law_831 ?_
  obtain ⟨hb832, h⟩ := h
  refine wp_sld X hX hb832 dL_law_832 ?_
  refine wp_i2l X dL_law_833 ?_
  refine wp_ldc2 X kl_L_74 dL_law_834 ?_
  refine wp_land X dL_law_837 ?_
  refine wp_lor X dL_law_838 ?_
  refine cv_Model_answer X dL_law_839 ml_L_80  h (Nat.le_of_ble_eq_true rfl) (by decide) (fun r839 I839 J839 h => ?_)
  refine wp_icmp_eq (tgt := 1763) X dL_law_842 (by decide) (fun hc => ?_) (fun hc => ?_)
  · have h := ite_t h hc
    exact w_law_b1763 X Y hX hkh h
  · have h := ite_f h hc
    refine wp_iconst X dL_law_845 ic_0 ?_
    exact h.elim

set_option maxRecDepth 100000 in
set_option maxHeartbeats 4000000 in
theorem w_law_b751 {Γ : Ctx} {b L : Nat} {xs : Nat → Int32} {x3 : Int32} {kh : Int32 → MI → MJ → Prop} (X : Cx Γ code 4 RL 10) (Y : LY Γ b) (hX : SX Γ b L xs)  (hkh : ∀ (x3 : Int32) (I : MI) (J : MJ), kh x3 I J → Wp Γ 4 18 [(0, .ref b), (1, .ref (ad Γ 0)), (2, .ref (ad Γ 177)), (3, .int x3)] [] I J) {I : MI} {J : MJ} (h : f_law_b751 L xs x3 kh I J) : Wp Γ 4 751 [(0, .ref b), (1, .ref (ad Γ 0)), (2, .ref (ad Γ 177)), (3, .int x3)] [] I J := by
  unfold f_law_b751 at h
  refine wp_aload_n X dL_law_751 1 rfl ?_
  refine wp_aload_n X dL_law_752 0 rfl ?_
  refine wp_iload_n X dL_law_753 3 rfl ?_
  refine wp_iconst X dL_law_754 ic_1 ?_
  refine wp_iadd X dL_law_755 ?_
  obtain ⟨hb756, h⟩ := h
  refine wp_sld X hX hb756 dL_law_756 ?_
  refine wp_aload_n X dL_law_757 0 rfl ?_
  refine wp_iload_n X dL_law_758 3 rfl ?_
  refine wp_iconst X dL_law_759 ic_2 ?_
  refine wp_iadd X dL_law_760 ?_
  obtain ⟨hb761, h⟩ := h
  refine wp_sld X hX hb761 dL_law_761 ?_
  refine cv_School_says X dL_law_762 ml_L_70  h (Nat.le_of_ble_eq_true rfl) (by decide) (fun r762 I762 J762 h => ?_)
  refine wp_aload_n X dL_law_765 2 rfl ?_
  refine wp_aload_n X dL_law_766 0 rfl ?_
  refine wp_iload_n X dL_law_767 3 rfl ?_
  refine wp_iconst X dL_law_768 ic_1 ?_
  refine wp_iadd X dL_law_769 ?_
  obtain ⟨hb770, h⟩ := h
  refine wp_sld X hX hb770 dL_law_770 ?_
  refine wp_aload_n X dL_law_771 0 rfl ?_
  refine wp_iload_n X dL_law_772 3 rfl ?_
  refine wp_iconst X dL_law_773 ic_2 ?_
  refine wp_iadd X dL_law_774 ?_
  obtain ⟨hb775, h⟩ := h
  refine wp_sld X hX hb775 dL_law_775 ?_
  refine cv_Model_says X dL_law_776 ml_L_73  h (Nat.le_of_ble_eq_true rfl) (by decide) (fun r776 I776 J776 h => ?_)
  refine wp_icmp_eq (tgt := 1763) X dL_law_779 (by decide) (fun hc => ?_) (fun hc => ?_)
  · have h := ite_t h hc
    exact w_law_b1763 X Y hX hkh h
  · have h := ite_f h hc
    refine wp_iconst X dL_law_782 ic_0 ?_
    exact h.elim

set_option maxRecDepth 100000 in
set_option maxHeartbeats 4000000 in
theorem w_law_b708 {Γ : Ctx} {b L : Nat} {xs : Nat → Int32} {x3 : Int32} {kh : Int32 → MI → MJ → Prop} (X : Cx Γ code 4 RL 10) (Y : LY Γ b) (hX : SX Γ b L xs)  (hkh : ∀ (x3 : Int32) (I : MI) (J : MJ), kh x3 I J → Wp Γ 4 18 [(0, .ref b), (1, .ref (ad Γ 0)), (2, .ref (ad Γ 177)), (3, .int x3)] [] I J) {I : MI} {J : MJ} (h : f_law_b708 L xs x3 kh I J) : Wp Γ 4 708 [(0, .ref b), (1, .ref (ad Γ 0)), (2, .ref (ad Γ 177)), (3, .int x3)] [] I J := by
  unfold f_law_b708 at h
  refine wp_aload_n X dL_law_708 1 rfl ?_
  refine wp_aload_n X dL_law_709 0 rfl ?_
  refine wp_iload_n X dL_law_710 3 rfl ?_
  refine wp_iconst X dL_law_711 ic_1 ?_
  refine wp_iadd X dL_law_712 ?_
  obtain ⟨hb713, h⟩ := h
  refine wp_sld X hX hb713 dL_law_713 ?_
  refine wp_aload_n X dL_law_714 0 rfl ?_
  refine wp_iload_n X dL_law_715 3 rfl ?_
  refine wp_iconst X dL_law_716 ic_2 ?_
  refine wp_iadd X dL_law_717 ?_
  obtain ⟨hb718, h⟩ := h
  refine wp_sld X hX hb718 dL_law_718 ?_
  refine wp_aload_n X dL_law_719 0 rfl ?_
  refine wp_iload_n X dL_law_720 3 rfl ?_
  refine wp_iconst X dL_law_721 ic_3 ?_
  refine wp_iadd X dL_law_722 ?_
  obtain ⟨hb723, h⟩ := h
  refine wp_sld X hX hb723 dL_law_723 ?_
  refine cv_School_what X dL_law_724 ml_L_66  h (Nat.le_of_ble_eq_true rfl) (by decide) (fun r724 I724 J724 h => ?_)
  refine wp_aload_n X dL_law_727 2 rfl ?_
  refine wp_aload_n X dL_law_728 0 rfl ?_
  refine wp_iload_n X dL_law_729 3 rfl ?_
  refine wp_iconst X dL_law_730 ic_1 ?_
  refine wp_iadd X dL_law_731 ?_
  obtain ⟨hb732, h⟩ := h
  refine wp_sld X hX hb732 dL_law_732 ?_
  refine wp_aload_n X dL_law_733 0 rfl ?_
  refine wp_iload_n X dL_law_734 3 rfl ?_
  refine wp_iconst X dL_law_735 ic_2 ?_
  refine wp_iadd X dL_law_736 ?_
  obtain ⟨hb737, h⟩ := h
  refine wp_sld X hX hb737 dL_law_737 ?_
  refine wp_aload_n X dL_law_738 0 rfl ?_
  refine wp_iload_n X dL_law_739 3 rfl ?_
  refine wp_iconst X dL_law_740 ic_3 ?_
  refine wp_iadd X dL_law_741 ?_
  obtain ⟨hb742, h⟩ := h
  refine wp_sld X hX hb742 dL_law_742 ?_
  refine cv_Model_what X dL_law_743 ml_L_69  h (Nat.le_of_ble_eq_true rfl) (by decide) (fun r743 I743 J743 h => ?_)
  refine wp_icmp_eq (tgt := 1763) X dL_law_746 (by decide) (fun hc => ?_) (fun hc => ?_)
  · have h := ite_t h hc
    exact w_law_b1763 X Y hX hkh h
  · have h := ite_f h hc
    refine wp_iconst X dL_law_749 ic_0 ?_
    exact h.elim

set_option maxRecDepth 100000 in
set_option maxHeartbeats 4000000 in
theorem w_law_b665 {Γ : Ctx} {b L : Nat} {xs : Nat → Int32} {x3 : Int32} {kh : Int32 → MI → MJ → Prop} (X : Cx Γ code 4 RL 10) (Y : LY Γ b) (hX : SX Γ b L xs)  (hkh : ∀ (x3 : Int32) (I : MI) (J : MJ), kh x3 I J → Wp Γ 4 18 [(0, .ref b), (1, .ref (ad Γ 0)), (2, .ref (ad Γ 177)), (3, .int x3)] [] I J) {I : MI} {J : MJ} (h : f_law_b665 L xs x3 kh I J) : Wp Γ 4 665 [(0, .ref b), (1, .ref (ad Γ 0)), (2, .ref (ad Γ 177)), (3, .int x3)] [] I J := by
  unfold f_law_b665 at h
  refine wp_aload_n X dL_law_665 1 rfl ?_
  refine wp_aload_n X dL_law_666 0 rfl ?_
  refine wp_iload_n X dL_law_667 3 rfl ?_
  refine wp_iconst X dL_law_668 ic_1 ?_
  refine wp_iadd X dL_law_669 ?_
  obtain ⟨hb670, h⟩ := h
  refine wp_sld X hX hb670 dL_law_670 ?_
  refine wp_aload_n X dL_law_671 0 rfl ?_
  refine wp_iload_n X dL_law_672 3 rfl ?_
  refine wp_iconst X dL_law_673 ic_2 ?_
  refine wp_iadd X dL_law_674 ?_
  obtain ⟨hb675, h⟩ := h
  refine wp_sld X hX hb675 dL_law_675 ?_
  refine wp_aload_n X dL_law_676 0 rfl ?_
  refine wp_iload_n X dL_law_677 3 rfl ?_
  refine wp_iconst X dL_law_678 ic_3 ?_
  refine wp_iadd X dL_law_679 ?_
  obtain ⟨hb680, h⟩ := h
  refine wp_sld X hX hb680 dL_law_680 ?_
  refine cv_School_leads X dL_law_681 ml_L_62  h (Nat.le_of_ble_eq_true rfl) (by decide) (fun r681 I681 J681 h => ?_)
  refine wp_aload_n X dL_law_684 2 rfl ?_
  refine wp_aload_n X dL_law_685 0 rfl ?_
  refine wp_iload_n X dL_law_686 3 rfl ?_
  refine wp_iconst X dL_law_687 ic_1 ?_
  refine wp_iadd X dL_law_688 ?_
  obtain ⟨hb689, h⟩ := h
  refine wp_sld X hX hb689 dL_law_689 ?_
  refine wp_aload_n X dL_law_690 0 rfl ?_
  refine wp_iload_n X dL_law_691 3 rfl ?_
  refine wp_iconst X dL_law_692 ic_2 ?_
  refine wp_iadd X dL_law_693 ?_
  obtain ⟨hb694, h⟩ := h
  refine wp_sld X hX hb694 dL_law_694 ?_
  refine wp_aload_n X dL_law_695 0 rfl ?_
  refine wp_iload_n X dL_law_696 3 rfl ?_
  refine wp_iconst X dL_law_697 ic_3 ?_
  refine wp_iadd X dL_law_698 ?_
  obtain ⟨hb699, h⟩ := h
  refine wp_sld X hX hb699 dL_law_699 ?_
  refine cv_Model_leads X dL_law_700 ml_L_65  h (Nat.le_of_ble_eq_true rfl) (by decide) (fun r700 I700 J700 h => ?_)
  refine wp_icmp_eq (tgt := 1763) X dL_law_703 (by decide) (fun hc => ?_) (fun hc => ?_)
  · have h := ite_t h hc
    exact w_law_b1763 X Y hX hkh h
  · have h := ite_f h hc
    refine wp_iconst X dL_law_706 ic_0 ?_
    exact h.elim

set_option maxRecDepth 100000 in
set_option maxHeartbeats 4000000 in
theorem w_law_b632 {Γ : Ctx} {b L : Nat} {xs : Nat → Int32} {x3 : Int32} {kh : Int32 → MI → MJ → Prop} (X : Cx Γ code 4 RL 10) (Y : LY Γ b) (hX : SX Γ b L xs)  (hkh : ∀ (x3 : Int32) (I : MI) (J : MJ), kh x3 I J → Wp Γ 4 18 [(0, .ref b), (1, .ref (ad Γ 0)), (2, .ref (ad Γ 177)), (3, .int x3)] [] I J) {I : MI} {J : MJ} (h : f_law_b632 L xs x3 kh I J) : Wp Γ 4 632 [(0, .ref b), (1, .ref (ad Γ 0)), (2, .ref (ad Γ 177)), (3, .int x3)] [] I J := by
  unfold f_law_b632 at h
  refine wp_aload_n X dL_law_632 1 rfl ?_
  refine wp_aload_n X dL_law_633 0 rfl ?_
  refine wp_iload_n X dL_law_634 3 rfl ?_
  refine wp_iconst X dL_law_635 ic_1 ?_
  refine wp_iadd X dL_law_636 ?_
  obtain ⟨hb637, h⟩ := h
  refine wp_sld X hX hb637 dL_law_637 ?_
  refine wp_aload_n X dL_law_638 0 rfl ?_
  refine wp_iload_n X dL_law_639 3 rfl ?_
  refine wp_iconst X dL_law_640 ic_2 ?_
  refine wp_iadd X dL_law_641 ?_
  obtain ⟨hb642, h⟩ := h
  refine wp_sld X hX hb642 dL_law_642 ?_
  refine cv_School_size X dL_law_643 ml_L_58  h (Nat.le_of_ble_eq_true rfl) (by decide) (fun r643 I643 J643 h => ?_)
  refine wp_aload_n X dL_law_646 2 rfl ?_
  refine wp_aload_n X dL_law_647 0 rfl ?_
  refine wp_iload_n X dL_law_648 3 rfl ?_
  refine wp_iconst X dL_law_649 ic_1 ?_
  refine wp_iadd X dL_law_650 ?_
  obtain ⟨hb651, h⟩ := h
  refine wp_sld X hX hb651 dL_law_651 ?_
  refine wp_aload_n X dL_law_652 0 rfl ?_
  refine wp_iload_n X dL_law_653 3 rfl ?_
  refine wp_iconst X dL_law_654 ic_2 ?_
  refine wp_iadd X dL_law_655 ?_
  obtain ⟨hb656, h⟩ := h
  refine wp_sld X hX hb656 dL_law_656 ?_
  refine cv_Model_size X dL_law_657 ml_L_61  h (Nat.le_of_ble_eq_true rfl) (by decide) (fun r657 I657 J657 h => ?_)
  refine wp_icmp_eq (tgt := 1763) X dL_law_660 (by decide) (fun hc => ?_) (fun hc => ?_)
  · have h := ite_t h hc
    exact w_law_b1763 X Y hX hkh h
  · have h := ite_f h hc
    refine wp_iconst X dL_law_663 ic_0 ?_
    exact h.elim

set_option maxRecDepth 100000 in
set_option maxHeartbeats 4000000 in
theorem w_law_b609 {Γ : Ctx} {b L : Nat} {xs : Nat → Int32} {x3 : Int32} {kh : Int32 → MI → MJ → Prop} (X : Cx Γ code 4 RL 10) (Y : LY Γ b) (hX : SX Γ b L xs)  (hkh : ∀ (x3 : Int32) (I : MI) (J : MJ), kh x3 I J → Wp Γ 4 18 [(0, .ref b), (1, .ref (ad Γ 0)), (2, .ref (ad Γ 177)), (3, .int x3)] [] I J) {I : MI} {J : MJ} (h : f_law_b609 L xs x3 kh I J) : Wp Γ 4 609 [(0, .ref b), (1, .ref (ad Γ 0)), (2, .ref (ad Γ 177)), (3, .int x3)] [] I J := by
  unfold f_law_b609 at h
  refine wp_aload_n X dL_law_609 1 rfl ?_
  refine wp_aload_n X dL_law_610 0 rfl ?_
  refine wp_iload_n X dL_law_611 3 rfl ?_
  refine wp_iconst X dL_law_612 ic_1 ?_
  refine wp_iadd X dL_law_613 ?_
  obtain ⟨hb614, h⟩ := h
  refine wp_sld X hX hb614 dL_law_614 ?_
  refine cv_School_kind X dL_law_615 ml_L_54  h (Nat.le_of_ble_eq_true rfl) (by decide) (fun r615 I615 J615 h => ?_)
  refine wp_aload_n X dL_law_618 2 rfl ?_
  refine wp_aload_n X dL_law_619 0 rfl ?_
  refine wp_iload_n X dL_law_620 3 rfl ?_
  refine wp_iconst X dL_law_621 ic_1 ?_
  refine wp_iadd X dL_law_622 ?_
  obtain ⟨hb623, h⟩ := h
  refine wp_sld X hX hb623 dL_law_623 ?_
  refine cv_Model_kind X dL_law_624 ml_L_57  h (Nat.le_of_ble_eq_true rfl) (by decide) (fun r624 I624 J624 h => ?_)
  refine wp_icmp_eq (tgt := 1763) X dL_law_627 (by decide) (fun hc => ?_) (fun hc => ?_)
  · have h := ite_t h hc
    exact w_law_b1763 X Y hX hkh h
  · have h := ite_f h hc
    refine wp_iconst X dL_law_630 ic_0 ?_
    exact h.elim

set_option maxRecDepth 100000 in
set_option maxHeartbeats 4000000 in
theorem w_law_b586 {Γ : Ctx} {b L : Nat} {xs : Nat → Int32} {x3 : Int32} {kh : Int32 → MI → MJ → Prop} (X : Cx Γ code 4 RL 10) (Y : LY Γ b) (hX : SX Γ b L xs)  (hkh : ∀ (x3 : Int32) (I : MI) (J : MJ), kh x3 I J → Wp Γ 4 18 [(0, .ref b), (1, .ref (ad Γ 0)), (2, .ref (ad Γ 177)), (3, .int x3)] [] I J) {I : MI} {J : MJ} (h : f_law_b586 L xs x3 kh I J) : Wp Γ 4 586 [(0, .ref b), (1, .ref (ad Γ 0)), (2, .ref (ad Γ 177)), (3, .int x3)] [] I J := by
  unfold f_law_b586 at h
  refine wp_aload_n X dL_law_586 1 rfl ?_
  refine wp_aload_n X dL_law_587 0 rfl ?_
  refine wp_iload_n X dL_law_588 3 rfl ?_
  refine wp_iconst X dL_law_589 ic_1 ?_
  refine wp_iadd X dL_law_590 ?_
  obtain ⟨hb591, h⟩ := h
  refine wp_sld X hX hb591 dL_law_591 ?_
  refine cv_School_lift X dL_law_592 ml_L_49  h (Nat.le_of_ble_eq_true rfl) (by decide) (fun r592 I592 J592 h => ?_)
  refine wp_aload_n X dL_law_595 2 rfl ?_
  refine wp_aload_n X dL_law_596 0 rfl ?_
  refine wp_iload_n X dL_law_597 3 rfl ?_
  refine wp_iconst X dL_law_598 ic_1 ?_
  refine wp_iadd X dL_law_599 ?_
  obtain ⟨hb600, h⟩ := h
  refine wp_sld X hX hb600 dL_law_600 ?_
  refine cv_Model_lift X dL_law_601 ml_L_53  h (Nat.le_of_ble_eq_true rfl) (by decide) (fun r601 I601 J601 h => ?_)
  refine wp_icmp_eq (tgt := 1763) X dL_law_604 (by decide) (fun hc => ?_) (fun hc => ?_)
  · have h := ite_t h hc
    exact w_law_b1763 X Y hX hkh h
  · have h := ite_f h hc
    refine wp_iconst X dL_law_607 ic_0 ?_
    exact h.elim

set_option maxRecDepth 100000 in
set_option maxHeartbeats 4000000 in
theorem w_law_b553 {Γ : Ctx} {b L : Nat} {xs : Nat → Int32} {x3 : Int32} {kh : Int32 → MI → MJ → Prop} (X : Cx Γ code 4 RL 10) (Y : LY Γ b) (hX : SX Γ b L xs)  (hkh : ∀ (x3 : Int32) (I : MI) (J : MJ), kh x3 I J → Wp Γ 4 18 [(0, .ref b), (1, .ref (ad Γ 0)), (2, .ref (ad Γ 177)), (3, .int x3)] [] I J) {I : MI} {J : MJ} (h : f_law_b553 L xs x3 kh I J) : Wp Γ 4 553 [(0, .ref b), (1, .ref (ad Γ 0)), (2, .ref (ad Γ 177)), (3, .int x3)] [] I J := by
  unfold f_law_b553 at h
  refine wp_aload_n X dL_law_553 1 rfl ?_
  refine wp_aload_n X dL_law_554 0 rfl ?_
  refine wp_iload_n X dL_law_555 3 rfl ?_
  refine wp_iconst X dL_law_556 ic_1 ?_
  refine wp_iadd X dL_law_557 ?_
  obtain ⟨hb558, h⟩ := h
  refine wp_sld X hX hb558 dL_law_558 ?_
  refine wp_aload_n X dL_law_559 0 rfl ?_
  refine wp_iload_n X dL_law_560 3 rfl ?_
  refine wp_iconst X dL_law_561 ic_2 ?_
  refine wp_iadd X dL_law_562 ?_
  obtain ⟨hb563, h⟩ := h
  refine wp_sld X hX hb563 dL_law_563 ?_
  refine cv_School_draw X dL_law_564 ml_L_45  h (Nat.le_of_ble_eq_true rfl) (by decide) (fun r564 I564 J564 h => ?_)
  refine wp_aload_n X dL_law_567 2 rfl ?_
  refine wp_aload_n X dL_law_568 0 rfl ?_
  refine wp_iload_n X dL_law_569 3 rfl ?_
  refine wp_iconst X dL_law_570 ic_1 ?_
  refine wp_iadd X dL_law_571 ?_
  obtain ⟨hb572, h⟩ := h
  refine wp_sld X hX hb572 dL_law_572 ?_
  refine wp_aload_n X dL_law_573 0 rfl ?_
  refine wp_iload_n X dL_law_574 3 rfl ?_
  refine wp_iconst X dL_law_575 ic_2 ?_
  refine wp_iadd X dL_law_576 ?_
  obtain ⟨hb577, h⟩ := h
  refine wp_sld X hX hb577 dL_law_577 ?_
  refine cv_Model_draw X dL_law_578 ml_L_48  h (Nat.le_of_ble_eq_true rfl) (by decide) (fun r578 I578 J578 h => ?_)
  refine wp_icmp_eq (tgt := 1763) X dL_law_581 (by decide) (fun hc => ?_) (fun hc => ?_)
  · have h := ite_t h hc
    exact w_law_b1763 X Y hX hkh h
  · have h := ite_f h hc
    refine wp_iconst X dL_law_584 ic_0 ?_
    exact h.elim

set_option maxRecDepth 100000 in
set_option maxHeartbeats 4000000 in
theorem w_law_b490 {Γ : Ctx} {b L : Nat} {xs : Nat → Int32} {x3 : Int32} {kh : Int32 → MI → MJ → Prop} (X : Cx Γ code 4 RL 10) (Y : LY Γ b) (hX : SX Γ b L xs)  (hkh : ∀ (x3 : Int32) (I : MI) (J : MJ), kh x3 I J → Wp Γ 4 18 [(0, .ref b), (1, .ref (ad Γ 0)), (2, .ref (ad Γ 177)), (3, .int x3)] [] I J) {I : MI} {J : MJ} (h : f_law_b490 L xs x3 kh I J) : Wp Γ 4 490 [(0, .ref b), (1, .ref (ad Γ 0)), (2, .ref (ad Γ 177)), (3, .int x3)] [] I J := by
  unfold f_law_b490 at h
  refine wp_aload_n X dL_law_490 1 rfl ?_
  refine wp_aload_n X dL_law_491 0 rfl ?_
  refine wp_iload_n X dL_law_492 3 rfl ?_
  refine wp_iconst X dL_law_493 ic_1 ?_
  refine wp_iadd X dL_law_494 ?_
  obtain ⟨hb495, h⟩ := h
  refine wp_sld X hX hb495 dL_law_495 ?_
  refine wp_aload_n X dL_law_496 0 rfl ?_
  refine wp_iload_n X dL_law_497 3 rfl ?_
  refine wp_iconst X dL_law_498 ic_2 ?_
  refine wp_iadd X dL_law_499 ?_
  obtain ⟨hb500, h⟩ := h
  refine wp_sld X hX hb500 dL_law_500 ?_
  refine wp_aload_n X dL_law_501 0 rfl ?_
  refine wp_iload_n X dL_law_502 3 rfl ?_
  refine wp_iconst X dL_law_503 ic_3 ?_
  refine wp_iadd X dL_law_504 ?_
  obtain ⟨hb505, h⟩ := h
  refine wp_sld X hX hb505 dL_law_505 ?_
  refine wp_aload_n X dL_law_506 0 rfl ?_
  refine wp_iload_n X dL_law_507 3 rfl ?_
  refine wp_iconst X dL_law_508 ic_4 ?_
  refine wp_iadd X dL_law_509 ?_
  obtain ⟨hb510, h⟩ := h
  refine wp_sld X hX hb510 dL_law_510 ?_
  refine wp_aload_n X dL_law_511 0 rfl ?_
  refine wp_iload_n X dL_law_512 3 rfl ?_
  refine wp_iconst X dL_law_513 ic_5 ?_
  refine wp_iadd X dL_law_514 ?_
  obtain ⟨hb515, h⟩ := h
  refine wp_sld X hX hb515 dL_law_515 ?_
  refine cv_School_copy X dL_law_516 ml_L_40  h (Nat.le_of_ble_eq_true rfl) (by decide) (fun r516 I516 J516 h => ?_)
  refine wp_aload_n X dL_law_519 2 rfl ?_
  refine wp_aload_n X dL_law_520 0 rfl ?_
  refine wp_iload_n X dL_law_521 3 rfl ?_
  refine wp_iconst X dL_law_522 ic_1 ?_
  refine wp_iadd X dL_law_523 ?_
  obtain ⟨hb524, h⟩ := h
  refine wp_sld X hX hb524 dL_law_524 ?_
  refine wp_aload_n X dL_law_525 0 rfl ?_
  refine wp_iload_n X dL_law_526 3 rfl ?_
  refine wp_iconst X dL_law_527 ic_2 ?_
  refine wp_iadd X dL_law_528 ?_
  obtain ⟨hb529, h⟩ := h
  refine wp_sld X hX hb529 dL_law_529 ?_
  refine wp_aload_n X dL_law_530 0 rfl ?_
  refine wp_iload_n X dL_law_531 3 rfl ?_
  refine wp_iconst X dL_law_532 ic_3 ?_
  refine wp_iadd X dL_law_533 ?_
  obtain ⟨hb534, h⟩ := h
  refine wp_sld X hX hb534 dL_law_534 ?_
  refine wp_aload_n X dL_law_535 0 rfl ?_
  refine wp_iload_n X dL_law_536 3 rfl ?_
  refine wp_iconst X dL_law_537 ic_4 ?_
  refine wp_iadd X dL_law_538 ?_
  obtain ⟨hb539, h⟩ := h
  refine wp_sld X hX hb539 dL_law_539 ?_
  refine wp_aload_n X dL_law_540 0 rfl ?_
  refine wp_iload_n X dL_law_541 3 rfl ?_
  refine wp_iconst X dL_law_542 ic_5 ?_
  refine wp_iadd X dL_law_543 ?_
  obtain ⟨hb544, h⟩ := h
  refine wp_sld X hX hb544 dL_law_544 ?_
  refine cv_Model_copy X dL_law_545 ml_L_44  h (Nat.le_of_ble_eq_true rfl) (by decide) (fun r545 I545 J545 h => ?_)
  refine wp_icmp_eq (tgt := 1763) X dL_law_548 (by decide) (fun hc => ?_) (fun hc => ?_)
  · have h := ite_t h hc
    exact w_law_b1763 X Y hX hkh h
  · have h := ite_f h hc
    refine wp_iconst X dL_law_551 ic_0 ?_
    exact h.elim

set_option maxRecDepth 100000 in
set_option maxHeartbeats 4000000 in
theorem w_law_b437 {Γ : Ctx} {b L : Nat} {xs : Nat → Int32} {x3 : Int32} {kh : Int32 → MI → MJ → Prop} (X : Cx Γ code 4 RL 10) (Y : LY Γ b) (hX : SX Γ b L xs)  (hkh : ∀ (x3 : Int32) (I : MI) (J : MJ), kh x3 I J → Wp Γ 4 18 [(0, .ref b), (1, .ref (ad Γ 0)), (2, .ref (ad Γ 177)), (3, .int x3)] [] I J) {I : MI} {J : MJ} (h : f_law_b437 L xs x3 kh I J) : Wp Γ 4 437 [(0, .ref b), (1, .ref (ad Γ 0)), (2, .ref (ad Γ 177)), (3, .int x3)] [] I J := by
  unfold f_law_b437 at h
  refine wp_aload_n X dL_law_437 1 rfl ?_
  refine wp_aload_n X dL_law_438 0 rfl ?_
  refine wp_iload_n X dL_law_439 3 rfl ?_
  refine wp_iconst X dL_law_440 ic_1 ?_
  refine wp_iadd X dL_law_441 ?_
  obtain ⟨hb442, h⟩ := h
  refine wp_sld X hX hb442 dL_law_442 ?_
  refine wp_aload_n X dL_law_443 0 rfl ?_
  refine wp_iload_n X dL_law_444 3 rfl ?_
  refine wp_iconst X dL_law_445 ic_2 ?_
  refine wp_iadd X dL_law_446 ?_
  obtain ⟨hb447, h⟩ := h
  refine wp_sld X hX hb447 dL_law_447 ?_
  refine wp_aload_n X dL_law_448 0 rfl ?_
  refine wp_iload_n X dL_law_449 3 rfl ?_
  refine wp_iconst X dL_law_450 ic_3 ?_
  refine wp_iadd X dL_law_451 ?_
  obtain ⟨hb452, h⟩ := h
  refine wp_sld X hX hb452 dL_law_452 ?_
  refine wp_aload_n X dL_law_453 0 rfl ?_
  refine wp_iload_n X dL_law_454 3 rfl ?_
  refine wp_iconst X dL_law_455 ic_4 ?_
  refine wp_iadd X dL_law_456 ?_
  obtain ⟨hb457, h⟩ := h
  refine wp_sld X hX hb457 dL_law_457 ?_
  refine cv_School_act X dL_law_458 ml_L_36  h (Nat.le_of_ble_eq_true rfl) (by decide) (fun r458 I458 J458 h => ?_)
  refine wp_aload_n X dL_law_461 2 rfl ?_
  refine wp_aload_n X dL_law_462 0 rfl ?_
  refine wp_iload_n X dL_law_463 3 rfl ?_
  refine wp_iconst X dL_law_464 ic_1 ?_
  refine wp_iadd X dL_law_465 ?_
  obtain ⟨hb466, h⟩ := h
  refine wp_sld X hX hb466 dL_law_466 ?_
  refine wp_aload_n X dL_law_467 0 rfl ?_
  refine wp_iload_n X dL_law_468 3 rfl ?_
  refine wp_iconst X dL_law_469 ic_2 ?_
  refine wp_iadd X dL_law_470 ?_
  obtain ⟨hb471, h⟩ := h
  refine wp_sld X hX hb471 dL_law_471 ?_
  refine wp_aload_n X dL_law_472 0 rfl ?_
  refine wp_iload_n X dL_law_473 3 rfl ?_
  refine wp_iconst X dL_law_474 ic_3 ?_
  refine wp_iadd X dL_law_475 ?_
  obtain ⟨hb476, h⟩ := h
  refine wp_sld X hX hb476 dL_law_476 ?_
  refine wp_aload_n X dL_law_477 0 rfl ?_
  refine wp_iload_n X dL_law_478 3 rfl ?_
  refine wp_iconst X dL_law_479 ic_4 ?_
  refine wp_iadd X dL_law_480 ?_
  obtain ⟨hb481, h⟩ := h
  refine wp_sld X hX hb481 dL_law_481 ?_
  refine cv_Model_act X dL_law_482 ml_L_39  h (Nat.le_of_ble_eq_true rfl) (by decide) (fun r482 I482 J482 h => ?_)
  refine wp_icmp_eq (tgt := 1763) X dL_law_485 (by decide) (fun hc => ?_) (fun hc => ?_)
  · have h := ite_t h hc
    exact w_law_b1763 X Y hX hkh h
  · have h := ite_f h hc
    refine wp_iconst X dL_law_488 ic_0 ?_
    exact h.elim

set_option maxRecDepth 100000 in
set_option maxHeartbeats 4000000 in
theorem w_law_b394 {Γ : Ctx} {b L : Nat} {xs : Nat → Int32} {x3 : Int32} {kh : Int32 → MI → MJ → Prop} (X : Cx Γ code 4 RL 10) (Y : LY Γ b) (hX : SX Γ b L xs)  (hkh : ∀ (x3 : Int32) (I : MI) (J : MJ), kh x3 I J → Wp Γ 4 18 [(0, .ref b), (1, .ref (ad Γ 0)), (2, .ref (ad Γ 177)), (3, .int x3)] [] I J) {I : MI} {J : MJ} (h : f_law_b394 L xs x3 kh I J) : Wp Γ 4 394 [(0, .ref b), (1, .ref (ad Γ 0)), (2, .ref (ad Γ 177)), (3, .int x3)] [] I J := by
  unfold f_law_b394 at h
  refine wp_aload_n X dL_law_394 1 rfl ?_
  refine wp_aload_n X dL_law_395 0 rfl ?_
  refine wp_iload_n X dL_law_396 3 rfl ?_
  refine wp_iconst X dL_law_397 ic_1 ?_
  refine wp_iadd X dL_law_398 ?_
  obtain ⟨hb399, h⟩ := h
  refine wp_sld X hX hb399 dL_law_399 ?_
  refine wp_aload_n X dL_law_400 0 rfl ?_
  refine wp_iload_n X dL_law_401 3 rfl ?_
  refine wp_iconst X dL_law_402 ic_2 ?_
  refine wp_iadd X dL_law_403 ?_
  obtain ⟨hb404, h⟩ := h
  refine wp_sld X hX hb404 dL_law_404 ?_
  refine wp_aload_n X dL_law_405 0 rfl ?_
  refine wp_iload_n X dL_law_406 3 rfl ?_
  refine wp_iconst X dL_law_407 ic_3 ?_
  refine wp_iadd X dL_law_408 ?_
  obtain ⟨hb409, h⟩ := h
  refine wp_sld X hX hb409 dL_law_409 ?_
  refine cv_School_say X dL_law_410 ml_L_32  h (Nat.le_of_ble_eq_true rfl) (by decide) (fun r410 I410 J410 h => ?_)
  refine wp_aload_n X dL_law_413 2 rfl ?_
  refine wp_aload_n X dL_law_414 0 rfl ?_
  refine wp_iload_n X dL_law_415 3 rfl ?_
  refine wp_iconst X dL_law_416 ic_1 ?_
  refine wp_iadd X dL_law_417 ?_
  obtain ⟨hb418, h⟩ := h
  refine wp_sld X hX hb418 dL_law_418 ?_
  refine wp_aload_n X dL_law_419 0 rfl ?_
  refine wp_iload_n X dL_law_420 3 rfl ?_
  refine wp_iconst X dL_law_421 ic_2 ?_
  refine wp_iadd X dL_law_422 ?_
  obtain ⟨hb423, h⟩ := h
  refine wp_sld X hX hb423 dL_law_423 ?_
  refine wp_aload_n X dL_law_424 0 rfl ?_
  refine wp_iload_n X dL_law_425 3 rfl ?_
  refine wp_iconst X dL_law_426 ic_3 ?_
  refine wp_iadd X dL_law_427 ?_
  obtain ⟨hb428, h⟩ := h
  refine wp_sld X hX hb428 dL_law_428 ?_
  refine cv_Model_say X dL_law_429 ml_L_35  h (Nat.le_of_ble_eq_true rfl) (by decide) (fun r429 I429 J429 h => ?_)
  refine wp_icmp_eq (tgt := 1763) X dL_law_432 (by decide) (fun hc => ?_) (fun hc => ?_)
  · have h := ite_t h hc
    exact w_law_b1763 X Y hX hkh h
  · have h := ite_f h hc
    refine wp_iconst X dL_law_435 ic_0 ?_
    exact h.elim

set_option maxRecDepth 100000 in
set_option maxHeartbeats 4000000 in
theorem w_law_b341 {Γ : Ctx} {b L : Nat} {xs : Nat → Int32} {x3 : Int32} {kh : Int32 → MI → MJ → Prop} (X : Cx Γ code 4 RL 10) (Y : LY Γ b) (hX : SX Γ b L xs)  (hkh : ∀ (x3 : Int32) (I : MI) (J : MJ), kh x3 I J → Wp Γ 4 18 [(0, .ref b), (1, .ref (ad Γ 0)), (2, .ref (ad Γ 177)), (3, .int x3)] [] I J) {I : MI} {J : MJ} (h : f_law_b341 L xs x3 kh I J) : Wp Γ 4 341 [(0, .ref b), (1, .ref (ad Γ 0)), (2, .ref (ad Γ 177)), (3, .int x3)] [] I J := by
  unfold f_law_b341 at h
  refine wp_aload_n X dL_law_341 1 rfl ?_
  refine wp_aload_n X dL_law_342 0 rfl ?_
  refine wp_iload_n X dL_law_343 3 rfl ?_
  refine wp_iconst X dL_law_344 ic_1 ?_
  refine wp_iadd X dL_law_345 ?_
  obtain ⟨hb346, h⟩ := h
  refine wp_sld X hX hb346 dL_law_346 ?_
  refine wp_aload_n X dL_law_347 0 rfl ?_
  refine wp_iload_n X dL_law_348 3 rfl ?_
  refine wp_iconst X dL_law_349 ic_2 ?_
  refine wp_iadd X dL_law_350 ?_
  obtain ⟨hb351, h⟩ := h
  refine wp_sld X hX hb351 dL_law_351 ?_
  refine wp_aload_n X dL_law_352 0 rfl ?_
  refine wp_iload_n X dL_law_353 3 rfl ?_
  refine wp_iconst X dL_law_354 ic_3 ?_
  refine wp_iadd X dL_law_355 ?_
  obtain ⟨hb356, h⟩ := h
  refine wp_sld X hX hb356 dL_law_356 ?_
  refine wp_aload_n X dL_law_357 0 rfl ?_
  refine wp_iload_n X dL_law_358 3 rfl ?_
  refine wp_iconst X dL_law_359 ic_4 ?_
  refine wp_iadd X dL_law_360 ?_
  obtain ⟨hb361, h⟩ := h
  refine wp_sld X hX hb361 dL_law_361 ?_
  refine cv_School_take X dL_law_362 ml_L_28  h (Nat.le_of_ble_eq_true rfl) (by decide) (fun r362 I362 J362 h => ?_)
  refine wp_aload_n X dL_law_365 2 rfl ?_
  refine wp_aload_n X dL_law_366 0 rfl ?_
  refine wp_iload_n X dL_law_367 3 rfl ?_
  refine wp_iconst X dL_law_368 ic_1 ?_
  refine wp_iadd X dL_law_369 ?_
  obtain ⟨hb370, h⟩ := h
  refine wp_sld X hX hb370 dL_law_370 ?_
  refine wp_aload_n X dL_law_371 0 rfl ?_
  refine wp_iload_n X dL_law_372 3 rfl ?_
  refine wp_iconst X dL_law_373 ic_2 ?_
  refine wp_iadd X dL_law_374 ?_
  obtain ⟨hb375, h⟩ := h
  refine wp_sld X hX hb375 dL_law_375 ?_
  refine wp_aload_n X dL_law_376 0 rfl ?_
  refine wp_iload_n X dL_law_377 3 rfl ?_
  refine wp_iconst X dL_law_378 ic_3 ?_
  refine wp_iadd X dL_law_379 ?_
  obtain ⟨hb380, h⟩ := h
  refine wp_sld X hX hb380 dL_law_380 ?_
  refine wp_aload_n X dL_law_381 0 rfl ?_
  refine wp_iload_n X dL_law_382 3 rfl ?_
  refine wp_iconst X dL_law_383 ic_4 ?_
  refine wp_iadd X dL_law_384 ?_
  obtain ⟨hb385, h⟩ := h
  refine wp_sld X hX hb385 dL_law_385 ?_
  refine cv_Model_take X dL_law_386 ml_L_31  h (Nat.le_of_ble_eq_true rfl) (by decide) (fun r386 I386 J386 h => ?_)
  refine wp_icmp_eq (tgt := 1763) X dL_law_389 (by decide) (fun hc => ?_) (fun hc => ?_)
  · have h := ite_t h hc
    exact w_law_b1763 X Y hX hkh h
  · have h := ite_f h hc
    refine wp_iconst X dL_law_392 ic_0 ?_
    exact h.elim

set_option maxRecDepth 100000 in
set_option maxHeartbeats 4000000 in
theorem w_law_b308 {Γ : Ctx} {b L : Nat} {xs : Nat → Int32} {x3 : Int32} {kh : Int32 → MI → MJ → Prop} (X : Cx Γ code 4 RL 10) (Y : LY Γ b) (hX : SX Γ b L xs)  (hkh : ∀ (x3 : Int32) (I : MI) (J : MJ), kh x3 I J → Wp Γ 4 18 [(0, .ref b), (1, .ref (ad Γ 0)), (2, .ref (ad Γ 177)), (3, .int x3)] [] I J) {I : MI} {J : MJ} (h : f_law_b308 L xs x3 kh I J) : Wp Γ 4 308 [(0, .ref b), (1, .ref (ad Γ 0)), (2, .ref (ad Γ 177)), (3, .int x3)] [] I J := by
  unfold f_law_b308 at h
  refine wp_aload_n X dL_law_308 1 rfl ?_
  refine wp_aload_n X dL_law_309 0 rfl ?_
  refine wp_iload_n X dL_law_310 3 rfl ?_
  refine wp_iconst X dL_law_311 ic_1 ?_
  refine wp_iadd X dL_law_312 ?_
  obtain ⟨hb313, h⟩ := h
  refine wp_sld X hX hb313 dL_law_313 ?_
  refine wp_aload_n X dL_law_314 0 rfl ?_
  refine wp_iload_n X dL_law_315 3 rfl ?_
  refine wp_iconst X dL_law_316 ic_2 ?_
  refine wp_iadd X dL_law_317 ?_
  obtain ⟨hb318, h⟩ := h
  refine wp_sld X hX hb318 dL_law_318 ?_
  refine cv_School_cut X dL_law_319 ml_L_23  h (Nat.le_of_ble_eq_true rfl) (by decide) (fun r319 I319 J319 h => ?_)
  refine wp_aload_n X dL_law_322 2 rfl ?_
  refine wp_aload_n X dL_law_323 0 rfl ?_
  refine wp_iload_n X dL_law_324 3 rfl ?_
  refine wp_iconst X dL_law_325 ic_1 ?_
  refine wp_iadd X dL_law_326 ?_
  obtain ⟨hb327, h⟩ := h
  refine wp_sld X hX hb327 dL_law_327 ?_
  refine wp_aload_n X dL_law_328 0 rfl ?_
  refine wp_iload_n X dL_law_329 3 rfl ?_
  refine wp_iconst X dL_law_330 ic_2 ?_
  refine wp_iadd X dL_law_331 ?_
  obtain ⟨hb332, h⟩ := h
  refine wp_sld X hX hb332 dL_law_332 ?_
  refine cv_Model_cut X dL_law_333 ml_L_27  h (Nat.le_of_ble_eq_true rfl) (by decide) (fun r333 I333 J333 h => ?_)
  refine wp_icmp_eq (tgt := 1763) X dL_law_336 (by decide) (fun hc => ?_) (fun hc => ?_)
  · have h := ite_t h hc
    exact w_law_b1763 X Y hX hkh h
  · have h := ite_f h hc
    refine wp_iconst X dL_law_339 ic_0 ?_
    exact h.elim

set_option maxRecDepth 100000 in
set_option maxHeartbeats 4000000 in
theorem w_law_b265 {Γ : Ctx} {b L : Nat} {xs : Nat → Int32} {x3 : Int32} {kh : Int32 → MI → MJ → Prop} (X : Cx Γ code 4 RL 10) (Y : LY Γ b) (hX : SX Γ b L xs)  (hkh : ∀ (x3 : Int32) (I : MI) (J : MJ), kh x3 I J → Wp Γ 4 18 [(0, .ref b), (1, .ref (ad Γ 0)), (2, .ref (ad Γ 177)), (3, .int x3)] [] I J) {I : MI} {J : MJ} (h : f_law_b265 L xs x3 kh I J) : Wp Γ 4 265 [(0, .ref b), (1, .ref (ad Γ 0)), (2, .ref (ad Γ 177)), (3, .int x3)] [] I J := by
  unfold f_law_b265 at h
  refine wp_aload_n X dL_law_265 1 rfl ?_
  refine wp_aload_n X dL_law_266 0 rfl ?_
  refine wp_iload_n X dL_law_267 3 rfl ?_
  refine wp_iconst X dL_law_268 ic_1 ?_
  refine wp_iadd X dL_law_269 ?_
  obtain ⟨hb270, h⟩ := h
  refine wp_sld X hX hb270 dL_law_270 ?_
  refine wp_aload_n X dL_law_271 0 rfl ?_
  refine wp_iload_n X dL_law_272 3 rfl ?_
  refine wp_iconst X dL_law_273 ic_2 ?_
  refine wp_iadd X dL_law_274 ?_
  obtain ⟨hb275, h⟩ := h
  refine wp_sld X hX hb275 dL_law_275 ?_
  refine wp_aload_n X dL_law_276 0 rfl ?_
  refine wp_iload_n X dL_law_277 3 rfl ?_
  refine wp_iconst X dL_law_278 ic_3 ?_
  refine wp_iadd X dL_law_279 ?_
  obtain ⟨hb280, h⟩ := h
  refine wp_sld X hX hb280 dL_law_280 ?_
  refine cv_School_row X dL_law_281 ml_L_18  h (Nat.le_of_ble_eq_true rfl) (by decide) (fun r281 I281 J281 h => ?_)
  refine wp_aload_n X dL_law_284 2 rfl ?_
  refine wp_aload_n X dL_law_285 0 rfl ?_
  refine wp_iload_n X dL_law_286 3 rfl ?_
  refine wp_iconst X dL_law_287 ic_1 ?_
  refine wp_iadd X dL_law_288 ?_
  obtain ⟨hb289, h⟩ := h
  refine wp_sld X hX hb289 dL_law_289 ?_
  refine wp_aload_n X dL_law_290 0 rfl ?_
  refine wp_iload_n X dL_law_291 3 rfl ?_
  refine wp_iconst X dL_law_292 ic_2 ?_
  refine wp_iadd X dL_law_293 ?_
  obtain ⟨hb294, h⟩ := h
  refine wp_sld X hX hb294 dL_law_294 ?_
  refine wp_aload_n X dL_law_295 0 rfl ?_
  refine wp_iload_n X dL_law_296 3 rfl ?_
  refine wp_iconst X dL_law_297 ic_3 ?_
  refine wp_iadd X dL_law_298 ?_
  obtain ⟨hb299, h⟩ := h
  refine wp_sld X hX hb299 dL_law_299 ?_
  refine cv_Model_row X dL_law_300 ml_L_22  h (Nat.le_of_ble_eq_true rfl) (by decide) (fun r300 I300 J300 h => ?_)
  refine wp_icmp_eq (tgt := 1763) X dL_law_303 (by decide) (fun hc => ?_) (fun hc => ?_)
  · have h := ite_t h hc
    exact w_law_b1763 X Y hX hkh h
  · have h := ite_f h hc
    refine wp_iconst X dL_law_306 ic_0 ?_
    exact h.elim

set_option maxRecDepth 100000 in
set_option maxHeartbeats 4000000 in
theorem w_law_b212 {Γ : Ctx} {b L : Nat} {xs : Nat → Int32} {x3 : Int32} {kh : Int32 → MI → MJ → Prop} (X : Cx Γ code 4 RL 10) (Y : LY Γ b) (hX : SX Γ b L xs)  (hkh : ∀ (x3 : Int32) (I : MI) (J : MJ), kh x3 I J → Wp Γ 4 18 [(0, .ref b), (1, .ref (ad Γ 0)), (2, .ref (ad Γ 177)), (3, .int x3)] [] I J) {I : MI} {J : MJ} (h : f_law_b212 L xs x3 kh I J) : Wp Γ 4 212 [(0, .ref b), (1, .ref (ad Γ 0)), (2, .ref (ad Γ 177)), (3, .int x3)] [] I J := by
  unfold f_law_b212 at h
  refine wp_aload_n X dL_law_212 1 rfl ?_
  refine wp_aload_n X dL_law_213 0 rfl ?_
  refine wp_iload_n X dL_law_214 3 rfl ?_
  refine wp_iconst X dL_law_215 ic_1 ?_
  refine wp_iadd X dL_law_216 ?_
  obtain ⟨hb217, h⟩ := h
  refine wp_sld X hX hb217 dL_law_217 ?_
  refine wp_aload_n X dL_law_218 0 rfl ?_
  refine wp_iload_n X dL_law_219 3 rfl ?_
  refine wp_iconst X dL_law_220 ic_2 ?_
  refine wp_iadd X dL_law_221 ?_
  obtain ⟨hb222, h⟩ := h
  refine wp_sld X hX hb222 dL_law_222 ?_
  refine wp_aload_n X dL_law_223 0 rfl ?_
  refine wp_iload_n X dL_law_224 3 rfl ?_
  refine wp_iconst X dL_law_225 ic_3 ?_
  refine wp_iadd X dL_law_226 ?_
  obtain ⟨hb227, h⟩ := h
  refine wp_sld X hX hb227 dL_law_227 ?_
  refine wp_aload_n X dL_law_228 0 rfl ?_
  refine wp_iload_n X dL_law_229 3 rfl ?_
  refine wp_iconst X dL_law_230 ic_4 ?_
  refine wp_iadd X dL_law_231 ?_
  obtain ⟨hb232, h⟩ := h
  refine wp_sld X hX hb232 dL_law_232 ?_
  refine cv_School_machine X dL_law_233 ml_L_13  h (Nat.le_of_ble_eq_true rfl) (by decide) (fun r233 I233 J233 h => ?_)
  refine wp_aload_n X dL_law_236 2 rfl ?_
  refine wp_aload_n X dL_law_237 0 rfl ?_
  refine wp_iload_n X dL_law_238 3 rfl ?_
  refine wp_iconst X dL_law_239 ic_1 ?_
  refine wp_iadd X dL_law_240 ?_
  obtain ⟨hb241, h⟩ := h
  refine wp_sld X hX hb241 dL_law_241 ?_
  refine wp_aload_n X dL_law_242 0 rfl ?_
  refine wp_iload_n X dL_law_243 3 rfl ?_
  refine wp_iconst X dL_law_244 ic_2 ?_
  refine wp_iadd X dL_law_245 ?_
  obtain ⟨hb246, h⟩ := h
  refine wp_sld X hX hb246 dL_law_246 ?_
  refine wp_aload_n X dL_law_247 0 rfl ?_
  refine wp_iload_n X dL_law_248 3 rfl ?_
  refine wp_iconst X dL_law_249 ic_3 ?_
  refine wp_iadd X dL_law_250 ?_
  obtain ⟨hb251, h⟩ := h
  refine wp_sld X hX hb251 dL_law_251 ?_
  refine wp_aload_n X dL_law_252 0 rfl ?_
  refine wp_iload_n X dL_law_253 3 rfl ?_
  refine wp_iconst X dL_law_254 ic_4 ?_
  refine wp_iadd X dL_law_255 ?_
  obtain ⟨hb256, h⟩ := h
  refine wp_sld X hX hb256 dL_law_256 ?_
  refine cv_Model_machine X dL_law_257 ml_L_17  h (Nat.le_of_ble_eq_true rfl) (by decide) (fun r257 I257 J257 h => ?_)
  refine wp_icmp_eq (tgt := 1763) X dL_law_260 (by decide) (fun hc => ?_) (fun hc => ?_)
  · have h := ite_t h hc
    exact w_law_b1763 X Y hX hkh h
  · have h := ite_f h hc
    refine wp_iconst X dL_law_263 ic_0 ?_
    exact h.elim

set_option maxRecDepth 100000 in
set_option maxHeartbeats 4000000 in
theorem w_law_L18 {Γ : Ctx} {b L : Nat} {xs : Nat → Int32}   (X : Cx Γ code 4 RL 10) (Y : LY Γ b) (hX : SX Γ b L xs)   : ∀ (n : Nat) (x3 : Int32) (I : MI) (J : MJ), f_law_L18 L xs n x3 I J → Wp Γ 4 18 [(0, .ref b), (1, .ref (ad Γ 0)), (2, .ref (ad Γ 177)), (3, .int x3)] [] I J := by
  intro n
  induction n with
  | zero => intro x3 I J h; exact absurd h (by simp [f_law_L18])
  | succ n ih =>
  intro x3 I J h
  unfold f_law_L18 at h
  refine wp_iload_n X dL_law_18 3 rfl ?_
  refine wp_aload_n X dL_law_19 0 rfl ?_
  refine wp_slen X hX dL_law_20 ?_
  refine wp_bipush X dL_law_21 bi_6 ?_
  refine wp_isub X dL_law_23 ?_
  refine wp_icmp_gt (tgt := 1769) X dL_law_24 (by decide) (fun hc => ?_) (fun hc => ?_)
  · have h := ite_t h hc
    refine wp_iconst X dL_law_1769 ic_1 ?_
    exact wp_lawret X Y dL_law_1770
  · have h := ite_f h hc
    refine wp_aload_n X dL_law_27 0 rfl ?_
    refine wp_iload_n X dL_law_28 3 rfl ?_
    obtain ⟨hb29, h⟩ := h
    refine wp_sld X hX hb29 dL_law_29 ?_
    refine wp_bipush X dL_law_30 bi_63 ?_
    refine wp_iand X dL_law_32 ?_
    by_cases hs0 : ((xs x3.toNatClampNeg) &&& 63) = 0
    · have h := ite_t h hs0
      refine wp_tab (tgt := 212) (y := 0) X dL_law_33 hs0 (by decide) (by decide) rfl (by decide) ?_
      exact w_law_b212 X Y hX ih h
    have h := ite_f h hs0
    by_cases hs1 : ((xs x3.toNatClampNeg) &&& 63) = 1
    · have h := ite_t h hs1
      refine wp_tab (tgt := 265) (y := 1) X dL_law_33 hs1 (by decide) (by decide) rfl (by decide) ?_
      exact w_law_b265 X Y hX ih h
    have h := ite_f h hs1
    by_cases hs2 : ((xs x3.toNatClampNeg) &&& 63) = 2
    · have h := ite_t h hs2
      refine wp_tab (tgt := 308) (y := 2) X dL_law_33 hs2 (by decide) (by decide) rfl (by decide) ?_
      exact w_law_b308 X Y hX ih h
    have h := ite_f h hs2
    by_cases hs3 : ((xs x3.toNatClampNeg) &&& 63) = 3
    · have h := ite_t h hs3
      refine wp_tab (tgt := 341) (y := 3) X dL_law_33 hs3 (by decide) (by decide) rfl (by decide) ?_
      exact w_law_b341 X Y hX ih h
    have h := ite_f h hs3
    by_cases hs4 : ((xs x3.toNatClampNeg) &&& 63) = 4
    · have h := ite_t h hs4
      refine wp_tab (tgt := 394) (y := 4) X dL_law_33 hs4 (by decide) (by decide) rfl (by decide) ?_
      exact w_law_b394 X Y hX ih h
    have h := ite_f h hs4
    by_cases hs5 : ((xs x3.toNatClampNeg) &&& 63) = 5
    · have h := ite_t h hs5
      refine wp_tab (tgt := 437) (y := 5) X dL_law_33 hs5 (by decide) (by decide) rfl (by decide) ?_
      exact w_law_b437 X Y hX ih h
    have h := ite_f h hs5
    by_cases hs6 : ((xs x3.toNatClampNeg) &&& 63) = 6
    · have h := ite_t h hs6
      refine wp_tab (tgt := 490) (y := 6) X dL_law_33 hs6 (by decide) (by decide) rfl (by decide) ?_
      exact w_law_b490 X Y hX ih h
    have h := ite_f h hs6
    by_cases hs7 : ((xs x3.toNatClampNeg) &&& 63) = 7
    · have h := ite_t h hs7
      refine wp_tab (tgt := 553) (y := 7) X dL_law_33 hs7 (by decide) (by decide) rfl (by decide) ?_
      exact w_law_b553 X Y hX ih h
    have h := ite_f h hs7
    by_cases hs8 : ((xs x3.toNatClampNeg) &&& 63) = 8
    · have h := ite_t h hs8
      refine wp_tab (tgt := 586) (y := 8) X dL_law_33 hs8 (by decide) (by decide) rfl (by decide) ?_
      exact w_law_b586 X Y hX ih h
    have h := ite_f h hs8
    by_cases hs9 : ((xs x3.toNatClampNeg) &&& 63) = 9
    · have h := ite_t h hs9
      refine wp_tab (tgt := 609) (y := 9) X dL_law_33 hs9 (by decide) (by decide) rfl (by decide) ?_
      exact w_law_b609 X Y hX ih h
    have h := ite_f h hs9
    by_cases hs10 : ((xs x3.toNatClampNeg) &&& 63) = 10
    · have h := ite_t h hs10
      refine wp_tab (tgt := 632) (y := 10) X dL_law_33 hs10 (by decide) (by decide) rfl (by decide) ?_
      exact w_law_b632 X Y hX ih h
    have h := ite_f h hs10
    by_cases hs11 : ((xs x3.toNatClampNeg) &&& 63) = 11
    · have h := ite_t h hs11
      refine wp_tab (tgt := 665) (y := 11) X dL_law_33 hs11 (by decide) (by decide) rfl (by decide) ?_
      exact w_law_b665 X Y hX ih h
    have h := ite_f h hs11
    by_cases hs12 : ((xs x3.toNatClampNeg) &&& 63) = 12
    · have h := ite_t h hs12
      refine wp_tab (tgt := 708) (y := 12) X dL_law_33 hs12 (by decide) (by decide) rfl (by decide) ?_
      exact w_law_b708 X Y hX ih h
    have h := ite_f h hs12
    by_cases hs13 : ((xs x3.toNatClampNeg) &&& 63) = 13
    · have h := ite_t h hs13
      refine wp_tab (tgt := 751) (y := 13) X dL_law_33 hs13 (by decide) (by decide) rfl (by decide) ?_
      exact w_law_b751 X Y hX ih h
    have h := ite_f h hs13
    by_cases hs14 : ((xs x3.toNatClampNeg) &&& 63) = 14
    · have h := ite_t h hs14
      refine wp_tab (tgt := 784) (y := 14) X dL_law_33 hs14 (by decide) (by decide) rfl (by decide) ?_
      exact w_law_b784 X Y hX ih h
    have h := ite_f h hs14
    by_cases hs15 : ((xs x3.toNatClampNeg) &&& 63) = 15
    · have h := ite_t h hs15
      refine wp_tab (tgt := 847) (y := 15) X dL_law_33 hs15 (by decide) (by decide) rfl (by decide) ?_
      exact w_law_b847 X Y hX ih h
    have h := ite_f h hs15
    by_cases hs16 : ((xs x3.toNatClampNeg) &&& 63) = 16
    · have h := ite_t h hs16
      refine wp_tab (tgt := 891) (y := 16) X dL_law_33 hs16 (by decide) (by decide) rfl (by decide) ?_
      exact w_law_b891 X Y hX ih h
    have h := ite_f h hs16
    by_cases hs17 : ((xs x3.toNatClampNeg) &&& 63) = 17
    · have h := ite_t h hs17
      refine wp_tab (tgt := 965) (y := 17) X dL_law_33 hs17 (by decide) (by decide) rfl (by decide) ?_
      exact w_law_b965 X Y hX ih h
    have h := ite_f h hs17
    by_cases hs18 : ((xs x3.toNatClampNeg) &&& 63) = 18
    · have h := ite_t h hs18
      refine wp_tab (tgt := 1029) (y := 18) X dL_law_33 hs18 (by decide) (by decide) rfl (by decide) ?_
      exact w_law_b1029 X Y hX ih h
    have h := ite_f h hs18
    by_cases hs19 : ((xs x3.toNatClampNeg) &&& 63) = 19
    · have h := ite_t h hs19
      refine wp_tab (tgt := 1063) (y := 19) X dL_law_33 hs19 (by decide) (by decide) rfl (by decide) ?_
      exact w_law_b1063 X Y hX ih h
    have h := ite_f h hs19
    by_cases hs20 : ((xs x3.toNatClampNeg) &&& 63) = 20
    · have h := ite_t h hs20
      refine wp_tab (tgt := 1096) (y := 20) X dL_law_33 hs20 (by decide) (by decide) rfl (by decide) ?_
      exact w_law_b1096 X Y hX ih h
    have h := ite_f h hs20
    by_cases hs21 : ((xs x3.toNatClampNeg) &&& 63) = 21
    · have h := ite_t h hs21
      refine wp_tab (tgt := 1149) (y := 21) X dL_law_33 hs21 (by decide) (by decide) rfl (by decide) ?_
      exact w_law_b1149 X Y hX ih h
    have h := ite_f h hs21
    by_cases hs22 : ((xs x3.toNatClampNeg) &&& 63) = 22
    · have h := ite_t h hs22
      refine wp_tab (tgt := 1182) (y := 22) X dL_law_33 hs22 (by decide) (by decide) rfl (by decide) ?_
      exact w_law_b1182 X Y hX ih h
    have h := ite_f h hs22
    by_cases hs23 : ((xs x3.toNatClampNeg) &&& 63) = 23
    · have h := ite_t h hs23
      refine wp_tab (tgt := 1226) (y := 23) X dL_law_33 hs23 (by decide) (by decide) rfl (by decide) ?_
      exact w_law_b1226 X Y hX ih h
    have h := ite_f h hs23
    by_cases hs24 : ((xs x3.toNatClampNeg) &&& 63) = 24
    · have h := ite_t h hs24
      refine wp_tab (tgt := 1279) (y := 24) X dL_law_33 hs24 (by decide) (by decide) rfl (by decide) ?_
      exact w_law_b1279 X Y hX ih h
    have h := ite_f h hs24
    by_cases hs25 : ((xs x3.toNatClampNeg) &&& 63) = 25
    · have h := ite_t h hs25
      refine wp_tab (tgt := 1342) (y := 25) X dL_law_33 hs25 (by decide) (by decide) rfl (by decide) ?_
      exact w_law_b1342 X Y hX ih h
    have h := ite_f h hs25
    by_cases hs26 : ((xs x3.toNatClampNeg) &&& 63) = 26
    · have h := ite_t h hs26
      refine wp_tab (tgt := 1365) (y := 26) X dL_law_33 hs26 (by decide) (by decide) rfl (by decide) ?_
      exact w_law_b1365 X Y hX ih h
    have h := ite_f h hs26
    by_cases hs27 : ((xs x3.toNatClampNeg) &&& 63) = 27
    · have h := ite_t h hs27
      refine wp_tab (tgt := 1378) (y := 27) X dL_law_33 hs27 (by decide) (by decide) rfl (by decide) ?_
      exact w_law_b1378 X Y hX ih h
    have h := ite_f h hs27
    by_cases hs28 : ((xs x3.toNatClampNeg) &&& 63) = 28
    · have h := ite_t h hs28
      refine wp_tab (tgt := 1431) (y := 28) X dL_law_33 hs28 (by decide) (by decide) rfl (by decide) ?_
      exact w_law_b1431 X Y hX ih h
    have h := ite_f h hs28
    by_cases hs29 : ((xs x3.toNatClampNeg) &&& 63) = 29
    · have h := ite_t h hs29
      refine wp_tab (tgt := 1454) (y := 29) X dL_law_33 hs29 (by decide) (by decide) rfl (by decide) ?_
      exact w_law_b1454 X Y hX ih h
    have h := ite_f h hs29
    by_cases hs30 : ((xs x3.toNatClampNeg) &&& 63) = 30
    · have h := ite_t h hs30
      refine wp_tab (tgt := 1478) (y := 30) X dL_law_33 hs30 (by decide) (by decide) rfl (by decide) ?_
      exact w_law_b1478 X Y hX ih h
    have h := ite_f h hs30
    by_cases hs31 : ((xs x3.toNatClampNeg) &&& 63) = 31
    · have h := ite_t h hs31
      refine wp_tab (tgt := 1502) (y := 31) X dL_law_33 hs31 (by decide) (by decide) rfl (by decide) ?_
      exact w_law_b1502 X Y hX ih h
    have h := ite_f h hs31
    by_cases hs32 : ((xs x3.toNatClampNeg) &&& 63) = 32
    · have h := ite_t h hs32
      refine wp_tab (tgt := 1545) (y := 32) X dL_law_33 hs32 (by decide) (by decide) rfl (by decide) ?_
      exact w_law_b1545 X Y hX ih h
    have h := ite_f h hs32
    by_cases hs33 : ((xs x3.toNatClampNeg) &&& 63) = 33
    · have h := ite_t h hs33
      refine wp_tab (tgt := 1559) (y := 33) X dL_law_33 hs33 (by decide) (by decide) rfl (by decide) ?_
      exact w_law_b1559 X Y hX ih h
    have h := ite_f h hs33
    by_cases hs34 : ((xs x3.toNatClampNeg) &&& 63) = 34
    · have h := ite_t h hs34
      refine wp_tab (tgt := 1572) (y := 34) X dL_law_33 hs34 (by decide) (by decide) rfl (by decide) ?_
      exact w_law_b1572 X Y hX ih h
    have h := ite_f h hs34
    by_cases hs35 : ((xs x3.toNatClampNeg) &&& 63) = 35
    · have h := ite_t h hs35
      refine wp_tab (tgt := 1635) (y := 35) X dL_law_33 hs35 (by decide) (by decide) rfl (by decide) ?_
      exact w_law_b1635 X Y hX ih h
    have h := ite_f h hs35
    by_cases hs36 : ((xs x3.toNatClampNeg) &&& 63) = 36
    · have h := ite_t h hs36
      refine wp_tab (tgt := 1648) (y := 36) X dL_law_33 hs36 (by decide) (by decide) rfl (by decide) ?_
      exact w_law_b1648 X Y hX ih h
    have h := ite_f h hs36
    by_cases hs37 : ((xs x3.toNatClampNeg) &&& 63) = 37
    · have h := ite_t h hs37
      refine wp_tab (tgt := 1671) (y := 37) X dL_law_33 hs37 (by decide) (by decide) rfl (by decide) ?_
      exact w_law_b1671 X Y hX ih h
    have h := ite_f h hs37
    by_cases hs38 : ((xs x3.toNatClampNeg) &&& 63) = 38
    · have h := ite_t h hs38
      refine wp_tab (tgt := 1694) (y := 38) X dL_law_33 hs38 (by decide) (by decide) rfl (by decide) ?_
      exact w_law_b1694 X Y hX ih h
    have h := ite_f h hs38
    by_cases hs39 : ((xs x3.toNatClampNeg) &&& 63) = 39
    · have h := ite_t h hs39
      refine wp_tab (tgt := 1727) (y := 39) X dL_law_33 hs39 (by decide) (by decide) rfl (by decide) ?_
      exact w_law_b1727 X Y hX ih h
    have h := ite_f h hs39
    by_cases hs40 : ((xs x3.toNatClampNeg) &&& 63) = 40
    · have h := ite_t h hs40
      refine wp_tab (tgt := 1750) (y := 40) X dL_law_33 hs40 (by decide) (by decide) rfl (by decide) ?_
      exact w_law_b1750 X Y hX ih h
    have h := ite_f h hs40
    have nt0 := lv_neT hs0 (a := 0) (by decide)
    have nt1 := lv_neT hs1 (a := 1) (by decide)
    have nt2 := lv_neT hs2 (a := 2) (by decide)
    have nt3 := lv_neT hs3 (a := 3) (by decide)
    have nt4 := lv_neT hs4 (a := 4) (by decide)
    have nt5 := lv_neT hs5 (a := 5) (by decide)
    have nt6 := lv_neT hs6 (a := 6) (by decide)
    have nt7 := lv_neT hs7 (a := 7) (by decide)
    have nt8 := lv_neT hs8 (a := 8) (by decide)
    have nt9 := lv_neT hs9 (a := 9) (by decide)
    have nt10 := lv_neT hs10 (a := 10) (by decide)
    have nt11 := lv_neT hs11 (a := 11) (by decide)
    have nt12 := lv_neT hs12 (a := 12) (by decide)
    have nt13 := lv_neT hs13 (a := 13) (by decide)
    have nt14 := lv_neT hs14 (a := 14) (by decide)
    have nt15 := lv_neT hs15 (a := 15) (by decide)
    have nt16 := lv_neT hs16 (a := 16) (by decide)
    have nt17 := lv_neT hs17 (a := 17) (by decide)
    have nt18 := lv_neT hs18 (a := 18) (by decide)
    have nt19 := lv_neT hs19 (a := 19) (by decide)
    have nt20 := lv_neT hs20 (a := 20) (by decide)
    have nt21 := lv_neT hs21 (a := 21) (by decide)
    have nt22 := lv_neT hs22 (a := 22) (by decide)
    have nt23 := lv_neT hs23 (a := 23) (by decide)
    have nt24 := lv_neT hs24 (a := 24) (by decide)
    have nt25 := lv_neT hs25 (a := 25) (by decide)
    have nt26 := lv_neT hs26 (a := 26) (by decide)
    have nt27 := lv_neT hs27 (a := 27) (by decide)
    have nt28 := lv_neT hs28 (a := 28) (by decide)
    have nt29 := lv_neT hs29 (a := 29) (by decide)
    have nt30 := lv_neT hs30 (a := 30) (by decide)
    have nt31 := lv_neT hs31 (a := 31) (by decide)
    have nt32 := lv_neT hs32 (a := 32) (by decide)
    have nt33 := lv_neT hs33 (a := 33) (by decide)
    have nt34 := lv_neT hs34 (a := 34) (by decide)
    have nt35 := lv_neT hs35 (a := 35) (by decide)
    have nt36 := lv_neT hs36 (a := 36) (by decide)
    have nt37 := lv_neT hs37 (a := 37) (by decide)
    have nt38 := lv_neT hs38 (a := 38) (by decide)
    have nt39 := lv_neT hs39 (a := 39) (by decide)
    have nt40 := lv_neT hs40 (a := 40) (by decide)
    refine wp_tableOut (tgt := 1763) X dL_law_33 (by omega) (by decide) ?_
    exact w_law_b1763 X Y hX ih h

set_option maxRecDepth 100000 in
set_option maxHeartbeats 4000000 in
theorem w_law_b16 {Γ : Ctx} {b L : Nat} {xs : Nat → Int32}   (X : Cx Γ code 4 RL 10) (Y : LY Γ b) (hX : SX Γ b L xs)   {I : MI} {J : MJ} (h : f_law L xs I J) : Wp Γ 4 16 [(0, .ref b), (1, .ref (ad Γ 0)), (2, .ref (ad Γ 177))] [] I J := by
  unfold f_law at h
  refine wp_iconst X dL_law_16 ic_0 ?_
  refine wp_istore_n (L' := [(3, .int 0), (0, .ref b), (1, .ref (ad Γ 0)), (2, .ref (ad Γ 177))]) X dL_law_17 rfl (by decide) rfl ?_
  obtain ⟨n, h⟩ := h
  refine wp_sub X [1, 2, 3, 0] rfl ?_
  refine w_law_L18 X Y hX  n _ _ _ h

