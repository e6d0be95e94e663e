/-! what the claim's tables say of each method and each instruction of the abstract machine: decided -/
def am_rty (t : Nat) : Option FieldType := match t with
  | 0 => none
  | 1 => some .int
  | 2 => some .boolean
  | _ => some .long
/-- places of a method's words: its code, static or not, selects, initialized; 1 if static -/
noncomputable def am_mwL : List (List (Nat × Nat × Nat × Nat × Nat)) := [[(0, 0, 0, 0, 1), (1085, 1083, 1084, 132, 0), (1093, 1091, 1092, 132, 0), (1097, 1096, 44, 132, 0), (1122, 1120, 1121, 132, 0), (1109, 1107, 1108, 132, 0), (1114, 1113, 45, 132, 0), (1105, 1103, 1104, 132, 0), (1155, 1153, 1154, 132, 0), (1126, 1125, 46, 132, 0), (1130, 1128, 1129, 132, 0), (1134, 1132, 1133, 132, 0), (1165, 1163, 1164, 133, 0), (1177, 1175, 1176, 133, 0), (1181, 1180, 47, 133, 0), (826, 824, 825, 126, 0)],
  [(951, 949, 950, 126, 0), (686, 684, 685, 125, 0), (690, 688, 689, 125, 0), (694, 693, 3, 125, 0), (698, 697, 4, 125, 0), (849, 847, 848, 125, 0), (901, 899, 900, 125, 0), (1021, 1019, 1020, 131, 0), (1061, 1060, 42, 131, 0), (1026, 1025, 38, 131, 0), (1052, 1051, 41, 131, 0), (1044, 1043, 39, 131, 0), (1067, 1066, 43, 131, 0), (1048, 1047, 40, 131, 0), (662, 660, 661, 124, 0), (842, 840, 841, 129, 0)],
  [(838, 836, 837, 129, 0), (1004, 1002, 1003, 129, 0), (1032, 1030, 1031, 129, 0), (1056, 1054, 1055, 129, 0), (862, 860, 861, 129, 0), (866, 865, 22, 129, 0), (870, 869, 23, 129, 0), (905, 904, 27, 129, 0), (947, 946, 33, 129, 0), (956, 955, 34, 129, 0), (960, 959, 35, 129, 0), (964, 963, 36, 129, 0), (975, 974, 37, 129, 0), (1173, 1171, 1172, 129, 0), (1139, 1137, 1138, 129, 0), (818, 816, 817, 127, 0)],
  [(1211, 1209, 1210, 127, 0), (878, 876, 877, 127, 0), (883, 882, 24, 127, 0), (887, 886, 25, 127, 0), (891, 890, 26, 127, 0), (897, 896, 0, 127, 1), (738, 736, 737, 128, 0), (745, 744, 7, 128, 0), (772, 771, 12, 128, 0), (776, 775, 13, 128, 0), (780, 779, 14, 128, 0), (792, 791, 17, 128, 0), (796, 795, 18, 128, 0), (800, 799, 19, 128, 0), (761, 760, 10, 128, 0), (784, 783, 15, 128, 0)],
  [(768, 767, 11, 128, 0), (757, 756, 9, 128, 0), (749, 748, 8, 128, 0), (788, 787, 16, 128, 0), (814, 813, 20, 128, 0), (764, 763, 0, 128, 1), (810, 809, 0, 128, 1), (807, 806, 0, 128, 1), (804, 803, 0, 128, 1), (853, 851, 852, 130, 0), (1036, 1034, 1035, 130, 0), (858, 856, 857, 130, 0), (939, 937, 938, 130, 0), (943, 941, 942, 130, 0), (910, 908, 909, 130, 0), (914, 913, 28, 130, 0)],
  [(927, 926, 30, 130, 0), (931, 930, 31, 130, 0), (918, 917, 29, 130, 0), (935, 934, 32, 130, 0), (874, 872, 873, 130, 0), (979, 977, 978, 130, 0), (968, 966, 967, 130, 0), (996, 994, 995, 130, 0), (726, 724, 725, 123, 0), (730, 728, 729, 123, 0), (753, 751, 752, 123, 0), (1199, 1197, 1198, 123, 0), (643, 641, 642, 122, 0), (650, 648, 649, 122, 0), (654, 652, 653, 122, 0), (666, 664, 665, 122, 0)],
  [(670, 668, 669, 122, 0), (702, 700, 701, 122, 0), (706, 704, 705, 122, 0), (714, 712, 713, 122, 0), (722, 720, 721, 122, 0), (734, 732, 733, 122, 0), (822, 820, 821, 122, 0), (830, 828, 829, 122, 0), (983, 981, 982, 122, 0), (988, 986, 987, 122, 0), (992, 990, 991, 122, 0), (1000, 998, 999, 122, 0), (1008, 1006, 1007, 122, 0), (1013, 1011, 1012, 122, 0), (1017, 1015, 1016, 122, 0), (1071, 1069, 1070, 122, 0)],
  [(1081, 1079, 1080, 122, 0), (1089, 1087, 1088, 122, 0), (1101, 1099, 1100, 122, 0), (1145, 1143, 1144, 122, 0), (1149, 1147, 1148, 122, 0), (1161, 1159, 1160, 122, 0), (1169, 1167, 1168, 122, 0), (1187, 1185, 1186, 122, 0), (1203, 1201, 1202, 122, 0), (1207, 1205, 1206, 122, 0), (1191, 1190, 48, 122, 0), (1195, 1194, 49, 122, 0), (682, 681, 2, 122, 0), (658, 657, 0, 122, 0), (834, 833, 21, 122, 0), (674, 673, 1, 122, 0)],
  [(710, 709, 5, 122, 0), (718, 717, 6, 122, 0), (646, 645, 0, 122, 1), (677, 676, 0, 122, 1), (1074, 1073, 0, 122, 1), (922, 921, 0, 122, 1), (1473, 1472, 0, 134, 1), (1855, 1854, 0, 134, 1), (1485, 1484, 50, 134, 0), (1498, 1497, 51, 134, 0), (1516, 1515, 53, 134, 0), (1539, 1538, 0, 134, 1), (1469, 1467, 1468, 134, 0), (1477, 1475, 1476, 134, 0), (1481, 1479, 1480, 134, 0), (1490, 1488, 1489, 134, 0)],
  [(1502, 1501, 52, 134, 0), (1494, 1492, 1493, 134, 0), (1508, 1506, 1507, 134, 0), (1512, 1510, 1511, 134, 0), (1524, 1523, 54, 134, 0), (1520, 1518, 1519, 134, 0), (1532, 1531, 55, 134, 0), (1528, 1526, 1527, 134, 0), (1552, 1551, 58, 134, 0), (1556, 1555, 59, 134, 0), (1544, 1543, 56, 134, 0), (1595, 1594, 68, 134, 0), (1616, 1615, 71, 134, 0), (1582, 1581, 65, 134, 0), (1578, 1577, 64, 134, 0), (1564, 1563, 61, 134, 0)],
  [(1560, 1559, 60, 134, 0), (1570, 1569, 62, 134, 0), (1605, 1604, 0, 134, 1), (1608, 1607, 0, 134, 1), (1619, 1618, 0, 134, 1), (1598, 1597, 0, 134, 1), (1612, 1611, 70, 134, 0), (1631, 1630, 74, 134, 0), (1623, 1622, 72, 134, 0), (1590, 1589, 67, 134, 0), (1602, 1601, 69, 134, 0), (1586, 1585, 66, 134, 0), (1627, 1626, 73, 134, 0), (1574, 1573, 63, 134, 0), (1548, 1547, 57, 134, 0), (1536, 1534, 1535, 134, 0)],
  [(1635, 1633, 1634, 134, 0), (1754, 1753, 102, 134, 0), (1663, 1662, 80, 134, 0), (1671, 1670, 82, 134, 0), (1702, 1701, 89, 134, 0), (1706, 1705, 90, 134, 0), (1710, 1709, 91, 134, 0), (1738, 1737, 98, 134, 0), (1734, 1733, 97, 134, 0), (1730, 1729, 96, 134, 0), (1742, 1741, 99, 134, 0), (1746, 1745, 100, 134, 0), (1726, 1725, 95, 134, 0), (1698, 1697, 88, 134, 0), (1694, 1693, 0, 134, 1), (1691, 1690, 87, 134, 0)],
  [(1687, 1686, 86, 134, 0), (1683, 1682, 85, 134, 0), (1679, 1678, 84, 134, 0), (1722, 1721, 94, 134, 0), (1750, 1749, 101, 134, 0), (1758, 1757, 103, 134, 0), (1762, 1761, 104, 134, 0), (1714, 1713, 92, 134, 0), (1675, 1674, 83, 134, 0), (1718, 1717, 93, 134, 0), (1667, 1666, 81, 134, 0), (1655, 1654, 78, 134, 0), (1659, 1658, 79, 134, 0), (1651, 1650, 77, 134, 0), (1647, 1646, 76, 134, 0), (1643, 1642, 75, 134, 0)],
  [(1639, 1637, 1638, 134, 0), (1766, 1764, 1765, 134, 0), (1770, 1768, 1769, 134, 0), (1774, 1772, 1773, 134, 0), (1782, 1781, 105, 134, 0), (1786, 1785, 106, 134, 0), (1778, 1776, 1777, 134, 0), (1790, 1788, 1789, 134, 0), (1794, 1792, 1793, 134, 0), (1803, 1802, 107, 134, 0), (1807, 1806, 108, 134, 0), (1811, 1810, 109, 134, 0), (1798, 1796, 1797, 134, 0), (1818, 1817, 0, 134, 1), (1815, 1813, 1814, 134, 0), (1828, 1827, 110, 134, 0)],
  [(1823, 1821, 1822, 134, 0), (1836, 1835, 111, 134, 0), (1832, 1830, 1831, 134, 0), (1848, 1847, 113, 134, 0), (1852, 1851, 114, 134, 0), (1870, 1869, 117, 134, 0), (1859, 1858, 115, 134, 0), (1866, 1865, 0, 134, 1), (1863, 1862, 116, 134, 0), (1844, 1843, 112, 134, 0), (1840, 1838, 1839, 134, 0), (1874, 1872, 1873, 134, 0), (1878, 1876, 1877, 134, 0), (1882, 1880, 1881, 134, 0), (1894, 1893, 119, 134, 0), (1890, 1889, 118, 134, 0)],
  [(1886, 1884, 1885, 134, 0), (1902, 1901, 120, 134, 0), (1898, 1896, 1897, 134, 0), (1906, 1904, 1905, 134, 0), (1910, 1908, 1909, 134, 0), (845, 844, 0, 136, 1), (894, 893, 0, 135, 1), (741, 740, 0, 135, 1)]]
noncomputable def am_mw (m : Nat) : Nat × Nat × Nat × Nat × Nat := (am_mwL.getD (m / 16) []).getD (m % 16) (0, 0, 0, 0, 9)
noncomputable def am_okm (m : Nat) : Bool := match am_my m, am_mt m, am_mw m with
  | (y, bs), (ml, na, rt), (p1, p2, p3, p4, t) =>
    decide (lw_tbl[p1]? = some (Jvm.Cond.code y bs ml (am_rty rt))) && decide (lw_tbl[p4]? = some (Jvm.Cond.initialized y.cls)) &&
    decide (y.cls ≠ "java/lang/invoke/MethodHandle" ∧ y.cls ≠ "java/lang/invoke/VarHandle") && Nat.ble ml 21 && plainName y.cls &&
    (match t with
    | 0 => decide (lw_tbl[p2]? = some (Jvm.Cond.instanceMethod y)) && decide (lw_tbl[p3]? = some (Jvm.Cond.selects y.cls y y)) && decide ((parseMethodDescriptor y.desc).map (fun d => d.parameters.length + 1) = some na)
    | 1 => decide (lw_tbl[p2]? = some (Jvm.Cond.static y)) && decide ((parseMethodDescriptor y.desc).map (fun d => d.parameters.length) = some na)
    | _ => false)
def am_nn (pc : Nat) (off : Int) : Bool := decide (0 ≤ (pc : Int) + off)
def am_i32 (x : Int) : Bool := decide (-2147483648 ≤ x ∧ x < 2147483648)
def am_i64 (x : Int) : Bool := decide (-9223372036854775808 ≤ x ∧ x < 9223372036854775808)
noncomputable def am_okop (m pc : Nat) (op : am_Op) : Bool := match op with
  | (ins, len, x, y, c, w) => decide (decode (am_my m).2 pc = .ok (ins, len)) && (match ins with
    | .iconst n => Nat.beq len 1 && am_i32 n
    | .bipush n => Nat.beq len 2 && am_i32 n && decide ((Int8.ofInt n).toInt32 = Int32.ofInt n)
    | .sipush n => Nat.beq len 3 && am_i32 n && decide ((Int16.ofInt n).toInt32 = Int32.ofInt n)
    | .ldc i => Nat.beq len 2 && am_i32 c && decide (lw_tbl[w]? = some (Jvm.Cond.constant (am_my m).1.cls i (Int32.ofInt c)))
    | .ldc_w i => Nat.beq len 3 && am_i32 c && decide (lw_tbl[w]? = some (Jvm.Cond.constant (am_my m).1.cls i (Int32.ofInt c)))
    | .ldc2_w i => Nat.beq len 3 && am_i64 c && decide (lw_tbl[w]? = some (Jvm.Cond.constantLong (am_my m).1.cls i (Int64.ofInt c)))
    | .iload _ => Nat.beq len 2
    | .lload _ => Nat.beq len 2
    | .aload _ => Nat.beq len 2
    | .istore _ => Nat.beq len 2
    | .lstore _ => Nat.beq len 2
    | .astore _ => Nat.beq len 2
    | .iinc _ _ => Nat.beq len 3
    | .goto off => Nat.beq len 3 && am_nn pc off
    | .ifCond _ off => Nat.beq len 3 && am_nn pc off
    | .if_icmp _ off => Nat.beq len 3 && am_nn pc off
    | .tableswitch d lo hi offs => am_nn pc d && offs.toList.all (am_nn pc) && decide (lo + (offs.toList.length : Int) = hi + 1) && am_i32 lo && am_i32 hi
    | .lookupswitch d ps => am_nn pc d && ps.toList.all (fun q => am_nn pc q.2) && ps.toList.all (fun q => am_i32 q.1) && (ps.toList.zip (ps.toList.drop 1)).all (fun (a, next) => a.1 < next.1)
    | .getfield i => Nat.beq len 3 && (match am_cls[x]? with
      | some (C, T, N) => Nat.blt y N && decide ((T y).1 = C) && decide (lw_tbl[w]? = some (Jvm.Cond.fieldLink (am_my m).1.cls i C (T y).2.1 (T y).2.2.1))
      | none => false)
    | .putfield i => Nat.beq len 3 && (match am_cls[x]? with
      | some (C, T, N) => Nat.blt y N && decide ((T y).1 = C) && decide (lw_tbl[w]? = some (Jvm.Cond.fieldLink (am_my m).1.cls i C (T y).2.1 (T y).2.2.1)) && decide ((T y).2.2.2 = false) &&
        (match am_ft x y with
        | 0 => decide ((T y).2.2.1 = "I")
        | 1 => decide ((T y).2.2.1 = "Z")
        | _ => false)
      | none => false)
    | .invokevirtual i => Nat.beq len 3 && decide (lw_tbl[w]? = some (Jvm.Cond.methodLink (am_my m).1.cls i (am_my x).1)) && Nat.blt 0 x && Nat.blt x 246 && Nat.beq (am_mw x).2.2.2.2 0 && Nat.beq y (am_mt x).2.1 && decide ((am_cls[c.toNat]?).map (fun q => q.1) = some (am_my x).1.cls)
    | .invokestatic i => Nat.beq len 3 && (match c with
      | 1 => decide (lw_tbl[w]? = some (Jvm.Cond.methodLink (am_my m).1.cls i (am_my x).1)) && Nat.blt 0 x && Nat.blt x 246 && Nat.beq (am_mw x).2.2.2.2 1 && Nat.beq y (am_mt x).2.1
      | 2 => decide (lw_tbl[w]? = some (Jvm.Cond.methodLinkNest (am_my m).1.cls i (am_my x).1 "PurseTrace")) && Nat.blt 0 x && Nat.blt x 246 && Nat.beq (am_mw x).2.2.2.2 1 && Nat.beq y (am_mt x).2.1
      | 3 => decide (lw_tbl[w]? = some (Jvm.Cond.methodLink (am_my m).1.cls i arraycopyName))
      | 4 => decide (lw_tbl[w]? = some (Jvm.Cond.methodLink (am_my m).1.cls i Lib.Math.max.name))
      | 5 => decide (lw_tbl[w]? = some (Jvm.Cond.methodLink (am_my m).1.cls i Lib.Math.min.name))
      | _ => false)
    | .ireturn => Nat.beq len 1 && (match (am_mt m).2.2, x with
      | 1, 0 => true
      | 2, 1 => true
      | _, _ => false)
    | .lreturn => Nat.beq len 1 && Nat.beq (am_mt m).2.2 3
    | .return_ => Nat.beq len 1 && Nat.beq (am_mt m).2.2 0
    | _ => Nat.beq len 1)
noncomputable def am_ckr (m : Nat) : Nat → List (Option am_Op) → Bool
  | _, [] => true
  | pc, none :: r => am_ckr m (pc + 1) r
  | pc, some op :: r => am_okop m pc op && am_ckr m (pc + 1) r
noncomputable def am_ckc (m : Nat) : Nat → List (List (Option am_Op)) → Bool
  | _, [] => true
  | k, ch :: r => am_ckr m (16 * k) ch && am_ckc m (k + 1) r
noncomputable def am_ckq : Nat → List (List (List (Option am_Op))) → Bool
  | _, [] => true
  | m, o :: r => am_ckc m 0 o && am_ckq (m + 1) r
noncomputable def am_cka : Nat → List (List (List (List (Option am_Op)))) → Bool
  | _, [] => true
  | k, q :: r => am_ckq (16 * k) q && am_cka (k + 1) r
theorem am_ckr_at {m : Nat} {op : am_Op} : ∀ (l : List (Option am_Op)) (p i : Nat), am_ckr m p l = true → l.getD i none = some op → am_okop m (p + i) op = true
  | [], p, i, _, h => by simp at h
  | none :: r, p, 0, _, h => by simp at h
  | none :: r, p, i + 1, hc, h => by
    have h2 := am_ckr_at r (p + 1) i hc (by simpa using h)
    rwa [show p + 1 + i = p + (i + 1) by omega] at h2
  | some o :: r, p, 0, hc, h => by
    simp only [am_ckr, Bool.and_eq_true] at hc
    have : o = op := by simpa using h
    subst this
    exact hc.1
  | some o :: r, p, i + 1, hc, h => by
    simp only [am_ckr, Bool.and_eq_true] at hc
    have h2 := am_ckr_at r (p + 1) i hc.2 (by simpa using h)
    rwa [show p + 1 + i = p + (i + 1) by omega] at h2
theorem am_ckc_at {m : Nat} {op : am_Op} {i : Nat} : ∀ (l : List (List (Option am_Op))) (k j : Nat), am_ckc m k l = true → (l.getD j []).getD i none = some op → am_okop m (16 * (k + j) + i) op = true
  | [], k, j, _, h => by simp at h
  | ch :: r, k, 0, hc, h => by
    simp only [am_ckc, Bool.and_eq_true] at hc
    exact am_ckr_at ch (16 * k) i hc.1 (by simpa using h)
  | ch :: r, k, j + 1, hc, h => by
    simp only [am_ckc, Bool.and_eq_true] at hc
    have h2 := am_ckc_at r (k + 1) j hc.2 (by simpa using h)
    rwa [show k + 1 + j = k + (j + 1) by omega] at h2
theorem am_ckq_at {op : am_Op} {i j : Nat} : ∀ (l : List (List (List (Option am_Op)))) (m n : Nat), am_ckq m l = true → ((l.getD n []).getD j []).getD i none = some op → am_okop (m + n) (16 * j + i) op = true
  | [], m, n, _, h => by simp at h
  | o :: r, m, 0, hc, h => by
    simp only [am_ckq, Bool.and_eq_true] at hc
    have h2 := am_ckc_at o 0 j hc.1 (by simpa using h)
    rwa [show 16 * (0 + j) + i = 16 * j + i by omega] at h2
  | o :: r, m, n + 1, hc, h => by
    simp only [am_ckq, Bool.and_eq_true] at hc
    have h2 := am_ckq_at r (m + 1) n hc.2 (by simpa using h)
    rwa [show m + 1 + n = m + (n + 1) by omega] at h2
theorem am_cka_at {op : am_Op} {i j n : Nat} : ∀ (l : List (List (List (List (Option am_Op))))) (k q : Nat), am_cka k l = true → (((l.getD q []).getD n []).getD j []).getD i none = some op → am_okop (16 * (k + q) + n) (16 * j + i) op = true
  | [], k, q, _, h => by simp at h
  | o :: r, k, 0, hc, h => by
    simp only [am_cka, Bool.and_eq_true] at hc
    exact am_ckq_at o (16 * k) n hc.1 (by simpa using h)
  | o :: r, k, q + 1, hc, h => by
    simp only [am_cka, Bool.and_eq_true] at hc
    have h2 := am_cka_at r (k + 1) q hc.2 (by simpa using h)
    rwa [show k + 1 + q = k + (q + 1) by omega] at h2
