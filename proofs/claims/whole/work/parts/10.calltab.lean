/-! Calls: where the words of each method stand. The two tables are written by wip/whole/gen/mkcall.py. -/
def mj_mpos : List (Nat × Nat × Nat × Nat) := [(198, 197, 0, 164), (192, 191, 0, 163), (358, 357, 0, 166), (354, 353, 0, 165), (377, 376, 0, 167), (425, 424, 0, 168), (444, 443, 0, 169), (479, 478, 0, 170), (492, 491, 0, 171), (184, 183, 0, 162), (1382, 1381, 97, 172), (1378, 1377, 96, 172), (1390, 1389, 99, 172), (1386, 1385, 98, 172), (1374, 1373, 95, 172), (1369, 1368, 0, 172), (559, 558, 0, 163), (555, 553, 554, 162), (1582, 1581, 100, 172), (1578, 1576, 1577, 172), (571, 570, 2, 164), (583, 582, 4, 163), (592, 591, 5, 163), (596, 595, 6, 163), (579, 578, 3, 163), (608, 607, 9, 163), (615, 614, 0, 164), (612, 611, 10, 164), (604, 603, 8, 163), (619, 618, 11, 163), (627, 626, 13, 164), (630, 629, 0, 162), (638, 637, 15, 163), (642, 641, 16, 163), (646, 645, 17, 164), (634, 633, 14, 163), (623, 622, 12, 163), (657, 656, 19, 163), (660, 659, 0, 162), (668, 667, 21, 164), (672, 671, 22, 164), (664, 663, 20, 163), (653, 652, 18, 163), (676, 675, 23, 163), (600, 599, 7, 163), (567, 566, 1, 163), (684, 683, 25, 165), (688, 687, 26, 171), (680, 679, 24, 162), (708, 707, 0, 162), (711, 710, 0, 162), (705, 704, 0, 162), (720, 719, 31, 165), (723, 722, 0, 162), (729, 728, 32, 165), (716, 715, 30, 165), (732, 731, 0, 162), (702, 701, 29, 165), (736, 735, 33, 165), (697, 696, 28, 165), (743, 742, 0, 165), (749, 748, 0, 162), (746, 745, 0, 165), (757, 756, 0, 162), (754, 753, 35, 165), (740, 739, 34, 165), (766, 765, 37, 165), (762, 761, 36, 167), (786, 785, 41, 165), (782, 781, 40, 165), (777, 776, 39, 165), (795, 794, 43, 165), (791, 790, 42, 167), (773, 772, 38, 167), (692, 691, 27, 167), (563, 561, 562, 162), (1589, 1588, 0, 172), (1597, 1596, 102, 172), (1593, 1592, 101, 172), (1606, 1605, 104, 172), (1614, 1613, 106, 172), (1610, 1609, 105, 172), (1622, 1621, 108, 172), (1629, 1628, 0, 172), (1618, 1617, 107, 172), (1637, 1636, 110, 172), (1641, 1640, 111, 172), (1633, 1632, 109, 172), (1645, 1644, 112, 172), (1649, 1648, 113, 172), (1601, 1600, 103, 172), (1656, 1655, 0, 172), (1664, 1663, 116, 172), (1660, 1659, 115, 172), (1683, 1682, 0, 172), (1687, 1686, 121, 172), (1680, 1679, 120, 172), (1695, 1694, 0, 172), (1691, 1690, 122, 172), (1676, 1675, 119, 172), (1699, 1698, 123, 172), (1672, 1671, 118, 172), (1706, 1705, 0, 172), (1703, 1702, 124, 172), (1710, 1709, 125, 172), (1714, 1713, 126, 172), (1722, 1721, 128, 172), (1718, 1717, 127, 172), (1730, 1729, 130, 172), (1726, 1725, 129, 172), (1668, 1667, 117, 172), (1653, 1652, 114, 172), (1586, 1584, 1585, 172), (799, 797, 798, 162), (1734, 1732, 1733, 172), (928, 927, 58, 162), (1324, 1323, 91, 164), (1328, 1327, 92, 164), (1332, 1331, 93, 167), (1253, 1251, 1252, 162), (1848, 1847, 144, 172), (1951, 1950, 152, 172), (1979, 1977, 1978, 172), (1364, 1362, 1363, 172), (807, 806, 44, 162), (1360, 1359, 94, 167), (1355, 1353, 1354, 162), (1832, 1831, 142, 172), (1983, 1981, 1982, 172), (803, 801, 802, 162), (1987, 1985, 1986, 172), (812, 810, 811, 162), (1780, 1779, 0, 172), (1991, 1989, 1990, 172), (820, 819, 45, 162), (816, 814, 815, 162), (1792, 1791, 138, 172), (2007, 2005, 2006, 172), (827, 826, 0, 162), (836, 835, 47, 165), (831, 830, 46, 165), (840, 839, 48, 165), (848, 847, 50, 165), (860, 859, 52, 171), (855, 854, 51, 171), (844, 843, 49, 162), (824, 822, 823, 162), (1745, 1744, 0, 172), (1749, 1748, 131, 172), (1757, 1756, 133, 172), (1761, 1760, 134, 172), (1753, 1752, 132, 172), (1742, 1740, 1741, 172), (870, 869, 53, 162), (874, 873, 54, 165), (866, 864, 865, 162), (1769, 1768, 135, 172), (1773, 1772, 136, 172), (1765, 1763, 1764, 172), (883, 882, 55, 165), (878, 876, 877, 162), (1784, 1783, 137, 172), (1777, 1775, 1776, 172), (887, 885, 886, 162), (1788, 1786, 1787, 172), (892, 890, 891, 162), (1800, 1799, 139, 172), (1796, 1794, 1795, 172), (897, 895, 896, 162), (1804, 1802, 1803, 172), (905, 904, 56, 165), (901, 899, 900, 162), (1812, 1811, 140, 172), (1808, 1806, 1807, 172), (915, 914, 57, 165), (911, 909, 910, 162), (1820, 1819, 141, 172), (1816, 1814, 1815, 172), (919, 917, 918, 162), (1828, 1826, 1827, 172), (924, 922, 923, 162), (1844, 1842, 1843, 172), (933, 931, 932, 162), (1852, 1850, 1851, 172), (942, 941, 59, 162), (938, 936, 937, 162), (1856, 1854, 1855, 172), (959, 958, 61, 171), (963, 962, 62, 171), (955, 953, 954, 162), (1738, 1736, 1737, 172), (980, 979, 0, 162), (976, 975, 0, 162), (972, 971, 63, 162), (968, 966, 967, 162), (1864, 1863, 145, 172), (1860, 1858, 1859, 172), (984, 982, 983, 162), (1872, 1870, 1871, 172), (988, 986, 987, 162), (1876, 1874, 1875, 172), (997, 996, 64, 165), (993, 991, 992, 162), (1884, 1883, 146, 172), (1880, 1878, 1879, 172), (1010, 1009, 66, 165), (1005, 1004, 65, 165), (1001, 999, 1000, 162), (1892, 1891, 147, 172), (1888, 1886, 1887, 172), (1022, 1021, 0, 162), (1019, 1018, 67, 165), (1025, 1024, 0, 162), (1025, 1024, 0, 162), (1025, 1024, 0, 162), (1025, 1024, 0, 162), (1025, 1024, 0, 162), (1025, 1024, 0, 162), (1014, 1012, 1013, 162), (1900, 1898, 1899, 172), (1035, 1034, 68, 165), (1031, 1029, 1030, 162), (1908, 1907, 148, 172), (1904, 1902, 1903, 172), (1064, 1062, 1063, 162), (1927, 1925, 1926, 172), (1068, 1066, 1067, 162), (1935, 1934, 150, 172), (1931, 1929, 1930, 172), (1072, 1070, 1071, 162), (1939, 1937, 1938, 172), (1080, 1079, 70, 167), (1076, 1074, 1075, 162), (1947, 1946, 151, 172), (1943, 1941, 1942, 172), (1088, 1087, 71, 167), (1084, 1082, 1083, 162), (1963, 1962, 153, 172), (1959, 1957, 1958, 172), (1092, 1090, 1091, 162), (1967, 1965, 1966, 172), (1096, 1094, 1095, 162), (1971, 1969, 1970, 172), (1151, 1150, 78, 168), (1159, 1158, 80, 171), (1155, 1154, 79, 162), (1147, 1145, 1146, 162), (2015, 2014, 156, 172), (2011, 2009, 2010, 172), (1163, 1161, 1162, 162), (2019, 2017, 2018, 172), (1167, 1165, 1166, 162), (2023, 2021, 2022, 172), (1185, 1184, 83, 169), (1191, 1190, 84, 169), (1197, 1196, 85, 169), (1179, 1178, 82, 169), (1175, 1174, 81, 162), (1171, 1169, 1170, 162), (2042, 2041, 0, 172), (2039, 2038, 159, 172), (2035, 2034, 158, 172), (2031, 2030, 157, 172), (2027, 2025, 2026, 172), (1207, 1206, 86, 169), (1203, 1201, 1202, 162), (2050, 2049, 160, 172), (2046, 2044, 2045, 172), (1213, 1211, 1212, 162), (2054, 2052, 2053, 172), (1221, 1220, 87, 168), (1217, 1215, 1216, 162), (2058, 2056, 2057, 172), (1119, 1118, 74, 170), (1112, 1111, 73, 170), (1227, 1225, 1226, 162), (2062, 2060, 2061, 172), (1039, 1037, 1038, 162), (1868, 1866, 1867, 172), (1043, 1041, 1042, 162), (1824, 1822, 1823, 172), (950, 949, 60, 165), (946, 944, 945, 162), (1840, 1839, 143, 172), (1836, 1834, 1835, 172), (1051, 1050, 69, 165), (1047, 1045, 1046, 162), (1916, 1915, 149, 172), (1912, 1910, 1911, 172), (1055, 1053, 1054, 162), (1923, 1922, 0, 172), (1920, 1918, 1919, 172), (1104, 1103, 72, 164), (1100, 1098, 1099, 162), (1975, 1973, 1974, 172), (1108, 1106, 1107, 162), (2066, 2064, 2065, 172), (1235, 1234, 88, 169), (1240, 1239, 89, 169), (1231, 1229, 1230, 162), (2070, 2068, 2069, 172), (1126, 1124, 1125, 162), (1955, 1953, 1954, 172), (1138, 1137, 76, 164), (1134, 1133, 75, 164), (1142, 1141, 77, 164), (1130, 1128, 1129, 162), (1999, 1998, 154, 172), (2003, 2002, 155, 172), (1995, 1993, 1994, 172), (1060, 1058, 1059, 162), (1896, 1894, 1895, 172), (1244, 1242, 1243, 162), (2074, 2072, 2073, 172), (0, 0, 0, 0)]
/-- 0 static, 1 virtual, 2 a constructor, 3 the law -/
def mj_mk : List Nat := [2, 2, 0, 2, 2, 2, 2, 2, 2, 2, 1, 1, 1, 1, 1, 2, 1, 1, 1, 1, 1, 1, 1, 1, 1, 1, 0, 1, 1, 1, 1, 0, 1, 1, 1, 1, 1, 1, 0, 1, 1, 1, 1, 1, 1, 1, 1, 1, 1, 0, 0, 0, 1, 0, 1, 1, 0, 1, 1, 1, 0, 0, 0, 0, 1, 1, 1, 1, 1, 1, 1, 1, 1, 1, 1, 1, 0, 1, 1, 1, 1, 1, 1, 0, 1, 1, 1, 1, 1, 1, 1, 0, 1, 1, 0, 1, 1, 0, 1, 1, 1, 1, 0, 1, 1, 1, 1, 1, 1, 1, 1, 1, 1, 1, 1, 1, 1, 1, 1, 1, 1, 1, 1, 1, 1, 1, 1, 1, 1, 1, 1, 1, 0, 1, 1, 1, 1, 1, 0, 1, 1, 1, 1, 1, 1, 1, 1, 0, 1, 1, 1, 1, 1, 1, 1, 1, 1, 1, 1, 1, 1, 1, 1, 1, 1, 1, 1, 1, 1, 1, 1, 1, 1, 1, 1, 1, 1, 1, 1, 1, 1, 1, 1, 1, 1, 1, 1, 1, 1, 1, 1, 0, 0, 1, 1, 1, 1, 1, 1, 1, 1, 1, 1, 1, 1, 1, 1, 1, 1, 1, 0, 1, 0, 0, 0, 0, 0, 0, 1, 1, 1, 1, 1, 1, 1, 1, 1, 1, 1, 1, 1, 1, 1, 1, 1, 1, 1, 1, 1, 1, 1, 1, 1, 1, 1, 1, 1, 1, 1, 1, 1, 1, 1, 1, 1, 1, 1, 1, 1, 0, 1, 1, 1, 1, 1, 1, 1, 1, 1, 1, 1, 1, 1, 1, 1, 1, 1, 1, 1, 1, 1, 1, 1, 1, 1, 1, 1, 1, 1, 1, 0, 1, 1, 1, 1, 1, 1, 1, 1, 1, 1, 1, 1, 1, 1, 1, 1, 1, 1, 1, 1, 1, 1, 1, 3]
def mj_mp (cy : Nat) : Nat × Nat × Nat × Nat := mj_mpos.getD cy (0, 0, 0, 0)
def mj_mkd (cy : Nat) : Nat := mj_mk.getD cy 3
def mj_nm (cy : Nat) : MethodName := (mj_row cy).1
def mj_cw (y : Nat) : Cond := .code (mj_nm y) (mj_code y) (mj_nL y) (mj_rt y)
def mj_npar (d : String) : Option Nat := (parseMethodDescriptor d).map (fun d => d.parameters.length)
/-- a method that is called: its words -/
def mj_mok (cy : Nat) : Bool :=
  decide (lw_tbl[(mj_mp cy).2.2.2]? = some (.initialized (mj_nm cy).cls)) && plainName (mj_nm cy).cls && decide ((mj_nm cy).cls ≠ "java/lang/invoke/MethodHandle") && decide ((mj_nm cy).cls ≠ "java/lang/invoke/VarHandle") && decide (mj_nL cy ≤ 60) && decide (mj_ar cy ≤ mj_nL cy) && (match mj_mkd cy with
    | 0 => decide (lw_tbl[(mj_mp cy).2.1]? = some (.static (mj_nm cy))) && decide (mj_npar (mj_nm cy).desc = some (mj_ar cy))
    | 1 => decide (lw_tbl[(mj_mp cy).2.1]? = some (.instanceMethod (mj_nm cy))) && decide (lw_tbl[(mj_mp cy).2.2.1]? = some (.selects (mj_nm cy).cls (mj_nm cy) (mj_nm cy))) && decide (mj_npar (mj_nm cy).desc = some (mj_ar cy - 1)) && decide (1 ≤ mj_ar cy) && decide ((mj_cl[mj_cn cy]?).map (·.1) = some (mj_nm cy).cls)
    | 2 => decide (lw_tbl[(mj_mp cy).2.1]? = some (.instanceMethod (mj_nm cy))) && decide ((mj_nm cy).name = "<init>") && decide (mj_rt cy = none) && decide (mj_npar (mj_nm cy).desc = some (mj_ar cy - 1)) && decide (1 ≤ mj_ar cy)
    | _ => false)
theorem mj_mok_1 : ((List.range 80).all fun k => mj_mok k) = true := by decide +kernel
theorem mj_mok_2 : ((List.range 80).all fun k => mj_mok (k + 80)) = true := by decide +kernel
theorem mj_mok_3 : ((List.range 80).all fun k => mj_mok (k + 160)) = true := by decide +kernel
theorem mj_mok_4 : ((List.range 74).all fun k => mj_mok (k + 240)) = true := by decide +kernel
theorem mj_mok_all {cy : Nat} (h : cy < 314) : mj_mok cy = true := by
  rcases Nat.lt_or_ge cy 80 with q | q
  · exact List.all_eq_true.mp mj_mok_1 cy (List.mem_range.mpr q)
  · rcases Nat.lt_or_ge cy 160 with q2 | q2
    · have := List.all_eq_true.mp mj_mok_2 (cy - 80) (List.mem_range.mpr (by omega))
      rwa [show cy - 80 + 80 = cy by omega] at this
    · rcases Nat.lt_or_ge cy 240 with q3 | q3
      · have := List.all_eq_true.mp mj_mok_3 (cy - 160) (List.mem_range.mpr (by omega))
        rwa [show cy - 160 + 160 = cy by omega] at this
      · have := List.all_eq_true.mp mj_mok_4 (cy - 240) (List.mem_range.mpr (by omega))
        rwa [show cy - 240 + 240 = cy by omega] at this
/-- a call's link -/
def mj_cok (cn : Nat) (e : Nat × Nat × Nat × Nat) : Bool :=
  match e.2.1 with
  | 0 => decide (lw_tbl[e.2.2.2]? = some (.methodLink (mj_owns.getD cn "") e.1 (mj_nm e.2.2.1))) && decide (e.2.2.1 < 314) && decide (mj_mkd e.2.2.1 = 1)
  | 1 => (match lw_tbl[e.2.2.2]? with
    | some (.methodLinkNest own i x _) => own == mj_owns.getD cn "" && i == e.1 && decide (x = mj_nm e.2.2.1)
    | _ => false) && decide (e.2.2.1 < 314) && decide (mj_mkd e.2.2.1 = 1)
  | 2 => decide (lw_tbl[e.2.2.2]? = some (.methodLink (mj_owns.getD cn "") e.1 (mj_nm e.2.2.1))) && decide (e.2.2.1 < 314) && decide (mj_mkd e.2.2.1 = 0)
  | 3 => (match lw_tbl[e.2.2.2]? with
    | some (.methodLinkNest own i x _) => own == mj_owns.getD cn "" && i == e.1 && decide (x = mj_nm e.2.2.1)
    | _ => false) && decide (e.2.2.1 < 314) && decide (mj_mkd e.2.2.1 = 0)
  | 4 => decide (lw_tbl[e.2.2.2]? = some (.methodLink (mj_owns.getD cn "") e.1 (mj_nm e.2.2.1))) && decide (e.2.2.1 < 314) && decide (mj_mkd e.2.2.1 = 2)
  | 5 => (match lw_tbl[e.2.2.2]? with
    | some (.methodLinkNest own i x _) => own == mj_owns.getD cn "" && i == e.1 && decide (x = mj_nm e.2.2.1)
    | _ => false) && decide (e.2.2.1 < 314) && decide (mj_mkd e.2.2.1 = 2)
  | 6 => decide (lw_tbl[e.2.2.2]? = some (.methodLink (mj_owns.getD cn "") e.1 Lib.objectInit))
  | 7 => decide (lw_tbl[e.2.2.2]? = some (.methodLink (mj_owns.getD cn "") e.1 arraycopyName))
  | 12 => decide (lw_tbl[e.2.2.2]? = some (.methodLink (mj_owns.getD cn "") e.1 Lib.Math.max.name))
  | 13 => decide (lw_tbl[e.2.2.2]? = some (.methodLink (mj_owns.getD cn "") e.1 Lib.Math.min.name))
  | 14 => decide (lw_tbl[e.2.2.2]? = some (.methodLink (mj_owns.getD cn "") e.1 Lib.Math.abs.name))
  | 9 => (match mj_cl[e.2.2.1]? with
    | some (C, _, N) => decide (lw_tbl[e.2.2.2]? = some (.classLink (mj_owns.getD cn "") e.1 C)) && decide (Cond.instantiable C N ∈ lw_tbl) && decide (Cond.initialized C ∈ lw_tbl)
    | none => false)
  | 10 => decide (lw_tbl[e.2.2.2]? = some (.classLink (mj_owns.getD cn "") e.1 mj_zn)) && decide (e.2.2.1 = 7)
  | _ => true
theorem mj_cok_0 : (mj_cts.getD 0 []).all (mj_cok 0) = true := by decide +kernel
theorem mj_cok_1 : (mj_cts.getD 1 []).all (mj_cok 1) = true := by decide +kernel
theorem mj_cok_2 : (mj_cts.getD 2 []).all (mj_cok 2) = true := by decide +kernel
theorem mj_cok_3 : (mj_cts.getD 3 []).all (mj_cok 3) = true := by decide +kernel
theorem mj_cok_4 : (mj_cts.getD 4 []).all (mj_cok 4) = true := by decide +kernel
theorem mj_cok_5 : (mj_cts.getD 5 []).all (mj_cok 5) = true := by decide +kernel
theorem mj_cok_6 : (mj_cts.getD 6 []).all (mj_cok 6) = true := by decide +kernel
theorem mj_cok_7 : (mj_cts.getD 7 []).all (mj_cok 7) = true := by decide +kernel
theorem mj_cok_8 : (mj_cts.getD 8 []).all (mj_cok 8) = true := by decide +kernel
theorem mj_cok_9 : (mj_cts.getD 9 []).all (mj_cok 9) = true := by decide +kernel
theorem mj_cok_10 : (mj_cts.getD 10 []).all (mj_cok 10) = true := by decide +kernel
theorem mj_cok_11 : (mj_cts.getD 11 []).all (mj_cok 11) = true := by decide +kernel
theorem mj_cok_12 : (mj_cts.getD 12 []).all (mj_cok 12) = true := by decide +kernel
theorem mj_cok_13 : (mj_cts.getD 13 []).all (mj_cok 13) = true := by decide +kernel
theorem mj_cok_14 : (mj_cts.getD 14 []).all (mj_cok 14) = true := by decide +kernel
theorem mj_cok_15 : (mj_cts.getD 15 []).all (mj_cok 15) = true := by decide +kernel
theorem mj_cok_16 : (mj_cts.getD 16 []).all (mj_cok 16) = true := by decide +kernel
theorem mj_cok_17 : (mj_cts.getD 17 []).all (mj_cok 17) = true := by decide +kernel
theorem mj_cok_18 : (mj_cts.getD 18 []).all (mj_cok 18) = true := by decide +kernel
theorem mj_cok_19 : (mj_cts.getD 19 []).all (mj_cok 19) = true := by decide +kernel
theorem mj_cok_20 : (mj_cts.getD 20 []).all (mj_cok 20) = true := by decide +kernel
theorem mj_cok_21 : (mj_cts.getD 21 []).all (mj_cok 21) = true := by decide +kernel
theorem mj_cok_22 : (mj_cts.getD 22 []).all (mj_cok 22) = true := by decide +kernel
theorem mj_cok_23 : (mj_cts.getD 23 []).all (mj_cok 23) = true := by decide +kernel
theorem mj_cok_24 : (mj_cts.getD 24 []).all (mj_cok 24) = true := by decide +kernel
theorem mj_cok_25 : (mj_cts.getD 25 []).all (mj_cok 25) = true := by decide +kernel
theorem mj_cok_all {cn : Nat} (h : cn < 26) : (mj_cts.getD cn []).all (mj_cok cn) = true := by
  have h : cn = 0 ∨ cn = 1 ∨ cn = 2 ∨ cn = 3 ∨ cn = 4 ∨ cn = 5 ∨ cn = 6 ∨ cn = 7 ∨ cn = 8 ∨ cn = 9 ∨ cn = 10 ∨ cn = 11 ∨ cn = 12 ∨ cn = 13 ∨ cn = 14 ∨ cn = 15 ∨ cn = 16 ∨ cn = 17 ∨ cn = 18 ∨ cn = 19 ∨ cn = 20 ∨ cn = 21 ∨ cn = 22 ∨ cn = 23 ∨ cn = 24 ∨ cn = 25 := by omega
  rcases h with rfl | rfl | rfl | rfl | rfl | rfl | rfl | rfl | rfl | rfl | rfl | rfl | rfl | rfl | rfl | rfl | rfl | rfl | rfl | rfl | rfl | rfl | rfl | rfl | rfl | rfl
  · exact mj_cok_0
  · exact mj_cok_1
  · exact mj_cok_2
  · exact mj_cok_3
  · exact mj_cok_4
  · exact mj_cok_5
  · exact mj_cok_6
  · exact mj_cok_7
  · exact mj_cok_8
  · exact mj_cok_9
  · exact mj_cok_10
  · exact mj_cok_11
  · exact mj_cok_12
  · exact mj_cok_13
  · exact mj_cok_14
  · exact mj_cok_15
  · exact mj_cok_16
  · exact mj_cok_17
  · exact mj_cok_18
  · exact mj_cok_19
  · exact mj_cok_20
  · exact mj_cok_21
  · exact mj_cok_22
  · exact mj_cok_23
  · exact mj_cok_24
  · exact mj_cok_25
theorem mj_cl2_ok {cn idx k x q : Nat} (h : mj_cl2 cn idx = some (k, x, q)) : mj_cok cn (idx, k, x, q) = true := by
  have hm := mj_look_mem _ _ _ h
  have hl := mj_look_lt h
  rw [mj_cts_len] at hl
  exact List.all_eq_true.mp (mj_cok_all hl) _ hm
theorem mj_words : Cond.instanceMethod Lib.objectInit ∈ lw_t2 ∧ Cond.native arraycopyName ∈ lw_t2 ∧ Cond.static arraycopyName ∈ lw_t2 ∧ Cond.initialized "java/lang/System" ∈ lw_t2 ∧ Cond.arrayClass .int ∈ lw_t2 ∧ Cond.arrayClass .byte ∈ lw_t2 ∧ Cond.arrayClass .long ∈ lw_t2 ∧ Cond.static Lib.Math.max.name ∈ lw_t2 ∧ Cond.static Lib.Math.min.name ∈ lw_t2 ∧ Cond.static Lib.Math.abs.name ∈ lw_t2 ∧ Cond.initialized "java/lang/Math" ∈ lw_t2 := by
  refine ⟨?_, ?_, ?_, ?_, ?_, ?_, ?_, ?_, ?_, ?_, ?_⟩ <;> exact List.mem_filter.mpr ⟨by decide +kernel, by decide +kernel⟩
