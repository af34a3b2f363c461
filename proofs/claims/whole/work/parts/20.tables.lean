def kT : Nat → List Nat
  | 1 => [0]
  | 2 => [0, 1]
  | 3 => [0, 1, 6, 7, 8]
  | 4 => [0, 1, 6, 7, 8, 36, 37, 38, 42, 43, 44, 48, 49, 50, 51]
  | 5 => [0, 1, 6, 7, 8, 36, 37, 38, 42, 43, 44, 48, 49, 50, 51, 216, 217, 218, 222, 223, 224, 228, 229, 230, 231, 252, 253, 254, 258, 259, 260, 264, 265, 266, 267, 288, 289, 290, 291, 294, 295, 296, 297, 300, 301, 302, 303, 306, 307, 308, 309, 310]
  | 6 => [0, 1, 6, 7, 8, 36, 37, 38, 42, 43, 44, 48, 49, 50, 51, 216, 217, 218, 222, 223, 224, 228, 229, 230, 231, 252, 253, 254, 258, 259, 260, 264, 265, 266, 267, 288, 289, 290, 291, 294, 295, 296, 297, 300, 301, 302, 303, 306, 307, 308, 309, 310, 1296, 1297, 1298, 1302, 1303, 1304, 1308, 1309, 1310, 1311, 1332, 1333, 1334, 1338, 1339, 1340, 1344, 1345, 1346, 1347, 1368, 1369, 1370, 1371, 1374, 1375, 1376, 1377, 1380, 1381, 1382, 1383, 1386, 1387, 1388, 1389, 1390, 1512, 1513, 1514, 1518, 1519, 1520, 1524, 1525, 1526, 1527, 1548, 1549, 1550, 1554, 1555, 1556, 1560, 1561, 1562, 1563, 1584, 1585, 1586, 1587, 1590, 1591, 1592, 1593, 1596, 1597, 1598, 1599, 1602, 1603, 1604, 1605, 1606, 1728, 1729, 1730, 1731, 1734, 1735, 1736, 1737, 1740, 1741, 1742, 1743, 1746, 1747, 1748, 1749, 1750, 1764, 1765, 1766, 1767, 1770, 1771, 1772, 1773, 1776, 1777, 1778, 1779, 1782, 1783, 1784, 1785, 1786, 1800, 1801, 1802, 1803, 1806, 1807, 1808, 1809, 1812, 1813, 1814, 1815, 1818, 1819, 1820, 1821, 1822, 1836, 1837, 1838, 1839, 1840, 1842, 1843, 1844, 1845, 1846, 1848, 1849, 1850, 1851, 1852, 1854, 1855, 1856, 1857, 1858, 1860, 1861, 1862, 1863, 1864, 1865]
  | _ => []
def kM : Nat → List Nat
  | 1 => [0]
  | 2 => [1, 0]
  | 3 => [35, 1, 2, 32, 0]
  | 4 => [615, 35, 69, 513, 1, 518, 66, 2, 36, 608, 32, 4, 64, 512, 0]
  | 5 => [5871, 615, 1195, 4131, 35, 4301, 1093, 69, 649, 5633, 513, 137, 1025, 4097, 1, 5646, 646, 518, 1098, 4290, 66, 1034, 130, 4098, 2, 4140, 1188, 36, 616, 5856, 608, 40, 1184, 4128, 32, 4108, 132, 1028, 4, 72, 4288, 1088, 64, 520, 640, 5632, 512, 8, 128, 1024, 4096, 0]
  | 6 => [32767, 5871, 11127, 16999, 615, 19899, 9387, 1195, 6451, 28707, 4131, 2355, 8227, 16419, 35, 29149, 6349, 4301, 9557, 19525, 1093, 8533, 2117, 16453, 69, 17305, 10889, 649, 5905, 32257, 5633, 785, 10753, 16897, 513, 16793, 2185, 8329, 137, 1297, 19457, 9217, 1025, 4369, 6145, 28673, 4097, 273, 2049, 8193, 16385, 1, 32286, 5902, 5646, 10902, 17286, 646, 10774, 774, 16902, 518, 19546, 9546, 1098, 6354, 29122, 4290, 2130, 8514, 16450, 66, 19482, 1290, 9226, 1034, 2194, 16770, 8322, 130, 6162, 4354, 28674, 4098, 2066, 258, 8194, 16386, 2, 28732, 6444, 4140, 9396, 19876, 1188, 8244, 2340, 16420, 36, 17016, 11112, 616, 5872, 32736, 5856, 624, 11104, 16992, 608, 16440, 2344, 8232, 40, 1200, 19872, 9376, 1184, 4144, 6432, 28704, 4128, 48, 2336, 8224, 16416, 32, 28700, 4364, 6156, 4108, 8340, 16772, 2180, 132, 9236, 1284, 19460, 1028, 8212, 260, 2052, 16388, 4, 16472, 8520, 2120, 72, 4304, 29120, 6336, 4288, 1104, 9536, 19520, 1088, 80, 8512, 2112, 16448, 64, 16920, 776, 10760, 520, 656, 17280, 10880, 640, 5648, 5888, 32256, 5632, 528, 768, 10752, 16896, 512, 16408, 264, 2056, 8200, 8, 144, 16768, 2176, 8320, 128, 1040, 1280, 19456, 9216, 1024, 4112, 4352, 6144, 28672, 4096, 16, 256, 2048, 8192, 16384, 0]
  | _ => []
/-- how many partitions -/
def kN (n : Nat) : Nat := (kT n).length
/-- the growth number of the partition g -/
def kt (n g : Nat) : Nat := (kT n).getD g 0
/-- its pairs -/
def km (n g : Nat) : Nat := (kM n).getD g 0
/-- a digit of a growth number -/
def kd (n t e : Nat) : Nat := t / 6 ^ (n - 1 - e) % 6
/-- the block of the element e in the partition g -/
def ks (n g e : Nat) : Nat := kd n (kt n g) e
/-- the place of a pair i < j -/
def kp (i j : Nat) : Nat := i * (11 - i) / 2 + j - i - 1
/-- how many blocks the first e elements are in -/
def kb (n t : Nat) : Nat → Nat
  | 0 => 0
  | e + 1 => if kd n t e = kb n t e then kb n t e + 1 else kb n t e
def kB (n g : Nat) : Nat := kb n (kt n g) n
/-- the elements below e of the block b -/
def ke (n t b : Nat) : Nat → Nat
  | 0 => 0
  | e + 1 => if kd n t e = b then ke n t b e + 2 ^ e else ke n t b e
def kE (n g b : Nat) : Nat := ke n (kt n g) b n
def k6 : List Nat := [1, 2, 3, 4, 5, 6]
theorem k6_mem {n : Nat} (h1 : 1 ≤ n) (h2 : n ≤ 6) : n ∈ k6 := by
  rcases (show n = 1 ∨ n = 2 ∨ n = 3 ∨ n = 4 ∨ n = 5 ∨ n = 6 by omega) with rfl | rfl | rfl | rfl | rfl | rfl <;> decide
/-- a thing decided of every growth number -/
theorem k6_all {P : Nat → Nat → Bool} (h : (k6.all fun n => (kT n).all fun t => P n t) = true) {n g : Nat} (h1 : 1 ≤ n) (h2 : n ≤ 6) (hg : g < kN n) : P n (kt n g) = true := by
  have h3 := List.all_eq_true.mp (List.all_eq_true.mp h n (k6_mem h1 h2)) (kt n g) (by
    unfold kt
    rw [List.getD_eq_getElem?_getD, List.getElem?_eq_getElem hg]
    exact List.getElem_mem hg)
  exact h3
theorem kN_le {n : Nat} (h1 : 1 ≤ n) (h2 : n ≤ 6) : kN n ≤ 203 ∧ 0 < kN n := by
  have h : (k6.all fun n => decide (kN n ≤ 203 ∧ 0 < kN n)) = true := by decide +kernel
  exact of_decide_eq_true (List.all_eq_true.mp h n (k6_mem h1 h2))
/-- all pairs i < j of places below n -/
def kP (n : Nat) : List (Nat × Nat) := (List.range n).flatMap fun j => (List.range j).map fun i => (i, j)
theorem kP_mem {n i j : Nat} (h1 : i < j) (h2 : j < n) : (i, j) ∈ kP n := List.mem_flatMap.mpr ⟨j, List.mem_range.mpr h2, List.mem_map.mpr ⟨i, List.mem_range.mpr h1, rfl⟩⟩
def mkOf (n t : Nat) : Nat := (kP n).foldl (fun m q => if kd n t q.1 = kd n t q.2 then m ||| 2 ^ kp q.1 q.2 else m) 0
theorem kM_of : (k6.all fun n => decide ((kT n).map (mkOf n) = kM n)) = true := by decide +kernel
theorem km_of {n g : Nat} (h1 : 1 ≤ n) (h2 : n ≤ 6) (hg : g < kN n) : km n g = mkOf n (kt n g) := by
  have h := of_decide_eq_true (List.all_eq_true.mp kM_of n (k6_mem h1 h2))
  unfold km kt
  rw [← h, List.getD_eq_getElem?_getD, List.getD_eq_getElem?_getD, List.getElem?_map, List.getElem?_eq_getElem hg]
  rfl
/-- a pair is in the mask if both are in one block -/
theorem km_bits : (k6.all fun n => (kT n).all fun t => decide (mkOf n t < 32768) && (kP 6).all fun q => (mkOf n t).testBit (kp q.1 q.2) == (decide (q.2 < n) && decide (kd n t q.1 = kd n t q.2))) = true := by decide +kernel
theorem km_lt {n g : Nat} (h1 : 1 ≤ n) (h2 : n ≤ 6) (hg : g < kN n) : km n g < 32768 := by
  have h := k6_all km_bits h1 h2 hg
  rw [Bool.and_eq_true] at h
  rw [km_of h1 h2 hg]
  exact of_decide_eq_true h.1
theorem km_bit {n g i j : Nat} (h1 : 1 ≤ n) (h2 : n ≤ 6) (hg : g < kN n) (hi : i < j) (hj : j < 6) : (km n g).testBit (kp i j) = (decide (j < n) && decide (ks n g i = ks n g j)) := by
  have h := k6_all km_bits h1 h2 hg
  rw [Bool.and_eq_true] at h
  rw [km_of h1 h2 hg]
  exact eq_of_beq (List.all_eq_true.mp h.2 (i, j) (kP_mem hi hj))
/-- what is above is ahead -/
theorem kM_ord : (k6.all fun n => decide ((kM n).Pairwise fun x y => x &&& y ≠ x)) = true := by decide +kernel
theorem km_ord {n a b : Nat} (h1 : 1 ≤ n) (h2 : n ≤ 6) (hb : b < kN n) (hab : a < b) : km n a &&& km n b ≠ km n a := by
  have h := of_decide_eq_true (List.all_eq_true.mp kM_ord n (k6_mem h1 h2))
  have hl : (kM n).length = kN n := by
    have h3 := of_decide_eq_true (List.all_eq_true.mp kM_of n (k6_mem h1 h2))
    rw [← h3, List.length_map]
    rfl
  rw [List.pairwise_iff_getElem] at h
  have := h a b (by omega) (by omega) hab
  unfold km
  rw [List.getD_eq_getElem?_getD, List.getD_eq_getElem?_getD, List.getElem?_eq_getElem (by omega), List.getElem?_eq_getElem (by omega)]
  exact this
/-- the growth numbers rise -/
theorem kT_ord : (k6.all fun n => decide ((kT n).Pairwise fun x y => x < y)) = true := by decide +kernel
theorem kt_ord {n a b : Nat} (h1 : 1 ≤ n) (h2 : n ≤ 6) (hb : b < kN n) (hab : a < b) : kt n a < kt n b := by
  have h := of_decide_eq_true (List.all_eq_true.mp kT_ord n (k6_mem h1 h2))
  rw [List.pairwise_iff_getElem] at h
  have := h a b (by unfold kN at hb; omega) hb hab
  unfold kt
  rw [List.getD_eq_getElem?_getD, List.getD_eq_getElem?_getD, List.getElem?_eq_getElem (by unfold kN at hb; omega), List.getElem?_eq_getElem hb]
  exact this
/-- growth strings: each digit is one that stands before it, or the next new one; the digits are below 6 -/
theorem kd_grow : (k6.all fun n => (kT n).all fun t => (List.range n).all fun e => decide (kd n t e ≤ kb n t e) && decide (kb n t e ≤ e) && (decide (kd n t e = kb n t e) || (List.range e).any fun f => decide (kd n t f = kd n t e))) = true := by decide +kernel
theorem ks_grow {n g e : Nat} (h1 : 1 ≤ n) (h2 : n ≤ 6) (hg : g < kN n) (he : e < n) : ks n g e ≤ kb n (kt n g) e ∧ kb n (kt n g) e ≤ e ∧ (ks n g e = kb n (kt n g) e ∨ ∃ f, f < e ∧ ks n g f = ks n g e) := by
  have h := List.all_eq_true.mp (k6_all kd_grow h1 h2 hg) e (List.mem_range.mpr he)
  simp only [Bool.and_eq_true, Bool.or_eq_true, decide_eq_true_eq, List.any_eq_true, List.mem_range] at h
  exact ⟨h.1.1, h.1.2, h.2⟩
/-- the next growth string: e0 is the place that grows -/
def kQ (n t : Nat) : Nat → Nat
  | 0 => 0
  | e + 1 => if kd n t (e + 1) < kb n t (e + 1) then e + 1 else kQ n t e
def kNx (n t u : Nat) : Bool := let e0 := kQ n t (n - 1)
  decide (0 < e0) && (List.range n).all fun e => decide (kd n u e = if e < e0 then kd n t e else if e = e0 then kd n t e + 1 else 0)
def kNxs (n : Nat) : List Nat → Bool
  | [] => true
  | [t] => decide (kQ n t (n - 1) = 0)
  | t :: u :: l => kNx n t u && kNxs n (u :: l)
theorem kT_next : (k6.all fun n => kNxs n (kT n) && decide ((kT n).head? = some 0)) = true := by decide +kernel
