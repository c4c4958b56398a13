/-! WHAT THE STATEMENT GIVES AT THE ENTRY -/
def nF : List Cond := flatC (Jvm.Cond.and given_1 narrow_1)
def nIx : List Nat := [93, 101, 109, 117, 123, 130, 139, 146, 154, 164, 169, 174, 183, 192, 200, 207, 214, 220, 226, 233, 241, 249, 257, 266, 278, 284, 292, 300, 308, 316, 324, 357, 391, 423, 450, 478, 504, 529, 555, 581, 610, 640, 660, 683, 703, 753, 778, 806, 827, 859, 912, 956, 981, 1038, 1093, 1116, 1145, 1173, 1193, 1229, 1238, 1247, 1256, 1263, 1271, 1281, 1289, 1298, 1309, 1315, 1321, 1331, 1341, 1350, 1358, 1366, 1373, 1380, 1388, 1397, 1406, 1415, 1425, 1438, 1445, 1454, 1463, 1472, 1481]
def nix (i : Nat) : Nat := (mnx nIx i).getD 0
theorem mnx_in {α : Type} {l : List α} {k : Nat} {a : α} (h : mnx l k = some a) : a ∈ l := by
  rw [mnx_eq] at h
  exact List.mem_of_getElem? h
section WRD
variable {args : Array Value} {s : State}
theorem nF_at (hgv : (Jvm.Cond.and given_1 narrow_1).before args s = true) {k : Nat} {w : Cond} (h : mnx nF k = some w) : w.before args s = true := flat_of_before _ hgv w (mnx_in h)
end WRD
def tmS (i : Nat) : Term := match mnx mtx i with
  | some q => .string q.1 q.2.1
  | none => .string "" 0
abbrev tmV (i : Nat) : Term := .field (tmS i) "java/lang/String" "value" "[B"
def okX (i : Nat) : Bool := decide (mnx nF (nix i) = some (.exactly (tmS i) "java/lang/String"))
def okC (i : Nat) : Bool := decide (mnx nF (nix i + 1) = some (.eq (.field (tmS i) "java/lang/String" "coder" "B") (.int 0)))
def okA (i : Nat) : Bool := decide (mnx nF (nix i + 2) = some (.arrayOf (tmV i) .byte))
def okL (i : Nat) : Bool := decide (mnx nF (nix i + 3) = some (.eq (.length (tmV i)) (.int (Int32.ofNat (mstr i).length))))
def okE (i : Nat) : Bool := (List.range (mstr i).length).all fun j => decide (mnx nF (nix i + 4 + j) = some (.eq (.elem (tmV i) (.int (Int32.ofNat j))) (.int (nI ((mstr i).getD j 0)))))
theorem okX_all : (List.range 89).all okX = true := by decide +kernel
theorem okC_all : (List.range 89).all (fun i => decide (mstr i = []) || okC i) = true := by decide +kernel
theorem okA_all : (List.range 89).all (fun i => decide (mstr i = []) || okA i) = true := by decide +kernel
theorem okL_all : (List.range 89).all (fun i => decide (mstr i = []) || okL i) = true := by decide +kernel
theorem okE_all : (List.range 89).all (fun i => decide (mstr i = []) || okE i) = true := by decide +kernel
theorem ok_or {f : Nat → Bool} (h : (List.range 89).all (fun i => decide (mstr i = []) || f i) = true) {i : Nat} (hi : i < 89) (hm : ¬ mstr i = []) : f i = true := by
  have := List.all_eq_true.mp h i (List.mem_range.mpr hi)
  rw [Bool.or_eq_true] at this
  rcases this with z | z
  · exact absurd (of_decide_eq_true z) hm
  · exact z
theorem okR : (List.range 4).all (fun j => decide (mnx nF (14 + j) = some (.eq (.elem (.static "DustYard" "RAT_HAS" "[I") (.int (Int32.ofNat j))) (.int (mrat j))))) = true := by decide +kernel
theorem okRa : mnx nF 12 = some (.arrayOf (.static "DustYard" "RAT_HAS" "[I") .int) := by decide +kernel
theorem okRl : mnx nF 13 = some (.eq (.length (.static "DustYard" "RAT_HAS" "[I")) (.int (Int32.ofNat 4))) := by decide +kernel
theorem okZ : mnx nF 4 = some (.eq (.static "java/lang/String" "COMPACT_STRINGS" "Z") (.int 1)) := by decide +kernel
theorem okZs : mnx nF 5 = some (.isRef (.static "jdk/internal/util/Preconditions" "SIOOBE_FORMATTER" "Ljava/util/function/BiFunction;")) := by decide +kernel
theorem okZu : mnx nF 9 = some (.isRef (.static Bundle.tN "UNASSIGNED_STACK" Bundle.steD)) := by decide +kernel
theorem okZv : mnx nF 10 = some (.isRef (.static Bundle.tN "SUPPRESSED_SENTINEL" Bundle.listD)) := by decide +kernel
def nNc : List Nat := [0, 89, 59, 44, 74, 32, 0, 62, 47, 77, 30, 91, 0, 45, 76, 29, 90, 60, 0, 75, 31, 92, 61, 46, 0]
theorem okN : (List.range 5).all (fun x => (List.range 5).all fun y => decide (x = y) || decide (mnx nF ((mnx nNc (5 * x + y)).getD 0) = some (.not (.castable (mxn x) (mxn y))))) = true := by decide +kernel
def nSr : List Nat := [716, 769, 770, 775, 788, 802, 803, 804, 813, 814, 815, 816, 817, 818, 819, 820, 821, 834, 835, 848, 853, 854, 859, 868, 873, 874, 875, 880, 889, 890, 942, 978, 996, 1019, 1087, 1104, 1117, 1160, 1168, 1180, 1181, 1204, 1273, 1288, 1289, 1298, 1307, 1316, 1325, 1334, 1378, 1390, 1402, 1419, 1527, 1551, 1577, 1595, 1636, 1767, 1774, 1775, 1784, 1797, 1806, 1807, 1808, 1817, 1818, 1819, 1820, 1821, 1822, 1823, 1824, 1825, 1834, 1839, 1844, 1849, 1850, 1855, 1864, 1869, 1873, 1874, 1879, 1884, 1889]
theorem okS : (List.range 89).all (fun i => match mnx mtx i with | some q => decide (lw_tbl[(mnx nSr i).getD 0]? = some (.stringRef q.1 q.2.1 q.2.2.2)) && decide (q.2.2.1 = i) | none => false) = true := by decide +kernel
theorem mtx_len : mtx.length = 89 := by decide +kernel
def nCa : List Nat := [901, 1266, 1012, 971, 1080]
theorem okCa : (List.range 5).all (fun x => decide (lw_tbl[(mnx nCa x).getD 0]? = some (.castable (mxn x) (mxn x)))) = true := by decide +kernel
def nDc : List Nat := [903, 905, 907]
theorem okDc : (List.range 3).all (fun i => match mnx mdcl i with | some x => decide (lw_tbl[(mnx nDc i).getD 0]? = some (.declares x)) | none => false) = true := by decide +kernel
def nNs : List Nat := [156, 187, 193, 306, 345, 375, 394, 420]
theorem okNs : (List.range 8).all (fun i => match mnx mnst i with | some q => decide (lw_tbl[(mnx nNs i).getD 0]? = some (.methodLinkNest q.1 q.2.1 q.2.2 "DustYard")) | none => false) = true := by decide +kernel
theorem okAo : lw_tbl[344]? = some (.arrayOver (.object "DustYard$State")) := by decide +kernel
theorem ls1 : lw_tbl[730]? = some (.laysStatic "java/lang/String" "COMPACT_STRINGS" "Z") := by decide +kernel
theorem ls2 : lw_tbl[746]? = some (.laysStatic "jdk/internal/util/Preconditions" "SIOOBE_FORMATTER" "Ljava/util/function/BiFunction;") := by decide +kernel
theorem ls3 : lw_tbl[1543]? = some (.laysStatic "DustYard" "RAT_HAS" "[I") := by decide +kernel
theorem ls4 : lw_tbl[926]? = some (.laysStatic Bundle.tN "UNASSIGNED_STACK" Bundle.steD) := by decide +kernel
theorem ls5 : lw_tbl[928]? = some (.laysStatic Bundle.tN "SUPPRESSED_SENTINEL" Bundle.listD) := by decide +kernel
theorem in1 : lw_tbl[131]? = some (.initialized "java/lang/String") := by decide +kernel
theorem in2 : lw_tbl[133]? = some (.initialized "jdk/internal/util/Preconditions") := by decide +kernel
theorem in3 : lw_tbl[119]? = some (.initialized "DustYard") := by decide +kernel
theorem in4 : lw_tbl[136]? = some (.initialized Bundle.tN) := by decide +kernel
theorem ac1 : lw_tbl[184]? = some (.arrayClass .int) := by decide +kernel
theorem ac2 : lw_tbl[2338]? = some (.arrayClass .long) := by decide +kernel
theorem is1 : lw_tbl[393]? = some (.instantiable RX1 5) := by decide +kernel
theorem is2 : lw_tbl[419]? = some (.instantiable RX2 4) := by decide +kernel
theorem is3 : lw_tbl[305]? = some (.instantiable RX3 8) := by decide +kernel
theorem is4 : lw_tbl[192]? = some (.instantiable RX4 3) := by decide +kernel
theorem is5 : lw_tbl[338]? = some (.instantiable RX5 3) := by decide +kernel
theorem is6 : lw_tbl[358]? = some (.instantiable RX6 3) := by decide +kernel
theorem is7 : lw_tbl[374]? = some (.instantiable RX7 4) := by decide +kernel
theorem is8 : lw_tbl[186]? = some (.instantiable RX8 18) := by decide +kernel
theorem is9 : lw_tbl[155]? = some (.instantiable RX9 6) := by decide +kernel
theorem is10 : lw_tbl[147]? = some (.instantiable RX10 15) := by decide +kernel
theorem is11 : lw_tbl[1639]? = some (.instantiable RX11 25) := by decide +kernel
