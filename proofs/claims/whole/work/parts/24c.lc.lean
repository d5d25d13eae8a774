section LC2
variable {D : va_G} {ca ad : Nat → Nat} {Z : (Nat → Prop) → State → Heap → Prop} {p : Program} {l : Launch} {e : Env} {s : State} {m : MethodId} {args : Array Value} {below : List Frame} {meth : Method} {c : Code} {ret : Option FieldType} {cells slots : Nat} {Q : State → Prop}
def K_case_30 (fu : Nat) (a : Nat → Int32) (mem : Mem) : Option Mem := bd (K_L_advised fu (a 1) mem) (fun p_1 => bd (K_X12_advised fu (a 1) (fun j => (mset 0 256 mem p_1.2) (256 + j))) (fun p_2 => bd (K_X12_thrown fu (fun j => (mset 256 23 (mset 0 256 mem p_1.2) p_2.2) (256 + j))) (fun x_3 => (if x_3 = p_1.1 then (if p_1.1 = 0 then (if (lg_cmp (rl (mset 256 23 (mset 256 23 (mset 0 256 mem p_1.2) p_2.2) (fun j => (mset 256 23 (mset 0 256 mem p_1.2) p_2.2) (256 + j))) 255 (Int32.toNatClampNeg 0)) (Int32.toInt64 p_2.1)) = 0 then some (mset 256 23 (mset 256 23 (mset 0 256 mem p_1.2) p_2.2) (fun j => (mset 256 23 (mset 0 256 mem p_1.2) p_2.2) (256 + j))) else none) else some (mset 256 23 (mset 256 23 (mset 0 256 mem p_1.2) p_2.2) (fun j => (mset 256 23 (mset 0 256 mem p_1.2) p_2.2) (256 + j)))) else none))))
set_option maxHeartbeats 4000000 in
set_option maxRecDepth 100000 in
theorem lc_30 (hl : l.stackTraces = false) (hZ : ZOK Z) (hX : ZX Z) {tO : Nat} {sK sV : Nat → Nat} (hO : ZO Z tO sK sV) (fu : Nat) (X : CX D (tyL ca) 279 ad Z p s m args meth c cL_law 7 "PawnRaceLaw" ret) {b L : Nat} {xs a : Nat → Int32} {x4 : Int32} (HX : LX b L xs s (AA 279 ad s.heap.size) x4 a) (hcap : cells + 3 ≤ room_1.cells ∧ slots + 18 ≤ room_1.slots) {mem mem2 : Mem} (hF : K_case_30 fu a mem = some mem2) (kk : WW D 279 ad (cW ca ad) p l e room_1 s m args below meth c 7 (cells + 3) (slots + 18) Q mem2 2582 [(4, .int x4), (3, .ref (ad 255)), (2, .ref (ad 256)), (1, .ref (ad 0)), (0, .ref b)] []) : WW D 279 ad (cW ca ad) p l e room_1 s m args below meth c 7 cells slots Q mem 1823 [(4, .int x4), (3, .ref (ad 255)), (2, .ref (ad 256)), (1, .ref (ad 0)), (0, .ref b)] [] := by
  have hcap0 : cells ≤ room_1.cells ∧ slots ≤ room_1.slots := ⟨Nat.le_trans (Nat.le_add_right _ 3) hcap.1, Nat.le_trans (Nat.le_add_right _ 18) hcap.2⟩
  obtain ⟨hx, hbl, hbA, h1, h2, h3, h4, h5⟩ := HX
  rw [K_case_30] at hF
  refine w_aload_n X 3 dL_law_1823 rfl rfl 1824 rfl ?_
  refine w_aload_n X 4 dL_law_1824 rfl rfl 1825 rfl ?_
  refine w_iload X 0 dL_law_1825 rfl 1827 rfl ?_
  refine w_iconst X 1 dL_law_1827 rfl 1828 rfl ?_
  refine w_iadd X dL_law_1828 1829 rfl ?_
  refine w_sld X hx hbl hbA h1.1 (a 1) h1.2 dL_law_1829 1830 rfl ?_
  refine w_aload_n X 1 dL_law_1830 rfl rfl 1831 rfl ?_
  refine w_wcall X hZ hF [.ref (ad 0), .int (a 1), .ref (ad 255)] rfl kB_L_advised kL_L_238 (fun res h => ct_L_advised l hl hZ hX hO fu (a 1) mem res h) rfl rfl rfl ⟨Nat.le_of_ble_eq_true rfl, Nat.le_of_ble_eq_true rfl⟩ (Nat.le_of_ble_eq_true rfl) hcap dL_law_1831 1834 rfl (fun p_1 hF => ?_)
  refine w_istore X [(5, .int p_1.1), (4, .int x4), (3, .ref (ad 255)), (2, .ref (ad 256)), (1, .ref (ad 0)), (0, .ref b)] dL_law_1834 (by decide) rfl 1836 rfl ?_
  refine w_aload_n X 3 dL_law_1836 rfl rfl 1837 rfl ?_
  refine w_aload_n X 5 dL_law_1837 rfl rfl 1838 rfl ?_
  refine w_iload X 1 dL_law_1838 rfl 1840 rfl ?_
  refine w_iconst X 1 dL_law_1840 rfl 1841 rfl ?_
  refine w_iadd X dL_law_1841 1842 rfl ?_
  refine w_sld X hx hbl hbA h1.1 (a 1) h1.2 dL_law_1842 1843 rfl ?_
  refine w_mcall (fun x => x.1) (fun x => x.2) X hZ hF [.int (a 1)] (q := ("PawnRaceModel", TX12, 50)) rfl rfl rfl kB_X12_advised kL_L_240 (fun res h => ct_X12_advised l hZ fu (a 1) (fun j => (mset 0 256 mem p_1.2) (256 + j)) res h) rfl rfl rfl ⟨Nat.le_of_ble_eq_true rfl, Nat.le_of_ble_eq_true rfl⟩ (Nat.le_of_ble_eq_true rfl) hcap dL_law_1843 1846 rfl (fun p_2 hF => ?_)
  refine w_istore X [(6, .int p_2.1), (5, .int p_1.1), (4, .int x4), (3, .ref (ad 255)), (2, .ref (ad 256)), (1, .ref (ad 0)), (0, .ref b)] dL_law_1846 (by decide) rfl 1848 rfl ?_
  refine w_aload_n X 4 dL_law_1848 rfl rfl 1849 rfl ?_
  refine w_mcall (fun x => x) (fun _ => (fun j => (mset 256 23 (mset 0 256 mem p_1.2) p_2.2) (256 + j))) X hZ hF [] (q := ("PawnRaceModel", TX12, 50)) rfl rfl rfl kB_X12_thrown kL_L_134 (fun res h => ct_X12_thrown l hZ fu  (fun j => (mset 256 23 (mset 0 256 mem p_1.2) p_2.2) (256 + j)) res h) rfl rfl rfl ⟨Nat.le_of_ble_eq_true rfl, Nat.le_of_ble_eq_true rfl⟩ (Nat.le_of_ble_eq_true rfl) hcap dL_law_1849 1852 rfl (fun x_3 hF => ?_)
  refine w_iload X 1 dL_law_1852 rfl 1854 rfl ?_
  refine w_icmp_eq X hF 1859 1857 dL_law_1854 (by decide) rfl (fun hF => ?_) (fun hF => ?_)
  · refine w_iload X 1 dL_law_1859 rfl 1861 rfl ?_
    refine w_if_ne X hF 1876 1864 dL_law_1861 (by decide) rfl (fun hF => ?_) (fun hF => ?_)
    · refine w_aload_n X 3 dL_law_1864 rfl rfl 1865 rfl ?_
      refine w_iconst X 0 dL_law_1865 rfl 1866 rfl ?_
      refine w_lal X 255 lt279_255 ko_W255 (t0 := 5) rfl vin01 dL_law_1866 1867 rfl ?_
      refine w_iload X 0 dL_law_1867 rfl 1869 rfl ?_
      refine w_i2l X dL_law_1869 1870 rfl ?_
      refine w_lcmp X dL_law_1870 1871 rfl ?_
      refine w_if_eq X hF 1876 1874 dL_law_1871 (by decide) rfl (fun hF => ?_) (fun hF => ?_)
      · refine w_goto X 2582 dL_law_1876 (by decide) ?_
        refine w_keep [2, 3, 4, 5, 6] rfl ?_
        have e9 := o_inj hF
        subst e9
        exact kk
      · refine w_iconst X 0 dL_law_1874 rfl 1875 rfl ?_
        exact no_none hF
    · refine w_goto X 2582 dL_law_1876 (by decide) ?_
      refine w_keep [2, 3, 4, 5, 6] rfl ?_
      have e9 := o_inj hF
      subst e9
      exact kk
  · refine w_iconst X 0 dL_law_1857 rfl 1858 rfl ?_
    exact no_none hF

def K_case_31 (fu : Nat) (a : Nat → Int32) (mem : Mem) : Option Mem := bd (K_L_bestWall fu (a 1) mem) (fun p_1 => bd (K_X12_bestWall fu (a 1) (fun j => (mset 0 256 mem p_1.2) (256 + j))) (fun p_2 => bd (K_X12_thrown fu (fun j => (mset 256 23 (mset 0 256 mem p_1.2) p_2.2) (256 + j))) (fun x_3 => (if x_3 = p_1.1 then (if p_1.1 = 0 then (if (lg_cmp (rl (mset 256 23 (mset 256 23 (mset 0 256 mem p_1.2) p_2.2) (fun j => (mset 256 23 (mset 0 256 mem p_1.2) p_2.2) (256 + j))) 255 (Int32.toNatClampNeg 0)) (Int32.toInt64 p_2.1)) = 0 then some (mset 256 23 (mset 256 23 (mset 0 256 mem p_1.2) p_2.2) (fun j => (mset 256 23 (mset 0 256 mem p_1.2) p_2.2) (256 + j))) else none) else some (mset 256 23 (mset 256 23 (mset 0 256 mem p_1.2) p_2.2) (fun j => (mset 256 23 (mset 0 256 mem p_1.2) p_2.2) (256 + j)))) else none))))
set_option maxHeartbeats 4000000 in
set_option maxRecDepth 100000 in
theorem lc_31 (hl : l.stackTraces = false) (hZ : ZOK Z) (hX : ZX Z) {tO : Nat} {sK sV : Nat → Nat} (hO : ZO Z tO sK sV) (fu : Nat) (X : CX D (tyL ca) 279 ad Z p s m args meth c cL_law 7 "PawnRaceLaw" ret) {b L : Nat} {xs a : Nat → Int32} {x4 : Int32} (HX : LX b L xs s (AA 279 ad s.heap.size) x4 a) (hcap : cells + 3 ≤ room_1.cells ∧ slots + 18 ≤ room_1.slots) {mem mem2 : Mem} (hF : K_case_31 fu a mem = some mem2) (kk : WW D 279 ad (cW ca ad) p l e room_1 s m args below meth c 7 (cells + 3) (slots + 18) Q mem2 2582 [(4, .int x4), (3, .ref (ad 255)), (2, .ref (ad 256)), (1, .ref (ad 0)), (0, .ref b)] []) : WW D 279 ad (cW ca ad) p l e room_1 s m args below meth c 7 cells slots Q mem 1879 [(4, .int x4), (3, .ref (ad 255)), (2, .ref (ad 256)), (1, .ref (ad 0)), (0, .ref b)] [] := by
  have hcap0 : cells ≤ room_1.cells ∧ slots ≤ room_1.slots := ⟨Nat.le_trans (Nat.le_add_right _ 3) hcap.1, Nat.le_trans (Nat.le_add_right _ 18) hcap.2⟩
  obtain ⟨hx, hbl, hbA, h1, h2, h3, h4, h5⟩ := HX
  rw [K_case_31] at hF
  refine w_aload_n X 3 dL_law_1879 rfl rfl 1880 rfl ?_
  refine w_aload_n X 4 dL_law_1880 rfl rfl 1881 rfl ?_
  refine w_iload X 0 dL_law_1881 rfl 1883 rfl ?_
  refine w_iconst X 1 dL_law_1883 rfl 1884 rfl ?_
  refine w_iadd X dL_law_1884 1885 rfl ?_
  refine w_sld X hx hbl hbA h1.1 (a 1) h1.2 dL_law_1885 1886 rfl ?_
  refine w_aload_n X 1 dL_law_1886 rfl rfl 1887 rfl ?_
  refine w_wcall X hZ hF [.ref (ad 0), .int (a 1), .ref (ad 255)] rfl kB_L_bestWall kL_L_241 (fun res h => ct_L_bestWall l hl hZ hX hO fu (a 1) mem res h) rfl rfl rfl ⟨Nat.le_of_ble_eq_true rfl, Nat.le_of_ble_eq_true rfl⟩ (Nat.le_of_ble_eq_true rfl) hcap dL_law_1887 1890 rfl (fun p_1 hF => ?_)
  refine w_istore X [(5, .int p_1.1), (4, .int x4), (3, .ref (ad 255)), (2, .ref (ad 256)), (1, .ref (ad 0)), (0, .ref b)] dL_law_1890 (by decide) rfl 1892 rfl ?_
  refine w_aload_n X 3 dL_law_1892 rfl rfl 1893 rfl ?_
  refine w_aload_n X 5 dL_law_1893 rfl rfl 1894 rfl ?_
  refine w_iload X 1 dL_law_1894 rfl 1896 rfl ?_
  refine w_iconst X 1 dL_law_1896 rfl 1897 rfl ?_
  refine w_iadd X dL_law_1897 1898 rfl ?_
  refine w_sld X hx hbl hbA h1.1 (a 1) h1.2 dL_law_1898 1899 rfl ?_
  refine w_mcall (fun x => x.1) (fun x => x.2) X hZ hF [.int (a 1)] (q := ("PawnRaceModel", TX12, 50)) rfl rfl rfl kB_X12_bestWall kL_L_243 (fun res h => ct_X12_bestWall l hZ fu (a 1) (fun j => (mset 0 256 mem p_1.2) (256 + j)) res h) rfl rfl rfl ⟨Nat.le_of_ble_eq_true rfl, Nat.le_of_ble_eq_true rfl⟩ (Nat.le_of_ble_eq_true rfl) hcap dL_law_1899 1902 rfl (fun p_2 hF => ?_)
  refine w_istore X [(6, .int p_2.1), (5, .int p_1.1), (4, .int x4), (3, .ref (ad 255)), (2, .ref (ad 256)), (1, .ref (ad 0)), (0, .ref b)] dL_law_1902 (by decide) rfl 1904 rfl ?_
  refine w_aload_n X 4 dL_law_1904 rfl rfl 1905 rfl ?_
  refine w_mcall (fun x => x) (fun _ => (fun j => (mset 256 23 (mset 0 256 mem p_1.2) p_2.2) (256 + j))) X hZ hF [] (q := ("PawnRaceModel", TX12, 50)) rfl rfl rfl kB_X12_thrown kL_L_134 (fun res h => ct_X12_thrown l hZ fu  (fun j => (mset 256 23 (mset 0 256 mem p_1.2) p_2.2) (256 + j)) res h) rfl rfl rfl ⟨Nat.le_of_ble_eq_true rfl, Nat.le_of_ble_eq_true rfl⟩ (Nat.le_of_ble_eq_true rfl) hcap dL_law_1905 1908 rfl (fun x_3 hF => ?_)
  refine w_iload X 1 dL_law_1908 rfl 1910 rfl ?_
  refine w_icmp_eq X hF 1915 1913 dL_law_1910 (by decide) rfl (fun hF => ?_) (fun hF => ?_)
  · refine w_iload X 1 dL_law_1915 rfl 1917 rfl ?_
    refine w_if_ne X hF 1932 1920 dL_law_1917 (by decide) rfl (fun hF => ?_) (fun hF => ?_)
    · refine w_aload_n X 3 dL_law_1920 rfl rfl 1921 rfl ?_
      refine w_iconst X 0 dL_law_1921 rfl 1922 rfl ?_
      refine w_lal X 255 lt279_255 ko_W255 (t0 := 5) rfl vin01 dL_law_1922 1923 rfl ?_
      refine w_iload X 0 dL_law_1923 rfl 1925 rfl ?_
      refine w_i2l X dL_law_1925 1926 rfl ?_
      refine w_lcmp X dL_law_1926 1927 rfl ?_
      refine w_if_eq X hF 1932 1930 dL_law_1927 (by decide) rfl (fun hF => ?_) (fun hF => ?_)
      · refine w_goto X 2582 dL_law_1932 (by decide) ?_
        refine w_keep [2, 3, 4, 5, 6] rfl ?_
        have e9 := o_inj hF
        subst e9
        exact kk
      · refine w_iconst X 0 dL_law_1930 rfl 1931 rfl ?_
        exact no_none hF
    · refine w_goto X 2582 dL_law_1932 (by decide) ?_
      refine w_keep [2, 3, 4, 5, 6] rfl ?_
      have e9 := o_inj hF
      subst e9
      exact kk
  · refine w_iconst X 0 dL_law_1913 rfl 1914 rfl ?_
    exact no_none hF

def K_case_32 (fu : Nat) (a : Nat → Int32) (mem : Mem) : Option Mem := bd (K_L_gain fu (a 1) mem) (fun p_1 => bd (K_X12_gain fu (a 1) (fun j => (mset 0 256 mem p_1.2) (256 + j))) (fun p_2 => bd (K_X12_thrown fu (fun j => (mset 256 23 (mset 0 256 mem p_1.2) p_2.2) (256 + j))) (fun x_3 => (if x_3 = p_1.1 then (if p_1.1 = 0 then (if (lg_cmp (rl (mset 256 23 (mset 256 23 (mset 0 256 mem p_1.2) p_2.2) (fun j => (mset 256 23 (mset 0 256 mem p_1.2) p_2.2) (256 + j))) 255 (Int32.toNatClampNeg 0)) (Int32.toInt64 p_2.1)) = 0 then some (mset 256 23 (mset 256 23 (mset 0 256 mem p_1.2) p_2.2) (fun j => (mset 256 23 (mset 0 256 mem p_1.2) p_2.2) (256 + j))) else none) else some (mset 256 23 (mset 256 23 (mset 0 256 mem p_1.2) p_2.2) (fun j => (mset 256 23 (mset 0 256 mem p_1.2) p_2.2) (256 + j)))) else none))))
set_option maxHeartbeats 4000000 in
set_option maxRecDepth 100000 in
theorem lc_32 (hl : l.stackTraces = false) (hZ : ZOK Z) (hX : ZX Z) {tO : Nat} {sK sV : Nat → Nat} (hO : ZO Z tO sK sV) (fu : Nat) (X : CX D (tyL ca) 279 ad Z p s m args meth c cL_law 7 "PawnRaceLaw" ret) {b L : Nat} {xs a : Nat → Int32} {x4 : Int32} (HX : LX b L xs s (AA 279 ad s.heap.size) x4 a) (hcap : cells + 3 ≤ room_1.cells ∧ slots + 18 ≤ room_1.slots) {mem mem2 : Mem} (hF : K_case_32 fu a mem = some mem2) (kk : WW D 279 ad (cW ca ad) p l e room_1 s m args below meth c 7 (cells + 3) (slots + 18) Q mem2 2582 [(4, .int x4), (3, .ref (ad 255)), (2, .ref (ad 256)), (1, .ref (ad 0)), (0, .ref b)] []) : WW D 279 ad (cW ca ad) p l e room_1 s m args below meth c 7 cells slots Q mem 1935 [(4, .int x4), (3, .ref (ad 255)), (2, .ref (ad 256)), (1, .ref (ad 0)), (0, .ref b)] [] := by
  have hcap0 : cells ≤ room_1.cells ∧ slots ≤ room_1.slots := ⟨Nat.le_trans (Nat.le_add_right _ 3) hcap.1, Nat.le_trans (Nat.le_add_right _ 18) hcap.2⟩
  obtain ⟨hx, hbl, hbA, h1, h2, h3, h4, h5⟩ := HX
  rw [K_case_32] at hF
  refine w_aload_n X 3 dL_law_1935 rfl rfl 1936 rfl ?_
  refine w_aload_n X 4 dL_law_1936 rfl rfl 1937 rfl ?_
  refine w_iload X 0 dL_law_1937 rfl 1939 rfl ?_
  refine w_iconst X 1 dL_law_1939 rfl 1940 rfl ?_
  refine w_iadd X dL_law_1940 1941 rfl ?_
  refine w_sld X hx hbl hbA h1.1 (a 1) h1.2 dL_law_1941 1942 rfl ?_
  refine w_aload_n X 1 dL_law_1942 rfl rfl 1943 rfl ?_
  refine w_wcall X hZ hF [.ref (ad 0), .int (a 1), .ref (ad 255)] rfl kB_L_gain kL_L_244 (fun res h => ct_L_gain l hl hZ hX hO fu (a 1) mem res h) rfl rfl rfl ⟨Nat.le_of_ble_eq_true rfl, Nat.le_of_ble_eq_true rfl⟩ (Nat.le_of_ble_eq_true rfl) hcap dL_law_1943 1946 rfl (fun p_1 hF => ?_)
  refine w_istore X [(5, .int p_1.1), (4, .int x4), (3, .ref (ad 255)), (2, .ref (ad 256)), (1, .ref (ad 0)), (0, .ref b)] dL_law_1946 (by decide) rfl 1948 rfl ?_
  refine w_aload_n X 3 dL_law_1948 rfl rfl 1949 rfl ?_
  refine w_aload_n X 5 dL_law_1949 rfl rfl 1950 rfl ?_
  refine w_iload X 1 dL_law_1950 rfl 1952 rfl ?_
  refine w_iconst X 1 dL_law_1952 rfl 1953 rfl ?_
  refine w_iadd X dL_law_1953 1954 rfl ?_
  refine w_sld X hx hbl hbA h1.1 (a 1) h1.2 dL_law_1954 1955 rfl ?_
  refine w_mcall (fun x => x.1) (fun x => x.2) X hZ hF [.int (a 1)] (q := ("PawnRaceModel", TX12, 50)) rfl rfl rfl kB_X12_gain kL_L_246 (fun res h => ct_X12_gain l hZ fu (a 1) (fun j => (mset 0 256 mem p_1.2) (256 + j)) res h) rfl rfl rfl ⟨Nat.le_of_ble_eq_true rfl, Nat.le_of_ble_eq_true rfl⟩ (Nat.le_of_ble_eq_true rfl) hcap dL_law_1955 1958 rfl (fun p_2 hF => ?_)
  refine w_istore X [(6, .int p_2.1), (5, .int p_1.1), (4, .int x4), (3, .ref (ad 255)), (2, .ref (ad 256)), (1, .ref (ad 0)), (0, .ref b)] dL_law_1958 (by decide) rfl 1960 rfl ?_
  refine w_aload_n X 4 dL_law_1960 rfl rfl 1961 rfl ?_
  refine w_mcall (fun x => x) (fun _ => (fun j => (mset 256 23 (mset 0 256 mem p_1.2) p_2.2) (256 + j))) X hZ hF [] (q := ("PawnRaceModel", TX12, 50)) rfl rfl rfl kB_X12_thrown kL_L_134 (fun res h => ct_X12_thrown l hZ fu  (fun j => (mset 256 23 (mset 0 256 mem p_1.2) p_2.2) (256 + j)) res h) rfl rfl rfl ⟨Nat.le_of_ble_eq_true rfl, Nat.le_of_ble_eq_true rfl⟩ (Nat.le_of_ble_eq_true rfl) hcap dL_law_1961 1964 rfl (fun x_3 hF => ?_)
  refine w_iload X 1 dL_law_1964 rfl 1966 rfl ?_
  refine w_icmp_eq X hF 1971 1969 dL_law_1966 (by decide) rfl (fun hF => ?_) (fun hF => ?_)
  · refine w_iload X 1 dL_law_1971 rfl 1973 rfl ?_
    refine w_if_ne X hF 1988 1976 dL_law_1973 (by decide) rfl (fun hF => ?_) (fun hF => ?_)
    · refine w_aload_n X 3 dL_law_1976 rfl rfl 1977 rfl ?_
      refine w_iconst X 0 dL_law_1977 rfl 1978 rfl ?_
      refine w_lal X 255 lt279_255 ko_W255 (t0 := 5) rfl vin01 dL_law_1978 1979 rfl ?_
      refine w_iload X 0 dL_law_1979 rfl 1981 rfl ?_
      refine w_i2l X dL_law_1981 1982 rfl ?_
      refine w_lcmp X dL_law_1982 1983 rfl ?_
      refine w_if_eq X hF 1988 1986 dL_law_1983 (by decide) rfl (fun hF => ?_) (fun hF => ?_)
      · refine w_goto X 2582 dL_law_1988 (by decide) ?_
        refine w_keep [2, 3, 4, 5, 6] rfl ?_
        have e9 := o_inj hF
        subst e9
        exact kk
      · refine w_iconst X 0 dL_law_1986 rfl 1987 rfl ?_
        exact no_none hF
    · refine w_goto X 2582 dL_law_1988 (by decide) ?_
      refine w_keep [2, 3, 4, 5, 6] rfl ?_
      have e9 := o_inj hF
      subst e9
      exact kk
  · refine w_iconst X 0 dL_law_1969 rfl 1970 rfl ?_
    exact no_none hF

def K_case_33 (fu : Nat) (a : Nat → Int32) (mem : Mem) : Option Mem := (if (a 4) = 0 then bd (K_L_harm fu (a 1) (a 2) (a 3) 0 mem) (fun p_1 => (if (a 4) = 0 then bd (K_X12_harm fu (a 1) (a 2) (a 3) 0 (fun j => (mset 0 256 mem p_1.2) (256 + j))) (fun p_2 => bd (K_X12_thrown fu (fun j => (mset 256 23 (mset 0 256 mem p_1.2) p_2.2) (256 + j))) (fun x_3 => (if x_3 = p_1.1 then (if p_1.1 = 0 then (if (lg_cmp (rl (mset 256 23 (mset 256 23 (mset 0 256 mem p_1.2) p_2.2) (fun j => (mset 256 23 (mset 0 256 mem p_1.2) p_2.2) (256 + j))) 255 (Int32.toNatClampNeg 0)) (Int32.toInt64 p_2.1)) = 0 then some (mset 256 23 (mset 256 23 (mset 0 256 mem p_1.2) p_2.2) (fun j => (mset 256 23 (mset 0 256 mem p_1.2) p_2.2) (256 + j))) else none) else some (mset 256 23 (mset 256 23 (mset 0 256 mem p_1.2) p_2.2) (fun j => (mset 256 23 (mset 0 256 mem p_1.2) p_2.2) (256 + j)))) else none))) else bd (K_X12_harm fu (a 1) (a 2) (a 3) 1 (fun j => (mset 0 256 mem p_1.2) (256 + j))) (fun p_4 => bd (K_X12_thrown fu (fun j => (mset 256 23 (mset 0 256 mem p_1.2) p_4.2) (256 + j))) (fun x_5 => (if x_5 = p_1.1 then (if p_1.1 = 0 then (if (lg_cmp (rl (mset 256 23 (mset 256 23 (mset 0 256 mem p_1.2) p_4.2) (fun j => (mset 256 23 (mset 0 256 mem p_1.2) p_4.2) (256 + j))) 255 (Int32.toNatClampNeg 0)) (Int32.toInt64 p_4.1)) = 0 then some (mset 256 23 (mset 256 23 (mset 0 256 mem p_1.2) p_4.2) (fun j => (mset 256 23 (mset 0 256 mem p_1.2) p_4.2) (256 + j))) else none) else some (mset 256 23 (mset 256 23 (mset 0 256 mem p_1.2) p_4.2) (fun j => (mset 256 23 (mset 0 256 mem p_1.2) p_4.2) (256 + j)))) else none))))) else bd (K_L_harm fu (a 1) (a 2) (a 3) 1 mem) (fun p_6 => (if (a 4) = 0 then bd (K_X12_harm fu (a 1) (a 2) (a 3) 0 (fun j => (mset 0 256 mem p_6.2) (256 + j))) (fun p_7 => bd (K_X12_thrown fu (fun j => (mset 256 23 (mset 0 256 mem p_6.2) p_7.2) (256 + j))) (fun x_8 => (if x_8 = p_6.1 then (if p_6.1 = 0 then (if (lg_cmp (rl (mset 256 23 (mset 256 23 (mset 0 256 mem p_6.2) p_7.2) (fun j => (mset 256 23 (mset 0 256 mem p_6.2) p_7.2) (256 + j))) 255 (Int32.toNatClampNeg 0)) (Int32.toInt64 p_7.1)) = 0 then some (mset 256 23 (mset 256 23 (mset 0 256 mem p_6.2) p_7.2) (fun j => (mset 256 23 (mset 0 256 mem p_6.2) p_7.2) (256 + j))) else none) else some (mset 256 23 (mset 256 23 (mset 0 256 mem p_6.2) p_7.2) (fun j => (mset 256 23 (mset 0 256 mem p_6.2) p_7.2) (256 + j)))) else none))) else bd (K_X12_harm fu (a 1) (a 2) (a 3) 1 (fun j => (mset 0 256 mem p_6.2) (256 + j))) (fun p_9 => bd (K_X12_thrown fu (fun j => (mset 256 23 (mset 0 256 mem p_6.2) p_9.2) (256 + j))) (fun x_10 => (if x_10 = p_6.1 then (if p_6.1 = 0 then (if (lg_cmp (rl (mset 256 23 (mset 256 23 (mset 0 256 mem p_6.2) p_9.2) (fun j => (mset 256 23 (mset 0 256 mem p_6.2) p_9.2) (256 + j))) 255 (Int32.toNatClampNeg 0)) (Int32.toInt64 p_9.1)) = 0 then some (mset 256 23 (mset 256 23 (mset 0 256 mem p_6.2) p_9.2) (fun j => (mset 256 23 (mset 0 256 mem p_6.2) p_9.2) (256 + j))) else none) else some (mset 256 23 (mset 256 23 (mset 0 256 mem p_6.2) p_9.2) (fun j => (mset 256 23 (mset 0 256 mem p_6.2) p_9.2) (256 + j)))) else none))))))
set_option maxHeartbeats 4000000 in
set_option maxRecDepth 100000 in
theorem lc_33 (hl : l.stackTraces = false) (hZ : ZOK Z) (hX : ZX Z) {tO : Nat} {sK sV : Nat → Nat} (hO : ZO Z tO sK sV) (fu : Nat) (X : CX D (tyL ca) 279 ad Z p s m args meth c cL_law 7 "PawnRaceLaw" ret) {b L : Nat} {xs a : Nat → Int32} {x4 : Int32} (HX : LX b L xs s (AA 279 ad s.heap.size) x4 a) (hcap : cells + 3 ≤ room_1.cells ∧ slots + 18 ≤ room_1.slots) {mem mem2 : Mem} (hF : K_case_33 fu a mem = some mem2) (kk : WW D 279 ad (cW ca ad) p l e room_1 s m args below meth c 7 (cells + 3) (slots + 18) Q mem2 2582 [(4, .int x4), (3, .ref (ad 255)), (2, .ref (ad 256)), (1, .ref (ad 0)), (0, .ref b)] []) : WW D 279 ad (cW ca ad) p l e room_1 s m args below meth c 7 cells slots Q mem 1991 [(4, .int x4), (3, .ref (ad 255)), (2, .ref (ad 256)), (1, .ref (ad 0)), (0, .ref b)] [] := by
  have hcap0 : cells ≤ room_1.cells ∧ slots ≤ room_1.slots := ⟨Nat.le_trans (Nat.le_add_right _ 3) hcap.1, Nat.le_trans (Nat.le_add_right _ 18) hcap.2⟩
  obtain ⟨hx, hbl, hbA, h1, h2, h3, h4, h5⟩ := HX
  rw [K_case_33] at hF
  refine w_aload_n X 3 dL_law_1991 rfl rfl 1992 rfl ?_
  refine w_aload_n X 4 dL_law_1992 rfl rfl 1993 rfl ?_
  refine w_iload X 0 dL_law_1993 rfl 1995 rfl ?_
  refine w_iconst X 1 dL_law_1995 rfl 1996 rfl ?_
  refine w_iadd X dL_law_1996 1997 rfl ?_
  refine w_sld X hx hbl hbA h1.1 (a 1) h1.2 dL_law_1997 1998 rfl ?_
  refine w_aload_n X 4 dL_law_1998 rfl rfl 1999 rfl ?_
  refine w_iload X 0 dL_law_1999 rfl 2001 rfl ?_
  refine w_iconst X 2 dL_law_2001 rfl 2002 rfl ?_
  refine w_iadd X dL_law_2002 2003 rfl ?_
  refine w_sld X hx hbl hbA h2.1 (a 2) h2.2 dL_law_2003 2004 rfl ?_
  refine w_aload_n X 4 dL_law_2004 rfl rfl 2005 rfl ?_
  refine w_iload X 0 dL_law_2005 rfl 2007 rfl ?_
  refine w_iconst X 3 dL_law_2007 rfl 2008 rfl ?_
  refine w_iadd X dL_law_2008 2009 rfl ?_
  refine w_sld X hx hbl hbA h3.1 (a 3) h3.2 dL_law_2009 2010 rfl ?_
  refine w_aload_n X 4 dL_law_2010 rfl rfl 2011 rfl ?_
  refine w_iload X 0 dL_law_2011 rfl 2013 rfl ?_
  refine w_iconst X 4 dL_law_2013 rfl 2014 rfl ?_
  refine w_iadd X dL_law_2014 2015 rfl ?_
  refine w_sld X hx hbl hbA h4.1 (a 4) h4.2 dL_law_2015 2016 rfl ?_
  refine w_if_eq X hF 2023 2019 dL_law_2016 (by decide) rfl (fun hF => ?_) (fun hF => ?_)
  · refine w_iconst X 0 dL_law_2023 rfl 2024 rfl ?_
    refine w_aload_n X 1 dL_law_2024 rfl rfl 2025 rfl ?_
    refine w_wcall X hZ hF [.ref (ad 0), .int (a 1), .int (a 2), .int (a 3), .int 0, .ref (ad 255)] rfl kB_L_harm kL_L_247 (fun res h => ct_L_harm l hl hZ hX hO fu (a 1) (a 2) (a 3) 0 mem res h) rfl rfl rfl ⟨Nat.le_of_ble_eq_true rfl, Nat.le_of_ble_eq_true rfl⟩ (Nat.le_of_ble_eq_true rfl) hcap dL_law_2025 2028 rfl (fun p_1 hF => ?_)
    refine w_istore X [(5, .int p_1.1), (4, .int x4), (3, .ref (ad 255)), (2, .ref (ad 256)), (1, .ref (ad 0)), (0, .ref b)] dL_law_2028 (by decide) rfl 2030 rfl ?_
    refine w_aload_n X 3 dL_law_2030 rfl rfl 2031 rfl ?_
    refine w_aload_n X 5 dL_law_2031 rfl rfl 2032 rfl ?_
    refine w_iload X 1 dL_law_2032 rfl 2034 rfl ?_
    refine w_iconst X 1 dL_law_2034 rfl 2035 rfl ?_
    refine w_iadd X dL_law_2035 2036 rfl ?_
    refine w_sld X hx hbl hbA h1.1 (a 1) h1.2 dL_law_2036 2037 rfl ?_
    refine w_aload_n X 5 dL_law_2037 rfl rfl 2038 rfl ?_
    refine w_iload X 1 dL_law_2038 rfl 2040 rfl ?_
    refine w_iconst X 2 dL_law_2040 rfl 2041 rfl ?_
    refine w_iadd X dL_law_2041 2042 rfl ?_
    refine w_sld X hx hbl hbA h2.1 (a 2) h2.2 dL_law_2042 2043 rfl ?_
    refine w_aload_n X 5 dL_law_2043 rfl rfl 2044 rfl ?_
    refine w_iload X 1 dL_law_2044 rfl 2046 rfl ?_
    refine w_iconst X 3 dL_law_2046 rfl 2047 rfl ?_
    refine w_iadd X dL_law_2047 2048 rfl ?_
    refine w_sld X hx hbl hbA h3.1 (a 3) h3.2 dL_law_2048 2049 rfl ?_
    refine w_aload_n X 5 dL_law_2049 rfl rfl 2050 rfl ?_
    refine w_iload X 1 dL_law_2050 rfl 2052 rfl ?_
    refine w_iconst X 4 dL_law_2052 rfl 2053 rfl ?_
    refine w_iadd X dL_law_2053 2054 rfl ?_
    refine w_sld X hx hbl hbA h4.1 (a 4) h4.2 dL_law_2054 2055 rfl ?_
    refine w_if_eq X hF 2062 2058 dL_law_2055 (by decide) rfl (fun hF => ?_) (fun hF => ?_)
    · refine w_iconst X 0 dL_law_2062 rfl 2063 rfl ?_
      refine w_mcall (fun x => x.1) (fun x => x.2) X hZ hF [.int (a 1), .int (a 2), .int (a 3), .int 0] (q := ("PawnRaceModel", TX12, 50)) rfl rfl rfl kB_X12_harm kL_L_250 (fun res h => ct_X12_harm l hZ fu (a 1) (a 2) (a 3) 0 (fun j => (mset 0 256 mem p_1.2) (256 + j)) res h) rfl rfl rfl ⟨Nat.le_of_ble_eq_true rfl, Nat.le_of_ble_eq_true rfl⟩ (Nat.le_of_ble_eq_true rfl) hcap dL_law_2063 2066 rfl (fun p_2 hF => ?_)
      refine w_istore X [(6, .int p_2.1), (5, .int p_1.1), (4, .int x4), (3, .ref (ad 255)), (2, .ref (ad 256)), (1, .ref (ad 0)), (0, .ref b)] dL_law_2066 (by decide) rfl 2068 rfl ?_
      refine w_aload_n X 4 dL_law_2068 rfl rfl 2069 rfl ?_
      refine w_mcall (fun x => x) (fun _ => (fun j => (mset 256 23 (mset 0 256 mem p_1.2) p_2.2) (256 + j))) X hZ hF [] (q := ("PawnRaceModel", TX12, 50)) rfl rfl rfl kB_X12_thrown kL_L_134 (fun res h => ct_X12_thrown l hZ fu  (fun j => (mset 256 23 (mset 0 256 mem p_1.2) p_2.2) (256 + j)) res h) rfl rfl rfl ⟨Nat.le_of_ble_eq_true rfl, Nat.le_of_ble_eq_true rfl⟩ (Nat.le_of_ble_eq_true rfl) hcap dL_law_2069 2072 rfl (fun x_3 hF => ?_)
      refine w_iload X 1 dL_law_2072 rfl 2074 rfl ?_
      refine w_icmp_eq X hF 2079 2077 dL_law_2074 (by decide) rfl (fun hF => ?_) (fun hF => ?_)
      · refine w_iload X 1 dL_law_2079 rfl 2081 rfl ?_
        refine w_if_ne X hF 2096 2084 dL_law_2081 (by decide) rfl (fun hF => ?_) (fun hF => ?_)
        · refine w_aload_n X 3 dL_law_2084 rfl rfl 2085 rfl ?_
          refine w_iconst X 0 dL_law_2085 rfl 2086 rfl ?_
          refine w_lal X 255 lt279_255 ko_W255 (t0 := 5) rfl vin01 dL_law_2086 2087 rfl ?_
          refine w_iload X 0 dL_law_2087 rfl 2089 rfl ?_
          refine w_i2l X dL_law_2089 2090 rfl ?_
          refine w_lcmp X dL_law_2090 2091 rfl ?_
          refine w_if_eq X hF 2096 2094 dL_law_2091 (by decide) rfl (fun hF => ?_) (fun hF => ?_)
          · refine w_goto X 2582 dL_law_2096 (by decide) ?_
            refine w_keep [2, 3, 4, 5, 6] rfl ?_
            have e9 := o_inj hF
            subst e9
            exact kk
          · refine w_iconst X 0 dL_law_2094 rfl 2095 rfl ?_
            exact no_none hF
        · refine w_goto X 2582 dL_law_2096 (by decide) ?_
          refine w_keep [2, 3, 4, 5, 6] rfl ?_
          have e9 := o_inj hF
          subst e9
          exact kk
      · refine w_iconst X 0 dL_law_2077 rfl 2078 rfl ?_
        exact no_none hF
    · refine w_iconst X 1 dL_law_2058 rfl 2059 rfl ?_
      refine w_goto X 2063 dL_law_2059 (by decide) ?_
      refine w_mcall (fun x => x.1) (fun x => x.2) X hZ hF [.int (a 1), .int (a 2), .int (a 3), .int 1] (q := ("PawnRaceModel", TX12, 50)) rfl rfl rfl kB_X12_harm kL_L_250 (fun res h => ct_X12_harm l hZ fu (a 1) (a 2) (a 3) 1 (fun j => (mset 0 256 mem p_1.2) (256 + j)) res h) rfl rfl rfl ⟨Nat.le_of_ble_eq_true rfl, Nat.le_of_ble_eq_true rfl⟩ (Nat.le_of_ble_eq_true rfl) hcap dL_law_2063 2066 rfl (fun p_4 hF => ?_)
      refine w_istore X [(6, .int p_4.1), (5, .int p_1.1), (4, .int x4), (3, .ref (ad 255)), (2, .ref (ad 256)), (1, .ref (ad 0)), (0, .ref b)] dL_law_2066 (by decide) rfl 2068 rfl ?_
      refine w_aload_n X 4 dL_law_2068 rfl rfl 2069 rfl ?_
      refine w_mcall (fun x => x) (fun _ => (fun j => (mset 256 23 (mset 0 256 mem p_1.2) p_4.2) (256 + j))) X hZ hF [] (q := ("PawnRaceModel", TX12, 50)) rfl rfl rfl kB_X12_thrown kL_L_134 (fun res h => ct_X12_thrown l hZ fu  (fun j => (mset 256 23 (mset 0 256 mem p_1.2) p_4.2) (256 + j)) res h) rfl rfl rfl ⟨Nat.le_of_ble_eq_true rfl, Nat.le_of_ble_eq_true rfl⟩ (Nat.le_of_ble_eq_true rfl) hcap dL_law_2069 2072 rfl (fun x_5 hF => ?_)
      refine w_iload X 1 dL_law_2072 rfl 2074 rfl ?_
      refine w_icmp_eq X hF 2079 2077 dL_law_2074 (by decide) rfl (fun hF => ?_) (fun hF => ?_)
      · refine w_iload X 1 dL_law_2079 rfl 2081 rfl ?_
        refine w_if_ne X hF 2096 2084 dL_law_2081 (by decide) rfl (fun hF => ?_) (fun hF => ?_)
        · refine w_aload_n X 3 dL_law_2084 rfl rfl 2085 rfl ?_
          refine w_iconst X 0 dL_law_2085 rfl 2086 rfl ?_
          refine w_lal X 255 lt279_255 ko_W255 (t0 := 5) rfl vin01 dL_law_2086 2087 rfl ?_
          refine w_iload X 0 dL_law_2087 rfl 2089 rfl ?_
          refine w_i2l X dL_law_2089 2090 rfl ?_
          refine w_lcmp X dL_law_2090 2091 rfl ?_
          refine w_if_eq X hF 2096 2094 dL_law_2091 (by decide) rfl (fun hF => ?_) (fun hF => ?_)
          · refine w_goto X 2582 dL_law_2096 (by decide) ?_
            refine w_keep [2, 3, 4, 5, 6] rfl ?_
            have e9 := o_inj hF
            subst e9
            exact kk
          · refine w_iconst X 0 dL_law_2094 rfl 2095 rfl ?_
            exact no_none hF
        · refine w_goto X 2582 dL_law_2096 (by decide) ?_
          refine w_keep [2, 3, 4, 5, 6] rfl ?_
          have e9 := o_inj hF
          subst e9
          exact kk
      · refine w_iconst X 0 dL_law_2077 rfl 2078 rfl ?_
        exact no_none hF
  · refine w_iconst X 1 dL_law_2019 rfl 2020 rfl ?_
    refine w_goto X 2024 dL_law_2020 (by decide) ?_
    refine w_aload_n X 1 dL_law_2024 rfl rfl 2025 rfl ?_
    refine w_wcall X hZ hF [.ref (ad 0), .int (a 1), .int (a 2), .int (a 3), .int 1, .ref (ad 255)] rfl kB_L_harm kL_L_247 (fun res h => ct_L_harm l hl hZ hX hO fu (a 1) (a 2) (a 3) 1 mem res h) rfl rfl rfl ⟨Nat.le_of_ble_eq_true rfl, Nat.le_of_ble_eq_true rfl⟩ (Nat.le_of_ble_eq_true rfl) hcap dL_law_2025 2028 rfl (fun p_6 hF => ?_)
    refine w_istore X [(5, .int p_6.1), (4, .int x4), (3, .ref (ad 255)), (2, .ref (ad 256)), (1, .ref (ad 0)), (0, .ref b)] dL_law_2028 (by decide) rfl 2030 rfl ?_
    refine w_aload_n X 3 dL_law_2030 rfl rfl 2031 rfl ?_
    refine w_aload_n X 5 dL_law_2031 rfl rfl 2032 rfl ?_
    refine w_iload X 1 dL_law_2032 rfl 2034 rfl ?_
    refine w_iconst X 1 dL_law_2034 rfl 2035 rfl ?_
    refine w_iadd X dL_law_2035 2036 rfl ?_
    refine w_sld X hx hbl hbA h1.1 (a 1) h1.2 dL_law_2036 2037 rfl ?_
    refine w_aload_n X 5 dL_law_2037 rfl rfl 2038 rfl ?_
    refine w_iload X 1 dL_law_2038 rfl 2040 rfl ?_
    refine w_iconst X 2 dL_law_2040 rfl 2041 rfl ?_
    refine w_iadd X dL_law_2041 2042 rfl ?_
    refine w_sld X hx hbl hbA h2.1 (a 2) h2.2 dL_law_2042 2043 rfl ?_
    refine w_aload_n X 5 dL_law_2043 rfl rfl 2044 rfl ?_
    refine w_iload X 1 dL_law_2044 rfl 2046 rfl ?_
    refine w_iconst X 3 dL_law_2046 rfl 2047 rfl ?_
    refine w_iadd X dL_law_2047 2048 rfl ?_
    refine w_sld X hx hbl hbA h3.1 (a 3) h3.2 dL_law_2048 2049 rfl ?_
    refine w_aload_n X 5 dL_law_2049 rfl rfl 2050 rfl ?_
    refine w_iload X 1 dL_law_2050 rfl 2052 rfl ?_
    refine w_iconst X 4 dL_law_2052 rfl 2053 rfl ?_
    refine w_iadd X dL_law_2053 2054 rfl ?_
    refine w_sld X hx hbl hbA h4.1 (a 4) h4.2 dL_law_2054 2055 rfl ?_
    refine w_if_eq X hF 2062 2058 dL_law_2055 (by decide) rfl (fun hF => ?_) (fun hF => ?_)
    · refine w_iconst X 0 dL_law_2062 rfl 2063 rfl ?_
      refine w_mcall (fun x => x.1) (fun x => x.2) X hZ hF [.int (a 1), .int (a 2), .int (a 3), .int 0] (q := ("PawnRaceModel", TX12, 50)) rfl rfl rfl kB_X12_harm kL_L_250 (fun res h => ct_X12_harm l hZ fu (a 1) (a 2) (a 3) 0 (fun j => (mset 0 256 mem p_6.2) (256 + j)) res h) rfl rfl rfl ⟨Nat.le_of_ble_eq_true rfl, Nat.le_of_ble_eq_true rfl⟩ (Nat.le_of_ble_eq_true rfl) hcap dL_law_2063 2066 rfl (fun p_7 hF => ?_)
      refine w_istore X [(6, .int p_7.1), (5, .int p_6.1), (4, .int x4), (3, .ref (ad 255)), (2, .ref (ad 256)), (1, .ref (ad 0)), (0, .ref b)] dL_law_2066 (by decide) rfl 2068 rfl ?_
      refine w_aload_n X 4 dL_law_2068 rfl rfl 2069 rfl ?_
      refine w_mcall (fun x => x) (fun _ => (fun j => (mset 256 23 (mset 0 256 mem p_6.2) p_7.2) (256 + j))) X hZ hF [] (q := ("PawnRaceModel", TX12, 50)) rfl rfl rfl kB_X12_thrown kL_L_134 (fun res h => ct_X12_thrown l hZ fu  (fun j => (mset 256 23 (mset 0 256 mem p_6.2) p_7.2) (256 + j)) res h) rfl rfl rfl ⟨Nat.le_of_ble_eq_true rfl, Nat.le_of_ble_eq_true rfl⟩ (Nat.le_of_ble_eq_true rfl) hcap dL_law_2069 2072 rfl (fun x_8 hF => ?_)
      refine w_iload X 1 dL_law_2072 rfl 2074 rfl ?_
      refine w_icmp_eq X hF 2079 2077 dL_law_2074 (by decide) rfl (fun hF => ?_) (fun hF => ?_)
      · refine w_iload X 1 dL_law_2079 rfl 2081 rfl ?_
        refine w_if_ne X hF 2096 2084 dL_law_2081 (by decide) rfl (fun hF => ?_) (fun hF => ?_)
        · refine w_aload_n X 3 dL_law_2084 rfl rfl 2085 rfl ?_
          refine w_iconst X 0 dL_law_2085 rfl 2086 rfl ?_
          refine w_lal X 255 lt279_255 ko_W255 (t0 := 5) rfl vin01 dL_law_2086 2087 rfl ?_
          refine w_iload X 0 dL_law_2087 rfl 2089 rfl ?_
          refine w_i2l X dL_law_2089 2090 rfl ?_
          refine w_lcmp X dL_law_2090 2091 rfl ?_
          refine w_if_eq X hF 2096 2094 dL_law_2091 (by decide) rfl (fun hF => ?_) (fun hF => ?_)
          · refine w_goto X 2582 dL_law_2096 (by decide) ?_
            refine w_keep [2, 3, 4, 5, 6] rfl ?_
            have e9 := o_inj hF
            subst e9
            exact kk
          · refine w_iconst X 0 dL_law_2094 rfl 2095 rfl ?_
            exact no_none hF
        · refine w_goto X 2582 dL_law_2096 (by decide) ?_
          refine w_keep [2, 3, 4, 5, 6] rfl ?_
          have e9 := o_inj hF
          subst e9
          exact kk
      · refine w_iconst X 0 dL_law_2077 rfl 2078 rfl ?_
        exact no_none hF
    · refine w_iconst X 1 dL_law_2058 rfl 2059 rfl ?_
      refine w_goto X 2063 dL_law_2059 (by decide) ?_
      refine w_mcall (fun x => x.1) (fun x => x.2) X hZ hF [.int (a 1), .int (a 2), .int (a 3), .int 1] (q := ("PawnRaceModel", TX12, 50)) rfl rfl rfl kB_X12_harm kL_L_250 (fun res h => ct_X12_harm l hZ fu (a 1) (a 2) (a 3) 1 (fun j => (mset 0 256 mem p_6.2) (256 + j)) res h) rfl rfl rfl ⟨Nat.le_of_ble_eq_true rfl, Nat.le_of_ble_eq_true rfl⟩ (Nat.le_of_ble_eq_true rfl) hcap dL_law_2063 2066 rfl (fun p_9 hF => ?_)
      refine w_istore X [(6, .int p_9.1), (5, .int p_6.1), (4, .int x4), (3, .ref (ad 255)), (2, .ref (ad 256)), (1, .ref (ad 0)), (0, .ref b)] dL_law_2066 (by decide) rfl 2068 rfl ?_
      refine w_aload_n X 4 dL_law_2068 rfl rfl 2069 rfl ?_
      refine w_mcall (fun x => x) (fun _ => (fun j => (mset 256 23 (mset 0 256 mem p_6.2) p_9.2) (256 + j))) X hZ hF [] (q := ("PawnRaceModel", TX12, 50)) rfl rfl rfl kB_X12_thrown kL_L_134 (fun res h => ct_X12_thrown l hZ fu  (fun j => (mset 256 23 (mset 0 256 mem p_6.2) p_9.2) (256 + j)) res h) rfl rfl rfl ⟨Nat.le_of_ble_eq_true rfl, Nat.le_of_ble_eq_true rfl⟩ (Nat.le_of_ble_eq_true rfl) hcap dL_law_2069 2072 rfl (fun x_10 hF => ?_)
      refine w_iload X 1 dL_law_2072 rfl 2074 rfl ?_
      refine w_icmp_eq X hF 2079 2077 dL_law_2074 (by decide) rfl (fun hF => ?_) (fun hF => ?_)
      · refine w_iload X 1 dL_law_2079 rfl 2081 rfl ?_
        refine w_if_ne X hF 2096 2084 dL_law_2081 (by decide) rfl (fun hF => ?_) (fun hF => ?_)
        · refine w_aload_n X 3 dL_law_2084 rfl rfl 2085 rfl ?_
          refine w_iconst X 0 dL_law_2085 rfl 2086 rfl ?_
          refine w_lal X 255 lt279_255 ko_W255 (t0 := 5) rfl vin01 dL_law_2086 2087 rfl ?_
          refine w_iload X 0 dL_law_2087 rfl 2089 rfl ?_
          refine w_i2l X dL_law_2089 2090 rfl ?_
          refine w_lcmp X dL_law_2090 2091 rfl ?_
          refine w_if_eq X hF 2096 2094 dL_law_2091 (by decide) rfl (fun hF => ?_) (fun hF => ?_)
          · refine w_goto X 2582 dL_law_2096 (by decide) ?_
            refine w_keep [2, 3, 4, 5, 6] rfl ?_
            have e9 := o_inj hF
            subst e9
            exact kk
          · refine w_iconst X 0 dL_law_2094 rfl 2095 rfl ?_
            exact no_none hF
        · refine w_goto X 2582 dL_law_2096 (by decide) ?_
          refine w_keep [2, 3, 4, 5, 6] rfl ?_
          have e9 := o_inj hF
          subst e9
          exact kk
      · refine w_iconst X 0 dL_law_2077 rfl 2078 rfl ?_
        exact no_none hF

def K_case_34 (fu : Nat) (a : Nat → Int32) (mem : Mem) : Option Mem := bd (K_L_foreseen fu (a 1) (a 2) (a 3) mem) (fun p_1 => bd (K_X12_foreseen fu (a 1) (a 2) (a 3) (fun j => (mset 0 256 mem p_1.2) (256 + j))) (fun p_2 => bd (K_X12_thrown fu (fun j => (mset 256 23 (mset 0 256 mem p_1.2) p_2.2) (256 + j))) (fun x_3 => (if x_3 = p_1.1 then (if p_1.1 = 0 then (if (lg_cmp (rl (mset 256 23 (mset 256 23 (mset 0 256 mem p_1.2) p_2.2) (fun j => (mset 256 23 (mset 0 256 mem p_1.2) p_2.2) (256 + j))) 255 (Int32.toNatClampNeg 0)) (Int32.toInt64 p_2.1)) = 0 then some (mset 256 23 (mset 256 23 (mset 0 256 mem p_1.2) p_2.2) (fun j => (mset 256 23 (mset 0 256 mem p_1.2) p_2.2) (256 + j))) else none) else some (mset 256 23 (mset 256 23 (mset 0 256 mem p_1.2) p_2.2) (fun j => (mset 256 23 (mset 0 256 mem p_1.2) p_2.2) (256 + j)))) else none))))
set_option maxHeartbeats 4000000 in
set_option maxRecDepth 100000 in
theorem lc_34 (hl : l.stackTraces = false) (hZ : ZOK Z) (hX : ZX Z) {tO : Nat} {sK sV : Nat → Nat} (hO : ZO Z tO sK sV) (fu : Nat) (X : CX D (tyL ca) 279 ad Z p s m args meth c cL_law 7 "PawnRaceLaw" ret) {b L : Nat} {xs a : Nat → Int32} {x4 : Int32} (HX : LX b L xs s (AA 279 ad s.heap.size) x4 a) (hcap : cells + 3 ≤ room_1.cells ∧ slots + 18 ≤ room_1.slots) {mem mem2 : Mem} (hF : K_case_34 fu a mem = some mem2) (kk : WW D 279 ad (cW ca ad) p l e room_1 s m args below meth c 7 (cells + 3) (slots + 18) Q mem2 2582 [(4, .int x4), (3, .ref (ad 255)), (2, .ref (ad 256)), (1, .ref (ad 0)), (0, .ref b)] []) : WW D 279 ad (cW ca ad) p l e room_1 s m args below meth c 7 cells slots Q mem 2099 [(4, .int x4), (3, .ref (ad 255)), (2, .ref (ad 256)), (1, .ref (ad 0)), (0, .ref b)] [] := by
  have hcap0 : cells ≤ room_1.cells ∧ slots ≤ room_1.slots := ⟨Nat.le_trans (Nat.le_add_right _ 3) hcap.1, Nat.le_trans (Nat.le_add_right _ 18) hcap.2⟩
  obtain ⟨hx, hbl, hbA, h1, h2, h3, h4, h5⟩ := HX
  rw [K_case_34] at hF
  refine w_aload_n X 3 dL_law_2099 rfl rfl 2100 rfl ?_
  refine w_aload_n X 4 dL_law_2100 rfl rfl 2101 rfl ?_
  refine w_iload X 0 dL_law_2101 rfl 2103 rfl ?_
  refine w_iconst X 1 dL_law_2103 rfl 2104 rfl ?_
  refine w_iadd X dL_law_2104 2105 rfl ?_
  refine w_sld X hx hbl hbA h1.1 (a 1) h1.2 dL_law_2105 2106 rfl ?_
  refine w_aload_n X 4 dL_law_2106 rfl rfl 2107 rfl ?_
  refine w_iload X 0 dL_law_2107 rfl 2109 rfl ?_
  refine w_iconst X 2 dL_law_2109 rfl 2110 rfl ?_
  refine w_iadd X dL_law_2110 2111 rfl ?_
  refine w_sld X hx hbl hbA h2.1 (a 2) h2.2 dL_law_2111 2112 rfl ?_
  refine w_aload_n X 4 dL_law_2112 rfl rfl 2113 rfl ?_
  refine w_iload X 0 dL_law_2113 rfl 2115 rfl ?_
  refine w_iconst X 3 dL_law_2115 rfl 2116 rfl ?_
  refine w_iadd X dL_law_2116 2117 rfl ?_
  refine w_sld X hx hbl hbA h3.1 (a 3) h3.2 dL_law_2117 2118 rfl ?_
  refine w_aload_n X 1 dL_law_2118 rfl rfl 2119 rfl ?_
  refine w_wcall X hZ hF [.ref (ad 0), .int (a 1), .int (a 2), .int (a 3), .ref (ad 255)] rfl kB_L_foreseen kL_L_251 (fun res h => ct_L_foreseen l hl hZ hX hO fu (a 1) (a 2) (a 3) mem res h) rfl rfl rfl ⟨Nat.le_of_ble_eq_true rfl, Nat.le_of_ble_eq_true rfl⟩ (Nat.le_of_ble_eq_true rfl) hcap dL_law_2119 2122 rfl (fun p_1 hF => ?_)
  refine w_istore X [(5, .int p_1.1), (4, .int x4), (3, .ref (ad 255)), (2, .ref (ad 256)), (1, .ref (ad 0)), (0, .ref b)] dL_law_2122 (by decide) rfl 2124 rfl ?_
  refine w_aload_n X 3 dL_law_2124 rfl rfl 2125 rfl ?_
  refine w_aload_n X 5 dL_law_2125 rfl rfl 2126 rfl ?_
  refine w_iload X 1 dL_law_2126 rfl 2128 rfl ?_
  refine w_iconst X 1 dL_law_2128 rfl 2129 rfl ?_
  refine w_iadd X dL_law_2129 2130 rfl ?_
  refine w_sld X hx hbl hbA h1.1 (a 1) h1.2 dL_law_2130 2131 rfl ?_
  refine w_aload_n X 5 dL_law_2131 rfl rfl 2132 rfl ?_
  refine w_iload X 1 dL_law_2132 rfl 2134 rfl ?_
  refine w_iconst X 2 dL_law_2134 rfl 2135 rfl ?_
  refine w_iadd X dL_law_2135 2136 rfl ?_
  refine w_sld X hx hbl hbA h2.1 (a 2) h2.2 dL_law_2136 2137 rfl ?_
  refine w_aload_n X 5 dL_law_2137 rfl rfl 2138 rfl ?_
  refine w_iload X 1 dL_law_2138 rfl 2140 rfl ?_
  refine w_iconst X 3 dL_law_2140 rfl 2141 rfl ?_
  refine w_iadd X dL_law_2141 2142 rfl ?_
  refine w_sld X hx hbl hbA h3.1 (a 3) h3.2 dL_law_2142 2143 rfl ?_
  refine w_mcall (fun x => x.1) (fun x => x.2) X hZ hF [.int (a 1), .int (a 2), .int (a 3)] (q := ("PawnRaceModel", TX12, 50)) rfl rfl rfl kB_X12_foreseen kL_L_253 (fun res h => ct_X12_foreseen l hZ fu (a 1) (a 2) (a 3) (fun j => (mset 0 256 mem p_1.2) (256 + j)) res h) rfl rfl rfl ⟨Nat.le_of_ble_eq_true rfl, Nat.le_of_ble_eq_true rfl⟩ (Nat.le_of_ble_eq_true rfl) hcap dL_law_2143 2146 rfl (fun p_2 hF => ?_)
  refine w_istore X [(6, .int p_2.1), (5, .int p_1.1), (4, .int x4), (3, .ref (ad 255)), (2, .ref (ad 256)), (1, .ref (ad 0)), (0, .ref b)] dL_law_2146 (by decide) rfl 2148 rfl ?_
  refine w_aload_n X 4 dL_law_2148 rfl rfl 2149 rfl ?_
  refine w_mcall (fun x => x) (fun _ => (fun j => (mset 256 23 (mset 0 256 mem p_1.2) p_2.2) (256 + j))) X hZ hF [] (q := ("PawnRaceModel", TX12, 50)) rfl rfl rfl kB_X12_thrown kL_L_134 (fun res h => ct_X12_thrown l hZ fu  (fun j => (mset 256 23 (mset 0 256 mem p_1.2) p_2.2) (256 + j)) res h) rfl rfl rfl ⟨Nat.le_of_ble_eq_true rfl, Nat.le_of_ble_eq_true rfl⟩ (Nat.le_of_ble_eq_true rfl) hcap dL_law_2149 2152 rfl (fun x_3 hF => ?_)
  refine w_iload X 1 dL_law_2152 rfl 2154 rfl ?_
  refine w_icmp_eq X hF 2159 2157 dL_law_2154 (by decide) rfl (fun hF => ?_) (fun hF => ?_)
  · refine w_iload X 1 dL_law_2159 rfl 2161 rfl ?_
    refine w_if_ne X hF 2176 2164 dL_law_2161 (by decide) rfl (fun hF => ?_) (fun hF => ?_)
    · refine w_aload_n X 3 dL_law_2164 rfl rfl 2165 rfl ?_
      refine w_iconst X 0 dL_law_2165 rfl 2166 rfl ?_
      refine w_lal X 255 lt279_255 ko_W255 (t0 := 5) rfl vin01 dL_law_2166 2167 rfl ?_
      refine w_iload X 0 dL_law_2167 rfl 2169 rfl ?_
      refine w_i2l X dL_law_2169 2170 rfl ?_
      refine w_lcmp X dL_law_2170 2171 rfl ?_
      refine w_if_eq X hF 2176 2174 dL_law_2171 (by decide) rfl (fun hF => ?_) (fun hF => ?_)
      · refine w_goto X 2582 dL_law_2176 (by decide) ?_
        refine w_keep [2, 3, 4, 5, 6] rfl ?_
        have e9 := o_inj hF
        subst e9
        exact kk
      · refine w_iconst X 0 dL_law_2174 rfl 2175 rfl ?_
        exact no_none hF
    · refine w_goto X 2582 dL_law_2176 (by decide) ?_
      refine w_keep [2, 3, 4, 5, 6] rfl ?_
      have e9 := o_inj hF
      subst e9
      exact kk
  · refine w_iconst X 0 dL_law_2157 rfl 2158 rfl ?_
    exact no_none hF

def K_case_35 (fu : Nat) (a : Nat → Int32) (mem : Mem) : Option Mem := bd (K_L_step fu (a 1) mem) (fun p_1 => bd (K_X12_step fu (a 1) (fun j => (mset 0 256 mem p_1.2) (256 + j))) (fun p_2 => bd (K_X12_thrown fu (fun j => (mset 256 23 (mset 0 256 mem p_1.2) p_2.2) (256 + j))) (fun x_3 => (if x_3 = p_1.1 then (if p_1.1 = 0 then (if (lg_cmp (rl (mset 256 23 (mset 256 23 (mset 0 256 mem p_1.2) p_2.2) (fun j => (mset 256 23 (mset 0 256 mem p_1.2) p_2.2) (256 + j))) 255 (Int32.toNatClampNeg 0)) (Int32.toInt64 p_2.1)) = 0 then some (mset 256 23 (mset 256 23 (mset 0 256 mem p_1.2) p_2.2) (fun j => (mset 256 23 (mset 0 256 mem p_1.2) p_2.2) (256 + j))) else none) else some (mset 256 23 (mset 256 23 (mset 0 256 mem p_1.2) p_2.2) (fun j => (mset 256 23 (mset 0 256 mem p_1.2) p_2.2) (256 + j)))) else none))))
set_option maxHeartbeats 4000000 in
set_option maxRecDepth 100000 in
theorem lc_35 (hl : l.stackTraces = false) (hZ : ZOK Z) (hX : ZX Z) {tO : Nat} {sK sV : Nat → Nat} (hO : ZO Z tO sK sV) (fu : Nat) (X : CX D (tyL ca) 279 ad Z p s m args meth c cL_law 7 "PawnRaceLaw" ret) {b L : Nat} {xs a : Nat → Int32} {x4 : Int32} (HX : LX b L xs s (AA 279 ad s.heap.size) x4 a) (hcap : cells + 3 ≤ room_1.cells ∧ slots + 18 ≤ room_1.slots) {mem mem2 : Mem} (hF : K_case_35 fu a mem = some mem2) (kk : WW D 279 ad (cW ca ad) p l e room_1 s m args below meth c 7 (cells + 3) (slots + 18) Q mem2 2582 [(4, .int x4), (3, .ref (ad 255)), (2, .ref (ad 256)), (1, .ref (ad 0)), (0, .ref b)] []) : WW D 279 ad (cW ca ad) p l e room_1 s m args below meth c 7 cells slots Q mem 2179 [(4, .int x4), (3, .ref (ad 255)), (2, .ref (ad 256)), (1, .ref (ad 0)), (0, .ref b)] [] := by
  have hcap0 : cells ≤ room_1.cells ∧ slots ≤ room_1.slots := ⟨Nat.le_trans (Nat.le_add_right _ 3) hcap.1, Nat.le_trans (Nat.le_add_right _ 18) hcap.2⟩
  obtain ⟨hx, hbl, hbA, h1, h2, h3, h4, h5⟩ := HX
  rw [K_case_35] at hF
  refine w_aload_n X 3 dL_law_2179 rfl rfl 2180 rfl ?_
  refine w_aload_n X 4 dL_law_2180 rfl rfl 2181 rfl ?_
  refine w_iload X 0 dL_law_2181 rfl 2183 rfl ?_
  refine w_iconst X 1 dL_law_2183 rfl 2184 rfl ?_
  refine w_iadd X dL_law_2184 2185 rfl ?_
  refine w_sld X hx hbl hbA h1.1 (a 1) h1.2 dL_law_2185 2186 rfl ?_
  refine w_aload_n X 1 dL_law_2186 rfl rfl 2187 rfl ?_
  refine w_wcall X hZ hF [.ref (ad 0), .int (a 1), .ref (ad 255)] rfl kB_L_step kL_L_254 (fun res h => ct_L_step l hl hZ hX hO fu (a 1) mem res h) rfl rfl rfl ⟨Nat.le_of_ble_eq_true rfl, Nat.le_of_ble_eq_true rfl⟩ (Nat.le_of_ble_eq_true rfl) hcap dL_law_2187 2190 rfl (fun p_1 hF => ?_)
  refine w_istore X [(5, .int p_1.1), (4, .int x4), (3, .ref (ad 255)), (2, .ref (ad 256)), (1, .ref (ad 0)), (0, .ref b)] dL_law_2190 (by decide) rfl 2192 rfl ?_
  refine w_aload_n X 3 dL_law_2192 rfl rfl 2193 rfl ?_
  refine w_aload_n X 5 dL_law_2193 rfl rfl 2194 rfl ?_
  refine w_iload X 1 dL_law_2194 rfl 2196 rfl ?_
  refine w_iconst X 1 dL_law_2196 rfl 2197 rfl ?_
  refine w_iadd X dL_law_2197 2198 rfl ?_
  refine w_sld X hx hbl hbA h1.1 (a 1) h1.2 dL_law_2198 2199 rfl ?_
  refine w_mcall (fun x => x.1) (fun x => x.2) X hZ hF [.int (a 1)] (q := ("PawnRaceModel", TX12, 50)) rfl rfl rfl kB_X12_step kL_L_256 (fun res h => ct_X12_step l hZ fu (a 1) (fun j => (mset 0 256 mem p_1.2) (256 + j)) res h) rfl rfl rfl ⟨Nat.le_of_ble_eq_true rfl, Nat.le_of_ble_eq_true rfl⟩ (Nat.le_of_ble_eq_true rfl) hcap dL_law_2199 2202 rfl (fun p_2 hF => ?_)
  refine w_istore X [(6, .int p_2.1), (5, .int p_1.1), (4, .int x4), (3, .ref (ad 255)), (2, .ref (ad 256)), (1, .ref (ad 0)), (0, .ref b)] dL_law_2202 (by decide) rfl 2204 rfl ?_
  refine w_aload_n X 4 dL_law_2204 rfl rfl 2205 rfl ?_
  refine w_mcall (fun x => x) (fun _ => (fun j => (mset 256 23 (mset 0 256 mem p_1.2) p_2.2) (256 + j))) X hZ hF [] (q := ("PawnRaceModel", TX12, 50)) rfl rfl rfl kB_X12_thrown kL_L_134 (fun res h => ct_X12_thrown l hZ fu  (fun j => (mset 256 23 (mset 0 256 mem p_1.2) p_2.2) (256 + j)) res h) rfl rfl rfl ⟨Nat.le_of_ble_eq_true rfl, Nat.le_of_ble_eq_true rfl⟩ (Nat.le_of_ble_eq_true rfl) hcap dL_law_2205 2208 rfl (fun x_3 hF => ?_)
  refine w_iload X 1 dL_law_2208 rfl 2210 rfl ?_
  refine w_icmp_eq X hF 2215 2213 dL_law_2210 (by decide) rfl (fun hF => ?_) (fun hF => ?_)
  · refine w_iload X 1 dL_law_2215 rfl 2217 rfl ?_
    refine w_if_ne X hF 2232 2220 dL_law_2217 (by decide) rfl (fun hF => ?_) (fun hF => ?_)
    · refine w_aload_n X 3 dL_law_2220 rfl rfl 2221 rfl ?_
      refine w_iconst X 0 dL_law_2221 rfl 2222 rfl ?_
      refine w_lal X 255 lt279_255 ko_W255 (t0 := 5) rfl vin01 dL_law_2222 2223 rfl ?_
      refine w_iload X 0 dL_law_2223 rfl 2225 rfl ?_
      refine w_i2l X dL_law_2225 2226 rfl ?_
      refine w_lcmp X dL_law_2226 2227 rfl ?_
      refine w_if_eq X hF 2232 2230 dL_law_2227 (by decide) rfl (fun hF => ?_) (fun hF => ?_)
      · refine w_goto X 2582 dL_law_2232 (by decide) ?_
        refine w_keep [2, 3, 4, 5, 6] rfl ?_
        have e9 := o_inj hF
        subst e9
        exact kk
      · refine w_iconst X 0 dL_law_2230 rfl 2231 rfl ?_
        exact no_none hF
    · refine w_goto X 2582 dL_law_2232 (by decide) ?_
      refine w_keep [2, 3, 4, 5, 6] rfl ?_
      have e9 := o_inj hF
      subst e9
      exact kk
  · refine w_iconst X 0 dL_law_2213 rfl 2214 rfl ?_
    exact no_none hF

def K_case_36 (fu : Nat) (a : Nat → Int32) (mem : Mem) : Option Mem := (if (a 3) = 0 then bd (K_L_build fu (a 1) (a 2) 0 mem) (fun p_1 => (if (a 3) = 0 then bd (K_X12_build fu (a 1) (a 2) 0 (fun j => (mset 0 256 mem p_1.2) (256 + j))) (fun p_2 => bd (K_X12_thrown fu (fun j => (mset 256 23 (mset 0 256 mem p_1.2) p_2.2) (256 + j))) (fun x_3 => (if x_3 = p_1.1 then (if p_1.1 = 0 then (if (lg_cmp (rl (mset 256 23 (mset 256 23 (mset 0 256 mem p_1.2) p_2.2) (fun j => (mset 256 23 (mset 0 256 mem p_1.2) p_2.2) (256 + j))) 255 (Int32.toNatClampNeg 0)) (Int32.toInt64 p_2.1)) = 0 then some (mset 256 23 (mset 256 23 (mset 0 256 mem p_1.2) p_2.2) (fun j => (mset 256 23 (mset 0 256 mem p_1.2) p_2.2) (256 + j))) else none) else some (mset 256 23 (mset 256 23 (mset 0 256 mem p_1.2) p_2.2) (fun j => (mset 256 23 (mset 0 256 mem p_1.2) p_2.2) (256 + j)))) else none))) else bd (K_X12_build fu (a 1) (a 2) 1 (fun j => (mset 0 256 mem p_1.2) (256 + j))) (fun p_4 => bd (K_X12_thrown fu (fun j => (mset 256 23 (mset 0 256 mem p_1.2) p_4.2) (256 + j))) (fun x_5 => (if x_5 = p_1.1 then (if p_1.1 = 0 then (if (lg_cmp (rl (mset 256 23 (mset 256 23 (mset 0 256 mem p_1.2) p_4.2) (fun j => (mset 256 23 (mset 0 256 mem p_1.2) p_4.2) (256 + j))) 255 (Int32.toNatClampNeg 0)) (Int32.toInt64 p_4.1)) = 0 then some (mset 256 23 (mset 256 23 (mset 0 256 mem p_1.2) p_4.2) (fun j => (mset 256 23 (mset 0 256 mem p_1.2) p_4.2) (256 + j))) else none) else some (mset 256 23 (mset 256 23 (mset 0 256 mem p_1.2) p_4.2) (fun j => (mset 256 23 (mset 0 256 mem p_1.2) p_4.2) (256 + j)))) else none))))) else bd (K_L_build fu (a 1) (a 2) 1 mem) (fun p_6 => (if (a 3) = 0 then bd (K_X12_build fu (a 1) (a 2) 0 (fun j => (mset 0 256 mem p_6.2) (256 + j))) (fun p_7 => bd (K_X12_thrown fu (fun j => (mset 256 23 (mset 0 256 mem p_6.2) p_7.2) (256 + j))) (fun x_8 => (if x_8 = p_6.1 then (if p_6.1 = 0 then (if (lg_cmp (rl (mset 256 23 (mset 256 23 (mset 0 256 mem p_6.2) p_7.2) (fun j => (mset 256 23 (mset 0 256 mem p_6.2) p_7.2) (256 + j))) 255 (Int32.toNatClampNeg 0)) (Int32.toInt64 p_7.1)) = 0 then some (mset 256 23 (mset 256 23 (mset 0 256 mem p_6.2) p_7.2) (fun j => (mset 256 23 (mset 0 256 mem p_6.2) p_7.2) (256 + j))) else none) else some (mset 256 23 (mset 256 23 (mset 0 256 mem p_6.2) p_7.2) (fun j => (mset 256 23 (mset 0 256 mem p_6.2) p_7.2) (256 + j)))) else none))) else bd (K_X12_build fu (a 1) (a 2) 1 (fun j => (mset 0 256 mem p_6.2) (256 + j))) (fun p_9 => bd (K_X12_thrown fu (fun j => (mset 256 23 (mset 0 256 mem p_6.2) p_9.2) (256 + j))) (fun x_10 => (if x_10 = p_6.1 then (if p_6.1 = 0 then (if (lg_cmp (rl (mset 256 23 (mset 256 23 (mset 0 256 mem p_6.2) p_9.2) (fun j => (mset 256 23 (mset 0 256 mem p_6.2) p_9.2) (256 + j))) 255 (Int32.toNatClampNeg 0)) (Int32.toInt64 p_9.1)) = 0 then some (mset 256 23 (mset 256 23 (mset 0 256 mem p_6.2) p_9.2) (fun j => (mset 256 23 (mset 0 256 mem p_6.2) p_9.2) (256 + j))) else none) else some (mset 256 23 (mset 256 23 (mset 0 256 mem p_6.2) p_9.2) (fun j => (mset 256 23 (mset 0 256 mem p_6.2) p_9.2) (256 + j)))) else none))))))
set_option maxHeartbeats 4000000 in
set_option maxRecDepth 100000 in
theorem lc_36 (hl : l.stackTraces = false) (hZ : ZOK Z) (hX : ZX Z) {tO : Nat} {sK sV : Nat → Nat} (hO : ZO Z tO sK sV) (fu : Nat) (X : CX D (tyL ca) 279 ad Z p s m args meth c cL_law 7 "PawnRaceLaw" ret) {b L : Nat} {xs a : Nat → Int32} {x4 : Int32} (HX : LX b L xs s (AA 279 ad s.heap.size) x4 a) (hcap : cells + 3 ≤ room_1.cells ∧ slots + 18 ≤ room_1.slots) {mem mem2 : Mem} (hF : K_case_36 fu a mem = some mem2) (kk : WW D 279 ad (cW ca ad) p l e room_1 s m args below meth c 7 (cells + 3) (slots + 18) Q mem2 2582 [(4, .int x4), (3, .ref (ad 255)), (2, .ref (ad 256)), (1, .ref (ad 0)), (0, .ref b)] []) : WW D 279 ad (cW ca ad) p l e room_1 s m args below meth c 7 cells slots Q mem 2235 [(4, .int x4), (3, .ref (ad 255)), (2, .ref (ad 256)), (1, .ref (ad 0)), (0, .ref b)] [] := by
  have hcap0 : cells ≤ room_1.cells ∧ slots ≤ room_1.slots := ⟨Nat.le_trans (Nat.le_add_right _ 3) hcap.1, Nat.le_trans (Nat.le_add_right _ 18) hcap.2⟩
  obtain ⟨hx, hbl, hbA, h1, h2, h3, h4, h5⟩ := HX
  rw [K_case_36] at hF
  refine w_aload_n X 3 dL_law_2235 rfl rfl 2236 rfl ?_
  refine w_aload_n X 4 dL_law_2236 rfl rfl 2237 rfl ?_
  refine w_iload X 0 dL_law_2237 rfl 2239 rfl ?_
  refine w_iconst X 1 dL_law_2239 rfl 2240 rfl ?_
  refine w_iadd X dL_law_2240 2241 rfl ?_
  refine w_sld X hx hbl hbA h1.1 (a 1) h1.2 dL_law_2241 2242 rfl ?_
  refine w_aload_n X 4 dL_law_2242 rfl rfl 2243 rfl ?_
  refine w_iload X 0 dL_law_2243 rfl 2245 rfl ?_
  refine w_iconst X 2 dL_law_2245 rfl 2246 rfl ?_
  refine w_iadd X dL_law_2246 2247 rfl ?_
  refine w_sld X hx hbl hbA h2.1 (a 2) h2.2 dL_law_2247 2248 rfl ?_
  refine w_aload_n X 4 dL_law_2248 rfl rfl 2249 rfl ?_
  refine w_iload X 0 dL_law_2249 rfl 2251 rfl ?_
  refine w_iconst X 3 dL_law_2251 rfl 2252 rfl ?_
  refine w_iadd X dL_law_2252 2253 rfl ?_
  refine w_sld X hx hbl hbA h3.1 (a 3) h3.2 dL_law_2253 2254 rfl ?_
  refine w_if_eq X hF 2261 2257 dL_law_2254 (by decide) rfl (fun hF => ?_) (fun hF => ?_)
  · refine w_iconst X 0 dL_law_2261 rfl 2262 rfl ?_
    refine w_aload_n X 1 dL_law_2262 rfl rfl 2263 rfl ?_
    refine w_wcall X hZ hF [.ref (ad 0), .int (a 1), .int (a 2), .int 0, .ref (ad 255)] rfl kB_L_build kL_L_257 (fun res h => ct_L_build l hl hZ hX hO fu (a 1) (a 2) 0 mem res h) rfl rfl rfl ⟨Nat.le_of_ble_eq_true rfl, Nat.le_of_ble_eq_true rfl⟩ (Nat.le_of_ble_eq_true rfl) hcap dL_law_2263 2266 rfl (fun p_1 hF => ?_)
    refine w_istore X [(5, .int p_1.1), (4, .int x4), (3, .ref (ad 255)), (2, .ref (ad 256)), (1, .ref (ad 0)), (0, .ref b)] dL_law_2266 (by decide) rfl 2268 rfl ?_
    refine w_aload_n X 3 dL_law_2268 rfl rfl 2269 rfl ?_
    refine w_aload_n X 5 dL_law_2269 rfl rfl 2270 rfl ?_
    refine w_iload X 1 dL_law_2270 rfl 2272 rfl ?_
    refine w_iconst X 1 dL_law_2272 rfl 2273 rfl ?_
    refine w_iadd X dL_law_2273 2274 rfl ?_
    refine w_sld X hx hbl hbA h1.1 (a 1) h1.2 dL_law_2274 2275 rfl ?_
    refine w_aload_n X 5 dL_law_2275 rfl rfl 2276 rfl ?_
    refine w_iload X 1 dL_law_2276 rfl 2278 rfl ?_
    refine w_iconst X 2 dL_law_2278 rfl 2279 rfl ?_
    refine w_iadd X dL_law_2279 2280 rfl ?_
    refine w_sld X hx hbl hbA h2.1 (a 2) h2.2 dL_law_2280 2281 rfl ?_
    refine w_aload_n X 5 dL_law_2281 rfl rfl 2282 rfl ?_
    refine w_iload X 1 dL_law_2282 rfl 2284 rfl ?_
    refine w_iconst X 3 dL_law_2284 rfl 2285 rfl ?_
    refine w_iadd X dL_law_2285 2286 rfl ?_
    refine w_sld X hx hbl hbA h3.1 (a 3) h3.2 dL_law_2286 2287 rfl ?_
    refine w_if_eq X hF 2294 2290 dL_law_2287 (by decide) rfl (fun hF => ?_) (fun hF => ?_)
    · refine w_iconst X 0 dL_law_2294 rfl 2295 rfl ?_
      refine w_mcall (fun x => x.1) (fun x => x.2) X hZ hF [.int (a 1), .int (a 2), .int 0] (q := ("PawnRaceModel", TX12, 50)) rfl rfl rfl kB_X12_build kL_L_259 (fun res h => ct_X12_build l hZ fu (a 1) (a 2) 0 (fun j => (mset 0 256 mem p_1.2) (256 + j)) res h) rfl rfl rfl ⟨Nat.le_of_ble_eq_true rfl, Nat.le_of_ble_eq_true rfl⟩ (Nat.le_of_ble_eq_true rfl) hcap dL_law_2295 2298 rfl (fun p_2 hF => ?_)
      refine w_istore X [(6, .int p_2.1), (5, .int p_1.1), (4, .int x4), (3, .ref (ad 255)), (2, .ref (ad 256)), (1, .ref (ad 0)), (0, .ref b)] dL_law_2298 (by decide) rfl 2300 rfl ?_
      refine w_aload_n X 4 dL_law_2300 rfl rfl 2301 rfl ?_
      refine w_mcall (fun x => x) (fun _ => (fun j => (mset 256 23 (mset 0 256 mem p_1.2) p_2.2) (256 + j))) X hZ hF [] (q := ("PawnRaceModel", TX12, 50)) rfl rfl rfl kB_X12_thrown kL_L_134 (fun res h => ct_X12_thrown l hZ fu  (fun j => (mset 256 23 (mset 0 256 mem p_1.2) p_2.2) (256 + j)) res h) rfl rfl rfl ⟨Nat.le_of_ble_eq_true rfl, Nat.le_of_ble_eq_true rfl⟩ (Nat.le_of_ble_eq_true rfl) hcap dL_law_2301 2304 rfl (fun x_3 hF => ?_)
      refine w_iload X 1 dL_law_2304 rfl 2306 rfl ?_
      refine w_icmp_eq X hF 2311 2309 dL_law_2306 (by decide) rfl (fun hF => ?_) (fun hF => ?_)
      · refine w_iload X 1 dL_law_2311 rfl 2313 rfl ?_
        refine w_if_ne X hF 2328 2316 dL_law_2313 (by decide) rfl (fun hF => ?_) (fun hF => ?_)
        · refine w_aload_n X 3 dL_law_2316 rfl rfl 2317 rfl ?_
          refine w_iconst X 0 dL_law_2317 rfl 2318 rfl ?_
          refine w_lal X 255 lt279_255 ko_W255 (t0 := 5) rfl vin01 dL_law_2318 2319 rfl ?_
          refine w_iload X 0 dL_law_2319 rfl 2321 rfl ?_
          refine w_i2l X dL_law_2321 2322 rfl ?_
          refine w_lcmp X dL_law_2322 2323 rfl ?_
          refine w_if_eq X hF 2328 2326 dL_law_2323 (by decide) rfl (fun hF => ?_) (fun hF => ?_)
          · refine w_goto X 2582 dL_law_2328 (by decide) ?_
            refine w_keep [2, 3, 4, 5, 6] rfl ?_
            have e9 := o_inj hF
            subst e9
            exact kk
          · refine w_iconst X 0 dL_law_2326 rfl 2327 rfl ?_
            exact no_none hF
        · refine w_goto X 2582 dL_law_2328 (by decide) ?_
          refine w_keep [2, 3, 4, 5, 6] rfl ?_
          have e9 := o_inj hF
          subst e9
          exact kk
      · refine w_iconst X 0 dL_law_2309 rfl 2310 rfl ?_
        exact no_none hF
    · refine w_iconst X 1 dL_law_2290 rfl 2291 rfl ?_
      refine w_goto X 2295 dL_law_2291 (by decide) ?_
      refine w_mcall (fun x => x.1) (fun x => x.2) X hZ hF [.int (a 1), .int (a 2), .int 1] (q := ("PawnRaceModel", TX12, 50)) rfl rfl rfl kB_X12_build kL_L_259 (fun res h => ct_X12_build l hZ fu (a 1) (a 2) 1 (fun j => (mset 0 256 mem p_1.2) (256 + j)) res h) rfl rfl rfl ⟨Nat.le_of_ble_eq_true rfl, Nat.le_of_ble_eq_true rfl⟩ (Nat.le_of_ble_eq_true rfl) hcap dL_law_2295 2298 rfl (fun p_4 hF => ?_)
      refine w_istore X [(6, .int p_4.1), (5, .int p_1.1), (4, .int x4), (3, .ref (ad 255)), (2, .ref (ad 256)), (1, .ref (ad 0)), (0, .ref b)] dL_law_2298 (by decide) rfl 2300 rfl ?_
      refine w_aload_n X 4 dL_law_2300 rfl rfl 2301 rfl ?_
      refine w_mcall (fun x => x) (fun _ => (fun j => (mset 256 23 (mset 0 256 mem p_1.2) p_4.2) (256 + j))) X hZ hF [] (q := ("PawnRaceModel", TX12, 50)) rfl rfl rfl kB_X12_thrown kL_L_134 (fun res h => ct_X12_thrown l hZ fu  (fun j => (mset 256 23 (mset 0 256 mem p_1.2) p_4.2) (256 + j)) res h) rfl rfl rfl ⟨Nat.le_of_ble_eq_true rfl, Nat.le_of_ble_eq_true rfl⟩ (Nat.le_of_ble_eq_true rfl) hcap dL_law_2301 2304 rfl (fun x_5 hF => ?_)
      refine w_iload X 1 dL_law_2304 rfl 2306 rfl ?_
      refine w_icmp_eq X hF 2311 2309 dL_law_2306 (by decide) rfl (fun hF => ?_) (fun hF => ?_)
      · refine w_iload X 1 dL_law_2311 rfl 2313 rfl ?_
        refine w_if_ne X hF 2328 2316 dL_law_2313 (by decide) rfl (fun hF => ?_) (fun hF => ?_)
        · refine w_aload_n X 3 dL_law_2316 rfl rfl 2317 rfl ?_
          refine w_iconst X 0 dL_law_2317 rfl 2318 rfl ?_
          refine w_lal X 255 lt279_255 ko_W255 (t0 := 5) rfl vin01 dL_law_2318 2319 rfl ?_
          refine w_iload X 0 dL_law_2319 rfl 2321 rfl ?_
          refine w_i2l X dL_law_2321 2322 rfl ?_
          refine w_lcmp X dL_law_2322 2323 rfl ?_
          refine w_if_eq X hF 2328 2326 dL_law_2323 (by decide) rfl (fun hF => ?_) (fun hF => ?_)
          · refine w_goto X 2582 dL_law_2328 (by decide) ?_
            refine w_keep [2, 3, 4, 5, 6] rfl ?_
            have e9 := o_inj hF
            subst e9
            exact kk
          · refine w_iconst X 0 dL_law_2326 rfl 2327 rfl ?_
            exact no_none hF
        · refine w_goto X 2582 dL_law_2328 (by decide) ?_
          refine w_keep [2, 3, 4, 5, 6] rfl ?_
          have e9 := o_inj hF
          subst e9
          exact kk
      · refine w_iconst X 0 dL_law_2309 rfl 2310 rfl ?_
        exact no_none hF
  · refine w_iconst X 1 dL_law_2257 rfl 2258 rfl ?_
    refine w_goto X 2262 dL_law_2258 (by decide) ?_
    refine w_aload_n X 1 dL_law_2262 rfl rfl 2263 rfl ?_
    refine w_wcall X hZ hF [.ref (ad 0), .int (a 1), .int (a 2), .int 1, .ref (ad 255)] rfl kB_L_build kL_L_257 (fun res h => ct_L_build l hl hZ hX hO fu (a 1) (a 2) 1 mem res h) rfl rfl rfl ⟨Nat.le_of_ble_eq_true rfl, Nat.le_of_ble_eq_true rfl⟩ (Nat.le_of_ble_eq_true rfl) hcap dL_law_2263 2266 rfl (fun p_6 hF => ?_)
    refine w_istore X [(5, .int p_6.1), (4, .int x4), (3, .ref (ad 255)), (2, .ref (ad 256)), (1, .ref (ad 0)), (0, .ref b)] dL_law_2266 (by decide) rfl 2268 rfl ?_
    refine w_aload_n X 3 dL_law_2268 rfl rfl 2269 rfl ?_
    refine w_aload_n X 5 dL_law_2269 rfl rfl 2270 rfl ?_
    refine w_iload X 1 dL_law_2270 rfl 2272 rfl ?_
    refine w_iconst X 1 dL_law_2272 rfl 2273 rfl ?_
    refine w_iadd X dL_law_2273 2274 rfl ?_
    refine w_sld X hx hbl hbA h1.1 (a 1) h1.2 dL_law_2274 2275 rfl ?_
    refine w_aload_n X 5 dL_law_2275 rfl rfl 2276 rfl ?_
    refine w_iload X 1 dL_law_2276 rfl 2278 rfl ?_
    refine w_iconst X 2 dL_law_2278 rfl 2279 rfl ?_
    refine w_iadd X dL_law_2279 2280 rfl ?_
    refine w_sld X hx hbl hbA h2.1 (a 2) h2.2 dL_law_2280 2281 rfl ?_
    refine w_aload_n X 5 dL_law_2281 rfl rfl 2282 rfl ?_
    refine w_iload X 1 dL_law_2282 rfl 2284 rfl ?_
    refine w_iconst X 3 dL_law_2284 rfl 2285 rfl ?_
    refine w_iadd X dL_law_2285 2286 rfl ?_
    refine w_sld X hx hbl hbA h3.1 (a 3) h3.2 dL_law_2286 2287 rfl ?_
    refine w_if_eq X hF 2294 2290 dL_law_2287 (by decide) rfl (fun hF => ?_) (fun hF => ?_)
    · refine w_iconst X 0 dL_law_2294 rfl 2295 rfl ?_
      refine w_mcall (fun x => x.1) (fun x => x.2) X hZ hF [.int (a 1), .int (a 2), .int 0] (q := ("PawnRaceModel", TX12, 50)) rfl rfl rfl kB_X12_build kL_L_259 (fun res h => ct_X12_build l hZ fu (a 1) (a 2) 0 (fun j => (mset 0 256 mem p_6.2) (256 + j)) res h) rfl rfl rfl ⟨Nat.le_of_ble_eq_true rfl, Nat.le_of_ble_eq_true rfl⟩ (Nat.le_of_ble_eq_true rfl) hcap dL_law_2295 2298 rfl (fun p_7 hF => ?_)
      refine w_istore X [(6, .int p_7.1), (5, .int p_6.1), (4, .int x4), (3, .ref (ad 255)), (2, .ref (ad 256)), (1, .ref (ad 0)), (0, .ref b)] dL_law_2298 (by decide) rfl 2300 rfl ?_
      refine w_aload_n X 4 dL_law_2300 rfl rfl 2301 rfl ?_
      refine w_mcall (fun x => x) (fun _ => (fun j => (mset 256 23 (mset 0 256 mem p_6.2) p_7.2) (256 + j))) X hZ hF [] (q := ("PawnRaceModel", TX12, 50)) rfl rfl rfl kB_X12_thrown kL_L_134 (fun res h => ct_X12_thrown l hZ fu  (fun j => (mset 256 23 (mset 0 256 mem p_6.2) p_7.2) (256 + j)) res h) rfl rfl rfl ⟨Nat.le_of_ble_eq_true rfl, Nat.le_of_ble_eq_true rfl⟩ (Nat.le_of_ble_eq_true rfl) hcap dL_law_2301 2304 rfl (fun x_8 hF => ?_)
      refine w_iload X 1 dL_law_2304 rfl 2306 rfl ?_
      refine w_icmp_eq X hF 2311 2309 dL_law_2306 (by decide) rfl (fun hF => ?_) (fun hF => ?_)
      · refine w_iload X 1 dL_law_2311 rfl 2313 rfl ?_
        refine w_if_ne X hF 2328 2316 dL_law_2313 (by decide) rfl (fun hF => ?_) (fun hF => ?_)
        · refine w_aload_n X 3 dL_law_2316 rfl rfl 2317 rfl ?_
          refine w_iconst X 0 dL_law_2317 rfl 2318 rfl ?_
          refine w_lal X 255 lt279_255 ko_W255 (t0 := 5) rfl vin01 dL_law_2318 2319 rfl ?_
          refine w_iload X 0 dL_law_2319 rfl 2321 rfl ?_
          refine w_i2l X dL_law_2321 2322 rfl ?_
          refine w_lcmp X dL_law_2322 2323 rfl ?_
          refine w_if_eq X hF 2328 2326 dL_law_2323 (by decide) rfl (fun hF => ?_) (fun hF => ?_)
          · refine w_goto X 2582 dL_law_2328 (by decide) ?_
            refine w_keep [2, 3, 4, 5, 6] rfl ?_
            have e9 := o_inj hF
            subst e9
            exact kk
          · refine w_iconst X 0 dL_law_2326 rfl 2327 rfl ?_
            exact no_none hF
        · refine w_goto X 2582 dL_law_2328 (by decide) ?_
          refine w_keep [2, 3, 4, 5, 6] rfl ?_
          have e9 := o_inj hF
          subst e9
          exact kk
      · refine w_iconst X 0 dL_law_2309 rfl 2310 rfl ?_
        exact no_none hF
    · refine w_iconst X 1 dL_law_2290 rfl 2291 rfl ?_
      refine w_goto X 2295 dL_law_2291 (by decide) ?_
      refine w_mcall (fun x => x.1) (fun x => x.2) X hZ hF [.int (a 1), .int (a 2), .int 1] (q := ("PawnRaceModel", TX12, 50)) rfl rfl rfl kB_X12_build kL_L_259 (fun res h => ct_X12_build l hZ fu (a 1) (a 2) 1 (fun j => (mset 0 256 mem p_6.2) (256 + j)) res h) rfl rfl rfl ⟨Nat.le_of_ble_eq_true rfl, Nat.le_of_ble_eq_true rfl⟩ (Nat.le_of_ble_eq_true rfl) hcap dL_law_2295 2298 rfl (fun p_9 hF => ?_)
      refine w_istore X [(6, .int p_9.1), (5, .int p_6.1), (4, .int x4), (3, .ref (ad 255)), (2, .ref (ad 256)), (1, .ref (ad 0)), (0, .ref b)] dL_law_2298 (by decide) rfl 2300 rfl ?_
      refine w_aload_n X 4 dL_law_2300 rfl rfl 2301 rfl ?_
      refine w_mcall (fun x => x) (fun _ => (fun j => (mset 256 23 (mset 0 256 mem p_6.2) p_9.2) (256 + j))) X hZ hF [] (q := ("PawnRaceModel", TX12, 50)) rfl rfl rfl kB_X12_thrown kL_L_134 (fun res h => ct_X12_thrown l hZ fu  (fun j => (mset 256 23 (mset 0 256 mem p_6.2) p_9.2) (256 + j)) res h) rfl rfl rfl ⟨Nat.le_of_ble_eq_true rfl, Nat.le_of_ble_eq_true rfl⟩ (Nat.le_of_ble_eq_true rfl) hcap dL_law_2301 2304 rfl (fun x_10 hF => ?_)
      refine w_iload X 1 dL_law_2304 rfl 2306 rfl ?_
      refine w_icmp_eq X hF 2311 2309 dL_law_2306 (by decide) rfl (fun hF => ?_) (fun hF => ?_)
      · refine w_iload X 1 dL_law_2311 rfl 2313 rfl ?_
        refine w_if_ne X hF 2328 2316 dL_law_2313 (by decide) rfl (fun hF => ?_) (fun hF => ?_)
        · refine w_aload_n X 3 dL_law_2316 rfl rfl 2317 rfl ?_
          refine w_iconst X 0 dL_law_2317 rfl 2318 rfl ?_
          refine w_lal X 255 lt279_255 ko_W255 (t0 := 5) rfl vin01 dL_law_2318 2319 rfl ?_
          refine w_iload X 0 dL_law_2319 rfl 2321 rfl ?_
          refine w_i2l X dL_law_2321 2322 rfl ?_
          refine w_lcmp X dL_law_2322 2323 rfl ?_
          refine w_if_eq X hF 2328 2326 dL_law_2323 (by decide) rfl (fun hF => ?_) (fun hF => ?_)
          · refine w_goto X 2582 dL_law_2328 (by decide) ?_
            refine w_keep [2, 3, 4, 5, 6] rfl ?_
            have e9 := o_inj hF
            subst e9
            exact kk
          · refine w_iconst X 0 dL_law_2326 rfl 2327 rfl ?_
            exact no_none hF
        · refine w_goto X 2582 dL_law_2328 (by decide) ?_
          refine w_keep [2, 3, 4, 5, 6] rfl ?_
          have e9 := o_inj hF
          subst e9
          exact kk
      · refine w_iconst X 0 dL_law_2309 rfl 2310 rfl ?_
        exact no_none hF

def K_case_37 (fu : Nat) (a : Nat → Int32) (mem : Mem) : Option Mem := bd (K_L_pass fu  mem) (fun p_1 => bd (K_X12_pass fu (fun j => (mset 0 256 mem p_1.2) (256 + j))) (fun p_2 => bd (K_X12_thrown fu (fun j => (mset 256 23 (mset 0 256 mem p_1.2) p_2.2) (256 + j))) (fun x_3 => (if x_3 = p_1.1 then (if p_1.1 = 0 then (if (lg_cmp (rl (mset 256 23 (mset 256 23 (mset 0 256 mem p_1.2) p_2.2) (fun j => (mset 256 23 (mset 0 256 mem p_1.2) p_2.2) (256 + j))) 255 (Int32.toNatClampNeg 0)) (Int32.toInt64 p_2.1)) = 0 then some (mset 256 23 (mset 256 23 (mset 0 256 mem p_1.2) p_2.2) (fun j => (mset 256 23 (mset 0 256 mem p_1.2) p_2.2) (256 + j))) else none) else some (mset 256 23 (mset 256 23 (mset 0 256 mem p_1.2) p_2.2) (fun j => (mset 256 23 (mset 0 256 mem p_1.2) p_2.2) (256 + j)))) else none))))
set_option maxHeartbeats 4000000 in
set_option maxRecDepth 100000 in
theorem lc_37 (hl : l.stackTraces = false) (hZ : ZOK Z) (hX : ZX Z) {tO : Nat} {sK sV : Nat → Nat} (hO : ZO Z tO sK sV) (fu : Nat) (X : CX D (tyL ca) 279 ad Z p s m args meth c cL_law 7 "PawnRaceLaw" ret) {b L : Nat} {xs a : Nat → Int32} {x4 : Int32} (HX : LX b L xs s (AA 279 ad s.heap.size) x4 a) (hcap : cells + 3 ≤ room_1.cells ∧ slots + 18 ≤ room_1.slots) {mem mem2 : Mem} (hF : K_case_37 fu a mem = some mem2) (kk : WW D 279 ad (cW ca ad) p l e room_1 s m args below meth c 7 (cells + 3) (slots + 18) Q mem2 2582 [(4, .int x4), (3, .ref (ad 255)), (2, .ref (ad 256)), (1, .ref (ad 0)), (0, .ref b)] []) : WW D 279 ad (cW ca ad) p l e room_1 s m args below meth c 7 cells slots Q mem 2331 [(4, .int x4), (3, .ref (ad 255)), (2, .ref (ad 256)), (1, .ref (ad 0)), (0, .ref b)] [] := by
  have hcap0 : cells ≤ room_1.cells ∧ slots ≤ room_1.slots := ⟨Nat.le_trans (Nat.le_add_right _ 3) hcap.1, Nat.le_trans (Nat.le_add_right _ 18) hcap.2⟩
  obtain ⟨hx, hbl, hbA, h1, h2, h3, h4, h5⟩ := HX
  rw [K_case_37] at hF
  refine w_aload_n X 3 dL_law_2331 rfl rfl 2332 rfl ?_
  refine w_aload_n X 1 dL_law_2332 rfl rfl 2333 rfl ?_
  refine w_wcall X hZ hF [.ref (ad 0), .ref (ad 255)] rfl kB_L_pass kL_L_260 (fun res h => ct_L_pass l hl hZ hX hO fu  mem res h) rfl rfl rfl ⟨Nat.le_of_ble_eq_true rfl, Nat.le_of_ble_eq_true rfl⟩ (Nat.le_of_ble_eq_true rfl) hcap dL_law_2333 2336 rfl (fun p_1 hF => ?_)
  refine w_istore X [(5, .int p_1.1), (4, .int x4), (3, .ref (ad 255)), (2, .ref (ad 256)), (1, .ref (ad 0)), (0, .ref b)] dL_law_2336 (by decide) rfl 2338 rfl ?_
  refine w_aload_n X 3 dL_law_2338 rfl rfl 2339 rfl ?_
  refine w_mcall (fun x => x.1) (fun x => x.2) X hZ hF [] (q := ("PawnRaceModel", TX12, 50)) rfl rfl rfl kB_X12_pass kL_L_262 (fun res h => ct_X12_pass l hZ fu  (fun j => (mset 0 256 mem p_1.2) (256 + j)) res h) rfl rfl rfl ⟨Nat.le_of_ble_eq_true rfl, Nat.le_of_ble_eq_true rfl⟩ (Nat.le_of_ble_eq_true rfl) hcap dL_law_2339 2342 rfl (fun p_2 hF => ?_)
  refine w_istore X [(6, .int p_2.1), (5, .int p_1.1), (4, .int x4), (3, .ref (ad 255)), (2, .ref (ad 256)), (1, .ref (ad 0)), (0, .ref b)] dL_law_2342 (by decide) rfl 2344 rfl ?_
  refine w_aload_n X 4 dL_law_2344 rfl rfl 2345 rfl ?_
  refine w_mcall (fun x => x) (fun _ => (fun j => (mset 256 23 (mset 0 256 mem p_1.2) p_2.2) (256 + j))) X hZ hF [] (q := ("PawnRaceModel", TX12, 50)) rfl rfl rfl kB_X12_thrown kL_L_134 (fun res h => ct_X12_thrown l hZ fu  (fun j => (mset 256 23 (mset 0 256 mem p_1.2) p_2.2) (256 + j)) res h) rfl rfl rfl ⟨Nat.le_of_ble_eq_true rfl, Nat.le_of_ble_eq_true rfl⟩ (Nat.le_of_ble_eq_true rfl) hcap dL_law_2345 2348 rfl (fun x_3 hF => ?_)
  refine w_iload X 1 dL_law_2348 rfl 2350 rfl ?_
  refine w_icmp_eq X hF 2355 2353 dL_law_2350 (by decide) rfl (fun hF => ?_) (fun hF => ?_)
  · refine w_iload X 1 dL_law_2355 rfl 2357 rfl ?_
    refine w_if_ne X hF 2372 2360 dL_law_2357 (by decide) rfl (fun hF => ?_) (fun hF => ?_)
    · refine w_aload_n X 3 dL_law_2360 rfl rfl 2361 rfl ?_
      refine w_iconst X 0 dL_law_2361 rfl 2362 rfl ?_
      refine w_lal X 255 lt279_255 ko_W255 (t0 := 5) rfl vin01 dL_law_2362 2363 rfl ?_
      refine w_iload X 0 dL_law_2363 rfl 2365 rfl ?_
      refine w_i2l X dL_law_2365 2366 rfl ?_
      refine w_lcmp X dL_law_2366 2367 rfl ?_
      refine w_if_eq X hF 2372 2370 dL_law_2367 (by decide) rfl (fun hF => ?_) (fun hF => ?_)
      · refine w_goto X 2582 dL_law_2372 (by decide) ?_
        refine w_keep [2, 3, 4, 5, 6] rfl ?_
        have e9 := o_inj hF
        subst e9
        exact kk
      · refine w_iconst X 0 dL_law_2370 rfl 2371 rfl ?_
        exact no_none hF
    · refine w_goto X 2582 dL_law_2372 (by decide) ?_
      refine w_keep [2, 3, 4, 5, 6] rfl ?_
      have e9 := o_inj hF
      subst e9
      exact kk
  · refine w_iconst X 0 dL_law_2353 rfl 2354 rfl ?_
    exact no_none hF

def K_case_38 (fu : Nat) (a : Nat → Int32) (mem : Mem) : Option Mem := bd (K_L_play fu (a 1) (a 2) mem) (fun p_1 => bd (K_X12_play fu (a 1) (a 2) (fun j => (mset 0 256 mem p_1.2) (256 + j))) (fun p_2 => bd (K_X12_thrown fu (fun j => (mset 256 23 (mset 0 256 mem p_1.2) p_2.2) (256 + j))) (fun x_3 => (if x_3 = p_1.1 then (if p_1.1 = 0 then (if (lg_cmp (rl (mset 256 23 (mset 256 23 (mset 0 256 mem p_1.2) p_2.2) (fun j => (mset 256 23 (mset 0 256 mem p_1.2) p_2.2) (256 + j))) 255 (Int32.toNatClampNeg 0)) (Int32.toInt64 p_2.1)) = 0 then some (mset 256 23 (mset 256 23 (mset 0 256 mem p_1.2) p_2.2) (fun j => (mset 256 23 (mset 0 256 mem p_1.2) p_2.2) (256 + j))) else none) else some (mset 256 23 (mset 256 23 (mset 0 256 mem p_1.2) p_2.2) (fun j => (mset 256 23 (mset 0 256 mem p_1.2) p_2.2) (256 + j)))) else none))))
set_option maxHeartbeats 4000000 in
set_option maxRecDepth 100000 in
theorem lc_38 (hl : l.stackTraces = false) (hZ : ZOK Z) (hX : ZX Z) {tO : Nat} {sK sV : Nat → Nat} (hO : ZO Z tO sK sV) (fu : Nat) (X : CX D (tyL ca) 279 ad Z p s m args meth c cL_law 7 "PawnRaceLaw" ret) {b L : Nat} {xs a : Nat → Int32} {x4 : Int32} (HX : LX b L xs s (AA 279 ad s.heap.size) x4 a) (hcap : cells + 3 ≤ room_1.cells ∧ slots + 18 ≤ room_1.slots) {mem mem2 : Mem} (hF : K_case_38 fu a mem = some mem2) (kk : WW D 279 ad (cW ca ad) p l e room_1 s m args below meth c 7 (cells + 3) (slots + 18) Q mem2 2582 [(4, .int x4), (3, .ref (ad 255)), (2, .ref (ad 256)), (1, .ref (ad 0)), (0, .ref b)] []) : WW D 279 ad (cW ca ad) p l e room_1 s m args below meth c 7 cells slots Q mem 2375 [(4, .int x4), (3, .ref (ad 255)), (2, .ref (ad 256)), (1, .ref (ad 0)), (0, .ref b)] [] := by
  have hcap0 : cells ≤ room_1.cells ∧ slots ≤ room_1.slots := ⟨Nat.le_trans (Nat.le_add_right _ 3) hcap.1, Nat.le_trans (Nat.le_add_right _ 18) hcap.2⟩
  obtain ⟨hx, hbl, hbA, h1, h2, h3, h4, h5⟩ := HX
  rw [K_case_38] at hF
  refine w_aload_n X 3 dL_law_2375 rfl rfl 2376 rfl ?_
  refine w_aload_n X 4 dL_law_2376 rfl rfl 2377 rfl ?_
  refine w_iload X 0 dL_law_2377 rfl 2379 rfl ?_
  refine w_iconst X 1 dL_law_2379 rfl 2380 rfl ?_
  refine w_iadd X dL_law_2380 2381 rfl ?_
  refine w_sld X hx hbl hbA h1.1 (a 1) h1.2 dL_law_2381 2382 rfl ?_
  refine w_aload_n X 4 dL_law_2382 rfl rfl 2383 rfl ?_
  refine w_iload X 0 dL_law_2383 rfl 2385 rfl ?_
  refine w_iconst X 2 dL_law_2385 rfl 2386 rfl ?_
  refine w_iadd X dL_law_2386 2387 rfl ?_
  refine w_sld X hx hbl hbA h2.1 (a 2) h2.2 dL_law_2387 2388 rfl ?_
  refine w_aload_n X 1 dL_law_2388 rfl rfl 2389 rfl ?_
  refine w_wcall X hZ hF [.ref (ad 0), .int (a 1), .int (a 2), .ref (ad 255)] rfl kB_L_play kL_L_263 (fun res h => ct_L_play l hl hZ hX hO fu (a 1) (a 2) mem res h) rfl rfl rfl ⟨Nat.le_of_ble_eq_true rfl, Nat.le_of_ble_eq_true rfl⟩ (Nat.le_of_ble_eq_true rfl) hcap dL_law_2389 2392 rfl (fun p_1 hF => ?_)
  refine w_istore X [(5, .int p_1.1), (4, .int x4), (3, .ref (ad 255)), (2, .ref (ad 256)), (1, .ref (ad 0)), (0, .ref b)] dL_law_2392 (by decide) rfl 2394 rfl ?_
  refine w_aload_n X 3 dL_law_2394 rfl rfl 2395 rfl ?_
  refine w_aload_n X 5 dL_law_2395 rfl rfl 2396 rfl ?_
  refine w_iload X 1 dL_law_2396 rfl 2398 rfl ?_
  refine w_iconst X 1 dL_law_2398 rfl 2399 rfl ?_
  refine w_iadd X dL_law_2399 2400 rfl ?_
  refine w_sld X hx hbl hbA h1.1 (a 1) h1.2 dL_law_2400 2401 rfl ?_
  refine w_aload_n X 5 dL_law_2401 rfl rfl 2402 rfl ?_
  refine w_iload X 1 dL_law_2402 rfl 2404 rfl ?_
  refine w_iconst X 2 dL_law_2404 rfl 2405 rfl ?_
  refine w_iadd X dL_law_2405 2406 rfl ?_
  refine w_sld X hx hbl hbA h2.1 (a 2) h2.2 dL_law_2406 2407 rfl ?_
  refine w_mcall (fun x => x.1) (fun x => x.2) X hZ hF [.int (a 1), .int (a 2)] (q := ("PawnRaceModel", TX12, 50)) rfl rfl rfl kB_X12_play kL_L_265 (fun res h => ct_X12_play l hZ fu (a 1) (a 2) (fun j => (mset 0 256 mem p_1.2) (256 + j)) res h) rfl rfl rfl ⟨Nat.le_of_ble_eq_true rfl, Nat.le_of_ble_eq_true rfl⟩ (Nat.le_of_ble_eq_true rfl) hcap dL_law_2407 2410 rfl (fun p_2 hF => ?_)
  refine w_istore X [(6, .int p_2.1), (5, .int p_1.1), (4, .int x4), (3, .ref (ad 255)), (2, .ref (ad 256)), (1, .ref (ad 0)), (0, .ref b)] dL_law_2410 (by decide) rfl 2412 rfl ?_
  refine w_aload_n X 4 dL_law_2412 rfl rfl 2413 rfl ?_
  refine w_mcall (fun x => x) (fun _ => (fun j => (mset 256 23 (mset 0 256 mem p_1.2) p_2.2) (256 + j))) X hZ hF [] (q := ("PawnRaceModel", TX12, 50)) rfl rfl rfl kB_X12_thrown kL_L_134 (fun res h => ct_X12_thrown l hZ fu  (fun j => (mset 256 23 (mset 0 256 mem p_1.2) p_2.2) (256 + j)) res h) rfl rfl rfl ⟨Nat.le_of_ble_eq_true rfl, Nat.le_of_ble_eq_true rfl⟩ (Nat.le_of_ble_eq_true rfl) hcap dL_law_2413 2416 rfl (fun x_3 hF => ?_)
  refine w_iload X 1 dL_law_2416 rfl 2418 rfl ?_
  refine w_icmp_eq X hF 2423 2421 dL_law_2418 (by decide) rfl (fun hF => ?_) (fun hF => ?_)
  · refine w_iload X 1 dL_law_2423 rfl 2425 rfl ?_
    refine w_if_ne X hF 2440 2428 dL_law_2425 (by decide) rfl (fun hF => ?_) (fun hF => ?_)
    · refine w_aload_n X 3 dL_law_2428 rfl rfl 2429 rfl ?_
      refine w_iconst X 0 dL_law_2429 rfl 2430 rfl ?_
      refine w_lal X 255 lt279_255 ko_W255 (t0 := 5) rfl vin01 dL_law_2430 2431 rfl ?_
      refine w_iload X 0 dL_law_2431 rfl 2433 rfl ?_
      refine w_i2l X dL_law_2433 2434 rfl ?_
      refine w_lcmp X dL_law_2434 2435 rfl ?_
      refine w_if_eq X hF 2440 2438 dL_law_2435 (by decide) rfl (fun hF => ?_) (fun hF => ?_)
      · refine w_goto X 2582 dL_law_2440 (by decide) ?_
        refine w_keep [2, 3, 4, 5, 6] rfl ?_
        have e9 := o_inj hF
        subst e9
        exact kk
      · refine w_iconst X 0 dL_law_2438 rfl 2439 rfl ?_
        exact no_none hF
    · refine w_goto X 2582 dL_law_2440 (by decide) ?_
      refine w_keep [2, 3, 4, 5, 6] rfl ?_
      have e9 := o_inj hF
      subst e9
      exact kk
  · refine w_iconst X 0 dL_law_2421 rfl 2422 rfl ?_
    exact no_none hF

def K_case_39 (fu : Nat) (a : Nat → Int32) (mem : Mem) : Option Mem := bd (K_X11_report fu mem) (fun p_1 => bd (K_X12_report fu (fun j => (mset 0 255 mem p_1.2) (256 + j))) (fun p_2 => (if p_1.1 = p_2.1 then some (mset 256 23 (mset 0 255 mem p_1.2) p_2.2) else none)))
set_option maxHeartbeats 4000000 in
set_option maxRecDepth 100000 in
theorem lc_39 (hl : l.stackTraces = false) (hZ : ZOK Z) (hX : ZX Z) {tO : Nat} {sK sV : Nat → Nat} (hO : ZO Z tO sK sV) (fu : Nat) (X : CX D (tyL ca) 279 ad Z p s m args meth c cL_law 7 "PawnRaceLaw" ret) {b L : Nat} {xs a : Nat → Int32} {x4 : Int32} (HX : LX b L xs s (AA 279 ad s.heap.size) x4 a) (hcap : cells + 3 ≤ room_1.cells ∧ slots + 18 ≤ room_1.slots) {mem mem2 : Mem} (hF : K_case_39 fu a mem = some mem2) (kk : WW D 279 ad (cW ca ad) p l e room_1 s m args below meth c 7 (cells + 3) (slots + 18) Q mem2 2582 [(4, .int x4), (3, .ref (ad 255)), (2, .ref (ad 256)), (1, .ref (ad 0)), (0, .ref b)] []) : WW D 279 ad (cW ca ad) p l e room_1 s m args below meth c 7 cells slots Q mem 2443 [(4, .int x4), (3, .ref (ad 255)), (2, .ref (ad 256)), (1, .ref (ad 0)), (0, .ref b)] [] := by
  have hcap0 : cells ≤ room_1.cells ∧ slots ≤ room_1.slots := ⟨Nat.le_trans (Nat.le_add_right _ 3) hcap.1, Nat.le_trans (Nat.le_add_right _ 18) hcap.2⟩
  obtain ⟨hx, hbl, hbA, h1, h2, h3, h4, h5⟩ := HX
  rw [K_case_39] at hF
  refine w_aload_n X 3 dL_law_2443 rfl rfl 2444 rfl ?_
  refine w_ccall (fun x => x.1) (fun x => x.2) X hZ hF [] (q := ("PawnRace", TX11, 14)) rfl rfl rfl kB_X11_report kL_L_266 (fun res h => ct_X11_report l hZ hO fu  mem res h) rfl rfl rfl ⟨Nat.le_of_ble_eq_true rfl, Nat.le_of_ble_eq_true rfl⟩ (Nat.le_of_ble_eq_true rfl) hcap0 dL_law_2444 2447 rfl (fun p_1 hF => ?_)
  refine w_aload_n X 2 dL_law_2447 rfl rfl 2448 rfl ?_
  refine w_mcall (fun x => x.1) (fun x => x.2) X hZ hF [] (q := ("PawnRaceModel", TX12, 50)) rfl rfl rfl kB_X12_report kL_L_269 (fun res h => ct_X12_report l hZ fu  (fun j => (mset 0 255 mem p_1.2) (256 + j)) res h) rfl rfl rfl ⟨Nat.le_of_ble_eq_true rfl, Nat.le_of_ble_eq_true rfl⟩ (Nat.le_of_ble_eq_true rfl) hcap0 dL_law_2448 2451 rfl (fun p_2 hF => ?_)
  refine w_icmp_eq X hF 2582 2454 dL_law_2451 (by decide) rfl (fun hF => ?_) (fun hF => ?_)
  · refine w_keep [0, 1, 2, 3, 4] rfl ?_
    refine w_widen (Nat.le_add_right _ 3) (Nat.le_add_right _ 18) ?_
    have e9 := o_inj hF
    subst e9
    exact kk
  · refine w_iconst X 0 dL_law_2454 rfl 2455 rfl ?_
    exact no_none hF

def K_case_40 (fu : Nat) (a : Nat → Int32) (mem : Mem) : Option Mem := bd (K_L_reportByte fu (a 1) mem) (fun p_1 => bd (K_X12_reportByte fu (a 1) (fun j => (mset 0 256 mem p_1.2) (256 + j))) (fun p_2 => bd (K_X12_thrown fu (fun j => (mset 256 23 (mset 0 256 mem p_1.2) p_2.2) (256 + j))) (fun x_3 => (if x_3 = p_1.1 then (if p_1.1 = 0 then (if (lg_cmp (rl (mset 256 23 (mset 256 23 (mset 0 256 mem p_1.2) p_2.2) (fun j => (mset 256 23 (mset 0 256 mem p_1.2) p_2.2) (256 + j))) 255 (Int32.toNatClampNeg 0)) (Int32.toInt64 p_2.1)) = 0 then some (mset 256 23 (mset 256 23 (mset 0 256 mem p_1.2) p_2.2) (fun j => (mset 256 23 (mset 0 256 mem p_1.2) p_2.2) (256 + j))) else none) else some (mset 256 23 (mset 256 23 (mset 0 256 mem p_1.2) p_2.2) (fun j => (mset 256 23 (mset 0 256 mem p_1.2) p_2.2) (256 + j)))) else none))))
set_option maxHeartbeats 4000000 in
set_option maxRecDepth 100000 in
theorem lc_40 (hl : l.stackTraces = false) (hZ : ZOK Z) (hX : ZX Z) {tO : Nat} {sK sV : Nat → Nat} (hO : ZO Z tO sK sV) (fu : Nat) (X : CX D (tyL ca) 279 ad Z p s m args meth c cL_law 7 "PawnRaceLaw" ret) {b L : Nat} {xs a : Nat → Int32} {x4 : Int32} (HX : LX b L xs s (AA 279 ad s.heap.size) x4 a) (hcap : cells + 3 ≤ room_1.cells ∧ slots + 18 ≤ room_1.slots) {mem mem2 : Mem} (hF : K_case_40 fu a mem = some mem2) (kk : WW D 279 ad (cW ca ad) p l e room_1 s m args below meth c 7 (cells + 3) (slots + 18) Q mem2 2582 [(4, .int x4), (3, .ref (ad 255)), (2, .ref (ad 256)), (1, .ref (ad 0)), (0, .ref b)] []) : WW D 279 ad (cW ca ad) p l e room_1 s m args below meth c 7 cells slots Q mem 2456 [(4, .int x4), (3, .ref (ad 255)), (2, .ref (ad 256)), (1, .ref (ad 0)), (0, .ref b)] [] := by
  have hcap0 : cells ≤ room_1.cells ∧ slots ≤ room_1.slots := ⟨Nat.le_trans (Nat.le_add_right _ 3) hcap.1, Nat.le_trans (Nat.le_add_right _ 18) hcap.2⟩
  obtain ⟨hx, hbl, hbA, h1, h2, h3, h4, h5⟩ := HX
  rw [K_case_40] at hF
  refine w_aload_n X 3 dL_law_2456 rfl rfl 2457 rfl ?_
  refine w_aload_n X 4 dL_law_2457 rfl rfl 2458 rfl ?_
  refine w_iload X 0 dL_law_2458 rfl 2460 rfl ?_
  refine w_iconst X 1 dL_law_2460 rfl 2461 rfl ?_
  refine w_iadd X dL_law_2461 2462 rfl ?_
  refine w_sld X hx hbl hbA h1.1 (a 1) h1.2 dL_law_2462 2463 rfl ?_
  refine w_aload_n X 1 dL_law_2463 rfl rfl 2464 rfl ?_
  refine w_wcall X hZ hF [.ref (ad 0), .int (a 1), .ref (ad 255)] rfl kB_L_reportByte kL_L_270 (fun res h => ct_L_reportByte l hl hZ hX hO fu (a 1) mem res h) rfl rfl rfl ⟨Nat.le_of_ble_eq_true rfl, Nat.le_of_ble_eq_true rfl⟩ (Nat.le_of_ble_eq_true rfl) hcap dL_law_2464 2467 rfl (fun p_1 hF => ?_)
  refine w_istore X [(5, .int p_1.1), (4, .int x4), (3, .ref (ad 255)), (2, .ref (ad 256)), (1, .ref (ad 0)), (0, .ref b)] dL_law_2467 (by decide) rfl 2469 rfl ?_
  refine w_aload_n X 3 dL_law_2469 rfl rfl 2470 rfl ?_
  refine w_aload_n X 5 dL_law_2470 rfl rfl 2471 rfl ?_
  refine w_iload X 1 dL_law_2471 rfl 2473 rfl ?_
  refine w_iconst X 1 dL_law_2473 rfl 2474 rfl ?_
  refine w_iadd X dL_law_2474 2475 rfl ?_
  refine w_sld X hx hbl hbA h1.1 (a 1) h1.2 dL_law_2475 2476 rfl ?_
  refine w_mcall (fun x => x.1) (fun x => x.2) X hZ hF [.int (a 1)] (q := ("PawnRaceModel", TX12, 50)) rfl rfl rfl kB_X12_reportByte kL_L_272 (fun res h => ct_X12_reportByte l hZ fu (a 1) (fun j => (mset 0 256 mem p_1.2) (256 + j)) res h) rfl rfl rfl ⟨Nat.le_of_ble_eq_true rfl, Nat.le_of_ble_eq_true rfl⟩ (Nat.le_of_ble_eq_true rfl) hcap dL_law_2476 2479 rfl (fun p_2 hF => ?_)
  refine w_istore X [(6, .int p_2.1), (5, .int p_1.1), (4, .int x4), (3, .ref (ad 255)), (2, .ref (ad 256)), (1, .ref (ad 0)), (0, .ref b)] dL_law_2479 (by decide) rfl 2481 rfl ?_
  refine w_aload_n X 4 dL_law_2481 rfl rfl 2482 rfl ?_
  refine w_mcall (fun x => x) (fun _ => (fun j => (mset 256 23 (mset 0 256 mem p_1.2) p_2.2) (256 + j))) X hZ hF [] (q := ("PawnRaceModel", TX12, 50)) rfl rfl rfl kB_X12_thrown kL_L_134 (fun res h => ct_X12_thrown l hZ fu  (fun j => (mset 256 23 (mset 0 256 mem p_1.2) p_2.2) (256 + j)) res h) rfl rfl rfl ⟨Nat.le_of_ble_eq_true rfl, Nat.le_of_ble_eq_true rfl⟩ (Nat.le_of_ble_eq_true rfl) hcap dL_law_2482 2485 rfl (fun x_3 hF => ?_)
  refine w_iload X 1 dL_law_2485 rfl 2487 rfl ?_
  refine w_icmp_eq X hF 2492 2490 dL_law_2487 (by decide) rfl (fun hF => ?_) (fun hF => ?_)
  · refine w_iload X 1 dL_law_2492 rfl 2494 rfl ?_
    refine w_if_ne X hF 2509 2497 dL_law_2494 (by decide) rfl (fun hF => ?_) (fun hF => ?_)
    · refine w_aload_n X 3 dL_law_2497 rfl rfl 2498 rfl ?_
      refine w_iconst X 0 dL_law_2498 rfl 2499 rfl ?_
      refine w_lal X 255 lt279_255 ko_W255 (t0 := 5) rfl vin01 dL_law_2499 2500 rfl ?_
      refine w_iload X 0 dL_law_2500 rfl 2502 rfl ?_
      refine w_i2l X dL_law_2502 2503 rfl ?_
      refine w_lcmp X dL_law_2503 2504 rfl ?_
      refine w_if_eq X hF 2509 2507 dL_law_2504 (by decide) rfl (fun hF => ?_) (fun hF => ?_)
      · refine w_goto X 2582 dL_law_2509 (by decide) ?_
        refine w_keep [2, 3, 4, 5, 6] rfl ?_
        have e9 := o_inj hF
        subst e9
        exact kk
      · refine w_iconst X 0 dL_law_2507 rfl 2508 rfl ?_
        exact no_none hF
    · refine w_goto X 2582 dL_law_2509 (by decide) ?_
      refine w_keep [2, 3, 4, 5, 6] rfl ?_
      have e9 := o_inj hF
      subst e9
      exact kk
  · refine w_iconst X 0 dL_law_2490 rfl 2491 rfl ?_
    exact no_none hF

def K_case_41 (fu : Nat) (a : Nat → Int32) (mem : Mem) : Option Mem := bd (K_X11_undo fu mem) (fun p_1 => bd (K_X12_undo fu (fun j => (mset 0 255 mem p_1.2) (256 + j))) (fun p_2 => (if p_1.1 = p_2.1 then some (mset 256 23 (mset 0 255 mem p_1.2) p_2.2) else none)))
set_option maxHeartbeats 4000000 in
set_option maxRecDepth 100000 in
theorem lc_41 (hl : l.stackTraces = false) (hZ : ZOK Z) (hX : ZX Z) {tO : Nat} {sK sV : Nat → Nat} (hO : ZO Z tO sK sV) (fu : Nat) (X : CX D (tyL ca) 279 ad Z p s m args meth c cL_law 7 "PawnRaceLaw" ret) {b L : Nat} {xs a : Nat → Int32} {x4 : Int32} (HX : LX b L xs s (AA 279 ad s.heap.size) x4 a) (hcap : cells + 3 ≤ room_1.cells ∧ slots + 18 ≤ room_1.slots) {mem mem2 : Mem} (hF : K_case_41 fu a mem = some mem2) (kk : WW D 279 ad (cW ca ad) p l e room_1 s m args below meth c 7 (cells + 3) (slots + 18) Q mem2 2582 [(4, .int x4), (3, .ref (ad 255)), (2, .ref (ad 256)), (1, .ref (ad 0)), (0, .ref b)] []) : WW D 279 ad (cW ca ad) p l e room_1 s m args below meth c 7 cells slots Q mem 2512 [(4, .int x4), (3, .ref (ad 255)), (2, .ref (ad 256)), (1, .ref (ad 0)), (0, .ref b)] [] := by
  have hcap0 : cells ≤ room_1.cells ∧ slots ≤ room_1.slots := ⟨Nat.le_trans (Nat.le_add_right _ 3) hcap.1, Nat.le_trans (Nat.le_add_right _ 18) hcap.2⟩
  obtain ⟨hx, hbl, hbA, h1, h2, h3, h4, h5⟩ := HX
  rw [K_case_41] at hF
  refine w_aload_n X 3 dL_law_2512 rfl rfl 2513 rfl ?_
  refine w_ccall (fun x => x.1) (fun x => x.2) X hZ hF [] (q := ("PawnRace", TX11, 14)) rfl rfl rfl kB_X11_undo kL_L_273 (fun res h => ct_X11_undo l hZ hO fu  mem res h) rfl rfl rfl ⟨Nat.le_of_ble_eq_true rfl, Nat.le_of_ble_eq_true rfl⟩ (Nat.le_of_ble_eq_true rfl) hcap0 dL_law_2513 2516 rfl (fun p_1 hF => ?_)
  refine w_aload_n X 2 dL_law_2516 rfl rfl 2517 rfl ?_
  refine w_mcall (fun x => x.1) (fun x => x.2) X hZ hF [] (q := ("PawnRaceModel", TX12, 50)) rfl rfl rfl kB_X12_undo kL_L_276 (fun res h => ct_X12_undo l hZ fu  (fun j => (mset 0 255 mem p_1.2) (256 + j)) res h) rfl rfl rfl ⟨Nat.le_of_ble_eq_true rfl, Nat.le_of_ble_eq_true rfl⟩ (Nat.le_of_ble_eq_true rfl) hcap0 dL_law_2517 2520 rfl (fun p_2 hF => ?_)
  refine w_icmp_eq X hF 2582 2523 dL_law_2520 (by decide) rfl (fun hF => ?_) (fun hF => ?_)
  · refine w_keep [0, 1, 2, 3, 4] rfl ?_
    refine w_widen (Nat.le_add_right _ 3) (Nat.le_add_right _ 18) ?_
    have e9 := o_inj hF
    subst e9
    exact kk
  · refine w_iconst X 0 dL_law_2523 rfl 2524 rfl ?_
    exact no_none hF

def K_case_42 (fu : Nat) (a : Nat → Int32) (mem : Mem) : Option Mem := bd (K_X11_save fu mem) (fun p_1 => bd (K_X12_save fu (fun j => (mset 0 255 mem p_1.2) (256 + j))) (fun p_2 => (if p_1.1 = p_2.1 then some (mset 256 23 (mset 0 255 mem p_1.2) p_2.2) else none)))
set_option maxHeartbeats 4000000 in
set_option maxRecDepth 100000 in
theorem lc_42 (hl : l.stackTraces = false) (hZ : ZOK Z) (hX : ZX Z) {tO : Nat} {sK sV : Nat → Nat} (hO : ZO Z tO sK sV) (fu : Nat) (X : CX D (tyL ca) 279 ad Z p s m args meth c cL_law 7 "PawnRaceLaw" ret) {b L : Nat} {xs a : Nat → Int32} {x4 : Int32} (HX : LX b L xs s (AA 279 ad s.heap.size) x4 a) (hcap : cells + 3 ≤ room_1.cells ∧ slots + 18 ≤ room_1.slots) {mem mem2 : Mem} (hF : K_case_42 fu a mem = some mem2) (kk : WW D 279 ad (cW ca ad) p l e room_1 s m args below meth c 7 (cells + 3) (slots + 18) Q mem2 2582 [(4, .int x4), (3, .ref (ad 255)), (2, .ref (ad 256)), (1, .ref (ad 0)), (0, .ref b)] []) : WW D 279 ad (cW ca ad) p l e room_1 s m args below meth c 7 cells slots Q mem 2525 [(4, .int x4), (3, .ref (ad 255)), (2, .ref (ad 256)), (1, .ref (ad 0)), (0, .ref b)] [] := by
  have hcap0 : cells ≤ room_1.cells ∧ slots ≤ room_1.slots := ⟨Nat.le_trans (Nat.le_add_right _ 3) hcap.1, Nat.le_trans (Nat.le_add_right _ 18) hcap.2⟩
  obtain ⟨hx, hbl, hbA, h1, h2, h3, h4, h5⟩ := HX
  rw [K_case_42] at hF
  refine w_aload_n X 3 dL_law_2525 rfl rfl 2526 rfl ?_
  refine w_ccall (fun x => x.1) (fun x => x.2) X hZ hF [] (q := ("PawnRace", TX11, 14)) rfl rfl rfl kB_X11_save kL_L_277 (fun res h => ct_X11_save l hZ hO fu  mem res h) rfl rfl rfl ⟨Nat.le_of_ble_eq_true rfl, Nat.le_of_ble_eq_true rfl⟩ (Nat.le_of_ble_eq_true rfl) hcap0 dL_law_2526 2529 rfl (fun p_1 hF => ?_)
  refine w_aload_n X 2 dL_law_2529 rfl rfl 2530 rfl ?_
  refine w_mcall (fun x => x.1) (fun x => x.2) X hZ hF [] (q := ("PawnRaceModel", TX12, 50)) rfl rfl rfl kB_X12_save kL_L_280 (fun res h => ct_X12_save l hZ fu  (fun j => (mset 0 255 mem p_1.2) (256 + j)) res h) rfl rfl rfl ⟨Nat.le_of_ble_eq_true rfl, Nat.le_of_ble_eq_true rfl⟩ (Nat.le_of_ble_eq_true rfl) hcap0 dL_law_2530 2533 rfl (fun p_2 hF => ?_)
  refine w_icmp_eq X hF 2582 2536 dL_law_2533 (by decide) rfl (fun hF => ?_) (fun hF => ?_)
  · refine w_keep [0, 1, 2, 3, 4] rfl ?_
    refine w_widen (Nat.le_add_right _ 3) (Nat.le_add_right _ 18) ?_
    have e9 := o_inj hF
    subst e9
    exact kk
  · refine w_iconst X 0 dL_law_2536 rfl 2537 rfl ?_
    exact no_none hF

def K_case_43 (fu : Nat) (a : Nat → Int32) (mem : Mem) : Option Mem := bd (K_L_restore fu  mem) (fun p_1 => bd (K_X12_restore fu (fun j => (mset 0 256 mem p_1.2) (256 + j))) (fun p_2 => bd (K_X12_thrown fu (fun j => (mset 256 23 (mset 0 256 mem p_1.2) p_2.2) (256 + j))) (fun x_3 => (if x_3 = p_1.1 then (if p_1.1 = 0 then (if (lg_cmp (rl (mset 256 23 (mset 256 23 (mset 0 256 mem p_1.2) p_2.2) (fun j => (mset 256 23 (mset 0 256 mem p_1.2) p_2.2) (256 + j))) 255 (Int32.toNatClampNeg 0)) (Int32.toInt64 p_2.1)) = 0 then some (mset 256 23 (mset 256 23 (mset 0 256 mem p_1.2) p_2.2) (fun j => (mset 256 23 (mset 0 256 mem p_1.2) p_2.2) (256 + j))) else none) else some (mset 256 23 (mset 256 23 (mset 0 256 mem p_1.2) p_2.2) (fun j => (mset 256 23 (mset 0 256 mem p_1.2) p_2.2) (256 + j)))) else none))))
set_option maxHeartbeats 4000000 in
set_option maxRecDepth 100000 in
theorem lc_43 (hl : l.stackTraces = false) (hZ : ZOK Z) (hX : ZX Z) {tO : Nat} {sK sV : Nat → Nat} (hO : ZO Z tO sK sV) (fu : Nat) (X : CX D (tyL ca) 279 ad Z p s m args meth c cL_law 7 "PawnRaceLaw" ret) {b L : Nat} {xs a : Nat → Int32} {x4 : Int32} (HX : LX b L xs s (AA 279 ad s.heap.size) x4 a) (hcap : cells + 3 ≤ room_1.cells ∧ slots + 18 ≤ room_1.slots) {mem mem2 : Mem} (hF : K_case_43 fu a mem = some mem2) (kk : WW D 279 ad (cW ca ad) p l e room_1 s m args below meth c 7 (cells + 3) (slots + 18) Q mem2 2582 [(4, .int x4), (3, .ref (ad 255)), (2, .ref (ad 256)), (1, .ref (ad 0)), (0, .ref b)] []) : WW D 279 ad (cW ca ad) p l e room_1 s m args below meth c 7 cells slots Q mem 2538 [(4, .int x4), (3, .ref (ad 255)), (2, .ref (ad 256)), (1, .ref (ad 0)), (0, .ref b)] [] := by
  have hcap0 : cells ≤ room_1.cells ∧ slots ≤ room_1.slots := ⟨Nat.le_trans (Nat.le_add_right _ 3) hcap.1, Nat.le_trans (Nat.le_add_right _ 18) hcap.2⟩
  obtain ⟨hx, hbl, hbA, h1, h2, h3, h4, h5⟩ := HX
  rw [K_case_43] at hF
  refine w_aload_n X 3 dL_law_2538 rfl rfl 2539 rfl ?_
  refine w_aload_n X 1 dL_law_2539 rfl rfl 2540 rfl ?_
  refine w_wcall X hZ hF [.ref (ad 0), .ref (ad 255)] rfl kB_L_restore kL_L_281 (fun res h => ct_L_restore l hl hZ hX hO fu  mem res h) rfl rfl rfl ⟨Nat.le_of_ble_eq_true rfl, Nat.le_of_ble_eq_true rfl⟩ (Nat.le_of_ble_eq_true rfl) hcap dL_law_2540 2543 rfl (fun p_1 hF => ?_)
  refine w_istore X [(5, .int p_1.1), (4, .int x4), (3, .ref (ad 255)), (2, .ref (ad 256)), (1, .ref (ad 0)), (0, .ref b)] dL_law_2543 (by decide) rfl 2545 rfl ?_
  refine w_aload_n X 3 dL_law_2545 rfl rfl 2546 rfl ?_
  refine w_mcall (fun x => x.1) (fun x => x.2) X hZ hF [] (q := ("PawnRaceModel", TX12, 50)) rfl rfl rfl kB_X12_restore kL_L_283 (fun res h => ct_X12_restore l hZ fu  (fun j => (mset 0 256 mem p_1.2) (256 + j)) res h) rfl rfl rfl ⟨Nat.le_of_ble_eq_true rfl, Nat.le_of_ble_eq_true rfl⟩ (Nat.le_of_ble_eq_true rfl) hcap dL_law_2546 2549 rfl (fun p_2 hF => ?_)
  refine w_istore X [(6, .int p_2.1), (5, .int p_1.1), (4, .int x4), (3, .ref (ad 255)), (2, .ref (ad 256)), (1, .ref (ad 0)), (0, .ref b)] dL_law_2549 (by decide) rfl 2551 rfl ?_
  refine w_aload_n X 4 dL_law_2551 rfl rfl 2552 rfl ?_
  refine w_mcall (fun x => x) (fun _ => (fun j => (mset 256 23 (mset 0 256 mem p_1.2) p_2.2) (256 + j))) X hZ hF [] (q := ("PawnRaceModel", TX12, 50)) rfl rfl rfl kB_X12_thrown kL_L_134 (fun res h => ct_X12_thrown l hZ fu  (fun j => (mset 256 23 (mset 0 256 mem p_1.2) p_2.2) (256 + j)) res h) rfl rfl rfl ⟨Nat.le_of_ble_eq_true rfl, Nat.le_of_ble_eq_true rfl⟩ (Nat.le_of_ble_eq_true rfl) hcap dL_law_2552 2555 rfl (fun x_3 hF => ?_)
  refine w_iload X 1 dL_law_2555 rfl 2557 rfl ?_
  refine w_icmp_eq X hF 2562 2560 dL_law_2557 (by decide) rfl (fun hF => ?_) (fun hF => ?_)
  · refine w_iload X 1 dL_law_2562 rfl 2564 rfl ?_
    refine w_if_ne X hF 2579 2567 dL_law_2564 (by decide) rfl (fun hF => ?_) (fun hF => ?_)
    · refine w_aload_n X 3 dL_law_2567 rfl rfl 2568 rfl ?_
      refine w_iconst X 0 dL_law_2568 rfl 2569 rfl ?_
      refine w_lal X 255 lt279_255 ko_W255 (t0 := 5) rfl vin01 dL_law_2569 2570 rfl ?_
      refine w_iload X 0 dL_law_2570 rfl 2572 rfl ?_
      refine w_i2l X dL_law_2572 2573 rfl ?_
      refine w_lcmp X dL_law_2573 2574 rfl ?_
      refine w_if_eq X hF 2579 2577 dL_law_2574 (by decide) rfl (fun hF => ?_) (fun hF => ?_)
      · refine w_goto X 2582 dL_law_2579 (by decide) ?_
        refine w_keep [2, 3, 4, 5, 6] rfl ?_
        have e9 := o_inj hF
        subst e9
        exact kk
      · refine w_iconst X 0 dL_law_2577 rfl 2578 rfl ?_
        exact no_none hF
    · refine w_goto X 2582 dL_law_2579 (by decide) ?_
      refine w_keep [2, 3, 4, 5, 6] rfl ?_
      have e9 := o_inj hF
      subst e9
      exact kk
  · refine w_iconst X 0 dL_law_2560 rfl 2561 rfl ?_
    exact no_none hF
end LC2
