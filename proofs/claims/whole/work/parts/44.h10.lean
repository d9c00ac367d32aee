def l_Rd_take : Pl := [(87, some 2), (87, some 3), (87, some 4), (87, some 5), (87, some 6), (87, some 7), (87, some 9)]
set_option maxRecDepth 20000 in
set_option maxHeartbeats 2000000 in
theorem h_Rd_take {w : MW} {a0 : Int32} {Q : MW → Prop} (hI : BND w) (hr_87_0 : w.2.2 87 0 = some 1) (hp0 : 15 ≤ a0.toInt) (hp1 : a0.toInt ≤ 125) (hQ : ∀ (w' : MW), BND w' → FR l_Rd_take w w' → Q w') : p_Rd_take w a0 Q := by
  refine Eq.mpr (p_Rd_take.eq_1 _ _ _) ?_
  refine ⟨fun h2052 => ?_, fun h2052 => ?_⟩
  · refine Eq.mpr (p_Rd_fail.eq_1 _ _) ?_
    refine ⟨fun _ => ?_, fun h => absurd h2052 h⟩
    exact hQ _ hI (FR.refl _ w) 
  · refine ⟨fun h2053 => ?_, fun h2053 => ?_⟩
    · refine h_Rd_nextWord hI hr_87_0  (fun w2054 hI2055 hL2056  => ?_)
      have hF2058 : FR l_Rd_take w w2054 := (FR.refl _ w).tr hL2056 rfl
      exact hQ _ hI2055 hF2058 
    · refine Eq.mpr (p_Rd_fail.eq_1 _ _) ?_
      refine ⟨fun h => absurd h h2052, fun _ => ?_⟩
      have hI2059 : BND (sI w 87 9 (w.1 87 4)) := wbd_87_9 hI
      exact hQ _ hI2059 (FR.I (FR.refl _ w) (k := 87) (j := 9) (v := (w.1 87 4)) rfl) 
def l_Rd_takeName_31 : Pl := [(87, some 2), (87, some 3), (87, some 4), (87, some 5), (87, some 6), (87, some 7), (87, some 9)]
def l_Rd_takeName : Pl := [(87, some 2), (87, some 3), (87, some 4), (87, some 5), (87, some 6), (87, some 7), (87, some 9)]
set_option maxRecDepth 20000 in
set_option maxHeartbeats 2000000 in
theorem h_Rd_takeName {w : MW} {a0 : Int32} {Q : Int32 → MW → Prop} (hI : BND w) (hr_87_0 : w.2.2 87 0 = some 1) (hr_87_1 : w.2.2 87 1 = some 108) (hp0 : 8 ≤ a0.toInt) (hp1 : a0.toInt ≤ 10) (hQ : ∀ (r : Int32) (w' : MW), BND w' → FR l_Rd_takeName w w' → (-1) ≤ r.toInt → r.toInt ≤ 39 → Q r w') : p_Rd_takeName w a0 Q := by
  refine Eq.mpr (p_Rd_takeName.eq_1 _ _ _) ?_
  refine ⟨fun h2060 => ?_, fun h2060 => ?_⟩
  · refine Eq.mpr (q_Rd_takeName_31.eq_1 _ _ _ _) ?_
    refine ⟨fun _ => ?_, fun h => absurd (by decide) h⟩
    refine Eq.mpr (p_Rd_fail.eq_1 _ _) ?_
    refine ⟨fun _ => ?_, fun h => absurd h2060 h⟩
    have o2061 : ((-1) ≤ ((-1) : Int32).toInt) ∧ (((-1) : Int32).toInt ≤ 39) := by have := (by decide : (((-1) : Int32)).toInt = (-1)); exact ⟨by omega, by omega⟩
    exact hQ _ _ hI (FR.refl _ w)  o2061.1 o2061.2
  · refine ⟨fun h2062 => ?_, fun h2062 => ?_⟩
    · refine Eq.mpr (q_Rd_takeName_31.eq_1 _ _ _ _) ?_
      refine ⟨fun _ => ?_, fun h => absurd (by decide) h⟩
      refine Eq.mpr (p_Rd_fail.eq_1 _ _) ?_
      refine ⟨fun h => absurd h h2060, fun _ => ?_⟩
      have hI2063 : BND (sI w 87 9 (w.1 87 4)) := wbd_87_9 hI
      have o2064 : ((-1) ≤ ((-1) : Int32).toInt) ∧ (((-1) : Int32).toInt ≤ 39) := by have := (by decide : (((-1) : Int32)).toInt = (-1)); exact ⟨by omega, by omega⟩
      exact hQ _ _ hI2063 (FR.I (FR.refl _ w) (k := 87) (j := 9) (v := (w.1 87 4)) rfl)  o2064.1 o2064.2
    · refine ⟨hr_87_1, ?_⟩
      refine h_Pr_finds108 hI   (fun r2068 w2065 hI2066 hL2067 p2069 p2070 => ?_)
      have hF2071 : FR l_Rd_takeName w w2065 := (FR.refl _ w).tr hL2067 rfl
      refine Eq.mpr (q_Rd_takeName_31.eq_1 _ _ _ _) ?_
      refine ⟨fun h2072 => ?_, fun h2072 => ?_⟩
      · refine Eq.mpr (p_Rd_fail.eq_1 _ _) ?_
        refine ⟨fun h2073 => ?_, fun h2073 => ?_⟩
        · have o2074 : ((-1) ≤ ((-1) : Int32).toInt) ∧ (((-1) : Int32).toInt ≤ 39) := by have := (by decide : (((-1) : Int32)).toInt = (-1)); exact ⟨by omega, by omega⟩
          exact hQ _ _ hI2066 hF2071  o2074.1 o2074.2
        · have hI2075 : BND (sI w2065 87 9 (w2065.1 87 4)) := wbd_87_9 hI2066
          have o2076 : ((-1) ≤ ((-1) : Int32).toInt) ∧ (((-1) : Int32).toInt ≤ 39) := by have := (by decide : (((-1) : Int32)).toInt = (-1)); exact ⟨by omega, by omega⟩
          exact hQ _ _ hI2075 (FR.I hF2071 (k := 87) (j := 9) (v := (w2065.1 87 4)) rfl)  o2076.1 o2076.2
      · refine ⟨((hL2067 87 1 rfl).2.2.trans hr_87_1), ?_⟩
        have o2077 : 0 ≤ r2068.toInt ∧ r2068.toInt < 40 := by have := (by decide : ((0 : Int32)).toInt = 0); omega
        refine ⟨o2077, ?_⟩
        refine ⟨fun h2078 => ?_, fun h2078 => ?_⟩
        · refine h_Rd_nextWord hI2066 ((hL2067 87 0 rfl).2.2.trans hr_87_0)  (fun w2079 hI2080 hL2081  => ?_)
          have hF2083 : FR l_Rd_takeName w w2079 := hF2071.tr hL2081 rfl
          have o2084 : ((-1) ≤ r2068.toInt) ∧ (r2068.toInt ≤ 39) := by have := (by decide : ((0 : Int32)).toInt = 0); exact ⟨by omega, by omega⟩
          exact hQ _ _ hI2080 hF2083  o2084.1 o2084.2
        · refine Eq.mpr (p_Rd_fail.eq_1 _ _) ?_
          refine ⟨fun h2085 => ?_, fun h2085 => ?_⟩
          · have o2086 : ((-1) ≤ ((-1) : Int32).toInt) ∧ (((-1) : Int32).toInt ≤ 39) := by have := (by decide : (((-1) : Int32)).toInt = (-1)); exact ⟨by omega, by omega⟩
            exact hQ _ _ hI2066 hF2071  o2086.1 o2086.2
          · have hI2087 : BND (sI w2065 87 9 (w2065.1 87 4)) := wbd_87_9 hI2066
            have o2088 : ((-1) ≤ ((-1) : Int32).toInt) ∧ (((-1) : Int32).toInt ≤ 39) := by have := (by decide : (((-1) : Int32)).toInt = (-1)); exact ⟨by omega, by omega⟩
            exact hQ _ _ hI2087 (FR.I hF2071 (k := 87) (j := 9) (v := (w2065.1 87 4)) rfl)  o2088.1 o2088.2
def l_Rd_readChange_38 : Pl := [(87, some 2), (87, some 3), (87, some 4), (87, some 5), (87, some 6), (87, some 7), (87, some 8), (87, some 9), (88, none), (89, none), (108, some 1), (109, none), (110, none), (111, none), (112, none), (113, none), (114, none), (115, none)]
def l_Rd_readChange : Pl := [(87, some 2), (87, some 3), (87, some 4), (87, some 5), (87, some 6), (87, some 7), (87, some 8), (87, some 9), (88, none), (89, none), (108, some 1), (109, none), (110, none), (111, none), (112, none), (113, none), (114, none), (115, none)]
set_option maxRecDepth 20000 in
set_option maxHeartbeats 2000000 in
theorem h_Rd_readChange {w : MW} {a0 : Int32} {Q : Int32 → MW → Prop} (hI : BND w) (hr_87_0 : w.2.2 87 0 = some 1) (hr_87_1 : w.2.2 87 1 = some 108) (hp0 : 11 ≤ a0.toInt) (hp1 : a0.toInt ≤ 14) (hQ : ∀ (r : Int32) (w' : MW), BND w' → FR l_Rd_readChange w w' → 0 ≤ r.toInt → r.toInt ≤ 300 → (w'.1 87 8).toInt = (w.1 87 8).toInt → Q r w') : p_Rd_readChange w a0 Q := by
  refine Eq.mpr (p_Rd_readChange.eq_1 _ _ _) ?_
  have o2089 : (8 ≤ (9 : Int32).toInt) ∧ ((9 : Int32).toInt ≤ 10) := by have := (by decide : ((9 : Int32)).toInt = 9); exact ⟨by omega, by omega⟩
  refine h_Rd_takeName hI hr_87_0 hr_87_1 o2089.1 o2089.2 (fun r2093 w2090 hI2091 hL2092 p2094 p2095 => ?_)
  have hF2096 : FR l_Rd_readChange w w2090 := (FR.refl _ w).tr hL2092 rfl
  refine ⟨((hL2092 87 1 rfl).2.2.trans hr_87_1), ?_⟩
  have o2097 : (0 ≤ (1 : Int32).toInt) ∧ ((1 : Int32).toInt ≤ 2) := by have := (by decide : ((1 : Int32)).toInt = 1); exact ⟨by omega, by omega⟩
  refine h_Rd_readLevel hI2091 ((hL2092 87 0 rfl).2.2.trans hr_87_0) ((hL2092 87 1 rfl).2.2.trans hr_87_1) o2097.1 o2097.2 (fun r2101 w2098 hI2099 hL2100 p2102 => ?_)
  have hF2103 : FR l_Rd_readChange w w2098 := hF2096.tr hL2100 rfl
  refine ⟨fun h2104 => ?_, fun h2104 => ?_⟩
  · refine ⟨((hL2100 87 1 rfl).2.2.trans ((hL2092 87 1 rfl).2.2.trans hr_87_1)), ?_⟩
    have o2105 : 0 ≤ r2093.toInt ∧ r2093.toInt < 40 := by have := (by decide : ((0 : Int32)).toInt = 0); omega
    refine ⟨o2105, ?_⟩
    refine Eq.mpr (q_Rd_readChange_38.eq_1 _ _ _ _ _ _ _) ?_
    refine Eq.mpr (p_Rd_demand.eq_1 _ _ _ _) ?_
    refine ⟨fun h2106 => ?_, fun h2106 => ?_⟩
    · refine ⟨((hL2100 87 1 rfl).2.2.trans ((hL2092 87 1 rfl).2.2.trans hr_87_1)), ?_⟩
      refine ⟨fun h2107 => ?_, fun h2107 => ?_⟩
      · have o2108 : (15 ≤ (59 : Int32).toInt) ∧ ((59 : Int32).toInt ≤ 125) := by have := (by decide : ((59 : Int32)).toInt = 59); exact ⟨by omega, by omega⟩
        refine h_Rd_take hI2099 ((hL2100 87 0 rfl).2.2.trans ((hL2092 87 0 rfl).2.2.trans hr_87_0)) o2108.1 o2108.2 (fun w2109 hI2110 hL2111  => ?_)
        have hF2113 : FR l_Rd_readChange w w2109 := hF2103.tr hL2111 rfl
        refine h_Rd_makeNode hI2110 ((hL2111 87 1 rfl).2.2.trans ((hL2100 87 1 rfl).2.2.trans ((hL2092 87 1 rfl).2.2.trans hr_87_1)))  (fun r2117 w2114 hI2115 hL2116 p2118 p2119 => ?_)
        have hF2120 : FR l_Rd_readChange w w2114 := hF2113.tr hL2116 rfl
        refine Eq.mpr (p_Rd_giveRange.eq_1 _ _ _ _ _) ?_
        refine ⟨((hL2116 87 1 rfl).2.2.trans ((hL2111 87 1 rfl).2.2.trans ((hL2100 87 1 rfl).2.2.trans ((hL2092 87 1 rfl).2.2.trans hr_87_1)))), ?_⟩
        have o2121 : 0 ≤ r2117.toInt ∧ r2117.toInt < 301 := by omega
        refine ⟨o2121, ?_⟩
        refine ⟨((hL2116 87 1 rfl).2.2.trans ((hL2111 87 1 rfl).2.2.trans ((hL2100 87 1 rfl).2.2.trans ((hL2092 87 1 rfl).2.2.trans hr_87_1)))), ?_⟩
        have o2122 : 0 ≤ r2117.toInt ∧ r2117.toInt < 301 := by omega
        refine ⟨o2122, ?_⟩
        have o2124 : 0 ≤ (w2090.1 108 1).toInt ∧ (w2090.1 108 1).toInt ≤ 301 := by have := bd_108_1 hI2091; have := bd_108_1 hI; have := (congrArg Int32.toInt (hL2092 108 1 rfl).1); omega
        have hI2123 : BND (sI w2114 111 r2117.toInt.toNat (w2090.1 108 1)) := wbd_111 hI2115 r2117.toInt.toNat o2124.1 o2124.2
        have o2126 : 0 ≤ (w2098.1 108 1).toInt ∧ (w2098.1 108 1).toInt ≤ 301 := by have := bd_108_1 hI2099; omega
        have hI2125 : BND (sI (sI w2114 111 r2117.toInt.toNat (w2090.1 108 1)) 112 r2117.toInt.toNat (w2098.1 108 1)) := wbd_112 hI2123 r2117.toInt.toNat o2126.1 o2126.2
        have o2127 : (0 ≤ r2117.toInt) ∧ (r2117.toInt ≤ 300) ∧ (((sI (sI w2114 111 r2117.toInt.toNat (w2090.1 108 1)) 112 r2117.toInt.toNat (w2098.1 108 1)).1 87 8).toInt = (w.1 87 8).toInt) := by have := bd_87_8 hI2115; have := bd_87_8 hI2110; have := bd_87_8 hI2099; have := (congrArg Int32.toInt (hL2111 87 8 rfl).1); have := (congrArg Int32.toInt (hL2116 87 8 rfl).1); have : ((sI (sI w2114 111 r2117.toInt.toNat (w2090.1 108 1)) 112 r2117.toInt.toNat (w2098.1 108 1)).1 87 8).toInt = (w2114.1 87 8).toInt := rfl; have := bd_87_8 hI; have := bd_87_8 hI2091; have := (congrArg Int32.toInt (hL2092 87 8 rfl).1); have := ti_lo r2101; have := ti_hi r2101; have := (congrArg Int32.toInt (hL2092 118 r2093.toInt.toNat rfl).1); have := (congrArg Int32.toInt (hL2100 118 r2093.toInt.toNat rfl).1); exact ⟨by omega, by omega, by omega⟩
        exact hQ _ _ hI2125 (FR.I (FR.I hF2120 (k := 111) (j := r2117.toInt.toNat) (v := (w2090.1 108 1)) rfl) (k := 112) (j := r2117.toInt.toNat) (v := (w2098.1 108 1)) rfl)  o2127.1 o2127.2.1 o2127.2.2
      · have o2128 : (15 ≤ (15 : Int32).toInt) ∧ ((15 : Int32).toInt ≤ 125) := by have := (by decide : ((15 : Int32)).toInt = 15); exact ⟨by omega, by omega⟩
        refine h_Rd_take hI2099 ((hL2100 87 0 rfl).2.2.trans ((hL2092 87 0 rfl).2.2.trans hr_87_0)) o2128.1 o2128.2 (fun w2129 hI2130 hL2131  => ?_)
        have hF2133 : FR l_Rd_readChange w w2129 := hF2103.tr hL2131 rfl
        have o2134 : (0 ≤ (1 : Int32).toInt) ∧ ((1 : Int32).toInt ≤ 2) := by have := (by decide : ((1 : Int32)).toInt = 1); exact ⟨by omega, by omega⟩
        refine h_Rd_readLevel hI2130 ((hL2131 87 0 rfl).2.2.trans ((hL2100 87 0 rfl).2.2.trans ((hL2092 87 0 rfl).2.2.trans hr_87_0))) ((hL2131 87 1 rfl).2.2.trans ((hL2100 87 1 rfl).2.2.trans ((hL2092 87 1 rfl).2.2.trans hr_87_1))) o2134.1 o2134.2 (fun r2138 w2135 hI2136 hL2137 p2139 => ?_)
        have hF2140 : FR l_Rd_readChange w w2135 := hF2133.tr hL2137 rfl
        refine Eq.mpr (p_Rd_demand.eq_1 _ _ _ _) ?_
        refine ⟨fun h2141 => ?_, fun h2141 => ?_⟩
        · replace h2141 : r2138.toInt = 3 := h2141
          have o2142 : (15 ≤ (59 : Int32).toInt) ∧ ((59 : Int32).toInt ≤ 125) := by have := (by decide : ((59 : Int32)).toInt = 59); exact ⟨by omega, by omega⟩
          refine h_Rd_take hI2136 ((hL2137 87 0 rfl).2.2.trans ((hL2131 87 0 rfl).2.2.trans ((hL2100 87 0 rfl).2.2.trans ((hL2092 87 0 rfl).2.2.trans hr_87_0)))) o2142.1 o2142.2 (fun w2143 hI2144 hL2145  => ?_)
          have hF2147 : FR l_Rd_readChange w w2143 := hF2140.tr hL2145 rfl
          refine h_Rd_makeNode hI2144 ((hL2145 87 1 rfl).2.2.trans ((hL2137 87 1 rfl).2.2.trans ((hL2131 87 1 rfl).2.2.trans ((hL2100 87 1 rfl).2.2.trans ((hL2092 87 1 rfl).2.2.trans hr_87_1)))))  (fun r2151 w2148 hI2149 hL2150 p2152 p2153 => ?_)
          have hF2154 : FR l_Rd_readChange w w2148 := hF2147.tr hL2150 rfl
          refine Eq.mpr (p_Rd_giveRange.eq_1 _ _ _ _ _) ?_
          refine ⟨((hL2150 87 1 rfl).2.2.trans ((hL2145 87 1 rfl).2.2.trans ((hL2137 87 1 rfl).2.2.trans ((hL2131 87 1 rfl).2.2.trans ((hL2100 87 1 rfl).2.2.trans ((hL2092 87 1 rfl).2.2.trans hr_87_1)))))), ?_⟩
          have o2155 : 0 ≤ r2151.toInt ∧ r2151.toInt < 301 := by omega
          refine ⟨o2155, ?_⟩
          refine ⟨((hL2150 87 1 rfl).2.2.trans ((hL2145 87 1 rfl).2.2.trans ((hL2137 87 1 rfl).2.2.trans ((hL2131 87 1 rfl).2.2.trans ((hL2100 87 1 rfl).2.2.trans ((hL2092 87 1 rfl).2.2.trans hr_87_1)))))), ?_⟩
          have o2156 : 0 ≤ r2151.toInt ∧ r2151.toInt < 301 := by omega
          refine ⟨o2156, ?_⟩
          have o2158 : 0 ≤ (w2090.1 108 1).toInt ∧ (w2090.1 108 1).toInt ≤ 301 := by have := bd_108_1 hI2091; have := bd_108_1 hI; have := (congrArg Int32.toInt (hL2092 108 1 rfl).1); omega
          have hI2157 : BND (sI w2148 111 r2151.toInt.toNat (w2090.1 108 1)) := wbd_111 hI2149 r2151.toInt.toNat o2158.1 o2158.2
          have o2160 : 0 ≤ (w2098.1 108 1).toInt ∧ (w2098.1 108 1).toInt ≤ 301 := by have := bd_108_1 hI2099; omega
          have hI2159 : BND (sI (sI w2148 111 r2151.toInt.toNat (w2090.1 108 1)) 112 r2151.toInt.toNat (w2098.1 108 1)) := wbd_112 hI2157 r2151.toInt.toNat o2160.1 o2160.2
          have o2161 : (0 ≤ r2151.toInt) ∧ (r2151.toInt ≤ 300) ∧ (((sI (sI w2148 111 r2151.toInt.toNat (w2090.1 108 1)) 112 r2151.toInt.toNat (w2098.1 108 1)).1 87 8).toInt = (w.1 87 8).toInt) := by have := bd_87_8 hI2149; have := bd_87_8 hI2144; have := bd_87_8 hI2136; have := (congrArg Int32.toInt (hL2145 87 8 rfl).1); have := (congrArg Int32.toInt (hL2150 87 8 rfl).1); have : ((sI (sI w2148 111 r2151.toInt.toNat (w2090.1 108 1)) 112 r2151.toInt.toNat (w2098.1 108 1)).1 87 8).toInt = (w2148.1 87 8).toInt := rfl; have := bd_87_8 hI; have := bd_87_8 hI2099; have := bd_87_8 hI2091; have := (congrArg Int32.toInt (hL2092 87 8 rfl).1); have := ti_lo r2101; have := ti_hi r2101; have := (congrArg Int32.toInt (hL2092 118 r2093.toInt.toNat rfl).1); have := (congrArg Int32.toInt (hL2100 118 r2093.toInt.toNat rfl).1); have := bd_87_8 hI2130; have := (congrArg Int32.toInt (hL2131 87 8 rfl).1); have := (by decide : ((3 : Int32)).toInt = 3); exact ⟨by omega, by omega, by omega⟩
          exact hQ _ _ hI2159 (FR.I (FR.I hF2154 (k := 111) (j := r2151.toInt.toNat) (v := (w2090.1 108 1)) rfl) (k := 112) (j := r2151.toInt.toNat) (v := (w2098.1 108 1)) rfl)  o2161.1 o2161.2.1 o2161.2.2
        · replace h2141 : ¬ (r2138.toInt = 3) := h2141
          refine Eq.mpr (p_Rd_fail.eq_1 _ _) ?_
          refine ⟨fun h2162 => ?_, fun h2162 => ?_⟩
          · have o2163 : (15 ≤ (59 : Int32).toInt) ∧ ((59 : Int32).toInt ≤ 125) := by have := (by decide : ((59 : Int32)).toInt = 59); exact ⟨by omega, by omega⟩
            refine h_Rd_take hI2136 ((hL2137 87 0 rfl).2.2.trans ((hL2131 87 0 rfl).2.2.trans ((hL2100 87 0 rfl).2.2.trans ((hL2092 87 0 rfl).2.2.trans hr_87_0)))) o2163.1 o2163.2 (fun w2164 hI2165 hL2166  => ?_)
            have hF2168 : FR l_Rd_readChange w w2164 := hF2140.tr hL2166 rfl
            refine h_Rd_makeNode hI2165 ((hL2166 87 1 rfl).2.2.trans ((hL2137 87 1 rfl).2.2.trans ((hL2131 87 1 rfl).2.2.trans ((hL2100 87 1 rfl).2.2.trans ((hL2092 87 1 rfl).2.2.trans hr_87_1)))))  (fun r2172 w2169 hI2170 hL2171 p2173 p2174 => ?_)
            have hF2175 : FR l_Rd_readChange w w2169 := hF2168.tr hL2171 rfl
            refine Eq.mpr (p_Rd_giveRange.eq_1 _ _ _ _ _) ?_
            refine ⟨((hL2171 87 1 rfl).2.2.trans ((hL2166 87 1 rfl).2.2.trans ((hL2137 87 1 rfl).2.2.trans ((hL2131 87 1 rfl).2.2.trans ((hL2100 87 1 rfl).2.2.trans ((hL2092 87 1 rfl).2.2.trans hr_87_1)))))), ?_⟩
            have o2176 : 0 ≤ r2172.toInt ∧ r2172.toInt < 301 := by omega
            refine ⟨o2176, ?_⟩
            refine ⟨((hL2171 87 1 rfl).2.2.trans ((hL2166 87 1 rfl).2.2.trans ((hL2137 87 1 rfl).2.2.trans ((hL2131 87 1 rfl).2.2.trans ((hL2100 87 1 rfl).2.2.trans ((hL2092 87 1 rfl).2.2.trans hr_87_1)))))), ?_⟩
            have o2177 : 0 ≤ r2172.toInt ∧ r2172.toInt < 301 := by omega
            refine ⟨o2177, ?_⟩
            have o2179 : 0 ≤ (w2090.1 108 1).toInt ∧ (w2090.1 108 1).toInt ≤ 301 := by have := bd_108_1 hI2091; have := bd_108_1 hI; have := (congrArg Int32.toInt (hL2092 108 1 rfl).1); omega
            have hI2178 : BND (sI w2169 111 r2172.toInt.toNat (w2090.1 108 1)) := wbd_111 hI2170 r2172.toInt.toNat o2179.1 o2179.2
            have o2181 : 0 ≤ (w2098.1 108 1).toInt ∧ (w2098.1 108 1).toInt ≤ 301 := by have := bd_108_1 hI2099; omega
            have hI2180 : BND (sI (sI w2169 111 r2172.toInt.toNat (w2090.1 108 1)) 112 r2172.toInt.toNat (w2098.1 108 1)) := wbd_112 hI2178 r2172.toInt.toNat o2181.1 o2181.2
            have o2182 : (0 ≤ r2172.toInt) ∧ (r2172.toInt ≤ 300) ∧ (((sI (sI w2169 111 r2172.toInt.toNat (w2090.1 108 1)) 112 r2172.toInt.toNat (w2098.1 108 1)).1 87 8).toInt = (w.1 87 8).toInt) := by have := bd_87_8 hI2170; have := bd_87_8 hI2165; have := bd_87_8 hI2136; have := (congrArg Int32.toInt (hL2166 87 8 rfl).1); have := (congrArg Int32.toInt (hL2171 87 8 rfl).1); have : ((sI (sI w2169 111 r2172.toInt.toNat (w2090.1 108 1)) 112 r2172.toInt.toNat (w2098.1 108 1)).1 87 8).toInt = (w2169.1 87 8).toInt := rfl; have := bd_87_8 hI; have := bd_87_8 hI2099; have := bd_87_8 hI2091; have := (congrArg Int32.toInt (hL2092 87 8 rfl).1); have := ti_lo r2101; have := ti_hi r2101; have := (congrArg Int32.toInt (hL2092 118 r2093.toInt.toNat rfl).1); have := (congrArg Int32.toInt (hL2100 118 r2093.toInt.toNat rfl).1); have := bd_87_8 hI2130; have := (congrArg Int32.toInt (hL2131 87 8 rfl).1); have := ti_lo r2138; have := ti_hi r2138; have := (by decide : ((3 : Int32)).toInt = 3); exact ⟨by omega, by omega, by omega⟩
            exact hQ _ _ hI2180 (FR.I (FR.I hF2175 (k := 111) (j := r2172.toInt.toNat) (v := (w2090.1 108 1)) rfl) (k := 112) (j := r2172.toInt.toNat) (v := (w2098.1 108 1)) rfl)  o2182.1 o2182.2.1 o2182.2.2
          · have hI2183 : BND (sI w2135 87 9 (w2135.1 87 4)) := wbd_87_9 hI2136
            have o2184 : (15 ≤ (59 : Int32).toInt) ∧ ((59 : Int32).toInt ≤ 125) := by have := (by decide : ((59 : Int32)).toInt = 59); exact ⟨by omega, by omega⟩
            refine h_Rd_take hI2183 ((hL2137 87 0 rfl).2.2.trans ((hL2131 87 0 rfl).2.2.trans ((hL2100 87 0 rfl).2.2.trans ((hL2092 87 0 rfl).2.2.trans hr_87_0)))) o2184.1 o2184.2 (fun w2185 hI2186 hL2187  => ?_)
            have hF2189 : FR l_Rd_readChange w w2185 := (FR.I hF2140 (k := 87) (j := 9) (v := (w2135.1 87 4)) rfl).tr hL2187 rfl
            refine h_Rd_makeNode hI2186 ((hL2187 87 1 rfl).2.2.trans ((hL2137 87 1 rfl).2.2.trans ((hL2131 87 1 rfl).2.2.trans ((hL2100 87 1 rfl).2.2.trans ((hL2092 87 1 rfl).2.2.trans hr_87_1)))))  (fun r2193 w2190 hI2191 hL2192 p2194 p2195 => ?_)
            have hF2196 : FR l_Rd_readChange w w2190 := hF2189.tr hL2192 rfl
            refine Eq.mpr (p_Rd_giveRange.eq_1 _ _ _ _ _) ?_
            refine ⟨((hL2192 87 1 rfl).2.2.trans ((hL2187 87 1 rfl).2.2.trans ((hL2137 87 1 rfl).2.2.trans ((hL2131 87 1 rfl).2.2.trans ((hL2100 87 1 rfl).2.2.trans ((hL2092 87 1 rfl).2.2.trans hr_87_1)))))), ?_⟩
            have o2197 : 0 ≤ r2193.toInt ∧ r2193.toInt < 301 := by omega
            refine ⟨o2197, ?_⟩
            refine ⟨((hL2192 87 1 rfl).2.2.trans ((hL2187 87 1 rfl).2.2.trans ((hL2137 87 1 rfl).2.2.trans ((hL2131 87 1 rfl).2.2.trans ((hL2100 87 1 rfl).2.2.trans ((hL2092 87 1 rfl).2.2.trans hr_87_1)))))), ?_⟩
            have o2198 : 0 ≤ r2193.toInt ∧ r2193.toInt < 301 := by omega
            refine ⟨o2198, ?_⟩
            have o2200 : 0 ≤ (w2090.1 108 1).toInt ∧ (w2090.1 108 1).toInt ≤ 301 := by have := bd_108_1 hI2091; have := bd_108_1 hI; have := (congrArg Int32.toInt (hL2092 108 1 rfl).1); omega
            have hI2199 : BND (sI w2190 111 r2193.toInt.toNat (w2090.1 108 1)) := wbd_111 hI2191 r2193.toInt.toNat o2200.1 o2200.2
            have o2202 : 0 ≤ (w2098.1 108 1).toInt ∧ (w2098.1 108 1).toInt ≤ 301 := by have := bd_108_1 hI2099; omega
            have hI2201 : BND (sI (sI w2190 111 r2193.toInt.toNat (w2090.1 108 1)) 112 r2193.toInt.toNat (w2098.1 108 1)) := wbd_112 hI2199 r2193.toInt.toNat o2202.1 o2202.2
            have o2203 : (0 ≤ r2193.toInt) ∧ (r2193.toInt ≤ 300) ∧ (((sI (sI w2190 111 r2193.toInt.toNat (w2090.1 108 1)) 112 r2193.toInt.toNat (w2098.1 108 1)).1 87 8).toInt = (w.1 87 8).toInt) := by have := bd_87_8 hI2191; have := bd_87_8 hI2186; have := bd_87_8 hI2136; have : ((sI w2135 87 9 (w2135.1 87 4)).1 87 8).toInt = (w2135.1 87 8).toInt := rfl; have := (congrArg Int32.toInt (hL2187 87 8 rfl).1); have := (congrArg Int32.toInt (hL2192 87 8 rfl).1); have : ((sI (sI w2190 111 r2193.toInt.toNat (w2090.1 108 1)) 112 r2193.toInt.toNat (w2098.1 108 1)).1 87 8).toInt = (w2190.1 87 8).toInt := rfl; have := bd_87_8 hI; have := bd_87_8 hI2099; have := bd_87_8 hI2091; have := (congrArg Int32.toInt (hL2092 87 8 rfl).1); have := ti_lo r2101; have := ti_hi r2101; have := (congrArg Int32.toInt (hL2092 118 r2093.toInt.toNat rfl).1); have := (congrArg Int32.toInt (hL2100 118 r2093.toInt.toNat rfl).1); have := bd_87_8 hI2130; have := (congrArg Int32.toInt (hL2131 87 8 rfl).1); have := ti_lo r2138; have := ti_hi r2138; have := (by decide : ((3 : Int32)).toInt = 3); exact ⟨by omega, by omega, by omega⟩
            exact hQ _ _ hI2201 (FR.I (FR.I hF2196 (k := 111) (j := r2193.toInt.toNat) (v := (w2090.1 108 1)) rfl) (k := 112) (j := r2193.toInt.toNat) (v := (w2098.1 108 1)) rfl)  o2203.1 o2203.2.1 o2203.2.2
    · refine Eq.mpr (p_Rd_fail.eq_1 _ _) ?_
      refine ⟨fun h2204 => ?_, fun h2204 => ?_⟩
      · refine ⟨((hL2100 87 1 rfl).2.2.trans ((hL2092 87 1 rfl).2.2.trans hr_87_1)), ?_⟩
        refine ⟨fun h2205 => ?_, fun h2205 => ?_⟩
        · have o2206 : (15 ≤ (59 : Int32).toInt) ∧ ((59 : Int32).toInt ≤ 125) := by have := (by decide : ((59 : Int32)).toInt = 59); exact ⟨by omega, by omega⟩
          refine h_Rd_take hI2099 ((hL2100 87 0 rfl).2.2.trans ((hL2092 87 0 rfl).2.2.trans hr_87_0)) o2206.1 o2206.2 (fun w2207 hI2208 hL2209  => ?_)
          have hF2211 : FR l_Rd_readChange w w2207 := hF2103.tr hL2209 rfl
          refine h_Rd_makeNode hI2208 ((hL2209 87 1 rfl).2.2.trans ((hL2100 87 1 rfl).2.2.trans ((hL2092 87 1 rfl).2.2.trans hr_87_1)))  (fun r2215 w2212 hI2213 hL2214 p2216 p2217 => ?_)
          have hF2218 : FR l_Rd_readChange w w2212 := hF2211.tr hL2214 rfl
          refine Eq.mpr (p_Rd_giveRange.eq_1 _ _ _ _ _) ?_
          refine ⟨((hL2214 87 1 rfl).2.2.trans ((hL2209 87 1 rfl).2.2.trans ((hL2100 87 1 rfl).2.2.trans ((hL2092 87 1 rfl).2.2.trans hr_87_1)))), ?_⟩
          have o2219 : 0 ≤ r2215.toInt ∧ r2215.toInt < 301 := by omega
          refine ⟨o2219, ?_⟩
          refine ⟨((hL2214 87 1 rfl).2.2.trans ((hL2209 87 1 rfl).2.2.trans ((hL2100 87 1 rfl).2.2.trans ((hL2092 87 1 rfl).2.2.trans hr_87_1)))), ?_⟩
          have o2220 : 0 ≤ r2215.toInt ∧ r2215.toInt < 301 := by omega
          refine ⟨o2220, ?_⟩
          have o2222 : 0 ≤ (w2090.1 108 1).toInt ∧ (w2090.1 108 1).toInt ≤ 301 := by have := bd_108_1 hI2091; have := bd_108_1 hI; have := (congrArg Int32.toInt (hL2092 108 1 rfl).1); omega
          have hI2221 : BND (sI w2212 111 r2215.toInt.toNat (w2090.1 108 1)) := wbd_111 hI2213 r2215.toInt.toNat o2222.1 o2222.2
          have o2224 : 0 ≤ (w2098.1 108 1).toInt ∧ (w2098.1 108 1).toInt ≤ 301 := by have := bd_108_1 hI2099; omega
          have hI2223 : BND (sI (sI w2212 111 r2215.toInt.toNat (w2090.1 108 1)) 112 r2215.toInt.toNat (w2098.1 108 1)) := wbd_112 hI2221 r2215.toInt.toNat o2224.1 o2224.2
          have o2225 : (0 ≤ r2215.toInt) ∧ (r2215.toInt ≤ 300) ∧ (((sI (sI w2212 111 r2215.toInt.toNat (w2090.1 108 1)) 112 r2215.toInt.toNat (w2098.1 108 1)).1 87 8).toInt = (w.1 87 8).toInt) := by have := bd_87_8 hI2213; have := bd_87_8 hI2208; have := bd_87_8 hI2099; have := (congrArg Int32.toInt (hL2209 87 8 rfl).1); have := (congrArg Int32.toInt (hL2214 87 8 rfl).1); have : ((sI (sI w2212 111 r2215.toInt.toNat (w2090.1 108 1)) 112 r2215.toInt.toNat (w2098.1 108 1)).1 87 8).toInt = (w2212.1 87 8).toInt := rfl; have := bd_87_8 hI; have := bd_87_8 hI2091; have := (congrArg Int32.toInt (hL2092 87 8 rfl).1); have := ti_lo r2101; have := ti_hi r2101; have := (congrArg Int32.toInt (hL2092 118 r2093.toInt.toNat rfl).1); have := (congrArg Int32.toInt (hL2100 118 r2093.toInt.toNat rfl).1); exact ⟨by omega, by omega, by omega⟩
          exact hQ _ _ hI2223 (FR.I (FR.I hF2218 (k := 111) (j := r2215.toInt.toNat) (v := (w2090.1 108 1)) rfl) (k := 112) (j := r2215.toInt.toNat) (v := (w2098.1 108 1)) rfl)  o2225.1 o2225.2.1 o2225.2.2
        · have o2226 : (15 ≤ (15 : Int32).toInt) ∧ ((15 : Int32).toInt ≤ 125) := by have := (by decide : ((15 : Int32)).toInt = 15); exact ⟨by omega, by omega⟩
          refine h_Rd_take hI2099 ((hL2100 87 0 rfl).2.2.trans ((hL2092 87 0 rfl).2.2.trans hr_87_0)) o2226.1 o2226.2 (fun w2227 hI2228 hL2229  => ?_)
          have hF2231 : FR l_Rd_readChange w w2227 := hF2103.tr hL2229 rfl
          have o2232 : (0 ≤ (1 : Int32).toInt) ∧ ((1 : Int32).toInt ≤ 2) := by have := (by decide : ((1 : Int32)).toInt = 1); exact ⟨by omega, by omega⟩
          refine h_Rd_readLevel hI2228 ((hL2229 87 0 rfl).2.2.trans ((hL2100 87 0 rfl).2.2.trans ((hL2092 87 0 rfl).2.2.trans hr_87_0))) ((hL2229 87 1 rfl).2.2.trans ((hL2100 87 1 rfl).2.2.trans ((hL2092 87 1 rfl).2.2.trans hr_87_1))) o2232.1 o2232.2 (fun r2236 w2233 hI2234 hL2235 p2237 => ?_)
          have hF2238 : FR l_Rd_readChange w w2233 := hF2231.tr hL2235 rfl
          refine Eq.mpr (p_Rd_demand.eq_1 _ _ _ _) ?_
          refine ⟨fun h2239 => ?_, fun h2239 => ?_⟩
          · replace h2239 : r2236.toInt = 3 := h2239
            have o2240 : (15 ≤ (59 : Int32).toInt) ∧ ((59 : Int32).toInt ≤ 125) := by have := (by decide : ((59 : Int32)).toInt = 59); exact ⟨by omega, by omega⟩
            refine h_Rd_take hI2234 ((hL2235 87 0 rfl).2.2.trans ((hL2229 87 0 rfl).2.2.trans ((hL2100 87 0 rfl).2.2.trans ((hL2092 87 0 rfl).2.2.trans hr_87_0)))) o2240.1 o2240.2 (fun w2241 hI2242 hL2243  => ?_)
            have hF2245 : FR l_Rd_readChange w w2241 := hF2238.tr hL2243 rfl
            refine h_Rd_makeNode hI2242 ((hL2243 87 1 rfl).2.2.trans ((hL2235 87 1 rfl).2.2.trans ((hL2229 87 1 rfl).2.2.trans ((hL2100 87 1 rfl).2.2.trans ((hL2092 87 1 rfl).2.2.trans hr_87_1)))))  (fun r2249 w2246 hI2247 hL2248 p2250 p2251 => ?_)
            have hF2252 : FR l_Rd_readChange w w2246 := hF2245.tr hL2248 rfl
            refine Eq.mpr (p_Rd_giveRange.eq_1 _ _ _ _ _) ?_
            refine ⟨((hL2248 87 1 rfl).2.2.trans ((hL2243 87 1 rfl).2.2.trans ((hL2235 87 1 rfl).2.2.trans ((hL2229 87 1 rfl).2.2.trans ((hL2100 87 1 rfl).2.2.trans ((hL2092 87 1 rfl).2.2.trans hr_87_1)))))), ?_⟩
            have o2253 : 0 ≤ r2249.toInt ∧ r2249.toInt < 301 := by omega
            refine ⟨o2253, ?_⟩
            refine ⟨((hL2248 87 1 rfl).2.2.trans ((hL2243 87 1 rfl).2.2.trans ((hL2235 87 1 rfl).2.2.trans ((hL2229 87 1 rfl).2.2.trans ((hL2100 87 1 rfl).2.2.trans ((hL2092 87 1 rfl).2.2.trans hr_87_1)))))), ?_⟩
            have o2254 : 0 ≤ r2249.toInt ∧ r2249.toInt < 301 := by omega
            refine ⟨o2254, ?_⟩
            have o2256 : 0 ≤ (w2090.1 108 1).toInt ∧ (w2090.1 108 1).toInt ≤ 301 := by have := bd_108_1 hI2091; have := bd_108_1 hI; have := (congrArg Int32.toInt (hL2092 108 1 rfl).1); omega
            have hI2255 : BND (sI w2246 111 r2249.toInt.toNat (w2090.1 108 1)) := wbd_111 hI2247 r2249.toInt.toNat o2256.1 o2256.2
            have o2258 : 0 ≤ (w2098.1 108 1).toInt ∧ (w2098.1 108 1).toInt ≤ 301 := by have := bd_108_1 hI2099; omega
            have hI2257 : BND (sI (sI w2246 111 r2249.toInt.toNat (w2090.1 108 1)) 112 r2249.toInt.toNat (w2098.1 108 1)) := wbd_112 hI2255 r2249.toInt.toNat o2258.1 o2258.2
            have o2259 : (0 ≤ r2249.toInt) ∧ (r2249.toInt ≤ 300) ∧ (((sI (sI w2246 111 r2249.toInt.toNat (w2090.1 108 1)) 112 r2249.toInt.toNat (w2098.1 108 1)).1 87 8).toInt = (w.1 87 8).toInt) := by have := bd_87_8 hI2247; have := bd_87_8 hI2242; have := bd_87_8 hI2234; have := (congrArg Int32.toInt (hL2243 87 8 rfl).1); have := (congrArg Int32.toInt (hL2248 87 8 rfl).1); have : ((sI (sI w2246 111 r2249.toInt.toNat (w2090.1 108 1)) 112 r2249.toInt.toNat (w2098.1 108 1)).1 87 8).toInt = (w2246.1 87 8).toInt := rfl; have := bd_87_8 hI; have := bd_87_8 hI2099; have := bd_87_8 hI2091; have := (congrArg Int32.toInt (hL2092 87 8 rfl).1); have := ti_lo r2101; have := ti_hi r2101; have := (congrArg Int32.toInt (hL2092 118 r2093.toInt.toNat rfl).1); have := (congrArg Int32.toInt (hL2100 118 r2093.toInt.toNat rfl).1); have := bd_87_8 hI2228; have := (congrArg Int32.toInt (hL2229 87 8 rfl).1); have := (by decide : ((3 : Int32)).toInt = 3); exact ⟨by omega, by omega, by omega⟩
            exact hQ _ _ hI2257 (FR.I (FR.I hF2252 (k := 111) (j := r2249.toInt.toNat) (v := (w2090.1 108 1)) rfl) (k := 112) (j := r2249.toInt.toNat) (v := (w2098.1 108 1)) rfl)  o2259.1 o2259.2.1 o2259.2.2
          · replace h2239 : ¬ (r2236.toInt = 3) := h2239
            refine Eq.mpr (p_Rd_fail.eq_1 _ _) ?_
            refine ⟨fun h2260 => ?_, fun h2260 => ?_⟩
            · have o2261 : (15 ≤ (59 : Int32).toInt) ∧ ((59 : Int32).toInt ≤ 125) := by have := (by decide : ((59 : Int32)).toInt = 59); exact ⟨by omega, by omega⟩
              refine h_Rd_take hI2234 ((hL2235 87 0 rfl).2.2.trans ((hL2229 87 0 rfl).2.2.trans ((hL2100 87 0 rfl).2.2.trans ((hL2092 87 0 rfl).2.2.trans hr_87_0)))) o2261.1 o2261.2 (fun w2262 hI2263 hL2264  => ?_)
              have hF2266 : FR l_Rd_readChange w w2262 := hF2238.tr hL2264 rfl
              refine h_Rd_makeNode hI2263 ((hL2264 87 1 rfl).2.2.trans ((hL2235 87 1 rfl).2.2.trans ((hL2229 87 1 rfl).2.2.trans ((hL2100 87 1 rfl).2.2.trans ((hL2092 87 1 rfl).2.2.trans hr_87_1)))))  (fun r2270 w2267 hI2268 hL2269 p2271 p2272 => ?_)
              have hF2273 : FR l_Rd_readChange w w2267 := hF2266.tr hL2269 rfl
              refine Eq.mpr (p_Rd_giveRange.eq_1 _ _ _ _ _) ?_
              refine ⟨((hL2269 87 1 rfl).2.2.trans ((hL2264 87 1 rfl).2.2.trans ((hL2235 87 1 rfl).2.2.trans ((hL2229 87 1 rfl).2.2.trans ((hL2100 87 1 rfl).2.2.trans ((hL2092 87 1 rfl).2.2.trans hr_87_1)))))), ?_⟩
              have o2274 : 0 ≤ r2270.toInt ∧ r2270.toInt < 301 := by omega
              refine ⟨o2274, ?_⟩
              refine ⟨((hL2269 87 1 rfl).2.2.trans ((hL2264 87 1 rfl).2.2.trans ((hL2235 87 1 rfl).2.2.trans ((hL2229 87 1 rfl).2.2.trans ((hL2100 87 1 rfl).2.2.trans ((hL2092 87 1 rfl).2.2.trans hr_87_1)))))), ?_⟩
              have o2275 : 0 ≤ r2270.toInt ∧ r2270.toInt < 301 := by omega
              refine ⟨o2275, ?_⟩
              have o2277 : 0 ≤ (w2090.1 108 1).toInt ∧ (w2090.1 108 1).toInt ≤ 301 := by have := bd_108_1 hI2091; have := bd_108_1 hI; have := (congrArg Int32.toInt (hL2092 108 1 rfl).1); omega
              have hI2276 : BND (sI w2267 111 r2270.toInt.toNat (w2090.1 108 1)) := wbd_111 hI2268 r2270.toInt.toNat o2277.1 o2277.2
              have o2279 : 0 ≤ (w2098.1 108 1).toInt ∧ (w2098.1 108 1).toInt ≤ 301 := by have := bd_108_1 hI2099; omega
              have hI2278 : BND (sI (sI w2267 111 r2270.toInt.toNat (w2090.1 108 1)) 112 r2270.toInt.toNat (w2098.1 108 1)) := wbd_112 hI2276 r2270.toInt.toNat o2279.1 o2279.2
              have o2280 : (0 ≤ r2270.toInt) ∧ (r2270.toInt ≤ 300) ∧ (((sI (sI w2267 111 r2270.toInt.toNat (w2090.1 108 1)) 112 r2270.toInt.toNat (w2098.1 108 1)).1 87 8).toInt = (w.1 87 8).toInt) := by have := bd_87_8 hI2268; have := bd_87_8 hI2263; have := bd_87_8 hI2234; have := (congrArg Int32.toInt (hL2264 87 8 rfl).1); have := (congrArg Int32.toInt (hL2269 87 8 rfl).1); have : ((sI (sI w2267 111 r2270.toInt.toNat (w2090.1 108 1)) 112 r2270.toInt.toNat (w2098.1 108 1)).1 87 8).toInt = (w2267.1 87 8).toInt := rfl; have := bd_87_8 hI; have := bd_87_8 hI2099; have := bd_87_8 hI2091; have := (congrArg Int32.toInt (hL2092 87 8 rfl).1); have := ti_lo r2101; have := ti_hi r2101; have := (congrArg Int32.toInt (hL2092 118 r2093.toInt.toNat rfl).1); have := (congrArg Int32.toInt (hL2100 118 r2093.toInt.toNat rfl).1); have := bd_87_8 hI2228; have := (congrArg Int32.toInt (hL2229 87 8 rfl).1); have := ti_lo r2236; have := ti_hi r2236; have := (by decide : ((3 : Int32)).toInt = 3); exact ⟨by omega, by omega, by omega⟩
              exact hQ _ _ hI2278 (FR.I (FR.I hF2273 (k := 111) (j := r2270.toInt.toNat) (v := (w2090.1 108 1)) rfl) (k := 112) (j := r2270.toInt.toNat) (v := (w2098.1 108 1)) rfl)  o2280.1 o2280.2.1 o2280.2.2
            · have hI2281 : BND (sI w2233 87 9 (w2233.1 87 4)) := wbd_87_9 hI2234
              have o2282 : (15 ≤ (59 : Int32).toInt) ∧ ((59 : Int32).toInt ≤ 125) := by have := (by decide : ((59 : Int32)).toInt = 59); exact ⟨by omega, by omega⟩
              refine h_Rd_take hI2281 ((hL2235 87 0 rfl).2.2.trans ((hL2229 87 0 rfl).2.2.trans ((hL2100 87 0 rfl).2.2.trans ((hL2092 87 0 rfl).2.2.trans hr_87_0)))) o2282.1 o2282.2 (fun w2283 hI2284 hL2285  => ?_)
              have hF2287 : FR l_Rd_readChange w w2283 := (FR.I hF2238 (k := 87) (j := 9) (v := (w2233.1 87 4)) rfl).tr hL2285 rfl
              refine h_Rd_makeNode hI2284 ((hL2285 87 1 rfl).2.2.trans ((hL2235 87 1 rfl).2.2.trans ((hL2229 87 1 rfl).2.2.trans ((hL2100 87 1 rfl).2.2.trans ((hL2092 87 1 rfl).2.2.trans hr_87_1)))))  (fun r2291 w2288 hI2289 hL2290 p2292 p2293 => ?_)
              have hF2294 : FR l_Rd_readChange w w2288 := hF2287.tr hL2290 rfl
              refine Eq.mpr (p_Rd_giveRange.eq_1 _ _ _ _ _) ?_
              refine ⟨((hL2290 87 1 rfl).2.2.trans ((hL2285 87 1 rfl).2.2.trans ((hL2235 87 1 rfl).2.2.trans ((hL2229 87 1 rfl).2.2.trans ((hL2100 87 1 rfl).2.2.trans ((hL2092 87 1 rfl).2.2.trans hr_87_1)))))), ?_⟩
              have o2295 : 0 ≤ r2291.toInt ∧ r2291.toInt < 301 := by omega
              refine ⟨o2295, ?_⟩
              refine ⟨((hL2290 87 1 rfl).2.2.trans ((hL2285 87 1 rfl).2.2.trans ((hL2235 87 1 rfl).2.2.trans ((hL2229 87 1 rfl).2.2.trans ((hL2100 87 1 rfl).2.2.trans ((hL2092 87 1 rfl).2.2.trans hr_87_1)))))), ?_⟩
              have o2296 : 0 ≤ r2291.toInt ∧ r2291.toInt < 301 := by omega
              refine ⟨o2296, ?_⟩
              have o2298 : 0 ≤ (w2090.1 108 1).toInt ∧ (w2090.1 108 1).toInt ≤ 301 := by have := bd_108_1 hI2091; have := bd_108_1 hI; have := (congrArg Int32.toInt (hL2092 108 1 rfl).1); omega
              have hI2297 : BND (sI w2288 111 r2291.toInt.toNat (w2090.1 108 1)) := wbd_111 hI2289 r2291.toInt.toNat o2298.1 o2298.2
              have o2300 : 0 ≤ (w2098.1 108 1).toInt ∧ (w2098.1 108 1).toInt ≤ 301 := by have := bd_108_1 hI2099; omega
              have hI2299 : BND (sI (sI w2288 111 r2291.toInt.toNat (w2090.1 108 1)) 112 r2291.toInt.toNat (w2098.1 108 1)) := wbd_112 hI2297 r2291.toInt.toNat o2300.1 o2300.2
              have o2301 : (0 ≤ r2291.toInt) ∧ (r2291.toInt ≤ 300) ∧ (((sI (sI w2288 111 r2291.toInt.toNat (w2090.1 108 1)) 112 r2291.toInt.toNat (w2098.1 108 1)).1 87 8).toInt = (w.1 87 8).toInt) := by have := bd_87_8 hI2289; have := bd_87_8 hI2284; have := bd_87_8 hI2234; have : ((sI w2233 87 9 (w2233.1 87 4)).1 87 8).toInt = (w2233.1 87 8).toInt := rfl; have := (congrArg Int32.toInt (hL2285 87 8 rfl).1); have := (congrArg Int32.toInt (hL2290 87 8 rfl).1); have : ((sI (sI w2288 111 r2291.toInt.toNat (w2090.1 108 1)) 112 r2291.toInt.toNat (w2098.1 108 1)).1 87 8).toInt = (w2288.1 87 8).toInt := rfl; have := bd_87_8 hI; have := bd_87_8 hI2099; have := bd_87_8 hI2091; have := (congrArg Int32.toInt (hL2092 87 8 rfl).1); have := ti_lo r2101; have := ti_hi r2101; have := (congrArg Int32.toInt (hL2092 118 r2093.toInt.toNat rfl).1); have := (congrArg Int32.toInt (hL2100 118 r2093.toInt.toNat rfl).1); have := bd_87_8 hI2228; have := (congrArg Int32.toInt (hL2229 87 8 rfl).1); have := ti_lo r2236; have := ti_hi r2236; have := (by decide : ((3 : Int32)).toInt = 3); exact ⟨by omega, by omega, by omega⟩
              exact hQ _ _ hI2299 (FR.I (FR.I hF2294 (k := 111) (j := r2291.toInt.toNat) (v := (w2090.1 108 1)) rfl) (k := 112) (j := r2291.toInt.toNat) (v := (w2098.1 108 1)) rfl)  o2301.1 o2301.2.1 o2301.2.2
      · refine ⟨((hL2100 87 1 rfl).2.2.trans ((hL2092 87 1 rfl).2.2.trans hr_87_1)), ?_⟩
        refine ⟨fun h2302 => ?_, fun h2302 => ?_⟩
        · have hI2303 : BND (sI w2098 87 9 (w2098.1 87 4)) := wbd_87_9 hI2099
          have o2304 : (15 ≤ (59 : Int32).toInt) ∧ ((59 : Int32).toInt ≤ 125) := by have := (by decide : ((59 : Int32)).toInt = 59); exact ⟨by omega, by omega⟩
          refine h_Rd_take hI2303 ((hL2100 87 0 rfl).2.2.trans ((hL2092 87 0 rfl).2.2.trans hr_87_0)) o2304.1 o2304.2 (fun w2305 hI2306 hL2307  => ?_)
          have hF2309 : FR l_Rd_readChange w w2305 := (FR.I hF2103 (k := 87) (j := 9) (v := (w2098.1 87 4)) rfl).tr hL2307 rfl
          refine h_Rd_makeNode hI2306 ((hL2307 87 1 rfl).2.2.trans ((hL2100 87 1 rfl).2.2.trans ((hL2092 87 1 rfl).2.2.trans hr_87_1)))  (fun r2313 w2310 hI2311 hL2312 p2314 p2315 => ?_)
          have hF2316 : FR l_Rd_readChange w w2310 := hF2309.tr hL2312 rfl
          refine Eq.mpr (p_Rd_giveRange.eq_1 _ _ _ _ _) ?_
          refine ⟨((hL2312 87 1 rfl).2.2.trans ((hL2307 87 1 rfl).2.2.trans ((hL2100 87 1 rfl).2.2.trans ((hL2092 87 1 rfl).2.2.trans hr_87_1)))), ?_⟩
          have o2317 : 0 ≤ r2313.toInt ∧ r2313.toInt < 301 := by omega
          refine ⟨o2317, ?_⟩
          refine ⟨((hL2312 87 1 rfl).2.2.trans ((hL2307 87 1 rfl).2.2.trans ((hL2100 87 1 rfl).2.2.trans ((hL2092 87 1 rfl).2.2.trans hr_87_1)))), ?_⟩
          have o2318 : 0 ≤ r2313.toInt ∧ r2313.toInt < 301 := by omega
          refine ⟨o2318, ?_⟩
          have o2320 : 0 ≤ (w2090.1 108 1).toInt ∧ (w2090.1 108 1).toInt ≤ 301 := by have := bd_108_1 hI2091; have := bd_108_1 hI; have := (congrArg Int32.toInt (hL2092 108 1 rfl).1); omega
          have hI2319 : BND (sI w2310 111 r2313.toInt.toNat (w2090.1 108 1)) := wbd_111 hI2311 r2313.toInt.toNat o2320.1 o2320.2
          have o2322 : 0 ≤ ((sI w2098 87 9 (w2098.1 87 4)).1 108 1).toInt ∧ ((sI w2098 87 9 (w2098.1 87 4)).1 108 1).toInt ≤ 301 := by have := bd_108_1 hI2099; have : ((sI w2098 87 9 (w2098.1 87 4)).1 108 1).toInt = (w2098.1 108 1).toInt := rfl; omega
          have hI2321 : BND (sI (sI w2310 111 r2313.toInt.toNat (w2090.1 108 1)) 112 r2313.toInt.toNat ((sI w2098 87 9 (w2098.1 87 4)).1 108 1)) := wbd_112 hI2319 r2313.toInt.toNat o2322.1 o2322.2
          have o2323 : (0 ≤ r2313.toInt) ∧ (r2313.toInt ≤ 300) ∧ (((sI (sI w2310 111 r2313.toInt.toNat (w2090.1 108 1)) 112 r2313.toInt.toNat ((sI w2098 87 9 (w2098.1 87 4)).1 108 1)).1 87 8).toInt = (w.1 87 8).toInt) := by have := bd_87_8 hI2311; have := bd_87_8 hI2306; have := bd_87_8 hI2099; have : ((sI w2098 87 9 (w2098.1 87 4)).1 87 8).toInt = (w2098.1 87 8).toInt := rfl; have := (congrArg Int32.toInt (hL2307 87 8 rfl).1); have := (congrArg Int32.toInt (hL2312 87 8 rfl).1); have : ((sI (sI w2310 111 r2313.toInt.toNat (w2090.1 108 1)) 112 r2313.toInt.toNat ((sI w2098 87 9 (w2098.1 87 4)).1 108 1)).1 87 8).toInt = (w2310.1 87 8).toInt := rfl; have := bd_87_8 hI; have := bd_87_8 hI2091; have := (congrArg Int32.toInt (hL2092 87 8 rfl).1); have := ti_lo r2101; have := ti_hi r2101; have := (congrArg Int32.toInt (hL2092 118 r2093.toInt.toNat rfl).1); have := (congrArg Int32.toInt (hL2100 118 r2093.toInt.toNat rfl).1); exact ⟨by omega, by omega, by omega⟩
          exact hQ _ _ hI2321 (FR.I (FR.I hF2316 (k := 111) (j := r2313.toInt.toNat) (v := (w2090.1 108 1)) rfl) (k := 112) (j := r2313.toInt.toNat) (v := ((sI w2098 87 9 (w2098.1 87 4)).1 108 1)) rfl)  o2323.1 o2323.2.1 o2323.2.2
        · have hI2324 : BND (sI w2098 87 9 (w2098.1 87 4)) := wbd_87_9 hI2099
          have o2325 : (15 ≤ (15 : Int32).toInt) ∧ ((15 : Int32).toInt ≤ 125) := by have := (by decide : ((15 : Int32)).toInt = 15); exact ⟨by omega, by omega⟩
          refine h_Rd_take hI2324 ((hL2100 87 0 rfl).2.2.trans ((hL2092 87 0 rfl).2.2.trans hr_87_0)) o2325.1 o2325.2 (fun w2326 hI2327 hL2328  => ?_)
          have hF2330 : FR l_Rd_readChange w w2326 := (FR.I hF2103 (k := 87) (j := 9) (v := (w2098.1 87 4)) rfl).tr hL2328 rfl
          have o2331 : (0 ≤ (1 : Int32).toInt) ∧ ((1 : Int32).toInt ≤ 2) := by have := (by decide : ((1 : Int32)).toInt = 1); exact ⟨by omega, by omega⟩
          refine h_Rd_readLevel hI2327 ((hL2328 87 0 rfl).2.2.trans ((hL2100 87 0 rfl).2.2.trans ((hL2092 87 0 rfl).2.2.trans hr_87_0))) ((hL2328 87 1 rfl).2.2.trans ((hL2100 87 1 rfl).2.2.trans ((hL2092 87 1 rfl).2.2.trans hr_87_1))) o2331.1 o2331.2 (fun r2335 w2332 hI2333 hL2334 p2336 => ?_)
          have hF2337 : FR l_Rd_readChange w w2332 := hF2330.tr hL2334 rfl
          refine Eq.mpr (p_Rd_demand.eq_1 _ _ _ _) ?_
          refine ⟨fun h2338 => ?_, fun h2338 => ?_⟩
          · replace h2338 : r2335.toInt = 3 := h2338
            have o2339 : (15 ≤ (59 : Int32).toInt) ∧ ((59 : Int32).toInt ≤ 125) := by have := (by decide : ((59 : Int32)).toInt = 59); exact ⟨by omega, by omega⟩
            refine h_Rd_take hI2333 ((hL2334 87 0 rfl).2.2.trans ((hL2328 87 0 rfl).2.2.trans ((hL2100 87 0 rfl).2.2.trans ((hL2092 87 0 rfl).2.2.trans hr_87_0)))) o2339.1 o2339.2 (fun w2340 hI2341 hL2342  => ?_)
            have hF2344 : FR l_Rd_readChange w w2340 := hF2337.tr hL2342 rfl
            refine h_Rd_makeNode hI2341 ((hL2342 87 1 rfl).2.2.trans ((hL2334 87 1 rfl).2.2.trans ((hL2328 87 1 rfl).2.2.trans ((hL2100 87 1 rfl).2.2.trans ((hL2092 87 1 rfl).2.2.trans hr_87_1)))))  (fun r2348 w2345 hI2346 hL2347 p2349 p2350 => ?_)
            have hF2351 : FR l_Rd_readChange w w2345 := hF2344.tr hL2347 rfl
            refine Eq.mpr (p_Rd_giveRange.eq_1 _ _ _ _ _) ?_
            refine ⟨((hL2347 87 1 rfl).2.2.trans ((hL2342 87 1 rfl).2.2.trans ((hL2334 87 1 rfl).2.2.trans ((hL2328 87 1 rfl).2.2.trans ((hL2100 87 1 rfl).2.2.trans ((hL2092 87 1 rfl).2.2.trans hr_87_1)))))), ?_⟩
            have o2352 : 0 ≤ r2348.toInt ∧ r2348.toInt < 301 := by omega
            refine ⟨o2352, ?_⟩
            refine ⟨((hL2347 87 1 rfl).2.2.trans ((hL2342 87 1 rfl).2.2.trans ((hL2334 87 1 rfl).2.2.trans ((hL2328 87 1 rfl).2.2.trans ((hL2100 87 1 rfl).2.2.trans ((hL2092 87 1 rfl).2.2.trans hr_87_1)))))), ?_⟩
            have o2353 : 0 ≤ r2348.toInt ∧ r2348.toInt < 301 := by omega
            refine ⟨o2353, ?_⟩
            have o2355 : 0 ≤ (w2090.1 108 1).toInt ∧ (w2090.1 108 1).toInt ≤ 301 := by have := bd_108_1 hI2091; have := bd_108_1 hI; have := (congrArg Int32.toInt (hL2092 108 1 rfl).1); omega
            have hI2354 : BND (sI w2345 111 r2348.toInt.toNat (w2090.1 108 1)) := wbd_111 hI2346 r2348.toInt.toNat o2355.1 o2355.2
            have o2357 : 0 ≤ ((sI w2098 87 9 (w2098.1 87 4)).1 108 1).toInt ∧ ((sI w2098 87 9 (w2098.1 87 4)).1 108 1).toInt ≤ 301 := by have := bd_108_1 hI2099; have : ((sI w2098 87 9 (w2098.1 87 4)).1 108 1).toInt = (w2098.1 108 1).toInt := rfl; omega
            have hI2356 : BND (sI (sI w2345 111 r2348.toInt.toNat (w2090.1 108 1)) 112 r2348.toInt.toNat ((sI w2098 87 9 (w2098.1 87 4)).1 108 1)) := wbd_112 hI2354 r2348.toInt.toNat o2357.1 o2357.2
            have o2358 : (0 ≤ r2348.toInt) ∧ (r2348.toInt ≤ 300) ∧ (((sI (sI w2345 111 r2348.toInt.toNat (w2090.1 108 1)) 112 r2348.toInt.toNat ((sI w2098 87 9 (w2098.1 87 4)).1 108 1)).1 87 8).toInt = (w.1 87 8).toInt) := by have := bd_87_8 hI2346; have := bd_87_8 hI2341; have := bd_87_8 hI2333; have := (congrArg Int32.toInt (hL2342 87 8 rfl).1); have := (congrArg Int32.toInt (hL2347 87 8 rfl).1); have : ((sI (sI w2345 111 r2348.toInt.toNat (w2090.1 108 1)) 112 r2348.toInt.toNat ((sI w2098 87 9 (w2098.1 87 4)).1 108 1)).1 87 8).toInt = (w2345.1 87 8).toInt := rfl; have := bd_87_8 hI; have := bd_87_8 hI2099; have := bd_87_8 hI2091; have := (congrArg Int32.toInt (hL2092 87 8 rfl).1); have := ti_lo r2101; have := ti_hi r2101; have := (congrArg Int32.toInt (hL2092 118 r2093.toInt.toNat rfl).1); have := (congrArg Int32.toInt (hL2100 118 r2093.toInt.toNat rfl).1); have := bd_87_8 hI2327; have : ((sI w2098 87 9 (w2098.1 87 4)).1 87 8).toInt = (w2098.1 87 8).toInt := rfl; have := (congrArg Int32.toInt (hL2328 87 8 rfl).1); have := (by decide : ((3 : Int32)).toInt = 3); exact ⟨by omega, by omega, by omega⟩
            exact hQ _ _ hI2356 (FR.I (FR.I hF2351 (k := 111) (j := r2348.toInt.toNat) (v := (w2090.1 108 1)) rfl) (k := 112) (j := r2348.toInt.toNat) (v := ((sI w2098 87 9 (w2098.1 87 4)).1 108 1)) rfl)  o2358.1 o2358.2.1 o2358.2.2
          · replace h2338 : ¬ (r2335.toInt = 3) := h2338
            refine Eq.mpr (p_Rd_fail.eq_1 _ _) ?_
            refine ⟨fun h2359 => ?_, fun h2359 => ?_⟩
            · have o2360 : (15 ≤ (59 : Int32).toInt) ∧ ((59 : Int32).toInt ≤ 125) := by have := (by decide : ((59 : Int32)).toInt = 59); exact ⟨by omega, by omega⟩
              refine h_Rd_take hI2333 ((hL2334 87 0 rfl).2.2.trans ((hL2328 87 0 rfl).2.2.trans ((hL2100 87 0 rfl).2.2.trans ((hL2092 87 0 rfl).2.2.trans hr_87_0)))) o2360.1 o2360.2 (fun w2361 hI2362 hL2363  => ?_)
              have hF2365 : FR l_Rd_readChange w w2361 := hF2337.tr hL2363 rfl
              refine h_Rd_makeNode hI2362 ((hL2363 87 1 rfl).2.2.trans ((hL2334 87 1 rfl).2.2.trans ((hL2328 87 1 rfl).2.2.trans ((hL2100 87 1 rfl).2.2.trans ((hL2092 87 1 rfl).2.2.trans hr_87_1)))))  (fun r2369 w2366 hI2367 hL2368 p2370 p2371 => ?_)
              have hF2372 : FR l_Rd_readChange w w2366 := hF2365.tr hL2368 rfl
              refine Eq.mpr (p_Rd_giveRange.eq_1 _ _ _ _ _) ?_
              refine ⟨((hL2368 87 1 rfl).2.2.trans ((hL2363 87 1 rfl).2.2.trans ((hL2334 87 1 rfl).2.2.trans ((hL2328 87 1 rfl).2.2.trans ((hL2100 87 1 rfl).2.2.trans ((hL2092 87 1 rfl).2.2.trans hr_87_1)))))), ?_⟩
              have o2373 : 0 ≤ r2369.toInt ∧ r2369.toInt < 301 := by omega
              refine ⟨o2373, ?_⟩
              refine ⟨((hL2368 87 1 rfl).2.2.trans ((hL2363 87 1 rfl).2.2.trans ((hL2334 87 1 rfl).2.2.trans ((hL2328 87 1 rfl).2.2.trans ((hL2100 87 1 rfl).2.2.trans ((hL2092 87 1 rfl).2.2.trans hr_87_1)))))), ?_⟩
              have o2374 : 0 ≤ r2369.toInt ∧ r2369.toInt < 301 := by omega
              refine ⟨o2374, ?_⟩
              have o2376 : 0 ≤ (w2090.1 108 1).toInt ∧ (w2090.1 108 1).toInt ≤ 301 := by have := bd_108_1 hI2091; have := bd_108_1 hI; have := (congrArg Int32.toInt (hL2092 108 1 rfl).1); omega
              have hI2375 : BND (sI w2366 111 r2369.toInt.toNat (w2090.1 108 1)) := wbd_111 hI2367 r2369.toInt.toNat o2376.1 o2376.2
              have o2378 : 0 ≤ ((sI w2098 87 9 (w2098.1 87 4)).1 108 1).toInt ∧ ((sI w2098 87 9 (w2098.1 87 4)).1 108 1).toInt ≤ 301 := by have := bd_108_1 hI2099; have : ((sI w2098 87 9 (w2098.1 87 4)).1 108 1).toInt = (w2098.1 108 1).toInt := rfl; omega
              have hI2377 : BND (sI (sI w2366 111 r2369.toInt.toNat (w2090.1 108 1)) 112 r2369.toInt.toNat ((sI w2098 87 9 (w2098.1 87 4)).1 108 1)) := wbd_112 hI2375 r2369.toInt.toNat o2378.1 o2378.2
              have o2379 : (0 ≤ r2369.toInt) ∧ (r2369.toInt ≤ 300) ∧ (((sI (sI w2366 111 r2369.toInt.toNat (w2090.1 108 1)) 112 r2369.toInt.toNat ((sI w2098 87 9 (w2098.1 87 4)).1 108 1)).1 87 8).toInt = (w.1 87 8).toInt) := by have := bd_87_8 hI2367; have := bd_87_8 hI2362; have := bd_87_8 hI2333; have := (congrArg Int32.toInt (hL2363 87 8 rfl).1); have := (congrArg Int32.toInt (hL2368 87 8 rfl).1); have : ((sI (sI w2366 111 r2369.toInt.toNat (w2090.1 108 1)) 112 r2369.toInt.toNat ((sI w2098 87 9 (w2098.1 87 4)).1 108 1)).1 87 8).toInt = (w2366.1 87 8).toInt := rfl; have := bd_87_8 hI; have := bd_87_8 hI2099; have := bd_87_8 hI2091; have := (congrArg Int32.toInt (hL2092 87 8 rfl).1); have := ti_lo r2101; have := ti_hi r2101; have := (congrArg Int32.toInt (hL2092 118 r2093.toInt.toNat rfl).1); have := (congrArg Int32.toInt (hL2100 118 r2093.toInt.toNat rfl).1); have := bd_87_8 hI2327; have : ((sI w2098 87 9 (w2098.1 87 4)).1 87 8).toInt = (w2098.1 87 8).toInt := rfl; have := (congrArg Int32.toInt (hL2328 87 8 rfl).1); have := ti_lo r2335; have := ti_hi r2335; have := (by decide : ((3 : Int32)).toInt = 3); exact ⟨by omega, by omega, by omega⟩
              exact hQ _ _ hI2377 (FR.I (FR.I hF2372 (k := 111) (j := r2369.toInt.toNat) (v := (w2090.1 108 1)) rfl) (k := 112) (j := r2369.toInt.toNat) (v := ((sI w2098 87 9 (w2098.1 87 4)).1 108 1)) rfl)  o2379.1 o2379.2.1 o2379.2.2
            · have hI2380 : BND (sI w2332 87 9 (w2332.1 87 4)) := wbd_87_9 hI2333
              have o2381 : (15 ≤ (59 : Int32).toInt) ∧ ((59 : Int32).toInt ≤ 125) := by have := (by decide : ((59 : Int32)).toInt = 59); exact ⟨by omega, by omega⟩
              refine h_Rd_take hI2380 ((hL2334 87 0 rfl).2.2.trans ((hL2328 87 0 rfl).2.2.trans ((hL2100 87 0 rfl).2.2.trans ((hL2092 87 0 rfl).2.2.trans hr_87_0)))) o2381.1 o2381.2 (fun w2382 hI2383 hL2384  => ?_)
              have hF2386 : FR l_Rd_readChange w w2382 := (FR.I hF2337 (k := 87) (j := 9) (v := (w2332.1 87 4)) rfl).tr hL2384 rfl
              refine h_Rd_makeNode hI2383 ((hL2384 87 1 rfl).2.2.trans ((hL2334 87 1 rfl).2.2.trans ((hL2328 87 1 rfl).2.2.trans ((hL2100 87 1 rfl).2.2.trans ((hL2092 87 1 rfl).2.2.trans hr_87_1)))))  (fun r2390 w2387 hI2388 hL2389 p2391 p2392 => ?_)
              have hF2393 : FR l_Rd_readChange w w2387 := hF2386.tr hL2389 rfl
              refine Eq.mpr (p_Rd_giveRange.eq_1 _ _ _ _ _) ?_
              refine ⟨((hL2389 87 1 rfl).2.2.trans ((hL2384 87 1 rfl).2.2.trans ((hL2334 87 1 rfl).2.2.trans ((hL2328 87 1 rfl).2.2.trans ((hL2100 87 1 rfl).2.2.trans ((hL2092 87 1 rfl).2.2.trans hr_87_1)))))), ?_⟩
              have o2394 : 0 ≤ r2390.toInt ∧ r2390.toInt < 301 := by omega
              refine ⟨o2394, ?_⟩
              refine ⟨((hL2389 87 1 rfl).2.2.trans ((hL2384 87 1 rfl).2.2.trans ((hL2334 87 1 rfl).2.2.trans ((hL2328 87 1 rfl).2.2.trans ((hL2100 87 1 rfl).2.2.trans ((hL2092 87 1 rfl).2.2.trans hr_87_1)))))), ?_⟩
              have o2395 : 0 ≤ r2390.toInt ∧ r2390.toInt < 301 := by omega
              refine ⟨o2395, ?_⟩
              have o2397 : 0 ≤ (w2090.1 108 1).toInt ∧ (w2090.1 108 1).toInt ≤ 301 := by have := bd_108_1 hI2091; have := bd_108_1 hI; have := (congrArg Int32.toInt (hL2092 108 1 rfl).1); omega
              have hI2396 : BND (sI w2387 111 r2390.toInt.toNat (w2090.1 108 1)) := wbd_111 hI2388 r2390.toInt.toNat o2397.1 o2397.2
              have o2399 : 0 ≤ ((sI w2098 87 9 (w2098.1 87 4)).1 108 1).toInt ∧ ((sI w2098 87 9 (w2098.1 87 4)).1 108 1).toInt ≤ 301 := by have := bd_108_1 hI2099; have : ((sI w2098 87 9 (w2098.1 87 4)).1 108 1).toInt = (w2098.1 108 1).toInt := rfl; omega
              have hI2398 : BND (sI (sI w2387 111 r2390.toInt.toNat (w2090.1 108 1)) 112 r2390.toInt.toNat ((sI w2098 87 9 (w2098.1 87 4)).1 108 1)) := wbd_112 hI2396 r2390.toInt.toNat o2399.1 o2399.2
              have o2400 : (0 ≤ r2390.toInt) ∧ (r2390.toInt ≤ 300) ∧ (((sI (sI w2387 111 r2390.toInt.toNat (w2090.1 108 1)) 112 r2390.toInt.toNat ((sI w2098 87 9 (w2098.1 87 4)).1 108 1)).1 87 8).toInt = (w.1 87 8).toInt) := by have := bd_87_8 hI2388; have := bd_87_8 hI2383; have := bd_87_8 hI2333; have : ((sI w2332 87 9 (w2332.1 87 4)).1 87 8).toInt = (w2332.1 87 8).toInt := rfl; have := (congrArg Int32.toInt (hL2384 87 8 rfl).1); have := (congrArg Int32.toInt (hL2389 87 8 rfl).1); have : ((sI (sI w2387 111 r2390.toInt.toNat (w2090.1 108 1)) 112 r2390.toInt.toNat ((sI w2098 87 9 (w2098.1 87 4)).1 108 1)).1 87 8).toInt = (w2387.1 87 8).toInt := rfl; have := bd_87_8 hI; have := bd_87_8 hI2099; have := bd_87_8 hI2091; have := (congrArg Int32.toInt (hL2092 87 8 rfl).1); have := ti_lo r2101; have := ti_hi r2101; have := (congrArg Int32.toInt (hL2092 118 r2093.toInt.toNat rfl).1); have := (congrArg Int32.toInt (hL2100 118 r2093.toInt.toNat rfl).1); have := bd_87_8 hI2327; have : ((sI w2098 87 9 (w2098.1 87 4)).1 87 8).toInt = (w2098.1 87 8).toInt := rfl; have := (congrArg Int32.toInt (hL2328 87 8 rfl).1); have := ti_lo r2335; have := ti_hi r2335; have := (by decide : ((3 : Int32)).toInt = 3); exact ⟨by omega, by omega, by omega⟩
              exact hQ _ _ hI2398 (FR.I (FR.I hF2393 (k := 111) (j := r2390.toInt.toNat) (v := (w2090.1 108 1)) rfl) (k := 112) (j := r2390.toInt.toNat) (v := ((sI w2098 87 9 (w2098.1 87 4)).1 108 1)) rfl)  o2400.1 o2400.2.1 o2400.2.2
  · refine Eq.mpr (q_Rd_readChange_38.eq_1 _ _ _ _ _ _ _) ?_
    refine Eq.mpr (p_Rd_demand.eq_1 _ _ _ _) ?_
    refine ⟨fun h2401 => ?_, fun h2401 => ?_⟩
    · replace h2401 : r2101.toInt = 0 := h2401
      refine ⟨((hL2100 87 1 rfl).2.2.trans ((hL2092 87 1 rfl).2.2.trans hr_87_1)), ?_⟩
      refine ⟨fun h2402 => ?_, fun h2402 => ?_⟩
      · have o2403 : (15 ≤ (59 : Int32).toInt) ∧ ((59 : Int32).toInt ≤ 125) := by have := (by decide : ((59 : Int32)).toInt = 59); exact ⟨by omega, by omega⟩
        refine h_Rd_take hI2099 ((hL2100 87 0 rfl).2.2.trans ((hL2092 87 0 rfl).2.2.trans hr_87_0)) o2403.1 o2403.2 (fun w2404 hI2405 hL2406  => ?_)
        have hF2408 : FR l_Rd_readChange w w2404 := hF2103.tr hL2406 rfl
        refine h_Rd_makeNode hI2405 ((hL2406 87 1 rfl).2.2.trans ((hL2100 87 1 rfl).2.2.trans ((hL2092 87 1 rfl).2.2.trans hr_87_1)))  (fun r2412 w2409 hI2410 hL2411 p2413 p2414 => ?_)
        have hF2415 : FR l_Rd_readChange w w2409 := hF2408.tr hL2411 rfl
        refine Eq.mpr (p_Rd_giveRange.eq_1 _ _ _ _ _) ?_
        refine ⟨((hL2411 87 1 rfl).2.2.trans ((hL2406 87 1 rfl).2.2.trans ((hL2100 87 1 rfl).2.2.trans ((hL2092 87 1 rfl).2.2.trans hr_87_1)))), ?_⟩
        have o2416 : 0 ≤ r2412.toInt ∧ r2412.toInt < 301 := by omega
        refine ⟨o2416, ?_⟩
        refine ⟨((hL2411 87 1 rfl).2.2.trans ((hL2406 87 1 rfl).2.2.trans ((hL2100 87 1 rfl).2.2.trans ((hL2092 87 1 rfl).2.2.trans hr_87_1)))), ?_⟩
        have o2417 : 0 ≤ r2412.toInt ∧ r2412.toInt < 301 := by omega
        refine ⟨o2417, ?_⟩
        have o2419 : 0 ≤ (w2090.1 108 1).toInt ∧ (w2090.1 108 1).toInt ≤ 301 := by have := bd_108_1 hI2091; have := bd_108_1 hI; have := (congrArg Int32.toInt (hL2092 108 1 rfl).1); omega
        have hI2418 : BND (sI w2409 111 r2412.toInt.toNat (w2090.1 108 1)) := wbd_111 hI2410 r2412.toInt.toNat o2419.1 o2419.2
        have o2421 : 0 ≤ (w2098.1 108 1).toInt ∧ (w2098.1 108 1).toInt ≤ 301 := by have := bd_108_1 hI2099; omega
        have hI2420 : BND (sI (sI w2409 111 r2412.toInt.toNat (w2090.1 108 1)) 112 r2412.toInt.toNat (w2098.1 108 1)) := wbd_112 hI2418 r2412.toInt.toNat o2421.1 o2421.2
        have o2422 : (0 ≤ r2412.toInt) ∧ (r2412.toInt ≤ 300) ∧ (((sI (sI w2409 111 r2412.toInt.toNat (w2090.1 108 1)) 112 r2412.toInt.toNat (w2098.1 108 1)).1 87 8).toInt = (w.1 87 8).toInt) := by have := bd_87_8 hI2410; have := bd_87_8 hI2405; have := bd_87_8 hI2099; have := (congrArg Int32.toInt (hL2406 87 8 rfl).1); have := (congrArg Int32.toInt (hL2411 87 8 rfl).1); have : ((sI (sI w2409 111 r2412.toInt.toNat (w2090.1 108 1)) 112 r2412.toInt.toNat (w2098.1 108 1)).1 87 8).toInt = (w2409.1 87 8).toInt := rfl; have := bd_87_8 hI; have := bd_87_8 hI2091; have := (congrArg Int32.toInt (hL2092 87 8 rfl).1); have := (by decide : ((0 : Int32)).toInt = 0); exact ⟨by omega, by omega, by omega⟩
        exact hQ _ _ hI2420 (FR.I (FR.I hF2415 (k := 111) (j := r2412.toInt.toNat) (v := (w2090.1 108 1)) rfl) (k := 112) (j := r2412.toInt.toNat) (v := (w2098.1 108 1)) rfl)  o2422.1 o2422.2.1 o2422.2.2
      · have o2423 : (15 ≤ (15 : Int32).toInt) ∧ ((15 : Int32).toInt ≤ 125) := by have := (by decide : ((15 : Int32)).toInt = 15); exact ⟨by omega, by omega⟩
        refine h_Rd_take hI2099 ((hL2100 87 0 rfl).2.2.trans ((hL2092 87 0 rfl).2.2.trans hr_87_0)) o2423.1 o2423.2 (fun w2424 hI2425 hL2426  => ?_)
        have hF2428 : FR l_Rd_readChange w w2424 := hF2103.tr hL2426 rfl
        have o2429 : (0 ≤ (1 : Int32).toInt) ∧ ((1 : Int32).toInt ≤ 2) := by have := (by decide : ((1 : Int32)).toInt = 1); exact ⟨by omega, by omega⟩
        refine h_Rd_readLevel hI2425 ((hL2426 87 0 rfl).2.2.trans ((hL2100 87 0 rfl).2.2.trans ((hL2092 87 0 rfl).2.2.trans hr_87_0))) ((hL2426 87 1 rfl).2.2.trans ((hL2100 87 1 rfl).2.2.trans ((hL2092 87 1 rfl).2.2.trans hr_87_1))) o2429.1 o2429.2 (fun r2433 w2430 hI2431 hL2432 p2434 => ?_)
        have hF2435 : FR l_Rd_readChange w w2430 := hF2428.tr hL2432 rfl
        refine Eq.mpr (p_Rd_demand.eq_1 _ _ _ _) ?_
        refine ⟨fun h2436 => ?_, fun h2436 => ?_⟩
        · replace h2436 : r2433.toInt = 3 := h2436
          have o2437 : (15 ≤ (59 : Int32).toInt) ∧ ((59 : Int32).toInt ≤ 125) := by have := (by decide : ((59 : Int32)).toInt = 59); exact ⟨by omega, by omega⟩
          refine h_Rd_take hI2431 ((hL2432 87 0 rfl).2.2.trans ((hL2426 87 0 rfl).2.2.trans ((hL2100 87 0 rfl).2.2.trans ((hL2092 87 0 rfl).2.2.trans hr_87_0)))) o2437.1 o2437.2 (fun w2438 hI2439 hL2440  => ?_)
          have hF2442 : FR l_Rd_readChange w w2438 := hF2435.tr hL2440 rfl
          refine h_Rd_makeNode hI2439 ((hL2440 87 1 rfl).2.2.trans ((hL2432 87 1 rfl).2.2.trans ((hL2426 87 1 rfl).2.2.trans ((hL2100 87 1 rfl).2.2.trans ((hL2092 87 1 rfl).2.2.trans hr_87_1)))))  (fun r2446 w2443 hI2444 hL2445 p2447 p2448 => ?_)
          have hF2449 : FR l_Rd_readChange w w2443 := hF2442.tr hL2445 rfl
          refine Eq.mpr (p_Rd_giveRange.eq_1 _ _ _ _ _) ?_
          refine ⟨((hL2445 87 1 rfl).2.2.trans ((hL2440 87 1 rfl).2.2.trans ((hL2432 87 1 rfl).2.2.trans ((hL2426 87 1 rfl).2.2.trans ((hL2100 87 1 rfl).2.2.trans ((hL2092 87 1 rfl).2.2.trans hr_87_1)))))), ?_⟩
          have o2450 : 0 ≤ r2446.toInt ∧ r2446.toInt < 301 := by omega
          refine ⟨o2450, ?_⟩
          refine ⟨((hL2445 87 1 rfl).2.2.trans ((hL2440 87 1 rfl).2.2.trans ((hL2432 87 1 rfl).2.2.trans ((hL2426 87 1 rfl).2.2.trans ((hL2100 87 1 rfl).2.2.trans ((hL2092 87 1 rfl).2.2.trans hr_87_1)))))), ?_⟩
          have o2451 : 0 ≤ r2446.toInt ∧ r2446.toInt < 301 := by omega
          refine ⟨o2451, ?_⟩
          have o2453 : 0 ≤ (w2090.1 108 1).toInt ∧ (w2090.1 108 1).toInt ≤ 301 := by have := bd_108_1 hI2091; have := bd_108_1 hI; have := (congrArg Int32.toInt (hL2092 108 1 rfl).1); omega
          have hI2452 : BND (sI w2443 111 r2446.toInt.toNat (w2090.1 108 1)) := wbd_111 hI2444 r2446.toInt.toNat o2453.1 o2453.2
          have o2455 : 0 ≤ (w2098.1 108 1).toInt ∧ (w2098.1 108 1).toInt ≤ 301 := by have := bd_108_1 hI2099; omega
          have hI2454 : BND (sI (sI w2443 111 r2446.toInt.toNat (w2090.1 108 1)) 112 r2446.toInt.toNat (w2098.1 108 1)) := wbd_112 hI2452 r2446.toInt.toNat o2455.1 o2455.2
          have o2456 : (0 ≤ r2446.toInt) ∧ (r2446.toInt ≤ 300) ∧ (((sI (sI w2443 111 r2446.toInt.toNat (w2090.1 108 1)) 112 r2446.toInt.toNat (w2098.1 108 1)).1 87 8).toInt = (w.1 87 8).toInt) := by have := bd_87_8 hI2444; have := bd_87_8 hI2439; have := bd_87_8 hI2431; have := (congrArg Int32.toInt (hL2440 87 8 rfl).1); have := (congrArg Int32.toInt (hL2445 87 8 rfl).1); have : ((sI (sI w2443 111 r2446.toInt.toNat (w2090.1 108 1)) 112 r2446.toInt.toNat (w2098.1 108 1)).1 87 8).toInt = (w2443.1 87 8).toInt := rfl; have := bd_87_8 hI; have := bd_87_8 hI2099; have := bd_87_8 hI2091; have := (congrArg Int32.toInt (hL2092 87 8 rfl).1); have := (by decide : ((0 : Int32)).toInt = 0); have := bd_87_8 hI2425; have := (congrArg Int32.toInt (hL2426 87 8 rfl).1); have := (by decide : ((3 : Int32)).toInt = 3); exact ⟨by omega, by omega, by omega⟩
          exact hQ _ _ hI2454 (FR.I (FR.I hF2449 (k := 111) (j := r2446.toInt.toNat) (v := (w2090.1 108 1)) rfl) (k := 112) (j := r2446.toInt.toNat) (v := (w2098.1 108 1)) rfl)  o2456.1 o2456.2.1 o2456.2.2
        · replace h2436 : ¬ (r2433.toInt = 3) := h2436
          refine Eq.mpr (p_Rd_fail.eq_1 _ _) ?_
          refine ⟨fun h2457 => ?_, fun h2457 => ?_⟩
          · have o2458 : (15 ≤ (59 : Int32).toInt) ∧ ((59 : Int32).toInt ≤ 125) := by have := (by decide : ((59 : Int32)).toInt = 59); exact ⟨by omega, by omega⟩
            refine h_Rd_take hI2431 ((hL2432 87 0 rfl).2.2.trans ((hL2426 87 0 rfl).2.2.trans ((hL2100 87 0 rfl).2.2.trans ((hL2092 87 0 rfl).2.2.trans hr_87_0)))) o2458.1 o2458.2 (fun w2459 hI2460 hL2461  => ?_)
            have hF2463 : FR l_Rd_readChange w w2459 := hF2435.tr hL2461 rfl
            refine h_Rd_makeNode hI2460 ((hL2461 87 1 rfl).2.2.trans ((hL2432 87 1 rfl).2.2.trans ((hL2426 87 1 rfl).2.2.trans ((hL2100 87 1 rfl).2.2.trans ((hL2092 87 1 rfl).2.2.trans hr_87_1)))))  (fun r2467 w2464 hI2465 hL2466 p2468 p2469 => ?_)
            have hF2470 : FR l_Rd_readChange w w2464 := hF2463.tr hL2466 rfl
            refine Eq.mpr (p_Rd_giveRange.eq_1 _ _ _ _ _) ?_
            refine ⟨((hL2466 87 1 rfl).2.2.trans ((hL2461 87 1 rfl).2.2.trans ((hL2432 87 1 rfl).2.2.trans ((hL2426 87 1 rfl).2.2.trans ((hL2100 87 1 rfl).2.2.trans ((hL2092 87 1 rfl).2.2.trans hr_87_1)))))), ?_⟩
            have o2471 : 0 ≤ r2467.toInt ∧ r2467.toInt < 301 := by omega
            refine ⟨o2471, ?_⟩
            refine ⟨((hL2466 87 1 rfl).2.2.trans ((hL2461 87 1 rfl).2.2.trans ((hL2432 87 1 rfl).2.2.trans ((hL2426 87 1 rfl).2.2.trans ((hL2100 87 1 rfl).2.2.trans ((hL2092 87 1 rfl).2.2.trans hr_87_1)))))), ?_⟩
            have o2472 : 0 ≤ r2467.toInt ∧ r2467.toInt < 301 := by omega
            refine ⟨o2472, ?_⟩
            have o2474 : 0 ≤ (w2090.1 108 1).toInt ∧ (w2090.1 108 1).toInt ≤ 301 := by have := bd_108_1 hI2091; have := bd_108_1 hI; have := (congrArg Int32.toInt (hL2092 108 1 rfl).1); omega
            have hI2473 : BND (sI w2464 111 r2467.toInt.toNat (w2090.1 108 1)) := wbd_111 hI2465 r2467.toInt.toNat o2474.1 o2474.2
            have o2476 : 0 ≤ (w2098.1 108 1).toInt ∧ (w2098.1 108 1).toInt ≤ 301 := by have := bd_108_1 hI2099; omega
            have hI2475 : BND (sI (sI w2464 111 r2467.toInt.toNat (w2090.1 108 1)) 112 r2467.toInt.toNat (w2098.1 108 1)) := wbd_112 hI2473 r2467.toInt.toNat o2476.1 o2476.2
            have o2477 : (0 ≤ r2467.toInt) ∧ (r2467.toInt ≤ 300) ∧ (((sI (sI w2464 111 r2467.toInt.toNat (w2090.1 108 1)) 112 r2467.toInt.toNat (w2098.1 108 1)).1 87 8).toInt = (w.1 87 8).toInt) := by have := bd_87_8 hI2465; have := bd_87_8 hI2460; have := bd_87_8 hI2431; have := (congrArg Int32.toInt (hL2461 87 8 rfl).1); have := (congrArg Int32.toInt (hL2466 87 8 rfl).1); have : ((sI (sI w2464 111 r2467.toInt.toNat (w2090.1 108 1)) 112 r2467.toInt.toNat (w2098.1 108 1)).1 87 8).toInt = (w2464.1 87 8).toInt := rfl; have := bd_87_8 hI; have := bd_87_8 hI2099; have := bd_87_8 hI2091; have := (congrArg Int32.toInt (hL2092 87 8 rfl).1); have := (by decide : ((0 : Int32)).toInt = 0); have := bd_87_8 hI2425; have := (congrArg Int32.toInt (hL2426 87 8 rfl).1); have := ti_lo r2433; have := ti_hi r2433; have := (by decide : ((3 : Int32)).toInt = 3); exact ⟨by omega, by omega, by omega⟩
            exact hQ _ _ hI2475 (FR.I (FR.I hF2470 (k := 111) (j := r2467.toInt.toNat) (v := (w2090.1 108 1)) rfl) (k := 112) (j := r2467.toInt.toNat) (v := (w2098.1 108 1)) rfl)  o2477.1 o2477.2.1 o2477.2.2
          · have hI2478 : BND (sI w2430 87 9 (w2430.1 87 4)) := wbd_87_9 hI2431
            have o2479 : (15 ≤ (59 : Int32).toInt) ∧ ((59 : Int32).toInt ≤ 125) := by have := (by decide : ((59 : Int32)).toInt = 59); exact ⟨by omega, by omega⟩
            refine h_Rd_take hI2478 ((hL2432 87 0 rfl).2.2.trans ((hL2426 87 0 rfl).2.2.trans ((hL2100 87 0 rfl).2.2.trans ((hL2092 87 0 rfl).2.2.trans hr_87_0)))) o2479.1 o2479.2 (fun w2480 hI2481 hL2482  => ?_)
            have hF2484 : FR l_Rd_readChange w w2480 := (FR.I hF2435 (k := 87) (j := 9) (v := (w2430.1 87 4)) rfl).tr hL2482 rfl
            refine h_Rd_makeNode hI2481 ((hL2482 87 1 rfl).2.2.trans ((hL2432 87 1 rfl).2.2.trans ((hL2426 87 1 rfl).2.2.trans ((hL2100 87 1 rfl).2.2.trans ((hL2092 87 1 rfl).2.2.trans hr_87_1)))))  (fun r2488 w2485 hI2486 hL2487 p2489 p2490 => ?_)
            have hF2491 : FR l_Rd_readChange w w2485 := hF2484.tr hL2487 rfl
            refine Eq.mpr (p_Rd_giveRange.eq_1 _ _ _ _ _) ?_
            refine ⟨((hL2487 87 1 rfl).2.2.trans ((hL2482 87 1 rfl).2.2.trans ((hL2432 87 1 rfl).2.2.trans ((hL2426 87 1 rfl).2.2.trans ((hL2100 87 1 rfl).2.2.trans ((hL2092 87 1 rfl).2.2.trans hr_87_1)))))), ?_⟩
            have o2492 : 0 ≤ r2488.toInt ∧ r2488.toInt < 301 := by omega
            refine ⟨o2492, ?_⟩
            refine ⟨((hL2487 87 1 rfl).2.2.trans ((hL2482 87 1 rfl).2.2.trans ((hL2432 87 1 rfl).2.2.trans ((hL2426 87 1 rfl).2.2.trans ((hL2100 87 1 rfl).2.2.trans ((hL2092 87 1 rfl).2.2.trans hr_87_1)))))), ?_⟩
            have o2493 : 0 ≤ r2488.toInt ∧ r2488.toInt < 301 := by omega
            refine ⟨o2493, ?_⟩
            have o2495 : 0 ≤ (w2090.1 108 1).toInt ∧ (w2090.1 108 1).toInt ≤ 301 := by have := bd_108_1 hI2091; have := bd_108_1 hI; have := (congrArg Int32.toInt (hL2092 108 1 rfl).1); omega
            have hI2494 : BND (sI w2485 111 r2488.toInt.toNat (w2090.1 108 1)) := wbd_111 hI2486 r2488.toInt.toNat o2495.1 o2495.2
            have o2497 : 0 ≤ (w2098.1 108 1).toInt ∧ (w2098.1 108 1).toInt ≤ 301 := by have := bd_108_1 hI2099; omega
            have hI2496 : BND (sI (sI w2485 111 r2488.toInt.toNat (w2090.1 108 1)) 112 r2488.toInt.toNat (w2098.1 108 1)) := wbd_112 hI2494 r2488.toInt.toNat o2497.1 o2497.2
            have o2498 : (0 ≤ r2488.toInt) ∧ (r2488.toInt ≤ 300) ∧ (((sI (sI w2485 111 r2488.toInt.toNat (w2090.1 108 1)) 112 r2488.toInt.toNat (w2098.1 108 1)).1 87 8).toInt = (w.1 87 8).toInt) := by have := bd_87_8 hI2486; have := bd_87_8 hI2481; have := bd_87_8 hI2431; have : ((sI w2430 87 9 (w2430.1 87 4)).1 87 8).toInt = (w2430.1 87 8).toInt := rfl; have := (congrArg Int32.toInt (hL2482 87 8 rfl).1); have := (congrArg Int32.toInt (hL2487 87 8 rfl).1); have : ((sI (sI w2485 111 r2488.toInt.toNat (w2090.1 108 1)) 112 r2488.toInt.toNat (w2098.1 108 1)).1 87 8).toInt = (w2485.1 87 8).toInt := rfl; have := bd_87_8 hI; have := bd_87_8 hI2099; have := bd_87_8 hI2091; have := (congrArg Int32.toInt (hL2092 87 8 rfl).1); have := (by decide : ((0 : Int32)).toInt = 0); have := bd_87_8 hI2425; have := (congrArg Int32.toInt (hL2426 87 8 rfl).1); have := ti_lo r2433; have := ti_hi r2433; have := (by decide : ((3 : Int32)).toInt = 3); exact ⟨by omega, by omega, by omega⟩
            exact hQ _ _ hI2496 (FR.I (FR.I hF2491 (k := 111) (j := r2488.toInt.toNat) (v := (w2090.1 108 1)) rfl) (k := 112) (j := r2488.toInt.toNat) (v := (w2098.1 108 1)) rfl)  o2498.1 o2498.2.1 o2498.2.2
    · replace h2401 : ¬ (r2101.toInt = 0) := h2401
      refine Eq.mpr (p_Rd_fail.eq_1 _ _) ?_
      refine ⟨fun h2499 => ?_, fun h2499 => ?_⟩
      · refine ⟨((hL2100 87 1 rfl).2.2.trans ((hL2092 87 1 rfl).2.2.trans hr_87_1)), ?_⟩
        refine ⟨fun h2500 => ?_, fun h2500 => ?_⟩
        · have o2501 : (15 ≤ (59 : Int32).toInt) ∧ ((59 : Int32).toInt ≤ 125) := by have := (by decide : ((59 : Int32)).toInt = 59); exact ⟨by omega, by omega⟩
          refine h_Rd_take hI2099 ((hL2100 87 0 rfl).2.2.trans ((hL2092 87 0 rfl).2.2.trans hr_87_0)) o2501.1 o2501.2 (fun w2502 hI2503 hL2504  => ?_)
          have hF2506 : FR l_Rd_readChange w w2502 := hF2103.tr hL2504 rfl
          refine h_Rd_makeNode hI2503 ((hL2504 87 1 rfl).2.2.trans ((hL2100 87 1 rfl).2.2.trans ((hL2092 87 1 rfl).2.2.trans hr_87_1)))  (fun r2510 w2507 hI2508 hL2509 p2511 p2512 => ?_)
          have hF2513 : FR l_Rd_readChange w w2507 := hF2506.tr hL2509 rfl
          refine Eq.mpr (p_Rd_giveRange.eq_1 _ _ _ _ _) ?_
          refine ⟨((hL2509 87 1 rfl).2.2.trans ((hL2504 87 1 rfl).2.2.trans ((hL2100 87 1 rfl).2.2.trans ((hL2092 87 1 rfl).2.2.trans hr_87_1)))), ?_⟩
          have o2514 : 0 ≤ r2510.toInt ∧ r2510.toInt < 301 := by omega
          refine ⟨o2514, ?_⟩
          refine ⟨((hL2509 87 1 rfl).2.2.trans ((hL2504 87 1 rfl).2.2.trans ((hL2100 87 1 rfl).2.2.trans ((hL2092 87 1 rfl).2.2.trans hr_87_1)))), ?_⟩
          have o2515 : 0 ≤ r2510.toInt ∧ r2510.toInt < 301 := by omega
          refine ⟨o2515, ?_⟩
          have o2517 : 0 ≤ (w2090.1 108 1).toInt ∧ (w2090.1 108 1).toInt ≤ 301 := by have := bd_108_1 hI2091; have := bd_108_1 hI; have := (congrArg Int32.toInt (hL2092 108 1 rfl).1); omega
          have hI2516 : BND (sI w2507 111 r2510.toInt.toNat (w2090.1 108 1)) := wbd_111 hI2508 r2510.toInt.toNat o2517.1 o2517.2
          have o2519 : 0 ≤ (w2098.1 108 1).toInt ∧ (w2098.1 108 1).toInt ≤ 301 := by have := bd_108_1 hI2099; omega
          have hI2518 : BND (sI (sI w2507 111 r2510.toInt.toNat (w2090.1 108 1)) 112 r2510.toInt.toNat (w2098.1 108 1)) := wbd_112 hI2516 r2510.toInt.toNat o2519.1 o2519.2
          have o2520 : (0 ≤ r2510.toInt) ∧ (r2510.toInt ≤ 300) ∧ (((sI (sI w2507 111 r2510.toInt.toNat (w2090.1 108 1)) 112 r2510.toInt.toNat (w2098.1 108 1)).1 87 8).toInt = (w.1 87 8).toInt) := by have := bd_87_8 hI2508; have := bd_87_8 hI2503; have := bd_87_8 hI2099; have := (congrArg Int32.toInt (hL2504 87 8 rfl).1); have := (congrArg Int32.toInt (hL2509 87 8 rfl).1); have : ((sI (sI w2507 111 r2510.toInt.toNat (w2090.1 108 1)) 112 r2510.toInt.toNat (w2098.1 108 1)).1 87 8).toInt = (w2507.1 87 8).toInt := rfl; have := bd_87_8 hI; have := bd_87_8 hI2091; have := (congrArg Int32.toInt (hL2092 87 8 rfl).1); have := ti_lo r2101; have := ti_hi r2101; have := (by decide : ((0 : Int32)).toInt = 0); exact ⟨by omega, by omega, by omega⟩
          exact hQ _ _ hI2518 (FR.I (FR.I hF2513 (k := 111) (j := r2510.toInt.toNat) (v := (w2090.1 108 1)) rfl) (k := 112) (j := r2510.toInt.toNat) (v := (w2098.1 108 1)) rfl)  o2520.1 o2520.2.1 o2520.2.2
        · have o2521 : (15 ≤ (15 : Int32).toInt) ∧ ((15 : Int32).toInt ≤ 125) := by have := (by decide : ((15 : Int32)).toInt = 15); exact ⟨by omega, by omega⟩
          refine h_Rd_take hI2099 ((hL2100 87 0 rfl).2.2.trans ((hL2092 87 0 rfl).2.2.trans hr_87_0)) o2521.1 o2521.2 (fun w2522 hI2523 hL2524  => ?_)
          have hF2526 : FR l_Rd_readChange w w2522 := hF2103.tr hL2524 rfl
          have o2527 : (0 ≤ (1 : Int32).toInt) ∧ ((1 : Int32).toInt ≤ 2) := by have := (by decide : ((1 : Int32)).toInt = 1); exact ⟨by omega, by omega⟩
          refine h_Rd_readLevel hI2523 ((hL2524 87 0 rfl).2.2.trans ((hL2100 87 0 rfl).2.2.trans ((hL2092 87 0 rfl).2.2.trans hr_87_0))) ((hL2524 87 1 rfl).2.2.trans ((hL2100 87 1 rfl).2.2.trans ((hL2092 87 1 rfl).2.2.trans hr_87_1))) o2527.1 o2527.2 (fun r2531 w2528 hI2529 hL2530 p2532 => ?_)
          have hF2533 : FR l_Rd_readChange w w2528 := hF2526.tr hL2530 rfl
          refine Eq.mpr (p_Rd_demand.eq_1 _ _ _ _) ?_
          refine ⟨fun h2534 => ?_, fun h2534 => ?_⟩
          · replace h2534 : r2531.toInt = 3 := h2534
            have o2535 : (15 ≤ (59 : Int32).toInt) ∧ ((59 : Int32).toInt ≤ 125) := by have := (by decide : ((59 : Int32)).toInt = 59); exact ⟨by omega, by omega⟩
            refine h_Rd_take hI2529 ((hL2530 87 0 rfl).2.2.trans ((hL2524 87 0 rfl).2.2.trans ((hL2100 87 0 rfl).2.2.trans ((hL2092 87 0 rfl).2.2.trans hr_87_0)))) o2535.1 o2535.2 (fun w2536 hI2537 hL2538  => ?_)
            have hF2540 : FR l_Rd_readChange w w2536 := hF2533.tr hL2538 rfl
            refine h_Rd_makeNode hI2537 ((hL2538 87 1 rfl).2.2.trans ((hL2530 87 1 rfl).2.2.trans ((hL2524 87 1 rfl).2.2.trans ((hL2100 87 1 rfl).2.2.trans ((hL2092 87 1 rfl).2.2.trans hr_87_1)))))  (fun r2544 w2541 hI2542 hL2543 p2545 p2546 => ?_)
            have hF2547 : FR l_Rd_readChange w w2541 := hF2540.tr hL2543 rfl
            refine Eq.mpr (p_Rd_giveRange.eq_1 _ _ _ _ _) ?_
            refine ⟨((hL2543 87 1 rfl).2.2.trans ((hL2538 87 1 rfl).2.2.trans ((hL2530 87 1 rfl).2.2.trans ((hL2524 87 1 rfl).2.2.trans ((hL2100 87 1 rfl).2.2.trans ((hL2092 87 1 rfl).2.2.trans hr_87_1)))))), ?_⟩
            have o2548 : 0 ≤ r2544.toInt ∧ r2544.toInt < 301 := by omega
            refine ⟨o2548, ?_⟩
            refine ⟨((hL2543 87 1 rfl).2.2.trans ((hL2538 87 1 rfl).2.2.trans ((hL2530 87 1 rfl).2.2.trans ((hL2524 87 1 rfl).2.2.trans ((hL2100 87 1 rfl).2.2.trans ((hL2092 87 1 rfl).2.2.trans hr_87_1)))))), ?_⟩
            have o2549 : 0 ≤ r2544.toInt ∧ r2544.toInt < 301 := by omega
            refine ⟨o2549, ?_⟩
            have o2551 : 0 ≤ (w2090.1 108 1).toInt ∧ (w2090.1 108 1).toInt ≤ 301 := by have := bd_108_1 hI2091; have := bd_108_1 hI; have := (congrArg Int32.toInt (hL2092 108 1 rfl).1); omega
            have hI2550 : BND (sI w2541 111 r2544.toInt.toNat (w2090.1 108 1)) := wbd_111 hI2542 r2544.toInt.toNat o2551.1 o2551.2
            have o2553 : 0 ≤ (w2098.1 108 1).toInt ∧ (w2098.1 108 1).toInt ≤ 301 := by have := bd_108_1 hI2099; omega
            have hI2552 : BND (sI (sI w2541 111 r2544.toInt.toNat (w2090.1 108 1)) 112 r2544.toInt.toNat (w2098.1 108 1)) := wbd_112 hI2550 r2544.toInt.toNat o2553.1 o2553.2
            have o2554 : (0 ≤ r2544.toInt) ∧ (r2544.toInt ≤ 300) ∧ (((sI (sI w2541 111 r2544.toInt.toNat (w2090.1 108 1)) 112 r2544.toInt.toNat (w2098.1 108 1)).1 87 8).toInt = (w.1 87 8).toInt) := by have := bd_87_8 hI2542; have := bd_87_8 hI2537; have := bd_87_8 hI2529; have := (congrArg Int32.toInt (hL2538 87 8 rfl).1); have := (congrArg Int32.toInt (hL2543 87 8 rfl).1); have : ((sI (sI w2541 111 r2544.toInt.toNat (w2090.1 108 1)) 112 r2544.toInt.toNat (w2098.1 108 1)).1 87 8).toInt = (w2541.1 87 8).toInt := rfl; have := bd_87_8 hI; have := bd_87_8 hI2099; have := bd_87_8 hI2091; have := (congrArg Int32.toInt (hL2092 87 8 rfl).1); have := ti_lo r2101; have := ti_hi r2101; have := (by decide : ((0 : Int32)).toInt = 0); have := bd_87_8 hI2523; have := (congrArg Int32.toInt (hL2524 87 8 rfl).1); have := (by decide : ((3 : Int32)).toInt = 3); exact ⟨by omega, by omega, by omega⟩
            exact hQ _ _ hI2552 (FR.I (FR.I hF2547 (k := 111) (j := r2544.toInt.toNat) (v := (w2090.1 108 1)) rfl) (k := 112) (j := r2544.toInt.toNat) (v := (w2098.1 108 1)) rfl)  o2554.1 o2554.2.1 o2554.2.2
          · replace h2534 : ¬ (r2531.toInt = 3) := h2534
            refine Eq.mpr (p_Rd_fail.eq_1 _ _) ?_
            refine ⟨fun h2555 => ?_, fun h2555 => ?_⟩
            · have o2556 : (15 ≤ (59 : Int32).toInt) ∧ ((59 : Int32).toInt ≤ 125) := by have := (by decide : ((59 : Int32)).toInt = 59); exact ⟨by omega, by omega⟩
              refine h_Rd_take hI2529 ((hL2530 87 0 rfl).2.2.trans ((hL2524 87 0 rfl).2.2.trans ((hL2100 87 0 rfl).2.2.trans ((hL2092 87 0 rfl).2.2.trans hr_87_0)))) o2556.1 o2556.2 (fun w2557 hI2558 hL2559  => ?_)
              have hF2561 : FR l_Rd_readChange w w2557 := hF2533.tr hL2559 rfl
              refine h_Rd_makeNode hI2558 ((hL2559 87 1 rfl).2.2.trans ((hL2530 87 1 rfl).2.2.trans ((hL2524 87 1 rfl).2.2.trans ((hL2100 87 1 rfl).2.2.trans ((hL2092 87 1 rfl).2.2.trans hr_87_1)))))  (fun r2565 w2562 hI2563 hL2564 p2566 p2567 => ?_)
              have hF2568 : FR l_Rd_readChange w w2562 := hF2561.tr hL2564 rfl
              refine Eq.mpr (p_Rd_giveRange.eq_1 _ _ _ _ _) ?_
              refine ⟨((hL2564 87 1 rfl).2.2.trans ((hL2559 87 1 rfl).2.2.trans ((hL2530 87 1 rfl).2.2.trans ((hL2524 87 1 rfl).2.2.trans ((hL2100 87 1 rfl).2.2.trans ((hL2092 87 1 rfl).2.2.trans hr_87_1)))))), ?_⟩
              have o2569 : 0 ≤ r2565.toInt ∧ r2565.toInt < 301 := by omega
              refine ⟨o2569, ?_⟩
              refine ⟨((hL2564 87 1 rfl).2.2.trans ((hL2559 87 1 rfl).2.2.trans ((hL2530 87 1 rfl).2.2.trans ((hL2524 87 1 rfl).2.2.trans ((hL2100 87 1 rfl).2.2.trans ((hL2092 87 1 rfl).2.2.trans hr_87_1)))))), ?_⟩
              have o2570 : 0 ≤ r2565.toInt ∧ r2565.toInt < 301 := by omega
              refine ⟨o2570, ?_⟩
              have o2572 : 0 ≤ (w2090.1 108 1).toInt ∧ (w2090.1 108 1).toInt ≤ 301 := by have := bd_108_1 hI2091; have := bd_108_1 hI; have := (congrArg Int32.toInt (hL2092 108 1 rfl).1); omega
              have hI2571 : BND (sI w2562 111 r2565.toInt.toNat (w2090.1 108 1)) := wbd_111 hI2563 r2565.toInt.toNat o2572.1 o2572.2
              have o2574 : 0 ≤ (w2098.1 108 1).toInt ∧ (w2098.1 108 1).toInt ≤ 301 := by have := bd_108_1 hI2099; omega
              have hI2573 : BND (sI (sI w2562 111 r2565.toInt.toNat (w2090.1 108 1)) 112 r2565.toInt.toNat (w2098.1 108 1)) := wbd_112 hI2571 r2565.toInt.toNat o2574.1 o2574.2
              have o2575 : (0 ≤ r2565.toInt) ∧ (r2565.toInt ≤ 300) ∧ (((sI (sI w2562 111 r2565.toInt.toNat (w2090.1 108 1)) 112 r2565.toInt.toNat (w2098.1 108 1)).1 87 8).toInt = (w.1 87 8).toInt) := by have := bd_87_8 hI2563; have := bd_87_8 hI2558; have := bd_87_8 hI2529; have := (congrArg Int32.toInt (hL2559 87 8 rfl).1); have := (congrArg Int32.toInt (hL2564 87 8 rfl).1); have : ((sI (sI w2562 111 r2565.toInt.toNat (w2090.1 108 1)) 112 r2565.toInt.toNat (w2098.1 108 1)).1 87 8).toInt = (w2562.1 87 8).toInt := rfl; have := bd_87_8 hI; have := bd_87_8 hI2099; have := bd_87_8 hI2091; have := (congrArg Int32.toInt (hL2092 87 8 rfl).1); have := ti_lo r2101; have := ti_hi r2101; have := (by decide : ((0 : Int32)).toInt = 0); have := bd_87_8 hI2523; have := (congrArg Int32.toInt (hL2524 87 8 rfl).1); have := ti_lo r2531; have := ti_hi r2531; have := (by decide : ((3 : Int32)).toInt = 3); exact ⟨by omega, by omega, by omega⟩
              exact hQ _ _ hI2573 (FR.I (FR.I hF2568 (k := 111) (j := r2565.toInt.toNat) (v := (w2090.1 108 1)) rfl) (k := 112) (j := r2565.toInt.toNat) (v := (w2098.1 108 1)) rfl)  o2575.1 o2575.2.1 o2575.2.2
            · have hI2576 : BND (sI w2528 87 9 (w2528.1 87 4)) := wbd_87_9 hI2529
              have o2577 : (15 ≤ (59 : Int32).toInt) ∧ ((59 : Int32).toInt ≤ 125) := by have := (by decide : ((59 : Int32)).toInt = 59); exact ⟨by omega, by omega⟩
              refine h_Rd_take hI2576 ((hL2530 87 0 rfl).2.2.trans ((hL2524 87 0 rfl).2.2.trans ((hL2100 87 0 rfl).2.2.trans ((hL2092 87 0 rfl).2.2.trans hr_87_0)))) o2577.1 o2577.2 (fun w2578 hI2579 hL2580  => ?_)
              have hF2582 : FR l_Rd_readChange w w2578 := (FR.I hF2533 (k := 87) (j := 9) (v := (w2528.1 87 4)) rfl).tr hL2580 rfl
              refine h_Rd_makeNode hI2579 ((hL2580 87 1 rfl).2.2.trans ((hL2530 87 1 rfl).2.2.trans ((hL2524 87 1 rfl).2.2.trans ((hL2100 87 1 rfl).2.2.trans ((hL2092 87 1 rfl).2.2.trans hr_87_1)))))  (fun r2586 w2583 hI2584 hL2585 p2587 p2588 => ?_)
              have hF2589 : FR l_Rd_readChange w w2583 := hF2582.tr hL2585 rfl
              refine Eq.mpr (p_Rd_giveRange.eq_1 _ _ _ _ _) ?_
              refine ⟨((hL2585 87 1 rfl).2.2.trans ((hL2580 87 1 rfl).2.2.trans ((hL2530 87 1 rfl).2.2.trans ((hL2524 87 1 rfl).2.2.trans ((hL2100 87 1 rfl).2.2.trans ((hL2092 87 1 rfl).2.2.trans hr_87_1)))))), ?_⟩
              have o2590 : 0 ≤ r2586.toInt ∧ r2586.toInt < 301 := by omega
              refine ⟨o2590, ?_⟩
              refine ⟨((hL2585 87 1 rfl).2.2.trans ((hL2580 87 1 rfl).2.2.trans ((hL2530 87 1 rfl).2.2.trans ((hL2524 87 1 rfl).2.2.trans ((hL2100 87 1 rfl).2.2.trans ((hL2092 87 1 rfl).2.2.trans hr_87_1)))))), ?_⟩
              have o2591 : 0 ≤ r2586.toInt ∧ r2586.toInt < 301 := by omega
              refine ⟨o2591, ?_⟩
              have o2593 : 0 ≤ (w2090.1 108 1).toInt ∧ (w2090.1 108 1).toInt ≤ 301 := by have := bd_108_1 hI2091; have := bd_108_1 hI; have := (congrArg Int32.toInt (hL2092 108 1 rfl).1); omega
              have hI2592 : BND (sI w2583 111 r2586.toInt.toNat (w2090.1 108 1)) := wbd_111 hI2584 r2586.toInt.toNat o2593.1 o2593.2
              have o2595 : 0 ≤ (w2098.1 108 1).toInt ∧ (w2098.1 108 1).toInt ≤ 301 := by have := bd_108_1 hI2099; omega
              have hI2594 : BND (sI (sI w2583 111 r2586.toInt.toNat (w2090.1 108 1)) 112 r2586.toInt.toNat (w2098.1 108 1)) := wbd_112 hI2592 r2586.toInt.toNat o2595.1 o2595.2
              have o2596 : (0 ≤ r2586.toInt) ∧ (r2586.toInt ≤ 300) ∧ (((sI (sI w2583 111 r2586.toInt.toNat (w2090.1 108 1)) 112 r2586.toInt.toNat (w2098.1 108 1)).1 87 8).toInt = (w.1 87 8).toInt) := by have := bd_87_8 hI2584; have := bd_87_8 hI2579; have := bd_87_8 hI2529; have : ((sI w2528 87 9 (w2528.1 87 4)).1 87 8).toInt = (w2528.1 87 8).toInt := rfl; have := (congrArg Int32.toInt (hL2580 87 8 rfl).1); have := (congrArg Int32.toInt (hL2585 87 8 rfl).1); have : ((sI (sI w2583 111 r2586.toInt.toNat (w2090.1 108 1)) 112 r2586.toInt.toNat (w2098.1 108 1)).1 87 8).toInt = (w2583.1 87 8).toInt := rfl; have := bd_87_8 hI; have := bd_87_8 hI2099; have := bd_87_8 hI2091; have := (congrArg Int32.toInt (hL2092 87 8 rfl).1); have := ti_lo r2101; have := ti_hi r2101; have := (by decide : ((0 : Int32)).toInt = 0); have := bd_87_8 hI2523; have := (congrArg Int32.toInt (hL2524 87 8 rfl).1); have := ti_lo r2531; have := ti_hi r2531; have := (by decide : ((3 : Int32)).toInt = 3); exact ⟨by omega, by omega, by omega⟩
              exact hQ _ _ hI2594 (FR.I (FR.I hF2589 (k := 111) (j := r2586.toInt.toNat) (v := (w2090.1 108 1)) rfl) (k := 112) (j := r2586.toInt.toNat) (v := (w2098.1 108 1)) rfl)  o2596.1 o2596.2.1 o2596.2.2
      · refine ⟨((hL2100 87 1 rfl).2.2.trans ((hL2092 87 1 rfl).2.2.trans hr_87_1)), ?_⟩
        refine ⟨fun h2597 => ?_, fun h2597 => ?_⟩
        · have hI2598 : BND (sI w2098 87 9 (w2098.1 87 4)) := wbd_87_9 hI2099
          have o2599 : (15 ≤ (59 : Int32).toInt) ∧ ((59 : Int32).toInt ≤ 125) := by have := (by decide : ((59 : Int32)).toInt = 59); exact ⟨by omega, by omega⟩
          refine h_Rd_take hI2598 ((hL2100 87 0 rfl).2.2.trans ((hL2092 87 0 rfl).2.2.trans hr_87_0)) o2599.1 o2599.2 (fun w2600 hI2601 hL2602  => ?_)
          have hF2604 : FR l_Rd_readChange w w2600 := (FR.I hF2103 (k := 87) (j := 9) (v := (w2098.1 87 4)) rfl).tr hL2602 rfl
          refine h_Rd_makeNode hI2601 ((hL2602 87 1 rfl).2.2.trans ((hL2100 87 1 rfl).2.2.trans ((hL2092 87 1 rfl).2.2.trans hr_87_1)))  (fun r2608 w2605 hI2606 hL2607 p2609 p2610 => ?_)
          have hF2611 : FR l_Rd_readChange w w2605 := hF2604.tr hL2607 rfl
          refine Eq.mpr (p_Rd_giveRange.eq_1 _ _ _ _ _) ?_
          refine ⟨((hL2607 87 1 rfl).2.2.trans ((hL2602 87 1 rfl).2.2.trans ((hL2100 87 1 rfl).2.2.trans ((hL2092 87 1 rfl).2.2.trans hr_87_1)))), ?_⟩
          have o2612 : 0 ≤ r2608.toInt ∧ r2608.toInt < 301 := by omega
          refine ⟨o2612, ?_⟩
          refine ⟨((hL2607 87 1 rfl).2.2.trans ((hL2602 87 1 rfl).2.2.trans ((hL2100 87 1 rfl).2.2.trans ((hL2092 87 1 rfl).2.2.trans hr_87_1)))), ?_⟩
          have o2613 : 0 ≤ r2608.toInt ∧ r2608.toInt < 301 := by omega
          refine ⟨o2613, ?_⟩
          have o2615 : 0 ≤ (w2090.1 108 1).toInt ∧ (w2090.1 108 1).toInt ≤ 301 := by have := bd_108_1 hI2091; have := bd_108_1 hI; have := (congrArg Int32.toInt (hL2092 108 1 rfl).1); omega
          have hI2614 : BND (sI w2605 111 r2608.toInt.toNat (w2090.1 108 1)) := wbd_111 hI2606 r2608.toInt.toNat o2615.1 o2615.2
          have o2617 : 0 ≤ ((sI w2098 87 9 (w2098.1 87 4)).1 108 1).toInt ∧ ((sI w2098 87 9 (w2098.1 87 4)).1 108 1).toInt ≤ 301 := by have := bd_108_1 hI2099; have : ((sI w2098 87 9 (w2098.1 87 4)).1 108 1).toInt = (w2098.1 108 1).toInt := rfl; omega
          have hI2616 : BND (sI (sI w2605 111 r2608.toInt.toNat (w2090.1 108 1)) 112 r2608.toInt.toNat ((sI w2098 87 9 (w2098.1 87 4)).1 108 1)) := wbd_112 hI2614 r2608.toInt.toNat o2617.1 o2617.2
          have o2618 : (0 ≤ r2608.toInt) ∧ (r2608.toInt ≤ 300) ∧ (((sI (sI w2605 111 r2608.toInt.toNat (w2090.1 108 1)) 112 r2608.toInt.toNat ((sI w2098 87 9 (w2098.1 87 4)).1 108 1)).1 87 8).toInt = (w.1 87 8).toInt) := by have := bd_87_8 hI2606; have := bd_87_8 hI2601; have := bd_87_8 hI2099; have : ((sI w2098 87 9 (w2098.1 87 4)).1 87 8).toInt = (w2098.1 87 8).toInt := rfl; have := (congrArg Int32.toInt (hL2602 87 8 rfl).1); have := (congrArg Int32.toInt (hL2607 87 8 rfl).1); have : ((sI (sI w2605 111 r2608.toInt.toNat (w2090.1 108 1)) 112 r2608.toInt.toNat ((sI w2098 87 9 (w2098.1 87 4)).1 108 1)).1 87 8).toInt = (w2605.1 87 8).toInt := rfl; have := bd_87_8 hI; have := bd_87_8 hI2091; have := (congrArg Int32.toInt (hL2092 87 8 rfl).1); have := ti_lo r2101; have := ti_hi r2101; have := (by decide : ((0 : Int32)).toInt = 0); exact ⟨by omega, by omega, by omega⟩
          exact hQ _ _ hI2616 (FR.I (FR.I hF2611 (k := 111) (j := r2608.toInt.toNat) (v := (w2090.1 108 1)) rfl) (k := 112) (j := r2608.toInt.toNat) (v := ((sI w2098 87 9 (w2098.1 87 4)).1 108 1)) rfl)  o2618.1 o2618.2.1 o2618.2.2
        · have hI2619 : BND (sI w2098 87 9 (w2098.1 87 4)) := wbd_87_9 hI2099
          have o2620 : (15 ≤ (15 : Int32).toInt) ∧ ((15 : Int32).toInt ≤ 125) := by have := (by decide : ((15 : Int32)).toInt = 15); exact ⟨by omega, by omega⟩
          refine h_Rd_take hI2619 ((hL2100 87 0 rfl).2.2.trans ((hL2092 87 0 rfl).2.2.trans hr_87_0)) o2620.1 o2620.2 (fun w2621 hI2622 hL2623  => ?_)
          have hF2625 : FR l_Rd_readChange w w2621 := (FR.I hF2103 (k := 87) (j := 9) (v := (w2098.1 87 4)) rfl).tr hL2623 rfl
          have o2626 : (0 ≤ (1 : Int32).toInt) ∧ ((1 : Int32).toInt ≤ 2) := by have := (by decide : ((1 : Int32)).toInt = 1); exact ⟨by omega, by omega⟩
          refine h_Rd_readLevel hI2622 ((hL2623 87 0 rfl).2.2.trans ((hL2100 87 0 rfl).2.2.trans ((hL2092 87 0 rfl).2.2.trans hr_87_0))) ((hL2623 87 1 rfl).2.2.trans ((hL2100 87 1 rfl).2.2.trans ((hL2092 87 1 rfl).2.2.trans hr_87_1))) o2626.1 o2626.2 (fun r2630 w2627 hI2628 hL2629 p2631 => ?_)
          have hF2632 : FR l_Rd_readChange w w2627 := hF2625.tr hL2629 rfl
          refine Eq.mpr (p_Rd_demand.eq_1 _ _ _ _) ?_
          refine ⟨fun h2633 => ?_, fun h2633 => ?_⟩
          · replace h2633 : r2630.toInt = 3 := h2633
            have o2634 : (15 ≤ (59 : Int32).toInt) ∧ ((59 : Int32).toInt ≤ 125) := by have := (by decide : ((59 : Int32)).toInt = 59); exact ⟨by omega, by omega⟩
            refine h_Rd_take hI2628 ((hL2629 87 0 rfl).2.2.trans ((hL2623 87 0 rfl).2.2.trans ((hL2100 87 0 rfl).2.2.trans ((hL2092 87 0 rfl).2.2.trans hr_87_0)))) o2634.1 o2634.2 (fun w2635 hI2636 hL2637  => ?_)
            have hF2639 : FR l_Rd_readChange w w2635 := hF2632.tr hL2637 rfl
            refine h_Rd_makeNode hI2636 ((hL2637 87 1 rfl).2.2.trans ((hL2629 87 1 rfl).2.2.trans ((hL2623 87 1 rfl).2.2.trans ((hL2100 87 1 rfl).2.2.trans ((hL2092 87 1 rfl).2.2.trans hr_87_1)))))  (fun r2643 w2640 hI2641 hL2642 p2644 p2645 => ?_)
            have hF2646 : FR l_Rd_readChange w w2640 := hF2639.tr hL2642 rfl
            refine Eq.mpr (p_Rd_giveRange.eq_1 _ _ _ _ _) ?_
            refine ⟨((hL2642 87 1 rfl).2.2.trans ((hL2637 87 1 rfl).2.2.trans ((hL2629 87 1 rfl).2.2.trans ((hL2623 87 1 rfl).2.2.trans ((hL2100 87 1 rfl).2.2.trans ((hL2092 87 1 rfl).2.2.trans hr_87_1)))))), ?_⟩
            have o2647 : 0 ≤ r2643.toInt ∧ r2643.toInt < 301 := by omega
            refine ⟨o2647, ?_⟩
            refine ⟨((hL2642 87 1 rfl).2.2.trans ((hL2637 87 1 rfl).2.2.trans ((hL2629 87 1 rfl).2.2.trans ((hL2623 87 1 rfl).2.2.trans ((hL2100 87 1 rfl).2.2.trans ((hL2092 87 1 rfl).2.2.trans hr_87_1)))))), ?_⟩
            have o2648 : 0 ≤ r2643.toInt ∧ r2643.toInt < 301 := by omega
            refine ⟨o2648, ?_⟩
            have o2650 : 0 ≤ (w2090.1 108 1).toInt ∧ (w2090.1 108 1).toInt ≤ 301 := by have := bd_108_1 hI2091; have := bd_108_1 hI; have := (congrArg Int32.toInt (hL2092 108 1 rfl).1); omega
            have hI2649 : BND (sI w2640 111 r2643.toInt.toNat (w2090.1 108 1)) := wbd_111 hI2641 r2643.toInt.toNat o2650.1 o2650.2
            have o2652 : 0 ≤ ((sI w2098 87 9 (w2098.1 87 4)).1 108 1).toInt ∧ ((sI w2098 87 9 (w2098.1 87 4)).1 108 1).toInt ≤ 301 := by have := bd_108_1 hI2099; have : ((sI w2098 87 9 (w2098.1 87 4)).1 108 1).toInt = (w2098.1 108 1).toInt := rfl; omega
            have hI2651 : BND (sI (sI w2640 111 r2643.toInt.toNat (w2090.1 108 1)) 112 r2643.toInt.toNat ((sI w2098 87 9 (w2098.1 87 4)).1 108 1)) := wbd_112 hI2649 r2643.toInt.toNat o2652.1 o2652.2
            have o2653 : (0 ≤ r2643.toInt) ∧ (r2643.toInt ≤ 300) ∧ (((sI (sI w2640 111 r2643.toInt.toNat (w2090.1 108 1)) 112 r2643.toInt.toNat ((sI w2098 87 9 (w2098.1 87 4)).1 108 1)).1 87 8).toInt = (w.1 87 8).toInt) := by have := bd_87_8 hI2641; have := bd_87_8 hI2636; have := bd_87_8 hI2628; have := (congrArg Int32.toInt (hL2637 87 8 rfl).1); have := (congrArg Int32.toInt (hL2642 87 8 rfl).1); have : ((sI (sI w2640 111 r2643.toInt.toNat (w2090.1 108 1)) 112 r2643.toInt.toNat ((sI w2098 87 9 (w2098.1 87 4)).1 108 1)).1 87 8).toInt = (w2640.1 87 8).toInt := rfl; have := bd_87_8 hI; have := bd_87_8 hI2099; have := bd_87_8 hI2091; have := (congrArg Int32.toInt (hL2092 87 8 rfl).1); have := ti_lo r2101; have := ti_hi r2101; have := (by decide : ((0 : Int32)).toInt = 0); have := bd_87_8 hI2622; have : ((sI w2098 87 9 (w2098.1 87 4)).1 87 8).toInt = (w2098.1 87 8).toInt := rfl; have := (congrArg Int32.toInt (hL2623 87 8 rfl).1); have := (by decide : ((3 : Int32)).toInt = 3); exact ⟨by omega, by omega, by omega⟩
            exact hQ _ _ hI2651 (FR.I (FR.I hF2646 (k := 111) (j := r2643.toInt.toNat) (v := (w2090.1 108 1)) rfl) (k := 112) (j := r2643.toInt.toNat) (v := ((sI w2098 87 9 (w2098.1 87 4)).1 108 1)) rfl)  o2653.1 o2653.2.1 o2653.2.2
          · replace h2633 : ¬ (r2630.toInt = 3) := h2633
            refine Eq.mpr (p_Rd_fail.eq_1 _ _) ?_
            refine ⟨fun h2654 => ?_, fun h2654 => ?_⟩
            · have o2655 : (15 ≤ (59 : Int32).toInt) ∧ ((59 : Int32).toInt ≤ 125) := by have := (by decide : ((59 : Int32)).toInt = 59); exact ⟨by omega, by omega⟩
              refine h_Rd_take hI2628 ((hL2629 87 0 rfl).2.2.trans ((hL2623 87 0 rfl).2.2.trans ((hL2100 87 0 rfl).2.2.trans ((hL2092 87 0 rfl).2.2.trans hr_87_0)))) o2655.1 o2655.2 (fun w2656 hI2657 hL2658  => ?_)
              have hF2660 : FR l_Rd_readChange w w2656 := hF2632.tr hL2658 rfl
              refine h_Rd_makeNode hI2657 ((hL2658 87 1 rfl).2.2.trans ((hL2629 87 1 rfl).2.2.trans ((hL2623 87 1 rfl).2.2.trans ((hL2100 87 1 rfl).2.2.trans ((hL2092 87 1 rfl).2.2.trans hr_87_1)))))  (fun r2664 w2661 hI2662 hL2663 p2665 p2666 => ?_)
              have hF2667 : FR l_Rd_readChange w w2661 := hF2660.tr hL2663 rfl
              refine Eq.mpr (p_Rd_giveRange.eq_1 _ _ _ _ _) ?_
              refine ⟨((hL2663 87 1 rfl).2.2.trans ((hL2658 87 1 rfl).2.2.trans ((hL2629 87 1 rfl).2.2.trans ((hL2623 87 1 rfl).2.2.trans ((hL2100 87 1 rfl).2.2.trans ((hL2092 87 1 rfl).2.2.trans hr_87_1)))))), ?_⟩
              have o2668 : 0 ≤ r2664.toInt ∧ r2664.toInt < 301 := by omega
              refine ⟨o2668, ?_⟩
              refine ⟨((hL2663 87 1 rfl).2.2.trans ((hL2658 87 1 rfl).2.2.trans ((hL2629 87 1 rfl).2.2.trans ((hL2623 87 1 rfl).2.2.trans ((hL2100 87 1 rfl).2.2.trans ((hL2092 87 1 rfl).2.2.trans hr_87_1)))))), ?_⟩
              have o2669 : 0 ≤ r2664.toInt ∧ r2664.toInt < 301 := by omega
              refine ⟨o2669, ?_⟩
              have o2671 : 0 ≤ (w2090.1 108 1).toInt ∧ (w2090.1 108 1).toInt ≤ 301 := by have := bd_108_1 hI2091; have := bd_108_1 hI; have := (congrArg Int32.toInt (hL2092 108 1 rfl).1); omega
              have hI2670 : BND (sI w2661 111 r2664.toInt.toNat (w2090.1 108 1)) := wbd_111 hI2662 r2664.toInt.toNat o2671.1 o2671.2
              have o2673 : 0 ≤ ((sI w2098 87 9 (w2098.1 87 4)).1 108 1).toInt ∧ ((sI w2098 87 9 (w2098.1 87 4)).1 108 1).toInt ≤ 301 := by have := bd_108_1 hI2099; have : ((sI w2098 87 9 (w2098.1 87 4)).1 108 1).toInt = (w2098.1 108 1).toInt := rfl; omega
              have hI2672 : BND (sI (sI w2661 111 r2664.toInt.toNat (w2090.1 108 1)) 112 r2664.toInt.toNat ((sI w2098 87 9 (w2098.1 87 4)).1 108 1)) := wbd_112 hI2670 r2664.toInt.toNat o2673.1 o2673.2
              have o2674 : (0 ≤ r2664.toInt) ∧ (r2664.toInt ≤ 300) ∧ (((sI (sI w2661 111 r2664.toInt.toNat (w2090.1 108 1)) 112 r2664.toInt.toNat ((sI w2098 87 9 (w2098.1 87 4)).1 108 1)).1 87 8).toInt = (w.1 87 8).toInt) := by have := bd_87_8 hI2662; have := bd_87_8 hI2657; have := bd_87_8 hI2628; have := (congrArg Int32.toInt (hL2658 87 8 rfl).1); have := (congrArg Int32.toInt (hL2663 87 8 rfl).1); have : ((sI (sI w2661 111 r2664.toInt.toNat (w2090.1 108 1)) 112 r2664.toInt.toNat ((sI w2098 87 9 (w2098.1 87 4)).1 108 1)).1 87 8).toInt = (w2661.1 87 8).toInt := rfl; have := bd_87_8 hI; have := bd_87_8 hI2099; have := bd_87_8 hI2091; have := (congrArg Int32.toInt (hL2092 87 8 rfl).1); have := ti_lo r2101; have := ti_hi r2101; have := (by decide : ((0 : Int32)).toInt = 0); have := bd_87_8 hI2622; have : ((sI w2098 87 9 (w2098.1 87 4)).1 87 8).toInt = (w2098.1 87 8).toInt := rfl; have := (congrArg Int32.toInt (hL2623 87 8 rfl).1); have := ti_lo r2630; have := ti_hi r2630; have := (by decide : ((3 : Int32)).toInt = 3); exact ⟨by omega, by omega, by omega⟩
              exact hQ _ _ hI2672 (FR.I (FR.I hF2667 (k := 111) (j := r2664.toInt.toNat) (v := (w2090.1 108 1)) rfl) (k := 112) (j := r2664.toInt.toNat) (v := ((sI w2098 87 9 (w2098.1 87 4)).1 108 1)) rfl)  o2674.1 o2674.2.1 o2674.2.2
            · have hI2675 : BND (sI w2627 87 9 (w2627.1 87 4)) := wbd_87_9 hI2628
              have o2676 : (15 ≤ (59 : Int32).toInt) ∧ ((59 : Int32).toInt ≤ 125) := by have := (by decide : ((59 : Int32)).toInt = 59); exact ⟨by omega, by omega⟩
              refine h_Rd_take hI2675 ((hL2629 87 0 rfl).2.2.trans ((hL2623 87 0 rfl).2.2.trans ((hL2100 87 0 rfl).2.2.trans ((hL2092 87 0 rfl).2.2.trans hr_87_0)))) o2676.1 o2676.2 (fun w2677 hI2678 hL2679  => ?_)
              have hF2681 : FR l_Rd_readChange w w2677 := (FR.I hF2632 (k := 87) (j := 9) (v := (w2627.1 87 4)) rfl).tr hL2679 rfl
              refine h_Rd_makeNode hI2678 ((hL2679 87 1 rfl).2.2.trans ((hL2629 87 1 rfl).2.2.trans ((hL2623 87 1 rfl).2.2.trans ((hL2100 87 1 rfl).2.2.trans ((hL2092 87 1 rfl).2.2.trans hr_87_1)))))  (fun r2685 w2682 hI2683 hL2684 p2686 p2687 => ?_)
              have hF2688 : FR l_Rd_readChange w w2682 := hF2681.tr hL2684 rfl
              refine Eq.mpr (p_Rd_giveRange.eq_1 _ _ _ _ _) ?_
              refine ⟨((hL2684 87 1 rfl).2.2.trans ((hL2679 87 1 rfl).2.2.trans ((hL2629 87 1 rfl).2.2.trans ((hL2623 87 1 rfl).2.2.trans ((hL2100 87 1 rfl).2.2.trans ((hL2092 87 1 rfl).2.2.trans hr_87_1)))))), ?_⟩
              have o2689 : 0 ≤ r2685.toInt ∧ r2685.toInt < 301 := by omega
              refine ⟨o2689, ?_⟩
              refine ⟨((hL2684 87 1 rfl).2.2.trans ((hL2679 87 1 rfl).2.2.trans ((hL2629 87 1 rfl).2.2.trans ((hL2623 87 1 rfl).2.2.trans ((hL2100 87 1 rfl).2.2.trans ((hL2092 87 1 rfl).2.2.trans hr_87_1)))))), ?_⟩
              have o2690 : 0 ≤ r2685.toInt ∧ r2685.toInt < 301 := by omega
              refine ⟨o2690, ?_⟩
              have o2692 : 0 ≤ (w2090.1 108 1).toInt ∧ (w2090.1 108 1).toInt ≤ 301 := by have := bd_108_1 hI2091; have := bd_108_1 hI; have := (congrArg Int32.toInt (hL2092 108 1 rfl).1); omega
              have hI2691 : BND (sI w2682 111 r2685.toInt.toNat (w2090.1 108 1)) := wbd_111 hI2683 r2685.toInt.toNat o2692.1 o2692.2
              have o2694 : 0 ≤ ((sI w2098 87 9 (w2098.1 87 4)).1 108 1).toInt ∧ ((sI w2098 87 9 (w2098.1 87 4)).1 108 1).toInt ≤ 301 := by have := bd_108_1 hI2099; have : ((sI w2098 87 9 (w2098.1 87 4)).1 108 1).toInt = (w2098.1 108 1).toInt := rfl; omega
              have hI2693 : BND (sI (sI w2682 111 r2685.toInt.toNat (w2090.1 108 1)) 112 r2685.toInt.toNat ((sI w2098 87 9 (w2098.1 87 4)).1 108 1)) := wbd_112 hI2691 r2685.toInt.toNat o2694.1 o2694.2
              have o2695 : (0 ≤ r2685.toInt) ∧ (r2685.toInt ≤ 300) ∧ (((sI (sI w2682 111 r2685.toInt.toNat (w2090.1 108 1)) 112 r2685.toInt.toNat ((sI w2098 87 9 (w2098.1 87 4)).1 108 1)).1 87 8).toInt = (w.1 87 8).toInt) := by have := bd_87_8 hI2683; have := bd_87_8 hI2678; have := bd_87_8 hI2628; have : ((sI w2627 87 9 (w2627.1 87 4)).1 87 8).toInt = (w2627.1 87 8).toInt := rfl; have := (congrArg Int32.toInt (hL2679 87 8 rfl).1); have := (congrArg Int32.toInt (hL2684 87 8 rfl).1); have : ((sI (sI w2682 111 r2685.toInt.toNat (w2090.1 108 1)) 112 r2685.toInt.toNat ((sI w2098 87 9 (w2098.1 87 4)).1 108 1)).1 87 8).toInt = (w2682.1 87 8).toInt := rfl; have := bd_87_8 hI; have := bd_87_8 hI2099; have := bd_87_8 hI2091; have := (congrArg Int32.toInt (hL2092 87 8 rfl).1); have := ti_lo r2101; have := ti_hi r2101; have := (by decide : ((0 : Int32)).toInt = 0); have := bd_87_8 hI2622; have : ((sI w2098 87 9 (w2098.1 87 4)).1 87 8).toInt = (w2098.1 87 8).toInt := rfl; have := (congrArg Int32.toInt (hL2623 87 8 rfl).1); have := ti_lo r2630; have := ti_hi r2630; have := (by decide : ((3 : Int32)).toInt = 3); exact ⟨by omega, by omega, by omega⟩
              exact hQ _ _ hI2693 (FR.I (FR.I hF2688 (k := 111) (j := r2685.toInt.toNat) (v := (w2090.1 108 1)) rfl) (k := 112) (j := r2685.toInt.toNat) (v := ((sI w2098 87 9 (w2098.1 87 4)).1 108 1)) rfl)  o2695.1 o2695.2.1 o2695.2.2
