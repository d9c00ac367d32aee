def l_Rd_take : Pl := [(87, some 2), (87, some 3), (87, some 4), (87, some 5), (87, some 6), (87, some 7), (87, some 9)]
set_option maxRecDepth 20000 in
set_option maxHeartbeats 2000000 in
theorem h_Rd_take {w : MW} {a0 : Int32} {Q : MW → Prop} (hI : BND w) (hr_87_0 : w.2.2 87 0 = some 1) (hp0 : 15 ≤ a0.toInt) (hp1 : a0.toInt ≤ 125) (hQ : ∀ (w' : MW), BND w' → FR l_Rd_take w w' → Q w') : p_Rd_take w a0 Q := by
  refine Eq.mpr (p_Rd_take.eq_1 _ _ _) ?_
  refine ⟨fun h2067 => ?_, fun h2067 => ?_⟩
  · refine Eq.mpr (p_Rd_fail.eq_1 _ _) ?_
    refine ⟨fun _ => ?_, fun h => absurd h2067 h⟩
    exact hQ _ hI (FR.refl _ w) 
  · refine ⟨fun h2068 => ?_, fun h2068 => ?_⟩
    · refine h_Rd_nextWord hI hr_87_0  (fun w2069 hI2070 hL2071  => ?_)
      have hF2073 : FR l_Rd_take w w2069 := (FR.refl _ w).tr hL2071 rfl
      exact hQ _ hI2070 hF2073 
    · refine Eq.mpr (p_Rd_fail.eq_1 _ _) ?_
      refine ⟨fun h => absurd h h2067, fun _ => ?_⟩
      have hI2074 : BND (sI w 87 9 (w.1 87 4)) := wbd_87_9 hI
      exact hQ _ hI2074 (FR.I (FR.refl _ w) (k := 87) (j := 9) (v := (w.1 87 4)) rfl) 
def l_Rd_takeName_31 : Pl := [(87, some 2), (87, some 3), (87, some 4), (87, some 5), (87, some 6), (87, some 7), (87, some 9)]
def l_Rd_takeName : Pl := [(87, some 2), (87, some 3), (87, some 4), (87, some 5), (87, some 6), (87, some 7), (87, some 9)]
set_option maxRecDepth 20000 in
set_option maxHeartbeats 2000000 in
theorem h_Rd_takeName {w : MW} {a0 : Int32} {Q : Int32 → MW → Prop} (hI : BND w) (hr_87_0 : w.2.2 87 0 = some 1) (hr_87_1 : w.2.2 87 1 = some 108) (hp0 : 8 ≤ a0.toInt) (hp1 : a0.toInt ≤ 10) (hQ : ∀ (r : Int32) (w' : MW), BND w' → FR l_Rd_takeName w w' → (-1) ≤ r.toInt → r.toInt ≤ 39 → r.toInt < 0 ∨ (w'.1 117 r.toInt.toNat).toInt = a0.toInt → Q r w') : p_Rd_takeName w a0 Q := by
  refine Eq.mpr (p_Rd_takeName.eq_1 _ _ _) ?_
  refine ⟨fun h2075 => ?_, fun h2075 => ?_⟩
  · refine Eq.mpr (q_Rd_takeName_31.eq_1 _ _ _ _) ?_
    refine ⟨fun _ => ?_, fun h => absurd (by decide) h⟩
    refine Eq.mpr (p_Rd_fail.eq_1 _ _) ?_
    refine ⟨fun _ => ?_, fun h => absurd h2075 h⟩
    have o2076 : ((-1) ≤ ((-1) : Int32).toInt) ∧ (((-1) : Int32).toInt ≤ 39) ∧ (((-1) : Int32).toInt < 0 ∨ (w.1 117 ((-1) : Int32).toInt.toNat).toInt = a0.toInt) := by have := (by decide : (((-1) : Int32)).toInt = (-1)); exact ⟨by omega, by omega, by omega⟩
    exact hQ _ _ hI (FR.refl _ w)  o2076.1 o2076.2.1 o2076.2.2
  · refine ⟨fun h2077 => ?_, fun h2077 => ?_⟩
    · refine Eq.mpr (q_Rd_takeName_31.eq_1 _ _ _ _) ?_
      refine ⟨fun _ => ?_, fun h => absurd (by decide) h⟩
      refine Eq.mpr (p_Rd_fail.eq_1 _ _) ?_
      refine ⟨fun h => absurd h h2075, fun _ => ?_⟩
      have hI2078 : BND (sI w 87 9 (w.1 87 4)) := wbd_87_9 hI
      have o2079 : ((-1) ≤ ((-1) : Int32).toInt) ∧ (((-1) : Int32).toInt ≤ 39) ∧ (((-1) : Int32).toInt < 0 ∨ ((sI w 87 9 (w.1 87 4)).1 117 ((-1) : Int32).toInt.toNat).toInt = a0.toInt) := by have := (by decide : (((-1) : Int32)).toInt = (-1)); have : ((sI w 87 9 (w.1 87 4)).1 117 (((-1) : Int32).toInt.toNat)).toInt = (w.1 117 (((-1) : Int32).toInt.toNat)).toInt := rfl; exact ⟨by omega, by omega, by omega⟩
      exact hQ _ _ hI2078 (FR.I (FR.refl _ w) (k := 87) (j := 9) (v := (w.1 87 4)) rfl)  o2079.1 o2079.2.1 o2079.2.2
    · refine ⟨hr_87_1, ?_⟩
      refine h_Pr_finds108 hI   (fun r2083 w2080 hI2081 hL2082 p2084 p2085 => ?_)
      have hF2086 : FR l_Rd_takeName w w2080 := (FR.refl _ w).tr hL2082 rfl
      refine Eq.mpr (q_Rd_takeName_31.eq_1 _ _ _ _) ?_
      refine ⟨fun h2087 => ?_, fun h2087 => ?_⟩
      · refine Eq.mpr (p_Rd_fail.eq_1 _ _) ?_
        refine ⟨fun h2088 => ?_, fun h2088 => ?_⟩
        · have o2089 : ((-1) ≤ ((-1) : Int32).toInt) ∧ (((-1) : Int32).toInt ≤ 39) ∧ (((-1) : Int32).toInt < 0 ∨ (w2080.1 117 ((-1) : Int32).toInt.toNat).toInt = a0.toInt) := by have := (by decide : (((-1) : Int32)).toInt = (-1)); have := (congrArg Int32.toInt (hL2082 117 (((-1) : Int32).toInt.toNat) rfl).1); exact ⟨by omega, by omega, by omega⟩
          exact hQ _ _ hI2081 hF2086  o2089.1 o2089.2.1 o2089.2.2
        · have hI2090 : BND (sI w2080 87 9 (w2080.1 87 4)) := wbd_87_9 hI2081
          have o2091 : ((-1) ≤ ((-1) : Int32).toInt) ∧ (((-1) : Int32).toInt ≤ 39) ∧ (((-1) : Int32).toInt < 0 ∨ ((sI w2080 87 9 (w2080.1 87 4)).1 117 ((-1) : Int32).toInt.toNat).toInt = a0.toInt) := by have := (by decide : (((-1) : Int32)).toInt = (-1)); have := (congrArg Int32.toInt (hL2082 117 (((-1) : Int32).toInt.toNat) rfl).1); have : ((sI w2080 87 9 (w2080.1 87 4)).1 117 (((-1) : Int32).toInt.toNat)).toInt = (w2080.1 117 (((-1) : Int32).toInt.toNat)).toInt := rfl; exact ⟨by omega, by omega, by omega⟩
          exact hQ _ _ hI2090 (FR.I hF2086 (k := 87) (j := 9) (v := (w2080.1 87 4)) rfl)  o2091.1 o2091.2.1 o2091.2.2
      · refine ⟨((hL2082 87 1 rfl).2.2.trans hr_87_1), ?_⟩
        have o2092 : 0 ≤ r2083.toInt ∧ r2083.toInt < 40 := by have := (by decide : ((0 : Int32)).toInt = 0); omega
        refine ⟨o2092, ?_⟩
        refine ⟨fun h2093 => ?_, fun h2093 => ?_⟩
        · refine h_Rd_nextWord hI2081 ((hL2082 87 0 rfl).2.2.trans hr_87_0)  (fun w2094 hI2095 hL2096  => ?_)
          have hF2098 : FR l_Rd_takeName w w2094 := hF2086.tr hL2096 rfl
          have o2099 : ((-1) ≤ r2083.toInt) ∧ (r2083.toInt ≤ 39) ∧ (r2083.toInt < 0 ∨ (w2094.1 117 r2083.toInt.toNat).toInt = a0.toInt) := by have := (congrArg Int32.toInt (hL2082 117 r2083.toInt.toNat rfl).1); have := (congrArg Int32.toInt (hL2096 117 r2083.toInt.toNat rfl).1); have := (by decide : ((0 : Int32)).toInt = 0); exact ⟨by omega, by omega, by omega⟩
          exact hQ _ _ hI2095 hF2098  o2099.1 o2099.2.1 o2099.2.2
        · refine Eq.mpr (p_Rd_fail.eq_1 _ _) ?_
          refine ⟨fun h2100 => ?_, fun h2100 => ?_⟩
          · have o2101 : ((-1) ≤ ((-1) : Int32).toInt) ∧ (((-1) : Int32).toInt ≤ 39) ∧ (((-1) : Int32).toInt < 0 ∨ (w2080.1 117 ((-1) : Int32).toInt.toNat).toInt = a0.toInt) := by have := (by decide : (((-1) : Int32)).toInt = (-1)); have := (congrArg Int32.toInt (hL2082 117 (((-1) : Int32).toInt.toNat) rfl).1); have := (congrArg Int32.toInt (hL2082 117 r2083.toInt.toNat rfl).1); exact ⟨by omega, by omega, by omega⟩
            exact hQ _ _ hI2081 hF2086  o2101.1 o2101.2.1 o2101.2.2
          · have hI2102 : BND (sI w2080 87 9 (w2080.1 87 4)) := wbd_87_9 hI2081
            have o2103 : ((-1) ≤ ((-1) : Int32).toInt) ∧ (((-1) : Int32).toInt ≤ 39) ∧ (((-1) : Int32).toInt < 0 ∨ ((sI w2080 87 9 (w2080.1 87 4)).1 117 ((-1) : Int32).toInt.toNat).toInt = a0.toInt) := by have := (by decide : (((-1) : Int32)).toInt = (-1)); have := (congrArg Int32.toInt (hL2082 117 (((-1) : Int32).toInt.toNat) rfl).1); have : ((sI w2080 87 9 (w2080.1 87 4)).1 117 (((-1) : Int32).toInt.toNat)).toInt = (w2080.1 117 (((-1) : Int32).toInt.toNat)).toInt := rfl; have := (congrArg Int32.toInt (hL2082 117 r2083.toInt.toNat rfl).1); exact ⟨by omega, by omega, by omega⟩
            exact hQ _ _ hI2102 (FR.I hF2086 (k := 87) (j := 9) (v := (w2080.1 87 4)) rfl)  o2103.1 o2103.2.1 o2103.2.2
def l_Rd_readChange_38 : Pl := [(87, some 2), (87, some 3), (87, some 4), (87, some 5), (87, some 6), (87, some 7), (87, some 8), (87, some 9), (88, none), (89, none), (108, some 1), (109, none), (110, none), (111, none), (112, none), (113, none), (114, none), (115, none)]
def l_Rd_readChange : Pl := [(87, some 2), (87, some 3), (87, some 4), (87, some 5), (87, some 6), (87, some 7), (87, some 8), (87, some 9), (88, none), (89, none), (108, some 1), (109, none), (110, none), (111, none), (112, none), (113, none), (114, none), (115, none)]
set_option maxRecDepth 20000 in
set_option maxHeartbeats 2000000 in
theorem h_Rd_readChange {w : MW} {a0 : Int32} {Q : Int32 → MW → Prop} (hI : BND w) (hr_87_0 : w.2.2 87 0 = some 1) (hr_87_1 : w.2.2 87 1 = some 108) (hp0 : 11 ≤ a0.toInt) (hp1 : a0.toInt ≤ 14) (hQ : ∀ (r : Int32) (w' : MW), BND w' → FR l_Rd_readChange w w' → 0 ≤ r.toInt → r.toInt ≤ 300 → (w'.1 87 8).toInt = (w.1 87 8).toInt → Q r w') : p_Rd_readChange w a0 Q := by
  refine Eq.mpr (p_Rd_readChange.eq_1 _ _ _) ?_
  have o2104 : (8 ≤ (9 : Int32).toInt) ∧ ((9 : Int32).toInt ≤ 10) := by have := (by decide : ((9 : Int32)).toInt = 9); exact ⟨by omega, by omega⟩
  refine h_Rd_takeName hI hr_87_0 hr_87_1 o2104.1 o2104.2 (fun r2108 w2105 hI2106 hL2107 p2109 p2110 p2111 => ?_)
  have hF2112 : FR l_Rd_readChange w w2105 := (FR.refl _ w).tr hL2107 rfl
  refine ⟨((hL2107 87 1 rfl).2.2.trans hr_87_1), ?_⟩
  have o2113 : (0 ≤ (1 : Int32).toInt) ∧ ((1 : Int32).toInt ≤ 2) := by have := (by decide : ((1 : Int32)).toInt = 1); exact ⟨by omega, by omega⟩
  refine h_Rd_readLevel hI2106 ((hL2107 87 0 rfl).2.2.trans hr_87_0) ((hL2107 87 1 rfl).2.2.trans hr_87_1) o2113.1 o2113.2 (fun r2117 w2114 hI2115 hL2116 p2118 => ?_)
  have hF2119 : FR l_Rd_readChange w w2114 := hF2112.tr hL2116 rfl
  refine ⟨fun h2120 => ?_, fun h2120 => ?_⟩
  · refine ⟨((hL2116 87 1 rfl).2.2.trans ((hL2107 87 1 rfl).2.2.trans hr_87_1)), ?_⟩
    have o2121 : 0 ≤ r2108.toInt ∧ r2108.toInt < 40 := by have := (congrArg Int32.toInt (hL2107 117 r2108.toInt.toNat rfl).1); have := (by decide : ((9 : Int32)).toInt = 9); have := (by decide : ((0 : Int32)).toInt = 0); omega
    refine ⟨o2121, ?_⟩
    refine Eq.mpr (q_Rd_readChange_38.eq_1 _ _ _ _ _ _ _) ?_
    refine Eq.mpr (p_Rd_demand.eq_1 _ _ _ _) ?_
    refine ⟨fun h2122 => ?_, fun h2122 => ?_⟩
    · refine ⟨((hL2116 87 1 rfl).2.2.trans ((hL2107 87 1 rfl).2.2.trans hr_87_1)), ?_⟩
      refine ⟨fun h2123 => ?_, fun h2123 => ?_⟩
      · have o2124 : (15 ≤ (59 : Int32).toInt) ∧ ((59 : Int32).toInt ≤ 125) := by have := (by decide : ((59 : Int32)).toInt = 59); exact ⟨by omega, by omega⟩
        refine h_Rd_take hI2115 ((hL2116 87 0 rfl).2.2.trans ((hL2107 87 0 rfl).2.2.trans hr_87_0)) o2124.1 o2124.2 (fun w2125 hI2126 hL2127  => ?_)
        have hF2129 : FR l_Rd_readChange w w2125 := hF2119.tr hL2127 rfl
        refine h_Rd_makeNode hI2126 ((hL2127 87 1 rfl).2.2.trans ((hL2116 87 1 rfl).2.2.trans ((hL2107 87 1 rfl).2.2.trans hr_87_1)))  (fun r2133 w2130 hI2131 hL2132 p2134 p2135 => ?_)
        have hF2136 : FR l_Rd_readChange w w2130 := hF2129.tr hL2132 rfl
        refine Eq.mpr (p_Rd_giveRange.eq_1 _ _ _ _ _) ?_
        refine ⟨((hL2132 87 1 rfl).2.2.trans ((hL2127 87 1 rfl).2.2.trans ((hL2116 87 1 rfl).2.2.trans ((hL2107 87 1 rfl).2.2.trans hr_87_1)))), ?_⟩
        have o2137 : 0 ≤ r2133.toInt ∧ r2133.toInt < 301 := by omega
        refine ⟨o2137, ?_⟩
        refine ⟨((hL2132 87 1 rfl).2.2.trans ((hL2127 87 1 rfl).2.2.trans ((hL2116 87 1 rfl).2.2.trans ((hL2107 87 1 rfl).2.2.trans hr_87_1)))), ?_⟩
        have o2138 : 0 ≤ r2133.toInt ∧ r2133.toInt < 301 := by omega
        refine ⟨o2138, ?_⟩
        have o2140 : 0 ≤ (w2105.1 108 1).toInt ∧ (w2105.1 108 1).toInt ≤ 301 := by have := bd_108_1 hI2106; have := bd_108_1 hI; have := (congrArg Int32.toInt (hL2107 108 1 rfl).1); omega
        have hI2139 : BND (sI w2130 111 r2133.toInt.toNat (w2105.1 108 1)) := wbd_111 hI2131 r2133.toInt.toNat o2140.1 o2140.2
        have o2142 : 0 ≤ (w2114.1 108 1).toInt ∧ (w2114.1 108 1).toInt ≤ 301 := by have := bd_108_1 hI2115; omega
        have hI2141 : BND (sI (sI w2130 111 r2133.toInt.toNat (w2105.1 108 1)) 112 r2133.toInt.toNat (w2114.1 108 1)) := wbd_112 hI2139 r2133.toInt.toNat o2142.1 o2142.2
        have o2143 : (0 ≤ r2133.toInt) ∧ (r2133.toInt ≤ 300) ∧ (((sI (sI w2130 111 r2133.toInt.toNat (w2105.1 108 1)) 112 r2133.toInt.toNat (w2114.1 108 1)).1 87 8).toInt = (w.1 87 8).toInt) := by have := bd_87_8 hI2131; have := bd_87_8 hI2126; have := bd_87_8 hI2115; have := (congrArg Int32.toInt (hL2127 87 8 rfl).1); have := (congrArg Int32.toInt (hL2132 87 8 rfl).1); have : ((sI (sI w2130 111 r2133.toInt.toNat (w2105.1 108 1)) 112 r2133.toInt.toNat (w2114.1 108 1)).1 87 8).toInt = (w2130.1 87 8).toInt := rfl; have := bd_87_8 hI; have := bd_87_8 hI2106; have := (congrArg Int32.toInt (hL2107 87 8 rfl).1); have := ti_lo r2117; have := ti_hi r2117; have := (congrArg Int32.toInt (hL2107 118 r2108.toInt.toNat rfl).1); have := (congrArg Int32.toInt (hL2116 118 r2108.toInt.toNat rfl).1); exact ⟨by omega, by omega, by omega⟩
        exact hQ _ _ hI2141 (FR.I (FR.I hF2136 (k := 111) (j := r2133.toInt.toNat) (v := (w2105.1 108 1)) rfl) (k := 112) (j := r2133.toInt.toNat) (v := (w2114.1 108 1)) rfl)  o2143.1 o2143.2.1 o2143.2.2
      · have o2144 : (15 ≤ (15 : Int32).toInt) ∧ ((15 : Int32).toInt ≤ 125) := by have := (by decide : ((15 : Int32)).toInt = 15); exact ⟨by omega, by omega⟩
        refine h_Rd_take hI2115 ((hL2116 87 0 rfl).2.2.trans ((hL2107 87 0 rfl).2.2.trans hr_87_0)) o2144.1 o2144.2 (fun w2145 hI2146 hL2147  => ?_)
        have hF2149 : FR l_Rd_readChange w w2145 := hF2119.tr hL2147 rfl
        have o2150 : (0 ≤ (1 : Int32).toInt) ∧ ((1 : Int32).toInt ≤ 2) := by have := (by decide : ((1 : Int32)).toInt = 1); exact ⟨by omega, by omega⟩
        refine h_Rd_readLevel hI2146 ((hL2147 87 0 rfl).2.2.trans ((hL2116 87 0 rfl).2.2.trans ((hL2107 87 0 rfl).2.2.trans hr_87_0))) ((hL2147 87 1 rfl).2.2.trans ((hL2116 87 1 rfl).2.2.trans ((hL2107 87 1 rfl).2.2.trans hr_87_1))) o2150.1 o2150.2 (fun r2154 w2151 hI2152 hL2153 p2155 => ?_)
        have hF2156 : FR l_Rd_readChange w w2151 := hF2149.tr hL2153 rfl
        refine Eq.mpr (p_Rd_demand.eq_1 _ _ _ _) ?_
        refine ⟨fun h2157 => ?_, fun h2157 => ?_⟩
        · replace h2157 : r2154.toInt = 3 := h2157
          have o2158 : (15 ≤ (59 : Int32).toInt) ∧ ((59 : Int32).toInt ≤ 125) := by have := (by decide : ((59 : Int32)).toInt = 59); exact ⟨by omega, by omega⟩
          refine h_Rd_take hI2152 ((hL2153 87 0 rfl).2.2.trans ((hL2147 87 0 rfl).2.2.trans ((hL2116 87 0 rfl).2.2.trans ((hL2107 87 0 rfl).2.2.trans hr_87_0)))) o2158.1 o2158.2 (fun w2159 hI2160 hL2161  => ?_)
          have hF2163 : FR l_Rd_readChange w w2159 := hF2156.tr hL2161 rfl
          refine h_Rd_makeNode hI2160 ((hL2161 87 1 rfl).2.2.trans ((hL2153 87 1 rfl).2.2.trans ((hL2147 87 1 rfl).2.2.trans ((hL2116 87 1 rfl).2.2.trans ((hL2107 87 1 rfl).2.2.trans hr_87_1)))))  (fun r2167 w2164 hI2165 hL2166 p2168 p2169 => ?_)
          have hF2170 : FR l_Rd_readChange w w2164 := hF2163.tr hL2166 rfl
          refine Eq.mpr (p_Rd_giveRange.eq_1 _ _ _ _ _) ?_
          refine ⟨((hL2166 87 1 rfl).2.2.trans ((hL2161 87 1 rfl).2.2.trans ((hL2153 87 1 rfl).2.2.trans ((hL2147 87 1 rfl).2.2.trans ((hL2116 87 1 rfl).2.2.trans ((hL2107 87 1 rfl).2.2.trans hr_87_1)))))), ?_⟩
          have o2171 : 0 ≤ r2167.toInt ∧ r2167.toInt < 301 := by omega
          refine ⟨o2171, ?_⟩
          refine ⟨((hL2166 87 1 rfl).2.2.trans ((hL2161 87 1 rfl).2.2.trans ((hL2153 87 1 rfl).2.2.trans ((hL2147 87 1 rfl).2.2.trans ((hL2116 87 1 rfl).2.2.trans ((hL2107 87 1 rfl).2.2.trans hr_87_1)))))), ?_⟩
          have o2172 : 0 ≤ r2167.toInt ∧ r2167.toInt < 301 := by omega
          refine ⟨o2172, ?_⟩
          have o2174 : 0 ≤ (w2105.1 108 1).toInt ∧ (w2105.1 108 1).toInt ≤ 301 := by have := bd_108_1 hI2106; have := bd_108_1 hI; have := (congrArg Int32.toInt (hL2107 108 1 rfl).1); omega
          have hI2173 : BND (sI w2164 111 r2167.toInt.toNat (w2105.1 108 1)) := wbd_111 hI2165 r2167.toInt.toNat o2174.1 o2174.2
          have o2176 : 0 ≤ (w2114.1 108 1).toInt ∧ (w2114.1 108 1).toInt ≤ 301 := by have := bd_108_1 hI2115; omega
          have hI2175 : BND (sI (sI w2164 111 r2167.toInt.toNat (w2105.1 108 1)) 112 r2167.toInt.toNat (w2114.1 108 1)) := wbd_112 hI2173 r2167.toInt.toNat o2176.1 o2176.2
          have o2177 : (0 ≤ r2167.toInt) ∧ (r2167.toInt ≤ 300) ∧ (((sI (sI w2164 111 r2167.toInt.toNat (w2105.1 108 1)) 112 r2167.toInt.toNat (w2114.1 108 1)).1 87 8).toInt = (w.1 87 8).toInt) := by have := bd_87_8 hI2165; have := bd_87_8 hI2160; have := bd_87_8 hI2152; have := (congrArg Int32.toInt (hL2161 87 8 rfl).1); have := (congrArg Int32.toInt (hL2166 87 8 rfl).1); have : ((sI (sI w2164 111 r2167.toInt.toNat (w2105.1 108 1)) 112 r2167.toInt.toNat (w2114.1 108 1)).1 87 8).toInt = (w2164.1 87 8).toInt := rfl; have := bd_87_8 hI; have := bd_87_8 hI2115; have := bd_87_8 hI2106; have := (congrArg Int32.toInt (hL2107 87 8 rfl).1); have := ti_lo r2117; have := ti_hi r2117; have := (congrArg Int32.toInt (hL2107 118 r2108.toInt.toNat rfl).1); have := (congrArg Int32.toInt (hL2116 118 r2108.toInt.toNat rfl).1); have := bd_87_8 hI2146; have := (congrArg Int32.toInt (hL2147 87 8 rfl).1); have := (by decide : ((3 : Int32)).toInt = 3); exact ⟨by omega, by omega, by omega⟩
          exact hQ _ _ hI2175 (FR.I (FR.I hF2170 (k := 111) (j := r2167.toInt.toNat) (v := (w2105.1 108 1)) rfl) (k := 112) (j := r2167.toInt.toNat) (v := (w2114.1 108 1)) rfl)  o2177.1 o2177.2.1 o2177.2.2
        · replace h2157 : ¬ (r2154.toInt = 3) := h2157
          refine Eq.mpr (p_Rd_fail.eq_1 _ _) ?_
          refine ⟨fun h2178 => ?_, fun h2178 => ?_⟩
          · have o2179 : (15 ≤ (59 : Int32).toInt) ∧ ((59 : Int32).toInt ≤ 125) := by have := (by decide : ((59 : Int32)).toInt = 59); exact ⟨by omega, by omega⟩
            refine h_Rd_take hI2152 ((hL2153 87 0 rfl).2.2.trans ((hL2147 87 0 rfl).2.2.trans ((hL2116 87 0 rfl).2.2.trans ((hL2107 87 0 rfl).2.2.trans hr_87_0)))) o2179.1 o2179.2 (fun w2180 hI2181 hL2182  => ?_)
            have hF2184 : FR l_Rd_readChange w w2180 := hF2156.tr hL2182 rfl
            refine h_Rd_makeNode hI2181 ((hL2182 87 1 rfl).2.2.trans ((hL2153 87 1 rfl).2.2.trans ((hL2147 87 1 rfl).2.2.trans ((hL2116 87 1 rfl).2.2.trans ((hL2107 87 1 rfl).2.2.trans hr_87_1)))))  (fun r2188 w2185 hI2186 hL2187 p2189 p2190 => ?_)
            have hF2191 : FR l_Rd_readChange w w2185 := hF2184.tr hL2187 rfl
            refine Eq.mpr (p_Rd_giveRange.eq_1 _ _ _ _ _) ?_
            refine ⟨((hL2187 87 1 rfl).2.2.trans ((hL2182 87 1 rfl).2.2.trans ((hL2153 87 1 rfl).2.2.trans ((hL2147 87 1 rfl).2.2.trans ((hL2116 87 1 rfl).2.2.trans ((hL2107 87 1 rfl).2.2.trans hr_87_1)))))), ?_⟩
            have o2192 : 0 ≤ r2188.toInt ∧ r2188.toInt < 301 := by omega
            refine ⟨o2192, ?_⟩
            refine ⟨((hL2187 87 1 rfl).2.2.trans ((hL2182 87 1 rfl).2.2.trans ((hL2153 87 1 rfl).2.2.trans ((hL2147 87 1 rfl).2.2.trans ((hL2116 87 1 rfl).2.2.trans ((hL2107 87 1 rfl).2.2.trans hr_87_1)))))), ?_⟩
            have o2193 : 0 ≤ r2188.toInt ∧ r2188.toInt < 301 := by omega
            refine ⟨o2193, ?_⟩
            have o2195 : 0 ≤ (w2105.1 108 1).toInt ∧ (w2105.1 108 1).toInt ≤ 301 := by have := bd_108_1 hI2106; have := bd_108_1 hI; have := (congrArg Int32.toInt (hL2107 108 1 rfl).1); omega
            have hI2194 : BND (sI w2185 111 r2188.toInt.toNat (w2105.1 108 1)) := wbd_111 hI2186 r2188.toInt.toNat o2195.1 o2195.2
            have o2197 : 0 ≤ (w2114.1 108 1).toInt ∧ (w2114.1 108 1).toInt ≤ 301 := by have := bd_108_1 hI2115; omega
            have hI2196 : BND (sI (sI w2185 111 r2188.toInt.toNat (w2105.1 108 1)) 112 r2188.toInt.toNat (w2114.1 108 1)) := wbd_112 hI2194 r2188.toInt.toNat o2197.1 o2197.2
            have o2198 : (0 ≤ r2188.toInt) ∧ (r2188.toInt ≤ 300) ∧ (((sI (sI w2185 111 r2188.toInt.toNat (w2105.1 108 1)) 112 r2188.toInt.toNat (w2114.1 108 1)).1 87 8).toInt = (w.1 87 8).toInt) := by have := bd_87_8 hI2186; have := bd_87_8 hI2181; have := bd_87_8 hI2152; have := (congrArg Int32.toInt (hL2182 87 8 rfl).1); have := (congrArg Int32.toInt (hL2187 87 8 rfl).1); have : ((sI (sI w2185 111 r2188.toInt.toNat (w2105.1 108 1)) 112 r2188.toInt.toNat (w2114.1 108 1)).1 87 8).toInt = (w2185.1 87 8).toInt := rfl; have := bd_87_8 hI; have := bd_87_8 hI2115; have := bd_87_8 hI2106; have := (congrArg Int32.toInt (hL2107 87 8 rfl).1); have := ti_lo r2117; have := ti_hi r2117; have := (congrArg Int32.toInt (hL2107 118 r2108.toInt.toNat rfl).1); have := (congrArg Int32.toInt (hL2116 118 r2108.toInt.toNat rfl).1); have := bd_87_8 hI2146; have := (congrArg Int32.toInt (hL2147 87 8 rfl).1); have := ti_lo r2154; have := ti_hi r2154; have := (by decide : ((3 : Int32)).toInt = 3); exact ⟨by omega, by omega, by omega⟩
            exact hQ _ _ hI2196 (FR.I (FR.I hF2191 (k := 111) (j := r2188.toInt.toNat) (v := (w2105.1 108 1)) rfl) (k := 112) (j := r2188.toInt.toNat) (v := (w2114.1 108 1)) rfl)  o2198.1 o2198.2.1 o2198.2.2
          · have hI2199 : BND (sI w2151 87 9 (w2151.1 87 4)) := wbd_87_9 hI2152
            have o2200 : (15 ≤ (59 : Int32).toInt) ∧ ((59 : Int32).toInt ≤ 125) := by have := (by decide : ((59 : Int32)).toInt = 59); exact ⟨by omega, by omega⟩
            refine h_Rd_take hI2199 ((hL2153 87 0 rfl).2.2.trans ((hL2147 87 0 rfl).2.2.trans ((hL2116 87 0 rfl).2.2.trans ((hL2107 87 0 rfl).2.2.trans hr_87_0)))) o2200.1 o2200.2 (fun w2201 hI2202 hL2203  => ?_)
            have hF2205 : FR l_Rd_readChange w w2201 := (FR.I hF2156 (k := 87) (j := 9) (v := (w2151.1 87 4)) rfl).tr hL2203 rfl
            refine h_Rd_makeNode hI2202 ((hL2203 87 1 rfl).2.2.trans ((hL2153 87 1 rfl).2.2.trans ((hL2147 87 1 rfl).2.2.trans ((hL2116 87 1 rfl).2.2.trans ((hL2107 87 1 rfl).2.2.trans hr_87_1)))))  (fun r2209 w2206 hI2207 hL2208 p2210 p2211 => ?_)
            have hF2212 : FR l_Rd_readChange w w2206 := hF2205.tr hL2208 rfl
            refine Eq.mpr (p_Rd_giveRange.eq_1 _ _ _ _ _) ?_
            refine ⟨((hL2208 87 1 rfl).2.2.trans ((hL2203 87 1 rfl).2.2.trans ((hL2153 87 1 rfl).2.2.trans ((hL2147 87 1 rfl).2.2.trans ((hL2116 87 1 rfl).2.2.trans ((hL2107 87 1 rfl).2.2.trans hr_87_1)))))), ?_⟩
            have o2213 : 0 ≤ r2209.toInt ∧ r2209.toInt < 301 := by omega
            refine ⟨o2213, ?_⟩
            refine ⟨((hL2208 87 1 rfl).2.2.trans ((hL2203 87 1 rfl).2.2.trans ((hL2153 87 1 rfl).2.2.trans ((hL2147 87 1 rfl).2.2.trans ((hL2116 87 1 rfl).2.2.trans ((hL2107 87 1 rfl).2.2.trans hr_87_1)))))), ?_⟩
            have o2214 : 0 ≤ r2209.toInt ∧ r2209.toInt < 301 := by omega
            refine ⟨o2214, ?_⟩
            have o2216 : 0 ≤ (w2105.1 108 1).toInt ∧ (w2105.1 108 1).toInt ≤ 301 := by have := bd_108_1 hI2106; have := bd_108_1 hI; have := (congrArg Int32.toInt (hL2107 108 1 rfl).1); omega
            have hI2215 : BND (sI w2206 111 r2209.toInt.toNat (w2105.1 108 1)) := wbd_111 hI2207 r2209.toInt.toNat o2216.1 o2216.2
            have o2218 : 0 ≤ (w2114.1 108 1).toInt ∧ (w2114.1 108 1).toInt ≤ 301 := by have := bd_108_1 hI2115; omega
            have hI2217 : BND (sI (sI w2206 111 r2209.toInt.toNat (w2105.1 108 1)) 112 r2209.toInt.toNat (w2114.1 108 1)) := wbd_112 hI2215 r2209.toInt.toNat o2218.1 o2218.2
            have o2219 : (0 ≤ r2209.toInt) ∧ (r2209.toInt ≤ 300) ∧ (((sI (sI w2206 111 r2209.toInt.toNat (w2105.1 108 1)) 112 r2209.toInt.toNat (w2114.1 108 1)).1 87 8).toInt = (w.1 87 8).toInt) := by have := bd_87_8 hI2207; have := bd_87_8 hI2202; have := bd_87_8 hI2152; have : ((sI w2151 87 9 (w2151.1 87 4)).1 87 8).toInt = (w2151.1 87 8).toInt := rfl; have := (congrArg Int32.toInt (hL2203 87 8 rfl).1); have := (congrArg Int32.toInt (hL2208 87 8 rfl).1); have : ((sI (sI w2206 111 r2209.toInt.toNat (w2105.1 108 1)) 112 r2209.toInt.toNat (w2114.1 108 1)).1 87 8).toInt = (w2206.1 87 8).toInt := rfl; have := bd_87_8 hI; have := bd_87_8 hI2115; have := bd_87_8 hI2106; have := (congrArg Int32.toInt (hL2107 87 8 rfl).1); have := ti_lo r2117; have := ti_hi r2117; have := (congrArg Int32.toInt (hL2107 118 r2108.toInt.toNat rfl).1); have := (congrArg Int32.toInt (hL2116 118 r2108.toInt.toNat rfl).1); have := bd_87_8 hI2146; have := (congrArg Int32.toInt (hL2147 87 8 rfl).1); have := ti_lo r2154; have := ti_hi r2154; have := (by decide : ((3 : Int32)).toInt = 3); exact ⟨by omega, by omega, by omega⟩
            exact hQ _ _ hI2217 (FR.I (FR.I hF2212 (k := 111) (j := r2209.toInt.toNat) (v := (w2105.1 108 1)) rfl) (k := 112) (j := r2209.toInt.toNat) (v := (w2114.1 108 1)) rfl)  o2219.1 o2219.2.1 o2219.2.2
    · refine Eq.mpr (p_Rd_fail.eq_1 _ _) ?_
      refine ⟨fun h2220 => ?_, fun h2220 => ?_⟩
      · refine ⟨((hL2116 87 1 rfl).2.2.trans ((hL2107 87 1 rfl).2.2.trans hr_87_1)), ?_⟩
        refine ⟨fun h2221 => ?_, fun h2221 => ?_⟩
        · have o2222 : (15 ≤ (59 : Int32).toInt) ∧ ((59 : Int32).toInt ≤ 125) := by have := (by decide : ((59 : Int32)).toInt = 59); exact ⟨by omega, by omega⟩
          refine h_Rd_take hI2115 ((hL2116 87 0 rfl).2.2.trans ((hL2107 87 0 rfl).2.2.trans hr_87_0)) o2222.1 o2222.2 (fun w2223 hI2224 hL2225  => ?_)
          have hF2227 : FR l_Rd_readChange w w2223 := hF2119.tr hL2225 rfl
          refine h_Rd_makeNode hI2224 ((hL2225 87 1 rfl).2.2.trans ((hL2116 87 1 rfl).2.2.trans ((hL2107 87 1 rfl).2.2.trans hr_87_1)))  (fun r2231 w2228 hI2229 hL2230 p2232 p2233 => ?_)
          have hF2234 : FR l_Rd_readChange w w2228 := hF2227.tr hL2230 rfl
          refine Eq.mpr (p_Rd_giveRange.eq_1 _ _ _ _ _) ?_
          refine ⟨((hL2230 87 1 rfl).2.2.trans ((hL2225 87 1 rfl).2.2.trans ((hL2116 87 1 rfl).2.2.trans ((hL2107 87 1 rfl).2.2.trans hr_87_1)))), ?_⟩
          have o2235 : 0 ≤ r2231.toInt ∧ r2231.toInt < 301 := by omega
          refine ⟨o2235, ?_⟩
          refine ⟨((hL2230 87 1 rfl).2.2.trans ((hL2225 87 1 rfl).2.2.trans ((hL2116 87 1 rfl).2.2.trans ((hL2107 87 1 rfl).2.2.trans hr_87_1)))), ?_⟩
          have o2236 : 0 ≤ r2231.toInt ∧ r2231.toInt < 301 := by omega
          refine ⟨o2236, ?_⟩
          have o2238 : 0 ≤ (w2105.1 108 1).toInt ∧ (w2105.1 108 1).toInt ≤ 301 := by have := bd_108_1 hI2106; have := bd_108_1 hI; have := (congrArg Int32.toInt (hL2107 108 1 rfl).1); omega
          have hI2237 : BND (sI w2228 111 r2231.toInt.toNat (w2105.1 108 1)) := wbd_111 hI2229 r2231.toInt.toNat o2238.1 o2238.2
          have o2240 : 0 ≤ (w2114.1 108 1).toInt ∧ (w2114.1 108 1).toInt ≤ 301 := by have := bd_108_1 hI2115; omega
          have hI2239 : BND (sI (sI w2228 111 r2231.toInt.toNat (w2105.1 108 1)) 112 r2231.toInt.toNat (w2114.1 108 1)) := wbd_112 hI2237 r2231.toInt.toNat o2240.1 o2240.2
          have o2241 : (0 ≤ r2231.toInt) ∧ (r2231.toInt ≤ 300) ∧ (((sI (sI w2228 111 r2231.toInt.toNat (w2105.1 108 1)) 112 r2231.toInt.toNat (w2114.1 108 1)).1 87 8).toInt = (w.1 87 8).toInt) := by have := bd_87_8 hI2229; have := bd_87_8 hI2224; have := bd_87_8 hI2115; have := (congrArg Int32.toInt (hL2225 87 8 rfl).1); have := (congrArg Int32.toInt (hL2230 87 8 rfl).1); have : ((sI (sI w2228 111 r2231.toInt.toNat (w2105.1 108 1)) 112 r2231.toInt.toNat (w2114.1 108 1)).1 87 8).toInt = (w2228.1 87 8).toInt := rfl; have := bd_87_8 hI; have := bd_87_8 hI2106; have := (congrArg Int32.toInt (hL2107 87 8 rfl).1); have := ti_lo r2117; have := ti_hi r2117; have := (congrArg Int32.toInt (hL2107 118 r2108.toInt.toNat rfl).1); have := (congrArg Int32.toInt (hL2116 118 r2108.toInt.toNat rfl).1); exact ⟨by omega, by omega, by omega⟩
          exact hQ _ _ hI2239 (FR.I (FR.I hF2234 (k := 111) (j := r2231.toInt.toNat) (v := (w2105.1 108 1)) rfl) (k := 112) (j := r2231.toInt.toNat) (v := (w2114.1 108 1)) rfl)  o2241.1 o2241.2.1 o2241.2.2
        · have o2242 : (15 ≤ (15 : Int32).toInt) ∧ ((15 : Int32).toInt ≤ 125) := by have := (by decide : ((15 : Int32)).toInt = 15); exact ⟨by omega, by omega⟩
          refine h_Rd_take hI2115 ((hL2116 87 0 rfl).2.2.trans ((hL2107 87 0 rfl).2.2.trans hr_87_0)) o2242.1 o2242.2 (fun w2243 hI2244 hL2245  => ?_)
          have hF2247 : FR l_Rd_readChange w w2243 := hF2119.tr hL2245 rfl
          have o2248 : (0 ≤ (1 : Int32).toInt) ∧ ((1 : Int32).toInt ≤ 2) := by have := (by decide : ((1 : Int32)).toInt = 1); exact ⟨by omega, by omega⟩
          refine h_Rd_readLevel hI2244 ((hL2245 87 0 rfl).2.2.trans ((hL2116 87 0 rfl).2.2.trans ((hL2107 87 0 rfl).2.2.trans hr_87_0))) ((hL2245 87 1 rfl).2.2.trans ((hL2116 87 1 rfl).2.2.trans ((hL2107 87 1 rfl).2.2.trans hr_87_1))) o2248.1 o2248.2 (fun r2252 w2249 hI2250 hL2251 p2253 => ?_)
          have hF2254 : FR l_Rd_readChange w w2249 := hF2247.tr hL2251 rfl
          refine Eq.mpr (p_Rd_demand.eq_1 _ _ _ _) ?_
          refine ⟨fun h2255 => ?_, fun h2255 => ?_⟩
          · replace h2255 : r2252.toInt = 3 := h2255
            have o2256 : (15 ≤ (59 : Int32).toInt) ∧ ((59 : Int32).toInt ≤ 125) := by have := (by decide : ((59 : Int32)).toInt = 59); exact ⟨by omega, by omega⟩
            refine h_Rd_take hI2250 ((hL2251 87 0 rfl).2.2.trans ((hL2245 87 0 rfl).2.2.trans ((hL2116 87 0 rfl).2.2.trans ((hL2107 87 0 rfl).2.2.trans hr_87_0)))) o2256.1 o2256.2 (fun w2257 hI2258 hL2259  => ?_)
            have hF2261 : FR l_Rd_readChange w w2257 := hF2254.tr hL2259 rfl
            refine h_Rd_makeNode hI2258 ((hL2259 87 1 rfl).2.2.trans ((hL2251 87 1 rfl).2.2.trans ((hL2245 87 1 rfl).2.2.trans ((hL2116 87 1 rfl).2.2.trans ((hL2107 87 1 rfl).2.2.trans hr_87_1)))))  (fun r2265 w2262 hI2263 hL2264 p2266 p2267 => ?_)
            have hF2268 : FR l_Rd_readChange w w2262 := hF2261.tr hL2264 rfl
            refine Eq.mpr (p_Rd_giveRange.eq_1 _ _ _ _ _) ?_
            refine ⟨((hL2264 87 1 rfl).2.2.trans ((hL2259 87 1 rfl).2.2.trans ((hL2251 87 1 rfl).2.2.trans ((hL2245 87 1 rfl).2.2.trans ((hL2116 87 1 rfl).2.2.trans ((hL2107 87 1 rfl).2.2.trans hr_87_1)))))), ?_⟩
            have o2269 : 0 ≤ r2265.toInt ∧ r2265.toInt < 301 := by omega
            refine ⟨o2269, ?_⟩
            refine ⟨((hL2264 87 1 rfl).2.2.trans ((hL2259 87 1 rfl).2.2.trans ((hL2251 87 1 rfl).2.2.trans ((hL2245 87 1 rfl).2.2.trans ((hL2116 87 1 rfl).2.2.trans ((hL2107 87 1 rfl).2.2.trans hr_87_1)))))), ?_⟩
            have o2270 : 0 ≤ r2265.toInt ∧ r2265.toInt < 301 := by omega
            refine ⟨o2270, ?_⟩
            have o2272 : 0 ≤ (w2105.1 108 1).toInt ∧ (w2105.1 108 1).toInt ≤ 301 := by have := bd_108_1 hI2106; have := bd_108_1 hI; have := (congrArg Int32.toInt (hL2107 108 1 rfl).1); omega
            have hI2271 : BND (sI w2262 111 r2265.toInt.toNat (w2105.1 108 1)) := wbd_111 hI2263 r2265.toInt.toNat o2272.1 o2272.2
            have o2274 : 0 ≤ (w2114.1 108 1).toInt ∧ (w2114.1 108 1).toInt ≤ 301 := by have := bd_108_1 hI2115; omega
            have hI2273 : BND (sI (sI w2262 111 r2265.toInt.toNat (w2105.1 108 1)) 112 r2265.toInt.toNat (w2114.1 108 1)) := wbd_112 hI2271 r2265.toInt.toNat o2274.1 o2274.2
            have o2275 : (0 ≤ r2265.toInt) ∧ (r2265.toInt ≤ 300) ∧ (((sI (sI w2262 111 r2265.toInt.toNat (w2105.1 108 1)) 112 r2265.toInt.toNat (w2114.1 108 1)).1 87 8).toInt = (w.1 87 8).toInt) := by have := bd_87_8 hI2263; have := bd_87_8 hI2258; have := bd_87_8 hI2250; have := (congrArg Int32.toInt (hL2259 87 8 rfl).1); have := (congrArg Int32.toInt (hL2264 87 8 rfl).1); have : ((sI (sI w2262 111 r2265.toInt.toNat (w2105.1 108 1)) 112 r2265.toInt.toNat (w2114.1 108 1)).1 87 8).toInt = (w2262.1 87 8).toInt := rfl; have := bd_87_8 hI; have := bd_87_8 hI2115; have := bd_87_8 hI2106; have := (congrArg Int32.toInt (hL2107 87 8 rfl).1); have := ti_lo r2117; have := ti_hi r2117; have := (congrArg Int32.toInt (hL2107 118 r2108.toInt.toNat rfl).1); have := (congrArg Int32.toInt (hL2116 118 r2108.toInt.toNat rfl).1); have := bd_87_8 hI2244; have := (congrArg Int32.toInt (hL2245 87 8 rfl).1); have := (by decide : ((3 : Int32)).toInt = 3); exact ⟨by omega, by omega, by omega⟩
            exact hQ _ _ hI2273 (FR.I (FR.I hF2268 (k := 111) (j := r2265.toInt.toNat) (v := (w2105.1 108 1)) rfl) (k := 112) (j := r2265.toInt.toNat) (v := (w2114.1 108 1)) rfl)  o2275.1 o2275.2.1 o2275.2.2
          · replace h2255 : ¬ (r2252.toInt = 3) := h2255
            refine Eq.mpr (p_Rd_fail.eq_1 _ _) ?_
            refine ⟨fun h2276 => ?_, fun h2276 => ?_⟩
            · have o2277 : (15 ≤ (59 : Int32).toInt) ∧ ((59 : Int32).toInt ≤ 125) := by have := (by decide : ((59 : Int32)).toInt = 59); exact ⟨by omega, by omega⟩
              refine h_Rd_take hI2250 ((hL2251 87 0 rfl).2.2.trans ((hL2245 87 0 rfl).2.2.trans ((hL2116 87 0 rfl).2.2.trans ((hL2107 87 0 rfl).2.2.trans hr_87_0)))) o2277.1 o2277.2 (fun w2278 hI2279 hL2280  => ?_)
              have hF2282 : FR l_Rd_readChange w w2278 := hF2254.tr hL2280 rfl
              refine h_Rd_makeNode hI2279 ((hL2280 87 1 rfl).2.2.trans ((hL2251 87 1 rfl).2.2.trans ((hL2245 87 1 rfl).2.2.trans ((hL2116 87 1 rfl).2.2.trans ((hL2107 87 1 rfl).2.2.trans hr_87_1)))))  (fun r2286 w2283 hI2284 hL2285 p2287 p2288 => ?_)
              have hF2289 : FR l_Rd_readChange w w2283 := hF2282.tr hL2285 rfl
              refine Eq.mpr (p_Rd_giveRange.eq_1 _ _ _ _ _) ?_
              refine ⟨((hL2285 87 1 rfl).2.2.trans ((hL2280 87 1 rfl).2.2.trans ((hL2251 87 1 rfl).2.2.trans ((hL2245 87 1 rfl).2.2.trans ((hL2116 87 1 rfl).2.2.trans ((hL2107 87 1 rfl).2.2.trans hr_87_1)))))), ?_⟩
              have o2290 : 0 ≤ r2286.toInt ∧ r2286.toInt < 301 := by omega
              refine ⟨o2290, ?_⟩
              refine ⟨((hL2285 87 1 rfl).2.2.trans ((hL2280 87 1 rfl).2.2.trans ((hL2251 87 1 rfl).2.2.trans ((hL2245 87 1 rfl).2.2.trans ((hL2116 87 1 rfl).2.2.trans ((hL2107 87 1 rfl).2.2.trans hr_87_1)))))), ?_⟩
              have o2291 : 0 ≤ r2286.toInt ∧ r2286.toInt < 301 := by omega
              refine ⟨o2291, ?_⟩
              have o2293 : 0 ≤ (w2105.1 108 1).toInt ∧ (w2105.1 108 1).toInt ≤ 301 := by have := bd_108_1 hI2106; have := bd_108_1 hI; have := (congrArg Int32.toInt (hL2107 108 1 rfl).1); omega
              have hI2292 : BND (sI w2283 111 r2286.toInt.toNat (w2105.1 108 1)) := wbd_111 hI2284 r2286.toInt.toNat o2293.1 o2293.2
              have o2295 : 0 ≤ (w2114.1 108 1).toInt ∧ (w2114.1 108 1).toInt ≤ 301 := by have := bd_108_1 hI2115; omega
              have hI2294 : BND (sI (sI w2283 111 r2286.toInt.toNat (w2105.1 108 1)) 112 r2286.toInt.toNat (w2114.1 108 1)) := wbd_112 hI2292 r2286.toInt.toNat o2295.1 o2295.2
              have o2296 : (0 ≤ r2286.toInt) ∧ (r2286.toInt ≤ 300) ∧ (((sI (sI w2283 111 r2286.toInt.toNat (w2105.1 108 1)) 112 r2286.toInt.toNat (w2114.1 108 1)).1 87 8).toInt = (w.1 87 8).toInt) := by have := bd_87_8 hI2284; have := bd_87_8 hI2279; have := bd_87_8 hI2250; have := (congrArg Int32.toInt (hL2280 87 8 rfl).1); have := (congrArg Int32.toInt (hL2285 87 8 rfl).1); have : ((sI (sI w2283 111 r2286.toInt.toNat (w2105.1 108 1)) 112 r2286.toInt.toNat (w2114.1 108 1)).1 87 8).toInt = (w2283.1 87 8).toInt := rfl; have := bd_87_8 hI; have := bd_87_8 hI2115; have := bd_87_8 hI2106; have := (congrArg Int32.toInt (hL2107 87 8 rfl).1); have := ti_lo r2117; have := ti_hi r2117; have := (congrArg Int32.toInt (hL2107 118 r2108.toInt.toNat rfl).1); have := (congrArg Int32.toInt (hL2116 118 r2108.toInt.toNat rfl).1); have := bd_87_8 hI2244; have := (congrArg Int32.toInt (hL2245 87 8 rfl).1); have := ti_lo r2252; have := ti_hi r2252; have := (by decide : ((3 : Int32)).toInt = 3); exact ⟨by omega, by omega, by omega⟩
              exact hQ _ _ hI2294 (FR.I (FR.I hF2289 (k := 111) (j := r2286.toInt.toNat) (v := (w2105.1 108 1)) rfl) (k := 112) (j := r2286.toInt.toNat) (v := (w2114.1 108 1)) rfl)  o2296.1 o2296.2.1 o2296.2.2
            · have hI2297 : BND (sI w2249 87 9 (w2249.1 87 4)) := wbd_87_9 hI2250
              have o2298 : (15 ≤ (59 : Int32).toInt) ∧ ((59 : Int32).toInt ≤ 125) := by have := (by decide : ((59 : Int32)).toInt = 59); exact ⟨by omega, by omega⟩
              refine h_Rd_take hI2297 ((hL2251 87 0 rfl).2.2.trans ((hL2245 87 0 rfl).2.2.trans ((hL2116 87 0 rfl).2.2.trans ((hL2107 87 0 rfl).2.2.trans hr_87_0)))) o2298.1 o2298.2 (fun w2299 hI2300 hL2301  => ?_)
              have hF2303 : FR l_Rd_readChange w w2299 := (FR.I hF2254 (k := 87) (j := 9) (v := (w2249.1 87 4)) rfl).tr hL2301 rfl
              refine h_Rd_makeNode hI2300 ((hL2301 87 1 rfl).2.2.trans ((hL2251 87 1 rfl).2.2.trans ((hL2245 87 1 rfl).2.2.trans ((hL2116 87 1 rfl).2.2.trans ((hL2107 87 1 rfl).2.2.trans hr_87_1)))))  (fun r2307 w2304 hI2305 hL2306 p2308 p2309 => ?_)
              have hF2310 : FR l_Rd_readChange w w2304 := hF2303.tr hL2306 rfl
              refine Eq.mpr (p_Rd_giveRange.eq_1 _ _ _ _ _) ?_
              refine ⟨((hL2306 87 1 rfl).2.2.trans ((hL2301 87 1 rfl).2.2.trans ((hL2251 87 1 rfl).2.2.trans ((hL2245 87 1 rfl).2.2.trans ((hL2116 87 1 rfl).2.2.trans ((hL2107 87 1 rfl).2.2.trans hr_87_1)))))), ?_⟩
              have o2311 : 0 ≤ r2307.toInt ∧ r2307.toInt < 301 := by omega
              refine ⟨o2311, ?_⟩
              refine ⟨((hL2306 87 1 rfl).2.2.trans ((hL2301 87 1 rfl).2.2.trans ((hL2251 87 1 rfl).2.2.trans ((hL2245 87 1 rfl).2.2.trans ((hL2116 87 1 rfl).2.2.trans ((hL2107 87 1 rfl).2.2.trans hr_87_1)))))), ?_⟩
              have o2312 : 0 ≤ r2307.toInt ∧ r2307.toInt < 301 := by omega
              refine ⟨o2312, ?_⟩
              have o2314 : 0 ≤ (w2105.1 108 1).toInt ∧ (w2105.1 108 1).toInt ≤ 301 := by have := bd_108_1 hI2106; have := bd_108_1 hI; have := (congrArg Int32.toInt (hL2107 108 1 rfl).1); omega
              have hI2313 : BND (sI w2304 111 r2307.toInt.toNat (w2105.1 108 1)) := wbd_111 hI2305 r2307.toInt.toNat o2314.1 o2314.2
              have o2316 : 0 ≤ (w2114.1 108 1).toInt ∧ (w2114.1 108 1).toInt ≤ 301 := by have := bd_108_1 hI2115; omega
              have hI2315 : BND (sI (sI w2304 111 r2307.toInt.toNat (w2105.1 108 1)) 112 r2307.toInt.toNat (w2114.1 108 1)) := wbd_112 hI2313 r2307.toInt.toNat o2316.1 o2316.2
              have o2317 : (0 ≤ r2307.toInt) ∧ (r2307.toInt ≤ 300) ∧ (((sI (sI w2304 111 r2307.toInt.toNat (w2105.1 108 1)) 112 r2307.toInt.toNat (w2114.1 108 1)).1 87 8).toInt = (w.1 87 8).toInt) := by have := bd_87_8 hI2305; have := bd_87_8 hI2300; have := bd_87_8 hI2250; have : ((sI w2249 87 9 (w2249.1 87 4)).1 87 8).toInt = (w2249.1 87 8).toInt := rfl; have := (congrArg Int32.toInt (hL2301 87 8 rfl).1); have := (congrArg Int32.toInt (hL2306 87 8 rfl).1); have : ((sI (sI w2304 111 r2307.toInt.toNat (w2105.1 108 1)) 112 r2307.toInt.toNat (w2114.1 108 1)).1 87 8).toInt = (w2304.1 87 8).toInt := rfl; have := bd_87_8 hI; have := bd_87_8 hI2115; have := bd_87_8 hI2106; have := (congrArg Int32.toInt (hL2107 87 8 rfl).1); have := ti_lo r2117; have := ti_hi r2117; have := (congrArg Int32.toInt (hL2107 118 r2108.toInt.toNat rfl).1); have := (congrArg Int32.toInt (hL2116 118 r2108.toInt.toNat rfl).1); have := bd_87_8 hI2244; have := (congrArg Int32.toInt (hL2245 87 8 rfl).1); have := ti_lo r2252; have := ti_hi r2252; have := (by decide : ((3 : Int32)).toInt = 3); exact ⟨by omega, by omega, by omega⟩
              exact hQ _ _ hI2315 (FR.I (FR.I hF2310 (k := 111) (j := r2307.toInt.toNat) (v := (w2105.1 108 1)) rfl) (k := 112) (j := r2307.toInt.toNat) (v := (w2114.1 108 1)) rfl)  o2317.1 o2317.2.1 o2317.2.2
      · refine ⟨((hL2116 87 1 rfl).2.2.trans ((hL2107 87 1 rfl).2.2.trans hr_87_1)), ?_⟩
        refine ⟨fun h2318 => ?_, fun h2318 => ?_⟩
        · have hI2319 : BND (sI w2114 87 9 (w2114.1 87 4)) := wbd_87_9 hI2115
          have o2320 : (15 ≤ (59 : Int32).toInt) ∧ ((59 : Int32).toInt ≤ 125) := by have := (by decide : ((59 : Int32)).toInt = 59); exact ⟨by omega, by omega⟩
          refine h_Rd_take hI2319 ((hL2116 87 0 rfl).2.2.trans ((hL2107 87 0 rfl).2.2.trans hr_87_0)) o2320.1 o2320.2 (fun w2321 hI2322 hL2323  => ?_)
          have hF2325 : FR l_Rd_readChange w w2321 := (FR.I hF2119 (k := 87) (j := 9) (v := (w2114.1 87 4)) rfl).tr hL2323 rfl
          refine h_Rd_makeNode hI2322 ((hL2323 87 1 rfl).2.2.trans ((hL2116 87 1 rfl).2.2.trans ((hL2107 87 1 rfl).2.2.trans hr_87_1)))  (fun r2329 w2326 hI2327 hL2328 p2330 p2331 => ?_)
          have hF2332 : FR l_Rd_readChange w w2326 := hF2325.tr hL2328 rfl
          refine Eq.mpr (p_Rd_giveRange.eq_1 _ _ _ _ _) ?_
          refine ⟨((hL2328 87 1 rfl).2.2.trans ((hL2323 87 1 rfl).2.2.trans ((hL2116 87 1 rfl).2.2.trans ((hL2107 87 1 rfl).2.2.trans hr_87_1)))), ?_⟩
          have o2333 : 0 ≤ r2329.toInt ∧ r2329.toInt < 301 := by omega
          refine ⟨o2333, ?_⟩
          refine ⟨((hL2328 87 1 rfl).2.2.trans ((hL2323 87 1 rfl).2.2.trans ((hL2116 87 1 rfl).2.2.trans ((hL2107 87 1 rfl).2.2.trans hr_87_1)))), ?_⟩
          have o2334 : 0 ≤ r2329.toInt ∧ r2329.toInt < 301 := by omega
          refine ⟨o2334, ?_⟩
          have o2336 : 0 ≤ (w2105.1 108 1).toInt ∧ (w2105.1 108 1).toInt ≤ 301 := by have := bd_108_1 hI2106; have := bd_108_1 hI; have := (congrArg Int32.toInt (hL2107 108 1 rfl).1); omega
          have hI2335 : BND (sI w2326 111 r2329.toInt.toNat (w2105.1 108 1)) := wbd_111 hI2327 r2329.toInt.toNat o2336.1 o2336.2
          have o2338 : 0 ≤ ((sI w2114 87 9 (w2114.1 87 4)).1 108 1).toInt ∧ ((sI w2114 87 9 (w2114.1 87 4)).1 108 1).toInt ≤ 301 := by have := bd_108_1 hI2115; have : ((sI w2114 87 9 (w2114.1 87 4)).1 108 1).toInt = (w2114.1 108 1).toInt := rfl; omega
          have hI2337 : BND (sI (sI w2326 111 r2329.toInt.toNat (w2105.1 108 1)) 112 r2329.toInt.toNat ((sI w2114 87 9 (w2114.1 87 4)).1 108 1)) := wbd_112 hI2335 r2329.toInt.toNat o2338.1 o2338.2
          have o2339 : (0 ≤ r2329.toInt) ∧ (r2329.toInt ≤ 300) ∧ (((sI (sI w2326 111 r2329.toInt.toNat (w2105.1 108 1)) 112 r2329.toInt.toNat ((sI w2114 87 9 (w2114.1 87 4)).1 108 1)).1 87 8).toInt = (w.1 87 8).toInt) := by have := bd_87_8 hI2327; have := bd_87_8 hI2322; have := bd_87_8 hI2115; have : ((sI w2114 87 9 (w2114.1 87 4)).1 87 8).toInt = (w2114.1 87 8).toInt := rfl; have := (congrArg Int32.toInt (hL2323 87 8 rfl).1); have := (congrArg Int32.toInt (hL2328 87 8 rfl).1); have : ((sI (sI w2326 111 r2329.toInt.toNat (w2105.1 108 1)) 112 r2329.toInt.toNat ((sI w2114 87 9 (w2114.1 87 4)).1 108 1)).1 87 8).toInt = (w2326.1 87 8).toInt := rfl; have := bd_87_8 hI; have := bd_87_8 hI2106; have := (congrArg Int32.toInt (hL2107 87 8 rfl).1); have := ti_lo r2117; have := ti_hi r2117; have := (congrArg Int32.toInt (hL2107 118 r2108.toInt.toNat rfl).1); have := (congrArg Int32.toInt (hL2116 118 r2108.toInt.toNat rfl).1); exact ⟨by omega, by omega, by omega⟩
          exact hQ _ _ hI2337 (FR.I (FR.I hF2332 (k := 111) (j := r2329.toInt.toNat) (v := (w2105.1 108 1)) rfl) (k := 112) (j := r2329.toInt.toNat) (v := ((sI w2114 87 9 (w2114.1 87 4)).1 108 1)) rfl)  o2339.1 o2339.2.1 o2339.2.2
        · have hI2340 : BND (sI w2114 87 9 (w2114.1 87 4)) := wbd_87_9 hI2115
          have o2341 : (15 ≤ (15 : Int32).toInt) ∧ ((15 : Int32).toInt ≤ 125) := by have := (by decide : ((15 : Int32)).toInt = 15); exact ⟨by omega, by omega⟩
          refine h_Rd_take hI2340 ((hL2116 87 0 rfl).2.2.trans ((hL2107 87 0 rfl).2.2.trans hr_87_0)) o2341.1 o2341.2 (fun w2342 hI2343 hL2344  => ?_)
          have hF2346 : FR l_Rd_readChange w w2342 := (FR.I hF2119 (k := 87) (j := 9) (v := (w2114.1 87 4)) rfl).tr hL2344 rfl
          have o2347 : (0 ≤ (1 : Int32).toInt) ∧ ((1 : Int32).toInt ≤ 2) := by have := (by decide : ((1 : Int32)).toInt = 1); exact ⟨by omega, by omega⟩
          refine h_Rd_readLevel hI2343 ((hL2344 87 0 rfl).2.2.trans ((hL2116 87 0 rfl).2.2.trans ((hL2107 87 0 rfl).2.2.trans hr_87_0))) ((hL2344 87 1 rfl).2.2.trans ((hL2116 87 1 rfl).2.2.trans ((hL2107 87 1 rfl).2.2.trans hr_87_1))) o2347.1 o2347.2 (fun r2351 w2348 hI2349 hL2350 p2352 => ?_)
          have hF2353 : FR l_Rd_readChange w w2348 := hF2346.tr hL2350 rfl
          refine Eq.mpr (p_Rd_demand.eq_1 _ _ _ _) ?_
          refine ⟨fun h2354 => ?_, fun h2354 => ?_⟩
          · replace h2354 : r2351.toInt = 3 := h2354
            have o2355 : (15 ≤ (59 : Int32).toInt) ∧ ((59 : Int32).toInt ≤ 125) := by have := (by decide : ((59 : Int32)).toInt = 59); exact ⟨by omega, by omega⟩
            refine h_Rd_take hI2349 ((hL2350 87 0 rfl).2.2.trans ((hL2344 87 0 rfl).2.2.trans ((hL2116 87 0 rfl).2.2.trans ((hL2107 87 0 rfl).2.2.trans hr_87_0)))) o2355.1 o2355.2 (fun w2356 hI2357 hL2358  => ?_)
            have hF2360 : FR l_Rd_readChange w w2356 := hF2353.tr hL2358 rfl
            refine h_Rd_makeNode hI2357 ((hL2358 87 1 rfl).2.2.trans ((hL2350 87 1 rfl).2.2.trans ((hL2344 87 1 rfl).2.2.trans ((hL2116 87 1 rfl).2.2.trans ((hL2107 87 1 rfl).2.2.trans hr_87_1)))))  (fun r2364 w2361 hI2362 hL2363 p2365 p2366 => ?_)
            have hF2367 : FR l_Rd_readChange w w2361 := hF2360.tr hL2363 rfl
            refine Eq.mpr (p_Rd_giveRange.eq_1 _ _ _ _ _) ?_
            refine ⟨((hL2363 87 1 rfl).2.2.trans ((hL2358 87 1 rfl).2.2.trans ((hL2350 87 1 rfl).2.2.trans ((hL2344 87 1 rfl).2.2.trans ((hL2116 87 1 rfl).2.2.trans ((hL2107 87 1 rfl).2.2.trans hr_87_1)))))), ?_⟩
            have o2368 : 0 ≤ r2364.toInt ∧ r2364.toInt < 301 := by omega
            refine ⟨o2368, ?_⟩
            refine ⟨((hL2363 87 1 rfl).2.2.trans ((hL2358 87 1 rfl).2.2.trans ((hL2350 87 1 rfl).2.2.trans ((hL2344 87 1 rfl).2.2.trans ((hL2116 87 1 rfl).2.2.trans ((hL2107 87 1 rfl).2.2.trans hr_87_1)))))), ?_⟩
            have o2369 : 0 ≤ r2364.toInt ∧ r2364.toInt < 301 := by omega
            refine ⟨o2369, ?_⟩
            have o2371 : 0 ≤ (w2105.1 108 1).toInt ∧ (w2105.1 108 1).toInt ≤ 301 := by have := bd_108_1 hI2106; have := bd_108_1 hI; have := (congrArg Int32.toInt (hL2107 108 1 rfl).1); omega
            have hI2370 : BND (sI w2361 111 r2364.toInt.toNat (w2105.1 108 1)) := wbd_111 hI2362 r2364.toInt.toNat o2371.1 o2371.2
            have o2373 : 0 ≤ ((sI w2114 87 9 (w2114.1 87 4)).1 108 1).toInt ∧ ((sI w2114 87 9 (w2114.1 87 4)).1 108 1).toInt ≤ 301 := by have := bd_108_1 hI2115; have : ((sI w2114 87 9 (w2114.1 87 4)).1 108 1).toInt = (w2114.1 108 1).toInt := rfl; omega
            have hI2372 : BND (sI (sI w2361 111 r2364.toInt.toNat (w2105.1 108 1)) 112 r2364.toInt.toNat ((sI w2114 87 9 (w2114.1 87 4)).1 108 1)) := wbd_112 hI2370 r2364.toInt.toNat o2373.1 o2373.2
            have o2374 : (0 ≤ r2364.toInt) ∧ (r2364.toInt ≤ 300) ∧ (((sI (sI w2361 111 r2364.toInt.toNat (w2105.1 108 1)) 112 r2364.toInt.toNat ((sI w2114 87 9 (w2114.1 87 4)).1 108 1)).1 87 8).toInt = (w.1 87 8).toInt) := by have := bd_87_8 hI2362; have := bd_87_8 hI2357; have := bd_87_8 hI2349; have := (congrArg Int32.toInt (hL2358 87 8 rfl).1); have := (congrArg Int32.toInt (hL2363 87 8 rfl).1); have : ((sI (sI w2361 111 r2364.toInt.toNat (w2105.1 108 1)) 112 r2364.toInt.toNat ((sI w2114 87 9 (w2114.1 87 4)).1 108 1)).1 87 8).toInt = (w2361.1 87 8).toInt := rfl; have := bd_87_8 hI; have := bd_87_8 hI2115; have := bd_87_8 hI2106; have := (congrArg Int32.toInt (hL2107 87 8 rfl).1); have := ti_lo r2117; have := ti_hi r2117; have := (congrArg Int32.toInt (hL2107 118 r2108.toInt.toNat rfl).1); have := (congrArg Int32.toInt (hL2116 118 r2108.toInt.toNat rfl).1); have := bd_87_8 hI2343; have : ((sI w2114 87 9 (w2114.1 87 4)).1 87 8).toInt = (w2114.1 87 8).toInt := rfl; have := (congrArg Int32.toInt (hL2344 87 8 rfl).1); have := (by decide : ((3 : Int32)).toInt = 3); exact ⟨by omega, by omega, by omega⟩
            exact hQ _ _ hI2372 (FR.I (FR.I hF2367 (k := 111) (j := r2364.toInt.toNat) (v := (w2105.1 108 1)) rfl) (k := 112) (j := r2364.toInt.toNat) (v := ((sI w2114 87 9 (w2114.1 87 4)).1 108 1)) rfl)  o2374.1 o2374.2.1 o2374.2.2
          · replace h2354 : ¬ (r2351.toInt = 3) := h2354
            refine Eq.mpr (p_Rd_fail.eq_1 _ _) ?_
            refine ⟨fun h2375 => ?_, fun h2375 => ?_⟩
            · have o2376 : (15 ≤ (59 : Int32).toInt) ∧ ((59 : Int32).toInt ≤ 125) := by have := (by decide : ((59 : Int32)).toInt = 59); exact ⟨by omega, by omega⟩
              refine h_Rd_take hI2349 ((hL2350 87 0 rfl).2.2.trans ((hL2344 87 0 rfl).2.2.trans ((hL2116 87 0 rfl).2.2.trans ((hL2107 87 0 rfl).2.2.trans hr_87_0)))) o2376.1 o2376.2 (fun w2377 hI2378 hL2379  => ?_)
              have hF2381 : FR l_Rd_readChange w w2377 := hF2353.tr hL2379 rfl
              refine h_Rd_makeNode hI2378 ((hL2379 87 1 rfl).2.2.trans ((hL2350 87 1 rfl).2.2.trans ((hL2344 87 1 rfl).2.2.trans ((hL2116 87 1 rfl).2.2.trans ((hL2107 87 1 rfl).2.2.trans hr_87_1)))))  (fun r2385 w2382 hI2383 hL2384 p2386 p2387 => ?_)
              have hF2388 : FR l_Rd_readChange w w2382 := hF2381.tr hL2384 rfl
              refine Eq.mpr (p_Rd_giveRange.eq_1 _ _ _ _ _) ?_
              refine ⟨((hL2384 87 1 rfl).2.2.trans ((hL2379 87 1 rfl).2.2.trans ((hL2350 87 1 rfl).2.2.trans ((hL2344 87 1 rfl).2.2.trans ((hL2116 87 1 rfl).2.2.trans ((hL2107 87 1 rfl).2.2.trans hr_87_1)))))), ?_⟩
              have o2389 : 0 ≤ r2385.toInt ∧ r2385.toInt < 301 := by omega
              refine ⟨o2389, ?_⟩
              refine ⟨((hL2384 87 1 rfl).2.2.trans ((hL2379 87 1 rfl).2.2.trans ((hL2350 87 1 rfl).2.2.trans ((hL2344 87 1 rfl).2.2.trans ((hL2116 87 1 rfl).2.2.trans ((hL2107 87 1 rfl).2.2.trans hr_87_1)))))), ?_⟩
              have o2390 : 0 ≤ r2385.toInt ∧ r2385.toInt < 301 := by omega
              refine ⟨o2390, ?_⟩
              have o2392 : 0 ≤ (w2105.1 108 1).toInt ∧ (w2105.1 108 1).toInt ≤ 301 := by have := bd_108_1 hI2106; have := bd_108_1 hI; have := (congrArg Int32.toInt (hL2107 108 1 rfl).1); omega
              have hI2391 : BND (sI w2382 111 r2385.toInt.toNat (w2105.1 108 1)) := wbd_111 hI2383 r2385.toInt.toNat o2392.1 o2392.2
              have o2394 : 0 ≤ ((sI w2114 87 9 (w2114.1 87 4)).1 108 1).toInt ∧ ((sI w2114 87 9 (w2114.1 87 4)).1 108 1).toInt ≤ 301 := by have := bd_108_1 hI2115; have : ((sI w2114 87 9 (w2114.1 87 4)).1 108 1).toInt = (w2114.1 108 1).toInt := rfl; omega
              have hI2393 : BND (sI (sI w2382 111 r2385.toInt.toNat (w2105.1 108 1)) 112 r2385.toInt.toNat ((sI w2114 87 9 (w2114.1 87 4)).1 108 1)) := wbd_112 hI2391 r2385.toInt.toNat o2394.1 o2394.2
              have o2395 : (0 ≤ r2385.toInt) ∧ (r2385.toInt ≤ 300) ∧ (((sI (sI w2382 111 r2385.toInt.toNat (w2105.1 108 1)) 112 r2385.toInt.toNat ((sI w2114 87 9 (w2114.1 87 4)).1 108 1)).1 87 8).toInt = (w.1 87 8).toInt) := by have := bd_87_8 hI2383; have := bd_87_8 hI2378; have := bd_87_8 hI2349; have := (congrArg Int32.toInt (hL2379 87 8 rfl).1); have := (congrArg Int32.toInt (hL2384 87 8 rfl).1); have : ((sI (sI w2382 111 r2385.toInt.toNat (w2105.1 108 1)) 112 r2385.toInt.toNat ((sI w2114 87 9 (w2114.1 87 4)).1 108 1)).1 87 8).toInt = (w2382.1 87 8).toInt := rfl; have := bd_87_8 hI; have := bd_87_8 hI2115; have := bd_87_8 hI2106; have := (congrArg Int32.toInt (hL2107 87 8 rfl).1); have := ti_lo r2117; have := ti_hi r2117; have := (congrArg Int32.toInt (hL2107 118 r2108.toInt.toNat rfl).1); have := (congrArg Int32.toInt (hL2116 118 r2108.toInt.toNat rfl).1); have := bd_87_8 hI2343; have : ((sI w2114 87 9 (w2114.1 87 4)).1 87 8).toInt = (w2114.1 87 8).toInt := rfl; have := (congrArg Int32.toInt (hL2344 87 8 rfl).1); have := ti_lo r2351; have := ti_hi r2351; have := (by decide : ((3 : Int32)).toInt = 3); exact ⟨by omega, by omega, by omega⟩
              exact hQ _ _ hI2393 (FR.I (FR.I hF2388 (k := 111) (j := r2385.toInt.toNat) (v := (w2105.1 108 1)) rfl) (k := 112) (j := r2385.toInt.toNat) (v := ((sI w2114 87 9 (w2114.1 87 4)).1 108 1)) rfl)  o2395.1 o2395.2.1 o2395.2.2
            · have hI2396 : BND (sI w2348 87 9 (w2348.1 87 4)) := wbd_87_9 hI2349
              have o2397 : (15 ≤ (59 : Int32).toInt) ∧ ((59 : Int32).toInt ≤ 125) := by have := (by decide : ((59 : Int32)).toInt = 59); exact ⟨by omega, by omega⟩
              refine h_Rd_take hI2396 ((hL2350 87 0 rfl).2.2.trans ((hL2344 87 0 rfl).2.2.trans ((hL2116 87 0 rfl).2.2.trans ((hL2107 87 0 rfl).2.2.trans hr_87_0)))) o2397.1 o2397.2 (fun w2398 hI2399 hL2400  => ?_)
              have hF2402 : FR l_Rd_readChange w w2398 := (FR.I hF2353 (k := 87) (j := 9) (v := (w2348.1 87 4)) rfl).tr hL2400 rfl
              refine h_Rd_makeNode hI2399 ((hL2400 87 1 rfl).2.2.trans ((hL2350 87 1 rfl).2.2.trans ((hL2344 87 1 rfl).2.2.trans ((hL2116 87 1 rfl).2.2.trans ((hL2107 87 1 rfl).2.2.trans hr_87_1)))))  (fun r2406 w2403 hI2404 hL2405 p2407 p2408 => ?_)
              have hF2409 : FR l_Rd_readChange w w2403 := hF2402.tr hL2405 rfl
              refine Eq.mpr (p_Rd_giveRange.eq_1 _ _ _ _ _) ?_
              refine ⟨((hL2405 87 1 rfl).2.2.trans ((hL2400 87 1 rfl).2.2.trans ((hL2350 87 1 rfl).2.2.trans ((hL2344 87 1 rfl).2.2.trans ((hL2116 87 1 rfl).2.2.trans ((hL2107 87 1 rfl).2.2.trans hr_87_1)))))), ?_⟩
              have o2410 : 0 ≤ r2406.toInt ∧ r2406.toInt < 301 := by omega
              refine ⟨o2410, ?_⟩
              refine ⟨((hL2405 87 1 rfl).2.2.trans ((hL2400 87 1 rfl).2.2.trans ((hL2350 87 1 rfl).2.2.trans ((hL2344 87 1 rfl).2.2.trans ((hL2116 87 1 rfl).2.2.trans ((hL2107 87 1 rfl).2.2.trans hr_87_1)))))), ?_⟩
              have o2411 : 0 ≤ r2406.toInt ∧ r2406.toInt < 301 := by omega
              refine ⟨o2411, ?_⟩
              have o2413 : 0 ≤ (w2105.1 108 1).toInt ∧ (w2105.1 108 1).toInt ≤ 301 := by have := bd_108_1 hI2106; have := bd_108_1 hI; have := (congrArg Int32.toInt (hL2107 108 1 rfl).1); omega
              have hI2412 : BND (sI w2403 111 r2406.toInt.toNat (w2105.1 108 1)) := wbd_111 hI2404 r2406.toInt.toNat o2413.1 o2413.2
              have o2415 : 0 ≤ ((sI w2114 87 9 (w2114.1 87 4)).1 108 1).toInt ∧ ((sI w2114 87 9 (w2114.1 87 4)).1 108 1).toInt ≤ 301 := by have := bd_108_1 hI2115; have : ((sI w2114 87 9 (w2114.1 87 4)).1 108 1).toInt = (w2114.1 108 1).toInt := rfl; omega
              have hI2414 : BND (sI (sI w2403 111 r2406.toInt.toNat (w2105.1 108 1)) 112 r2406.toInt.toNat ((sI w2114 87 9 (w2114.1 87 4)).1 108 1)) := wbd_112 hI2412 r2406.toInt.toNat o2415.1 o2415.2
              have o2416 : (0 ≤ r2406.toInt) ∧ (r2406.toInt ≤ 300) ∧ (((sI (sI w2403 111 r2406.toInt.toNat (w2105.1 108 1)) 112 r2406.toInt.toNat ((sI w2114 87 9 (w2114.1 87 4)).1 108 1)).1 87 8).toInt = (w.1 87 8).toInt) := by have := bd_87_8 hI2404; have := bd_87_8 hI2399; have := bd_87_8 hI2349; have : ((sI w2348 87 9 (w2348.1 87 4)).1 87 8).toInt = (w2348.1 87 8).toInt := rfl; have := (congrArg Int32.toInt (hL2400 87 8 rfl).1); have := (congrArg Int32.toInt (hL2405 87 8 rfl).1); have : ((sI (sI w2403 111 r2406.toInt.toNat (w2105.1 108 1)) 112 r2406.toInt.toNat ((sI w2114 87 9 (w2114.1 87 4)).1 108 1)).1 87 8).toInt = (w2403.1 87 8).toInt := rfl; have := bd_87_8 hI; have := bd_87_8 hI2115; have := bd_87_8 hI2106; have := (congrArg Int32.toInt (hL2107 87 8 rfl).1); have := ti_lo r2117; have := ti_hi r2117; have := (congrArg Int32.toInt (hL2107 118 r2108.toInt.toNat rfl).1); have := (congrArg Int32.toInt (hL2116 118 r2108.toInt.toNat rfl).1); have := bd_87_8 hI2343; have : ((sI w2114 87 9 (w2114.1 87 4)).1 87 8).toInt = (w2114.1 87 8).toInt := rfl; have := (congrArg Int32.toInt (hL2344 87 8 rfl).1); have := ti_lo r2351; have := ti_hi r2351; have := (by decide : ((3 : Int32)).toInt = 3); exact ⟨by omega, by omega, by omega⟩
              exact hQ _ _ hI2414 (FR.I (FR.I hF2409 (k := 111) (j := r2406.toInt.toNat) (v := (w2105.1 108 1)) rfl) (k := 112) (j := r2406.toInt.toNat) (v := ((sI w2114 87 9 (w2114.1 87 4)).1 108 1)) rfl)  o2416.1 o2416.2.1 o2416.2.2
  · refine Eq.mpr (q_Rd_readChange_38.eq_1 _ _ _ _ _ _ _) ?_
    refine Eq.mpr (p_Rd_demand.eq_1 _ _ _ _) ?_
    refine ⟨fun h2417 => ?_, fun h2417 => ?_⟩
    · replace h2417 : r2117.toInt = 0 := h2417
      refine ⟨((hL2116 87 1 rfl).2.2.trans ((hL2107 87 1 rfl).2.2.trans hr_87_1)), ?_⟩
      refine ⟨fun h2418 => ?_, fun h2418 => ?_⟩
      · have o2419 : (15 ≤ (59 : Int32).toInt) ∧ ((59 : Int32).toInt ≤ 125) := by have := (by decide : ((59 : Int32)).toInt = 59); exact ⟨by omega, by omega⟩
        refine h_Rd_take hI2115 ((hL2116 87 0 rfl).2.2.trans ((hL2107 87 0 rfl).2.2.trans hr_87_0)) o2419.1 o2419.2 (fun w2420 hI2421 hL2422  => ?_)
        have hF2424 : FR l_Rd_readChange w w2420 := hF2119.tr hL2422 rfl
        refine h_Rd_makeNode hI2421 ((hL2422 87 1 rfl).2.2.trans ((hL2116 87 1 rfl).2.2.trans ((hL2107 87 1 rfl).2.2.trans hr_87_1)))  (fun r2428 w2425 hI2426 hL2427 p2429 p2430 => ?_)
        have hF2431 : FR l_Rd_readChange w w2425 := hF2424.tr hL2427 rfl
        refine Eq.mpr (p_Rd_giveRange.eq_1 _ _ _ _ _) ?_
        refine ⟨((hL2427 87 1 rfl).2.2.trans ((hL2422 87 1 rfl).2.2.trans ((hL2116 87 1 rfl).2.2.trans ((hL2107 87 1 rfl).2.2.trans hr_87_1)))), ?_⟩
        have o2432 : 0 ≤ r2428.toInt ∧ r2428.toInt < 301 := by omega
        refine ⟨o2432, ?_⟩
        refine ⟨((hL2427 87 1 rfl).2.2.trans ((hL2422 87 1 rfl).2.2.trans ((hL2116 87 1 rfl).2.2.trans ((hL2107 87 1 rfl).2.2.trans hr_87_1)))), ?_⟩
        have o2433 : 0 ≤ r2428.toInt ∧ r2428.toInt < 301 := by omega
        refine ⟨o2433, ?_⟩
        have o2435 : 0 ≤ (w2105.1 108 1).toInt ∧ (w2105.1 108 1).toInt ≤ 301 := by have := bd_108_1 hI2106; have := bd_108_1 hI; have := (congrArg Int32.toInt (hL2107 108 1 rfl).1); omega
        have hI2434 : BND (sI w2425 111 r2428.toInt.toNat (w2105.1 108 1)) := wbd_111 hI2426 r2428.toInt.toNat o2435.1 o2435.2
        have o2437 : 0 ≤ (w2114.1 108 1).toInt ∧ (w2114.1 108 1).toInt ≤ 301 := by have := bd_108_1 hI2115; omega
        have hI2436 : BND (sI (sI w2425 111 r2428.toInt.toNat (w2105.1 108 1)) 112 r2428.toInt.toNat (w2114.1 108 1)) := wbd_112 hI2434 r2428.toInt.toNat o2437.1 o2437.2
        have o2438 : (0 ≤ r2428.toInt) ∧ (r2428.toInt ≤ 300) ∧ (((sI (sI w2425 111 r2428.toInt.toNat (w2105.1 108 1)) 112 r2428.toInt.toNat (w2114.1 108 1)).1 87 8).toInt = (w.1 87 8).toInt) := by have := bd_87_8 hI2426; have := bd_87_8 hI2421; have := bd_87_8 hI2115; have := (congrArg Int32.toInt (hL2422 87 8 rfl).1); have := (congrArg Int32.toInt (hL2427 87 8 rfl).1); have : ((sI (sI w2425 111 r2428.toInt.toNat (w2105.1 108 1)) 112 r2428.toInt.toNat (w2114.1 108 1)).1 87 8).toInt = (w2425.1 87 8).toInt := rfl; have := bd_87_8 hI; have := bd_87_8 hI2106; have := (congrArg Int32.toInt (hL2107 87 8 rfl).1); have := (by decide : ((0 : Int32)).toInt = 0); exact ⟨by omega, by omega, by omega⟩
        exact hQ _ _ hI2436 (FR.I (FR.I hF2431 (k := 111) (j := r2428.toInt.toNat) (v := (w2105.1 108 1)) rfl) (k := 112) (j := r2428.toInt.toNat) (v := (w2114.1 108 1)) rfl)  o2438.1 o2438.2.1 o2438.2.2
      · have o2439 : (15 ≤ (15 : Int32).toInt) ∧ ((15 : Int32).toInt ≤ 125) := by have := (by decide : ((15 : Int32)).toInt = 15); exact ⟨by omega, by omega⟩
        refine h_Rd_take hI2115 ((hL2116 87 0 rfl).2.2.trans ((hL2107 87 0 rfl).2.2.trans hr_87_0)) o2439.1 o2439.2 (fun w2440 hI2441 hL2442  => ?_)
        have hF2444 : FR l_Rd_readChange w w2440 := hF2119.tr hL2442 rfl
        have o2445 : (0 ≤ (1 : Int32).toInt) ∧ ((1 : Int32).toInt ≤ 2) := by have := (by decide : ((1 : Int32)).toInt = 1); exact ⟨by omega, by omega⟩
        refine h_Rd_readLevel hI2441 ((hL2442 87 0 rfl).2.2.trans ((hL2116 87 0 rfl).2.2.trans ((hL2107 87 0 rfl).2.2.trans hr_87_0))) ((hL2442 87 1 rfl).2.2.trans ((hL2116 87 1 rfl).2.2.trans ((hL2107 87 1 rfl).2.2.trans hr_87_1))) o2445.1 o2445.2 (fun r2449 w2446 hI2447 hL2448 p2450 => ?_)
        have hF2451 : FR l_Rd_readChange w w2446 := hF2444.tr hL2448 rfl
        refine Eq.mpr (p_Rd_demand.eq_1 _ _ _ _) ?_
        refine ⟨fun h2452 => ?_, fun h2452 => ?_⟩
        · replace h2452 : r2449.toInt = 3 := h2452
          have o2453 : (15 ≤ (59 : Int32).toInt) ∧ ((59 : Int32).toInt ≤ 125) := by have := (by decide : ((59 : Int32)).toInt = 59); exact ⟨by omega, by omega⟩
          refine h_Rd_take hI2447 ((hL2448 87 0 rfl).2.2.trans ((hL2442 87 0 rfl).2.2.trans ((hL2116 87 0 rfl).2.2.trans ((hL2107 87 0 rfl).2.2.trans hr_87_0)))) o2453.1 o2453.2 (fun w2454 hI2455 hL2456  => ?_)
          have hF2458 : FR l_Rd_readChange w w2454 := hF2451.tr hL2456 rfl
          refine h_Rd_makeNode hI2455 ((hL2456 87 1 rfl).2.2.trans ((hL2448 87 1 rfl).2.2.trans ((hL2442 87 1 rfl).2.2.trans ((hL2116 87 1 rfl).2.2.trans ((hL2107 87 1 rfl).2.2.trans hr_87_1)))))  (fun r2462 w2459 hI2460 hL2461 p2463 p2464 => ?_)
          have hF2465 : FR l_Rd_readChange w w2459 := hF2458.tr hL2461 rfl
          refine Eq.mpr (p_Rd_giveRange.eq_1 _ _ _ _ _) ?_
          refine ⟨((hL2461 87 1 rfl).2.2.trans ((hL2456 87 1 rfl).2.2.trans ((hL2448 87 1 rfl).2.2.trans ((hL2442 87 1 rfl).2.2.trans ((hL2116 87 1 rfl).2.2.trans ((hL2107 87 1 rfl).2.2.trans hr_87_1)))))), ?_⟩
          have o2466 : 0 ≤ r2462.toInt ∧ r2462.toInt < 301 := by omega
          refine ⟨o2466, ?_⟩
          refine ⟨((hL2461 87 1 rfl).2.2.trans ((hL2456 87 1 rfl).2.2.trans ((hL2448 87 1 rfl).2.2.trans ((hL2442 87 1 rfl).2.2.trans ((hL2116 87 1 rfl).2.2.trans ((hL2107 87 1 rfl).2.2.trans hr_87_1)))))), ?_⟩
          have o2467 : 0 ≤ r2462.toInt ∧ r2462.toInt < 301 := by omega
          refine ⟨o2467, ?_⟩
          have o2469 : 0 ≤ (w2105.1 108 1).toInt ∧ (w2105.1 108 1).toInt ≤ 301 := by have := bd_108_1 hI2106; have := bd_108_1 hI; have := (congrArg Int32.toInt (hL2107 108 1 rfl).1); omega
          have hI2468 : BND (sI w2459 111 r2462.toInt.toNat (w2105.1 108 1)) := wbd_111 hI2460 r2462.toInt.toNat o2469.1 o2469.2
          have o2471 : 0 ≤ (w2114.1 108 1).toInt ∧ (w2114.1 108 1).toInt ≤ 301 := by have := bd_108_1 hI2115; omega
          have hI2470 : BND (sI (sI w2459 111 r2462.toInt.toNat (w2105.1 108 1)) 112 r2462.toInt.toNat (w2114.1 108 1)) := wbd_112 hI2468 r2462.toInt.toNat o2471.1 o2471.2
          have o2472 : (0 ≤ r2462.toInt) ∧ (r2462.toInt ≤ 300) ∧ (((sI (sI w2459 111 r2462.toInt.toNat (w2105.1 108 1)) 112 r2462.toInt.toNat (w2114.1 108 1)).1 87 8).toInt = (w.1 87 8).toInt) := by have := bd_87_8 hI2460; have := bd_87_8 hI2455; have := bd_87_8 hI2447; have := (congrArg Int32.toInt (hL2456 87 8 rfl).1); have := (congrArg Int32.toInt (hL2461 87 8 rfl).1); have : ((sI (sI w2459 111 r2462.toInt.toNat (w2105.1 108 1)) 112 r2462.toInt.toNat (w2114.1 108 1)).1 87 8).toInt = (w2459.1 87 8).toInt := rfl; have := bd_87_8 hI; have := bd_87_8 hI2115; have := bd_87_8 hI2106; have := (congrArg Int32.toInt (hL2107 87 8 rfl).1); have := (by decide : ((0 : Int32)).toInt = 0); have := bd_87_8 hI2441; have := (congrArg Int32.toInt (hL2442 87 8 rfl).1); have := (by decide : ((3 : Int32)).toInt = 3); exact ⟨by omega, by omega, by omega⟩
          exact hQ _ _ hI2470 (FR.I (FR.I hF2465 (k := 111) (j := r2462.toInt.toNat) (v := (w2105.1 108 1)) rfl) (k := 112) (j := r2462.toInt.toNat) (v := (w2114.1 108 1)) rfl)  o2472.1 o2472.2.1 o2472.2.2
        · replace h2452 : ¬ (r2449.toInt = 3) := h2452
          refine Eq.mpr (p_Rd_fail.eq_1 _ _) ?_
          refine ⟨fun h2473 => ?_, fun h2473 => ?_⟩
          · have o2474 : (15 ≤ (59 : Int32).toInt) ∧ ((59 : Int32).toInt ≤ 125) := by have := (by decide : ((59 : Int32)).toInt = 59); exact ⟨by omega, by omega⟩
            refine h_Rd_take hI2447 ((hL2448 87 0 rfl).2.2.trans ((hL2442 87 0 rfl).2.2.trans ((hL2116 87 0 rfl).2.2.trans ((hL2107 87 0 rfl).2.2.trans hr_87_0)))) o2474.1 o2474.2 (fun w2475 hI2476 hL2477  => ?_)
            have hF2479 : FR l_Rd_readChange w w2475 := hF2451.tr hL2477 rfl
            refine h_Rd_makeNode hI2476 ((hL2477 87 1 rfl).2.2.trans ((hL2448 87 1 rfl).2.2.trans ((hL2442 87 1 rfl).2.2.trans ((hL2116 87 1 rfl).2.2.trans ((hL2107 87 1 rfl).2.2.trans hr_87_1)))))  (fun r2483 w2480 hI2481 hL2482 p2484 p2485 => ?_)
            have hF2486 : FR l_Rd_readChange w w2480 := hF2479.tr hL2482 rfl
            refine Eq.mpr (p_Rd_giveRange.eq_1 _ _ _ _ _) ?_
            refine ⟨((hL2482 87 1 rfl).2.2.trans ((hL2477 87 1 rfl).2.2.trans ((hL2448 87 1 rfl).2.2.trans ((hL2442 87 1 rfl).2.2.trans ((hL2116 87 1 rfl).2.2.trans ((hL2107 87 1 rfl).2.2.trans hr_87_1)))))), ?_⟩
            have o2487 : 0 ≤ r2483.toInt ∧ r2483.toInt < 301 := by omega
            refine ⟨o2487, ?_⟩
            refine ⟨((hL2482 87 1 rfl).2.2.trans ((hL2477 87 1 rfl).2.2.trans ((hL2448 87 1 rfl).2.2.trans ((hL2442 87 1 rfl).2.2.trans ((hL2116 87 1 rfl).2.2.trans ((hL2107 87 1 rfl).2.2.trans hr_87_1)))))), ?_⟩
            have o2488 : 0 ≤ r2483.toInt ∧ r2483.toInt < 301 := by omega
            refine ⟨o2488, ?_⟩
            have o2490 : 0 ≤ (w2105.1 108 1).toInt ∧ (w2105.1 108 1).toInt ≤ 301 := by have := bd_108_1 hI2106; have := bd_108_1 hI; have := (congrArg Int32.toInt (hL2107 108 1 rfl).1); omega
            have hI2489 : BND (sI w2480 111 r2483.toInt.toNat (w2105.1 108 1)) := wbd_111 hI2481 r2483.toInt.toNat o2490.1 o2490.2
            have o2492 : 0 ≤ (w2114.1 108 1).toInt ∧ (w2114.1 108 1).toInt ≤ 301 := by have := bd_108_1 hI2115; omega
            have hI2491 : BND (sI (sI w2480 111 r2483.toInt.toNat (w2105.1 108 1)) 112 r2483.toInt.toNat (w2114.1 108 1)) := wbd_112 hI2489 r2483.toInt.toNat o2492.1 o2492.2
            have o2493 : (0 ≤ r2483.toInt) ∧ (r2483.toInt ≤ 300) ∧ (((sI (sI w2480 111 r2483.toInt.toNat (w2105.1 108 1)) 112 r2483.toInt.toNat (w2114.1 108 1)).1 87 8).toInt = (w.1 87 8).toInt) := by have := bd_87_8 hI2481; have := bd_87_8 hI2476; have := bd_87_8 hI2447; have := (congrArg Int32.toInt (hL2477 87 8 rfl).1); have := (congrArg Int32.toInt (hL2482 87 8 rfl).1); have : ((sI (sI w2480 111 r2483.toInt.toNat (w2105.1 108 1)) 112 r2483.toInt.toNat (w2114.1 108 1)).1 87 8).toInt = (w2480.1 87 8).toInt := rfl; have := bd_87_8 hI; have := bd_87_8 hI2115; have := bd_87_8 hI2106; have := (congrArg Int32.toInt (hL2107 87 8 rfl).1); have := (by decide : ((0 : Int32)).toInt = 0); have := bd_87_8 hI2441; have := (congrArg Int32.toInt (hL2442 87 8 rfl).1); have := ti_lo r2449; have := ti_hi r2449; have := (by decide : ((3 : Int32)).toInt = 3); exact ⟨by omega, by omega, by omega⟩
            exact hQ _ _ hI2491 (FR.I (FR.I hF2486 (k := 111) (j := r2483.toInt.toNat) (v := (w2105.1 108 1)) rfl) (k := 112) (j := r2483.toInt.toNat) (v := (w2114.1 108 1)) rfl)  o2493.1 o2493.2.1 o2493.2.2
          · have hI2494 : BND (sI w2446 87 9 (w2446.1 87 4)) := wbd_87_9 hI2447
            have o2495 : (15 ≤ (59 : Int32).toInt) ∧ ((59 : Int32).toInt ≤ 125) := by have := (by decide : ((59 : Int32)).toInt = 59); exact ⟨by omega, by omega⟩
            refine h_Rd_take hI2494 ((hL2448 87 0 rfl).2.2.trans ((hL2442 87 0 rfl).2.2.trans ((hL2116 87 0 rfl).2.2.trans ((hL2107 87 0 rfl).2.2.trans hr_87_0)))) o2495.1 o2495.2 (fun w2496 hI2497 hL2498  => ?_)
            have hF2500 : FR l_Rd_readChange w w2496 := (FR.I hF2451 (k := 87) (j := 9) (v := (w2446.1 87 4)) rfl).tr hL2498 rfl
            refine h_Rd_makeNode hI2497 ((hL2498 87 1 rfl).2.2.trans ((hL2448 87 1 rfl).2.2.trans ((hL2442 87 1 rfl).2.2.trans ((hL2116 87 1 rfl).2.2.trans ((hL2107 87 1 rfl).2.2.trans hr_87_1)))))  (fun r2504 w2501 hI2502 hL2503 p2505 p2506 => ?_)
            have hF2507 : FR l_Rd_readChange w w2501 := hF2500.tr hL2503 rfl
            refine Eq.mpr (p_Rd_giveRange.eq_1 _ _ _ _ _) ?_
            refine ⟨((hL2503 87 1 rfl).2.2.trans ((hL2498 87 1 rfl).2.2.trans ((hL2448 87 1 rfl).2.2.trans ((hL2442 87 1 rfl).2.2.trans ((hL2116 87 1 rfl).2.2.trans ((hL2107 87 1 rfl).2.2.trans hr_87_1)))))), ?_⟩
            have o2508 : 0 ≤ r2504.toInt ∧ r2504.toInt < 301 := by omega
            refine ⟨o2508, ?_⟩
            refine ⟨((hL2503 87 1 rfl).2.2.trans ((hL2498 87 1 rfl).2.2.trans ((hL2448 87 1 rfl).2.2.trans ((hL2442 87 1 rfl).2.2.trans ((hL2116 87 1 rfl).2.2.trans ((hL2107 87 1 rfl).2.2.trans hr_87_1)))))), ?_⟩
            have o2509 : 0 ≤ r2504.toInt ∧ r2504.toInt < 301 := by omega
            refine ⟨o2509, ?_⟩
            have o2511 : 0 ≤ (w2105.1 108 1).toInt ∧ (w2105.1 108 1).toInt ≤ 301 := by have := bd_108_1 hI2106; have := bd_108_1 hI; have := (congrArg Int32.toInt (hL2107 108 1 rfl).1); omega
            have hI2510 : BND (sI w2501 111 r2504.toInt.toNat (w2105.1 108 1)) := wbd_111 hI2502 r2504.toInt.toNat o2511.1 o2511.2
            have o2513 : 0 ≤ (w2114.1 108 1).toInt ∧ (w2114.1 108 1).toInt ≤ 301 := by have := bd_108_1 hI2115; omega
            have hI2512 : BND (sI (sI w2501 111 r2504.toInt.toNat (w2105.1 108 1)) 112 r2504.toInt.toNat (w2114.1 108 1)) := wbd_112 hI2510 r2504.toInt.toNat o2513.1 o2513.2
            have o2514 : (0 ≤ r2504.toInt) ∧ (r2504.toInt ≤ 300) ∧ (((sI (sI w2501 111 r2504.toInt.toNat (w2105.1 108 1)) 112 r2504.toInt.toNat (w2114.1 108 1)).1 87 8).toInt = (w.1 87 8).toInt) := by have := bd_87_8 hI2502; have := bd_87_8 hI2497; have := bd_87_8 hI2447; have : ((sI w2446 87 9 (w2446.1 87 4)).1 87 8).toInt = (w2446.1 87 8).toInt := rfl; have := (congrArg Int32.toInt (hL2498 87 8 rfl).1); have := (congrArg Int32.toInt (hL2503 87 8 rfl).1); have : ((sI (sI w2501 111 r2504.toInt.toNat (w2105.1 108 1)) 112 r2504.toInt.toNat (w2114.1 108 1)).1 87 8).toInt = (w2501.1 87 8).toInt := rfl; have := bd_87_8 hI; have := bd_87_8 hI2115; have := bd_87_8 hI2106; have := (congrArg Int32.toInt (hL2107 87 8 rfl).1); have := (by decide : ((0 : Int32)).toInt = 0); have := bd_87_8 hI2441; have := (congrArg Int32.toInt (hL2442 87 8 rfl).1); have := ti_lo r2449; have := ti_hi r2449; have := (by decide : ((3 : Int32)).toInt = 3); exact ⟨by omega, by omega, by omega⟩
            exact hQ _ _ hI2512 (FR.I (FR.I hF2507 (k := 111) (j := r2504.toInt.toNat) (v := (w2105.1 108 1)) rfl) (k := 112) (j := r2504.toInt.toNat) (v := (w2114.1 108 1)) rfl)  o2514.1 o2514.2.1 o2514.2.2
    · replace h2417 : ¬ (r2117.toInt = 0) := h2417
      refine Eq.mpr (p_Rd_fail.eq_1 _ _) ?_
      refine ⟨fun h2515 => ?_, fun h2515 => ?_⟩
      · refine ⟨((hL2116 87 1 rfl).2.2.trans ((hL2107 87 1 rfl).2.2.trans hr_87_1)), ?_⟩
        refine ⟨fun h2516 => ?_, fun h2516 => ?_⟩
        · have o2517 : (15 ≤ (59 : Int32).toInt) ∧ ((59 : Int32).toInt ≤ 125) := by have := (by decide : ((59 : Int32)).toInt = 59); exact ⟨by omega, by omega⟩
          refine h_Rd_take hI2115 ((hL2116 87 0 rfl).2.2.trans ((hL2107 87 0 rfl).2.2.trans hr_87_0)) o2517.1 o2517.2 (fun w2518 hI2519 hL2520  => ?_)
          have hF2522 : FR l_Rd_readChange w w2518 := hF2119.tr hL2520 rfl
          refine h_Rd_makeNode hI2519 ((hL2520 87 1 rfl).2.2.trans ((hL2116 87 1 rfl).2.2.trans ((hL2107 87 1 rfl).2.2.trans hr_87_1)))  (fun r2526 w2523 hI2524 hL2525 p2527 p2528 => ?_)
          have hF2529 : FR l_Rd_readChange w w2523 := hF2522.tr hL2525 rfl
          refine Eq.mpr (p_Rd_giveRange.eq_1 _ _ _ _ _) ?_
          refine ⟨((hL2525 87 1 rfl).2.2.trans ((hL2520 87 1 rfl).2.2.trans ((hL2116 87 1 rfl).2.2.trans ((hL2107 87 1 rfl).2.2.trans hr_87_1)))), ?_⟩
          have o2530 : 0 ≤ r2526.toInt ∧ r2526.toInt < 301 := by omega
          refine ⟨o2530, ?_⟩
          refine ⟨((hL2525 87 1 rfl).2.2.trans ((hL2520 87 1 rfl).2.2.trans ((hL2116 87 1 rfl).2.2.trans ((hL2107 87 1 rfl).2.2.trans hr_87_1)))), ?_⟩
          have o2531 : 0 ≤ r2526.toInt ∧ r2526.toInt < 301 := by omega
          refine ⟨o2531, ?_⟩
          have o2533 : 0 ≤ (w2105.1 108 1).toInt ∧ (w2105.1 108 1).toInt ≤ 301 := by have := bd_108_1 hI2106; have := bd_108_1 hI; have := (congrArg Int32.toInt (hL2107 108 1 rfl).1); omega
          have hI2532 : BND (sI w2523 111 r2526.toInt.toNat (w2105.1 108 1)) := wbd_111 hI2524 r2526.toInt.toNat o2533.1 o2533.2
          have o2535 : 0 ≤ (w2114.1 108 1).toInt ∧ (w2114.1 108 1).toInt ≤ 301 := by have := bd_108_1 hI2115; omega
          have hI2534 : BND (sI (sI w2523 111 r2526.toInt.toNat (w2105.1 108 1)) 112 r2526.toInt.toNat (w2114.1 108 1)) := wbd_112 hI2532 r2526.toInt.toNat o2535.1 o2535.2
          have o2536 : (0 ≤ r2526.toInt) ∧ (r2526.toInt ≤ 300) ∧ (((sI (sI w2523 111 r2526.toInt.toNat (w2105.1 108 1)) 112 r2526.toInt.toNat (w2114.1 108 1)).1 87 8).toInt = (w.1 87 8).toInt) := by have := bd_87_8 hI2524; have := bd_87_8 hI2519; have := bd_87_8 hI2115; have := (congrArg Int32.toInt (hL2520 87 8 rfl).1); have := (congrArg Int32.toInt (hL2525 87 8 rfl).1); have : ((sI (sI w2523 111 r2526.toInt.toNat (w2105.1 108 1)) 112 r2526.toInt.toNat (w2114.1 108 1)).1 87 8).toInt = (w2523.1 87 8).toInt := rfl; have := bd_87_8 hI; have := bd_87_8 hI2106; have := (congrArg Int32.toInt (hL2107 87 8 rfl).1); have := ti_lo r2117; have := ti_hi r2117; have := (by decide : ((0 : Int32)).toInt = 0); exact ⟨by omega, by omega, by omega⟩
          exact hQ _ _ hI2534 (FR.I (FR.I hF2529 (k := 111) (j := r2526.toInt.toNat) (v := (w2105.1 108 1)) rfl) (k := 112) (j := r2526.toInt.toNat) (v := (w2114.1 108 1)) rfl)  o2536.1 o2536.2.1 o2536.2.2
        · have o2537 : (15 ≤ (15 : Int32).toInt) ∧ ((15 : Int32).toInt ≤ 125) := by have := (by decide : ((15 : Int32)).toInt = 15); exact ⟨by omega, by omega⟩
          refine h_Rd_take hI2115 ((hL2116 87 0 rfl).2.2.trans ((hL2107 87 0 rfl).2.2.trans hr_87_0)) o2537.1 o2537.2 (fun w2538 hI2539 hL2540  => ?_)
          have hF2542 : FR l_Rd_readChange w w2538 := hF2119.tr hL2540 rfl
          have o2543 : (0 ≤ (1 : Int32).toInt) ∧ ((1 : Int32).toInt ≤ 2) := by have := (by decide : ((1 : Int32)).toInt = 1); exact ⟨by omega, by omega⟩
          refine h_Rd_readLevel hI2539 ((hL2540 87 0 rfl).2.2.trans ((hL2116 87 0 rfl).2.2.trans ((hL2107 87 0 rfl).2.2.trans hr_87_0))) ((hL2540 87 1 rfl).2.2.trans ((hL2116 87 1 rfl).2.2.trans ((hL2107 87 1 rfl).2.2.trans hr_87_1))) o2543.1 o2543.2 (fun r2547 w2544 hI2545 hL2546 p2548 => ?_)
          have hF2549 : FR l_Rd_readChange w w2544 := hF2542.tr hL2546 rfl
          refine Eq.mpr (p_Rd_demand.eq_1 _ _ _ _) ?_
          refine ⟨fun h2550 => ?_, fun h2550 => ?_⟩
          · replace h2550 : r2547.toInt = 3 := h2550
            have o2551 : (15 ≤ (59 : Int32).toInt) ∧ ((59 : Int32).toInt ≤ 125) := by have := (by decide : ((59 : Int32)).toInt = 59); exact ⟨by omega, by omega⟩
            refine h_Rd_take hI2545 ((hL2546 87 0 rfl).2.2.trans ((hL2540 87 0 rfl).2.2.trans ((hL2116 87 0 rfl).2.2.trans ((hL2107 87 0 rfl).2.2.trans hr_87_0)))) o2551.1 o2551.2 (fun w2552 hI2553 hL2554  => ?_)
            have hF2556 : FR l_Rd_readChange w w2552 := hF2549.tr hL2554 rfl
            refine h_Rd_makeNode hI2553 ((hL2554 87 1 rfl).2.2.trans ((hL2546 87 1 rfl).2.2.trans ((hL2540 87 1 rfl).2.2.trans ((hL2116 87 1 rfl).2.2.trans ((hL2107 87 1 rfl).2.2.trans hr_87_1)))))  (fun r2560 w2557 hI2558 hL2559 p2561 p2562 => ?_)
            have hF2563 : FR l_Rd_readChange w w2557 := hF2556.tr hL2559 rfl
            refine Eq.mpr (p_Rd_giveRange.eq_1 _ _ _ _ _) ?_
            refine ⟨((hL2559 87 1 rfl).2.2.trans ((hL2554 87 1 rfl).2.2.trans ((hL2546 87 1 rfl).2.2.trans ((hL2540 87 1 rfl).2.2.trans ((hL2116 87 1 rfl).2.2.trans ((hL2107 87 1 rfl).2.2.trans hr_87_1)))))), ?_⟩
            have o2564 : 0 ≤ r2560.toInt ∧ r2560.toInt < 301 := by omega
            refine ⟨o2564, ?_⟩
            refine ⟨((hL2559 87 1 rfl).2.2.trans ((hL2554 87 1 rfl).2.2.trans ((hL2546 87 1 rfl).2.2.trans ((hL2540 87 1 rfl).2.2.trans ((hL2116 87 1 rfl).2.2.trans ((hL2107 87 1 rfl).2.2.trans hr_87_1)))))), ?_⟩
            have o2565 : 0 ≤ r2560.toInt ∧ r2560.toInt < 301 := by omega
            refine ⟨o2565, ?_⟩
            have o2567 : 0 ≤ (w2105.1 108 1).toInt ∧ (w2105.1 108 1).toInt ≤ 301 := by have := bd_108_1 hI2106; have := bd_108_1 hI; have := (congrArg Int32.toInt (hL2107 108 1 rfl).1); omega
            have hI2566 : BND (sI w2557 111 r2560.toInt.toNat (w2105.1 108 1)) := wbd_111 hI2558 r2560.toInt.toNat o2567.1 o2567.2
            have o2569 : 0 ≤ (w2114.1 108 1).toInt ∧ (w2114.1 108 1).toInt ≤ 301 := by have := bd_108_1 hI2115; omega
            have hI2568 : BND (sI (sI w2557 111 r2560.toInt.toNat (w2105.1 108 1)) 112 r2560.toInt.toNat (w2114.1 108 1)) := wbd_112 hI2566 r2560.toInt.toNat o2569.1 o2569.2
            have o2570 : (0 ≤ r2560.toInt) ∧ (r2560.toInt ≤ 300) ∧ (((sI (sI w2557 111 r2560.toInt.toNat (w2105.1 108 1)) 112 r2560.toInt.toNat (w2114.1 108 1)).1 87 8).toInt = (w.1 87 8).toInt) := by have := bd_87_8 hI2558; have := bd_87_8 hI2553; have := bd_87_8 hI2545; have := (congrArg Int32.toInt (hL2554 87 8 rfl).1); have := (congrArg Int32.toInt (hL2559 87 8 rfl).1); have : ((sI (sI w2557 111 r2560.toInt.toNat (w2105.1 108 1)) 112 r2560.toInt.toNat (w2114.1 108 1)).1 87 8).toInt = (w2557.1 87 8).toInt := rfl; have := bd_87_8 hI; have := bd_87_8 hI2115; have := bd_87_8 hI2106; have := (congrArg Int32.toInt (hL2107 87 8 rfl).1); have := ti_lo r2117; have := ti_hi r2117; have := (by decide : ((0 : Int32)).toInt = 0); have := bd_87_8 hI2539; have := (congrArg Int32.toInt (hL2540 87 8 rfl).1); have := (by decide : ((3 : Int32)).toInt = 3); exact ⟨by omega, by omega, by omega⟩
            exact hQ _ _ hI2568 (FR.I (FR.I hF2563 (k := 111) (j := r2560.toInt.toNat) (v := (w2105.1 108 1)) rfl) (k := 112) (j := r2560.toInt.toNat) (v := (w2114.1 108 1)) rfl)  o2570.1 o2570.2.1 o2570.2.2
          · replace h2550 : ¬ (r2547.toInt = 3) := h2550
            refine Eq.mpr (p_Rd_fail.eq_1 _ _) ?_
            refine ⟨fun h2571 => ?_, fun h2571 => ?_⟩
            · have o2572 : (15 ≤ (59 : Int32).toInt) ∧ ((59 : Int32).toInt ≤ 125) := by have := (by decide : ((59 : Int32)).toInt = 59); exact ⟨by omega, by omega⟩
              refine h_Rd_take hI2545 ((hL2546 87 0 rfl).2.2.trans ((hL2540 87 0 rfl).2.2.trans ((hL2116 87 0 rfl).2.2.trans ((hL2107 87 0 rfl).2.2.trans hr_87_0)))) o2572.1 o2572.2 (fun w2573 hI2574 hL2575  => ?_)
              have hF2577 : FR l_Rd_readChange w w2573 := hF2549.tr hL2575 rfl
              refine h_Rd_makeNode hI2574 ((hL2575 87 1 rfl).2.2.trans ((hL2546 87 1 rfl).2.2.trans ((hL2540 87 1 rfl).2.2.trans ((hL2116 87 1 rfl).2.2.trans ((hL2107 87 1 rfl).2.2.trans hr_87_1)))))  (fun r2581 w2578 hI2579 hL2580 p2582 p2583 => ?_)
              have hF2584 : FR l_Rd_readChange w w2578 := hF2577.tr hL2580 rfl
              refine Eq.mpr (p_Rd_giveRange.eq_1 _ _ _ _ _) ?_
              refine ⟨((hL2580 87 1 rfl).2.2.trans ((hL2575 87 1 rfl).2.2.trans ((hL2546 87 1 rfl).2.2.trans ((hL2540 87 1 rfl).2.2.trans ((hL2116 87 1 rfl).2.2.trans ((hL2107 87 1 rfl).2.2.trans hr_87_1)))))), ?_⟩
              have o2585 : 0 ≤ r2581.toInt ∧ r2581.toInt < 301 := by omega
              refine ⟨o2585, ?_⟩
              refine ⟨((hL2580 87 1 rfl).2.2.trans ((hL2575 87 1 rfl).2.2.trans ((hL2546 87 1 rfl).2.2.trans ((hL2540 87 1 rfl).2.2.trans ((hL2116 87 1 rfl).2.2.trans ((hL2107 87 1 rfl).2.2.trans hr_87_1)))))), ?_⟩
              have o2586 : 0 ≤ r2581.toInt ∧ r2581.toInt < 301 := by omega
              refine ⟨o2586, ?_⟩
              have o2588 : 0 ≤ (w2105.1 108 1).toInt ∧ (w2105.1 108 1).toInt ≤ 301 := by have := bd_108_1 hI2106; have := bd_108_1 hI; have := (congrArg Int32.toInt (hL2107 108 1 rfl).1); omega
              have hI2587 : BND (sI w2578 111 r2581.toInt.toNat (w2105.1 108 1)) := wbd_111 hI2579 r2581.toInt.toNat o2588.1 o2588.2
              have o2590 : 0 ≤ (w2114.1 108 1).toInt ∧ (w2114.1 108 1).toInt ≤ 301 := by have := bd_108_1 hI2115; omega
              have hI2589 : BND (sI (sI w2578 111 r2581.toInt.toNat (w2105.1 108 1)) 112 r2581.toInt.toNat (w2114.1 108 1)) := wbd_112 hI2587 r2581.toInt.toNat o2590.1 o2590.2
              have o2591 : (0 ≤ r2581.toInt) ∧ (r2581.toInt ≤ 300) ∧ (((sI (sI w2578 111 r2581.toInt.toNat (w2105.1 108 1)) 112 r2581.toInt.toNat (w2114.1 108 1)).1 87 8).toInt = (w.1 87 8).toInt) := by have := bd_87_8 hI2579; have := bd_87_8 hI2574; have := bd_87_8 hI2545; have := (congrArg Int32.toInt (hL2575 87 8 rfl).1); have := (congrArg Int32.toInt (hL2580 87 8 rfl).1); have : ((sI (sI w2578 111 r2581.toInt.toNat (w2105.1 108 1)) 112 r2581.toInt.toNat (w2114.1 108 1)).1 87 8).toInt = (w2578.1 87 8).toInt := rfl; have := bd_87_8 hI; have := bd_87_8 hI2115; have := bd_87_8 hI2106; have := (congrArg Int32.toInt (hL2107 87 8 rfl).1); have := ti_lo r2117; have := ti_hi r2117; have := (by decide : ((0 : Int32)).toInt = 0); have := bd_87_8 hI2539; have := (congrArg Int32.toInt (hL2540 87 8 rfl).1); have := ti_lo r2547; have := ti_hi r2547; have := (by decide : ((3 : Int32)).toInt = 3); exact ⟨by omega, by omega, by omega⟩
              exact hQ _ _ hI2589 (FR.I (FR.I hF2584 (k := 111) (j := r2581.toInt.toNat) (v := (w2105.1 108 1)) rfl) (k := 112) (j := r2581.toInt.toNat) (v := (w2114.1 108 1)) rfl)  o2591.1 o2591.2.1 o2591.2.2
            · have hI2592 : BND (sI w2544 87 9 (w2544.1 87 4)) := wbd_87_9 hI2545
              have o2593 : (15 ≤ (59 : Int32).toInt) ∧ ((59 : Int32).toInt ≤ 125) := by have := (by decide : ((59 : Int32)).toInt = 59); exact ⟨by omega, by omega⟩
              refine h_Rd_take hI2592 ((hL2546 87 0 rfl).2.2.trans ((hL2540 87 0 rfl).2.2.trans ((hL2116 87 0 rfl).2.2.trans ((hL2107 87 0 rfl).2.2.trans hr_87_0)))) o2593.1 o2593.2 (fun w2594 hI2595 hL2596  => ?_)
              have hF2598 : FR l_Rd_readChange w w2594 := (FR.I hF2549 (k := 87) (j := 9) (v := (w2544.1 87 4)) rfl).tr hL2596 rfl
              refine h_Rd_makeNode hI2595 ((hL2596 87 1 rfl).2.2.trans ((hL2546 87 1 rfl).2.2.trans ((hL2540 87 1 rfl).2.2.trans ((hL2116 87 1 rfl).2.2.trans ((hL2107 87 1 rfl).2.2.trans hr_87_1)))))  (fun r2602 w2599 hI2600 hL2601 p2603 p2604 => ?_)
              have hF2605 : FR l_Rd_readChange w w2599 := hF2598.tr hL2601 rfl
              refine Eq.mpr (p_Rd_giveRange.eq_1 _ _ _ _ _) ?_
              refine ⟨((hL2601 87 1 rfl).2.2.trans ((hL2596 87 1 rfl).2.2.trans ((hL2546 87 1 rfl).2.2.trans ((hL2540 87 1 rfl).2.2.trans ((hL2116 87 1 rfl).2.2.trans ((hL2107 87 1 rfl).2.2.trans hr_87_1)))))), ?_⟩
              have o2606 : 0 ≤ r2602.toInt ∧ r2602.toInt < 301 := by omega
              refine ⟨o2606, ?_⟩
              refine ⟨((hL2601 87 1 rfl).2.2.trans ((hL2596 87 1 rfl).2.2.trans ((hL2546 87 1 rfl).2.2.trans ((hL2540 87 1 rfl).2.2.trans ((hL2116 87 1 rfl).2.2.trans ((hL2107 87 1 rfl).2.2.trans hr_87_1)))))), ?_⟩
              have o2607 : 0 ≤ r2602.toInt ∧ r2602.toInt < 301 := by omega
              refine ⟨o2607, ?_⟩
              have o2609 : 0 ≤ (w2105.1 108 1).toInt ∧ (w2105.1 108 1).toInt ≤ 301 := by have := bd_108_1 hI2106; have := bd_108_1 hI; have := (congrArg Int32.toInt (hL2107 108 1 rfl).1); omega
              have hI2608 : BND (sI w2599 111 r2602.toInt.toNat (w2105.1 108 1)) := wbd_111 hI2600 r2602.toInt.toNat o2609.1 o2609.2
              have o2611 : 0 ≤ (w2114.1 108 1).toInt ∧ (w2114.1 108 1).toInt ≤ 301 := by have := bd_108_1 hI2115; omega
              have hI2610 : BND (sI (sI w2599 111 r2602.toInt.toNat (w2105.1 108 1)) 112 r2602.toInt.toNat (w2114.1 108 1)) := wbd_112 hI2608 r2602.toInt.toNat o2611.1 o2611.2
              have o2612 : (0 ≤ r2602.toInt) ∧ (r2602.toInt ≤ 300) ∧ (((sI (sI w2599 111 r2602.toInt.toNat (w2105.1 108 1)) 112 r2602.toInt.toNat (w2114.1 108 1)).1 87 8).toInt = (w.1 87 8).toInt) := by have := bd_87_8 hI2600; have := bd_87_8 hI2595; have := bd_87_8 hI2545; have : ((sI w2544 87 9 (w2544.1 87 4)).1 87 8).toInt = (w2544.1 87 8).toInt := rfl; have := (congrArg Int32.toInt (hL2596 87 8 rfl).1); have := (congrArg Int32.toInt (hL2601 87 8 rfl).1); have : ((sI (sI w2599 111 r2602.toInt.toNat (w2105.1 108 1)) 112 r2602.toInt.toNat (w2114.1 108 1)).1 87 8).toInt = (w2599.1 87 8).toInt := rfl; have := bd_87_8 hI; have := bd_87_8 hI2115; have := bd_87_8 hI2106; have := (congrArg Int32.toInt (hL2107 87 8 rfl).1); have := ti_lo r2117; have := ti_hi r2117; have := (by decide : ((0 : Int32)).toInt = 0); have := bd_87_8 hI2539; have := (congrArg Int32.toInt (hL2540 87 8 rfl).1); have := ti_lo r2547; have := ti_hi r2547; have := (by decide : ((3 : Int32)).toInt = 3); exact ⟨by omega, by omega, by omega⟩
              exact hQ _ _ hI2610 (FR.I (FR.I hF2605 (k := 111) (j := r2602.toInt.toNat) (v := (w2105.1 108 1)) rfl) (k := 112) (j := r2602.toInt.toNat) (v := (w2114.1 108 1)) rfl)  o2612.1 o2612.2.1 o2612.2.2
      · refine ⟨((hL2116 87 1 rfl).2.2.trans ((hL2107 87 1 rfl).2.2.trans hr_87_1)), ?_⟩
        refine ⟨fun h2613 => ?_, fun h2613 => ?_⟩
        · have hI2614 : BND (sI w2114 87 9 (w2114.1 87 4)) := wbd_87_9 hI2115
          have o2615 : (15 ≤ (59 : Int32).toInt) ∧ ((59 : Int32).toInt ≤ 125) := by have := (by decide : ((59 : Int32)).toInt = 59); exact ⟨by omega, by omega⟩
          refine h_Rd_take hI2614 ((hL2116 87 0 rfl).2.2.trans ((hL2107 87 0 rfl).2.2.trans hr_87_0)) o2615.1 o2615.2 (fun w2616 hI2617 hL2618  => ?_)
          have hF2620 : FR l_Rd_readChange w w2616 := (FR.I hF2119 (k := 87) (j := 9) (v := (w2114.1 87 4)) rfl).tr hL2618 rfl
          refine h_Rd_makeNode hI2617 ((hL2618 87 1 rfl).2.2.trans ((hL2116 87 1 rfl).2.2.trans ((hL2107 87 1 rfl).2.2.trans hr_87_1)))  (fun r2624 w2621 hI2622 hL2623 p2625 p2626 => ?_)
          have hF2627 : FR l_Rd_readChange w w2621 := hF2620.tr hL2623 rfl
          refine Eq.mpr (p_Rd_giveRange.eq_1 _ _ _ _ _) ?_
          refine ⟨((hL2623 87 1 rfl).2.2.trans ((hL2618 87 1 rfl).2.2.trans ((hL2116 87 1 rfl).2.2.trans ((hL2107 87 1 rfl).2.2.trans hr_87_1)))), ?_⟩
          have o2628 : 0 ≤ r2624.toInt ∧ r2624.toInt < 301 := by omega
          refine ⟨o2628, ?_⟩
          refine ⟨((hL2623 87 1 rfl).2.2.trans ((hL2618 87 1 rfl).2.2.trans ((hL2116 87 1 rfl).2.2.trans ((hL2107 87 1 rfl).2.2.trans hr_87_1)))), ?_⟩
          have o2629 : 0 ≤ r2624.toInt ∧ r2624.toInt < 301 := by omega
          refine ⟨o2629, ?_⟩
          have o2631 : 0 ≤ (w2105.1 108 1).toInt ∧ (w2105.1 108 1).toInt ≤ 301 := by have := bd_108_1 hI2106; have := bd_108_1 hI; have := (congrArg Int32.toInt (hL2107 108 1 rfl).1); omega
          have hI2630 : BND (sI w2621 111 r2624.toInt.toNat (w2105.1 108 1)) := wbd_111 hI2622 r2624.toInt.toNat o2631.1 o2631.2
          have o2633 : 0 ≤ ((sI w2114 87 9 (w2114.1 87 4)).1 108 1).toInt ∧ ((sI w2114 87 9 (w2114.1 87 4)).1 108 1).toInt ≤ 301 := by have := bd_108_1 hI2115; have : ((sI w2114 87 9 (w2114.1 87 4)).1 108 1).toInt = (w2114.1 108 1).toInt := rfl; omega
          have hI2632 : BND (sI (sI w2621 111 r2624.toInt.toNat (w2105.1 108 1)) 112 r2624.toInt.toNat ((sI w2114 87 9 (w2114.1 87 4)).1 108 1)) := wbd_112 hI2630 r2624.toInt.toNat o2633.1 o2633.2
          have o2634 : (0 ≤ r2624.toInt) ∧ (r2624.toInt ≤ 300) ∧ (((sI (sI w2621 111 r2624.toInt.toNat (w2105.1 108 1)) 112 r2624.toInt.toNat ((sI w2114 87 9 (w2114.1 87 4)).1 108 1)).1 87 8).toInt = (w.1 87 8).toInt) := by have := bd_87_8 hI2622; have := bd_87_8 hI2617; have := bd_87_8 hI2115; have : ((sI w2114 87 9 (w2114.1 87 4)).1 87 8).toInt = (w2114.1 87 8).toInt := rfl; have := (congrArg Int32.toInt (hL2618 87 8 rfl).1); have := (congrArg Int32.toInt (hL2623 87 8 rfl).1); have : ((sI (sI w2621 111 r2624.toInt.toNat (w2105.1 108 1)) 112 r2624.toInt.toNat ((sI w2114 87 9 (w2114.1 87 4)).1 108 1)).1 87 8).toInt = (w2621.1 87 8).toInt := rfl; have := bd_87_8 hI; have := bd_87_8 hI2106; have := (congrArg Int32.toInt (hL2107 87 8 rfl).1); have := ti_lo r2117; have := ti_hi r2117; have := (by decide : ((0 : Int32)).toInt = 0); exact ⟨by omega, by omega, by omega⟩
          exact hQ _ _ hI2632 (FR.I (FR.I hF2627 (k := 111) (j := r2624.toInt.toNat) (v := (w2105.1 108 1)) rfl) (k := 112) (j := r2624.toInt.toNat) (v := ((sI w2114 87 9 (w2114.1 87 4)).1 108 1)) rfl)  o2634.1 o2634.2.1 o2634.2.2
        · have hI2635 : BND (sI w2114 87 9 (w2114.1 87 4)) := wbd_87_9 hI2115
          have o2636 : (15 ≤ (15 : Int32).toInt) ∧ ((15 : Int32).toInt ≤ 125) := by have := (by decide : ((15 : Int32)).toInt = 15); exact ⟨by omega, by omega⟩
          refine h_Rd_take hI2635 ((hL2116 87 0 rfl).2.2.trans ((hL2107 87 0 rfl).2.2.trans hr_87_0)) o2636.1 o2636.2 (fun w2637 hI2638 hL2639  => ?_)
          have hF2641 : FR l_Rd_readChange w w2637 := (FR.I hF2119 (k := 87) (j := 9) (v := (w2114.1 87 4)) rfl).tr hL2639 rfl
          have o2642 : (0 ≤ (1 : Int32).toInt) ∧ ((1 : Int32).toInt ≤ 2) := by have := (by decide : ((1 : Int32)).toInt = 1); exact ⟨by omega, by omega⟩
          refine h_Rd_readLevel hI2638 ((hL2639 87 0 rfl).2.2.trans ((hL2116 87 0 rfl).2.2.trans ((hL2107 87 0 rfl).2.2.trans hr_87_0))) ((hL2639 87 1 rfl).2.2.trans ((hL2116 87 1 rfl).2.2.trans ((hL2107 87 1 rfl).2.2.trans hr_87_1))) o2642.1 o2642.2 (fun r2646 w2643 hI2644 hL2645 p2647 => ?_)
          have hF2648 : FR l_Rd_readChange w w2643 := hF2641.tr hL2645 rfl
          refine Eq.mpr (p_Rd_demand.eq_1 _ _ _ _) ?_
          refine ⟨fun h2649 => ?_, fun h2649 => ?_⟩
          · replace h2649 : r2646.toInt = 3 := h2649
            have o2650 : (15 ≤ (59 : Int32).toInt) ∧ ((59 : Int32).toInt ≤ 125) := by have := (by decide : ((59 : Int32)).toInt = 59); exact ⟨by omega, by omega⟩
            refine h_Rd_take hI2644 ((hL2645 87 0 rfl).2.2.trans ((hL2639 87 0 rfl).2.2.trans ((hL2116 87 0 rfl).2.2.trans ((hL2107 87 0 rfl).2.2.trans hr_87_0)))) o2650.1 o2650.2 (fun w2651 hI2652 hL2653  => ?_)
            have hF2655 : FR l_Rd_readChange w w2651 := hF2648.tr hL2653 rfl
            refine h_Rd_makeNode hI2652 ((hL2653 87 1 rfl).2.2.trans ((hL2645 87 1 rfl).2.2.trans ((hL2639 87 1 rfl).2.2.trans ((hL2116 87 1 rfl).2.2.trans ((hL2107 87 1 rfl).2.2.trans hr_87_1)))))  (fun r2659 w2656 hI2657 hL2658 p2660 p2661 => ?_)
            have hF2662 : FR l_Rd_readChange w w2656 := hF2655.tr hL2658 rfl
            refine Eq.mpr (p_Rd_giveRange.eq_1 _ _ _ _ _) ?_
            refine ⟨((hL2658 87 1 rfl).2.2.trans ((hL2653 87 1 rfl).2.2.trans ((hL2645 87 1 rfl).2.2.trans ((hL2639 87 1 rfl).2.2.trans ((hL2116 87 1 rfl).2.2.trans ((hL2107 87 1 rfl).2.2.trans hr_87_1)))))), ?_⟩
            have o2663 : 0 ≤ r2659.toInt ∧ r2659.toInt < 301 := by omega
            refine ⟨o2663, ?_⟩
            refine ⟨((hL2658 87 1 rfl).2.2.trans ((hL2653 87 1 rfl).2.2.trans ((hL2645 87 1 rfl).2.2.trans ((hL2639 87 1 rfl).2.2.trans ((hL2116 87 1 rfl).2.2.trans ((hL2107 87 1 rfl).2.2.trans hr_87_1)))))), ?_⟩
            have o2664 : 0 ≤ r2659.toInt ∧ r2659.toInt < 301 := by omega
            refine ⟨o2664, ?_⟩
            have o2666 : 0 ≤ (w2105.1 108 1).toInt ∧ (w2105.1 108 1).toInt ≤ 301 := by have := bd_108_1 hI2106; have := bd_108_1 hI; have := (congrArg Int32.toInt (hL2107 108 1 rfl).1); omega
            have hI2665 : BND (sI w2656 111 r2659.toInt.toNat (w2105.1 108 1)) := wbd_111 hI2657 r2659.toInt.toNat o2666.1 o2666.2
            have o2668 : 0 ≤ ((sI w2114 87 9 (w2114.1 87 4)).1 108 1).toInt ∧ ((sI w2114 87 9 (w2114.1 87 4)).1 108 1).toInt ≤ 301 := by have := bd_108_1 hI2115; have : ((sI w2114 87 9 (w2114.1 87 4)).1 108 1).toInt = (w2114.1 108 1).toInt := rfl; omega
            have hI2667 : BND (sI (sI w2656 111 r2659.toInt.toNat (w2105.1 108 1)) 112 r2659.toInt.toNat ((sI w2114 87 9 (w2114.1 87 4)).1 108 1)) := wbd_112 hI2665 r2659.toInt.toNat o2668.1 o2668.2
            have o2669 : (0 ≤ r2659.toInt) ∧ (r2659.toInt ≤ 300) ∧ (((sI (sI w2656 111 r2659.toInt.toNat (w2105.1 108 1)) 112 r2659.toInt.toNat ((sI w2114 87 9 (w2114.1 87 4)).1 108 1)).1 87 8).toInt = (w.1 87 8).toInt) := by have := bd_87_8 hI2657; have := bd_87_8 hI2652; have := bd_87_8 hI2644; have := (congrArg Int32.toInt (hL2653 87 8 rfl).1); have := (congrArg Int32.toInt (hL2658 87 8 rfl).1); have : ((sI (sI w2656 111 r2659.toInt.toNat (w2105.1 108 1)) 112 r2659.toInt.toNat ((sI w2114 87 9 (w2114.1 87 4)).1 108 1)).1 87 8).toInt = (w2656.1 87 8).toInt := rfl; have := bd_87_8 hI; have := bd_87_8 hI2115; have := bd_87_8 hI2106; have := (congrArg Int32.toInt (hL2107 87 8 rfl).1); have := ti_lo r2117; have := ti_hi r2117; have := (by decide : ((0 : Int32)).toInt = 0); have := bd_87_8 hI2638; have : ((sI w2114 87 9 (w2114.1 87 4)).1 87 8).toInt = (w2114.1 87 8).toInt := rfl; have := (congrArg Int32.toInt (hL2639 87 8 rfl).1); have := (by decide : ((3 : Int32)).toInt = 3); exact ⟨by omega, by omega, by omega⟩
            exact hQ _ _ hI2667 (FR.I (FR.I hF2662 (k := 111) (j := r2659.toInt.toNat) (v := (w2105.1 108 1)) rfl) (k := 112) (j := r2659.toInt.toNat) (v := ((sI w2114 87 9 (w2114.1 87 4)).1 108 1)) rfl)  o2669.1 o2669.2.1 o2669.2.2
          · replace h2649 : ¬ (r2646.toInt = 3) := h2649
            refine Eq.mpr (p_Rd_fail.eq_1 _ _) ?_
            refine ⟨fun h2670 => ?_, fun h2670 => ?_⟩
            · have o2671 : (15 ≤ (59 : Int32).toInt) ∧ ((59 : Int32).toInt ≤ 125) := by have := (by decide : ((59 : Int32)).toInt = 59); exact ⟨by omega, by omega⟩
              refine h_Rd_take hI2644 ((hL2645 87 0 rfl).2.2.trans ((hL2639 87 0 rfl).2.2.trans ((hL2116 87 0 rfl).2.2.trans ((hL2107 87 0 rfl).2.2.trans hr_87_0)))) o2671.1 o2671.2 (fun w2672 hI2673 hL2674  => ?_)
              have hF2676 : FR l_Rd_readChange w w2672 := hF2648.tr hL2674 rfl
              refine h_Rd_makeNode hI2673 ((hL2674 87 1 rfl).2.2.trans ((hL2645 87 1 rfl).2.2.trans ((hL2639 87 1 rfl).2.2.trans ((hL2116 87 1 rfl).2.2.trans ((hL2107 87 1 rfl).2.2.trans hr_87_1)))))  (fun r2680 w2677 hI2678 hL2679 p2681 p2682 => ?_)
              have hF2683 : FR l_Rd_readChange w w2677 := hF2676.tr hL2679 rfl
              refine Eq.mpr (p_Rd_giveRange.eq_1 _ _ _ _ _) ?_
              refine ⟨((hL2679 87 1 rfl).2.2.trans ((hL2674 87 1 rfl).2.2.trans ((hL2645 87 1 rfl).2.2.trans ((hL2639 87 1 rfl).2.2.trans ((hL2116 87 1 rfl).2.2.trans ((hL2107 87 1 rfl).2.2.trans hr_87_1)))))), ?_⟩
              have o2684 : 0 ≤ r2680.toInt ∧ r2680.toInt < 301 := by omega
              refine ⟨o2684, ?_⟩
              refine ⟨((hL2679 87 1 rfl).2.2.trans ((hL2674 87 1 rfl).2.2.trans ((hL2645 87 1 rfl).2.2.trans ((hL2639 87 1 rfl).2.2.trans ((hL2116 87 1 rfl).2.2.trans ((hL2107 87 1 rfl).2.2.trans hr_87_1)))))), ?_⟩
              have o2685 : 0 ≤ r2680.toInt ∧ r2680.toInt < 301 := by omega
              refine ⟨o2685, ?_⟩
              have o2687 : 0 ≤ (w2105.1 108 1).toInt ∧ (w2105.1 108 1).toInt ≤ 301 := by have := bd_108_1 hI2106; have := bd_108_1 hI; have := (congrArg Int32.toInt (hL2107 108 1 rfl).1); omega
              have hI2686 : BND (sI w2677 111 r2680.toInt.toNat (w2105.1 108 1)) := wbd_111 hI2678 r2680.toInt.toNat o2687.1 o2687.2
              have o2689 : 0 ≤ ((sI w2114 87 9 (w2114.1 87 4)).1 108 1).toInt ∧ ((sI w2114 87 9 (w2114.1 87 4)).1 108 1).toInt ≤ 301 := by have := bd_108_1 hI2115; have : ((sI w2114 87 9 (w2114.1 87 4)).1 108 1).toInt = (w2114.1 108 1).toInt := rfl; omega
              have hI2688 : BND (sI (sI w2677 111 r2680.toInt.toNat (w2105.1 108 1)) 112 r2680.toInt.toNat ((sI w2114 87 9 (w2114.1 87 4)).1 108 1)) := wbd_112 hI2686 r2680.toInt.toNat o2689.1 o2689.2
              have o2690 : (0 ≤ r2680.toInt) ∧ (r2680.toInt ≤ 300) ∧ (((sI (sI w2677 111 r2680.toInt.toNat (w2105.1 108 1)) 112 r2680.toInt.toNat ((sI w2114 87 9 (w2114.1 87 4)).1 108 1)).1 87 8).toInt = (w.1 87 8).toInt) := by have := bd_87_8 hI2678; have := bd_87_8 hI2673; have := bd_87_8 hI2644; have := (congrArg Int32.toInt (hL2674 87 8 rfl).1); have := (congrArg Int32.toInt (hL2679 87 8 rfl).1); have : ((sI (sI w2677 111 r2680.toInt.toNat (w2105.1 108 1)) 112 r2680.toInt.toNat ((sI w2114 87 9 (w2114.1 87 4)).1 108 1)).1 87 8).toInt = (w2677.1 87 8).toInt := rfl; have := bd_87_8 hI; have := bd_87_8 hI2115; have := bd_87_8 hI2106; have := (congrArg Int32.toInt (hL2107 87 8 rfl).1); have := ti_lo r2117; have := ti_hi r2117; have := (by decide : ((0 : Int32)).toInt = 0); have := bd_87_8 hI2638; have : ((sI w2114 87 9 (w2114.1 87 4)).1 87 8).toInt = (w2114.1 87 8).toInt := rfl; have := (congrArg Int32.toInt (hL2639 87 8 rfl).1); have := ti_lo r2646; have := ti_hi r2646; have := (by decide : ((3 : Int32)).toInt = 3); exact ⟨by omega, by omega, by omega⟩
              exact hQ _ _ hI2688 (FR.I (FR.I hF2683 (k := 111) (j := r2680.toInt.toNat) (v := (w2105.1 108 1)) rfl) (k := 112) (j := r2680.toInt.toNat) (v := ((sI w2114 87 9 (w2114.1 87 4)).1 108 1)) rfl)  o2690.1 o2690.2.1 o2690.2.2
            · have hI2691 : BND (sI w2643 87 9 (w2643.1 87 4)) := wbd_87_9 hI2644
              have o2692 : (15 ≤ (59 : Int32).toInt) ∧ ((59 : Int32).toInt ≤ 125) := by have := (by decide : ((59 : Int32)).toInt = 59); exact ⟨by omega, by omega⟩
              refine h_Rd_take hI2691 ((hL2645 87 0 rfl).2.2.trans ((hL2639 87 0 rfl).2.2.trans ((hL2116 87 0 rfl).2.2.trans ((hL2107 87 0 rfl).2.2.trans hr_87_0)))) o2692.1 o2692.2 (fun w2693 hI2694 hL2695  => ?_)
              have hF2697 : FR l_Rd_readChange w w2693 := (FR.I hF2648 (k := 87) (j := 9) (v := (w2643.1 87 4)) rfl).tr hL2695 rfl
              refine h_Rd_makeNode hI2694 ((hL2695 87 1 rfl).2.2.trans ((hL2645 87 1 rfl).2.2.trans ((hL2639 87 1 rfl).2.2.trans ((hL2116 87 1 rfl).2.2.trans ((hL2107 87 1 rfl).2.2.trans hr_87_1)))))  (fun r2701 w2698 hI2699 hL2700 p2702 p2703 => ?_)
              have hF2704 : FR l_Rd_readChange w w2698 := hF2697.tr hL2700 rfl
              refine Eq.mpr (p_Rd_giveRange.eq_1 _ _ _ _ _) ?_
              refine ⟨((hL2700 87 1 rfl).2.2.trans ((hL2695 87 1 rfl).2.2.trans ((hL2645 87 1 rfl).2.2.trans ((hL2639 87 1 rfl).2.2.trans ((hL2116 87 1 rfl).2.2.trans ((hL2107 87 1 rfl).2.2.trans hr_87_1)))))), ?_⟩
              have o2705 : 0 ≤ r2701.toInt ∧ r2701.toInt < 301 := by omega
              refine ⟨o2705, ?_⟩
              refine ⟨((hL2700 87 1 rfl).2.2.trans ((hL2695 87 1 rfl).2.2.trans ((hL2645 87 1 rfl).2.2.trans ((hL2639 87 1 rfl).2.2.trans ((hL2116 87 1 rfl).2.2.trans ((hL2107 87 1 rfl).2.2.trans hr_87_1)))))), ?_⟩
              have o2706 : 0 ≤ r2701.toInt ∧ r2701.toInt < 301 := by omega
              refine ⟨o2706, ?_⟩
              have o2708 : 0 ≤ (w2105.1 108 1).toInt ∧ (w2105.1 108 1).toInt ≤ 301 := by have := bd_108_1 hI2106; have := bd_108_1 hI; have := (congrArg Int32.toInt (hL2107 108 1 rfl).1); omega
              have hI2707 : BND (sI w2698 111 r2701.toInt.toNat (w2105.1 108 1)) := wbd_111 hI2699 r2701.toInt.toNat o2708.1 o2708.2
              have o2710 : 0 ≤ ((sI w2114 87 9 (w2114.1 87 4)).1 108 1).toInt ∧ ((sI w2114 87 9 (w2114.1 87 4)).1 108 1).toInt ≤ 301 := by have := bd_108_1 hI2115; have : ((sI w2114 87 9 (w2114.1 87 4)).1 108 1).toInt = (w2114.1 108 1).toInt := rfl; omega
              have hI2709 : BND (sI (sI w2698 111 r2701.toInt.toNat (w2105.1 108 1)) 112 r2701.toInt.toNat ((sI w2114 87 9 (w2114.1 87 4)).1 108 1)) := wbd_112 hI2707 r2701.toInt.toNat o2710.1 o2710.2
              have o2711 : (0 ≤ r2701.toInt) ∧ (r2701.toInt ≤ 300) ∧ (((sI (sI w2698 111 r2701.toInt.toNat (w2105.1 108 1)) 112 r2701.toInt.toNat ((sI w2114 87 9 (w2114.1 87 4)).1 108 1)).1 87 8).toInt = (w.1 87 8).toInt) := by have := bd_87_8 hI2699; have := bd_87_8 hI2694; have := bd_87_8 hI2644; have : ((sI w2643 87 9 (w2643.1 87 4)).1 87 8).toInt = (w2643.1 87 8).toInt := rfl; have := (congrArg Int32.toInt (hL2695 87 8 rfl).1); have := (congrArg Int32.toInt (hL2700 87 8 rfl).1); have : ((sI (sI w2698 111 r2701.toInt.toNat (w2105.1 108 1)) 112 r2701.toInt.toNat ((sI w2114 87 9 (w2114.1 87 4)).1 108 1)).1 87 8).toInt = (w2698.1 87 8).toInt := rfl; have := bd_87_8 hI; have := bd_87_8 hI2115; have := bd_87_8 hI2106; have := (congrArg Int32.toInt (hL2107 87 8 rfl).1); have := ti_lo r2117; have := ti_hi r2117; have := (by decide : ((0 : Int32)).toInt = 0); have := bd_87_8 hI2638; have : ((sI w2114 87 9 (w2114.1 87 4)).1 87 8).toInt = (w2114.1 87 8).toInt := rfl; have := (congrArg Int32.toInt (hL2639 87 8 rfl).1); have := ti_lo r2646; have := ti_hi r2646; have := (by decide : ((3 : Int32)).toInt = 3); exact ⟨by omega, by omega, by omega⟩
              exact hQ _ _ hI2709 (FR.I (FR.I hF2704 (k := 111) (j := r2701.toInt.toNat) (v := (w2105.1 108 1)) rfl) (k := 112) (j := r2701.toInt.toNat) (v := ((sI w2114 87 9 (w2114.1 87 4)).1 108 1)) rfl)  o2711.1 o2711.2.1 o2711.2.2
