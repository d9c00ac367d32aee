def l_Mr_read_26 : Pl := [(147, some 5), (147, some 6), (147, some 7), (147, some 11), (147, some 13), (151, none), (152, none), (153, none), (154, none), (155, none), (156, none), (157, none), (158, none), (159, none)]
def l_Mr_read_115 : Pl := [(160, none), (161, none), (162, none)]
def l_Mr_read : Pl := [(147, some 1), (147, some 4), (147, some 5), (147, some 6), (147, some 7), (147, some 11), (147, some 12), (147, some 13), (147, some 20), (149, none), (150, none), (151, none), (152, none), (153, none), (154, none), (155, none), (156, none), (157, none), (158, none), (159, none), (160, none), (161, none), (162, none)]
set_option maxRecDepth 20000 in
set_option maxHeartbeats 2000000 in
theorem hq_Mr_read_26 {E : Int32 → MW → Prop} {Q : Int32 → MW → Prop} (n : Nat) : ∀ (x26_1 : Int32) (w : MW), BND w → DR w → DR1 w → MB w → NB w → 0 ≤ x26_1.toInt → x26_1.toInt ≤ 1 → (2 * (40 - (w.1 147 13).toInt) + x26_1.toInt).toNat < n → (∀ (e26_1 : Int32) (w' : MW), BND w' → FR l_Mr_read_26 w w' → DR w' → DR1 w' → NB w' → 0 ≤ e26_1.toInt → e26_1.toInt ≤ 1 → E e26_1 w') → (∀ (r : Int32) (w' : MW), BND w' → FR l_Mr_read_26 w w' → DR w' → DR1 w' → NB w' → False → Q r w') → q_Mr_read_26 E Q n x26_1 w := by
  induction n with
  | zero => intros; omega
  | succ n ih =>
    intro x26_1 w hI hf_DR hf_DR1 hf_MB hf_NB hp0 hp1 hm hE hQ
    rw [q_Mr_read_26.eq_2]
    refine ⟨fun h10052 => ?_, fun h10052 => ?_⟩
    · have o10053 : (0 ≤ x26_1.toInt) ∧ (x26_1.toInt ≤ 1) := by have := (by decide : ((0 : Int32)).toInt = 0); exact ⟨by omega, by omega⟩
      exact hE _ _ hI (FR.refl _ w) hf_DR hf_DR1 hf_NB o10053.1 o10053.2
    · refine ⟨fun h10054 => ?_, fun h10054 => ?_⟩
      · have o10055 : (0 ≤ x26_1.toInt) ∧ (x26_1.toInt ≤ 1) := by have := (by decide : ((0 : Int32)).toInt = 0); exact ⟨by omega, by omega⟩
        exact hE _ _ hI (FR.refl _ w) hf_DR hf_DR1 hf_NB o10055.1 o10055.2
      · have o10056 : (97 ≤ (98 : Int32).toInt) ∧ ((98 : Int32).toInt ≤ 119) ∧ (97 ≤ (97 : Int32).toInt) ∧ ((97 : Int32).toInt ≤ 114) ∧ (0 ≤ (114 : Int32).toInt) ∧ ((114 : Int32).toInt ≤ 116) ∧ (0 ≤ (0 : Int32).toInt) ∧ ((0 : Int32).toInt ≤ 110) ∧ (0 ≤ (0 : Int32).toInt) ∧ ((0 : Int32).toInt ≤ 104) ∧ (0 ≤ (0 : Int32).toInt) ∧ ((0 : Int32).toInt ≤ 101) ∧ (0 ≤ (0 : Int32).toInt) ∧ ((0 : Int32).toInt ≤ 100) ∧ (2 ≤ (3 : Int32).toInt) ∧ ((3 : Int32).toInt ≤ 7) := by have := (by decide : ((98 : Int32)).toInt = 98); have := (by decide : ((97 : Int32)).toInt = 97); have := (by decide : ((114 : Int32)).toInt = 114); have := (by decide : ((0 : Int32)).toInt = 0); have := (by decide : ((3 : Int32)).toInt = 3); exact ⟨by omega, by omega, by omega, by omega, by omega, by omega, by omega, by omega, by omega, by omega, by omega, by omega, by omega, by omega, by omega, by omega⟩
        refine h_Mr_is hI  o10056.1 o10056.2.1 o10056.2.2.1 o10056.2.2.2.1 o10056.2.2.2.2.1 o10056.2.2.2.2.2.1 o10056.2.2.2.2.2.2.1 o10056.2.2.2.2.2.2.2.1 o10056.2.2.2.2.2.2.2.2.1 o10056.2.2.2.2.2.2.2.2.2.1 o10056.2.2.2.2.2.2.2.2.2.2.1 o10056.2.2.2.2.2.2.2.2.2.2.2.1 o10056.2.2.2.2.2.2.2.2.2.2.2.2.1 o10056.2.2.2.2.2.2.2.2.2.2.2.2.2.1 o10056.2.2.2.2.2.2.2.2.2.2.2.2.2.2.1 o10056.2.2.2.2.2.2.2.2.2.2.2.2.2.2.2 (fun r10060 w10057 hI10058 hL10059 p10061 p10062 p10063 => ?_)
        have hF10064 : FR l_Mr_read_26 w w10057 := (FR.refl _ w).tr hL10059 rfl
        refine ⟨fun h10065 => ?_, fun h10065 => ?_⟩
        · have o10066 : (0 ≤ (0 : Int32).toInt) ∧ ((0 : Int32).toInt ≤ 1) := by have := (by decide : ((0 : Int32)).toInt = 0); exact ⟨by omega, by omega⟩
          exact ih _ w10057 hI10058 (DR_fr hL10059 rfl hf_DR) (DR1_fr hL10059 rfl hf_DR1) (MB_fr hL10059 rfl hf_MB) (NB_fr hL10059 rfl hf_NB) o10066.1 o10066.2 (by have := (by decide : ((0 : Int32)).toInt = 0); have := bd_147_13 hI10058; have := bd_147_13 hI; have := (congrArg Int32.toInt (hL10059 147 13 rfl).1); omega) (fun e0 w9 hI9 hF9 hl9_DR hl9_DR1 hl9_NB p0 p1 => hE e0 w9 hI9 (hF10064.tr hF9 rfl) hl9_DR hl9_DR1 hl9_NB p0 p1 ) (fun r w9 hI9 hF9 hl9_DR hl9_DR1 hl9_NB q0 => q0.elim)
        · refine ⟨fun h10067 => ?_, fun h10067 => ?_⟩
          · have o10068 : (0 ≤ (0 : Int32).toInt) ∧ ((0 : Int32).toInt ≤ 1) := by have := (by decide : ((0 : Int32)).toInt = 0); exact ⟨by omega, by omega⟩
            exact ih _ w10057 hI10058 (DR_fr hL10059 rfl hf_DR) (DR1_fr hL10059 rfl hf_DR1) (MB_fr hL10059 rfl hf_MB) (NB_fr hL10059 rfl hf_NB) o10068.1 o10068.2 (by have := (by decide : ((0 : Int32)).toInt = 0); have := bd_147_13 hI10058; have := bd_147_13 hI; have := (congrArg Int32.toInt (hL10059 147 13 rfl).1); have := (by decide : ((40 : Int32)).toInt = 40); omega) (fun e0 w9 hI9 hF9 hl9_DR hl9_DR1 hl9_NB p0 p1 => hE e0 w9 hI9 (hF10064.tr hF9 rfl) hl9_DR hl9_DR1 hl9_NB p0 p1 ) (fun r w9 hI9 hF9 hl9_DR hl9_DR1 hl9_NB q0 => q0.elim)
          · have o10069 : ((w10057.1 147 13).toInt < 40) ∧ ((w10057.1 147 5).toInt < (w10057.1 147 4).toInt) := by have := bd_147_13 hI10058; have := bd_147_13 hI; have := (congrArg Int32.toInt (hL10059 147 13 rfl).1); have := bd_147_5 hI10058; have := bd_147_5 hI; have := (congrArg Int32.toInt (hL10059 147 5 rfl).1); have := bd_147_4 hI10058; have := bd_147_4 hI; have := (congrArg Int32.toInt (hL10059 147 4 rfl).1); have := bd_150 hI ((w.1 147 5).toInt.toNat); have := bd_149 hI ((w.1 147 5).toInt.toNat); have := (by decide : ((3 : Int32)).toInt = 3); have := (by decide : ((0 : Int32)).toInt = 0); have := (by decide : ((40 : Int32)).toInt = 40); exact ⟨by omega, by omega⟩
            refine h_Mr_readRow hI10058 (DR_fr hL10059 rfl hf_DR) (DR1_fr hL10059 rfl hf_DR1) (MB_fr hL10059 rfl hf_MB) (NB_fr hL10059 rfl hf_NB) o10069.1 o10069.2 (fun r10073 w10070 hI10071 hL10072 hlw10070_DR hlw10070_DR1 hlw10070_NB p10074 p10075 p10076 p10077 => ?_)
            have hF10078 : FR l_Mr_read_26 w w10070 := hF10064.tr hL10072 rfl
            refine ⟨fun h10079 => ?_, fun h10079 => ?_⟩
            · have hW10080 : MB w10070 := (MB_fr hL10072 rfl (MB_fr hL10059 rfl hf_MB))
              have o10081 : (0 ≤ (0 : Int32).toInt) ∧ ((0 : Int32).toInt ≤ 1) := by have := (by decide : ((0 : Int32)).toInt = 0); exact ⟨by omega, by omega⟩
              exact ih _ w10070 hI10071 hlw10070_DR hlw10070_DR1 hW10080 hlw10070_NB o10081.1 o10081.2 (by have := (by decide : ((0 : Int32)).toInt = 0); have := bd_147_13 hI10071; have := bd_147_13 hI; have := bd_147_13 hI10058; have := (congrArg Int32.toInt (hL10059 147 13 rfl).1); have := (by decide : ((40 : Int32)).toInt = 40); omega) (fun e0 w9 hI9 hF9 hl9_DR hl9_DR1 hl9_NB p0 p1 => hE e0 w9 hI9 (hF10078.tr hF9 rfl) hl9_DR hl9_DR1 hl9_NB p0 p1 ) (fun r w9 hI9 hF9 hl9_DR hl9_DR1 hl9_NB q0 => q0.elim)
            · have hW10082 : MB w10070 := (MB_fr hL10072 rfl (MB_fr hL10059 rfl hf_MB))
              have o10083 : (0 ≤ (1 : Int32).toInt) ∧ ((1 : Int32).toInt ≤ 1) := by have := (by decide : ((1 : Int32)).toInt = 1); exact ⟨by omega, by omega⟩
              exact ih _ w10070 hI10071 hlw10070_DR hlw10070_DR1 hW10082 hlw10070_NB o10083.1 o10083.2 (by have := (by decide : ((1 : Int32)).toInt = 1); have := bd_147_13 hI10071; have := bd_147_13 hI; have := bd_147_13 hI10058; have := (congrArg Int32.toInt (hL10059 147 13 rfl).1); have := (by decide : ((40 : Int32)).toInt = 40); have := (by decide : ((0 : Int32)).toInt = 0); omega) (fun e0 w9 hI9 hF9 hl9_DR hl9_DR1 hl9_NB p0 p1 => hE e0 w9 hI9 (hF10078.tr hF9 rfl) hl9_DR hl9_DR1 hl9_NB p0 p1 ) (fun r w9 hI9 hF9 hl9_DR hl9_DR1 hl9_NB q0 => q0.elim)
set_option maxRecDepth 20000 in
set_option maxHeartbeats 2000000 in
theorem hq_Mr_read_115 {E : MW → Prop} {Q : Int32 → MW → Prop} (n : Nat) : ∀ (x115_2 : Int32) (w : MW), BND w → 0 ≤ x115_2.toInt → x115_2.toInt ≤ 40 → (40 - x115_2.toInt).toNat < n → (∀ (w' : MW), BND w' → FR l_Mr_read_115 w w' → E w') → (∀ (r : Int32) (w' : MW), BND w' → FR l_Mr_read_115 w w' → False → Q r w') → q_Mr_read_115 E Q n x115_2 w := by
  induction n with
  | zero => intros; omega
  | succ n ih =>
    intro x115_2 w hI  hp0 hp1 hm hE hQ
    rw [q_Mr_read_115.eq_2]
    refine ⟨fun h10084 => ?_, fun h10084 => ?_⟩
    · exact hE _ hI (FR.refl _ w)
    · have o10085 : 0 ≤ x115_2.toInt ∧ x115_2.toInt < 40 := by have := bd_147_20 hI; omega
      refine ⟨o10085, ?_⟩
      have o10086 : 0 ≤ x115_2.toInt ∧ x115_2.toInt < 40 := by have := bd_147_20 hI; omega
      refine ⟨o10086, ?_⟩
      have o10087 : 0 ≤ x115_2.toInt ∧ x115_2.toInt < 40 := by have := bd_147_20 hI; omega
      refine ⟨o10087, ?_⟩
      have hI10088 : BND (sI w 160 x115_2.toInt.toNat 0) := wbd_160 hI x115_2.toInt.toNat (by decide) (by decide)
      have o10090 : 0 ≤ (vp_nar .boolean (0 : Int32)).toInt ∧ (vp_nar .boolean (0 : Int32)).toInt ≤ 1 := by have := nb_bool0; omega
      have hI10089 : BND (sI (sI w 160 x115_2.toInt.toNat 0) 161 x115_2.toInt.toNat (vp_nar .boolean (0 : Int32))) := wbd_161 hI10088 x115_2.toInt.toNat o10090.1 o10090.2
      have hI10091 : BND (sI (sI (sI w 160 x115_2.toInt.toNat 0) 161 x115_2.toInt.toNat (vp_nar .boolean (0 : Int32))) 162 x115_2.toInt.toNat 0) := wbd_162 hI10089 x115_2.toInt.toNat (by decide) (by decide)
      have o10092 : (0 ≤ (x115_2 + (1 : Int32)).toInt) ∧ ((x115_2 + (1 : Int32)).toInt ≤ 40) := by have := bd_147_20 hI; have := ti_add2 (Eq.refl x115_2.toInt) (by decide : ((1 : Int32)).toInt = 1) (by omega) (by omega); exact ⟨by omega, by omega⟩
      exact ih _ (sI (sI (sI w 160 x115_2.toInt.toNat 0) 161 x115_2.toInt.toNat (vp_nar .boolean (0 : Int32))) 162 x115_2.toInt.toNat 0) hI10091  o10092.1 o10092.2 (by have := bd_147_20 hI; have := ti_add2 (Eq.refl x115_2.toInt) (by decide : ((1 : Int32)).toInt = 1) (by omega) (by omega); omega) (fun w9 hI9 hF9 => hE w9 hI9 ((FR.I (FR.I (FR.I (FR.refl _ w) (k := 160) (j := x115_2.toInt.toNat) (v := 0) rfl) (k := 161) (j := x115_2.toInt.toNat) (v := (vp_nar .boolean (0 : Int32))) rfl) (k := 162) (j := x115_2.toInt.toNat) (v := 0) rfl).tr hF9 rfl) ) (fun r w9 hI9 hF9 q0 => q0.elim)
set_option maxRecDepth 20000 in
set_option maxHeartbeats 2000000 in
theorem h_Mr_read {w : MW} {Q : Int32 → MW → Prop} (hI : BND w) (hf_DR : DR w)  (hQ : ∀ (r : Int32) (w' : MW), BND w' → FR l_Mr_read w w' → DR w' → (-4022) ≤ r.toInt → r.toInt ≤ 40 → Q r w') : p_Mr_read w Q := by
  refine Eq.mpr (p_Mr_read.eq_1 _ _) ?_
  refine h_Mr_cut hI   (fun w10093 hI10094 hL10095 hlw10093_MB  => ?_)
  have hF10097 : FR l_Mr_read w w10093 := (FR.refl _ w).tr hL10095 rfl
  have hI10098 : BND (sI w10093 147 1 0) := wbd_147_1 hI10094 (by decide) (by decide)
  have hI10099 : BND (sI (sI w10093 147 1 0) 147 5 0) := wbd_147_5 hI10098 (by decide) (by decide)
  have hI10100 : BND (sI (sI (sI w10093 147 1 0) 147 5 0) 147 11 0) := wbd_147_11 hI10099 (by decide) (by decide)
  have hI10101 : BND (sI (sI (sI (sI w10093 147 1 0) 147 5 0) 147 11 0) 147 13 0) := wbd_147_13 hI10100 (by decide) (by decide)
  have hW10102 : DR (sI w10093 147 1 0) := (DR_fr (l := [(147, some 1)]) (FR.I (FR.refl _ w10093) (k := 147) (j := 1) (v := 0) rfl) rfl (DR_fr hL10095 rfl hf_DR))
  have hW10103 : DR (sI (sI w10093 147 1 0) 147 5 0) := (DR_fr (l := [(147, some 5)]) (FR.I (FR.refl _ (sI w10093 147 1 0)) (k := 147) (j := 5) (v := 0) rfl) rfl hW10102)
  have hW10104 : DR (sI (sI (sI w10093 147 1 0) 147 5 0) 147 11 0) := (DR_fr (l := [(147, some 11)]) (FR.I (FR.refl _ (sI (sI w10093 147 1 0) 147 5 0)) (k := 147) (j := 11) (v := 0) rfl) rfl hW10103)
  have hW10105 : DR (sI (sI (sI (sI w10093 147 1 0) 147 5 0) 147 11 0) 147 13 0) := (DR_fr (l := [(147, some 13)]) (FR.I (FR.refl _ (sI (sI (sI w10093 147 1 0) 147 5 0) 147 11 0)) (k := 147) (j := 13) (v := 0) rfl) rfl hW10104)
  have hW10106 : MB (sI w10093 147 1 0) := (MB_fr (l := [(147, some 1)]) (FR.I (FR.refl _ w10093) (k := 147) (j := 1) (v := 0) rfl) rfl hlw10093_MB)
  have hW10107 : MB (sI (sI w10093 147 1 0) 147 5 0) := (MB_fr (l := [(147, some 5)]) (FR.I (FR.refl _ (sI w10093 147 1 0)) (k := 147) (j := 5) (v := 0) rfl) rfl hW10106)
  have hW10108 : MB (sI (sI (sI w10093 147 1 0) 147 5 0) 147 11 0) := (MB_fr (l := [(147, some 11)]) (FR.I (FR.refl _ (sI (sI w10093 147 1 0) 147 5 0)) (k := 147) (j := 11) (v := 0) rfl) rfl hW10107)
  have hW10109 : MB (sI (sI (sI (sI w10093 147 1 0) 147 5 0) 147 11 0) 147 13 0) := (MB_fr (l := [(147, some 13)]) (FR.I (FR.refl _ (sI (sI (sI w10093 147 1 0) 147 5 0) 147 11 0)) (k := 147) (j := 13) (v := 0) rfl) rfl hW10108)
  have hW10110 : NB (sI (sI (sI (sI w10093 147 1 0) 147 5 0) 147 11 0) 147 13 0) := (NB_fr (l := [(147, some 13)]) (FR.I (FR.refl _ (sI (sI (sI w10093 147 1 0) 147 5 0) 147 11 0)) (k := 147) (j := 13) (v := 0) rfl) rfl (nb_zero  (by decide)))
  have o10111 : (0 ≤ (1 : Int32).toInt) ∧ ((1 : Int32).toInt ≤ 1) := by have := (by decide : ((1 : Int32)).toInt = 1); exact ⟨by omega, by omega⟩
  refine hq_Mr_read_26 FU _ (sI (sI (sI (sI w10093 147 1 0) 147 5 0) 147 11 0) 147 13 0) hI10101 hW10105 (dr1_zero  (by decide)) hW10109 hW10110 o10111.1 o10111.2 (fu_lt (by have := (by decide : ((1 : Int32)).toInt = 1); have : ((sI (sI (sI (sI w10093 147 1 0) 147 5 0) 147 11 0) 147 13 0).1 147 13).toInt = ((0 : Int32)).toInt := rfl; have := (by decide : ((0 : Int32)).toInt = 0); omega)) (fun e10115 w10112 hI10113 hL10114 hlw10112_DR hlw10112_DR1 hlw10112_NB p10116 p10117 => ?_) (fun r w9 hI9 hF9 hl9_DR hl9_DR1 hl9_NB q0 => q0.elim)
  have hF10118 : FR l_Mr_read w w10112 := (FR.I (FR.I (FR.I (FR.I hF10097 (k := 147) (j := 1) (v := 0) rfl) (k := 147) (j := 5) (v := 0) rfl) (k := 147) (j := 11) (v := 0) rfl) (k := 147) (j := 13) (v := 0) rfl).tr hL10114 rfl
  refine ⟨fun h10119 => ?_, fun h10119 => ?_⟩
  · have o10121 : 0 ≤ ((1 : Int32) - (w10112.1 147 12)).toInt ∧ ((1 : Int32) - (w10112.1 147 12)).toInt ≤ 1 := by have := bd_147_12 hI10113; have := bd_147_12 hI10094; have := bd_147_12 hI; have := (congrArg Int32.toInt (hL10095 147 12 rfl).1); have : ((sI (sI (sI (sI w10093 147 1 0) 147 5 0) 147 11 0) 147 13 0).1 147 12).toInt = (w10093.1 147 12).toInt := rfl; have := (congrArg Int32.toInt (hL10114 147 12 rfl).1); have := ti_sub2 (by decide : ((1 : Int32)).toInt = 1) (Eq.refl (w10112.1 147 12).toInt) (by omega) (by omega); omega
    have hI10120 : BND (sI w10112 147 12 ((1 : Int32) - (w10112.1 147 12))) := wbd_147_12 hI10113 o10121.1 o10121.2
    have o10123 : 0 ≤ (w10112.1 147 13).toInt ∧ (w10112.1 147 13).toInt ≤ 40 := by have := bd_147_13 hI10113; omega
    have hI10122 : BND (sI (sI w10112 147 12 ((1 : Int32) - (w10112.1 147 12))) 147 20 (w10112.1 147 13)) := wbd_147_20 hI10120 o10123.1 o10123.2
    have o10124 : (0 ≤ (0 : Int32).toInt) ∧ ((0 : Int32).toInt ≤ 40) := by have := (by decide : ((0 : Int32)).toInt = 0); exact ⟨by omega, by omega⟩
    refine hq_Mr_read_115 FU _ (sI (sI w10112 147 12 ((1 : Int32) - (w10112.1 147 12))) 147 20 (w10112.1 147 13)) hI10122  o10124.1 o10124.2 (fu_lt (by have := (by decide : ((0 : Int32)).toInt = 0); omega)) (fun w10125 hI10126 hL10127  => ?_) (fun r w9 hI9 hF9 q0 => q0.elim)
    have hF10128 : FR l_Mr_read w w10125 := (FR.I (FR.I hF10118 (k := 147) (j := 12) (v := ((1 : Int32) - (w10112.1 147 12))) rfl) (k := 147) (j := 20) (v := (w10112.1 147 13)) rfl).tr hL10127 rfl
    have o10129 : (((1 : Int32) - (w10112.1 147 12)).toInt = 1 - (w10112.1 147 12).toInt) ∧ ((w10112.1 147 13).toInt = (w10112.1 147 13).toInt) ∧ ((w10112.1 147 11).toInt ≤ 3000) := by have := bd_147_12 hI10113; have := bd_147_12 hI10094; have := bd_147_12 hI; have := (congrArg Int32.toInt (hL10095 147 12 rfl).1); have : ((sI (sI (sI (sI w10093 147 1 0) 147 5 0) 147 11 0) 147 13 0).1 147 12).toInt = (w10093.1 147 12).toInt := rfl; have := (congrArg Int32.toInt (hL10114 147 12 rfl).1); have := bd_147_13 hI10113; have := bd_147_11 hI10113; have := ti_sub2 (by decide : ((1 : Int32)).toInt = 1) (Eq.refl (w10112.1 147 12).toInt) (by omega) (by omega); exact ⟨by omega, by omega, by omega⟩
    have hW10130 : DR (sI (sI w10112 147 12 ((1 : Int32) - (w10112.1 147 12))) 147 20 (w10112.1 147 13)) := (dr_flip hlw10112_DR1 o10129.1 o10129.2.1 o10129.2.2)
    have o10131 : ((-4022) ≤ (w10125.1 147 20).toInt) ∧ ((w10125.1 147 20).toInt ≤ 40) := by have := bd_147_20 hI10126; have := bd_147_13 hI10113; have : ((sI (sI w10112 147 12 ((1 : Int32) - (w10112.1 147 12))) 147 20 (w10112.1 147 13)).1 147 20).toInt = (w10112.1 147 13).toInt := rfl; have := (congrArg Int32.toInt (hL10127 147 20 rfl).1); exact ⟨by omega, by omega⟩
    exact hQ _ _ hI10126 hF10128 (DR_fr hL10127 rfl hW10130)  o10131.1 o10131.2
  · have o10132 : ((-4022) ≤ (((-1) : Int32) - (w10112.1 147 5)).toInt) ∧ ((((-1) : Int32) - (w10112.1 147 5)).toInt ≤ 40) := by have := bd_147_5 hI10113; have := ti_sub2 (by decide : (((-1) : Int32)).toInt = (-1)) (Eq.refl (w10112.1 147 5).toInt) (by omega) (by omega); exact ⟨by omega, by omega⟩
    exact hQ _ _ hI10113 hF10118 hlw10112_DR  o10132.1 o10132.2
def l_Mr_unit : Pl := [(147, some 1), (148, none)]
set_option maxRecDepth 20000 in
set_option maxHeartbeats 2000000 in
theorem h_Mr_unit {w : MW} {a0 : Int32} {Q : Int32 → MW → Prop} (hI : BND w) (hp0 : (-128) ≤ a0.toInt) (hp1 : a0.toInt ≤ 127) (hQ : ∀ (r : Int32) (w' : MW), BND w' → FR l_Mr_unit w w' → 0 ≤ r.toInt → r.toInt ≤ 1 → Q r w') : p_Mr_unit w a0 Q := by
  refine Eq.mpr (p_Mr_unit.eq_1 _ _ _) ?_
  refine ⟨fun h10133 => ?_, fun h10133 => ?_⟩
  · have o10134 : (0 ≤ (0 : Int32).toInt) ∧ ((0 : Int32).toInt ≤ 1) := by have := (by decide : ((0 : Int32)).toInt = 0); exact ⟨by omega, by omega⟩
    exact hQ _ _ hI (FR.refl _ w)  o10134.1 o10134.2
  · refine ⟨fun h10135 => ?_, fun h10135 => ?_⟩
    · exfalso; have := (by decide : ((1 : Int32)).toInt = 1); have := (by decide : ((127 : Int32)).toInt = 127); omega
    · refine ⟨fun h10136 => ?_, fun h10136 => ?_⟩
      · have o10137 : 0 ≤ (w.1 147 1).toInt ∧ (w.1 147 1).toInt < 4020 := by have := bd_147_1 hI; have := (by decide : ((4020 : Int32)).toInt = 4020); omega
        refine ⟨o10137, ?_⟩
        have o10139 : (-128) ≤ (vp_nar .byte ((Int32.toInt8 a0).toInt32)).toInt ∧ (vp_nar .byte ((Int32.toInt8 a0).toInt32)).toInt ≤ 127 := by have := (by decide : ((1 : Int32)).toInt = 1); have := (by decide : ((127 : Int32)).toInt = 127); have := nb_i2beq (x := a0) (by omega) (by omega); have := nb_byteq (x := ((Int32.toInt8 a0).toInt32)) (by omega) (by omega); omega
        have hI10138 : BND (sI w 148 ((w.1 147 1).toInt.toNat) (vp_nar .byte ((Int32.toInt8 a0).toInt32))) := wbd_148 hI ((w.1 147 1).toInt.toNat) o10139.1 o10139.2
        have o10141 : 0 ≤ ((w.1 147 1) + (1 : Int32)).toInt ∧ ((w.1 147 1) + (1 : Int32)).toInt ≤ 4020 := by have := bd_147_1 hI; have := (by decide : ((4020 : Int32)).toInt = 4020); have := ti_add2 (Eq.refl (w.1 147 1).toInt) (by decide : ((1 : Int32)).toInt = 1) (by omega) (by omega); omega
        have hI10140 : BND (sI (sI w 148 ((w.1 147 1).toInt.toNat) (vp_nar .byte ((Int32.toInt8 a0).toInt32))) 147 1 ((w.1 147 1) + (1 : Int32))) := wbd_147_1 hI10138 o10141.1 o10141.2
        have o10142 : (0 ≤ (1 : Int32).toInt) ∧ ((1 : Int32).toInt ≤ 1) := by have := (by decide : ((1 : Int32)).toInt = 1); exact ⟨by omega, by omega⟩
        exact hQ _ _ hI10140 (FR.I (FR.I (FR.refl _ w) (k := 148) (j := (w.1 147 1).toInt.toNat) (v := (vp_nar .byte ((Int32.toInt8 a0).toInt32))) rfl) (k := 147) (j := 1) (v := ((w.1 147 1) + (1 : Int32))) rfl)  o10142.1 o10142.2
      · have o10143 : (0 ≤ (0 : Int32).toInt) ∧ ((0 : Int32).toInt ≤ 1) := by have := (by decide : ((0 : Int32)).toInt = 0); exact ⟨by omega, by omega⟩
        exact hQ _ _ hI (FR.refl _ w)  o10143.1 o10143.2
def l_Tx_digits_5 : Pl := [(129, some 2), (129, some 8)]
def l_Tx_digits_143 : Pl := [(129, some 2), (129, some 8)]
def l_Tx_digits_119 : Pl := [(129, some 2), (129, some 8), (129, some 9)]
def l_Tx_digits : Pl := [(129, some 2), (129, some 8), (129, some 9)]
set_option maxRecDepth 20000 in
set_option maxHeartbeats 2000000 in
theorem hq_Tx_digits_5 {E : MW → Prop} {Q : MW → Prop} (n : Nat) : ∀ (w : MW), BND w → PZ w → (4020 - (w.1 129 2).toInt).toNat < n → (∀ (w' : MW), BND w' → FR l_Tx_digits_5 w w' → PZ w' → E w') → (∀ (w' : MW), BND w' → FR l_Tx_digits_5 w w' → PZ w' → False → Q w') → q_Tx_digits_5 E Q n w := by
  induction n with
  | zero => intros; omega
  | succ n ih =>
    intro w hI hf_PZ  hm hE hQ
    rw [q_Tx_digits_5.eq_2]
    refine Eq.mpr (p_Tx_at.eq_1 _ _ _) ?_
    refine ⟨fun h10144 => ?_, fun h10144 => ?_⟩
    · refine Eq.mpr (p_Tx_isDigit.eq_1 _ _ _) ?_
      refine ⟨fun _ => ?_, fun h => absurd (by decide) h⟩
      refine ⟨fun _ => ?_, fun h => absurd (by decide) h⟩
      exact hE _ hI (FR.refl _ w) hf_PZ 
    · have o10145 : 0 ≤ (w.1 129 2).toInt ∧ (w.1 129 2).toInt < 4020 := by have := bd_129_1 hI; have := bd_129_2 hI; have := PZ_ex hf_PZ; omega
      refine ⟨o10145, ?_⟩
      refine Eq.mpr (p_Tx_isDigit.eq_1 _ _ _) ?_
      refine ⟨fun h10146 => ?_, fun h10146 => ?_⟩
      · refine ⟨fun _ => ?_, fun h => absurd (by decide) h⟩
        exact hE _ hI (FR.refl _ w) hf_PZ 
      · refine ⟨fun h10147 => ?_, fun h10147 => ?_⟩
        · refine ⟨fun _ => ?_, fun h => absurd (by decide) h⟩
          exact hE _ hI (FR.refl _ w) hf_PZ 
        · refine ⟨fun h => absurd h (by decide), fun _ => ?_⟩
          refine ⟨fun h10148 => ?_, fun h10148 => ?_⟩
          · exact hE _ hI (FR.refl _ w) hf_PZ
          · refine Eq.mpr (p_Tx_at.eq_1 _ _ _) ?_
            refine ⟨fun h => absurd h h10144, fun _ => ?_⟩
            have o10149 : 0 ≤ (w.1 129 2).toInt ∧ (w.1 129 2).toInt < 4020 := by have := bd_129_1 hI; have := bd_129_2 hI; have := bd_129_5 hI; have := (by decide : ((9 : Int32)).toInt = 9); have := PZ_ex hf_PZ; have := ti_sub2 (Eq.refl (w.1 129 2).toInt) (Eq.refl (w.1 129 5).toInt) (by omega) (by omega); omega
            refine ⟨o10149, ?_⟩
            have o10151 : 0 ≤ ((w.1 129 2) + (1 : Int32)).toInt ∧ ((w.1 129 2) + (1 : Int32)).toInt ≤ 4020 := by have := bd_129_1 hI; have := bd_129_2 hI; have := bd_129_5 hI; have := (by decide : ((9 : Int32)).toInt = 9); have := PZ_ex hf_PZ; have := ti_add2 (Eq.refl (w.1 129 2).toInt) (by decide : ((1 : Int32)).toInt = 1) (by omega) (by omega); have := ti_sub2 (Eq.refl (w.1 129 2).toInt) (Eq.refl (w.1 129 5).toInt) (by omega) (by omega); omega
            have hI10150 : BND (sI (sJ w 129 8 ((((10 : Int64) * (w.2.1 129 8)) + (Int32.toInt64 (w.1 130 ((w.1 129 2).toInt.toNat)))) - (48 : Int64))) 129 2 ((w.1 129 2) + (1 : Int32))) := wbd_129_2 (bnd_J hI (k := 129) (j := 8) (v := ((((10 : Int64) * (w.2.1 129 8)) + (Int32.toInt64 (w.1 130 ((w.1 129 2).toInt.toNat)))) - (48 : Int64)))) o10151.1 o10151.2
            exact ih (sI (sJ w 129 8 ((((10 : Int64) * (w.2.1 129 8)) + (Int32.toInt64 (w.1 130 ((w.1 129 2).toInt.toNat)))) - (48 : Int64))) 129 2 ((w.1 129 2) + (1 : Int32))) hI10150 (by unfold PZ; have := bd_129_1 hI; have : ((sI (sJ w 129 8 ((((10 : Int64) * (w.2.1 129 8)) + (Int32.toInt64 (w.1 130 ((w.1 129 2).toInt.toNat)))) - (48 : Int64))) 129 2 ((w.1 129 2) + (1 : Int32))).1 129 1).toInt = (w.1 129 1).toInt := rfl; have := bd_129_2 hI; have : ((sI (sJ w 129 8 ((((10 : Int64) * (w.2.1 129 8)) + (Int32.toInt64 (w.1 130 ((w.1 129 2).toInt.toNat)))) - (48 : Int64))) 129 2 ((w.1 129 2) + (1 : Int32))).1 129 2).toInt = ((w.1 129 2) + (1 : Int32)).toInt := rfl; have := bd_129_5 hI; have := (by decide : ((9 : Int32)).toInt = 9); have := PZ_ex hf_PZ; have := ti_add2 (Eq.refl (w.1 129 2).toInt) (by decide : ((1 : Int32)).toInt = 1) (by omega) (by omega); have := ti_sub2 (Eq.refl (w.1 129 2).toInt) (Eq.refl (w.1 129 5).toInt) (by omega) (by omega); omega)  (by have := bd_129_1 hI; have : ((sI (sJ w 129 8 ((((10 : Int64) * (w.2.1 129 8)) + (Int32.toInt64 (w.1 130 ((w.1 129 2).toInt.toNat)))) - (48 : Int64))) 129 2 ((w.1 129 2) + (1 : Int32))).1 129 1).toInt = (w.1 129 1).toInt := rfl; have := bd_129_2 hI; have : ((sI (sJ w 129 8 ((((10 : Int64) * (w.2.1 129 8)) + (Int32.toInt64 (w.1 130 ((w.1 129 2).toInt.toNat)))) - (48 : Int64))) 129 2 ((w.1 129 2) + (1 : Int32))).1 129 2).toInt = ((w.1 129 2) + (1 : Int32)).toInt := rfl; have := bd_129_5 hI; have := (by decide : ((9 : Int32)).toInt = 9); have := PZ_ex (by unfold PZ; have := bd_129_1 hI; have : ((sI (sJ w 129 8 ((((10 : Int64) * (w.2.1 129 8)) + (Int32.toInt64 (w.1 130 ((w.1 129 2).toInt.toNat)))) - (48 : Int64))) 129 2 ((w.1 129 2) + (1 : Int32))).1 129 1).toInt = (w.1 129 1).toInt := rfl; have := bd_129_2 hI; have : ((sI (sJ w 129 8 ((((10 : Int64) * (w.2.1 129 8)) + (Int32.toInt64 (w.1 130 ((w.1 129 2).toInt.toNat)))) - (48 : Int64))) 129 2 ((w.1 129 2) + (1 : Int32))).1 129 2).toInt = ((w.1 129 2) + (1 : Int32)).toInt := rfl; have := bd_129_5 hI; have := (by decide : ((9 : Int32)).toInt = 9); have := PZ_ex hf_PZ; have := ti_add2 (Eq.refl (w.1 129 2).toInt) (by decide : ((1 : Int32)).toInt = 1) (by omega) (by omega); have := ti_sub2 (Eq.refl (w.1 129 2).toInt) (Eq.refl (w.1 129 5).toInt) (by omega) (by omega); omega); have := PZ_ex hf_PZ; have := ti_add2 (Eq.refl (w.1 129 2).toInt) (by decide : ((1 : Int32)).toInt = 1) (by omega) (by omega); have := ti_sub2 (Eq.refl (w.1 129 2).toInt) (Eq.refl (w.1 129 5).toInt) (by omega) (by omega); omega) (fun w9 hI9 hF9 hl9_PZ => hE w9 hI9 ((FR.I (FR.J (FR.refl _ w) (k := 129) (j := 8) (v := ((((10 : Int64) * (w.2.1 129 8)) + (Int32.toInt64 (w.1 130 ((w.1 129 2).toInt.toNat)))) - (48 : Int64))) rfl) (k := 129) (j := 2) (v := ((w.1 129 2) + (1 : Int32))) rfl).tr hF9 rfl) hl9_PZ ) (fun w9 hI9 hF9 hl9_PZ q0 => q0.elim)
set_option maxRecDepth 20000 in
set_option maxHeartbeats 2000000 in
theorem hq_Tx_digits_143 {E : MW → Prop} {Q : MW → Prop} (n : Nat) : ∀ (x143_1 : Int64) (w : MW), BND w → PZ w → 0 ≤ x143_1.toInt → x143_1.toInt ≤ 100 → (x143_1.toInt - 0).toNat < n → (∀ (w' : MW), BND w' → FR l_Tx_digits_143 w w' → PZ w' → E w') → (∀ (w' : MW), BND w' → FR l_Tx_digits_143 w w' → PZ w' → False → Q w') → q_Tx_digits_143 E Q n x143_1 w := by
  induction n with
  | zero => intros; omega
  | succ n ih =>
    intro x143_1 w hI hf_PZ hp0 hp1 hm hE hQ
    rw [q_Tx_digits_143.eq_2]
    refine Eq.mpr (p_Tx_at.eq_1 _ _ _) ?_
    refine ⟨fun h10152 => ?_, fun h10152 => ?_⟩
    · refine Eq.mpr (p_Tx_isDigit.eq_1 _ _ _) ?_
      refine ⟨fun _ => ?_, fun h => absurd (by decide) h⟩
      refine ⟨fun _ => ?_, fun h => absurd (by decide) h⟩
      exact hE _ hI (FR.refl _ w) hf_PZ 
    · have o10153 : 0 ≤ (w.1 129 2).toInt ∧ (w.1 129 2).toInt < 4020 := by have := bd_129_1 hI; have := bd_129_2 hI; have := PZ_ex hf_PZ; omega
      refine ⟨o10153, ?_⟩
      refine Eq.mpr (p_Tx_isDigit.eq_1 _ _ _) ?_
      refine ⟨fun h10154 => ?_, fun h10154 => ?_⟩
      · refine ⟨fun _ => ?_, fun h => absurd (by decide) h⟩
        exact hE _ hI (FR.refl _ w) hf_PZ 
      · refine ⟨fun h10155 => ?_, fun h10155 => ?_⟩
        · refine ⟨fun _ => ?_, fun h => absurd (by decide) h⟩
          exact hE _ hI (FR.refl _ w) hf_PZ 
        · refine ⟨fun h => absurd h (by decide), fun _ => ?_⟩
          refine ⟨fun h10156 => ?_, fun h10156 => ?_⟩
          · exact hE _ hI (FR.refl _ w) hf_PZ
          · refine Eq.mpr (p_Tx_at.eq_1 _ _ _) ?_
            refine ⟨fun h => absurd h h10152, fun _ => ?_⟩
            have o10157 : 0 ≤ (w.1 129 2).toInt ∧ (w.1 129 2).toInt < 4020 := by have := bd_129_1 hI; have := bd_129_2 hI; have := PZ_ex hf_PZ; omega
            refine ⟨o10157, ?_⟩
            have o10159 : 0 ≤ ((w.1 129 2) + (1 : Int32)).toInt ∧ ((w.1 129 2) + (1 : Int32)).toInt ≤ 4020 := by have := bd_129_1 hI; have := bd_129_2 hI; have := PZ_ex hf_PZ; have := ti_add2 (Eq.refl (w.1 129 2).toInt) (by decide : ((1 : Int32)).toInt = 1) (by omega) (by omega); omega
            have hI10158 : BND (sI (sJ w 129 8 ((w.2.1 129 8) + (x143_1 * (Int32.toInt64 ((w.1 130 ((w.1 129 2).toInt.toNat)) - (48 : Int32)))))) 129 2 ((w.1 129 2) + (1 : Int32))) := wbd_129_2 (bnd_J hI (k := 129) (j := 8) (v := ((w.2.1 129 8) + (x143_1 * (Int32.toInt64 ((w.1 130 ((w.1 129 2).toInt.toNat)) - (48 : Int32))))))) o10159.1 o10159.2
            have o10160 : (0 ≤ (x143_1 / (10 : Int64)).toInt) ∧ ((x143_1 / (10 : Int64)).toInt ≤ 100) := by have := nb_cmp x143_1 (0 : Int64); have := (by decide : ((0 : Int64)).toInt = 0); have := (by decide : ((0 : Int32)).toInt = 0); have := nb_ldiv (x := x143_1) (by omega) (by decide : ((10 : Int64)).toInt = 10) (by decide); exact ⟨by omega, by omega⟩
            exact ih _ (sI (sJ w 129 8 ((w.2.1 129 8) + (x143_1 * (Int32.toInt64 ((w.1 130 ((w.1 129 2).toInt.toNat)) - (48 : Int32)))))) 129 2 ((w.1 129 2) + (1 : Int32))) hI10158 (by unfold PZ; have := bd_129_1 hI; have : ((sI (sJ w 129 8 ((w.2.1 129 8) + (x143_1 * (Int32.toInt64 ((w.1 130 ((w.1 129 2).toInt.toNat)) - (48 : Int32)))))) 129 2 ((w.1 129 2) + (1 : Int32))).1 129 1).toInt = (w.1 129 1).toInt := rfl; have := bd_129_2 hI; have : ((sI (sJ w 129 8 ((w.2.1 129 8) + (x143_1 * (Int32.toInt64 ((w.1 130 ((w.1 129 2).toInt.toNat)) - (48 : Int32)))))) 129 2 ((w.1 129 2) + (1 : Int32))).1 129 2).toInt = ((w.1 129 2) + (1 : Int32)).toInt := rfl; have := PZ_ex hf_PZ; have := ti_add2 (Eq.refl (w.1 129 2).toInt) (by decide : ((1 : Int32)).toInt = 1) (by omega) (by omega); omega) o10160.1 o10160.2 (by have := nb_cmp x143_1 (0 : Int64); have := (by decide : ((0 : Int64)).toInt = 0); have := (by decide : ((0 : Int32)).toInt = 0); have := nb_ldiv (x := x143_1) (by omega) (by decide : ((10 : Int64)).toInt = 10) (by decide); omega) (fun w9 hI9 hF9 hl9_PZ => hE w9 hI9 ((FR.I (FR.J (FR.refl _ w) (k := 129) (j := 8) (v := ((w.2.1 129 8) + (x143_1 * (Int32.toInt64 ((w.1 130 ((w.1 129 2).toInt.toNat)) - (48 : Int32)))))) rfl) (k := 129) (j := 2) (v := ((w.1 129 2) + (1 : Int32))) rfl).tr hF9 rfl) hl9_PZ ) (fun w9 hI9 hF9 hl9_PZ q0 => q0.elim)
set_option maxRecDepth 20000 in
set_option maxHeartbeats 2000000 in
theorem h_Tx_digits {w : MW} {Q : MW → Prop} (hI : BND w) (hf_PZ : PZ w)  (hQ : ∀ (w' : MW), BND w' → FR l_Tx_digits w w' → PZ w' → Q w') : p_Tx_digits w Q := by
  refine Eq.mpr (p_Tx_digits.eq_1 _ _) ?_
  refine hq_Tx_digits_5 FU (sJ w 129 8 0) (bnd_J hI (k := 129) (j := 8) (v := 0)) (PZ_fr (l := [(129, some 8)]) (FR.J (FR.refl _ w) (k := 129) (j := 8) (v := 0) rfl) rfl hf_PZ)  (fu_lt (by have := bd_129_1 hI; have : ((sJ w 129 8 0).1 129 1).toInt = (w.1 129 1).toInt := rfl; have := bd_129_2 hI; have : ((sJ w 129 8 0).1 129 2).toInt = (w.1 129 2).toInt := rfl; have := PZ_ex (PZ_fr (l := [(129, some 8)]) (FR.J (FR.refl _ w) (k := 129) (j := 8) (v := 0) rfl) rfl hf_PZ); have := PZ_ex hf_PZ; omega)) (fun w10161 hI10162 hL10163 hlw10161_PZ  => ?_) (fun w9 hI9 hF9 hl9_PZ q0 => q0.elim)
  have hF10164 : FR l_Tx_digits w w10161 := (FR.J (FR.refl _ w) (k := 129) (j := 8) (v := 0) rfl).tr hL10163 rfl
  refine Eq.mpr (p_Tx_at.eq_1 _ _ _) ?_
  refine ⟨fun h10165 => ?_, fun h10165 => ?_⟩
  · refine ⟨fun _ => ?_, fun h => absurd (by decide) h⟩
    refine Eq.mpr (q_Tx_digits_119.eq_1 _ _ _) ?_
    refine ⟨by decide, ?_⟩
    refine ⟨fun _ => ?_, fun h => absurd (by decide) h⟩
    have hI10166 : BND (sI (sJ w10161 129 8 ((w10161.2.1 129 8) * (1000 : Int64))) 129 9 0) := wbd_129_9 (bnd_J hI10162 (k := 129) (j := 8) (v := ((w10161.2.1 129 8) * (1000 : Int64)))) (by decide) (by decide)
    exact hQ _ hI10166 (FR.I (FR.J hF10164 (k := 129) (j := 8) (v := ((w10161.2.1 129 8) * (1000 : Int64))) rfl) (k := 129) (j := 9) (v := 0) rfl) (PZ_fr (l := [(129, some 9)]) (FR.I (FR.refl _ (sJ w10161 129 8 ((w10161.2.1 129 8) * (1000 : Int64)))) (k := 129) (j := 9) (v := 0) rfl) rfl (PZ_fr (l := [(129, some 8)]) (FR.J (FR.refl _ w10161) (k := 129) (j := 8) (v := ((w10161.2.1 129 8) * (1000 : Int64))) rfl) rfl hlw10161_PZ)) 
  · have o10167 : 0 ≤ (w10161.1 129 2).toInt ∧ (w10161.1 129 2).toInt < 4020 := by have := bd_129_1 hI10162; have := bd_129_1 hI; have : ((sJ w 129 8 0).1 129 1).toInt = (w.1 129 1).toInt := rfl; have := (congrArg Int32.toInt (hL10163 129 1 rfl).1); have := bd_129_2 hI10162; have : ((sJ w10161 129 8 ((w10161.2.1 129 8) * (1000 : Int64))).1 129 1).toInt = (w10161.1 129 1).toInt := rfl; have := PZ_ex hlw10161_PZ; omega
    refine ⟨o10167, ?_⟩
    refine ⟨fun h10168 => ?_, fun h10168 => ?_⟩
    · refine Eq.mpr (q_Tx_digits_119.eq_1 _ _ _) ?_
      refine ⟨by decide, ?_⟩
      refine ⟨fun _ => ?_, fun h => absurd (by decide) h⟩
      have hI10169 : BND (sI (sJ w10161 129 8 ((w10161.2.1 129 8) * (1000 : Int64))) 129 9 0) := wbd_129_9 (bnd_J hI10162 (k := 129) (j := 8) (v := ((w10161.2.1 129 8) * (1000 : Int64)))) (by decide) (by decide)
      exact hQ _ hI10169 (FR.I (FR.J hF10164 (k := 129) (j := 8) (v := ((w10161.2.1 129 8) * (1000 : Int64))) rfl) (k := 129) (j := 9) (v := 0) rfl) (PZ_fr (l := [(129, some 9)]) (FR.I (FR.refl _ (sJ w10161 129 8 ((w10161.2.1 129 8) * (1000 : Int64)))) (k := 129) (j := 9) (v := 0) rfl) rfl (PZ_fr (l := [(129, some 8)]) (FR.J (FR.refl _ w10161) (k := 129) (j := 8) (v := ((w10161.2.1 129 8) * (1000 : Int64))) rfl) rfl hlw10161_PZ)) 
    · refine Eq.mpr (p_Tx_at.eq_1 _ _ _) ?_
      refine ⟨fun h10170 => ?_, fun h10170 => ?_⟩
      · refine Eq.mpr (p_Tx_isDigit.eq_1 _ _ _) ?_
        refine ⟨fun _ => ?_, fun h => absurd (by decide) h⟩
        refine ⟨fun _ => ?_, fun h => absurd (by decide) h⟩
        refine Eq.mpr (q_Tx_digits_119.eq_1 _ _ _) ?_
        refine ⟨by decide, ?_⟩
        refine ⟨fun _ => ?_, fun h => absurd (by decide) h⟩
        have hI10171 : BND (sI (sJ w10161 129 8 ((w10161.2.1 129 8) * (1000 : Int64))) 129 9 0) := wbd_129_9 (bnd_J hI10162 (k := 129) (j := 8) (v := ((w10161.2.1 129 8) * (1000 : Int64)))) (by decide) (by decide)
        exact hQ _ hI10171 (FR.I (FR.J hF10164 (k := 129) (j := 8) (v := ((w10161.2.1 129 8) * (1000 : Int64))) rfl) (k := 129) (j := 9) (v := 0) rfl) (PZ_fr (l := [(129, some 9)]) (FR.I (FR.refl _ (sJ w10161 129 8 ((w10161.2.1 129 8) * (1000 : Int64)))) (k := 129) (j := 9) (v := 0) rfl) rfl (PZ_fr (l := [(129, some 8)]) (FR.J (FR.refl _ w10161) (k := 129) (j := 8) (v := ((w10161.2.1 129 8) * (1000 : Int64))) rfl) rfl hlw10161_PZ)) 
      · have o10172 : 0 ≤ (((sJ w10161 129 8 ((w10161.2.1 129 8) * (1000 : Int64))).1 129 2) + (1 : Int32)).toInt ∧ (((sJ w10161 129 8 ((w10161.2.1 129 8) * (1000 : Int64))).1 129 2) + (1 : Int32)).toInt < 4020 := by have := bd_129_1 hI10162; have := bd_129_1 hI; have : ((sJ w 129 8 0).1 129 1).toInt = (w.1 129 1).toInt := rfl; have := (congrArg Int32.toInt (hL10163 129 1 rfl).1); have : ((sJ w10161 129 8 ((w10161.2.1 129 8) * (1000 : Int64))).1 129 1).toInt = (w10161.1 129 1).toInt := rfl; have := bd_129_2 hI10162; have : ((sJ w10161 129 8 ((w10161.2.1 129 8) * (1000 : Int64))).1 129 2).toInt = (w10161.1 129 2).toInt := rfl; have := PZ_ex (PZ_fr (l := [(129, some 8)]) (FR.J (FR.refl _ w10161) (k := 129) (j := 8) (v := ((w10161.2.1 129 8) * (1000 : Int64))) rfl) rfl hlw10161_PZ); have := PZ_ex hlw10161_PZ; have := ti_add2 (Eq.refl ((sJ w10161 129 8 ((w10161.2.1 129 8) * (1000 : Int64))).1 129 2).toInt) (by decide : ((1 : Int32)).toInt = 1) (by omega) (by omega); omega
        refine ⟨o10172, ?_⟩
        refine Eq.mpr (p_Tx_isDigit.eq_1 _ _ _) ?_
        refine ⟨fun h10173 => ?_, fun h10173 => ?_⟩
        · refine ⟨fun _ => ?_, fun h => absurd (by decide) h⟩
          refine Eq.mpr (q_Tx_digits_119.eq_1 _ _ _) ?_
          refine ⟨by decide, ?_⟩
          refine ⟨fun _ => ?_, fun h => absurd (by decide) h⟩
          have hI10174 : BND (sI (sJ w10161 129 8 ((w10161.2.1 129 8) * (1000 : Int64))) 129 9 0) := wbd_129_9 (bnd_J hI10162 (k := 129) (j := 8) (v := ((w10161.2.1 129 8) * (1000 : Int64)))) (by decide) (by decide)
          exact hQ _ hI10174 (FR.I (FR.J hF10164 (k := 129) (j := 8) (v := ((w10161.2.1 129 8) * (1000 : Int64))) rfl) (k := 129) (j := 9) (v := 0) rfl) (PZ_fr (l := [(129, some 9)]) (FR.I (FR.refl _ (sJ w10161 129 8 ((w10161.2.1 129 8) * (1000 : Int64)))) (k := 129) (j := 9) (v := 0) rfl) rfl (PZ_fr (l := [(129, some 8)]) (FR.J (FR.refl _ w10161) (k := 129) (j := 8) (v := ((w10161.2.1 129 8) * (1000 : Int64))) rfl) rfl hlw10161_PZ)) 
        · refine ⟨fun h10175 => ?_, fun h10175 => ?_⟩
          · refine ⟨fun _ => ?_, fun h => absurd (by decide) h⟩
            refine Eq.mpr (q_Tx_digits_119.eq_1 _ _ _) ?_
            refine ⟨by decide, ?_⟩
            refine ⟨fun _ => ?_, fun h => absurd (by decide) h⟩
            have hI10176 : BND (sI (sJ w10161 129 8 ((w10161.2.1 129 8) * (1000 : Int64))) 129 9 0) := wbd_129_9 (bnd_J hI10162 (k := 129) (j := 8) (v := ((w10161.2.1 129 8) * (1000 : Int64)))) (by decide) (by decide)
            exact hQ _ hI10176 (FR.I (FR.J hF10164 (k := 129) (j := 8) (v := ((w10161.2.1 129 8) * (1000 : Int64))) rfl) (k := 129) (j := 9) (v := 0) rfl) (PZ_fr (l := [(129, some 9)]) (FR.I (FR.refl _ (sJ w10161 129 8 ((w10161.2.1 129 8) * (1000 : Int64)))) (k := 129) (j := 9) (v := 0) rfl) rfl (PZ_fr (l := [(129, some 8)]) (FR.J (FR.refl _ w10161) (k := 129) (j := 8) (v := ((w10161.2.1 129 8) * (1000 : Int64))) rfl) rfl hlw10161_PZ)) 
          · refine ⟨fun h => absurd h (by decide), fun _ => ?_⟩
            refine Eq.mpr (q_Tx_digits_119.eq_1 _ _ _) ?_
            refine ⟨by decide, ?_⟩
            refine ⟨fun h => absurd h (by decide), fun _ => ?_⟩
            have hI10177 : BND (sI (sJ w10161 129 8 ((w10161.2.1 129 8) * (1000 : Int64))) 129 9 1) := wbd_129_9 (bnd_J hI10162 (k := 129) (j := 8) (v := ((w10161.2.1 129 8) * (1000 : Int64)))) (by decide) (by decide)
            have o10179 : 0 ≤ (((sJ w10161 129 8 ((w10161.2.1 129 8) * (1000 : Int64))).1 129 2) + (1 : Int32)).toInt ∧ (((sJ w10161 129 8 ((w10161.2.1 129 8) * (1000 : Int64))).1 129 2) + (1 : Int32)).toInt ≤ 4020 := by have := bd_129_1 hI10162; have := bd_129_1 hI; have : ((sJ w 129 8 0).1 129 1).toInt = (w.1 129 1).toInt := rfl; have := (congrArg Int32.toInt (hL10163 129 1 rfl).1); have : ((sJ w10161 129 8 ((w10161.2.1 129 8) * (1000 : Int64))).1 129 1).toInt = (w10161.1 129 1).toInt := rfl; have := bd_129_2 hI10162; have : ((sJ w10161 129 8 ((w10161.2.1 129 8) * (1000 : Int64))).1 129 2).toInt = (w10161.1 129 2).toInt := rfl; have := PZ_ex (PZ_fr (l := [(129, some 8)]) (FR.J (FR.refl _ w10161) (k := 129) (j := 8) (v := ((w10161.2.1 129 8) * (1000 : Int64))) rfl) rfl hlw10161_PZ); have := PZ_ex hlw10161_PZ; have := ti_add2 (Eq.refl ((sJ w10161 129 8 ((w10161.2.1 129 8) * (1000 : Int64))).1 129 2).toInt) (by decide : ((1 : Int32)).toInt = 1) (by omega) (by omega); omega
            have hI10178 : BND (sI (sI (sJ w10161 129 8 ((w10161.2.1 129 8) * (1000 : Int64))) 129 9 1) 129 2 (((sJ w10161 129 8 ((w10161.2.1 129 8) * (1000 : Int64))).1 129 2) + (1 : Int32))) := wbd_129_2 hI10177 o10179.1 o10179.2
            have o10180 : (0 ≤ (100 : Int64).toInt) ∧ ((100 : Int64).toInt ≤ 100) := by have := (by decide : ((100 : Int64)).toInt = 100); exact ⟨by omega, by omega⟩
            refine hq_Tx_digits_143 FU _ (sI (sI (sJ w10161 129 8 ((w10161.2.1 129 8) * (1000 : Int64))) 129 9 1) 129 2 (((sJ w10161 129 8 ((w10161.2.1 129 8) * (1000 : Int64))).1 129 2) + (1 : Int32))) hI10178 (by unfold PZ; have := bd_129_1 hI10162; have := bd_129_1 hI; have : ((sJ w 129 8 0).1 129 1).toInt = (w.1 129 1).toInt := rfl; have := (congrArg Int32.toInt (hL10163 129 1 rfl).1); have : ((sI (sI (sJ w10161 129 8 ((w10161.2.1 129 8) * (1000 : Int64))) 129 9 1) 129 2 (((sJ w10161 129 8 ((w10161.2.1 129 8) * (1000 : Int64))).1 129 2) + (1 : Int32))).1 129 1).toInt = (w10161.1 129 1).toInt := rfl; have : ((sJ w10161 129 8 ((w10161.2.1 129 8) * (1000 : Int64))).1 129 1).toInt = (w10161.1 129 1).toInt := rfl; have := bd_129_2 hI10162; have : ((sJ w10161 129 8 ((w10161.2.1 129 8) * (1000 : Int64))).1 129 2).toInt = (w10161.1 129 2).toInt := rfl; have : ((sI (sI (sJ w10161 129 8 ((w10161.2.1 129 8) * (1000 : Int64))) 129 9 1) 129 2 (((sJ w10161 129 8 ((w10161.2.1 129 8) * (1000 : Int64))).1 129 2) + (1 : Int32))).1 129 2).toInt = (((sJ w10161 129 8 ((w10161.2.1 129 8) * (1000 : Int64))).1 129 2) + (1 : Int32)).toInt := rfl; have := PZ_ex (PZ_fr (l := [(129, some 8)]) (FR.J (FR.refl _ w10161) (k := 129) (j := 8) (v := ((w10161.2.1 129 8) * (1000 : Int64))) rfl) rfl hlw10161_PZ); have := PZ_ex hlw10161_PZ; have := ti_add2 (Eq.refl ((sJ w10161 129 8 ((w10161.2.1 129 8) * (1000 : Int64))).1 129 2).toInt) (by decide : ((1 : Int32)).toInt = 1) (by omega) (by omega); omega) o10180.1 o10180.2 (fu_lt (by have := (by decide : ((100 : Int64)).toInt = 100); omega)) (fun w10181 hI10182 hL10183 hlw10181_PZ  => ?_) (fun w9 hI9 hF9 hl9_PZ q0 => q0.elim)
            have hF10184 : FR l_Tx_digits w w10181 := (FR.I (FR.I (FR.J hF10164 (k := 129) (j := 8) (v := ((w10161.2.1 129 8) * (1000 : Int64))) rfl) (k := 129) (j := 9) (v := 1) rfl) (k := 129) (j := 2) (v := (((sJ w10161 129 8 ((w10161.2.1 129 8) * (1000 : Int64))).1 129 2) + (1 : Int32))) rfl).tr hL10183 rfl
            exact hQ _ hI10182 hF10184 hlw10181_PZ 
def l_Tx_is_8 : Pl := []
def l_Tx_is : Pl := []
set_option maxRecDepth 20000 in
set_option maxHeartbeats 2000000 in
theorem hq_Tx_is_8 {E : Int32 → MW → Prop} {Q : Int32 → MW → Prop} (n : Nat) : ∀ (x8_3 : Int32) (x8_4 : Int64) (w : MW), BND w → 0 ≤ x8_3.toInt → x8_3.toInt ≤ 4020 → 0 ≤ x8_4.toInt → x8_4.toInt ≤ 128047746676079 → (4020 - x8_3.toInt).toNat < n → (∀ (e8_3 : Int32) (w' : MW), BND w' → FR l_Tx_is_8 w w' → 0 ≤ e8_3.toInt → e8_3.toInt ≤ 4020 → E e8_3 w') → (∀ (r : Int32) (w' : MW), BND w' → FR l_Tx_is_8 w w' → 0 ≤ r.toInt → r.toInt ≤ 0 → Q r w') → q_Tx_is_8 E Q n x8_3 x8_4 w := by
  induction n with
  | zero => intros; omega
  | succ n ih =>
    intro x8_3 x8_4 w hI  hp0 hp1 hp2 hp3 hm hE hQ
    rw [q_Tx_is_8.eq_2]
    refine ⟨fun h10185 => ?_, fun h10185 => ?_⟩
    · have o10186 : (0 ≤ x8_3.toInt) ∧ (x8_3.toInt ≤ 4020) := by exact ⟨by omega, by omega⟩
      exact hE _ _ hI (FR.refl _ w) o10186.1 o10186.2
    · refine ⟨fun h10187 => ?_, fun h10187 => ?_⟩
      · have o10188 : (0 ≤ (0 : Int32).toInt) ∧ ((0 : Int32).toInt ≤ 0) := by have := (by decide : ((0 : Int32)).toInt = 0); exact ⟨by omega, by omega⟩
        exact hQ _ _ hI (FR.refl _ w)  o10188.1 o10188.2
      · have o10189 : 0 ≤ x8_3.toInt ∧ x8_3.toInt < 4020 := by have := bd_129_6 hI; omega
        refine ⟨o10189, ?_⟩
        refine ⟨fun h10190 => ?_, fun h10190 => ?_⟩
        · have o10191 : (0 ≤ (x8_3 + (1 : Int32)).toInt) ∧ ((x8_3 + (1 : Int32)).toInt ≤ 4020) ∧ (0 ≤ ((x8_4.toUInt64 >>> ((8 : Int32).toInt64.toUInt64 &&& Int64.toUInt64 63)).toInt64).toInt) ∧ (((x8_4.toUInt64 >>> ((8 : Int32).toInt64.toUInt64 &&& Int64.toUInt64 63)).toInt64).toInt ≤ 128047746676079) := by have := nb_cmp x8_4 (0 : Int64); have := (by decide : ((0 : Int64)).toInt = 0); have := (by decide : ((0 : Int32)).toInt = 0); have := bd_129_6 hI; have := bd_130 hI x8_3.toInt.toNat; have := ti_lo (Int64.toInt32 (x8_4 &&& (255 : Int64))); have := ti_hi (Int64.toInt32 (x8_4 &&& (255 : Int64))); have := ti_add2 (Eq.refl x8_3.toInt) (by decide : ((1 : Int32)).toInt = 1) (by omega) (by omega); have := nb_lushr8 x8_4 (by omega); have := nb_l255 x8_4 (by omega); exact ⟨by omega, by omega, by omega, by omega⟩
          exact ih _ _ w hI  o10191.1 o10191.2.1 o10191.2.2.1 o10191.2.2.2 (by have := nb_cmp x8_4 (0 : Int64); have := (by decide : ((0 : Int64)).toInt = 0); have := (by decide : ((0 : Int32)).toInt = 0); have := bd_129_6 hI; have := bd_130 hI x8_3.toInt.toNat; have := ti_lo (Int64.toInt32 (x8_4 &&& (255 : Int64))); have := ti_hi (Int64.toInt32 (x8_4 &&& (255 : Int64))); have := ti_add2 (Eq.refl x8_3.toInt) (by decide : ((1 : Int32)).toInt = 1) (by omega) (by omega); have := nb_lushr8 x8_4 (by omega); have := nb_l255 x8_4 (by omega); omega) (fun e0 w9 hI9 hF9 p0 p1 => hE e0 w9 hI9 ((FR.refl _ w).tr hF9 rfl) p0 p1 ) (fun r w9 hI9 hF9 q0 q1 => hQ r w9 hI9 ((FR.refl _ w).tr hF9 rfl) (by have := nb_cmp x8_4 (0 : Int64); have := (by decide : ((0 : Int64)).toInt = 0); have := (by decide : ((0 : Int32)).toInt = 0); have := bd_129_6 hI; have := bd_130 hI x8_3.toInt.toNat; have := ti_lo (Int64.toInt32 (x8_4 &&& (255 : Int64))); have := ti_hi (Int64.toInt32 (x8_4 &&& (255 : Int64))); have := ti_add2 (Eq.refl x8_3.toInt) (by decide : ((1 : Int32)).toInt = 1) (by omega) (by omega); have := nb_lushr8 x8_4 (by omega); have := nb_l255 x8_4 (by omega); omega) (by have := nb_cmp x8_4 (0 : Int64); have := (by decide : ((0 : Int64)).toInt = 0); have := (by decide : ((0 : Int32)).toInt = 0); have := bd_129_6 hI; have := bd_130 hI x8_3.toInt.toNat; have := ti_lo (Int64.toInt32 (x8_4 &&& (255 : Int64))); have := ti_hi (Int64.toInt32 (x8_4 &&& (255 : Int64))); have := ti_add2 (Eq.refl x8_3.toInt) (by decide : ((1 : Int32)).toInt = 1) (by omega) (by omega); have := nb_lushr8 x8_4 (by omega); have := nb_l255 x8_4 (by omega); omega))
        · have o10192 : (0 ≤ (0 : Int32).toInt) ∧ ((0 : Int32).toInt ≤ 0) := by have := (by decide : ((0 : Int32)).toInt = 0); exact ⟨by omega, by omega⟩
          exact hQ _ _ hI (FR.refl _ w)  o10192.1 o10192.2
set_option maxRecDepth 20000 in
set_option maxHeartbeats 2000000 in
theorem h_Tx_is {w : MW} {a0 : Int64} {Q : Int32 → MW → Prop} (hI : BND w) (hp0 : 99 ≤ a0.toInt) (hp1 : a0.toInt ≤ 128047746676079) (hQ : ∀ (r : Int32) (w' : MW), BND w' → FR l_Tx_is w w' → 0 ≤ r.toInt → r.toInt ≤ 1 → Q r w') : p_Tx_is w a0 Q := by
  refine Eq.mpr (p_Tx_is.eq_1 _ _ _) ?_
  have o10193 : (0 ≤ (w.1 129 5).toInt) ∧ ((w.1 129 5).toInt ≤ 4020) ∧ (0 ≤ a0.toInt) ∧ (a0.toInt ≤ 128047746676079) := by have := bd_129_5 hI; exact ⟨by omega, by omega, by omega, by omega⟩
  refine hq_Tx_is_8 FU _ _ w hI  o10193.1 o10193.2.1 o10193.2.2.1 o10193.2.2.2 (fu_lt (by have := bd_129_5 hI; omega)) (fun e10197 w10194 hI10195 hL10196 p10198 p10199 => ?_) (fun r w9 hI9 hF9 q0 q1 => hQ r w9 hI9 (((FR.refl _ w)).tr hF9 rfl) (by have := bd_129_5 hI; omega) (by have := bd_129_5 hI; omega))
  have hF10200 : FR l_Tx_is w w10194 := (FR.refl _ w).tr hL10196 rfl
  refine ⟨fun h10201 => ?_, fun h10201 => ?_⟩
  · have o10202 : (0 ≤ (0 : Int32).toInt) ∧ ((0 : Int32).toInt ≤ 1) := by have := (by decide : ((0 : Int32)).toInt = 0); exact ⟨by omega, by omega⟩
    exact hQ _ _ hI10195 hF10200  o10202.1 o10202.2
  · have o10203 : (0 ≤ (1 : Int32).toInt) ∧ ((1 : Int32).toInt ≤ 1) := by have := (by decide : ((1 : Int32)).toInt = 1); exact ⟨by omega, by omega⟩
    exact hQ _ _ hI10195 hF10200  o10203.1 o10203.2
def l_Tx_meaning_395 : Pl := []
def l_Tx_meaning_258 : Pl := []
def l_Tx_meaning_121 : Pl := []
def l_Tx_meaning : Pl := []
set_option maxRecDepth 20000 in
set_option maxHeartbeats 2000000 in
theorem hq_Tx_meaning_258 {y258_1 : Int32} {ys258_0 : Int32} {w : MW} {Q : Int32 → MW → Prop} (hI : BND w) (hp0 : (-1) ≤ y258_1.toInt) (hp1 : y258_1.toInt ≤ 17) (hp2 : (-1) ≤ ys258_0.toInt) (hp3 : ys258_0.toInt ≤ 32) (hQ : ∀ (r : Int32) (w' : MW), BND w' → FR l_Tx_meaning_258 w w' → (-1) ≤ r.toInt → r.toInt ≤ 46 → Q r w') : q_Tx_meaning_258 y258_1 ys258_0 w Q := by
  refine Eq.mpr (q_Tx_meaning_258.eq_1 _ _ _ _) ?_
  have o10204 : (99 ≤ (1702063205 : Int64).toInt) ∧ ((1702063205 : Int64).toInt ≤ 128047746676079) := by have := (by decide : ((1702063205 : Int64)).toInt = 1702063205); exact ⟨by omega, by omega⟩
  refine h_Tx_is hI  o10204.1 o10204.2 (fun r10208 w10205 hI10206 hL10207 p10209 p10210 => ?_)
  have hF10211 : FR l_Tx_meaning_258 w w10205 := (FR.refl _ w).tr hL10207 rfl
  refine ⟨fun h10212 => ?_, fun h10212 => ?_⟩
  · have o10213 : (99 ≤ (1852139636 : Int64).toInt) ∧ ((1852139636 : Int64).toInt ≤ 128047746676079) := by have := (by decide : ((1852139636 : Int64)).toInt = 1852139636); exact ⟨by omega, by omega⟩
    refine h_Tx_is hI10206  o10213.1 o10213.2 (fun r10217 w10214 hI10215 hL10216 p10218 p10219 => ?_)
    have hF10220 : FR l_Tx_meaning_258 w w10214 := hF10211.tr hL10216 rfl
    refine ⟨fun h10221 => ?_, fun h10221 => ?_⟩
    · have o10222 : (99 ≤ (108 : Int64).toInt) ∧ ((108 : Int64).toInt ≤ 128047746676079) := by have := (by decide : ((108 : Int64)).toInt = 108); exact ⟨by omega, by omega⟩
      refine h_Tx_is hI10215  o10222.1 o10222.2 (fun r10226 w10223 hI10224 hL10225 p10227 p10228 => ?_)
      have hF10229 : FR l_Tx_meaning_258 w w10223 := hF10220.tr hL10225 rfl
      refine ⟨fun h10230 => ?_, fun h10230 => ?_⟩
      · have o10231 : (99 ≤ (99 : Int64).toInt) ∧ ((99 : Int64).toInt ≤ 128047746676079) := by have := (by decide : ((99 : Int64)).toInt = 99); exact ⟨by omega, by omega⟩
        refine h_Tx_is hI10224  o10231.1 o10231.2 (fun r10235 w10232 hI10233 hL10234 p10236 p10237 => ?_)
        have hF10238 : FR l_Tx_meaning_258 w w10232 := hF10229.tr hL10234 rfl
        refine ⟨fun h10239 => ?_, fun h10239 => ?_⟩
        · have o10240 : (99 ≤ (115 : Int64).toInt) ∧ ((115 : Int64).toInt ≤ 128047746676079) := by have := (by decide : ((115 : Int64)).toInt = 115); exact ⟨by omega, by omega⟩
          refine h_Tx_is hI10233  o10240.1 o10240.2 (fun r10244 w10241 hI10242 hL10243 p10245 p10246 => ?_)
          have hF10247 : FR l_Tx_meaning_258 w w10241 := hF10238.tr hL10243 rfl
          refine ⟨fun h10248 => ?_, fun h10248 => ?_⟩
          · have o10249 : (99 ≤ (7496034 : Int64).toInt) ∧ ((7496034 : Int64).toInt ≤ 128047746676079) := by have := (by decide : ((7496034 : Int64)).toInt = 7496034); exact ⟨by omega, by omega⟩
            refine h_Tx_is hI10242  o10249.1 o10249.2 (fun r10253 w10250 hI10251 hL10252 p10254 p10255 => ?_)
            have hF10256 : FR l_Tx_meaning_258 w w10250 := hF10247.tr hL10252 rfl
            refine ⟨fun h10257 => ?_, fun h10257 => ?_⟩
            · have o10258 : (99 ≤ (1953653104 : Int64).toInt) ∧ ((1953653104 : Int64).toInt ≤ 128047746676079) := by have := (by decide : ((1953653104 : Int64)).toInt = 1953653104); exact ⟨by omega, by omega⟩
              refine h_Tx_is hI10251  o10258.1 o10258.2 (fun r10262 w10259 hI10260 hL10261 p10263 p10264 => ?_)
              have hF10265 : FR l_Tx_meaning_258 w w10259 := hF10256.tr hL10261 rfl
              refine ⟨fun h10266 => ?_, fun h10266 => ?_⟩
              · have o10267 : (99 ≤ (7235949 : Int64).toInt) ∧ ((7235949 : Int64).toInt ≤ 128047746676079) := by have := (by decide : ((7235949 : Int64)).toInt = 7235949); exact ⟨by omega, by omega⟩
                refine h_Tx_is hI10260  o10267.1 o10267.2 (fun r10271 w10268 hI10269 hL10270 p10272 p10273 => ?_)
                have hF10274 : FR l_Tx_meaning_258 w w10268 := hF10265.tr hL10270 rfl
                refine ⟨fun h10275 => ?_, fun h10275 => ?_⟩
                · have o10276 : (99 ≤ (104 : Int64).toInt) ∧ ((104 : Int64).toInt ≤ 128047746676079) := by have := (by decide : ((104 : Int64)).toInt = 104); exact ⟨by omega, by omega⟩
                  refine h_Tx_is hI10269  o10276.1 o10276.2 (fun r10280 w10277 hI10278 hL10279 p10281 p10282 => ?_)
                  have hF10283 : FR l_Tx_meaning_258 w w10277 := hF10274.tr hL10279 rfl
                  refine ⟨fun h10284 => ?_, fun h10284 => ?_⟩
                  · refine Eq.mpr (q_Tx_meaning_395.eq_1 _ _ _ _ _) ?_
                    refine ⟨fun h10285 => ?_, fun h10285 => ?_⟩
                    · refine ⟨fun h10286 => ?_, fun h10286 => ?_⟩
                      · have o10287 : ((-1) ≤ ((-1) : Int32).toInt) ∧ (((-1) : Int32).toInt ≤ 46) := by have := (by decide : (((-1) : Int32)).toInt = (-1)); exact ⟨by omega, by omega⟩
                        exact hQ _ _ hI10278 hF10283  o10287.1 o10287.2
                      · have o10288 : ((-1) ≤ ys258_0.toInt) ∧ (ys258_0.toInt ≤ 46) := by have := (by decide : (((-1) : Int32)).toInt = (-1)); exact ⟨by omega, by omega⟩
                        exact hQ _ _ hI10278 hF10283  o10288.1 o10288.2
                    · have o10289 : ((-1) ≤ y258_1.toInt) ∧ (y258_1.toInt ≤ 46) := by have := (by decide : (((-1) : Int32)).toInt = (-1)); exact ⟨by omega, by omega⟩
                      exact hQ _ _ hI10278 hF10283  o10289.1 o10289.2
                  · refine Eq.mpr (q_Tx_meaning_395.eq_1 _ _ _ _ _) ?_
                    refine ⟨fun h10290 => ?_, fun h10290 => ?_⟩
                    · refine ⟨fun h10291 => ?_, fun h10291 => ?_⟩
                      · have o10292 : ((-1) ≤ (46 : Int32).toInt) ∧ ((46 : Int32).toInt ≤ 46) := by have := (by decide : ((46 : Int32)).toInt = 46); exact ⟨by omega, by omega⟩
                        exact hQ _ _ hI10278 hF10283  o10292.1 o10292.2
                      · have o10293 : ((-1) ≤ ys258_0.toInt) ∧ (ys258_0.toInt ≤ 46) := by have := (by decide : (((-1) : Int32)).toInt = (-1)); exact ⟨by omega, by omega⟩
                        exact hQ _ _ hI10278 hF10283  o10293.1 o10293.2
                    · have o10294 : ((-1) ≤ y258_1.toInt) ∧ (y258_1.toInt ≤ 46) := by have := (by decide : (((-1) : Int32)).toInt = (-1)); exact ⟨by omega, by omega⟩
                      exact hQ _ _ hI10278 hF10283  o10294.1 o10294.2
                · refine Eq.mpr (q_Tx_meaning_395.eq_1 _ _ _ _ _) ?_
                  refine ⟨fun h10295 => ?_, fun h10295 => ?_⟩
                  · refine ⟨fun h10296 => ?_, fun h10296 => ?_⟩
                    · have o10297 : ((-1) ≤ (45 : Int32).toInt) ∧ ((45 : Int32).toInt ≤ 46) := by have := (by decide : ((45 : Int32)).toInt = 45); exact ⟨by omega, by omega⟩
                      exact hQ _ _ hI10269 hF10274  o10297.1 o10297.2
                    · have o10298 : ((-1) ≤ ys258_0.toInt) ∧ (ys258_0.toInt ≤ 46) := by have := (by decide : (((-1) : Int32)).toInt = (-1)); exact ⟨by omega, by omega⟩
                      exact hQ _ _ hI10269 hF10274  o10298.1 o10298.2
                  · have o10299 : ((-1) ≤ y258_1.toInt) ∧ (y258_1.toInt ≤ 46) := by have := (by decide : (((-1) : Int32)).toInt = (-1)); exact ⟨by omega, by omega⟩
                    exact hQ _ _ hI10269 hF10274  o10299.1 o10299.2
              · refine Eq.mpr (q_Tx_meaning_395.eq_1 _ _ _ _ _) ?_
                refine ⟨fun h10300 => ?_, fun h10300 => ?_⟩
                · refine ⟨fun h10301 => ?_, fun h10301 => ?_⟩
                  · have o10302 : ((-1) ≤ (44 : Int32).toInt) ∧ ((44 : Int32).toInt ≤ 46) := by have := (by decide : ((44 : Int32)).toInt = 44); exact ⟨by omega, by omega⟩
                    exact hQ _ _ hI10260 hF10265  o10302.1 o10302.2
                  · have o10303 : ((-1) ≤ ys258_0.toInt) ∧ (ys258_0.toInt ≤ 46) := by have := (by decide : (((-1) : Int32)).toInt = (-1)); exact ⟨by omega, by omega⟩
                    exact hQ _ _ hI10260 hF10265  o10303.1 o10303.2
                · have o10304 : ((-1) ≤ y258_1.toInt) ∧ (y258_1.toInt ≤ 46) := by have := (by decide : (((-1) : Int32)).toInt = (-1)); exact ⟨by omega, by omega⟩
                  exact hQ _ _ hI10260 hF10265  o10304.1 o10304.2
            · refine Eq.mpr (q_Tx_meaning_395.eq_1 _ _ _ _ _) ?_
              refine ⟨fun h10305 => ?_, fun h10305 => ?_⟩
              · refine ⟨fun h10306 => ?_, fun h10306 => ?_⟩
                · have o10307 : ((-1) ≤ (43 : Int32).toInt) ∧ ((43 : Int32).toInt ≤ 46) := by have := (by decide : ((43 : Int32)).toInt = 43); exact ⟨by omega, by omega⟩
                  exact hQ _ _ hI10251 hF10256  o10307.1 o10307.2
                · have o10308 : ((-1) ≤ ys258_0.toInt) ∧ (ys258_0.toInt ≤ 46) := by have := (by decide : (((-1) : Int32)).toInt = (-1)); exact ⟨by omega, by omega⟩
                  exact hQ _ _ hI10251 hF10256  o10308.1 o10308.2
              · have o10309 : ((-1) ≤ y258_1.toInt) ∧ (y258_1.toInt ≤ 46) := by have := (by decide : (((-1) : Int32)).toInt = (-1)); exact ⟨by omega, by omega⟩
                exact hQ _ _ hI10251 hF10256  o10309.1 o10309.2
          · refine Eq.mpr (q_Tx_meaning_395.eq_1 _ _ _ _ _) ?_
            refine ⟨fun h10310 => ?_, fun h10310 => ?_⟩
            · refine ⟨fun h10311 => ?_, fun h10311 => ?_⟩
              · have o10312 : ((-1) ≤ (42 : Int32).toInt) ∧ ((42 : Int32).toInt ≤ 46) := by have := (by decide : ((42 : Int32)).toInt = 42); exact ⟨by omega, by omega⟩
                exact hQ _ _ hI10242 hF10247  o10312.1 o10312.2
              · have o10313 : ((-1) ≤ ys258_0.toInt) ∧ (ys258_0.toInt ≤ 46) := by have := (by decide : (((-1) : Int32)).toInt = (-1)); exact ⟨by omega, by omega⟩
                exact hQ _ _ hI10242 hF10247  o10313.1 o10313.2
            · have o10314 : ((-1) ≤ y258_1.toInt) ∧ (y258_1.toInt ≤ 46) := by have := (by decide : (((-1) : Int32)).toInt = (-1)); exact ⟨by omega, by omega⟩
              exact hQ _ _ hI10242 hF10247  o10314.1 o10314.2
        · refine Eq.mpr (q_Tx_meaning_395.eq_1 _ _ _ _ _) ?_
          refine ⟨fun h10315 => ?_, fun h10315 => ?_⟩
          · refine ⟨fun h10316 => ?_, fun h10316 => ?_⟩
            · have o10317 : ((-1) ≤ (41 : Int32).toInt) ∧ ((41 : Int32).toInt ≤ 46) := by have := (by decide : ((41 : Int32)).toInt = 41); exact ⟨by omega, by omega⟩
              exact hQ _ _ hI10233 hF10238  o10317.1 o10317.2
            · have o10318 : ((-1) ≤ ys258_0.toInt) ∧ (ys258_0.toInt ≤ 46) := by have := (by decide : (((-1) : Int32)).toInt = (-1)); exact ⟨by omega, by omega⟩
              exact hQ _ _ hI10233 hF10238  o10318.1 o10318.2
          · have o10319 : ((-1) ≤ y258_1.toInt) ∧ (y258_1.toInt ≤ 46) := by have := (by decide : (((-1) : Int32)).toInt = (-1)); exact ⟨by omega, by omega⟩
            exact hQ _ _ hI10233 hF10238  o10319.1 o10319.2
      · refine Eq.mpr (q_Tx_meaning_395.eq_1 _ _ _ _ _) ?_
        refine ⟨fun h10320 => ?_, fun h10320 => ?_⟩
        · refine ⟨fun h10321 => ?_, fun h10321 => ?_⟩
          · have o10322 : ((-1) ≤ (40 : Int32).toInt) ∧ ((40 : Int32).toInt ≤ 46) := by have := (by decide : ((40 : Int32)).toInt = 40); exact ⟨by omega, by omega⟩
            exact hQ _ _ hI10224 hF10229  o10322.1 o10322.2
          · have o10323 : ((-1) ≤ ys258_0.toInt) ∧ (ys258_0.toInt ≤ 46) := by have := (by decide : (((-1) : Int32)).toInt = (-1)); exact ⟨by omega, by omega⟩
            exact hQ _ _ hI10224 hF10229  o10323.1 o10323.2
        · have o10324 : ((-1) ≤ y258_1.toInt) ∧ (y258_1.toInt ≤ 46) := by have := (by decide : (((-1) : Int32)).toInt = (-1)); exact ⟨by omega, by omega⟩
          exact hQ _ _ hI10224 hF10229  o10324.1 o10324.2
    · refine Eq.mpr (q_Tx_meaning_395.eq_1 _ _ _ _ _) ?_
      refine ⟨fun h10325 => ?_, fun h10325 => ?_⟩
      · refine ⟨fun h10326 => ?_, fun h10326 => ?_⟩
        · have o10327 : ((-1) ≤ (34 : Int32).toInt) ∧ ((34 : Int32).toInt ≤ 46) := by have := (by decide : ((34 : Int32)).toInt = 34); exact ⟨by omega, by omega⟩
          exact hQ _ _ hI10215 hF10220  o10327.1 o10327.2
        · have o10328 : ((-1) ≤ ys258_0.toInt) ∧ (ys258_0.toInt ≤ 46) := by have := (by decide : (((-1) : Int32)).toInt = (-1)); exact ⟨by omega, by omega⟩
          exact hQ _ _ hI10215 hF10220  o10328.1 o10328.2
      · have o10329 : ((-1) ≤ y258_1.toInt) ∧ (y258_1.toInt ≤ 46) := by have := (by decide : (((-1) : Int32)).toInt = (-1)); exact ⟨by omega, by omega⟩
        exact hQ _ _ hI10215 hF10220  o10329.1 o10329.2
  · refine Eq.mpr (q_Tx_meaning_395.eq_1 _ _ _ _ _) ?_
    refine ⟨fun h10330 => ?_, fun h10330 => ?_⟩
    · refine ⟨fun h10331 => ?_, fun h10331 => ?_⟩
      · have o10332 : ((-1) ≤ (33 : Int32).toInt) ∧ ((33 : Int32).toInt ≤ 46) := by have := (by decide : ((33 : Int32)).toInt = 33); exact ⟨by omega, by omega⟩
        exact hQ _ _ hI10206 hF10211  o10332.1 o10332.2
      · have o10333 : ((-1) ≤ ys258_0.toInt) ∧ (ys258_0.toInt ≤ 46) := by have := (by decide : (((-1) : Int32)).toInt = (-1)); exact ⟨by omega, by omega⟩
        exact hQ _ _ hI10206 hF10211  o10333.1 o10333.2
    · have o10334 : ((-1) ≤ y258_1.toInt) ∧ (y258_1.toInt ≤ 46) := by have := (by decide : (((-1) : Int32)).toInt = (-1)); exact ⟨by omega, by omega⟩
      exact hQ _ _ hI10206 hF10211  o10334.1 o10334.2
set_option maxRecDepth 20000 in
set_option maxHeartbeats 2000000 in
theorem hq_Tx_meaning_121 {ys121_0 : Int32} {w : MW} {Q : Int32 → MW → Prop} (hI : BND w) (hp0 : (-1) ≤ ys121_0.toInt) (hp1 : ys121_0.toInt ≤ 17) (hQ : ∀ (r : Int32) (w' : MW), BND w' → FR l_Tx_meaning_121 w w' → (-1) ≤ r.toInt → r.toInt ≤ 46 → Q r w') : q_Tx_meaning_121 ys121_0 w Q := by
  refine Eq.mpr (q_Tx_meaning_121.eq_1 _ _ _) ?_
  have o10335 : (99 ≤ (7041889 : Int64).toInt) ∧ ((7041889 : Int64).toInt ≤ 128047746676079) := by have := (by decide : ((7041889 : Int64)).toInt = 7041889); exact ⟨by omega, by omega⟩
  refine h_Tx_is hI  o10335.1 o10335.2 (fun r10339 w10336 hI10337 hL10338 p10340 p10341 => ?_)
  have hF10342 : FR l_Tx_meaning_121 w w10336 := (FR.refl _ w).tr hL10338 rfl
  refine ⟨fun h10343 => ?_, fun h10343 => ?_⟩
  · have o10344 : (99 ≤ (28516 : Int64).toInt) ∧ ((28516 : Int64).toInt ≤ 128047746676079) := by have := (by decide : ((28516 : Int64)).toInt = 28516); exact ⟨by omega, by omega⟩
    refine h_Tx_is hI10337  o10344.1 o10344.2 (fun r10348 w10345 hI10346 hL10347 p10349 p10350 => ?_)
    have hF10351 : FR l_Tx_meaning_121 w w10345 := hF10342.tr hL10347 rfl
    refine ⟨fun h10352 => ?_, fun h10352 => ?_⟩
    · have o10353 : (99 ≤ (1886352499 : Int64).toInt) ∧ ((1886352499 : Int64).toInt ≤ 128047746676079) := by have := (by decide : ((1886352499 : Int64)).toInt = 1886352499); exact ⟨by omega, by omega⟩
      refine h_Tx_is hI10346  o10353.1 o10353.2 (fun r10357 w10354 hI10355 hL10356 p10358 p10359 => ?_)
      have hF10360 : FR l_Tx_meaning_121 w w10354 := hF10351.tr hL10356 rfl
      refine ⟨fun h10361 => ?_, fun h10361 => ?_⟩
      · have o10362 : (99 ≤ (1684828008 : Int64).toInt) ∧ ((1684828008 : Int64).toInt ≤ 128047746676079) := by have := (by decide : ((1684828008 : Int64)).toInt = 1684828008); exact ⟨by omega, by omega⟩
        refine h_Tx_is hI10355  o10362.1 o10362.2 (fun r10366 w10363 hI10364 hL10365 p10367 p10368 => ?_)
        have hF10369 : FR l_Tx_meaning_121 w w10363 := hF10360.tr hL10365 rfl
        refine ⟨fun h10370 => ?_, fun h10370 => ?_⟩
        · have o10371 : (99 ≤ (7627617 : Int64).toInt) ∧ ((7627617 : Int64).toInt ≤ 128047746676079) := by have := (by decide : ((7627617 : Int64)).toInt = 7627617); exact ⟨by omega, by omega⟩
          refine h_Tx_is hI10364  o10371.1 o10371.2 (fun r10375 w10372 hI10373 hL10374 p10376 p10377 => ?_)
          have hF10378 : FR l_Tx_meaning_121 w w10372 := hF10369.tr hL10374 rfl
          refine ⟨fun h10379 => ?_, fun h10379 => ?_⟩
          · have o10380 : (99 ≤ (1885697139 : Int64).toInt) ∧ ((1885697139 : Int64).toInt ≤ 128047746676079) := by have := (by decide : ((1885697139 : Int64)).toInt = 1885697139); exact ⟨by omega, by omega⟩
            refine h_Tx_is hI10373  o10380.1 o10380.2 (fun r10384 w10381 hI10382 hL10383 p10385 p10386 => ?_)
            have hF10387 : FR l_Tx_meaning_121 w w10381 := hF10378.tr hL10383 rfl
            refine ⟨fun h10388 => ?_, fun h10388 => ?_⟩
            · have o10389 : (99 ≤ (119165719898483 : Int64).toInt) ∧ ((119165719898483 : Int64).toInt ≤ 128047746676079) := by have := (by decide : ((119165719898483 : Int64)).toInt = 119165719898483); exact ⟨by omega, by omega⟩
              refine h_Tx_is hI10382  o10389.1 o10389.2 (fun r10393 w10390 hI10391 hL10392 p10394 p10395 => ?_)
              have hF10396 : FR l_Tx_meaning_121 w w10390 := hF10387.tr hL10392 rfl
              refine ⟨fun h10397 => ?_, fun h10397 => ?_⟩
              · have o10398 : (99 ≤ (128047746676079 : Int64).toInt) ∧ ((128047746676079 : Int64).toInt ≤ 128047746676079) := by have := (by decide : ((128047746676079 : Int64)).toInt = 128047746676079); exact ⟨by omega, by omega⟩
                refine h_Tx_is hI10391  o10398.1 o10398.2 (fun r10402 w10399 hI10400 hL10401 p10403 p10404 => ?_)
                have hF10405 : FR l_Tx_meaning_121 w w10399 := hF10396.tr hL10401 rfl
                refine ⟨fun h10406 => ?_, fun h10406 => ?_⟩
                · have o10407 : (99 ≤ (28265 : Int64).toInt) ∧ ((28265 : Int64).toInt ≤ 128047746676079) := by have := (by decide : ((28265 : Int64)).toInt = 28265); exact ⟨by omega, by omega⟩
                  refine h_Tx_is hI10400  o10407.1 o10407.2 (fun r10411 w10408 hI10409 hL10410 p10412 p10413 => ?_)
                  have hF10414 : FR l_Tx_meaning_121 w w10408 := hF10405.tr hL10410 rfl
                  refine ⟨fun h10415 => ?_, fun h10415 => ?_⟩
                  · have o10416 : ((-1) ≤ ys121_0.toInt) ∧ (ys121_0.toInt ≤ 17) ∧ ((-1) ≤ ((-1) : Int32).toInt) ∧ (((-1) : Int32).toInt ≤ 32) := by have := (by decide : (((-1) : Int32)).toInt = (-1)); exact ⟨by omega, by omega, by omega, by omega⟩
                    exact hq_Tx_meaning_258 hI10409  o10416.1 o10416.2.1 o10416.2.2.1 o10416.2.2.2 (fun r w9 hI9 hF9 q0 q1 => hQ r w9 hI9 (hF10414.tr hF9 rfl) (by have := (by decide : (((-1) : Int32)).toInt = (-1)); omega) (by have := (by decide : (((-1) : Int32)).toInt = (-1)); omega))
                  · have o10417 : ((-1) ≤ ys121_0.toInt) ∧ (ys121_0.toInt ≤ 17) ∧ ((-1) ≤ (32 : Int32).toInt) ∧ ((32 : Int32).toInt ≤ 32) := by have := (by decide : ((32 : Int32)).toInt = 32); exact ⟨by omega, by omega, by omega, by omega⟩
                    exact hq_Tx_meaning_258 hI10409  o10417.1 o10417.2.1 o10417.2.2.1 o10417.2.2.2 (fun r w9 hI9 hF9 q0 q1 => hQ r w9 hI9 (hF10414.tr hF9 rfl) (by have := (by decide : ((32 : Int32)).toInt = 32); omega) (by have := (by decide : ((32 : Int32)).toInt = 32); omega))
                · have o10418 : ((-1) ≤ ys121_0.toInt) ∧ (ys121_0.toInt ≤ 17) ∧ ((-1) ≤ (31 : Int32).toInt) ∧ ((31 : Int32).toInt ≤ 32) := by have := (by decide : ((31 : Int32)).toInt = 31); exact ⟨by omega, by omega, by omega, by omega⟩
                  exact hq_Tx_meaning_258 hI10400  o10418.1 o10418.2.1 o10418.2.2.1 o10418.2.2.2 (fun r w9 hI9 hF9 q0 q1 => hQ r w9 hI9 (hF10405.tr hF9 rfl) (by have := (by decide : ((31 : Int32)).toInt = 31); omega) (by have := (by decide : ((31 : Int32)).toInt = 31); omega))
              · have o10419 : ((-1) ≤ ys121_0.toInt) ∧ (ys121_0.toInt ≤ 17) ∧ ((-1) ≤ (30 : Int32).toInt) ∧ ((30 : Int32).toInt ≤ 32) := by have := (by decide : ((30 : Int32)).toInt = 30); exact ⟨by omega, by omega, by omega, by omega⟩
                exact hq_Tx_meaning_258 hI10391  o10419.1 o10419.2.1 o10419.2.2.1 o10419.2.2.2 (fun r w9 hI9 hF9 q0 q1 => hQ r w9 hI9 (hF10396.tr hF9 rfl) (by have := (by decide : ((30 : Int32)).toInt = 30); omega) (by have := (by decide : ((30 : Int32)).toInt = 30); omega))
            · have o10420 : ((-1) ≤ ys121_0.toInt) ∧ (ys121_0.toInt ≤ 17) ∧ ((-1) ≤ (24 : Int32).toInt) ∧ ((24 : Int32).toInt ≤ 32) := by have := (by decide : ((24 : Int32)).toInt = 24); exact ⟨by omega, by omega, by omega, by omega⟩
              exact hq_Tx_meaning_258 hI10382  o10420.1 o10420.2.1 o10420.2.2.1 o10420.2.2.2 (fun r w9 hI9 hF9 q0 q1 => hQ r w9 hI9 (hF10387.tr hF9 rfl) (by have := (by decide : ((24 : Int32)).toInt = 24); omega) (by have := (by decide : ((24 : Int32)).toInt = 24); omega))
          · have o10421 : ((-1) ≤ ys121_0.toInt) ∧ (ys121_0.toInt ≤ 17) ∧ ((-1) ≤ (22 : Int32).toInt) ∧ ((22 : Int32).toInt ≤ 32) := by have := (by decide : ((22 : Int32)).toInt = 22); exact ⟨by omega, by omega, by omega, by omega⟩
            exact hq_Tx_meaning_258 hI10373  o10421.1 o10421.2.1 o10421.2.2.1 o10421.2.2.2 (fun r w9 hI9 hF9 q0 q1 => hQ r w9 hI9 (hF10378.tr hF9 rfl) (by have := (by decide : ((22 : Int32)).toInt = 22); omega) (by have := (by decide : ((22 : Int32)).toInt = 22); omega))
        · have o10422 : ((-1) ≤ ys121_0.toInt) ∧ (ys121_0.toInt ≤ 17) ∧ ((-1) ≤ (21 : Int32).toInt) ∧ ((21 : Int32).toInt ≤ 32) := by have := (by decide : ((21 : Int32)).toInt = 21); exact ⟨by omega, by omega, by omega, by omega⟩
          exact hq_Tx_meaning_258 hI10364  o10422.1 o10422.2.1 o10422.2.2.1 o10422.2.2.2 (fun r w9 hI9 hF9 q0 q1 => hQ r w9 hI9 (hF10369.tr hF9 rfl) (by have := (by decide : ((21 : Int32)).toInt = 21); omega) (by have := (by decide : ((21 : Int32)).toInt = 21); omega))
      · have o10423 : ((-1) ≤ ys121_0.toInt) ∧ (ys121_0.toInt ≤ 17) ∧ ((-1) ≤ (20 : Int32).toInt) ∧ ((20 : Int32).toInt ≤ 32) := by have := (by decide : ((20 : Int32)).toInt = 20); exact ⟨by omega, by omega, by omega, by omega⟩
        exact hq_Tx_meaning_258 hI10355  o10423.1 o10423.2.1 o10423.2.2.1 o10423.2.2.2 (fun r w9 hI9 hF9 q0 q1 => hQ r w9 hI9 (hF10360.tr hF9 rfl) (by have := (by decide : ((20 : Int32)).toInt = 20); omega) (by have := (by decide : ((20 : Int32)).toInt = 20); omega))
    · have o10424 : ((-1) ≤ ys121_0.toInt) ∧ (ys121_0.toInt ≤ 17) ∧ ((-1) ≤ (19 : Int32).toInt) ∧ ((19 : Int32).toInt ≤ 32) := by have := (by decide : ((19 : Int32)).toInt = 19); exact ⟨by omega, by omega, by omega, by omega⟩
      exact hq_Tx_meaning_258 hI10346  o10424.1 o10424.2.1 o10424.2.2.1 o10424.2.2.2 (fun r w9 hI9 hF9 q0 q1 => hQ r w9 hI9 (hF10351.tr hF9 rfl) (by have := (by decide : ((19 : Int32)).toInt = 19); omega) (by have := (by decide : ((19 : Int32)).toInt = 19); omega))
  · have o10425 : ((-1) ≤ ys121_0.toInt) ∧ (ys121_0.toInt ≤ 17) ∧ ((-1) ≤ (18 : Int32).toInt) ∧ ((18 : Int32).toInt ≤ 32) := by have := (by decide : ((18 : Int32)).toInt = 18); exact ⟨by omega, by omega, by omega, by omega⟩
    exact hq_Tx_meaning_258 hI10337  o10425.1 o10425.2.1 o10425.2.2.1 o10425.2.2.2 (fun r w9 hI9 hF9 q0 q1 => hQ r w9 hI9 (hF10342.tr hF9 rfl) (by have := (by decide : ((18 : Int32)).toInt = 18); omega) (by have := (by decide : ((18 : Int32)).toInt = 18); omega))
set_option maxRecDepth 20000 in
set_option maxHeartbeats 2000000 in
theorem h_Tx_meaning {w : MW} {Q : Int32 → MW → Prop} (hI : BND w)  (hQ : ∀ (r : Int32) (w' : MW), BND w' → FR l_Tx_meaning w w' → (-1) ≤ r.toInt → r.toInt ≤ 46 → Q r w') : p_Tx_meaning w Q := by
  refine Eq.mpr (p_Tx_meaning.eq_1 _ _) ?_
  have o10426 : (99 ≤ (7628147 : Int64).toInt) ∧ ((7628147 : Int64).toInt ≤ 128047746676079) := by have := (by decide : ((7628147 : Int64)).toInt = 7628147); exact ⟨by omega, by omega⟩
  refine h_Tx_is hI  o10426.1 o10426.2 (fun r10430 w10427 hI10428 hL10429 p10431 p10432 => ?_)
  have hF10433 : FR l_Tx_meaning w w10427 := (FR.refl _ w).tr hL10429 rfl
  refine ⟨fun h10434 => ?_, fun h10434 => ?_⟩
  · have o10435 : (99 ≤ (1953063287 : Int64).toInt) ∧ ((1953063287 : Int64).toInt ≤ 128047746676079) := by have := (by decide : ((1953063287 : Int64)).toInt = 1953063287); exact ⟨by omega, by omega⟩
    refine h_Tx_is hI10428  o10435.1 o10435.2 (fun r10439 w10436 hI10437 hL10438 p10440 p10441 => ?_)
    have hF10442 : FR l_Tx_meaning w w10436 := hF10433.tr hL10438 rfl
    refine ⟨fun h10443 => ?_, fun h10443 => ?_⟩
    · have o10444 : (99 ≤ (465625706101 : Int64).toInt) ∧ ((465625706101 : Int64).toInt ≤ 128047746676079) := by have := (by decide : ((465625706101 : Int64)).toInt = 465625706101); exact ⟨by omega, by omega⟩
      refine h_Tx_is hI10437  o10444.1 o10444.2 (fun r10448 w10445 hI10446 hL10447 p10449 p10450 => ?_)
      have hF10451 : FR l_Tx_meaning w w10445 := hF10442.tr hL10447 rfl
      refine ⟨fun h10452 => ?_, fun h10452 => ?_⟩
      · have o10453 : (99 ≤ (1886216562 : Int64).toInt) ∧ ((1886216562 : Int64).toInt ≤ 128047746676079) := by have := (by decide : ((1886216562 : Int64)).toInt = 1886216562); exact ⟨by omega, by omega⟩
        refine h_Tx_is hI10446  o10453.1 o10453.2 (fun r10457 w10454 hI10455 hL10456 p10458 p10459 => ?_)
        have hF10460 : FR l_Tx_meaning w w10454 := hF10451.tr hL10456 rfl
        refine ⟨fun h10461 => ?_, fun h10461 => ?_⟩
        · have o10462 : (99 ≤ (7496048 : Int64).toInt) ∧ ((7496048 : Int64).toInt ≤ 128047746676079) := by have := (by decide : ((7496048 : Int64)).toInt = 7496048); exact ⟨by omega, by omega⟩
          refine h_Tx_is hI10455  o10462.1 o10462.2 (fun r10466 w10463 hI10464 hL10465 p10467 p10468 => ?_)
          have hF10469 : FR l_Tx_meaning w w10463 := hF10460.tr hL10465 rfl
          refine ⟨fun h10470 => ?_, fun h10470 => ?_⟩
          · have o10471 : (99 ≤ (26217 : Int64).toInt) ∧ ((26217 : Int64).toInt ≤ 128047746676079) := by have := (by decide : ((26217 : Int64)).toInt = 26217); exact ⟨by omega, by omega⟩
            refine h_Tx_is hI10464  o10471.1 o10471.2 (fun r10475 w10472 hI10473 hL10474 p10476 p10477 => ?_)
            have hF10478 : FR l_Tx_meaning w w10472 := hF10469.tr hL10474 rfl
            refine ⟨fun h10479 => ?_, fun h10479 => ?_⟩
            · have o10480 : (99 ≤ (127961662514546 : Int64).toInt) ∧ ((127961662514546 : Int64).toInt ≤ 128047746676079) := by have := (by decide : ((127961662514546 : Int64)).toInt = 127961662514546); exact ⟨by omega, by omega⟩
              refine h_Tx_is hI10473  o10480.1 o10480.2 (fun r10484 w10481 hI10482 hL10483 p10485 p10486 => ?_)
              have hF10487 : FR l_Tx_meaning w w10481 := hF10478.tr hL10483 rfl
              refine ⟨fun h10488 => ?_, fun h10488 => ?_⟩
              · have o10489 : (99 ≤ (499984984428 : Int64).toInt) ∧ ((499984984428 : Int64).toInt ≤ 128047746676079) := by have := (by decide : ((499984984428 : Int64)).toInt = 499984984428); exact ⟨by omega, by omega⟩
                refine h_Tx_is hI10482  o10489.1 o10489.2 (fun r10493 w10490 hI10491 hL10492 p10494 p10495 => ?_)
                have hF10496 : FR l_Tx_meaning w w10490 := hF10487.tr hL10492 rfl
                refine ⟨fun h10497 => ?_, fun h10497 => ?_⟩
                · have o10498 : ((-1) ≤ ((-1) : Int32).toInt) ∧ (((-1) : Int32).toInt ≤ 17) := by have := (by decide : (((-1) : Int32)).toInt = (-1)); exact ⟨by omega, by omega⟩
                  exact hq_Tx_meaning_121 hI10491  o10498.1 o10498.2 (fun r w9 hI9 hF9 q0 q1 => hQ r w9 hI9 (hF10496.tr hF9 rfl) (by have := (by decide : (((-1) : Int32)).toInt = (-1)); omega) (by have := (by decide : (((-1) : Int32)).toInt = (-1)); omega))
                · have o10499 : ((-1) ≤ (17 : Int32).toInt) ∧ ((17 : Int32).toInt ≤ 17) := by have := (by decide : ((17 : Int32)).toInt = 17); exact ⟨by omega, by omega⟩
                  exact hq_Tx_meaning_121 hI10491  o10499.1 o10499.2 (fun r w9 hI9 hF9 q0 q1 => hQ r w9 hI9 (hF10496.tr hF9 rfl) (by have := (by decide : ((17 : Int32)).toInt = 17); omega) (by have := (by decide : ((17 : Int32)).toInt = 17); omega))
              · have o10500 : ((-1) ≤ (16 : Int32).toInt) ∧ ((16 : Int32).toInt ≤ 17) := by have := (by decide : ((16 : Int32)).toInt = 16); exact ⟨by omega, by omega⟩
                exact hq_Tx_meaning_121 hI10482  o10500.1 o10500.2 (fun r w9 hI9 hF9 q0 q1 => hQ r w9 hI9 (hF10487.tr hF9 rfl) (by have := (by decide : ((16 : Int32)).toInt = 16); omega) (by have := (by decide : ((16 : Int32)).toInt = 16); omega))
            · have o10501 : ((-1) ≤ (15 : Int32).toInt) ∧ ((15 : Int32).toInt ≤ 17) := by have := (by decide : ((15 : Int32)).toInt = 15); exact ⟨by omega, by omega⟩
              exact hq_Tx_meaning_121 hI10473  o10501.1 o10501.2 (fun r w9 hI9 hF9 q0 q1 => hQ r w9 hI9 (hF10478.tr hF9 rfl) (by have := (by decide : ((15 : Int32)).toInt = 15); omega) (by have := (by decide : ((15 : Int32)).toInt = 15); omega))
          · have o10502 : ((-1) ≤ (14 : Int32).toInt) ∧ ((14 : Int32).toInt ≤ 17) := by have := (by decide : ((14 : Int32)).toInt = 14); exact ⟨by omega, by omega⟩
            exact hq_Tx_meaning_121 hI10464  o10502.1 o10502.2 (fun r w9 hI9 hF9 q0 q1 => hQ r w9 hI9 (hF10469.tr hF9 rfl) (by have := (by decide : ((14 : Int32)).toInt = 14); omega) (by have := (by decide : ((14 : Int32)).toInt = 14); omega))
        · have o10503 : ((-1) ≤ (13 : Int32).toInt) ∧ ((13 : Int32).toInt ≤ 17) := by have := (by decide : ((13 : Int32)).toInt = 13); exact ⟨by omega, by omega⟩
          exact hq_Tx_meaning_121 hI10455  o10503.1 o10503.2 (fun r w9 hI9 hF9 q0 q1 => hQ r w9 hI9 (hF10460.tr hF9 rfl) (by have := (by decide : ((13 : Int32)).toInt = 13); omega) (by have := (by decide : ((13 : Int32)).toInt = 13); omega))
      · have o10504 : ((-1) ≤ (12 : Int32).toInt) ∧ ((12 : Int32).toInt ≤ 17) := by have := (by decide : ((12 : Int32)).toInt = 12); exact ⟨by omega, by omega⟩
        exact hq_Tx_meaning_121 hI10446  o10504.1 o10504.2 (fun r w9 hI9 hF9 q0 q1 => hQ r w9 hI9 (hF10451.tr hF9 rfl) (by have := (by decide : ((12 : Int32)).toInt = 12); omega) (by have := (by decide : ((12 : Int32)).toInt = 12); omega))
    · have o10505 : ((-1) ≤ (11 : Int32).toInt) ∧ ((11 : Int32).toInt ≤ 17) := by have := (by decide : ((11 : Int32)).toInt = 11); exact ⟨by omega, by omega⟩
      exact hq_Tx_meaning_121 hI10437  o10505.1 o10505.2 (fun r w9 hI9 hF9 q0 q1 => hQ r w9 hI9 (hF10442.tr hF9 rfl) (by have := (by decide : ((11 : Int32)).toInt = 11); omega) (by have := (by decide : ((11 : Int32)).toInt = 11); omega))
  · have o10506 : ((-1) ≤ (10 : Int32).toInt) ∧ ((10 : Int32).toInt ≤ 17) := by have := (by decide : ((10 : Int32)).toInt = 10); exact ⟨by omega, by omega⟩
    exact hq_Tx_meaning_121 hI10428  o10506.1 o10506.2 (fun r w9 hI9 hF9 q0 q1 => hQ r w9 hI9 (hF10433.tr hF9 rfl) (by have := (by decide : ((10 : Int32)).toInt = 10); omega) (by have := (by decide : ((10 : Int32)).toInt = 10); omega))
