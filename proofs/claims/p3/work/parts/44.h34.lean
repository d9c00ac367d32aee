def l_Mo_held_2 : Pl := []
def l_Mo_held : Pl := []
set_option maxRecDepth 20000 in
set_option maxHeartbeats 2000000 in
theorem hq_Mo_held_2 {x2_1 : Int32} {E : MW → Prop} {Q : Int32 → MW → Prop} (n : Nat) : ∀ (x2_2 : Int32) (w : MW), BND w → 0 ≤ x2_1.toInt → x2_1.toInt ≤ 19 → 0 ≤ x2_2.toInt → x2_2.toInt ≤ 24 → (24 - x2_2.toInt).toNat < n → (∀ (w' : MW), BND w' → FR l_Mo_held_2 w w' → E w') → (∀ (r : Int32) (w' : MW), BND w' → FR l_Mo_held_2 w w' → 0 ≤ r.toInt → r.toInt ≤ 9 → Q r w') → q_Mo_held_2 x2_1 E Q n x2_2 w := by
  induction n with
  | zero => intros; omega
  | succ n ih =>
    intro x2_2 w hI  hp0 hp1 hp2 hp3 hm hE hQ
    rw [q_Mo_held_2.eq_2]
    refine ⟨fun h8896 => ?_, fun h8896 => ?_⟩
    · exact hE _ hI (FR.refl _ w)
    · have o8897 : 0 ≤ (((20 : Int32) * x2_2) + x2_1).toInt ∧ (((20 : Int32) * x2_2) + x2_1).toInt < 480 := by have := bd_127_26 hI; have := ti_mul2 (by decide : ((20 : Int32)).toInt = 20) (Eq.refl x2_2.toInt) (by omega) (by omega); have := ti_add2 (Eq.refl ((20 : Int32) * x2_2).toInt) (Eq.refl x2_1.toInt) (by omega) (by omega); omega
      refine ⟨o8897, ?_⟩
      refine ⟨fun h8898 => ?_, fun h8898 => ?_⟩
      · have o8899 : (0 ≤ x2_1.toInt) ∧ (x2_1.toInt ≤ 19) ∧ (0 ≤ (x2_2 + (1 : Int32)).toInt) ∧ ((x2_2 + (1 : Int32)).toInt ≤ 24) := by have := bd_127_26 hI; have := ti_add2 (Eq.refl x2_2.toInt) (by decide : ((1 : Int32)).toInt = 1) (by omega) (by omega); exact ⟨by omega, by omega, by omega, by omega⟩
        exact ih _ w hI  o8899.1 o8899.2.1 o8899.2.2.1 o8899.2.2.2 (by have := bd_127_26 hI; have := ti_add2 (Eq.refl x2_2.toInt) (by decide : ((1 : Int32)).toInt = 1) (by omega) (by omega); omega) (fun w9 hI9 hF9 => hE w9 hI9 ((FR.refl _ w).tr hF9 rfl) ) (fun r w9 hI9 hF9 q0 q1 => hQ r w9 hI9 ((FR.refl _ w).tr hF9 rfl) (by have := bd_127_26 hI; have := ti_add2 (Eq.refl x2_2.toInt) (by decide : ((1 : Int32)).toInt = 1) (by omega) (by omega); omega) (by have := bd_127_26 hI; have := ti_add2 (Eq.refl x2_2.toInt) (by decide : ((1 : Int32)).toInt = 1) (by omega) (by omega); omega))
      · have o8900 : 0 ≤ (((20 : Int32) * x2_2) + x2_1).toInt ∧ (((20 : Int32) * x2_2) + x2_1).toInt < 480 := by have := bd_127_26 hI; have := ti_mul2 (by decide : ((20 : Int32)).toInt = 20) (Eq.refl x2_2.toInt) (by omega) (by omega); have := ti_add2 (Eq.refl ((20 : Int32) * x2_2).toInt) (Eq.refl x2_1.toInt) (by omega) (by omega); omega
        refine ⟨o8900, ?_⟩
        have o8901 : (0 ≤ (w.1 187 ((((20 : Int32) * x2_2) + x2_1).toInt.toNat)).toInt) ∧ ((w.1 187 ((((20 : Int32) * x2_2) + x2_1).toInt.toNat)).toInt ≤ 9) := by have := bd_187 hI ((((20 : Int32) * x2_2) + x2_1).toInt.toNat); have := (by decide : (((-1) : Int32)).toInt = (-1)); exact ⟨by omega, by omega⟩
        exact hQ _ _ hI (FR.refl _ w)  o8901.1 o8901.2
set_option maxRecDepth 20000 in
set_option maxHeartbeats 2000000 in
theorem h_Mo_held {w : MW} {a0 : Int32} {Q : Int32 → MW → Prop} (hI : BND w) (hp0 : 0 ≤ a0.toInt) (hp1 : a0.toInt ≤ 19) (hQ : ∀ (r : Int32) (w' : MW), BND w' → FR l_Mo_held w w' → (-1) ≤ r.toInt → r.toInt ≤ 9 → Q r w') : p_Mo_held w a0 Q := by
  refine Eq.mpr (p_Mo_held.eq_1 _ _ _) ?_
  have o8902 : (0 ≤ a0.toInt) ∧ (a0.toInt ≤ 19) ∧ (0 ≤ (0 : Int32).toInt) ∧ ((0 : Int32).toInt ≤ 24) := by have := (by decide : ((0 : Int32)).toInt = 0); exact ⟨by omega, by omega, by omega, by omega⟩
  refine hq_Mo_held_2 FU _ w hI  o8902.1 o8902.2.1 o8902.2.2.1 o8902.2.2.2 (fu_lt (by have := (by decide : ((0 : Int32)).toInt = 0); omega)) (fun w8903 hI8904 hL8905  => ?_) (fun r w9 hI9 hF9 q0 q1 => hQ r w9 hI9 (((FR.refl _ w)).tr hF9 rfl) (by have := (by decide : ((0 : Int32)).toInt = 0); omega) (by have := (by decide : ((0 : Int32)).toInt = 0); omega))
  have hF8906 : FR l_Mo_held w w8903 := (FR.refl _ w).tr hL8905 rfl
  have o8907 : ((-1) ≤ ((-1) : Int32).toInt) ∧ (((-1) : Int32).toInt ≤ 9) := by have := (by decide : (((-1) : Int32)).toInt = (-1)); exact ⟨by omega, by omega⟩
  exact hQ _ _ hI8904 hF8906  o8907.1 o8907.2
def l_Mo_close_40 : Pl := [(167, none), (187, none)]
def l_Mo_close_2 : Pl := [(167, none), (187, none)]
def l_Mo_close_177 : Pl := [(186, none)]
def l_Mo_close_215 : Pl := [(187, none)]
def l_Mo_close_95 : Pl := [(181, none), (182, none), (183, none), (184, none), (185, none), (186, none), (187, none)]
def l_Mo_close : Pl := [(127, some 26), (167, none), (181, none), (182, none), (183, none), (184, none), (185, none), (186, none), (187, none)]
def CK2 (z : MW) (w : MW) : Prop := BND w ∧ FR l_Mo_close z w ∧ FT w ∧ HW w ∧ w.1 127 26 = z.1 127 26
theorem hw_187m {w : MW} {i : Nat} (h : HW w) : HW (sI w 187 i (-1)) := by
  refine ⟨fun k k0 k1 => row_mv (w := w) (k := k) rfl (fun _ => rfl) rfl (fun _ _ _ => rfl) (fun t t0 t1 => ?_) (h.1 k k0 k1), fun k l k0 k1 l0 l1 kl => h.2 k l k0 k1 l0 l1 kl⟩
  rcases sI_case w 187 (20 * k.toInt + t).toNat i (-1) with ⟨_, q⟩ | ⟨_, q⟩
  · rw [q]; exact Or.inl i_m1
  · exact Or.inr q
theorem cl_40a {z w : MW} {j : Nat} (hK : CK2 z w) : CK2 z (sI w 187 j (-1)) := by
  obtain ⟨hI, hF, hT, hH, h26⟩ := hK
  exact ⟨wbd_187 hI _ (by decide) (by decide), FR.I hF rfl, FT_fr (l := [(187, none)]) (FR.I (FR.refl _ w) rfl) rfl hT, hw_187m hH, (sI_oth _ _ _ _ _ _ (by decide)).trans h26⟩
theorem cl_40b {z w : MW} {j : Nat} {v : Int32} (v0 : 0 ≤ v.toInt) (v1 : v.toInt ≤ 9) (hK : CK2 z w) : CK2 z (sI w 167 j v) := by
  obtain ⟨hI, hF, hT, hH, h26⟩ := hK
  exact ⟨wbd_167 hI _ v0 v1, FR.I hF rfl, FT_fr (l := [(167, none)]) (FR.I (FR.refl _ _) rfl) rfl hT, HW_fr (l := [(167, none)]) (FR.I (FR.refl _ _) rfl) rfl hH, (sI_oth _ _ _ _ _ _ (by decide)).trans h26⟩
theorem cl_40 {z w : MW} {k x f : Int32} {A : Int32 → MW → Prop} {E Q : MW → Prop} (k0 : 0 ≤ k.toInt) (k1 : k.toInt ≤ 23) (x0 : 0 ≤ x.toInt) (x1 : x.toInt < 20) (hK : CK2 z w) (hA : ∀ w', CK2 z w' → A (x + (1 : Int32)) w') : q_Mo_close_40 k x f w A E Q := by
  refine Eq.mpr (q_Mo_close_40.eq_1 _ _ _ _ _ _ _) ?_
  have e1 := ti_mul2 (by decide : ((20 : Int32)).toInt = 20) (Eq.refl k.toInt) (by omega) (by omega)
  have e2 := ti_add2 e1 (Eq.refl x.toInt) (by omega) (by omega)
  have hx : 0 ≤ (((20 : Int32) * k) + x).toInt ∧ (((20 : Int32) * k) + x).toInt < 480 := by omega
  have hK1 := cl_40a (j := (((20 : Int32) * k) + x).toInt.toNat) hK
  generalize sI w 187 ((((20 : Int32) * k) + x).toInt.toNat) (-1) = w1 at *
  refine ⟨hx, fun _ => hA _ hK1, fun _ => ?_⟩
  refine h_Mo_held hK1.1 x0 (by omega) (fun r w' hI' hF' _ _ => ?_)
  obtain rfl := fr_nil hF' rfl
  exact ⟨fun _ => hA _ hK1, fun _ => ⟨⟨x0, x1⟩, fun _ => ⟨⟨x0, x1⟩, hA _ (cl_40b (by decide) (by decide) hK1)⟩, fun _ => ⟨⟨x0, x1⟩, hA _ (cl_40b (by decide) (by decide) hK1)⟩⟩⟩
theorem cl_2 {z : MW} {k : Int32} {E Q : MW → Prop} (k0 : 0 ≤ k.toInt) (k1 : k.toInt ≤ 23) (hE : ∀ w, CK2 z w → E w) (n : Nat) : ∀ (x : Int32) (w : MW), CK2 z w → 0 ≤ x.toInt → x.toInt ≤ 20 → (20 - x.toInt).toNat < n → q_Mo_close_2 k E Q n x w := by
  induction n with
  | zero => intros; omega
  | succ n ih =>
    intro x w hK x0 x1 hm
    rw [q_Mo_close_2.eq_2]
    have b4 := bd_127_4 hK.1
    refine ⟨fun _ => hE w hK, fun c => ?_⟩
    have e1 := ti_mul2 (by decide : ((20 : Int32)).toInt = 20) (Eq.refl k.toInt) (by omega) (by omega)
    have e2 := ti_add2 e1 (Eq.refl x.toInt) (by omega) (by omega)
    have e3 := ti_add2 (Eq.refl x.toInt) (by decide : ((1 : Int32)).toInt = 1) (by omega) (by omega)
    have go : ∀ f : Int32, q_Mo_close_40 k x f w (fun (x2_2 : Int32) (w : MW) => q_Mo_close_2 k E Q n x2_2 w) E Q := fun f => cl_40 k0 k1 x0 (by omega) hK (fun w' hK' => ih _ w' hK' (by omega) (by omega) (by omega))
    exact ⟨⟨by omega, by omega⟩, fun _ => go 0, fun _ => ⟨⟨x0, by omega⟩, fun _ => go 0, fun _ => go 1⟩⟩
theorem cl_177 {s : MW} {v : Int32} {E Q : MW → Prop} (v0 : 0 ≤ v.toInt) (v1 : v.toInt ≤ 22) (hE : ∀ w, BND w → FR [(186, none)] s w → (∀ j : Nat, w.1 186 j = if 24 * v.toInt ≤ (j : Int) ∧ (j : Int) < 24 * v.toInt + 24 then s.1 186 (j + 24) else s.1 186 j) → E w) (n : Nat) : ∀ (x : Int32) (w : MW), BND w → FR [(186, none)] s w → (∀ j : Nat, w.1 186 j = if 24 * v.toInt ≤ (j : Int) ∧ (j : Int) < 24 * v.toInt + x.toInt then s.1 186 (j + 24) else s.1 186 j) → 0 ≤ x.toInt → x.toInt ≤ 24 → (24 - x.toInt).toNat < n → q_Mo_close_177 v E Q n x w := by
  induction n with
  | zero => intros; omega
  | succ n ih =>
    intro x w hI hF hJ x0 x1 hm
    rw [q_Mo_close_177.eq_2]
    refine ⟨fun c => hE w hI hF (fun j => ?_), fun c => ?_⟩
    · have e : x.toInt = 24 := by omega
      rw [hJ j, e]
    · have s1 := ti_add2 (Eq.refl v.toInt) (by decide : ((1 : Int32)).toInt = 1) (by omega) (by omega)
      have s2 := ti_mul2 (by decide : ((24 : Int32)).toInt = 24) s1 (by omega) (by omega)
      have s3 := ti_add2 s2 (Eq.refl x.toInt) (by omega) (by omega)
      have t1 := ti_mul2 (by decide : ((24 : Int32)).toInt = 24) (Eq.refl v.toInt) (by omega) (by omega)
      have t2 := ti_add2 t1 (Eq.refl x.toInt) (by omega) (by omega)
      have e3 := ti_add2 (Eq.refl x.toInt) (by decide : ((1 : Int32)).toInt = 1) (by omega) (by omega)
      have b := bd_186 hI ((((24 : Int32) * (v + (1 : Int32))) + x).toInt.toNat)
      refine ⟨⟨by omega, by omega⟩, ⟨by omega, by omega⟩, ih _ _ (wbd_186 hI _ b.1 b.2) (FR.I hF rfl) (fun j => ?_) (by omega) (by omega) (by omega)⟩
      rw [e3, sI_at]
      by_cases cj : j = (((24 : Int32) * v) + x).toInt.toNat
      · have e9 : (((24 : Int32) * (v + (1 : Int32))) + x).toInt.toNat = j + 24 := by omega
        rw [if_pos ⟨rfl, cj⟩, if_pos (by omega), hJ, if_neg (by omega), e9]
      · rw [if_neg (fun q => cj q.2), hJ j]
        by_cases cr : 24 * v.toInt ≤ (j : Int) ∧ (j : Int) < 24 * v.toInt + x.toInt
        · rw [if_pos cr, if_pos (by omega)]
        · rw [if_neg cr, if_neg (by omega)]
theorem cl_215 {s : MW} {v : Int32} {E Q : MW → Prop} (v0 : 0 ≤ v.toInt) (v1 : v.toInt ≤ 22) (hE : ∀ w, BND w → FR [(187, none)] s w → (∀ j : Nat, w.1 187 j = if 20 * v.toInt ≤ (j : Int) ∧ (j : Int) < 20 * v.toInt + 20 then s.1 187 (j + 20) else s.1 187 j) → E w) (n : Nat) : ∀ (x : Int32) (w : MW), BND w → FR [(187, none)] s w → (∀ j : Nat, w.1 187 j = if 20 * v.toInt ≤ (j : Int) ∧ (j : Int) < 20 * v.toInt + x.toInt then s.1 187 (j + 20) else s.1 187 j) → 0 ≤ x.toInt → x.toInt ≤ 20 → (20 - x.toInt).toNat < n → q_Mo_close_215 v E Q n x w := by
  induction n with
  | zero => intros; omega
  | succ n ih =>
    intro x w hI hF hJ x0 x1 hm
    rw [q_Mo_close_215.eq_2]
    refine ⟨fun c => hE w hI hF (fun j => ?_), fun c => ?_⟩
    · have e : x.toInt = 20 := by omega
      rw [hJ j, e]
    · have s1 := ti_add2 (Eq.refl v.toInt) (by decide : ((1 : Int32)).toInt = 1) (by omega) (by omega)
      have s2 := ti_mul2 (by decide : ((20 : Int32)).toInt = 20) s1 (by omega) (by omega)
      have s3 := ti_add2 s2 (Eq.refl x.toInt) (by omega) (by omega)
      have t1 := ti_mul2 (by decide : ((20 : Int32)).toInt = 20) (Eq.refl v.toInt) (by omega) (by omega)
      have t2 := ti_add2 t1 (Eq.refl x.toInt) (by omega) (by omega)
      have e3 := ti_add2 (Eq.refl x.toInt) (by decide : ((1 : Int32)).toInt = 1) (by omega) (by omega)
      have b := bd_187 hI ((((20 : Int32) * (v + (1 : Int32))) + x).toInt.toNat)
      refine ⟨⟨by omega, by omega⟩, ⟨by omega, by omega⟩, ih _ _ (wbd_187 hI _ b.1 b.2) (FR.I hF rfl) (fun j => ?_) (by omega) (by omega) (by omega)⟩
      rw [e3, sI_at]
      by_cases cj : j = (((20 : Int32) * v) + x).toInt.toNat
      · have e9 : (((20 : Int32) * (v + (1 : Int32))) + x).toInt.toNat = j + 20 := by omega
        rw [if_pos ⟨rfl, cj⟩, if_pos (by omega), hJ, if_neg (by omega), e9]
      · rw [if_neg (fun q => cj q.2), hJ j]
        by_cases cr : 20 * v.toInt ≤ (j : Int) ∧ (j : Int) < 20 * v.toInt + x.toInt
        · rw [if_pos cr, if_pos (by omega)]
        · rw [if_neg cr, if_neg (by omega)]
/-- rows are good, and but for v their first pipes differ -/
def SH (v : Int) (w : MW) : Prop := (∀ k : Int32, 0 ≤ k.toInt → k.toInt < (w.1 127 26).toInt → RowH w k) ∧ (∀ k l : Int32, 0 ≤ k.toInt → k.toInt < (w.1 127 26).toInt → 0 ≤ l.toInt → l.toInt < (w.1 127 26).toInt → ¬ k.toInt = l.toInt → ¬ k.toInt = v → ¬ l.toInt = v → ¬ Fst w k = Fst w l)
theorem cl_95 {z : MW} {E Q : MW → Prop} (hE : ∀ w, BND w → FR l_Mo_close z w → FT w → w.1 127 26 = z.1 127 26 → SH ((z.1 127 26).toInt - 1) w → E w) (n : Nat) : ∀ (v : Int32) (w : MW), BND w → FR l_Mo_close z w → FT w → w.1 127 26 = z.1 127 26 → SH v.toInt w → 0 ≤ v.toInt → v.toInt < (z.1 127 26).toInt → (24 - v.toInt).toNat < n → q_Mo_close_95 E Q n v w := by
  induction n with
  | zero => intros; omega
  | succ n ih =>
    intro v w hI hF hT h26 hS v0 v1 hm
    rw [q_Mo_close_95.eq_2]
    have b26 := bd_127_26 hI
    rw [h26] at b26
    have s1 := ti_add2 (Eq.refl v.toInt) (by decide : ((1 : Int32)).toInt = 1) (by omega) (by omega)
    refine ⟨fun c => hE w hI hF hT h26 ?_, fun c => ?_⟩
    · rw [h26] at c
      have e : (z.1 127 26).toInt - 1 = v.toInt := by omega
      rw [e]
      exact hS
    rw [h26] at c
    have a1 : 0 ≤ (v + (1 : Int32)).toInt ∧ (v + (1 : Int32)).toInt < 24 := by omega
    have a2 : 0 ≤ v.toInt ∧ v.toInt < 24 := by omega
    refine ⟨a1, a2, a1, a2, a1, a2, a1, a2, a1, a2, ?_⟩
    have b1 := bd_181 hI (v + (1 : Int32)).toInt.toNat
    have b2 := bd_182 hI (v + (1 : Int32)).toInt.toNat
    have b3 := bd_183 hI (v + (1 : Int32)).toInt.toNat
    have b4 := bd_184 hI (v + (1 : Int32)).toInt.toNat
    have b5 := bd_185 hI (v + (1 : Int32)).toInt.toNat
    have ht := hT (v + (1 : Int32)) (by omega) (by rw [h26]; omega)
    have hI5 : BND (sI (sI (sI (sI (sI w 181 v.toInt.toNat (w.1 181 ((v + (1 : Int32)).toInt.toNat))) 182 v.toInt.toNat (w.1 182 ((v + (1 : Int32)).toInt.toNat))) 183 v.toInt.toNat (w.1 183 ((v + (1 : Int32)).toInt.toNat))) 184 v.toInt.toNat (w.1 184 ((v + (1 : Int32)).toInt.toNat))) 185 v.toInt.toNat (w.1 185 ((v + (1 : Int32)).toInt.toNat))) := wbd_185 (wbd_184 (wbd_183 (wbd_182 (wbd_181 hI _ b1.1 b1.2) _ b2.1 b2.2) _ b3.1 b3.2) _ b4.1 b4.2) _ b5.1 b5.2
    have hF5 : FR l_Mo_close z (sI (sI (sI (sI (sI w 181 v.toInt.toNat (w.1 181 ((v + (1 : Int32)).toInt.toNat))) 182 v.toInt.toNat (w.1 182 ((v + (1 : Int32)).toInt.toNat))) 183 v.toInt.toNat (w.1 183 ((v + (1 : Int32)).toInt.toNat))) 184 v.toInt.toNat (w.1 184 ((v + (1 : Int32)).toInt.toNat))) 185 v.toInt.toNat (w.1 185 ((v + (1 : Int32)).toInt.toNat))) := FR.I (FR.I (FR.I (FR.I (FR.I hF rfl) rfl) rfl) rfl) rfl
    have hT5 : FT (sI (sI (sI (sI (sI w 181 v.toInt.toNat (w.1 181 ((v + (1 : Int32)).toInt.toNat))) 182 v.toInt.toNat (w.1 182 ((v + (1 : Int32)).toInt.toNat))) 183 v.toInt.toNat (w.1 183 ((v + (1 : Int32)).toInt.toNat))) 184 v.toInt.toNat (w.1 184 ((v + (1 : Int32)).toInt.toNat))) 185 v.toInt.toNat (w.1 185 ((v + (1 : Int32)).toInt.toNat))) := by
      have h1 : FT (sI w 181 v.toInt.toNat (w.1 181 ((v + (1 : Int32)).toInt.toNat))) := hT
      have h2 : FT (sI (sI w 181 v.toInt.toNat (w.1 181 ((v + (1 : Int32)).toInt.toNat))) 182 v.toInt.toNat (w.1 182 ((v + (1 : Int32)).toInt.toNat))) := ft_182 h1 ht
      exact h2
    have q26 : (sI (sI (sI (sI (sI w 181 v.toInt.toNat (w.1 181 ((v + (1 : Int32)).toInt.toNat))) 182 v.toInt.toNat (w.1 182 ((v + (1 : Int32)).toInt.toNat))) 183 v.toInt.toNat (w.1 183 ((v + (1 : Int32)).toInt.toNat))) 184 v.toInt.toNat (w.1 184 ((v + (1 : Int32)).toInt.toNat))) 185 v.toInt.toNat (w.1 185 ((v + (1 : Int32)).toInt.toNat))).1 127 26 = w.1 127 26 := rfl
    have q11 : (sI (sI (sI (sI (sI w 181 v.toInt.toNat (w.1 181 ((v + (1 : Int32)).toInt.toNat))) 182 v.toInt.toNat (w.1 182 ((v + (1 : Int32)).toInt.toNat))) 183 v.toInt.toNat (w.1 183 ((v + (1 : Int32)).toInt.toNat))) 184 v.toInt.toNat (w.1 184 ((v + (1 : Int32)).toInt.toNat))) 185 v.toInt.toNat (w.1 185 ((v + (1 : Int32)).toInt.toNat))).1 127 11 = w.1 127 11 := rfl
    have q170 : ∀ j, (sI (sI (sI (sI (sI w 181 v.toInt.toNat (w.1 181 ((v + (1 : Int32)).toInt.toNat))) 182 v.toInt.toNat (w.1 182 ((v + (1 : Int32)).toInt.toNat))) 183 v.toInt.toNat (w.1 183 ((v + (1 : Int32)).toInt.toNat))) 184 v.toInt.toNat (w.1 184 ((v + (1 : Int32)).toInt.toNat))) 185 v.toInt.toNat (w.1 185 ((v + (1 : Int32)).toInt.toNat))).1 170 j = w.1 170 j := fun _ => rfl
    have q186 : ∀ j, (sI (sI (sI (sI (sI w 181 v.toInt.toNat (w.1 181 ((v + (1 : Int32)).toInt.toNat))) 182 v.toInt.toNat (w.1 182 ((v + (1 : Int32)).toInt.toNat))) 183 v.toInt.toNat (w.1 183 ((v + (1 : Int32)).toInt.toNat))) 184 v.toInt.toNat (w.1 184 ((v + (1 : Int32)).toInt.toNat))) 185 v.toInt.toNat (w.1 185 ((v + (1 : Int32)).toInt.toNat))).1 186 j = w.1 186 j := fun _ => rfl
    have q187 : ∀ j, (sI (sI (sI (sI (sI w 181 v.toInt.toNat (w.1 181 ((v + (1 : Int32)).toInt.toNat))) 182 v.toInt.toNat (w.1 182 ((v + (1 : Int32)).toInt.toNat))) 183 v.toInt.toNat (w.1 183 ((v + (1 : Int32)).toInt.toNat))) 184 v.toInt.toNat (w.1 184 ((v + (1 : Int32)).toInt.toNat))) 185 v.toInt.toNat (w.1 185 ((v + (1 : Int32)).toInt.toNat))).1 187 j = w.1 187 j := fun _ => rfl
    have q185 : ∀ j, (sI (sI (sI (sI (sI w 181 v.toInt.toNat (w.1 181 ((v + (1 : Int32)).toInt.toNat))) 182 v.toInt.toNat (w.1 182 ((v + (1 : Int32)).toInt.toNat))) 183 v.toInt.toNat (w.1 183 ((v + (1 : Int32)).toInt.toNat))) 184 v.toInt.toNat (w.1 184 ((v + (1 : Int32)).toInt.toNat))) 185 v.toInt.toNat (w.1 185 ((v + (1 : Int32)).toInt.toNat))).1 185 j = if j = v.toInt.toNat then w.1 185 ((v + (1 : Int32)).toInt.toNat) else w.1 185 j := by
      intro j
      rw [sI_at]
      by_cases cj : j = v.toInt.toNat
      · rw [if_pos ⟨rfl, cj⟩, if_pos cj]
      · rw [if_neg (fun q => cj q.2), if_neg cj]
        rfl
    generalize (sI (sI (sI (sI (sI w 181 v.toInt.toNat (w.1 181 ((v + (1 : Int32)).toInt.toNat))) 182 v.toInt.toNat (w.1 182 ((v + (1 : Int32)).toInt.toNat))) 183 v.toInt.toNat (w.1 183 ((v + (1 : Int32)).toInt.toNat))) 184 v.toInt.toNat (w.1 184 ((v + (1 : Int32)).toInt.toNat))) 185 v.toInt.toNat (w.1 185 ((v + (1 : Int32)).toInt.toNat))) = w5 at *
    refine cl_177 (s := w5) v0 (by omega) (fun w6 hI6 hF6 hJ6 => ?_) FU 0 w5 hI5 (FR.refl _ w5) (fun j => by rw [i_0, if_neg (by omega)]) (by decide) (by decide) (fu_lt (by decide))
    refine cl_215 (s := w6) v0 (by omega) (fun w7 hI7 hF7 hJ7 => ?_) FU 0 w6 hI6 (FR.refl _ w6) (fun j => by rw [i_0, if_neg (by omega)]) (by decide) (by decide) (fu_lt (by decide))
    have g26 : w7.1 127 26 = w.1 127 26 := ((hF7 127 26 rfl).1.trans (hF6 127 26 rfl).1).trans q26
    have g11 : w7.1 127 11 = w.1 127 11 := ((hF7 127 11 rfl).1.trans (hF6 127 11 rfl).1).trans q11
    have g170 : ∀ j, w7.1 170 j = w.1 170 j := fun j => ((hF7 170 j rfl).1.trans (hF6 170 j rfl).1).trans (q170 j)
    have g185 : ∀ j, w7.1 185 j = if j = v.toInt.toNat then w.1 185 ((v + (1 : Int32)).toInt.toNat) else w.1 185 j := fun j => ((hF7 185 j rfl).1.trans (hF6 185 j rfl).1).trans (q185 j)
    have g186 : ∀ j : Nat, w7.1 186 j = if 24 * v.toInt ≤ (j : Int) ∧ (j : Int) < 24 * v.toInt + 24 then w.1 186 (j + 24) else w.1 186 j := fun j => by rw [(hF7 186 j rfl).1, hJ6 j, q186, q186]
    have g187 : ∀ j : Nat, w7.1 187 j = if 20 * v.toInt ≤ (j : Int) ∧ (j : Int) < 20 * v.toInt + 20 then w.1 187 (j + 20) else w.1 187 j := fun j => by rw [hJ7 j, (hF6 187 _ rfl).1, (hF6 187 _ rfl).1, q187, q187]
    have hT7 : FT w7 := FT_fr hF7 rfl (FT_fr hF6 rfl hT5)
    have fst_v : Fst w7 v = Fst w (v + (1 : Int32)) := by
      unfold Fst
      rw [g186, if_pos (by omega)]
      have e : (24 * v.toInt).toNat + 24 = (24 * (v + (1 : Int32)).toInt).toNat := by omega
      rw [e]
    have fst_o : ∀ k : Int32, 0 ≤ k.toInt → ¬ k.toInt = v.toInt → Fst w7 k = Fst w k := by
      intro k k0 kv
      unfold Fst
      rw [g186, if_neg (by omega)]
    refine ih (v + (1 : Int32)) w7 hI7 ((hF5.tr hF6 rfl).tr hF7 rfl) hT7 (g26.trans h26) ⟨fun k k0 k1 => ?_, fun k l k0 k1 l0 l1 kl kv lv => ?_⟩ (by omega) (by omega) (by omega)
    · rw [g26] at k1
      by_cases ck : k.toInt = v.toInt
      · have q : k = v := Int32.toInt_inj.mp ck
        subst q
        refine row_mv (w := w) (k := k + (1 : Int32)) g11 g170 (by rw [g185, if_pos rfl]) (fun i i0 i1 => ?_) (fun t t0 t1 => Or.inr ?_) (hS.1 _ (by omega) (by rw [h26]; omega))
        · rw [g186, if_pos (by omega)]
          have e : (24 * k.toInt + i).toNat + 24 = (24 * (k + (1 : Int32)).toInt + i).toNat := by omega
          rw [e]
        · rw [g187, if_pos (by omega)]
          have e : (20 * k.toInt + t).toNat + 20 = (20 * (k + (1 : Int32)).toInt + t).toNat := by omega
          rw [e]
      · refine row_mv (w := w) (k := k) g11 g170 (by rw [g185, if_neg (by omega)]) (fun i i0 i1 => ?_) (fun t t0 t1 => Or.inr ?_) (hS.1 k k0 k1)
        · rw [g186, if_neg (by omega)]
        · rw [g187, if_neg (by omega)]
    · rw [g26] at k1 l1
      by_cases ck : k.toInt = v.toInt
      · have q : k = v := Int32.toInt_inj.mp ck
        subst q
        rw [fst_v, fst_o l l0 (fun q => kl q.symm)]
        exact hS.2 _ l (by omega) (by rw [h26]; omega) l0 l1 (fun q => lv q.symm) (by omega) (fun q => kl q.symm)
      · by_cases cl : l.toInt = v.toInt
        · have q : l = v := Int32.toInt_inj.mp cl
          subst q
          rw [fst_v, fst_o k k0 ck]
          exact hS.2 k _ k0 k1 (by omega) (by rw [h26]; omega) kv ck (by omega)
        · rw [fst_o k k0 ck, fst_o l l0 cl]
          exact hS.2 k l k0 k1 l0 l1 kl ck cl
theorem h_Mo_close {w : MW} {a0 : Int32} {Q : MW → Prop} (hI : BND w) (hf_FT : FT w) (hf_HW : HW w) (hp0 : 0 ≤ a0.toInt) (hp1 : a0.toInt ≤ 23) (hp2 : a0.toInt < (w.1 127 26).toInt) (hQ : ∀ (w' : MW), BND w' → FR l_Mo_close w w' → FT w' → HW w' → (w'.1 127 26).toInt = (w.1 127 26).toInt - 1 → Q w') : p_Mo_close w a0 Q := by
  refine Eq.mpr (p_Mo_close.eq_1 _ _ _) ?_
  have b26 := bd_127_26 hI
  refine cl_2 (z := w) hp0 hp1 (fun w14 hK => ?_) FU 0 w ⟨hI, FR.refl _ w, hf_FT, hf_HW, rfl⟩ (by decide) (by decide) (fu_lt (by decide))
  obtain ⟨hI1, hF1, hT1, hH1, h26⟩ := hK
  refine cl_95 (z := w) (fun w34 hI2 hF2 hT2 h262 hS => ?_) FU a0 w14 hI1 hF1 hT1 h26 ⟨hH1.1, fun k l k0 k1 l0 l1 kl _ _ => hH1.2 k l k0 k1 l0 l1 kl⟩ hp0 hp2 (fu_lt (by omega))
  have e := ti_sub2 (Eq.refl (w34.1 127 26).toInt) (by decide : ((1 : Int32)).toInt = 1) (by rw [h262]; omega) (by rw [h262]; omega)
  have e2 : (w34.1 127 26).toInt = (w.1 127 26).toInt := by rw [h262]
  have a1 : (sI w34 127 26 ((w34.1 127 26) - (1 : Int32))).1 127 26 = (w34.1 127 26) - (1 : Int32) := rfl
  refine hQ _ (wbd_127_26 hI2 (by omega) (by omega)) (FR.I hF2 rfl) (ft_less hT2 (by omega)) ⟨fun k k0 k1 => ?_, fun k l k0 k1 l0 l1 kl => ?_⟩ (by rw [a1]; omega)
  · rw [a1] at k1
    exact row_mv (w := w34) (k := k) rfl (fun _ => rfl) rfl (fun _ _ _ => rfl) (fun _ _ _ => Or.inr rfl) (hS.1 k k0 (by omega))
  · rw [a1] at k1 l1
    exact hS.2 k l k0 (by omega) l0 (by omega) kl (by omega) (by omega)
def l_Mo_closeAll_0 : Pl := [(127, some 26), (167, none), (181, none), (182, none), (183, none), (184, none), (185, none), (186, none), (187, none)]
def l_Mo_closeAll : Pl := [(127, some 26), (167, none), (181, none), (182, none), (183, none), (184, none), (185, none), (186, none), (187, none)]
set_option maxRecDepth 20000 in
set_option maxHeartbeats 2000000 in
theorem hq_Mo_closeAll_0 {E : MW → Prop} {Q : MW → Prop} (n : Nat) : ∀ (w : MW), BND w → FT w → HW w → ((w.1 127 26).toInt - 0).toNat < n → (∀ (w' : MW), BND w' → FR l_Mo_closeAll_0 w w' → FT w' → HW w' → E w') → (∀ (w' : MW), BND w' → FR l_Mo_closeAll_0 w w' → FT w' → HW w' → False → Q w') → q_Mo_closeAll_0 E Q n w := by
  induction n with
  | zero => intros; omega
  | succ n ih =>
    intro w hI hf_FT hf_HW  hm hE hQ
    rw [q_Mo_closeAll_0.eq_2]
    refine ⟨fun h8908 => ?_, fun h8908 => ?_⟩
    · exact hE _ hI (FR.refl _ w) hf_FT hf_HW
    · have o8909 : (0 ≤ ((w.1 127 26) - (1 : Int32)).toInt) ∧ (((w.1 127 26) - (1 : Int32)).toInt ≤ 23) ∧ (((w.1 127 26) - (1 : Int32)).toInt < (w.1 127 26).toInt) := by have := bd_127_26 hI; have := (by decide : ((0 : Int32)).toInt = 0); have := ti_sub2 (Eq.refl (w.1 127 26).toInt) (by decide : ((1 : Int32)).toInt = 1) (by omega) (by omega); exact ⟨by omega, by omega, by omega⟩
      refine h_Mo_close hI hf_FT hf_HW o8909.1 o8909.2.1 o8909.2.2 (fun w8910 hI8911 hL8912 hlw8910_FT hlw8910_HW p8914 => ?_)
      have hF8915 : FR l_Mo_closeAll_0 w w8910 := (FR.refl _ w).tr hL8912 rfl
      exact ih w8910 hI8911 hlw8910_FT hlw8910_HW  (by have := bd_127_26 hI8911; have := bd_127_26 hI; have := (by decide : ((0 : Int32)).toInt = 0); omega) (fun w9 hI9 hF9 hl9_FT hl9_HW => hE w9 hI9 (hF8915.tr hF9 rfl) hl9_FT hl9_HW ) (fun w9 hI9 hF9 hl9_FT hl9_HW q0 => q0.elim)
set_option maxRecDepth 20000 in
set_option maxHeartbeats 2000000 in
theorem h_Mo_closeAll {w : MW} {Q : MW → Prop} (hI : BND w) (hf_FT : FT w) (hf_HW : HW w)  (hQ : ∀ (w' : MW), BND w' → FR l_Mo_closeAll w w' → FT w' → HW w' → Q w') : p_Mo_closeAll w Q := by
  refine Eq.mpr (p_Mo_closeAll.eq_1 _ _) ?_
  refine hq_Mo_closeAll_0 FU w hI hf_FT hf_HW  (fu_lt (by have := bd_127_26 hI; omega)) (fun w8916 hI8917 hL8918 hlw8916_FT hlw8916_HW  => ?_) (fun w9 hI9 hF9 hl9_FT hl9_HW q0 => q0.elim)
  have hF8919 : FR l_Mo_closeAll w w8916 := (FR.refl _ w).tr hL8918 rfl
  exact hQ _ hI8917 hF8919 hlw8916_FT hlw8916_HW 
def l_Mo_forget_2 : Pl := [(174, none)]
def l_Mo_forget : Pl := [(174, none)]
set_option maxRecDepth 20000 in
set_option maxHeartbeats 2000000 in
theorem hq_Mo_forget_2 {x2_1 : Int32} {E : MW → Prop} {Q : MW → Prop} (n : Nat) : ∀ (x2_2 : Int32) (w : MW), BND w → 0 ≤ x2_1.toInt → x2_1.toInt ≤ 43 → 0 ≤ x2_2.toInt → x2_2.toInt ≤ 6 → (6 - x2_2.toInt).toNat < n → (∀ (w' : MW), BND w' → FR l_Mo_forget_2 w w' → E w') → (∀ (w' : MW), BND w' → FR l_Mo_forget_2 w w' → False → Q w') → q_Mo_forget_2 x2_1 E Q n x2_2 w := by
  induction n with
  | zero => intros; omega
  | succ n ih =>
    intro x2_2 w hI  hp0 hp1 hp2 hp3 hm hE hQ
    rw [q_Mo_forget_2.eq_2]
    refine ⟨fun h8920 => ?_, fun h8920 => ?_⟩
    · exact hE _ hI (FR.refl _ w)
    · have o8921 : 0 ≤ (((6 : Int32) * x2_1) + x2_2).toInt ∧ (((6 : Int32) * x2_1) + x2_2).toInt < 264 := by have := (by decide : ((6 : Int32)).toInt = 6); have := ti_mul2 (by decide : ((6 : Int32)).toInt = 6) (Eq.refl x2_1.toInt) (by omega) (by omega); have := ti_add2 (Eq.refl ((6 : Int32) * x2_1).toInt) (Eq.refl x2_2.toInt) (by omega) (by omega); omega
      refine ⟨o8921, ?_⟩
      have hI8922 : BND (sI w 174 ((((6 : Int32) * x2_1) + x2_2).toInt.toNat) (-1)) := wbd_174 hI ((((6 : Int32) * x2_1) + x2_2).toInt.toNat)
      have o8923 : (0 ≤ x2_1.toInt) ∧ (x2_1.toInt ≤ 43) ∧ (0 ≤ (x2_2 + (1 : Int32)).toInt) ∧ ((x2_2 + (1 : Int32)).toInt ≤ 6) := by have := (by decide : ((6 : Int32)).toInt = 6); have := ti_add2 (Eq.refl x2_2.toInt) (by decide : ((1 : Int32)).toInt = 1) (by omega) (by omega); exact ⟨by omega, by omega, by omega, by omega⟩
      exact ih _ (sI w 174 ((((6 : Int32) * x2_1) + x2_2).toInt.toNat) (-1)) hI8922  o8923.1 o8923.2.1 o8923.2.2.1 o8923.2.2.2 (by have := (by decide : ((6 : Int32)).toInt = 6); have := ti_add2 (Eq.refl x2_2.toInt) (by decide : ((1 : Int32)).toInt = 1) (by omega) (by omega); omega) (fun w9 hI9 hF9 => hE w9 hI9 ((FR.I (FR.refl _ w) (k := 174) (j := (((6 : Int32) * x2_1) + x2_2).toInt.toNat) (v := (-1)) rfl).tr hF9 rfl) ) (fun w9 hI9 hF9 q0 => q0.elim)
set_option maxRecDepth 20000 in
set_option maxHeartbeats 2000000 in
theorem h_Mo_forget {w : MW} {a0 : Int32} {Q : MW → Prop} (hI : BND w) (hp0 : 0 ≤ a0.toInt) (hp1 : a0.toInt ≤ 43) (hQ : ∀ (w' : MW), BND w' → FR l_Mo_forget w w' → Q w') : p_Mo_forget w a0 Q := by
  refine Eq.mpr (p_Mo_forget.eq_1 _ _ _) ?_
  have o8924 : (0 ≤ a0.toInt) ∧ (a0.toInt ≤ 43) ∧ (0 ≤ (0 : Int32).toInt) ∧ ((0 : Int32).toInt ≤ 6) := by have := (by decide : ((0 : Int32)).toInt = 0); exact ⟨by omega, by omega, by omega, by omega⟩
  refine hq_Mo_forget_2 FU _ w hI  o8924.1 o8924.2.1 o8924.2.2.1 o8924.2.2.2 (fu_lt (by have := (by decide : ((0 : Int32)).toInt = 0); omega)) (fun w8925 hI8926 hL8927  => ?_) (fun w9 hI9 hF9 q0 => q0.elim)
  have hF8928 : FR l_Mo_forget w w8925 := (FR.refl _ w).tr hL8927 rfl
  exact hQ _ hI8926 hF8928 
def l_Mo_isNew_255 : Pl := [(127, some 86), (180, none)]
def l_Mo_isNew_214 : Pl := [(127, some 86), (180, none)]
def l_Mo_isNew_187 : Pl := [(127, some 86), (180, none)]
def l_Mo_isNew_91 : Pl := [(127, some 85), (179, none), (180, none)]
def l_Mo_isNew_61 : Pl := [(127, some 85), (179, none), (180, none)]
def l_Mo_isNew_40 : Pl := [(127, some 85), (179, none), (180, none)]
def l_Mo_isNew : Pl := [(127, some 85), (127, some 86), (179, none), (180, none)]
set_option maxRecDepth 20000 in
set_option maxHeartbeats 2000000 in
theorem hq_Mo_isNew_214 {y214_2 : Int32} {y214_3 : Int32} {y214_4 : Int32} {w : MW} {Q : Int32 → MW → Prop} (hI : BND w) (hp0 : (-2) ≤ y214_2.toInt) (hp1 : y214_2.toInt ≤ 19) (hp2 : (-2) ≤ y214_3.toInt) (hp3 : y214_3.toInt ≤ 19) (hp4 : 0 ≤ y214_4.toInt) (hp5 : y214_4.toInt ≤ 1) (hp6 : (w.1 127 86).toInt < 24) (hQ : ∀ (r : Int32) (w' : MW), BND w' → FR l_Mo_isNew_214 w w' → 0 ≤ r.toInt → r.toInt ≤ 1 → Q r w') : q_Mo_isNew_214 y214_2 y214_3 y214_4 w Q := by
  refine Eq.mpr (q_Mo_isNew_214.eq_1 _ _ _ _ _) ?_
  refine ⟨fun h8929 => ?_, fun h8929 => ?_⟩
  · refine ⟨fun h8930 => ?_, fun h8930 => ?_⟩
    · refine Eq.mpr (q_Mo_isNew_255.eq_1 _ _ _) ?_
      refine ⟨fun _ => ?_, fun h => absurd h8929 h⟩
      have o8932 : 0 ≤ ((w.1 127 86) + (1 : Int32)).toInt ∧ ((w.1 127 86) + (1 : Int32)).toInt ≤ 24 := by have := bd_127_86 hI; have := ti_add2 (Eq.refl (w.1 127 86).toInt) (by decide : ((1 : Int32)).toInt = 1) (by omega) (by omega); omega
      have hI8931 : BND (sI w 127 86 ((w.1 127 86) + (1 : Int32))) := wbd_127_86 hI o8932.1 o8932.2
      have o8933 : (0 ≤ (1 : Int32).toInt) ∧ ((1 : Int32).toInt ≤ 1) := by have := (by decide : ((1 : Int32)).toInt = 1); exact ⟨by omega, by omega⟩
      exact hQ _ _ hI8931 (FR.I (FR.refl _ w) (k := 127) (j := 86) (v := ((w.1 127 86) + (1 : Int32))) rfl)  o8933.1 o8933.2
    · have o8934 : 0 ≤ y214_2.toInt ∧ y214_2.toInt < 20 := by have := (by decide : ((0 : Int32)).toInt = 0); omega
      refine ⟨o8934, ?_⟩
      have o8935 : 0 ≤ y214_2.toInt ∧ y214_2.toInt < 20 := by have := (by decide : ((0 : Int32)).toInt = 0); omega
      refine ⟨o8935, ?_⟩
      refine Eq.mpr (q_Mo_isNew_255.eq_1 _ _ _) ?_
      refine ⟨fun _ => ?_, fun h => absurd h8929 h⟩
      have hI8936 : BND (sI w 180 y214_2.toInt.toNat ((w.1 180 y214_2.toInt.toNat) + (1 : Int32))) := wbd_180 hI y214_2.toInt.toNat
      have o8938 : 0 ≤ (((sI w 180 y214_2.toInt.toNat ((w.1 180 y214_2.toInt.toNat) + (1 : Int32))).1 127 86) + (1 : Int32)).toInt ∧ (((sI w 180 y214_2.toInt.toNat ((w.1 180 y214_2.toInt.toNat) + (1 : Int32))).1 127 86) + (1 : Int32)).toInt ≤ 24 := by have := bd_127_86 hI; have : ((sI w 180 y214_2.toInt.toNat ((w.1 180 y214_2.toInt.toNat) + (1 : Int32))).1 127 86).toInt = (w.1 127 86).toInt := rfl; have := ti_add2 (Eq.refl ((sI w 180 y214_2.toInt.toNat ((w.1 180 y214_2.toInt.toNat) + (1 : Int32))).1 127 86).toInt) (by decide : ((1 : Int32)).toInt = 1) (by omega) (by omega); omega
      have hI8937 : BND (sI (sI w 180 y214_2.toInt.toNat ((w.1 180 y214_2.toInt.toNat) + (1 : Int32))) 127 86 (((sI w 180 y214_2.toInt.toNat ((w.1 180 y214_2.toInt.toNat) + (1 : Int32))).1 127 86) + (1 : Int32))) := wbd_127_86 hI8936 o8938.1 o8938.2
      have o8939 : (0 ≤ (1 : Int32).toInt) ∧ ((1 : Int32).toInt ≤ 1) := by have := (by decide : ((1 : Int32)).toInt = 1); exact ⟨by omega, by omega⟩
      exact hQ _ _ hI8937 (FR.I (FR.I (FR.refl _ w) (k := 180) (j := y214_2.toInt.toNat) (v := ((w.1 180 y214_2.toInt.toNat) + (1 : Int32))) rfl) (k := 127) (j := 86) (v := (((sI w 180 y214_2.toInt.toNat ((w.1 180 y214_2.toInt.toNat) + (1 : Int32))).1 127 86) + (1 : Int32))) rfl)  o8939.1 o8939.2
  · have o8940 : 0 ≤ y214_3.toInt ∧ y214_3.toInt < 20 := by have := (by decide : ((0 : Int32)).toInt = 0); omega
    refine ⟨o8940, ?_⟩
    have o8941 : 0 ≤ y214_3.toInt ∧ y214_3.toInt < 20 := by have := (by decide : ((0 : Int32)).toInt = 0); omega
    refine ⟨o8941, ?_⟩
    refine Eq.mpr (p_Mo_room.eq_1 _ _ _) ?_
    refine ⟨fun h8942 => ?_, fun h8942 => ?_⟩
    · refine ⟨fun h8943 => ?_, fun h8943 => ?_⟩
      · refine ⟨fun h8944 => ?_, fun h8944 => ?_⟩
        · refine ⟨fun h8945 => ?_, fun h8945 => ?_⟩
          · replace h8945 : ((w.1 180 y214_3.toInt.toNat) + y214_4).toInt < 3 := h8945
            refine ⟨fun h8946 => ?_, fun h8946 => ?_⟩
            · refine Eq.mpr (q_Mo_isNew_255.eq_1 _ _ _) ?_
              refine ⟨fun h => absurd h h8929, fun _ => ?_⟩
              have o8947 : 0 ≤ y214_3.toInt ∧ y214_3.toInt < 20 := by have := (by decide : ((0 : Int32)).toInt = 0); omega
              refine ⟨o8947, ?_⟩
              have o8948 : 0 ≤ y214_3.toInt ∧ y214_3.toInt < 20 := by have := (by decide : ((0 : Int32)).toInt = 0); omega
              refine ⟨o8948, ?_⟩
              have hI8949 : BND (sI w 180 y214_3.toInt.toNat ((w.1 180 y214_3.toInt.toNat) + (1 : Int32))) := wbd_180 hI y214_3.toInt.toNat
              have o8951 : 0 ≤ ((w.1 127 86) + (1 : Int32)).toInt ∧ ((w.1 127 86) + (1 : Int32)).toInt ≤ 24 := by have := bd_127_86 hI; have := ti_add2 (Eq.refl (w.1 127 86).toInt) (by decide : ((1 : Int32)).toInt = 1) (by omega) (by omega); omega
              have hI8950 : BND (sI (sI w 180 y214_3.toInt.toNat ((w.1 180 y214_3.toInt.toNat) + (1 : Int32))) 127 86 ((w.1 127 86) + (1 : Int32))) := wbd_127_86 hI8949 o8951.1 o8951.2
              have o8952 : (0 ≤ (1 : Int32).toInt) ∧ ((1 : Int32).toInt ≤ 1) := by have := (by decide : ((1 : Int32)).toInt = 1); exact ⟨by omega, by omega⟩
              exact hQ _ _ hI8950 (FR.I (FR.I (FR.refl _ w) (k := 180) (j := y214_3.toInt.toNat) (v := ((w.1 180 y214_3.toInt.toNat) + (1 : Int32))) rfl) (k := 127) (j := 86) (v := ((w.1 127 86) + (1 : Int32))) rfl)  o8952.1 o8952.2
            · have o8953 : 0 ≤ y214_2.toInt ∧ y214_2.toInt < 20 := by have := (by decide : ((0 : Int32)).toInt = 0); omega
              refine ⟨o8953, ?_⟩
              have o8954 : 0 ≤ y214_2.toInt ∧ y214_2.toInt < 20 := by have := (by decide : ((0 : Int32)).toInt = 0); omega
              refine ⟨o8954, ?_⟩
              refine Eq.mpr (q_Mo_isNew_255.eq_1 _ _ _) ?_
              refine ⟨fun h => absurd h h8929, fun _ => ?_⟩
              have o8955 : 0 ≤ y214_3.toInt ∧ y214_3.toInt < 20 := by have := (by decide : ((0 : Int32)).toInt = 0); omega
              refine ⟨o8955, ?_⟩
              have o8956 : 0 ≤ y214_3.toInt ∧ y214_3.toInt < 20 := by have := (by decide : ((0 : Int32)).toInt = 0); omega
              refine ⟨o8956, ?_⟩
              have hI8957 : BND (sI w 180 y214_2.toInt.toNat ((w.1 180 y214_2.toInt.toNat) + (1 : Int32))) := wbd_180 hI y214_2.toInt.toNat
              have hI8958 : BND (sI (sI w 180 y214_2.toInt.toNat ((w.1 180 y214_2.toInt.toNat) + (1 : Int32))) 180 y214_3.toInt.toNat (((sI w 180 y214_2.toInt.toNat ((w.1 180 y214_2.toInt.toNat) + (1 : Int32))).1 180 y214_3.toInt.toNat) + (1 : Int32))) := wbd_180 hI8957 y214_3.toInt.toNat
              have o8960 : 0 ≤ (((sI w 180 y214_2.toInt.toNat ((w.1 180 y214_2.toInt.toNat) + (1 : Int32))).1 127 86) + (1 : Int32)).toInt ∧ (((sI w 180 y214_2.toInt.toNat ((w.1 180 y214_2.toInt.toNat) + (1 : Int32))).1 127 86) + (1 : Int32)).toInt ≤ 24 := by have := bd_127_86 hI; have : ((sI w 180 y214_2.toInt.toNat ((w.1 180 y214_2.toInt.toNat) + (1 : Int32))).1 127 86).toInt = (w.1 127 86).toInt := rfl; have := ti_add2 (Eq.refl ((sI w 180 y214_2.toInt.toNat ((w.1 180 y214_2.toInt.toNat) + (1 : Int32))).1 127 86).toInt) (by decide : ((1 : Int32)).toInt = 1) (by omega) (by omega); omega
              have hI8959 : BND (sI (sI (sI w 180 y214_2.toInt.toNat ((w.1 180 y214_2.toInt.toNat) + (1 : Int32))) 180 y214_3.toInt.toNat (((sI w 180 y214_2.toInt.toNat ((w.1 180 y214_2.toInt.toNat) + (1 : Int32))).1 180 y214_3.toInt.toNat) + (1 : Int32))) 127 86 (((sI w 180 y214_2.toInt.toNat ((w.1 180 y214_2.toInt.toNat) + (1 : Int32))).1 127 86) + (1 : Int32))) := wbd_127_86 hI8958 o8960.1 o8960.2
              have o8961 : (0 ≤ (1 : Int32).toInt) ∧ ((1 : Int32).toInt ≤ 1) := by have := (by decide : ((1 : Int32)).toInt = 1); exact ⟨by omega, by omega⟩
              exact hQ _ _ hI8959 (FR.I (FR.I (FR.I (FR.refl _ w) (k := 180) (j := y214_2.toInt.toNat) (v := ((w.1 180 y214_2.toInt.toNat) + (1 : Int32))) rfl) (k := 180) (j := y214_3.toInt.toNat) (v := (((sI w 180 y214_2.toInt.toNat ((w.1 180 y214_2.toInt.toNat) + (1 : Int32))).1 180 y214_3.toInt.toNat) + (1 : Int32))) rfl) (k := 127) (j := 86) (v := (((sI w 180 y214_2.toInt.toNat ((w.1 180 y214_2.toInt.toNat) + (1 : Int32))).1 127 86) + (1 : Int32))) rfl)  o8961.1 o8961.2
          · replace h8945 : ¬ (((w.1 180 y214_3.toInt.toNat) + y214_4).toInt < 3) := h8945
            have o8962 : (0 ≤ (0 : Int32).toInt) ∧ ((0 : Int32).toInt ≤ 1) := by have := (by decide : ((0 : Int32)).toInt = 0); exact ⟨by omega, by omega⟩
            exact hQ _ _ hI (FR.refl _ w)  o8962.1 o8962.2
        · refine ⟨fun h8963 => ?_, fun h8963 => ?_⟩
          · refine ⟨fun h8964 => ?_, fun h8964 => ?_⟩
            · refine ⟨fun h8965 => ?_, fun h8965 => ?_⟩
              · refine ⟨fun h8966 => ?_, fun h8966 => ?_⟩
                · replace h8966 : ((w.1 180 y214_3.toInt.toNat) + y214_4).toInt < 2 := h8966
                  refine ⟨fun h8967 => ?_, fun h8967 => ?_⟩
                  · refine Eq.mpr (q_Mo_isNew_255.eq_1 _ _ _) ?_
                    refine ⟨fun h => absurd h h8929, fun _ => ?_⟩
                    have o8968 : 0 ≤ y214_3.toInt ∧ y214_3.toInt < 20 := by have := (by decide : ((0 : Int32)).toInt = 0); omega
                    refine ⟨o8968, ?_⟩
                    have o8969 : 0 ≤ y214_3.toInt ∧ y214_3.toInt < 20 := by have := (by decide : ((0 : Int32)).toInt = 0); omega
                    refine ⟨o8969, ?_⟩
                    have hI8970 : BND (sI w 180 y214_3.toInt.toNat ((w.1 180 y214_3.toInt.toNat) + (1 : Int32))) := wbd_180 hI y214_3.toInt.toNat
                    have o8972 : 0 ≤ ((w.1 127 86) + (1 : Int32)).toInt ∧ ((w.1 127 86) + (1 : Int32)).toInt ≤ 24 := by have := bd_127_86 hI; have := ti_add2 (Eq.refl (w.1 127 86).toInt) (by decide : ((1 : Int32)).toInt = 1) (by omega) (by omega); omega
                    have hI8971 : BND (sI (sI w 180 y214_3.toInt.toNat ((w.1 180 y214_3.toInt.toNat) + (1 : Int32))) 127 86 ((w.1 127 86) + (1 : Int32))) := wbd_127_86 hI8970 o8972.1 o8972.2
                    have o8973 : (0 ≤ (1 : Int32).toInt) ∧ ((1 : Int32).toInt ≤ 1) := by have := (by decide : ((1 : Int32)).toInt = 1); exact ⟨by omega, by omega⟩
                    exact hQ _ _ hI8971 (FR.I (FR.I (FR.refl _ w) (k := 180) (j := y214_3.toInt.toNat) (v := ((w.1 180 y214_3.toInt.toNat) + (1 : Int32))) rfl) (k := 127) (j := 86) (v := ((w.1 127 86) + (1 : Int32))) rfl)  o8973.1 o8973.2
                  · have o8974 : 0 ≤ y214_2.toInt ∧ y214_2.toInt < 20 := by have := (by decide : ((0 : Int32)).toInt = 0); omega
                    refine ⟨o8974, ?_⟩
                    have o8975 : 0 ≤ y214_2.toInt ∧ y214_2.toInt < 20 := by have := (by decide : ((0 : Int32)).toInt = 0); omega
                    refine ⟨o8975, ?_⟩
                    refine Eq.mpr (q_Mo_isNew_255.eq_1 _ _ _) ?_
                    refine ⟨fun h => absurd h h8929, fun _ => ?_⟩
                    have o8976 : 0 ≤ y214_3.toInt ∧ y214_3.toInt < 20 := by have := (by decide : ((0 : Int32)).toInt = 0); omega
                    refine ⟨o8976, ?_⟩
                    have o8977 : 0 ≤ y214_3.toInt ∧ y214_3.toInt < 20 := by have := (by decide : ((0 : Int32)).toInt = 0); omega
                    refine ⟨o8977, ?_⟩
                    have hI8978 : BND (sI w 180 y214_2.toInt.toNat ((w.1 180 y214_2.toInt.toNat) + (1 : Int32))) := wbd_180 hI y214_2.toInt.toNat
                    have hI8979 : BND (sI (sI w 180 y214_2.toInt.toNat ((w.1 180 y214_2.toInt.toNat) + (1 : Int32))) 180 y214_3.toInt.toNat (((sI w 180 y214_2.toInt.toNat ((w.1 180 y214_2.toInt.toNat) + (1 : Int32))).1 180 y214_3.toInt.toNat) + (1 : Int32))) := wbd_180 hI8978 y214_3.toInt.toNat
                    have o8981 : 0 ≤ (((sI w 180 y214_2.toInt.toNat ((w.1 180 y214_2.toInt.toNat) + (1 : Int32))).1 127 86) + (1 : Int32)).toInt ∧ (((sI w 180 y214_2.toInt.toNat ((w.1 180 y214_2.toInt.toNat) + (1 : Int32))).1 127 86) + (1 : Int32)).toInt ≤ 24 := by have := bd_127_86 hI; have : ((sI w 180 y214_2.toInt.toNat ((w.1 180 y214_2.toInt.toNat) + (1 : Int32))).1 127 86).toInt = (w.1 127 86).toInt := rfl; have := ti_add2 (Eq.refl ((sI w 180 y214_2.toInt.toNat ((w.1 180 y214_2.toInt.toNat) + (1 : Int32))).1 127 86).toInt) (by decide : ((1 : Int32)).toInt = 1) (by omega) (by omega); omega
                    have hI8980 : BND (sI (sI (sI w 180 y214_2.toInt.toNat ((w.1 180 y214_2.toInt.toNat) + (1 : Int32))) 180 y214_3.toInt.toNat (((sI w 180 y214_2.toInt.toNat ((w.1 180 y214_2.toInt.toNat) + (1 : Int32))).1 180 y214_3.toInt.toNat) + (1 : Int32))) 127 86 (((sI w 180 y214_2.toInt.toNat ((w.1 180 y214_2.toInt.toNat) + (1 : Int32))).1 127 86) + (1 : Int32))) := wbd_127_86 hI8979 o8981.1 o8981.2
                    have o8982 : (0 ≤ (1 : Int32).toInt) ∧ ((1 : Int32).toInt ≤ 1) := by have := (by decide : ((1 : Int32)).toInt = 1); exact ⟨by omega, by omega⟩
                    exact hQ _ _ hI8980 (FR.I (FR.I (FR.I (FR.refl _ w) (k := 180) (j := y214_2.toInt.toNat) (v := ((w.1 180 y214_2.toInt.toNat) + (1 : Int32))) rfl) (k := 180) (j := y214_3.toInt.toNat) (v := (((sI w 180 y214_2.toInt.toNat ((w.1 180 y214_2.toInt.toNat) + (1 : Int32))).1 180 y214_3.toInt.toNat) + (1 : Int32))) rfl) (k := 127) (j := 86) (v := (((sI w 180 y214_2.toInt.toNat ((w.1 180 y214_2.toInt.toNat) + (1 : Int32))).1 127 86) + (1 : Int32))) rfl)  o8982.1 o8982.2
                · replace h8966 : ¬ (((w.1 180 y214_3.toInt.toNat) + y214_4).toInt < 2) := h8966
                  have o8983 : (0 ≤ (0 : Int32).toInt) ∧ ((0 : Int32).toInt ≤ 1) := by have := (by decide : ((0 : Int32)).toInt = 0); exact ⟨by omega, by omega⟩
                  exact hQ _ _ hI (FR.refl _ w)  o8983.1 o8983.2
              · refine ⟨fun h8984 => ?_, fun h8984 => ?_⟩
                · replace h8984 : ((w.1 180 y214_3.toInt.toNat) + y214_4).toInt < 1 := h8984
                  refine ⟨fun h8985 => ?_, fun h8985 => ?_⟩
                  · refine Eq.mpr (q_Mo_isNew_255.eq_1 _ _ _) ?_
                    refine ⟨fun h => absurd h h8929, fun _ => ?_⟩
                    have o8986 : 0 ≤ y214_3.toInt ∧ y214_3.toInt < 20 := by have := (by decide : ((0 : Int32)).toInt = 0); omega
                    refine ⟨o8986, ?_⟩
                    have o8987 : 0 ≤ y214_3.toInt ∧ y214_3.toInt < 20 := by have := (by decide : ((0 : Int32)).toInt = 0); omega
                    refine ⟨o8987, ?_⟩
                    have hI8988 : BND (sI w 180 y214_3.toInt.toNat ((w.1 180 y214_3.toInt.toNat) + (1 : Int32))) := wbd_180 hI y214_3.toInt.toNat
                    have o8990 : 0 ≤ ((w.1 127 86) + (1 : Int32)).toInt ∧ ((w.1 127 86) + (1 : Int32)).toInt ≤ 24 := by have := bd_127_86 hI; have := ti_add2 (Eq.refl (w.1 127 86).toInt) (by decide : ((1 : Int32)).toInt = 1) (by omega) (by omega); omega
                    have hI8989 : BND (sI (sI w 180 y214_3.toInt.toNat ((w.1 180 y214_3.toInt.toNat) + (1 : Int32))) 127 86 ((w.1 127 86) + (1 : Int32))) := wbd_127_86 hI8988 o8990.1 o8990.2
                    have o8991 : (0 ≤ (1 : Int32).toInt) ∧ ((1 : Int32).toInt ≤ 1) := by have := (by decide : ((1 : Int32)).toInt = 1); exact ⟨by omega, by omega⟩
                    exact hQ _ _ hI8989 (FR.I (FR.I (FR.refl _ w) (k := 180) (j := y214_3.toInt.toNat) (v := ((w.1 180 y214_3.toInt.toNat) + (1 : Int32))) rfl) (k := 127) (j := 86) (v := ((w.1 127 86) + (1 : Int32))) rfl)  o8991.1 o8991.2
                  · have o8992 : 0 ≤ y214_2.toInt ∧ y214_2.toInt < 20 := by have := (by decide : ((0 : Int32)).toInt = 0); omega
                    refine ⟨o8992, ?_⟩
                    have o8993 : 0 ≤ y214_2.toInt ∧ y214_2.toInt < 20 := by have := (by decide : ((0 : Int32)).toInt = 0); omega
                    refine ⟨o8993, ?_⟩
                    refine Eq.mpr (q_Mo_isNew_255.eq_1 _ _ _) ?_
                    refine ⟨fun h => absurd h h8929, fun _ => ?_⟩
                    have o8994 : 0 ≤ y214_3.toInt ∧ y214_3.toInt < 20 := by have := (by decide : ((0 : Int32)).toInt = 0); omega
                    refine ⟨o8994, ?_⟩
                    have o8995 : 0 ≤ y214_3.toInt ∧ y214_3.toInt < 20 := by have := (by decide : ((0 : Int32)).toInt = 0); omega
                    refine ⟨o8995, ?_⟩
                    have hI8996 : BND (sI w 180 y214_2.toInt.toNat ((w.1 180 y214_2.toInt.toNat) + (1 : Int32))) := wbd_180 hI y214_2.toInt.toNat
                    have hI8997 : BND (sI (sI w 180 y214_2.toInt.toNat ((w.1 180 y214_2.toInt.toNat) + (1 : Int32))) 180 y214_3.toInt.toNat (((sI w 180 y214_2.toInt.toNat ((w.1 180 y214_2.toInt.toNat) + (1 : Int32))).1 180 y214_3.toInt.toNat) + (1 : Int32))) := wbd_180 hI8996 y214_3.toInt.toNat
                    have o8999 : 0 ≤ (((sI w 180 y214_2.toInt.toNat ((w.1 180 y214_2.toInt.toNat) + (1 : Int32))).1 127 86) + (1 : Int32)).toInt ∧ (((sI w 180 y214_2.toInt.toNat ((w.1 180 y214_2.toInt.toNat) + (1 : Int32))).1 127 86) + (1 : Int32)).toInt ≤ 24 := by have := bd_127_86 hI; have : ((sI w 180 y214_2.toInt.toNat ((w.1 180 y214_2.toInt.toNat) + (1 : Int32))).1 127 86).toInt = (w.1 127 86).toInt := rfl; have := ti_add2 (Eq.refl ((sI w 180 y214_2.toInt.toNat ((w.1 180 y214_2.toInt.toNat) + (1 : Int32))).1 127 86).toInt) (by decide : ((1 : Int32)).toInt = 1) (by omega) (by omega); omega
                    have hI8998 : BND (sI (sI (sI w 180 y214_2.toInt.toNat ((w.1 180 y214_2.toInt.toNat) + (1 : Int32))) 180 y214_3.toInt.toNat (((sI w 180 y214_2.toInt.toNat ((w.1 180 y214_2.toInt.toNat) + (1 : Int32))).1 180 y214_3.toInt.toNat) + (1 : Int32))) 127 86 (((sI w 180 y214_2.toInt.toNat ((w.1 180 y214_2.toInt.toNat) + (1 : Int32))).1 127 86) + (1 : Int32))) := wbd_127_86 hI8997 o8999.1 o8999.2
                    have o9000 : (0 ≤ (1 : Int32).toInt) ∧ ((1 : Int32).toInt ≤ 1) := by have := (by decide : ((1 : Int32)).toInt = 1); exact ⟨by omega, by omega⟩
                    exact hQ _ _ hI8998 (FR.I (FR.I (FR.I (FR.refl _ w) (k := 180) (j := y214_2.toInt.toNat) (v := ((w.1 180 y214_2.toInt.toNat) + (1 : Int32))) rfl) (k := 180) (j := y214_3.toInt.toNat) (v := (((sI w 180 y214_2.toInt.toNat ((w.1 180 y214_2.toInt.toNat) + (1 : Int32))).1 180 y214_3.toInt.toNat) + (1 : Int32))) rfl) (k := 127) (j := 86) (v := (((sI w 180 y214_2.toInt.toNat ((w.1 180 y214_2.toInt.toNat) + (1 : Int32))).1 127 86) + (1 : Int32))) rfl)  o9000.1 o9000.2
                · replace h8984 : ¬ (((w.1 180 y214_3.toInt.toNat) + y214_4).toInt < 1) := h8984
                  have o9001 : (0 ≤ (0 : Int32).toInt) ∧ ((0 : Int32).toInt ≤ 1) := by have := (by decide : ((0 : Int32)).toInt = 0); exact ⟨by omega, by omega⟩
                  exact hQ _ _ hI (FR.refl _ w)  o9001.1 o9001.2
            · refine ⟨fun h9002 => ?_, fun h9002 => ?_⟩
              · replace h9002 : ((w.1 180 y214_3.toInt.toNat) + y214_4).toInt < 4 := h9002
                refine ⟨fun h9003 => ?_, fun h9003 => ?_⟩
                · refine Eq.mpr (q_Mo_isNew_255.eq_1 _ _ _) ?_
                  refine ⟨fun h => absurd h h8929, fun _ => ?_⟩
                  have o9004 : 0 ≤ y214_3.toInt ∧ y214_3.toInt < 20 := by have := (by decide : ((0 : Int32)).toInt = 0); omega
                  refine ⟨o9004, ?_⟩
                  have o9005 : 0 ≤ y214_3.toInt ∧ y214_3.toInt < 20 := by have := (by decide : ((0 : Int32)).toInt = 0); omega
                  refine ⟨o9005, ?_⟩
                  have hI9006 : BND (sI w 180 y214_3.toInt.toNat ((w.1 180 y214_3.toInt.toNat) + (1 : Int32))) := wbd_180 hI y214_3.toInt.toNat
                  have o9008 : 0 ≤ ((w.1 127 86) + (1 : Int32)).toInt ∧ ((w.1 127 86) + (1 : Int32)).toInt ≤ 24 := by have := bd_127_86 hI; have := ti_add2 (Eq.refl (w.1 127 86).toInt) (by decide : ((1 : Int32)).toInt = 1) (by omega) (by omega); omega
                  have hI9007 : BND (sI (sI w 180 y214_3.toInt.toNat ((w.1 180 y214_3.toInt.toNat) + (1 : Int32))) 127 86 ((w.1 127 86) + (1 : Int32))) := wbd_127_86 hI9006 o9008.1 o9008.2
                  have o9009 : (0 ≤ (1 : Int32).toInt) ∧ ((1 : Int32).toInt ≤ 1) := by have := (by decide : ((1 : Int32)).toInt = 1); exact ⟨by omega, by omega⟩
                  exact hQ _ _ hI9007 (FR.I (FR.I (FR.refl _ w) (k := 180) (j := y214_3.toInt.toNat) (v := ((w.1 180 y214_3.toInt.toNat) + (1 : Int32))) rfl) (k := 127) (j := 86) (v := ((w.1 127 86) + (1 : Int32))) rfl)  o9009.1 o9009.2
                · have o9010 : 0 ≤ y214_2.toInt ∧ y214_2.toInt < 20 := by have := (by decide : ((0 : Int32)).toInt = 0); omega
                  refine ⟨o9010, ?_⟩
                  have o9011 : 0 ≤ y214_2.toInt ∧ y214_2.toInt < 20 := by have := (by decide : ((0 : Int32)).toInt = 0); omega
                  refine ⟨o9011, ?_⟩
                  refine Eq.mpr (q_Mo_isNew_255.eq_1 _ _ _) ?_
                  refine ⟨fun h => absurd h h8929, fun _ => ?_⟩
                  have o9012 : 0 ≤ y214_3.toInt ∧ y214_3.toInt < 20 := by have := (by decide : ((0 : Int32)).toInt = 0); omega
                  refine ⟨o9012, ?_⟩
                  have o9013 : 0 ≤ y214_3.toInt ∧ y214_3.toInt < 20 := by have := (by decide : ((0 : Int32)).toInt = 0); omega
                  refine ⟨o9013, ?_⟩
                  have hI9014 : BND (sI w 180 y214_2.toInt.toNat ((w.1 180 y214_2.toInt.toNat) + (1 : Int32))) := wbd_180 hI y214_2.toInt.toNat
                  have hI9015 : BND (sI (sI w 180 y214_2.toInt.toNat ((w.1 180 y214_2.toInt.toNat) + (1 : Int32))) 180 y214_3.toInt.toNat (((sI w 180 y214_2.toInt.toNat ((w.1 180 y214_2.toInt.toNat) + (1 : Int32))).1 180 y214_3.toInt.toNat) + (1 : Int32))) := wbd_180 hI9014 y214_3.toInt.toNat
                  have o9017 : 0 ≤ (((sI w 180 y214_2.toInt.toNat ((w.1 180 y214_2.toInt.toNat) + (1 : Int32))).1 127 86) + (1 : Int32)).toInt ∧ (((sI w 180 y214_2.toInt.toNat ((w.1 180 y214_2.toInt.toNat) + (1 : Int32))).1 127 86) + (1 : Int32)).toInt ≤ 24 := by have := bd_127_86 hI; have : ((sI w 180 y214_2.toInt.toNat ((w.1 180 y214_2.toInt.toNat) + (1 : Int32))).1 127 86).toInt = (w.1 127 86).toInt := rfl; have := ti_add2 (Eq.refl ((sI w 180 y214_2.toInt.toNat ((w.1 180 y214_2.toInt.toNat) + (1 : Int32))).1 127 86).toInt) (by decide : ((1 : Int32)).toInt = 1) (by omega) (by omega); omega
                  have hI9016 : BND (sI (sI (sI w 180 y214_2.toInt.toNat ((w.1 180 y214_2.toInt.toNat) + (1 : Int32))) 180 y214_3.toInt.toNat (((sI w 180 y214_2.toInt.toNat ((w.1 180 y214_2.toInt.toNat) + (1 : Int32))).1 180 y214_3.toInt.toNat) + (1 : Int32))) 127 86 (((sI w 180 y214_2.toInt.toNat ((w.1 180 y214_2.toInt.toNat) + (1 : Int32))).1 127 86) + (1 : Int32))) := wbd_127_86 hI9015 o9017.1 o9017.2
                  have o9018 : (0 ≤ (1 : Int32).toInt) ∧ ((1 : Int32).toInt ≤ 1) := by have := (by decide : ((1 : Int32)).toInt = 1); exact ⟨by omega, by omega⟩
                  exact hQ _ _ hI9016 (FR.I (FR.I (FR.I (FR.refl _ w) (k := 180) (j := y214_2.toInt.toNat) (v := ((w.1 180 y214_2.toInt.toNat) + (1 : Int32))) rfl) (k := 180) (j := y214_3.toInt.toNat) (v := (((sI w 180 y214_2.toInt.toNat ((w.1 180 y214_2.toInt.toNat) + (1 : Int32))).1 180 y214_3.toInt.toNat) + (1 : Int32))) rfl) (k := 127) (j := 86) (v := (((sI w 180 y214_2.toInt.toNat ((w.1 180 y214_2.toInt.toNat) + (1 : Int32))).1 127 86) + (1 : Int32))) rfl)  o9018.1 o9018.2
              · replace h9002 : ¬ (((w.1 180 y214_3.toInt.toNat) + y214_4).toInt < 4) := h9002
                have o9019 : (0 ≤ (0 : Int32).toInt) ∧ ((0 : Int32).toInt ≤ 1) := by have := (by decide : ((0 : Int32)).toInt = 0); exact ⟨by omega, by omega⟩
                exact hQ _ _ hI (FR.refl _ w)  o9019.1 o9019.2
          · refine ⟨fun h9020 => ?_, fun h9020 => ?_⟩
            · replace h9020 : ((w.1 180 y214_3.toInt.toNat) + y214_4).toInt < 3 := h9020
              refine ⟨fun h9021 => ?_, fun h9021 => ?_⟩
              · refine Eq.mpr (q_Mo_isNew_255.eq_1 _ _ _) ?_
                refine ⟨fun h => absurd h h8929, fun _ => ?_⟩
                have o9022 : 0 ≤ y214_3.toInt ∧ y214_3.toInt < 20 := by have := (by decide : ((0 : Int32)).toInt = 0); omega
                refine ⟨o9022, ?_⟩
                have o9023 : 0 ≤ y214_3.toInt ∧ y214_3.toInt < 20 := by have := (by decide : ((0 : Int32)).toInt = 0); omega
                refine ⟨o9023, ?_⟩
                have hI9024 : BND (sI w 180 y214_3.toInt.toNat ((w.1 180 y214_3.toInt.toNat) + (1 : Int32))) := wbd_180 hI y214_3.toInt.toNat
                have o9026 : 0 ≤ ((w.1 127 86) + (1 : Int32)).toInt ∧ ((w.1 127 86) + (1 : Int32)).toInt ≤ 24 := by have := bd_127_86 hI; have := ti_add2 (Eq.refl (w.1 127 86).toInt) (by decide : ((1 : Int32)).toInt = 1) (by omega) (by omega); omega
                have hI9025 : BND (sI (sI w 180 y214_3.toInt.toNat ((w.1 180 y214_3.toInt.toNat) + (1 : Int32))) 127 86 ((w.1 127 86) + (1 : Int32))) := wbd_127_86 hI9024 o9026.1 o9026.2
                have o9027 : (0 ≤ (1 : Int32).toInt) ∧ ((1 : Int32).toInt ≤ 1) := by have := (by decide : ((1 : Int32)).toInt = 1); exact ⟨by omega, by omega⟩
                exact hQ _ _ hI9025 (FR.I (FR.I (FR.refl _ w) (k := 180) (j := y214_3.toInt.toNat) (v := ((w.1 180 y214_3.toInt.toNat) + (1 : Int32))) rfl) (k := 127) (j := 86) (v := ((w.1 127 86) + (1 : Int32))) rfl)  o9027.1 o9027.2
              · have o9028 : 0 ≤ y214_2.toInt ∧ y214_2.toInt < 20 := by have := (by decide : ((0 : Int32)).toInt = 0); omega
                refine ⟨o9028, ?_⟩
                have o9029 : 0 ≤ y214_2.toInt ∧ y214_2.toInt < 20 := by have := (by decide : ((0 : Int32)).toInt = 0); omega
                refine ⟨o9029, ?_⟩
                refine Eq.mpr (q_Mo_isNew_255.eq_1 _ _ _) ?_
                refine ⟨fun h => absurd h h8929, fun _ => ?_⟩
                have o9030 : 0 ≤ y214_3.toInt ∧ y214_3.toInt < 20 := by have := (by decide : ((0 : Int32)).toInt = 0); omega
                refine ⟨o9030, ?_⟩
                have o9031 : 0 ≤ y214_3.toInt ∧ y214_3.toInt < 20 := by have := (by decide : ((0 : Int32)).toInt = 0); omega
                refine ⟨o9031, ?_⟩
                have hI9032 : BND (sI w 180 y214_2.toInt.toNat ((w.1 180 y214_2.toInt.toNat) + (1 : Int32))) := wbd_180 hI y214_2.toInt.toNat
                have hI9033 : BND (sI (sI w 180 y214_2.toInt.toNat ((w.1 180 y214_2.toInt.toNat) + (1 : Int32))) 180 y214_3.toInt.toNat (((sI w 180 y214_2.toInt.toNat ((w.1 180 y214_2.toInt.toNat) + (1 : Int32))).1 180 y214_3.toInt.toNat) + (1 : Int32))) := wbd_180 hI9032 y214_3.toInt.toNat
                have o9035 : 0 ≤ (((sI w 180 y214_2.toInt.toNat ((w.1 180 y214_2.toInt.toNat) + (1 : Int32))).1 127 86) + (1 : Int32)).toInt ∧ (((sI w 180 y214_2.toInt.toNat ((w.1 180 y214_2.toInt.toNat) + (1 : Int32))).1 127 86) + (1 : Int32)).toInt ≤ 24 := by have := bd_127_86 hI; have : ((sI w 180 y214_2.toInt.toNat ((w.1 180 y214_2.toInt.toNat) + (1 : Int32))).1 127 86).toInt = (w.1 127 86).toInt := rfl; have := ti_add2 (Eq.refl ((sI w 180 y214_2.toInt.toNat ((w.1 180 y214_2.toInt.toNat) + (1 : Int32))).1 127 86).toInt) (by decide : ((1 : Int32)).toInt = 1) (by omega) (by omega); omega
                have hI9034 : BND (sI (sI (sI w 180 y214_2.toInt.toNat ((w.1 180 y214_2.toInt.toNat) + (1 : Int32))) 180 y214_3.toInt.toNat (((sI w 180 y214_2.toInt.toNat ((w.1 180 y214_2.toInt.toNat) + (1 : Int32))).1 180 y214_3.toInt.toNat) + (1 : Int32))) 127 86 (((sI w 180 y214_2.toInt.toNat ((w.1 180 y214_2.toInt.toNat) + (1 : Int32))).1 127 86) + (1 : Int32))) := wbd_127_86 hI9033 o9035.1 o9035.2
                have o9036 : (0 ≤ (1 : Int32).toInt) ∧ ((1 : Int32).toInt ≤ 1) := by have := (by decide : ((1 : Int32)).toInt = 1); exact ⟨by omega, by omega⟩
                exact hQ _ _ hI9034 (FR.I (FR.I (FR.I (FR.refl _ w) (k := 180) (j := y214_2.toInt.toNat) (v := ((w.1 180 y214_2.toInt.toNat) + (1 : Int32))) rfl) (k := 180) (j := y214_3.toInt.toNat) (v := (((sI w 180 y214_2.toInt.toNat ((w.1 180 y214_2.toInt.toNat) + (1 : Int32))).1 180 y214_3.toInt.toNat) + (1 : Int32))) rfl) (k := 127) (j := 86) (v := (((sI w 180 y214_2.toInt.toNat ((w.1 180 y214_2.toInt.toNat) + (1 : Int32))).1 127 86) + (1 : Int32))) rfl)  o9036.1 o9036.2
            · replace h9020 : ¬ (((w.1 180 y214_3.toInt.toNat) + y214_4).toInt < 3) := h9020
              have o9037 : (0 ≤ (0 : Int32).toInt) ∧ ((0 : Int32).toInt ≤ 1) := by have := (by decide : ((0 : Int32)).toInt = 0); exact ⟨by omega, by omega⟩
              exact hQ _ _ hI (FR.refl _ w)  o9037.1 o9037.2
      · refine ⟨fun h9038 => ?_, fun h9038 => ?_⟩
        · replace h9038 : ((w.1 180 y214_3.toInt.toNat) + y214_4).toInt < 2 := h9038
          refine ⟨fun h9039 => ?_, fun h9039 => ?_⟩
          · refine Eq.mpr (q_Mo_isNew_255.eq_1 _ _ _) ?_
            refine ⟨fun h => absurd h h8929, fun _ => ?_⟩
            have o9040 : 0 ≤ y214_3.toInt ∧ y214_3.toInt < 20 := by have := (by decide : ((0 : Int32)).toInt = 0); omega
            refine ⟨o9040, ?_⟩
            have o9041 : 0 ≤ y214_3.toInt ∧ y214_3.toInt < 20 := by have := (by decide : ((0 : Int32)).toInt = 0); omega
            refine ⟨o9041, ?_⟩
            have hI9042 : BND (sI w 180 y214_3.toInt.toNat ((w.1 180 y214_3.toInt.toNat) + (1 : Int32))) := wbd_180 hI y214_3.toInt.toNat
            have o9044 : 0 ≤ ((w.1 127 86) + (1 : Int32)).toInt ∧ ((w.1 127 86) + (1 : Int32)).toInt ≤ 24 := by have := bd_127_86 hI; have := ti_add2 (Eq.refl (w.1 127 86).toInt) (by decide : ((1 : Int32)).toInt = 1) (by omega) (by omega); omega
            have hI9043 : BND (sI (sI w 180 y214_3.toInt.toNat ((w.1 180 y214_3.toInt.toNat) + (1 : Int32))) 127 86 ((w.1 127 86) + (1 : Int32))) := wbd_127_86 hI9042 o9044.1 o9044.2
            have o9045 : (0 ≤ (1 : Int32).toInt) ∧ ((1 : Int32).toInt ≤ 1) := by have := (by decide : ((1 : Int32)).toInt = 1); exact ⟨by omega, by omega⟩
            exact hQ _ _ hI9043 (FR.I (FR.I (FR.refl _ w) (k := 180) (j := y214_3.toInt.toNat) (v := ((w.1 180 y214_3.toInt.toNat) + (1 : Int32))) rfl) (k := 127) (j := 86) (v := ((w.1 127 86) + (1 : Int32))) rfl)  o9045.1 o9045.2
          · have o9046 : 0 ≤ y214_2.toInt ∧ y214_2.toInt < 20 := by have := (by decide : ((0 : Int32)).toInt = 0); omega
            refine ⟨o9046, ?_⟩
            have o9047 : 0 ≤ y214_2.toInt ∧ y214_2.toInt < 20 := by have := (by decide : ((0 : Int32)).toInt = 0); omega
            refine ⟨o9047, ?_⟩
            refine Eq.mpr (q_Mo_isNew_255.eq_1 _ _ _) ?_
            refine ⟨fun h => absurd h h8929, fun _ => ?_⟩
            have o9048 : 0 ≤ y214_3.toInt ∧ y214_3.toInt < 20 := by have := (by decide : ((0 : Int32)).toInt = 0); omega
            refine ⟨o9048, ?_⟩
            have o9049 : 0 ≤ y214_3.toInt ∧ y214_3.toInt < 20 := by have := (by decide : ((0 : Int32)).toInt = 0); omega
            refine ⟨o9049, ?_⟩
            have hI9050 : BND (sI w 180 y214_2.toInt.toNat ((w.1 180 y214_2.toInt.toNat) + (1 : Int32))) := wbd_180 hI y214_2.toInt.toNat
            have hI9051 : BND (sI (sI w 180 y214_2.toInt.toNat ((w.1 180 y214_2.toInt.toNat) + (1 : Int32))) 180 y214_3.toInt.toNat (((sI w 180 y214_2.toInt.toNat ((w.1 180 y214_2.toInt.toNat) + (1 : Int32))).1 180 y214_3.toInt.toNat) + (1 : Int32))) := wbd_180 hI9050 y214_3.toInt.toNat
            have o9053 : 0 ≤ (((sI w 180 y214_2.toInt.toNat ((w.1 180 y214_2.toInt.toNat) + (1 : Int32))).1 127 86) + (1 : Int32)).toInt ∧ (((sI w 180 y214_2.toInt.toNat ((w.1 180 y214_2.toInt.toNat) + (1 : Int32))).1 127 86) + (1 : Int32)).toInt ≤ 24 := by have := bd_127_86 hI; have : ((sI w 180 y214_2.toInt.toNat ((w.1 180 y214_2.toInt.toNat) + (1 : Int32))).1 127 86).toInt = (w.1 127 86).toInt := rfl; have := ti_add2 (Eq.refl ((sI w 180 y214_2.toInt.toNat ((w.1 180 y214_2.toInt.toNat) + (1 : Int32))).1 127 86).toInt) (by decide : ((1 : Int32)).toInt = 1) (by omega) (by omega); omega
            have hI9052 : BND (sI (sI (sI w 180 y214_2.toInt.toNat ((w.1 180 y214_2.toInt.toNat) + (1 : Int32))) 180 y214_3.toInt.toNat (((sI w 180 y214_2.toInt.toNat ((w.1 180 y214_2.toInt.toNat) + (1 : Int32))).1 180 y214_3.toInt.toNat) + (1 : Int32))) 127 86 (((sI w 180 y214_2.toInt.toNat ((w.1 180 y214_2.toInt.toNat) + (1 : Int32))).1 127 86) + (1 : Int32))) := wbd_127_86 hI9051 o9053.1 o9053.2
            have o9054 : (0 ≤ (1 : Int32).toInt) ∧ ((1 : Int32).toInt ≤ 1) := by have := (by decide : ((1 : Int32)).toInt = 1); exact ⟨by omega, by omega⟩
            exact hQ _ _ hI9052 (FR.I (FR.I (FR.I (FR.refl _ w) (k := 180) (j := y214_2.toInt.toNat) (v := ((w.1 180 y214_2.toInt.toNat) + (1 : Int32))) rfl) (k := 180) (j := y214_3.toInt.toNat) (v := (((sI w 180 y214_2.toInt.toNat ((w.1 180 y214_2.toInt.toNat) + (1 : Int32))).1 180 y214_3.toInt.toNat) + (1 : Int32))) rfl) (k := 127) (j := 86) (v := (((sI w 180 y214_2.toInt.toNat ((w.1 180 y214_2.toInt.toNat) + (1 : Int32))).1 127 86) + (1 : Int32))) rfl)  o9054.1 o9054.2
        · replace h9038 : ¬ (((w.1 180 y214_3.toInt.toNat) + y214_4).toInt < 2) := h9038
          have o9055 : (0 ≤ (0 : Int32).toInt) ∧ ((0 : Int32).toInt ≤ 1) := by have := (by decide : ((0 : Int32)).toInt = 0); exact ⟨by omega, by omega⟩
          exact hQ _ _ hI (FR.refl _ w)  o9055.1 o9055.2
    · refine ⟨fun h9056 => ?_, fun h9056 => ?_⟩
      · replace h9056 : ((w.1 180 y214_3.toInt.toNat) + y214_4).toInt < 1000 := h9056
        refine ⟨fun h9057 => ?_, fun h9057 => ?_⟩
        · refine Eq.mpr (q_Mo_isNew_255.eq_1 _ _ _) ?_
          refine ⟨fun h => absurd h h8929, fun _ => ?_⟩
          have o9058 : 0 ≤ y214_3.toInt ∧ y214_3.toInt < 20 := by have := (by decide : ((0 : Int32)).toInt = 0); omega
          refine ⟨o9058, ?_⟩
          have o9059 : 0 ≤ y214_3.toInt ∧ y214_3.toInt < 20 := by have := (by decide : ((0 : Int32)).toInt = 0); omega
          refine ⟨o9059, ?_⟩
          have hI9060 : BND (sI w 180 y214_3.toInt.toNat ((w.1 180 y214_3.toInt.toNat) + (1 : Int32))) := wbd_180 hI y214_3.toInt.toNat
          have o9062 : 0 ≤ ((w.1 127 86) + (1 : Int32)).toInt ∧ ((w.1 127 86) + (1 : Int32)).toInt ≤ 24 := by have := bd_127_86 hI; have := ti_add2 (Eq.refl (w.1 127 86).toInt) (by decide : ((1 : Int32)).toInt = 1) (by omega) (by omega); omega
          have hI9061 : BND (sI (sI w 180 y214_3.toInt.toNat ((w.1 180 y214_3.toInt.toNat) + (1 : Int32))) 127 86 ((w.1 127 86) + (1 : Int32))) := wbd_127_86 hI9060 o9062.1 o9062.2
          have o9063 : (0 ≤ (1 : Int32).toInt) ∧ ((1 : Int32).toInt ≤ 1) := by have := (by decide : ((1 : Int32)).toInt = 1); exact ⟨by omega, by omega⟩
          exact hQ _ _ hI9061 (FR.I (FR.I (FR.refl _ w) (k := 180) (j := y214_3.toInt.toNat) (v := ((w.1 180 y214_3.toInt.toNat) + (1 : Int32))) rfl) (k := 127) (j := 86) (v := ((w.1 127 86) + (1 : Int32))) rfl)  o9063.1 o9063.2
        · have o9064 : 0 ≤ y214_2.toInt ∧ y214_2.toInt < 20 := by have := (by decide : ((0 : Int32)).toInt = 0); omega
          refine ⟨o9064, ?_⟩
          have o9065 : 0 ≤ y214_2.toInt ∧ y214_2.toInt < 20 := by have := (by decide : ((0 : Int32)).toInt = 0); omega
          refine ⟨o9065, ?_⟩
          refine Eq.mpr (q_Mo_isNew_255.eq_1 _ _ _) ?_
          refine ⟨fun h => absurd h h8929, fun _ => ?_⟩
          have o9066 : 0 ≤ y214_3.toInt ∧ y214_3.toInt < 20 := by have := (by decide : ((0 : Int32)).toInt = 0); omega
          refine ⟨o9066, ?_⟩
          have o9067 : 0 ≤ y214_3.toInt ∧ y214_3.toInt < 20 := by have := (by decide : ((0 : Int32)).toInt = 0); omega
          refine ⟨o9067, ?_⟩
          have hI9068 : BND (sI w 180 y214_2.toInt.toNat ((w.1 180 y214_2.toInt.toNat) + (1 : Int32))) := wbd_180 hI y214_2.toInt.toNat
          have hI9069 : BND (sI (sI w 180 y214_2.toInt.toNat ((w.1 180 y214_2.toInt.toNat) + (1 : Int32))) 180 y214_3.toInt.toNat (((sI w 180 y214_2.toInt.toNat ((w.1 180 y214_2.toInt.toNat) + (1 : Int32))).1 180 y214_3.toInt.toNat) + (1 : Int32))) := wbd_180 hI9068 y214_3.toInt.toNat
          have o9071 : 0 ≤ (((sI w 180 y214_2.toInt.toNat ((w.1 180 y214_2.toInt.toNat) + (1 : Int32))).1 127 86) + (1 : Int32)).toInt ∧ (((sI w 180 y214_2.toInt.toNat ((w.1 180 y214_2.toInt.toNat) + (1 : Int32))).1 127 86) + (1 : Int32)).toInt ≤ 24 := by have := bd_127_86 hI; have : ((sI w 180 y214_2.toInt.toNat ((w.1 180 y214_2.toInt.toNat) + (1 : Int32))).1 127 86).toInt = (w.1 127 86).toInt := rfl; have := ti_add2 (Eq.refl ((sI w 180 y214_2.toInt.toNat ((w.1 180 y214_2.toInt.toNat) + (1 : Int32))).1 127 86).toInt) (by decide : ((1 : Int32)).toInt = 1) (by omega) (by omega); omega
          have hI9070 : BND (sI (sI (sI w 180 y214_2.toInt.toNat ((w.1 180 y214_2.toInt.toNat) + (1 : Int32))) 180 y214_3.toInt.toNat (((sI w 180 y214_2.toInt.toNat ((w.1 180 y214_2.toInt.toNat) + (1 : Int32))).1 180 y214_3.toInt.toNat) + (1 : Int32))) 127 86 (((sI w 180 y214_2.toInt.toNat ((w.1 180 y214_2.toInt.toNat) + (1 : Int32))).1 127 86) + (1 : Int32))) := wbd_127_86 hI9069 o9071.1 o9071.2
          have o9072 : (0 ≤ (1 : Int32).toInt) ∧ ((1 : Int32).toInt ≤ 1) := by have := (by decide : ((1 : Int32)).toInt = 1); exact ⟨by omega, by omega⟩
          exact hQ _ _ hI9070 (FR.I (FR.I (FR.I (FR.refl _ w) (k := 180) (j := y214_2.toInt.toNat) (v := ((w.1 180 y214_2.toInt.toNat) + (1 : Int32))) rfl) (k := 180) (j := y214_3.toInt.toNat) (v := (((sI w 180 y214_2.toInt.toNat ((w.1 180 y214_2.toInt.toNat) + (1 : Int32))).1 180 y214_3.toInt.toNat) + (1 : Int32))) rfl) (k := 127) (j := 86) (v := (((sI w 180 y214_2.toInt.toNat ((w.1 180 y214_2.toInt.toNat) + (1 : Int32))).1 127 86) + (1 : Int32))) rfl)  o9072.1 o9072.2
      · replace h9056 : ¬ (((w.1 180 y214_3.toInt.toNat) + y214_4).toInt < 1000) := h9056
        have o9073 : (0 ≤ (0 : Int32).toInt) ∧ ((0 : Int32).toInt ≤ 1) := by have := (by decide : ((0 : Int32)).toInt = 0); exact ⟨by omega, by omega⟩
        exact hQ _ _ hI (FR.refl _ w)  o9073.1 o9073.2
set_option maxRecDepth 20000 in
set_option maxHeartbeats 2000000 in
theorem hq_Mo_isNew_187 {y187_2 : Int32} {y187_3 : Int32} {ys187_0 : Int32} {w : MW} {Q : Int32 → MW → Prop} (hI : BND w) (hp0 : (-2) ≤ y187_2.toInt) (hp1 : y187_2.toInt ≤ 19) (hp2 : (-2) ≤ y187_3.toInt) (hp3 : y187_3.toInt ≤ 19) (hp4 : 0 ≤ ys187_0.toInt) (hp5 : ys187_0.toInt ≤ 1) (hp6 : (w.1 127 86).toInt < 24) (hQ : ∀ (r : Int32) (w' : MW), BND w' → FR l_Mo_isNew_187 w w' → 0 ≤ r.toInt → r.toInt ≤ 1 → Q r w') : q_Mo_isNew_187 y187_2 y187_3 ys187_0 w Q := by
  refine Eq.mpr (q_Mo_isNew_187.eq_1 _ _ _ _ _) ?_
  refine ⟨fun h9074 => ?_, fun h9074 => ?_⟩
  · have o9075 : ((-2) ≤ y187_2.toInt) ∧ (y187_2.toInt ≤ 19) ∧ ((-2) ≤ y187_3.toInt) ∧ (y187_3.toInt ≤ 19) ∧ (0 ≤ ys187_0.toInt) ∧ (ys187_0.toInt ≤ 1) ∧ ((w.1 127 86).toInt < 24) := by have := bd_127_86 hI; have := (by decide : ((0 : Int32)).toInt = 0); exact ⟨by omega, by omega, by omega, by omega, by omega, by omega, by omega⟩
    exact hq_Mo_isNew_214 hI  o9075.1 o9075.2.1 o9075.2.2.1 o9075.2.2.2.1 o9075.2.2.2.2.1 o9075.2.2.2.2.2.1 o9075.2.2.2.2.2.2 (fun r w9 hI9 hF9 q0 q1 => hQ r w9 hI9 ((FR.refl _ w).tr hF9 rfl) (by have := (by decide : ((0 : Int32)).toInt = 0); omega) (by have := (by decide : ((0 : Int32)).toInt = 0); omega))
  · have o9076 : 0 ≤ y187_2.toInt ∧ y187_2.toInt < 20 := by have := (by decide : ((0 : Int32)).toInt = 0); omega
    refine ⟨o9076, ?_⟩
    have o9077 : 0 ≤ y187_2.toInt ∧ y187_2.toInt < 20 := by have := (by decide : ((0 : Int32)).toInt = 0); omega
    refine ⟨o9077, ?_⟩
    refine Eq.mpr (p_Mo_room.eq_1 _ _ _) ?_
    refine ⟨fun h9078 => ?_, fun h9078 => ?_⟩
    · refine ⟨fun h9079 => ?_, fun h9079 => ?_⟩
      · refine ⟨fun h9080 => ?_, fun h9080 => ?_⟩
        · refine ⟨fun h9081 => ?_, fun h9081 => ?_⟩
          · replace h9081 : 3 ≤ ((w.1 180 y187_2.toInt.toNat) + ys187_0).toInt := h9081
            have o9082 : (0 ≤ (0 : Int32).toInt) ∧ ((0 : Int32).toInt ≤ 1) := by have := (by decide : ((0 : Int32)).toInt = 0); exact ⟨by omega, by omega⟩
            exact hQ _ _ hI (FR.refl _ w)  o9082.1 o9082.2
          · replace h9081 : ¬ (3 ≤ ((w.1 180 y187_2.toInt.toNat) + ys187_0).toInt) := h9081
            have o9083 : ((-2) ≤ y187_2.toInt) ∧ (y187_2.toInt ≤ 19) ∧ ((-2) ≤ y187_3.toInt) ∧ (y187_3.toInt ≤ 19) ∧ (0 ≤ ys187_0.toInt) ∧ (ys187_0.toInt ≤ 1) ∧ ((w.1 127 86).toInt < 24) := by have := bd_127_86 hI; have := (by decide : ((0 : Int32)).toInt = 0); have := (by decide : ((3 : Int32)).toInt = 3); have := True.intro; exact ⟨by omega, by omega, by omega, by omega, by omega, by omega, by omega⟩
            exact hq_Mo_isNew_214 hI  o9083.1 o9083.2.1 o9083.2.2.1 o9083.2.2.2.1 o9083.2.2.2.2.1 o9083.2.2.2.2.2.1 o9083.2.2.2.2.2.2 (fun r w9 hI9 hF9 q0 q1 => hQ r w9 hI9 ((FR.refl _ w).tr hF9 rfl) (by have := (by decide : ((0 : Int32)).toInt = 0); have := (by decide : ((3 : Int32)).toInt = 3); have := True.intro; omega) (by have := (by decide : ((0 : Int32)).toInt = 0); have := (by decide : ((3 : Int32)).toInt = 3); have := True.intro; omega))
        · refine ⟨fun h9084 => ?_, fun h9084 => ?_⟩
          · refine ⟨fun h9085 => ?_, fun h9085 => ?_⟩
            · refine ⟨fun h9086 => ?_, fun h9086 => ?_⟩
              · refine ⟨fun h9087 => ?_, fun h9087 => ?_⟩
                · replace h9087 : 2 ≤ ((w.1 180 y187_2.toInt.toNat) + ys187_0).toInt := h9087
                  have o9088 : (0 ≤ (0 : Int32).toInt) ∧ ((0 : Int32).toInt ≤ 1) := by have := (by decide : ((0 : Int32)).toInt = 0); exact ⟨by omega, by omega⟩
                  exact hQ _ _ hI (FR.refl _ w)  o9088.1 o9088.2
                · replace h9087 : ¬ (2 ≤ ((w.1 180 y187_2.toInt.toNat) + ys187_0).toInt) := h9087
                  have o9089 : ((-2) ≤ y187_2.toInt) ∧ (y187_2.toInt ≤ 19) ∧ ((-2) ≤ y187_3.toInt) ∧ (y187_3.toInt ≤ 19) ∧ (0 ≤ ys187_0.toInt) ∧ (ys187_0.toInt ≤ 1) ∧ ((w.1 127 86).toInt < 24) := by have := bd_127_86 hI; have := (by decide : ((0 : Int32)).toInt = 0); have := (by decide : ((2 : Int32)).toInt = 2); have := True.intro; exact ⟨by omega, by omega, by omega, by omega, by omega, by omega, by omega⟩
                  exact hq_Mo_isNew_214 hI  o9089.1 o9089.2.1 o9089.2.2.1 o9089.2.2.2.1 o9089.2.2.2.2.1 o9089.2.2.2.2.2.1 o9089.2.2.2.2.2.2 (fun r w9 hI9 hF9 q0 q1 => hQ r w9 hI9 ((FR.refl _ w).tr hF9 rfl) (by have := (by decide : ((0 : Int32)).toInt = 0); have := (by decide : ((2 : Int32)).toInt = 2); have := True.intro; omega) (by have := (by decide : ((0 : Int32)).toInt = 0); have := (by decide : ((2 : Int32)).toInt = 2); have := True.intro; omega))
              · refine ⟨fun h9090 => ?_, fun h9090 => ?_⟩
                · replace h9090 : 1 ≤ ((w.1 180 y187_2.toInt.toNat) + ys187_0).toInt := h9090
                  have o9091 : (0 ≤ (0 : Int32).toInt) ∧ ((0 : Int32).toInt ≤ 1) := by have := (by decide : ((0 : Int32)).toInt = 0); exact ⟨by omega, by omega⟩
                  exact hQ _ _ hI (FR.refl _ w)  o9091.1 o9091.2
                · replace h9090 : ¬ (1 ≤ ((w.1 180 y187_2.toInt.toNat) + ys187_0).toInt) := h9090
                  have o9092 : ((-2) ≤ y187_2.toInt) ∧ (y187_2.toInt ≤ 19) ∧ ((-2) ≤ y187_3.toInt) ∧ (y187_3.toInt ≤ 19) ∧ (0 ≤ ys187_0.toInt) ∧ (ys187_0.toInt ≤ 1) ∧ ((w.1 127 86).toInt < 24) := by have := bd_127_86 hI; have := (by decide : ((0 : Int32)).toInt = 0); have := (by decide : ((1 : Int32)).toInt = 1); have := True.intro; exact ⟨by omega, by omega, by omega, by omega, by omega, by omega, by omega⟩
                  exact hq_Mo_isNew_214 hI  o9092.1 o9092.2.1 o9092.2.2.1 o9092.2.2.2.1 o9092.2.2.2.2.1 o9092.2.2.2.2.2.1 o9092.2.2.2.2.2.2 (fun r w9 hI9 hF9 q0 q1 => hQ r w9 hI9 ((FR.refl _ w).tr hF9 rfl) (by have := (by decide : ((0 : Int32)).toInt = 0); have := (by decide : ((1 : Int32)).toInt = 1); have := True.intro; omega) (by have := (by decide : ((0 : Int32)).toInt = 0); have := (by decide : ((1 : Int32)).toInt = 1); have := True.intro; omega))
            · refine ⟨fun h9093 => ?_, fun h9093 => ?_⟩
              · replace h9093 : 4 ≤ ((w.1 180 y187_2.toInt.toNat) + ys187_0).toInt := h9093
                have o9094 : (0 ≤ (0 : Int32).toInt) ∧ ((0 : Int32).toInt ≤ 1) := by have := (by decide : ((0 : Int32)).toInt = 0); exact ⟨by omega, by omega⟩
                exact hQ _ _ hI (FR.refl _ w)  o9094.1 o9094.2
              · replace h9093 : ¬ (4 ≤ ((w.1 180 y187_2.toInt.toNat) + ys187_0).toInt) := h9093
                have o9095 : ((-2) ≤ y187_2.toInt) ∧ (y187_2.toInt ≤ 19) ∧ ((-2) ≤ y187_3.toInt) ∧ (y187_3.toInt ≤ 19) ∧ (0 ≤ ys187_0.toInt) ∧ (ys187_0.toInt ≤ 1) ∧ ((w.1 127 86).toInt < 24) := by have := bd_127_86 hI; have := (by decide : ((0 : Int32)).toInt = 0); have := (by decide : ((4 : Int32)).toInt = 4); have := True.intro; exact ⟨by omega, by omega, by omega, by omega, by omega, by omega, by omega⟩
                exact hq_Mo_isNew_214 hI  o9095.1 o9095.2.1 o9095.2.2.1 o9095.2.2.2.1 o9095.2.2.2.2.1 o9095.2.2.2.2.2.1 o9095.2.2.2.2.2.2 (fun r w9 hI9 hF9 q0 q1 => hQ r w9 hI9 ((FR.refl _ w).tr hF9 rfl) (by have := (by decide : ((0 : Int32)).toInt = 0); have := (by decide : ((4 : Int32)).toInt = 4); have := True.intro; omega) (by have := (by decide : ((0 : Int32)).toInt = 0); have := (by decide : ((4 : Int32)).toInt = 4); have := True.intro; omega))
          · refine ⟨fun h9096 => ?_, fun h9096 => ?_⟩
            · replace h9096 : 3 ≤ ((w.1 180 y187_2.toInt.toNat) + ys187_0).toInt := h9096
              have o9097 : (0 ≤ (0 : Int32).toInt) ∧ ((0 : Int32).toInt ≤ 1) := by have := (by decide : ((0 : Int32)).toInt = 0); exact ⟨by omega, by omega⟩
              exact hQ _ _ hI (FR.refl _ w)  o9097.1 o9097.2
            · replace h9096 : ¬ (3 ≤ ((w.1 180 y187_2.toInt.toNat) + ys187_0).toInt) := h9096
              have o9098 : ((-2) ≤ y187_2.toInt) ∧ (y187_2.toInt ≤ 19) ∧ ((-2) ≤ y187_3.toInt) ∧ (y187_3.toInt ≤ 19) ∧ (0 ≤ ys187_0.toInt) ∧ (ys187_0.toInt ≤ 1) ∧ ((w.1 127 86).toInt < 24) := by have := bd_127_86 hI; have := (by decide : ((0 : Int32)).toInt = 0); have := (by decide : ((3 : Int32)).toInt = 3); have := True.intro; exact ⟨by omega, by omega, by omega, by omega, by omega, by omega, by omega⟩
              exact hq_Mo_isNew_214 hI  o9098.1 o9098.2.1 o9098.2.2.1 o9098.2.2.2.1 o9098.2.2.2.2.1 o9098.2.2.2.2.2.1 o9098.2.2.2.2.2.2 (fun r w9 hI9 hF9 q0 q1 => hQ r w9 hI9 ((FR.refl _ w).tr hF9 rfl) (by have := (by decide : ((0 : Int32)).toInt = 0); have := (by decide : ((3 : Int32)).toInt = 3); have := True.intro; omega) (by have := (by decide : ((0 : Int32)).toInt = 0); have := (by decide : ((3 : Int32)).toInt = 3); have := True.intro; omega))
      · refine ⟨fun h9099 => ?_, fun h9099 => ?_⟩
        · replace h9099 : 2 ≤ ((w.1 180 y187_2.toInt.toNat) + ys187_0).toInt := h9099
          have o9100 : (0 ≤ (0 : Int32).toInt) ∧ ((0 : Int32).toInt ≤ 1) := by have := (by decide : ((0 : Int32)).toInt = 0); exact ⟨by omega, by omega⟩
          exact hQ _ _ hI (FR.refl _ w)  o9100.1 o9100.2
        · replace h9099 : ¬ (2 ≤ ((w.1 180 y187_2.toInt.toNat) + ys187_0).toInt) := h9099
          have o9101 : ((-2) ≤ y187_2.toInt) ∧ (y187_2.toInt ≤ 19) ∧ ((-2) ≤ y187_3.toInt) ∧ (y187_3.toInt ≤ 19) ∧ (0 ≤ ys187_0.toInt) ∧ (ys187_0.toInt ≤ 1) ∧ ((w.1 127 86).toInt < 24) := by have := bd_127_86 hI; have := (by decide : ((0 : Int32)).toInt = 0); have := (by decide : ((2 : Int32)).toInt = 2); have := True.intro; exact ⟨by omega, by omega, by omega, by omega, by omega, by omega, by omega⟩
          exact hq_Mo_isNew_214 hI  o9101.1 o9101.2.1 o9101.2.2.1 o9101.2.2.2.1 o9101.2.2.2.2.1 o9101.2.2.2.2.2.1 o9101.2.2.2.2.2.2 (fun r w9 hI9 hF9 q0 q1 => hQ r w9 hI9 ((FR.refl _ w).tr hF9 rfl) (by have := (by decide : ((0 : Int32)).toInt = 0); have := (by decide : ((2 : Int32)).toInt = 2); have := True.intro; omega) (by have := (by decide : ((0 : Int32)).toInt = 0); have := (by decide : ((2 : Int32)).toInt = 2); have := True.intro; omega))
    · refine ⟨fun h9102 => ?_, fun h9102 => ?_⟩
      · replace h9102 : 1000 ≤ ((w.1 180 y187_2.toInt.toNat) + ys187_0).toInt := h9102
        have o9103 : (0 ≤ (0 : Int32).toInt) ∧ ((0 : Int32).toInt ≤ 1) := by have := (by decide : ((0 : Int32)).toInt = 0); exact ⟨by omega, by omega⟩
        exact hQ _ _ hI (FR.refl _ w)  o9103.1 o9103.2
      · replace h9102 : ¬ (1000 ≤ ((w.1 180 y187_2.toInt.toNat) + ys187_0).toInt) := h9102
        have o9104 : ((-2) ≤ y187_2.toInt) ∧ (y187_2.toInt ≤ 19) ∧ ((-2) ≤ y187_3.toInt) ∧ (y187_3.toInt ≤ 19) ∧ (0 ≤ ys187_0.toInt) ∧ (ys187_0.toInt ≤ 1) ∧ ((w.1 127 86).toInt < 24) := by have := bd_127_86 hI; have := (by decide : ((0 : Int32)).toInt = 0); have := (by decide : ((1000 : Int32)).toInt = 1000); have := True.intro; exact ⟨by omega, by omega, by omega, by omega, by omega, by omega, by omega⟩
        exact hq_Mo_isNew_214 hI  o9104.1 o9104.2.1 o9104.2.2.1 o9104.2.2.2.1 o9104.2.2.2.2.1 o9104.2.2.2.2.2.1 o9104.2.2.2.2.2.2 (fun r w9 hI9 hF9 q0 q1 => hQ r w9 hI9 ((FR.refl _ w).tr hF9 rfl) (by have := (by decide : ((0 : Int32)).toInt = 0); have := (by decide : ((1000 : Int32)).toInt = 1000); have := True.intro; omega) (by have := (by decide : ((0 : Int32)).toInt = 0); have := (by decide : ((1000 : Int32)).toInt = 1000); have := True.intro; omega))
set_option maxRecDepth 20000 in
set_option maxHeartbeats 2000000 in
theorem hq_Mo_isNew_61 {y61_1 : Int32} {ys61_0 : Int32} {w : MW} {Q : Int32 → MW → Prop} (hI : BND w) (hp0 : 0 ≤ y61_1.toInt) (hp1 : y61_1.toInt ≤ 2) (hp2 : 0 ≤ ys61_0.toInt) (hp3 : ys61_0.toInt ≤ 1) (hp4 : ys61_0.toInt = 0 ∨ (w.1 127 85).toInt < 20) (hp5 : ys61_0.toInt = 0 ∨ ¬ y61_1.toInt = 2 ∨ (0 ≤ (w.1 178 0).toInt ∧ (w.1 178 0).toInt ≤ 7)) (hp6 : ¬ y61_1.toInt = 3) (hQ : ∀ (r : Int32) (w' : MW), BND w' → FR l_Mo_isNew_61 w w' → 0 ≤ r.toInt → r.toInt ≤ 1 → Q r w') : q_Mo_isNew_61 y61_1 ys61_0 w Q := by
  refine Eq.mpr (q_Mo_isNew_61.eq_1 _ _ _ _) ?_
  refine ⟨fun h9105 => ?_, fun h9105 => ?_⟩
  · have o9106 : ys61_0.toInt = 0 ∨ ys61_0.toInt = 1 := by have := bd_127_85 hI; have := bd_178 hI 0; have := (by decide : ((0 : Int32)).toInt = 0); omega
    refine ⟨o9106, ?_⟩
    have o9107 : (0 ≤ ys61_0.toInt) ∧ (ys61_0.toInt ≤ 1) := by have := bd_127_85 hI; have := bd_178 hI 0; have := (by decide : ((0 : Int32)).toInt = 0); exact ⟨by omega, by omega⟩
    exact hQ _ _ hI (FR.refl _ w)  o9107.1 o9107.2
  · refine ⟨fun h9108 => ?_, fun h9108 => ?_⟩
    · refine Eq.mpr (q_Mo_isNew_91.eq_1 _ _ _ _ _) ?_
      have o9109 : 0 ≤ (w.1 127 85).toInt ∧ (w.1 127 85).toInt < 20 := by have := bd_127_85 hI; have := bd_178 hI 0; have := (by decide : ((0 : Int32)).toInt = 0); have := (by decide : ((2 : Int32)).toInt = 2); omega
      refine ⟨o9109, ?_⟩
      have o9110 : 0 ≤ (w.1 127 85).toInt ∧ (w.1 127 85).toInt < 20 := by have := bd_127_85 hI; have := bd_178 hI 0; have := (by decide : ((0 : Int32)).toInt = 0); have := (by decide : ((2 : Int32)).toInt = 2); omega
      refine ⟨o9110, ?_⟩
      have o9111 : ys61_0.toInt = 0 ∨ ys61_0.toInt = 1 := by have := bd_127_85 hI; have := bd_178 hI 0; have := (by decide : ((0 : Int32)).toInt = 0); have := (by decide : ((2 : Int32)).toInt = 2); omega
      refine ⟨o9111, ?_⟩
      have o9113 : 0 ≤ y61_1.toInt ∧ y61_1.toInt ≤ 9 := by have := bd_178 hI 0; have := (by decide : ((0 : Int32)).toInt = 0); have := (by decide : ((2 : Int32)).toInt = 2); have := bd_127_85 hI; omega
      have hI9112 : BND (sI w 179 ((w.1 127 85).toInt.toNat) y61_1) := wbd_179 hI ((w.1 127 85).toInt.toNat) o9113.1 o9113.2
      have hI9114 : BND (sI (sI w 179 ((w.1 127 85).toInt.toNat) y61_1) 180 ((w.1 127 85).toInt.toNat) 0) := wbd_180 hI9112 ((w.1 127 85).toInt.toNat)
      have o9116 : 0 ≤ ((w.1 127 85) + (1 : Int32)).toInt ∧ ((w.1 127 85) + (1 : Int32)).toInt ≤ 20 := by have := bd_127_85 hI; have := bd_178 hI 0; have := (by decide : ((0 : Int32)).toInt = 0); have := (by decide : ((2 : Int32)).toInt = 2); have := ti_add2 (Eq.refl (w.1 127 85).toInt) (by decide : ((1 : Int32)).toInt = 1) (by omega) (by omega); omega
      have hI9115 : BND (sI (sI (sI w 179 ((w.1 127 85).toInt.toNat) y61_1) 180 ((w.1 127 85).toInt.toNat) 0) 127 85 ((w.1 127 85) + (1 : Int32))) := wbd_127_85 hI9114 o9116.1 o9116.2
      have o9117 : (0 ≤ ys61_0.toInt) ∧ (ys61_0.toInt ≤ 1) := by have := bd_127_85 hI; have := bd_178 hI 0; have := (by decide : ((0 : Int32)).toInt = 0); have := (by decide : ((2 : Int32)).toInt = 2); exact ⟨by omega, by omega⟩
      exact hQ _ _ hI9115 (FR.I (FR.I (FR.I (FR.refl _ w) (k := 179) (j := (w.1 127 85).toInt.toNat) (v := y61_1) rfl) (k := 180) (j := (w.1 127 85).toInt.toNat) (v := 0) rfl) (k := 127) (j := 85) (v := ((w.1 127 85) + (1 : Int32))) rfl)  o9117.1 o9117.2
    · refine Eq.mpr (q_Mo_isNew_91.eq_1 _ _ _ _ _) ?_
      have o9118 : 0 ≤ (w.1 127 85).toInt ∧ (w.1 127 85).toInt < 20 := by have := bd_127_85 hI; have := bd_178 hI 0; have := (by decide : ((0 : Int32)).toInt = 0); have := (by decide : ((2 : Int32)).toInt = 2); omega
      refine ⟨o9118, ?_⟩
      have o9119 : 0 ≤ (w.1 127 85).toInt ∧ (w.1 127 85).toInt < 20 := by have := bd_127_85 hI; have := bd_178 hI 0; have := (by decide : ((0 : Int32)).toInt = 0); have := (by decide : ((2 : Int32)).toInt = 2); omega
      refine ⟨o9119, ?_⟩
      have o9120 : ys61_0.toInt = 0 ∨ ys61_0.toInt = 1 := by have := bd_127_85 hI; have := bd_178 hI 0; have := (by decide : ((0 : Int32)).toInt = 0); have := (by decide : ((2 : Int32)).toInt = 2); omega
      refine ⟨o9120, ?_⟩
      have o9122 : 0 ≤ ((2 : Int32) + (w.1 178 0)).toInt ∧ ((2 : Int32) + (w.1 178 0)).toInt ≤ 9 := by have := bd_178 hI 0; have := (by decide : ((0 : Int32)).toInt = 0); have := (by decide : ((2 : Int32)).toInt = 2); have := bd_127_85 hI; have := ti_add2 (by decide : ((2 : Int32)).toInt = 2) (Eq.refl (w.1 178 0).toInt) (by omega) (by omega); omega
      have hI9121 : BND (sI w 179 ((w.1 127 85).toInt.toNat) ((2 : Int32) + (w.1 178 0))) := wbd_179 hI ((w.1 127 85).toInt.toNat) o9122.1 o9122.2
      have hI9123 : BND (sI (sI w 179 ((w.1 127 85).toInt.toNat) ((2 : Int32) + (w.1 178 0))) 180 ((w.1 127 85).toInt.toNat) 0) := wbd_180 hI9121 ((w.1 127 85).toInt.toNat)
      have o9125 : 0 ≤ ((w.1 127 85) + (1 : Int32)).toInt ∧ ((w.1 127 85) + (1 : Int32)).toInt ≤ 20 := by have := bd_127_85 hI; have := bd_178 hI 0; have := (by decide : ((0 : Int32)).toInt = 0); have := (by decide : ((2 : Int32)).toInt = 2); have := ti_add2 (Eq.refl (w.1 127 85).toInt) (by decide : ((1 : Int32)).toInt = 1) (by omega) (by omega); omega
      have hI9124 : BND (sI (sI (sI w 179 ((w.1 127 85).toInt.toNat) ((2 : Int32) + (w.1 178 0))) 180 ((w.1 127 85).toInt.toNat) 0) 127 85 ((w.1 127 85) + (1 : Int32))) := wbd_127_85 hI9123 o9125.1 o9125.2
      have o9126 : (0 ≤ ys61_0.toInt) ∧ (ys61_0.toInt ≤ 1) := by have := bd_127_85 hI; have := bd_178 hI 0; have := (by decide : ((0 : Int32)).toInt = 0); have := (by decide : ((2 : Int32)).toInt = 2); exact ⟨by omega, by omega⟩
      exact hQ _ _ hI9124 (FR.I (FR.I (FR.I (FR.refl _ w) (k := 179) (j := (w.1 127 85).toInt.toNat) (v := ((2 : Int32) + (w.1 178 0))) rfl) (k := 180) (j := (w.1 127 85).toInt.toNat) (v := 0) rfl) (k := 127) (j := 85) (v := ((w.1 127 85) + (1 : Int32))) rfl)  o9126.1 o9126.2
set_option maxRecDepth 20000 in
set_option maxHeartbeats 2000000 in
theorem hq_Mo_isNew_40 {y40_1 : Int32} {w : MW} {Q : Int32 → MW → Prop} (hI : BND w) (hp0 : 0 ≤ y40_1.toInt) (hp1 : y40_1.toInt ≤ 2) (hp2 : (w.1 127 85).toInt < 20) (hp3 : y40_1.toInt = 1 ∨ 0 ≤ (w.1 178 0).toInt) (hp4 : ¬ y40_1.toInt = 3) (hQ : ∀ (r : Int32) (w' : MW), BND w' → FR l_Mo_isNew_40 w w' → 0 ≤ r.toInt → r.toInt ≤ 1 → Q r w') : q_Mo_isNew_40 y40_1 w Q := by
  refine Eq.mpr (q_Mo_isNew_40.eq_1 _ _ _) ?_
  refine ⟨fun h9127 => ?_, fun h9127 => ?_⟩
  · have o9128 : (0 ≤ y40_1.toInt) ∧ (y40_1.toInt ≤ 2) ∧ (0 ≤ (1 : Int32).toInt) ∧ ((1 : Int32).toInt ≤ 1) ∧ ((1 : Int32).toInt = 0 ∨ (w.1 127 85).toInt < 20) ∧ ((1 : Int32).toInt = 0 ∨ ¬ y40_1.toInt = 2 ∨ (0 ≤ (w.1 178 0).toInt ∧ (w.1 178 0).toInt ≤ 7)) ∧ (¬ y40_1.toInt = 3) := by have := (by decide : ((1 : Int32)).toInt = 1); have := bd_127_85 hI; have := bd_178 hI 0; have := (by decide : ((2 : Int32)).toInt = 2); exact ⟨by omega, by omega, by omega, by omega, by omega, by omega, by omega⟩
    exact hq_Mo_isNew_61 hI  o9128.1 o9128.2.1 o9128.2.2.1 o9128.2.2.2.1 o9128.2.2.2.2.1 o9128.2.2.2.2.2.1 o9128.2.2.2.2.2.2 (fun r w9 hI9 hF9 q0 q1 => hQ r w9 hI9 ((FR.refl _ w).tr hF9 rfl) (by have := (by decide : ((1 : Int32)).toInt = 1); have := bd_178 hI 0; have := (by decide : ((2 : Int32)).toInt = 2); omega) (by have := (by decide : ((1 : Int32)).toInt = 1); have := bd_178 hI 0; have := (by decide : ((2 : Int32)).toInt = 2); omega))
  · refine ⟨fun h9129 => ?_, fun h9129 => ?_⟩
    · have o9130 : (0 ≤ y40_1.toInt) ∧ (y40_1.toInt ≤ 2) ∧ (0 ≤ (0 : Int32).toInt) ∧ ((0 : Int32).toInt ≤ 1) ∧ ((0 : Int32).toInt = 0 ∨ (w.1 127 85).toInt < 20) ∧ ((0 : Int32).toInt = 0 ∨ ¬ y40_1.toInt = 2 ∨ (0 ≤ (w.1 178 0).toInt ∧ (w.1 178 0).toInt ≤ 7)) ∧ (¬ y40_1.toInt = 3) := by have := (by decide : ((0 : Int32)).toInt = 0); have := bd_127_85 hI; have := bd_178 hI 0; have := (by decide : ((2 : Int32)).toInt = 2); have := (by decide : ((7 : Int32)).toInt = 7); exact ⟨by omega, by omega, by omega, by omega, by omega, by omega, by omega⟩
      exact hq_Mo_isNew_61 hI  o9130.1 o9130.2.1 o9130.2.2.1 o9130.2.2.2.1 o9130.2.2.2.2.1 o9130.2.2.2.2.2.1 o9130.2.2.2.2.2.2 (fun r w9 hI9 hF9 q0 q1 => hQ r w9 hI9 ((FR.refl _ w).tr hF9 rfl) (by have := (by decide : ((0 : Int32)).toInt = 0); have := bd_178 hI 0; have := (by decide : ((2 : Int32)).toInt = 2); have := (by decide : ((7 : Int32)).toInt = 7); omega) (by have := (by decide : ((0 : Int32)).toInt = 0); have := bd_178 hI 0; have := (by decide : ((2 : Int32)).toInt = 2); have := (by decide : ((7 : Int32)).toInt = 7); omega))
    · have o9131 : (0 ≤ y40_1.toInt) ∧ (y40_1.toInt ≤ 2) ∧ (0 ≤ (1 : Int32).toInt) ∧ ((1 : Int32).toInt ≤ 1) ∧ ((1 : Int32).toInt = 0 ∨ (w.1 127 85).toInt < 20) ∧ ((1 : Int32).toInt = 0 ∨ ¬ y40_1.toInt = 2 ∨ (0 ≤ (w.1 178 0).toInt ∧ (w.1 178 0).toInt ≤ 7)) ∧ (¬ y40_1.toInt = 3) := by have := (by decide : ((1 : Int32)).toInt = 1); have := bd_127_85 hI; have := bd_178 hI 0; have := (by decide : ((2 : Int32)).toInt = 2); have := (by decide : ((7 : Int32)).toInt = 7); exact ⟨by omega, by omega, by omega, by omega, by omega, by omega, by omega⟩
      exact hq_Mo_isNew_61 hI  o9131.1 o9131.2.1 o9131.2.2.1 o9131.2.2.2.1 o9131.2.2.2.2.1 o9131.2.2.2.2.2.1 o9131.2.2.2.2.2.2 (fun r w9 hI9 hF9 q0 q1 => hQ r w9 hI9 ((FR.refl _ w).tr hF9 rfl) (by have := (by decide : ((1 : Int32)).toInt = 1); have := bd_178 hI 0; have := (by decide : ((2 : Int32)).toInt = 2); have := (by decide : ((7 : Int32)).toInt = 7); omega) (by have := (by decide : ((1 : Int32)).toInt = 1); have := bd_178 hI 0; have := (by decide : ((2 : Int32)).toInt = 2); have := (by decide : ((7 : Int32)).toInt = 7); omega))
set_option maxRecDepth 20000 in
set_option maxHeartbeats 2000000 in
theorem h_Mo_isNew {w : MW} {a0 : Int32} {Q : Int32 → MW → Prop} (hI : BND w) (hp0 : 0 ≤ a0.toInt) (hp1 : a0.toInt ≤ 3) (hp2 : a0.toInt = 1 ∨ a0.toInt = 3 ∨ 0 ≤ (w.1 178 0).toInt) (hp3 : ¬ a0.toInt = 3 ∨ (-1 ≤ (w.1 178 0).toInt ∧ -1 ≤ (w.1 178 1).toInt ∧ 0 ≤ (w.1 178 2).toInt)) (hQ : ∀ (r : Int32) (w' : MW), BND w' → FR l_Mo_isNew w w' → 0 ≤ r.toInt → r.toInt ≤ 1 → Q r w') : p_Mo_isNew w a0 Q := by
  refine Eq.mpr (p_Mo_isNew.eq_1 _ _ _) ?_
  refine ⟨fun h9132 => ?_, fun h9132 => ?_⟩
  · refine ⟨fun h9133 => ?_, fun h9133 => ?_⟩
    · have o9134 : (0 ≤ (0 : Int32).toInt) ∧ ((0 : Int32).toInt ≤ 1) := by have := (by decide : ((0 : Int32)).toInt = 0); exact ⟨by omega, by omega⟩
      exact hQ _ _ hI (FR.refl _ w)  o9134.1 o9134.2
    · refine ⟨fun h9135 => ?_, fun h9135 => ?_⟩
      · have o9136 : (0 ≤ (0 : Int32).toInt) ∧ ((0 : Int32).toInt ≤ 1) := by have := (by decide : ((0 : Int32)).toInt = 0); exact ⟨by omega, by omega⟩
        exact hQ _ _ hI (FR.refl _ w)  o9136.1 o9136.2
      · refine ⟨fun h9137 => ?_, fun h9137 => ?_⟩
        · have o9138 : (0 ≤ (0 : Int32).toInt) ∧ ((0 : Int32).toInt ≤ 1) := by have := (by decide : ((0 : Int32)).toInt = 0); exact ⟨by omega, by omega⟩
          exact hQ _ _ hI (FR.refl _ w)  o9138.1 o9138.2
        · refine ⟨fun h9139 => ?_, fun h9139 => ?_⟩
          · have o9140 : (0 ≤ (0 : Int32).toInt) ∧ ((0 : Int32).toInt ≤ 1) := by have := (by decide : ((0 : Int32)).toInt = 0); exact ⟨by omega, by omega⟩
            exact hQ _ _ hI (FR.refl _ w)  o9140.1 o9140.2
          · refine ⟨fun h9141 => ?_, fun h9141 => ?_⟩
            · refine ⟨fun h9142 => ?_, fun h9142 => ?_⟩
              · have o9143 : ((-2) ≤ (w.1 178 0).toInt) ∧ ((w.1 178 0).toInt ≤ 19) ∧ ((-2) ≤ (w.1 178 1).toInt) ∧ ((w.1 178 1).toInt ≤ 19) ∧ (0 ≤ (0 : Int32).toInt) ∧ ((0 : Int32).toInt ≤ 1) ∧ ((w.1 127 86).toInt < 24) := by have := bd_178 hI 0; have := bd_178 hI 1; have := (by decide : ((0 : Int32)).toInt = 0); have := bd_127_86 hI; have := bd_178 hI 2; have := (by decide : ((3 : Int32)).toInt = 3); have := (by decide : ((24 : Int32)).toInt = 24); have := (by decide : ((1 : Int32)).toInt = 1); have := (by decide : ((200 : Int32)).toInt = 200); have := bd_127_85 hI; exact ⟨by omega, by omega, by omega, by omega, by omega, by omega, by omega⟩
                exact hq_Mo_isNew_187 hI  o9143.1 o9143.2.1 o9143.2.2.1 o9143.2.2.2.1 o9143.2.2.2.2.1 o9143.2.2.2.2.2.1 o9143.2.2.2.2.2.2 (fun r w9 hI9 hF9 q0 q1 => hQ r w9 hI9 ((FR.refl _ w).tr hF9 rfl) (by have := bd_178 hI 0; have := bd_178 hI 1; have := (by decide : ((0 : Int32)).toInt = 0); have := bd_178 hI 2; have := (by decide : ((3 : Int32)).toInt = 3); have := (by decide : ((1 : Int32)).toInt = 1); have := (by decide : ((200 : Int32)).toInt = 200); have := bd_127_85 hI; omega) (by have := bd_178 hI 0; have := bd_178 hI 1; have := (by decide : ((0 : Int32)).toInt = 0); have := bd_178 hI 2; have := (by decide : ((3 : Int32)).toInt = 3); have := (by decide : ((1 : Int32)).toInt = 1); have := (by decide : ((200 : Int32)).toInt = 200); have := bd_127_85 hI; omega))
              · have o9144 : ((-2) ≤ (w.1 178 0).toInt) ∧ ((w.1 178 0).toInt ≤ 19) ∧ ((-2) ≤ (w.1 178 1).toInt) ∧ ((w.1 178 1).toInt ≤ 19) ∧ (0 ≤ (1 : Int32).toInt) ∧ ((1 : Int32).toInt ≤ 1) ∧ ((w.1 127 86).toInt < 24) := by have := bd_178 hI 0; have := bd_178 hI 1; have := (by decide : ((1 : Int32)).toInt = 1); have := bd_127_86 hI; have := bd_178 hI 2; have := (by decide : ((3 : Int32)).toInt = 3); have := (by decide : ((24 : Int32)).toInt = 24); have := (by decide : ((200 : Int32)).toInt = 200); have := bd_127_85 hI; exact ⟨by omega, by omega, by omega, by omega, by omega, by omega, by omega⟩
                exact hq_Mo_isNew_187 hI  o9144.1 o9144.2.1 o9144.2.2.1 o9144.2.2.2.1 o9144.2.2.2.2.1 o9144.2.2.2.2.2.1 o9144.2.2.2.2.2.2 (fun r w9 hI9 hF9 q0 q1 => hQ r w9 hI9 ((FR.refl _ w).tr hF9 rfl) (by have := bd_178 hI 0; have := bd_178 hI 1; have := (by decide : ((1 : Int32)).toInt = 1); have := bd_178 hI 2; have := (by decide : ((3 : Int32)).toInt = 3); have := (by decide : ((200 : Int32)).toInt = 200); have := bd_127_85 hI; omega) (by have := bd_178 hI 0; have := bd_178 hI 1; have := (by decide : ((1 : Int32)).toInt = 1); have := bd_178 hI 2; have := (by decide : ((3 : Int32)).toInt = 3); have := (by decide : ((200 : Int32)).toInt = 200); have := bd_127_85 hI; omega))
            · have o9145 : (0 ≤ (0 : Int32).toInt) ∧ ((0 : Int32).toInt ≤ 1) := by have := (by decide : ((0 : Int32)).toInt = 0); exact ⟨by omega, by omega⟩
              exact hQ _ _ hI (FR.refl _ w)  o9145.1 o9145.2
  · refine ⟨fun h9146 => ?_, fun h9146 => ?_⟩
    · have o9147 : (0 ≤ a0.toInt) ∧ (a0.toInt ≤ 2) ∧ (0 ≤ (0 : Int32).toInt) ∧ ((0 : Int32).toInt ≤ 1) ∧ ((0 : Int32).toInt = 0 ∨ (w.1 127 85).toInt < 20) ∧ ((0 : Int32).toInt = 0 ∨ ¬ a0.toInt = 2 ∨ (0 ≤ (w.1 178 0).toInt ∧ (w.1 178 0).toInt ≤ 7)) ∧ (¬ a0.toInt = 3) := by have := (by decide : ((0 : Int32)).toInt = 0); have := bd_127_85 hI; have := bd_178 hI 0; have := bd_178 hI 1; have := bd_178 hI 2; have := (by decide : ((3 : Int32)).toInt = 3); have := (by decide : ((20 : Int32)).toInt = 20); exact ⟨by omega, by omega, by omega, by omega, by omega, by omega, by omega⟩
      exact hq_Mo_isNew_61 hI  o9147.1 o9147.2.1 o9147.2.2.1 o9147.2.2.2.1 o9147.2.2.2.2.1 o9147.2.2.2.2.2.1 o9147.2.2.2.2.2.2 (fun r w9 hI9 hF9 q0 q1 => hQ r w9 hI9 ((FR.refl _ w).tr hF9 rfl) (by have := (by decide : ((0 : Int32)).toInt = 0); have := bd_178 hI 0; have := bd_178 hI 1; have := bd_178 hI 2; have := (by decide : ((3 : Int32)).toInt = 3); omega) (by have := (by decide : ((0 : Int32)).toInt = 0); have := bd_178 hI 0; have := bd_178 hI 1; have := bd_178 hI 2; have := (by decide : ((3 : Int32)).toInt = 3); omega))
    · refine ⟨fun h9148 => ?_, fun h9148 => ?_⟩
      · have o9149 : (0 ≤ a0.toInt) ∧ (a0.toInt ≤ 2) ∧ ((w.1 127 85).toInt < 20) ∧ (a0.toInt = 1 ∨ 0 ≤ (w.1 178 0).toInt) ∧ (¬ a0.toInt = 3) := by have := bd_127_85 hI; have := bd_178 hI 0; have := bd_178 hI 1; have := bd_178 hI 2; have := (by decide : ((3 : Int32)).toInt = 3); have := (by decide : ((20 : Int32)).toInt = 20); have := (by decide : ((0 : Int32)).toInt = 0); exact ⟨by omega, by omega, by omega, by omega, by omega⟩
        exact hq_Mo_isNew_40 hI  o9149.1 o9149.2.1 o9149.2.2.1 o9149.2.2.2.1 o9149.2.2.2.2 (fun r w9 hI9 hF9 q0 q1 => hQ r w9 hI9 ((FR.refl _ w).tr hF9 rfl) (by have := bd_178 hI 0; have := bd_178 hI 1; have := bd_178 hI 2; have := (by decide : ((3 : Int32)).toInt = 3); have := (by decide : ((0 : Int32)).toInt = 0); omega) (by have := bd_178 hI 0; have := bd_178 hI 1; have := bd_178 hI 2; have := (by decide : ((3 : Int32)).toInt = 3); have := (by decide : ((0 : Int32)).toInt = 0); omega))
      · refine ⟨fun h9150 => ?_, fun h9150 => ?_⟩
        · have o9151 : (0 ≤ a0.toInt) ∧ (a0.toInt ≤ 2) ∧ (0 ≤ (0 : Int32).toInt) ∧ ((0 : Int32).toInt ≤ 1) ∧ ((0 : Int32).toInt = 0 ∨ (w.1 127 85).toInt < 20) ∧ ((0 : Int32).toInt = 0 ∨ ¬ a0.toInt = 2 ∨ (0 ≤ (w.1 178 0).toInt ∧ (w.1 178 0).toInt ≤ 7)) ∧ (¬ a0.toInt = 3) := by have := (by decide : ((0 : Int32)).toInt = 0); have := bd_127_85 hI; have := bd_178 hI 0; have := bd_178 hI 1; have := bd_178 hI 2; have := (by decide : ((3 : Int32)).toInt = 3); have := (by decide : ((20 : Int32)).toInt = 20); have := (by decide : ((1 : Int32)).toInt = 1); exact ⟨by omega, by omega, by omega, by omega, by omega, by omega, by omega⟩
          exact hq_Mo_isNew_61 hI  o9151.1 o9151.2.1 o9151.2.2.1 o9151.2.2.2.1 o9151.2.2.2.2.1 o9151.2.2.2.2.2.1 o9151.2.2.2.2.2.2 (fun r w9 hI9 hF9 q0 q1 => hQ r w9 hI9 ((FR.refl _ w).tr hF9 rfl) (by have := (by decide : ((0 : Int32)).toInt = 0); have := bd_178 hI 0; have := bd_178 hI 1; have := bd_178 hI 2; have := (by decide : ((3 : Int32)).toInt = 3); have := (by decide : ((1 : Int32)).toInt = 1); omega) (by have := (by decide : ((0 : Int32)).toInt = 0); have := bd_178 hI 0; have := bd_178 hI 1; have := bd_178 hI 2; have := (by decide : ((3 : Int32)).toInt = 3); have := (by decide : ((1 : Int32)).toInt = 1); omega))
        · refine ⟨fun h9152 => ?_, fun h9152 => ?_⟩
          · have o9153 : (0 ≤ a0.toInt) ∧ (a0.toInt ≤ 2) ∧ (0 ≤ (0 : Int32).toInt) ∧ ((0 : Int32).toInt ≤ 1) ∧ ((0 : Int32).toInt = 0 ∨ (w.1 127 85).toInt < 20) ∧ ((0 : Int32).toInt = 0 ∨ ¬ a0.toInt = 2 ∨ (0 ≤ (w.1 178 0).toInt ∧ (w.1 178 0).toInt ≤ 7)) ∧ (¬ a0.toInt = 3) := by have := (by decide : ((0 : Int32)).toInt = 0); have := bd_127_85 hI; have := bd_178 hI 0; have := bd_178 hI 1; have := bd_178 hI 2; have := (by decide : ((3 : Int32)).toInt = 3); have := (by decide : ((20 : Int32)).toInt = 20); have := (by decide : ((1 : Int32)).toInt = 1); have := (by decide : ((100000 : Int32)).toInt = 100000); exact ⟨by omega, by omega, by omega, by omega, by omega, by omega, by omega⟩
            exact hq_Mo_isNew_61 hI  o9153.1 o9153.2.1 o9153.2.2.1 o9153.2.2.2.1 o9153.2.2.2.2.1 o9153.2.2.2.2.2.1 o9153.2.2.2.2.2.2 (fun r w9 hI9 hF9 q0 q1 => hQ r w9 hI9 ((FR.refl _ w).tr hF9 rfl) (by have := (by decide : ((0 : Int32)).toInt = 0); have := bd_178 hI 0; have := bd_178 hI 1; have := bd_178 hI 2; have := (by decide : ((3 : Int32)).toInt = 3); have := (by decide : ((1 : Int32)).toInt = 1); have := (by decide : ((100000 : Int32)).toInt = 100000); omega) (by have := (by decide : ((0 : Int32)).toInt = 0); have := bd_178 hI 0; have := bd_178 hI 1; have := bd_178 hI 2; have := (by decide : ((3 : Int32)).toInt = 3); have := (by decide : ((1 : Int32)).toInt = 1); have := (by decide : ((100000 : Int32)).toInt = 100000); omega))
          · have o9154 : (0 ≤ a0.toInt) ∧ (a0.toInt ≤ 2) ∧ ((w.1 127 85).toInt < 20) ∧ (a0.toInt = 1 ∨ 0 ≤ (w.1 178 0).toInt) ∧ (¬ a0.toInt = 3) := by have := bd_127_85 hI; have := bd_178 hI 0; have := bd_178 hI 1; have := bd_178 hI 2; have := (by decide : ((3 : Int32)).toInt = 3); have := (by decide : ((20 : Int32)).toInt = 20); have := (by decide : ((0 : Int32)).toInt = 0); have := (by decide : ((1 : Int32)).toInt = 1); have := (by decide : ((100000 : Int32)).toInt = 100000); exact ⟨by omega, by omega, by omega, by omega, by omega⟩
            exact hq_Mo_isNew_40 hI  o9154.1 o9154.2.1 o9154.2.2.1 o9154.2.2.2.1 o9154.2.2.2.2 (fun r w9 hI9 hF9 q0 q1 => hQ r w9 hI9 ((FR.refl _ w).tr hF9 rfl) (by have := bd_178 hI 0; have := bd_178 hI 1; have := bd_178 hI 2; have := (by decide : ((3 : Int32)).toInt = 3); have := (by decide : ((0 : Int32)).toInt = 0); have := (by decide : ((1 : Int32)).toInt = 1); have := (by decide : ((100000 : Int32)).toInt = 100000); omega) (by have := bd_178 hI 0; have := bd_178 hI 1; have := bd_178 hI 2; have := (by decide : ((3 : Int32)).toInt = 3); have := (by decide : ((0 : Int32)).toInt = 0); have := (by decide : ((1 : Int32)).toInt = 1); have := (by decide : ((100000 : Int32)).toInt = 100000); omega))
