/-! the reference's text: isSmall -/
def csum (f : Int → Int) : Nat → Int
  | 0 => 0
  | n + 1 => csum f n + f (n : Int)
theorem csum_0 (f : Int → Int) : csum f 0 = 0 := rfl
theorem csum_s (f : Int → Int) (n : Nat) : csum f (n + 1) = csum f n + f (n : Int) := rfl
theorem csum_b {f : Int → Int} {B : Int} (h : ∀ k, 0 ≤ f k ∧ f k ≤ B) (n : Nat) : 0 ≤ csum f n ∧ csum f n ≤ B * (n : Int) := by
  induction n with
  | zero => rw [csum_0]; omega
  | succ n ih =>
    have q := h (n : Int)
    rw [csum_s, Int.natCast_succ, Int.mul_add, Int.mul_one]
    omega
theorem csum_c {f g : Int → Int} (n : Nat) (h : ∀ k, 0 ≤ k → k < (n : Int) → f k = g k) : csum f n = csum g n := by
  induction n with
  | zero => rfl
  | succ n ih =>
    rw [csum_s, csum_s, ih (fun k a b => h k a (by omega)), h (n : Int) (by omega) (by omega)]
def cst (w : MW) (m : Int) : Int := (w.1 145 m.toNat).toInt
def cnt (v : MW) (m : Int) : Int := (v.1 136 (nb v m)).toInt
/-- what the costs c say of node m -/
def CSv (v : MW) (c : Int → Int) (m : Int) : Prop := c m ≤ 500 → 10 ≤ Kb v m → Kb v m ≤ 23 → 1 + csum (fun k => c (kidB v m k)) (cnt v m).toNat ≤ c m ∧ (Kb v m = 19 → 1 + c (kidB v (stB v (numB v m)) 0) ≤ c m)
def WSm (w0 : MW) (N : Nat) (a b : Int32) (w : MW) : Prop := (∀ k j, ¬ (k = 145 ∧ j = N) → ¬ (k = 146 ∧ j = N) → w.1 k j = w0.1 k j) ∧ w.2 = w0.2 ∧ w.1 145 N = a ∧ w.1 146 N = b
theorem WSm.set {w0 w : MW} {N : Nat} {a b a' b' : Int32} (h : WSm w0 N a b w) : WSm w0 N a' b' (sI (sI w 145 N a') 146 N b') := by
  refine ⟨fun k j h1 h2 => ?_, h.2.1, ?_, ?_⟩
  · rw [sI_at, if_neg (fun q => h2 ⟨q.1, q.2⟩), sI_at, if_neg (fun q => h1 ⟨q.1, q.2⟩)]
    exact h.1 k j h1 h2
  · rw [sI_oth _ _ _ _ _ _ (by decide), sI_same]
  · rw [sI_same]
theorem WSm.set2 {w0 w : MW} {N : Nat} {a b a' b' : Int32} (h : WSm w0 N a b w) : WSm w0 N a' b' (sI (sI w 146 N b') 145 N a') := by
  refine ⟨fun k j h1 h2 => ?_, h.2.1, ?_, ?_⟩
  · rw [sI_at, if_neg (fun q => h1 ⟨q.1, q.2⟩), sI_at, if_neg (fun q => h2 ⟨q.1, q.2⟩)]
    exact h.1 k j h1 h2
  · rw [sI_same]
  · rw [sI_oth _ _ _ _ _ _ (by decide), sI_same]
theorem WSm.a {w0 w : MW} {N : Nat} {a b a' : Int32} (h : WSm w0 N a b w) : WSm w0 N a' b (sI w 145 N a') := by
  refine ⟨fun k j h1 h2 => ?_, h.2.1, ?_, ?_⟩
  · rw [sI_at, if_neg (fun q => h1 ⟨q.1, q.2⟩)]
    exact h.1 k j h1 h2
  · rw [sI_same]
  · rw [sI_oth _ _ _ _ _ _ (by decide)]
    exact h.2.2.2
theorem WSm.b {w0 w : MW} {N : Nat} {a b b' : Int32} (h : WSm w0 N a b w) : WSm w0 N a b' (sI w 146 N b') := by
  refine ⟨fun k j h1 h2 => ?_, h.2.1, ?_, ?_⟩
  · rw [sI_at, if_neg (fun q => h2 ⟨q.1, q.2⟩)]
    exact h.1 k j h1 h2
  · rw [sI_oth _ _ _ _ _ _ (by decide)]
    exact h.2.2.1
  · rw [sI_same]
def lsm : Pl := [(145, none), (146, none)]
theorem WSm.fr {w0 w : MW} {N : Nat} {a b : Int32} (h : WSm w0 N a b w) : FR lsm w0 w := fun k j hk => by
  have n1 : k ≠ 145 := fun c => by rw [c] at hk; exact absurd hk (by simp [hit, lsm])
  have n2 : k ≠ 146 := fun c => by rw [c] at hk; exact absurd hk (by simp [hit, lsm])
  exact ⟨h.1 k j (fun c => n1 c.1) (fun c => n2 c.1), by rw [h.2.1], by rw [h.2.1]⟩
theorem WSm.bnd {w0 w : MW} {N : Nat} {a b : Int32} (hI : BND w0) (h : WSm w0 N a b w) (a0 : 0 ≤ a.toInt) (a1 : a.toInt ≤ 501) (b0 : 0 ≤ b.toInt) (b1 : b.toInt ≤ 301) : BND w := by
  intro k j
  by_cases c : k = 145 ∧ j = N
  · obtain ⟨rfl, rfl⟩ := c
    rw [h.2.2.1]
    exact ⟨a0, a1⟩
  · by_cases c2 : k = 146 ∧ j = N
    · obtain ⟨rfl, rfl⟩ := c2
      rw [h.2.2.2]
      exact ⟨b0, b1⟩
    · rw [h.1 k j c c2]
      exact hI k j
/-- the place of a kid -/
theorem kd_ix {v : MW} {n k : Int32} (hI : BND v) (n0 : 0 ≤ n.toInt) (n1 : n.toInt < 300) (k0 : 0 ≤ k.toInt) (hk : (v.1 135 (nb v n.toInt)).toInt + k.toInt < 300) : ((((300 : Int32) * ((1 : Int32) - (v.1 129 12))) + (v.1 135 ((((300 : Int32) * ((1 : Int32) - (v.1 129 12))) + n).toInt.toNat))) + k).toInt = 300 * bhf v + (v.1 135 (nb v n.toInt)).toInt + k.toInt := by
  have bh := bhf_b hI
  have e := bb_ix (n := n) hI n0 (by omega)
  have en : (((300 : Int32) * ((1 : Int32) - (v.1 129 12))) + n).toInt.toNat = nb v n.toInt := by rw [e]; rfl
  have b := bd_135 hI (nb v n.toInt)
  rw [en]
  have e2 := bb_ix (n := v.1 135 (nb v n.toInt)) hI b.1 (by omega)
  exact ti_add2 e2 (Eq.refl k.toInt) (by omega) (by omega)
theorem sm_57 {v w0 : MW} {N x1 x3 : Int32} {s : Int} {E : MW → Prop} {Q : Int32 → MW → Prop} (hv : TbI 0 v) (hF : FR lsm v w0) (hI : BND w0) (N0 : 0 ≤ N.toInt) (N1 : N.toInt < (v.1 129 13).toInt) (hd : ∀ m : Int, 0 ≤ m → m < N.toInt → (w0.1 146 m.toNat).toInt ≤ m + 1) (s0 : 0 ≤ s) (s1 : s ≤ 1) (hE : ∀ (a b : Int32) (w' : MW), WSm w0 N.toInt.toNat a b w' → a.toInt = s + csum (fun k => cst w0 (kidB v N.toInt k)) (cnt v N.toInt).toNat → 0 ≤ b.toInt → b.toInt ≤ N.toInt → E w') (n : Nat) : ∀ (k a b : Int32) (w : MW), WSm w0 N.toInt.toNat a b w → 0 ≤ k.toInt → k.toInt ≤ cnt v N.toInt → a.toInt = s + csum (fun k => cst w0 (kidB v N.toInt k)) k.toInt.toNat → 0 ≤ b.toInt → b.toInt ≤ N.toInt → (cnt v N.toInt - k.toInt).toNat < n → q_Tx_isSmall_57 x1 N x3 E Q n k w := by
  induction n with
  | zero => intros; omega
  | succ n ih =>
    intro k a b w hW k0 k1 ha b0 b1 hm
    have hG : FR lsm v w := hF.tr hW.fr rfl
    have b13 := bd_129_13 hv.1
    have bh := bhf_b hv.1
    have bc := bd_136 hv.1 (nb v N.toInt)
    have e := bb_ix (n := N) hv.1 N0 (by omega)
    have en : (((300 : Int32) * ((1 : Int32) - (v.1 129 12))) + N).toInt.toNat = nb v N.toInt := by rw [e]; rfl
    have ec : (v.1 136 (nb v N.toInt)).toInt = cnt v N.toInt := rfl
    have e12 : w.1 129 12 = v.1 129 12 := (hG 129 12 rfl).1
    have e135 : ∀ j, w.1 135 j = v.1 135 j := fun j => (hG 135 j rfl).1
    have e136 : ∀ j, w.1 136 j = v.1 136 j := fun j => (hG 136 j rfl).1
    have e137 : ∀ j, w.1 137 j = v.1 137 j := fun j => (hG 137 j rfl).1
    have T := hv.2.2.2.2.1 N.toInt N0 N1
    rw [q_Tx_isSmall_57.eq_2]
    refine Eq.mpr (p_Tx_base.eq_1 _ _) ?_
    rw [e12, e136, en, ec]
    refine ⟨⟨by omega, by omega⟩, fun c => ?_, fun c => Eq.mpr (p_Tx_base.eq_1 _ _) (Eq.mpr (p_Tx_base.eq_1 _ _) ?_)⟩
    · have : k.toInt.toNat = (cnt v N.toInt).toNat := by omega
      rw [this] at ha
      exact hE a b w hW ha b0 b1
    · rw [e12, e135, e137]
      have T1 := T.1
      have b21 := bd_129_21 hv.1
      have kx := kd_ix (n := N) (k := k) hv.1 N0 (by omega) k0 (by omega)
      have T2 := T.2.1 k.toInt k0 (by omega)
      have kk : (v.1 137 ((((300 : Int32) * ((1 : Int32) - (v.1 129 12))) + (v.1 135 ((((300 : Int32) * ((1 : Int32) - (v.1 129 12))) + N).toInt.toNat))) + k).toInt.toNat).toInt = kidB v N.toInt k.toInt := by rw [kx]; rfl
      have b35 := bd_135 hv.1 (nb v N.toInt)
      have s1' := ti_add2 (Eq.refl k.toInt) i_1 (by omega) (by omega)
      have o1 : ∀ j : Nat, j ≠ N.toInt.toNat → w.1 145 j = w0.1 145 j ∧ w.1 146 j = w0.1 146 j := fun j hj => ⟨hW.1 145 j (fun q => hj q.2) (fun q => absurd q.1 (by decide)), hW.1 146 j (fun q => absurd q.1 (by decide)) (fun q => hj q.2)⟩
      rw [kk]
      have kz := o1 (kidB v N.toInt k.toInt).toNat (by omega)
      have dz := hd (kidB v N.toInt k.toInt) T2.1 T2.2.1
      have cz := bd_145 hI (kidB v N.toInt k.toInt).toNat
      have cz6 := bd_146 hI (kidB v N.toInt k.toInt).toNat
      rw [hW.2.2.1, hW.2.2.2, kz.1, kz.2]
      have cb := csum_b (f := (fun k => cst w0 (kidB v N.toInt k))) (B := 501) (fun k => bd_145 hI _) k.toInt.toNat
      have sa := ti_add2 ha (Eq.refl (w0.1 145 (kidB v N.toInt k.toInt).toNat).toInt) (by omega) (by omega)
      have ek : (k + (1 : Int32)).toInt.toNat = k.toInt.toNat + 1 := by omega
      have ha' : (a + (w0.1 145 (kidB v N.toInt k.toInt).toNat)).toInt = s + csum (fun k => cst w0 (kidB v N.toInt k)) (k + (1 : Int32)).toInt.toNat := by
        rw [sa, ek, csum_s]
        have q : ((k.toInt.toNat : Nat) : Int) = k.toInt := by omega
        show _ = s + (csum (fun k => cst w0 (kidB v N.toInt k)) k.toInt.toNat + cst w0 (kidB v N.toInt (k.toInt.toNat : Int)))
        rw [q]
        unfold cst
        omega
      refine ⟨⟨by omega, by omega⟩, ⟨by omega, by omega⟩, ⟨by omega, by omega⟩, ⟨by omega, by omega⟩, ⟨by omega, by omega⟩, ⟨by omega, by omega⟩, ⟨by omega, by omega⟩, fun _ => ⟨⟨by omega, by omega⟩, ⟨by omega, by omega⟩, ih _ _ _ _ hW.set (by omega) (by omega) ha' b0 b1 (by omega)⟩, fun _ => ⟨⟨by omega, by omega⟩, ⟨by omega, by omega⟩, ih _ _ _ _ hW.set (by omega) (by omega) ha' (by omega) (by omega) (by omega)⟩⟩
theorem sm_281 {w0 w : MW} {N x1 a b y d : Int32} {A : Int32 → MW → Prop} {E : MW → Prop} {Q : Int32 → MW → Prop} (hW : WSm w0 N.toInt.toNat a b w) (N0 : 0 ≤ N.toInt) (N1 : N.toInt < 300) (a0 : 0 ≤ a.toInt) (hA : ∀ (a' : Int32) (w' : MW), WSm w0 N.toInt.toNat a' (d + y) w' → (a'.toInt ≤ 500 → a'.toInt = a.toInt) → 0 ≤ a'.toInt → a'.toInt ≤ 501 → A (N + (1 : Int32)) w') : q_Tx_isSmall_281 x1 N y d N w A E Q := by
  refine Eq.mpr (q_Tx_isSmall_281.eq_1 _ _ _ _ _ _ _ _ _) ⟨⟨N0, N1⟩, ⟨N0, N1⟩, fun c => ⟨⟨N0, N1⟩, ⟨N0, N1⟩, ?_⟩, fun c => ⟨⟨N0, N1⟩, ?_⟩⟩
  · rw [hW.2.2.1] at c ⊢
    exact hA a _ hW.set2 (fun _ => rfl) a0 (by omega)
  · exact hA 501 _ hW.set2 (fun q => absurd q (by decide)) (by decide) (by decide)
/-- what holds when the nodes below x are counted -/
def JSm (v : MW) (x : Int) (w : MW) : Prop := BND w ∧ FR lsm v w ∧ ∀ m, 0 ≤ m → m < x → CSv v (cst w) m ∧ (w.1 146 m.toNat).toInt ≤ m + 1
/-- the kid of the step that a DO names -/
theorem tb_do {e : Int} {v : MW} {m : Int} (h : TbI e v) (m0 : 0 ≤ m) (m1 : m < (v.1 129 13).toInt) (hk : Kb v m = 19) : (0 ≤ numB v m ∧ numB v m < 40) ∧ (0 ≤ stB v (numB v m) ∧ stB v (numB v m) < m) ∧ ((v.1 135 (nb v (stB v (numB v m)))).toInt < 300 ∧ 0 ≤ kidB v (stB v (numB v m)) 0 ∧ kidB v (stB v (numB v m)) 0 < stB v (numB v m) ∧ 10 ≤ Kb v (kidB v (stB v (numB v m)) 0) ∧ Kb v (kidB v (stB v (numB v m)) 0) ≤ 23) := by
  have T := h.2.2.2.2.1 m m0 m1
  have n := T.2.2.1 (by omega)
  have s := T.2.2.2.2.2.2.2.2.2.2.2 hk
  have T2 := h.2.2.2.2.1 (stB v (numB v m)) s.2.1 (by have := s.2.2.1; omega)
  have c := T2.2.2.2.2.2.2.2.2.2.2.1 s.2.2.2
  have d := T2.2.1 0 (by omega) (by omega)
  have b21 := bd_129_21 h.1
  have t := T2.1
  exact ⟨n, ⟨s.2.1, s.2.2.1⟩, by omega, d.1, d.2.1, c.2, d.2.2⟩
theorem sm_step {v w w' : MW} {N a' b' : Int32} {s : Int} (hv : TbI 0 v) (hJ : JSm v N.toInt w) (N0 : 0 ≤ N.toInt) (N1 : N.toInt < (v.1 129 13).toInt) (hW : WSm w N.toInt.toNat a' b' w') (a0 : 0 ≤ a'.toInt) (a1 : a'.toInt ≤ 501) (b0 : 0 ≤ b'.toInt) (b1 : b'.toInt ≤ N.toInt + 1) (hs : 10 ≤ Kb v N.toInt → Kb v N.toInt ≤ 23 → s = 1) (ha : a'.toInt ≤ 500 → s + csum (fun k => cst w (kidB v N.toInt k)) (cnt v N.toInt).toNat ≤ a'.toInt ∧ (Kb v N.toInt = 19 → s + csum (fun k => cst w (kidB v N.toInt k)) (cnt v N.toInt).toNat + cst w (kidB v (stB v (numB v N.toInt)) 0) ≤ a'.toInt)) : JSm v (N.toInt + 1) w' := by
  have b13 := bd_129_13 hv.1
  refine ⟨hW.bnd hJ.1 a0 a1 b0 (by omega), hJ.2.1.tr hW.fr rfl, fun m m0 m1 => ?_⟩
  have oc : ∀ j : Int, 0 ≤ j → j ≠ N.toInt → cst w' j = cst w j := fun j j0 j1 => by
    unfold cst
    rw [hW.1 145 j.toNat (fun q => j1 (by omega)) (fun q => absurd q.1 (by decide))]
  have T := hv.2.2.2.2.1 m m0 (by omega)
  have ek : csum (fun k => cst w' (kidB v m k)) (cnt v m).toNat = csum (fun k => cst w (kidB v m k)) (cnt v m).toNat := csum_c _ (fun k k0 k1 => by
    have bc := bd_136 hv.1 (nb v m)
    have ec : (v.1 136 (nb v m)).toInt = cnt v m := rfl
    have t := T.2.1 k k0 (by omega)
    exact oc _ t.1 (by omega))
  have ed : Kb v m = 19 → cst w' (kidB v (stB v (numB v m)) 0) = cst w (kidB v (stB v (numB v m)) 0) := fun q => by
    have d := tb_do hv m0 (by omega) q
    exact oc _ d.2.2.2.1 (by omega)
  by_cases c : m = N.toInt
  · have c1 : cst w' m = a'.toInt := by unfold cst; rw [c, hW.2.2.1]
    refine ⟨fun q k0 k1 => ?_, ?_⟩
    · rw [c1] at q ⊢
      rw [ek]
      have z := ha q
      rw [← c] at z
      have cb := csum_b (f := (fun k => cst w (kidB v m k))) (B := 501) (fun k => bd_145 hJ.1 _) (cnt v m).toNat
      have s1 := hs (by rw [← c]; exact k0) (by rw [← c]; exact k1)
      refine ⟨by omega, fun q19 => ?_⟩
      rw [ed q19]
      have := z.2 q19
      omega
    · rw [c, hW.2.2.2]
      exact b1
  · have j := hJ.2.2 m m0 (by omega)
    refine ⟨fun q k0 k1 => ?_, ?_⟩
    · rw [oc m m0 c] at q ⊢
      rw [ek]
      have z := j.1 q k0 k1
      exact ⟨z.1, fun q19 => by rw [ed q19]; exact z.2 q19⟩
    · rw [hW.1 146 m.toNat (fun q => absurd q.1 (by decide)) (fun q => c (by omega))]
      exact j.2
theorem WSm.refl (w : MW) (N : Nat) : WSm w N (w.1 145 N) (w.1 146 N) w := ⟨fun _ _ _ _ => rfl, rfl, rfl, rfl⟩
theorem sm_46 {v w : MW} {N x1 K c0 : Int32} {A : Int32 → MW → Prop} {E : MW → Prop} {Q : Int32 → MW → Prop} (hv : TbI 0 v) (hJ : JSm v N.toInt w) (N0 : 0 ≤ N.toInt) (N1 : N.toInt < (v.1 129 13).toInt) (hK : K.toInt = Kb v N.toInt) (c00 : 0 ≤ c0.toInt) (c01 : c0.toInt ≤ 1) (hc : 10 ≤ Kb v N.toInt → Kb v N.toInt ≤ 23 → c0.toInt = 1) (hA : ∀ w', JSm v (N.toInt + 1) w' → A (N + (1 : Int32)) w') : q_Tx_isSmall_46 x1 N K c0 N w A E Q := by
  have b13 := bd_129_13 hv.1
  have bh := bhf_b hv.1
  have N3 : N.toInt < 300 := by omega
  have bc := bd_136 hv.1 (nb v N.toInt)
  refine Eq.mpr (q_Tx_isSmall_46.eq_1 _ _ _ _ _ _ _ _ _) ⟨⟨N0, N3⟩, ⟨N0, N3⟩, sm_57 (s := c0.toInt) hv hJ.2.1 hJ.1 N0 N1 (fun m a b => (hJ.2.2 m a b).2) c00 c01 (fun a b w24 hW ha b0 b1 => ?_) FU 0 c0 0 _ (WSm.refl w _).set (by decide) (by rw [i_0]; exact bc.1) (by rw [i_0]; show c0.toInt = c0.toInt + csum _ 0; rw [csum_0]; omega) (by decide) (by rw [i_0]; exact N0) (fu_lt (by rw [i_0]; show ((v.1 136 (nb v N.toInt)).toInt - 0).toNat < 100000000000000000000; omega))⟩
  have cb := csum_b (f := (fun k => cst w (kidB v N.toInt k))) (B := 501) (fun k => bd_145 hJ.1 _) (cnt v N.toInt).toNat
  have ec : (v.1 136 (nb v N.toInt)).toInt = cnt v N.toInt := rfl
  have F : ∀ (y d a2 b2 : Int32) (w3 : MW), WSm w N.toInt.toNat a2 b2 w3 → 0 ≤ d.toInt → d.toInt ≤ N.toInt → 0 ≤ y.toInt → y.toInt ≤ 1 → (c0.toInt + csum (fun k => cst w (kidB v N.toInt k)) (cnt v N.toInt).toNat ≤ a2.toInt ∧ (Kb v N.toInt = 19 → c0.toInt + csum (fun k => cst w (kidB v N.toInt k)) (cnt v N.toInt).toNat + cst w (kidB v (stB v (numB v N.toInt)) 0) ≤ a2.toInt)) → q_Tx_isSmall_281 x1 N y d N w3 A E Q := fun y d a2 b2 w3 h3 d0 d1 y0 y1 hz => sm_281 h3 N0 N3 (by omega) (fun a' w' hW' ha' a0 a1 => hA w' (by
    have sd := ti_add2 (Eq.refl d.toInt) (Eq.refl y.toInt) (by omega) (by omega)
    exact sm_step (s := c0.toInt) hv hJ N0 N1 hW' a0 a1 (by omega) (by omega) hc (fun q => by rw [ha' q]; exact hz)))
  refine ⟨fun c19 => ⟨⟨N0, N3⟩, fun _ => F 0 _ a b w24 hW (by rw [hW.2.2.2]; exact b0) (by rw [hW.2.2.2]; exact b1) (by decide) (by decide) ⟨by omega, fun q => by omega⟩, fun _ => F 1 _ a b w24 hW (by rw [hW.2.2.2]; exact b0) (by rw [hW.2.2.2]; exact b1) (by decide) (by decide) ⟨by omega, fun q => by omega⟩⟩, fun c19 => ?_⟩
  have D := tb_do hv N0 N1 (by omega)
  have hG : FR lsm v w24 := hJ.2.1.tr hW.fr rfl
  have e := bb_ix (n := N) hv.1 N0 (by omega)
  have en : (((300 : Int32) * ((1 : Int32) - (v.1 129 12))) + N).toInt.toNat = nb v N.toInt := by rw [e]; rfl
  have e12 : w24.1 129 12 = v.1 129 12 := (hG 129 12 rfl).1
  have e132 : ∀ j, w24.2.1 132 j = v.2.1 132 j := fun j => (hG 132 j rfl).2.1
  have e135 : ∀ j, w24.1 135 j = v.1 135 j := fun j => (hG 135 j rfl).1
  have e137 : ∀ j, w24.1 137 j = v.1 137 j := fun j => (hG 137 j rfl).1
  have e143 : ∀ j, w24.1 143 j = v.1 143 j := fun j => (hG 143 j rfl).1
  have n12 : ∀ x, (sI w24 145 N.toInt.toNat x).1 129 12 = w24.1 129 12 := fun x => rfl
  have n135 : ∀ x j, (sI w24 145 N.toInt.toNat x).1 135 j = w24.1 135 j := fun x j => rfl
  have n137 : ∀ x j, (sI w24 145 N.toInt.toNat x).1 137 j = w24.1 137 j := fun x j => rfl
  have i0 := cc_ix (n := Int64.toInt32 (v.2.1 132 (nb v N.toInt))) hv.1 D.1.1 (by have := D.1.2; unfold numB at this; omega)
  have hnum : numB v N.toInt = (Int64.toInt32 (v.2.1 132 (nb v N.toInt))).toInt := rfl
  simp only [p_Tx_base.eq_1]
  simp only [n12, n135, n137, e12, e132, e135, e137, e143, en]
  generalize hIX : ((((40 : Int32) * ((1 : Int32) - (v.1 129 12))) + (Int64.toInt32 (v.2.1 132 (nb v N.toInt)))).toInt) = IX at *
  have hst : (v.1 143 IX.toNat).toInt = stB v (numB v N.toInt) := by rw [i0]; rfl
  have b143 := bd_143 hv.1 IX.toNat
  generalize (v.1 143 IX.toNat) = st at *
  have is := bb_ix (n := st) hv.1 (by omega) (by omega)
  have isn : (((300 : Int32) * ((1 : Int32) - (v.1 129 12))) + st).toInt.toNat = nb v (stB v (numB v N.toInt)) := by rw [is, hst]; rfl
  simp only [isn]
  have b135 := bd_135 hv.1 (nb v (stB v (numB v N.toInt)))
  have ik := bb_ix (n := v.1 135 (nb v (stB v (numB v N.toInt)))) hv.1 b135.1 (by omega)
  have hkd : (v.1 137 ((((300 : Int32) * ((1 : Int32) - (v.1 129 12))) + (v.1 135 (nb v (stB v (numB v N.toInt))))).toInt.toNat)).toInt = kidB v (stB v (numB v N.toInt)) 0 := by
    rw [ik]
    unfold kidB
    rw [Int.add_zero]
  simp only [hkd]
  have o1 : ∀ j : Nat, j ≠ N.toInt.toNat → w24.1 145 j = w.1 145 j ∧ w24.1 146 j = w.1 146 j := fun j hj => ⟨hW.1 145 j (fun q => hj q.2) (fun q => absurd q.1 (by decide)), hW.1 146 j (fun q => absurd q.1 (by decide)) (fun q => hj q.2)⟩
  have kz := o1 (kidB v (stB v (numB v N.toInt)) 0).toNat (by omega)
  have kd := (hJ.2.2 (kidB v (stB v (numB v N.toInt)) 0) D.2.2.2.1 (by omega)).2
  have cz := bd_145 hJ.1 (kidB v (stB v (numB v N.toInt)) 0).toNat
  have cz6 := bd_146 hJ.1 (kidB v (stB v (numB v N.toInt)) 0).toNat
  have sa := ti_add2 ha (Eq.refl (w.1 145 (kidB v (stB v (numB v N.toInt)) 0).toNat).toInt) (by omega) (by omega)
  have hD : cst w (kidB v (stB v (numB v N.toInt)) 0) = (w.1 145 (kidB v (stB v (numB v N.toInt)) 0).toNat).toInt := rfl
  have G : ∀ (y d : Int32) (w3 : MW), d = (w.1 146 (kidB v (stB v (numB v N.toInt)) 0).toNat) → 0 ≤ y.toInt → y.toInt ≤ 1 → WSm w N.toInt.toNat (a + (w.1 145 (kidB v (stB v (numB v N.toInt)) 0).toNat)) d w3 → q_Tx_isSmall_281 x1 N y d N w3 A E Q := fun y d w3 hd y0 y1 h3 => F y d _ d w3 h3 (by rw [hd]; omega) (by rw [hd]; omega) y0 y1 ⟨by omega, fun _ => by omega⟩
  have R1 : ∀ x, (sI w24 145 N.toInt.toNat x).1 146 (kidB v (stB v (numB v N.toInt)) 0).toNat = (w.1 146 (kidB v (stB v (numB v N.toInt)) 0).toNat) := fun x => kz.2
  simp only [R1, sI_same, hW.2.2.1, kz.1]
  have WF := (hW.a (a' := a + (w.1 145 (kidB v (stB v (numB v N.toInt)) 0).toNat))).b (b' := w.1 146 (kidB v (stB v (numB v N.toInt)) 0).toNat)
  refine ⟨⟨by omega, by omega⟩, ⟨by omega, by omega⟩, ⟨N0, N3⟩, ⟨by omega, by omega⟩, ⟨by omega, by omega⟩, ⟨by omega, by omega⟩, ⟨N0, N3⟩, ⟨by omega, by omega⟩, ⟨by omega, by omega⟩, ⟨by omega, by omega⟩, ⟨N0, N3⟩, ⟨N0, N3⟩, fun _ => G 0 _ _ rfl (by decide) (by decide) WF, fun _ => G 1 _ _ rfl (by decide) (by decide) WF⟩
theorem sm_4 {v : MW} {x1 : Int32} {E : MW → Prop} {Q : Int32 → MW → Prop} (hv : TbI 0 v) (hE : ∀ w', JSm v (v.1 129 13).toInt w' → E w') (n : Nat) : ∀ (x : Int32) (w : MW), JSm v x.toInt w → 0 ≤ x.toInt → x.toInt ≤ (v.1 129 13).toInt → ((v.1 129 13).toInt - x.toInt).toNat < n → q_Tx_isSmall_4 x1 E Q n x w := by
  induction n with
  | zero => intros; omega
  | succ n ih =>
    intro x w hJ x0 x9 hm
    have b13 := bd_129_13 hv.1
    have bh := bhf_b hv.1
    have e12 : w.1 129 12 = v.1 129 12 := (hJ.2.1 129 12 rfl).1
    have e13 : w.1 129 13 = v.1 129 13 := (hJ.2.1 129 13 rfl).1
    have e131 : ∀ j, w.1 131 j = v.1 131 j := fun j => (hJ.2.1 131 j rfl).1
    rw [q_Tx_isSmall_4.eq_2]
    refine ⟨fun c => hE w ?_, fun c => Eq.mpr (p_Tx_base.eq_1 _ _) ?_⟩
    · rw [e13] at c
      have : (v.1 129 13).toInt = x.toInt := by omega
      rw [this]
      exact hJ
    · rw [e13] at c
      have e := bb_ix (n := x) hv.1 x0 (by omega)
      have en : (((300 : Int32) * ((1 : Int32) - (v.1 129 12))) + x).toInt.toNat = nb v x.toInt := by rw [e]; rfl
      have s1 := ti_add2 (Eq.refl x.toInt) i_1 (by omega) (by omega)
      have hK : (v.1 131 (nb v x.toInt)).toInt = Kb v x.toInt := rfl
      have N : ∀ w', JSm v (x.toInt + 1) w' → q_Tx_isSmall_4 x1 E Q n (x + (1 : Int32)) w' := fun w' h' => ih _ _ (by rw [s1]; exact h') (by omega) (by omega) (by omega)
      rw [e12, e131, en]
      exact ⟨⟨by omega, by omega⟩, fun d => sm_46 hv hJ x0 (by omega) hK (by decide) (by decide) (fun q => by omega) N, fun d => ⟨fun d2 => sm_46 hv hJ x0 (by omega) hK (by decide) (by decide) (fun _ q => by omega) N, fun d2 => sm_46 hv hJ x0 (by omega) hK (by decide) (by decide) (fun _ _ => i_1) N⟩⟩
/-- the cost of a top -/
def ctp (v : MW) (c : Int → Int) (t : Int) : Int := if Kb v (topB v t) = 24 then 0 else c (topB v t)
theorem ctp_n {v : MW} {c : Int → Int} {t : Int} (h : ¬ Kb v (topB v t) = 24) : ctp v c t = c (topB v t) := if_neg h
theorem ctp_y {v : MW} {c : Int → Int} {t : Int} (h : Kb v (topB v t) = 24) : ctp v c t = 0 := if_pos h
theorem sm_321 {v w : MW} {E : Int32 → MW → Prop} {Q : Int32 → MW → Prop} (hv : PgI v) (hI : BND w) (hF : FR lsm v w) (hE : ∀ s : Int32, 0 ≤ s.toInt → (s.toInt ≤ 500 → csum (ctp v (cst w)) (v.1 129 23).toInt.toNat ≤ 500) → E s w) (n : Nat) : ∀ (s t : Int32), 0 ≤ s.toInt → s.toInt ≤ 1001 → 0 ≤ t.toInt → t.toInt ≤ (v.1 129 23).toInt → csum (ctp v (cst w)) t.toInt.toNat ≤ s.toInt → ((v.1 129 23).toInt - t.toInt).toNat < n → q_Tx_isSmall_321 E Q n s t w := by
  induction n with
  | zero => intros; omega
  | succ n ih =>
    intro s t s0 s1 t0 t1 hs hm
    have b13 := bd_129_13 hv.1.1
    have b23 := bd_129_23 hv.1.1
    have bh := bhf_b hv.1.1
    have e12 : w.1 129 12 = v.1 129 12 := (hF 129 12 rfl).1
    have e23 : w.1 129 23 = v.1 129 23 := (hF 129 23 rfl).1
    have e131 : ∀ j, w.1 131 j = v.1 131 j := fun j => (hF 131 j rfl).1
    have e138 : ∀ j, w.1 138 j = v.1 138 j := fun j => (hF 138 j rfl).1
    rw [q_Tx_isSmall_321.eq_2]
    rw [e23]
    refine ⟨fun c => hE s s0 (fun q => ?_), fun c => ⟨fun d => hE s s0 (fun q => by omega), fun d => Eq.mpr (p_Tx_base.eq_1 _ _) ?_⟩⟩
    · have : t.toInt.toNat = (v.1 129 23).toInt.toNat := by omega
      rw [this] at hs
      omega
    · have e := bb_ix (n := t) hv.1.1 t0 (by omega)
      have hT := hv.2 t.toInt t0 (by omega)
      have et : (v.1 138 (((300 : Int32) * ((1 : Int32) - (v.1 129 12))) + t).toInt.toNat).toInt = topB v t.toInt := by rw [e]; rfl
      rw [e12, e138]
      generalize (v.1 138 (((300 : Int32) * ((1 : Int32) - (v.1 129 12))) + t).toInt.toNat) = tp at *
      refine ⟨⟨by omega, by omega⟩, Eq.mpr (p_Tx_base.eq_1 _ _) ?_⟩
      have e2 := bb_ix (n := tp) hv.1.1 (by omega) (by omega)
      have en : (((300 : Int32) * ((1 : Int32) - (v.1 129 12))) + tp).toInt.toNat = nb v (topB v t.toInt) := by rw [e2, et]; rfl
      have hK : (v.1 131 (nb v (topB v t.toInt))).toInt = Kb v (topB v t.toInt) := rfl
      have c5 := bd_145 hI tp.toInt.toNat
      have s1' := ti_add2 (Eq.refl t.toInt) i_1 (by omega) (by omega)
      have ek : (t + (1 : Int32)).toInt.toNat = t.toInt.toNat + 1 := by omega
      have q : ((t.toInt.toNat : Nat) : Int) = t.toInt := by omega
      have hN : ∀ z : Int, ctp v (cst w) t.toInt ≤ z → ∀ s' : Int32, s'.toInt = s.toInt + z → 0 ≤ z → z ≤ 501 → q_Tx_isSmall_321 E Q n s' (t + (1 : Int32)) w := fun z hz s' es z0 z1 => ih s' _ (by omega) (by omega) (by omega) (by omega) (by rw [ek, csum_s, q]; omega) (by omega)
      rw [e12, e131, en, hK]
      have ecs : cst w (topB v t.toInt) = (w.1 145 tp.toInt.toNat).toInt := by unfold cst; rw [et]
      refine ⟨⟨by omega, by omega⟩, fun k => ⟨⟨by omega, by omega⟩, fun _ => ⟨⟨by omega, by omega⟩, hN _ (by rw [ctp_n k, ecs]; exact Int.le_refl _) _ (ti_add2 (Eq.refl s.toInt) (Eq.refl _) (by omega) (by omega)) c5.1 c5.2⟩, fun _ => hN 501 (by rw [ctp_n k, ecs]; exact c5.2) _ (ti_add2 (Eq.refl s.toInt) (by decide) (by omega) (by omega)) (by omega) (by omega)⟩, fun k => hN 0 (by rw [ctp_y (by omega)]; exact Int.le_refl _) _ (ti_add2 (Eq.refl s.toInt) i_0 (by omega) (by omega)) (by omega) (by omega)⟩
def CST (v : MW) (c : Int → Int) : Prop := (∀ m, 0 ≤ c m) ∧ (∀ m, 0 ≤ m → m < (v.1 129 13).toInt → CSv v c m) ∧ csum (ctp v c) (v.1 129 23).toInt.toNat ≤ 500
def lsm2 : Pl := [(129, some 10), (145, none), (146, none)]
theorem t_small {v : MW} {Q : Int32 → MW → Prop} (h : PgI v) (hQ : ∀ (r : Int32) (w' : MW), BND w' → FR lsm2 v w' → (r.toInt = 0 ∨ (r.toInt = 1 ∧ ∃ c, CST v c)) → Q r w') : p_Tx_isSmall v Q := by
  have b13 := bd_129_13 h.1.1
  have b23 := bd_129_23 h.1.1
  refine Eq.mpr (p_Tx_isSmall.eq_1 _ _) (sm_4 h.1 (fun w53 hJ => ?_) FU 0 v ⟨h.1.1, FR.refl _ v, fun m m0 m1 => absurd m1 (by rw [i_0]; omega)⟩ (by decide) (by rw [i_0]; omega) (fu_lt (by rw [i_0]; omega)))
  have hG : ∀ x, FR lsm2 v (sI w53 129 10 x) := fun x => FR.I ((FR.refl lsm2 v).tr hJ.2.1 rfl) rfl
  refine sm_321 h hJ.1 hJ.2.1 (fun s s0 hs => ⟨fun c => ⟨fun c2 => by omega, fun _ => hQ 1 _ (wbd_129_10 hJ.1) (hG _) (Or.inr ⟨i_1, cst w53, fun m => (bd_145 hJ.1 _).1, fun m m0 m1 => (hJ.2.2 m m0 m1).1, hs c⟩)⟩, fun c => ⟨fun _ => hQ 0 _ (wbd_129_10 hJ.1) (hG _) (Or.inl i_0), fun c2 => by omega⟩⟩) FU 0 0 (by decide) (by decide) (by decide) (by rw [i_0]; omega) (by rw [i_0]; show csum _ 0 ≤ 0; rw [csum_0]; exact Int.le_refl _) (fu_lt (by rw [i_0]; omega))
