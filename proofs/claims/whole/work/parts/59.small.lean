/-! the reference's text: isSmall -/
def csum (f : Int → Int) : Nat → Int
  | 0 => 0
  | n + 1 => csum f n + f (n : Int)
theorem csum_0 (f : Int → Int) : csum f 0 = 0 := rfl
theorem csum_s (f : Int → Int) (n : Nat) : csum f (n + 1) = csum f n + f (n : Int) := rfl
theorem csum_b {f : Int → Int} {B : Int} (h : ∀ k, 0 ≤ f k ∧ f k ≤ B) (n : Nat) : 0 ≤ csum f n ∧ csum f n ≤ B * (n : Int) := by
  induction n with
  | zero => rw [csum_0]; omega
  | succ n ih =>
    have q := h (n : Int)
    rw [csum_s, Int.natCast_succ, Int.mul_add, Int.mul_one]
    omega
theorem csum_c {f g : Int → Int} (n : Nat) (h : ∀ k, 0 ≤ k → k < (n : Int) → f k = g k) : csum f n = csum g n := by
  induction n with
  | zero => rfl
  | succ n ih =>
    rw [csum_s, csum_s, ih (fun k a b => h k a (by omega)), h (n : Int) (by omega) (by omega)]
def cst (w : MW) (m : Int) : Int := (w.1 145 m.toNat).toInt
def cnt (v : MW) (m : Int) : Int := (v.1 136 (nb v m)).toInt
/-- what the costs c say of node m -/
def CSv (v : MW) (c : Int → Int) (m : Int) : Prop := c m ≤ 500 → 10 ≤ Kb v m → Kb v m ≤ 23 → 1 + csum (fun k => c (kidB v m k)) (cnt v m).toNat ≤ c m ∧ (Kb v m = 19 → 1 + c (kidB v (stB v (numB v m)) 0) ≤ c m)
def WSm (w0 : MW) (N : Nat) (a b : Int32) (w : MW) : Prop := (∀ k j, ¬ (k = 145 ∧ j = N) → ¬ (k = 146 ∧ j = N) → w.1 k j = w0.1 k j) ∧ w.2 = w0.2 ∧ w.1 145 N = a ∧ w.1 146 N = b
theorem WSm.set {w0 w : MW} {N : Nat} {a b a' b' : Int32} (h : WSm w0 N a b w) : WSm w0 N a' b' (sI (sI w 145 N a') 146 N b') := by
  refine ⟨fun k j h1 h2 => ?_, h.2.1, ?_, ?_⟩
  · rw [sI_at, if_neg (fun q => h2 ⟨q.1, q.2⟩), sI_at, if_neg (fun q => h1 ⟨q.1, q.2⟩)]
    exact h.1 k j h1 h2
  · rw [sI_oth _ _ _ _ _ _ (by decide), sI_same]
  · rw [sI_same]
theorem WSm.set2 {w0 w : MW} {N : Nat} {a b a' b' : Int32} (h : WSm w0 N a b w) : WSm w0 N a' b' (sI (sI w 146 N b') 145 N a') := by
  refine ⟨fun k j h1 h2 => ?_, h.2.1, ?_, ?_⟩
  · rw [sI_at, if_neg (fun q => h1 ⟨q.1, q.2⟩), sI_at, if_neg (fun q => h2 ⟨q.1, q.2⟩)]
    exact h.1 k j h1 h2
  · rw [sI_same]
  · rw [sI_oth _ _ _ _ _ _ (by decide), sI_same]
theorem WSm.a {w0 w : MW} {N : Nat} {a b a' : Int32} (h : WSm w0 N a b w) : WSm w0 N a' b (sI w 145 N a') := by
  refine ⟨fun k j h1 h2 => ?_, h.2.1, ?_, ?_⟩
  · rw [sI_at, if_neg (fun q => h1 ⟨q.1, q.2⟩)]
    exact h.1 k j h1 h2
  · rw [sI_same]
  · rw [sI_oth _ _ _ _ _ _ (by decide)]
    exact h.2.2.2
theorem WSm.b {w0 w : MW} {N : Nat} {a b b' : Int32} (h : WSm w0 N a b w) : WSm w0 N a b' (sI w 146 N b') := by
  refine ⟨fun k j h1 h2 => ?_, h.2.1, ?_, ?_⟩
  · rw [sI_at, if_neg (fun q => h2 ⟨q.1, q.2⟩)]
    exact h.1 k j h1 h2
  · rw [sI_oth _ _ _ _ _ _ (by decide)]
    exact h.2.2.1
  · rw [sI_same]
def lsm : Pl := [(145, none), (146, none)]
theorem WSm.fr {w0 w : MW} {N : Nat} {a b : Int32} (h : WSm w0 N a b w) : FR lsm w0 w := fun k j hk => by
  have n1 : k ≠ 145 := fun c => by rw [c] at hk; exact absurd hk (by simp [hit, lsm])
  have n2 : k ≠ 146 := fun c => by rw [c] at hk; exact absurd hk (by simp [hit, lsm])
  exact ⟨h.1 k j (fun c => n1 c.1) (fun c => n2 c.1), by rw [h.2.1], by rw [h.2.1]⟩
theorem WSm.bnd {w0 w : MW} {N : Nat} {a b : Int32} (hI : BND w0) (h : WSm w0 N a b w) (a0 : 0 ≤ a.toInt) (a1 : a.toInt ≤ 501) (b0 : 0 ≤ b.toInt) (b1 : b.toInt ≤ 301) : BND w := by
  intro k j
  by_cases c : k = 145 ∧ j = N
  · obtain ⟨rfl, rfl⟩ := c
    rw [h.2.2.1]
    exact ⟨a0, a1⟩
  · by_cases c2 : k = 146 ∧ j = N
    · obtain ⟨rfl, rfl⟩ := c2
      rw [h.2.2.2]
      exact ⟨b0, b1⟩
    · rw [h.1 k j c c2]
      exact hI k j
/-- the place of a kid -/
theorem kd_ix {v : MW} {n k : Int32} (hI : BND v) (n0 : 0 ≤ n.toInt) (n1 : n.toInt < 300) (k0 : 0 ≤ k.toInt) (hk : (v.1 135 (nb v n.toInt)).toInt + k.toInt < 300) : ((((300 : Int32) * ((1 : Int32) - (v.1 129 12))) + (v.1 135 ((((300 : Int32) * ((1 : Int32) - (v.1 129 12))) + n).toInt.toNat))) + k).toInt = 300 * bhf v + (v.1 135 (nb v n.toInt)).toInt + k.toInt := by
  have bh := bhf_b hI
  have e := bb_ix (n := n) hI n0 (by omega)
  have en : (((300 : Int32) * ((1 : Int32) - (v.1 129 12))) + n).toInt.toNat = nb v n.toInt := by rw [e]; rfl
  have b := bd_135 hI (nb v n.toInt)
  rw [en]
  have e2 := bb_ix (n := v.1 135 (nb v n.toInt)) hI b.1 (by omega)
  exact ti_add2 e2 (Eq.refl k.toInt) (by omega) (by omega)
theorem sm_57 {v w0 : MW} {N x1 x3 : Int32} {s : Int} {E : MW → Prop} {Q : Int32 → MW → Prop} (hv : TbI 0 v) (hF : FR lsm v w0) (hI : BND w0) (N0 : 0 ≤ N.toInt) (N1 : N.toInt < (v.1 129 13).toInt) (hd : ∀ m : Int, 0 ≤ m → m < N.toInt → (w0.1 146 m.toNat).toInt ≤ m + 1) (s0 : 0 ≤ s) (s1 : s ≤ 1) (hE : ∀ (a b : Int32) (w' : MW), WSm w0 N.toInt.toNat a b w' → a.toInt = s + csum (fun k => cst w0 (kidB v N.toInt k)) (cnt v N.toInt).toNat → 0 ≤ b.toInt → b.toInt ≤ N.toInt → E w') (n : Nat) : ∀ (k a b : Int32) (w : MW), WSm w0 N.toInt.toNat a b w → 0 ≤ k.toInt → k.toInt ≤ cnt v N.toInt → a.toInt = s + csum (fun k => cst w0 (kidB v N.toInt k)) k.toInt.toNat → 0 ≤ b.toInt → b.toInt ≤ N.toInt → (cnt v N.toInt - k.toInt).toNat < n → q_Tx_isSmall_57 x1 N x3 E Q n k w := by
  induction n with
  | zero => intros; omega
  | succ n ih =>
    intro k a b w hW k0 k1 ha b0 b1 hm
    have hG : FR lsm v w := hF.tr hW.fr rfl
    have b13 := bd_129_13 hv.1
    have bh := bhf_b hv.1
    have bc := bd_136 hv.1 (nb v N.toInt)
    have e := bb_ix (n := N) hv.1 N0 (by omega)
    have en : (((300 : Int32) * ((1 : Int32) - (v.1 129 12))) + N).toInt.toNat = nb v N.toInt := by rw [e]; rfl
    have ec : (v.1 136 (nb v N.toInt)).toInt = cnt v N.toInt := rfl
    have e12 : w.1 129 12 = v.1 129 12 := (hG 129 12 rfl).1
    have e135 : ∀ j, w.1 135 j = v.1 135 j := fun j => (hG 135 j rfl).1
    have e136 : ∀ j, w.1 136 j = v.1 136 j := fun j => (hG 136 j rfl).1
    have e137 : ∀ j, w.1 137 j = v.1 137 j := fun j => (hG 137 j rfl).1
    have T := hv.2.2.2.2.1 N.toInt N0 N1
    rw [q_Tx_isSmall_57.eq_2]
    refine Eq.mpr (p_Tx_base.eq_1 _ _) ?_
    rw [e12, e136, en, ec]
    refine ⟨⟨by omega, by omega⟩, fun c => ?_, fun c => Eq.mpr (p_Tx_base.eq_1 _ _) (Eq.mpr (p_Tx_base.eq_1 _ _) ?_)⟩
    · have : k.toInt.toNat = (cnt v N.toInt).toNat := by omega
      rw [this] at ha
      exact hE a b w hW ha b0 b1
    · rw [e12, e135, e137]
      have T1 := T.1
      have b21 := bd_129_21 hv.1
      have kx := kd_ix (n := N) (k := k) hv.1 N0 (by omega) k0 (by omega)
      have T2 := T.2.1 k.toInt k0 (by omega)
      have kk : (v.1 137 ((((300 : Int32) * ((1 : Int32) - (v.1 129 12))) + (v.1 135 ((((300 : Int32) * ((1 : Int32) - (v.1 129 12))) + N).toInt.toNat))) + k).toInt.toNat).toInt = kidB v N.toInt k.toInt := by rw [kx]; rfl
      have b35 := bd_135 hv.1 (nb v N.toInt)
      have s1' := ti_add2 (Eq.refl k.toInt) i_1 (by omega) (by omega)
      have o1 : ∀ j : Nat, j ≠ N.toInt.toNat → w.1 145 j = w0.1 145 j ∧ w.1 146 j = w0.1 146 j := fun j hj => ⟨hW.1 145 j (fun q => hj q.2) (fun q => absurd q.1 (by decide)), hW.1 146 j (fun q => absurd q.1 (by decide)) (fun q => hj q.2)⟩
      rw [kk]
      have kz := o1 (kidB v N.toInt k.toInt).toNat (by omega)
      have dz := hd (kidB v N.toInt k.toInt) T2.1 T2.2.1
      have cz := bd_145 hI (kidB v N.toInt k.toInt).toNat
      have cz6 := bd_146 hI (kidB v N.toInt k.toInt).toNat
      rw [hW.2.2.1, hW.2.2.2, kz.1, kz.2]
      have cb := csum_b (f := (fun k => cst w0 (kidB v N.toInt k))) (B := 501) (fun k => bd_145 hI _) k.toInt.toNat
      have sa := ti_add2 ha (Eq.refl (w0.1 145 (kidB v N.toInt k.toInt).toNat).toInt) (by omega) (by omega)
      have ek : (k + (1 : Int32)).toInt.toNat = k.toInt.toNat + 1 := by omega
      have ha' : (a + (w0.1 145 (kidB v N.toInt k.toInt).toNat)).toInt = s + csum (fun k => cst w0 (kidB v N.toInt k)) (k + (1 : Int32)).toInt.toNat := by
        rw [sa, ek, csum_s]
        have q : ((k.toInt.toNat : Nat) : Int) = k.toInt := by omega
        show _ = s + (csum (fun k => cst w0 (kidB v N.toInt k)) k.toInt.toNat + cst w0 (kidB v N.toInt (k.toInt.toNat : Int)))
        rw [q]
        unfold cst
        omega
      refine ⟨⟨by omega, by omega⟩, ⟨by omega, by omega⟩, ⟨by omega, by omega⟩, ⟨by omega, by omega⟩, ⟨by omega, by omega⟩, ⟨by omega, by omega⟩, ⟨by omega, by omega⟩, fun _ => ⟨⟨by omega, by omega⟩, ⟨by omega, by omega⟩, ih _ _ _ _ hW.set (by omega) (by omega) ha' b0 b1 (by omega)⟩, fun _ => ⟨⟨by omega, by omega⟩, ⟨by omega, by omega⟩, ih _ _ _ _ hW.set (by omega) (by omega) ha' (by omega) (by omega) (by omega)⟩⟩
