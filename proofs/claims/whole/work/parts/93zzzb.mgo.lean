/-! the reference's next word of a program -/
theorem go_0 {w0 : MW} {f : Int → Int} {n T : Int} {E : MW → Prop} {Q : Int32 → MW → Prop} (hT : TXm w0 f n) (hE : ∀ w', BND w' → FR [(129, some 2), (129, some 3)] w0 w' → (w'.1 129 2).toInt = T → E w') (m : Nat) : ∀ w : MW, BND w → FR [(129, some 2), (129, some 3)] w0 w → (w.1 129 2).toInt ≤ n → skp f n 4001 (w.1 129 2).toInt = T → (4001 - (w.1 129 2).toInt).toNat < m → q_Tx_go_0 E Q m w := by
  induction m with
  | zero => intros; omega
  | succ m ih =>
    intro w hB hF pn hS hm
    have b2 := bd_129_2 hB
    have t := txm_fr hT hF rfl
    have n4 := hT.2.1
    have fb : (f (w.1 129 2).toInt = 32 ∨ f (w.1 129 2).toInt = 10) → (w.1 129 2).toInt < n := fun c => by
      by_cases q : 0 ≤ (w.1 129 2).toInt ∧ (w.1 129 2).toInt < n
      · exact q.2
      · have := hT.2.2.2 _ q
        omega
    have nx : (f (w.1 129 2).toInt = 32 ∨ f (w.1 129 2).toInt = 10) → q_Tx_go_26 w (fun (w : MW) => q_Tx_go_0 E Q m w) E Q := fun c => by
      have lt := fb c
      have s := ti_add2 (Eq.refl (w.1 129 2).toInt) i_1 (by omega) (by omega)
      have st : ∀ v : Int32, q_Tx_go_0 E Q m (sI (sI w 129 3 v) 129 2 ((w.1 129 2) + (1 : Int32))) := fun v => by
        refine ih _ (wbd_129_2 (wbd_129_3 hB) (by omega) (by omega)) (FR.I (FR.I hF rfl) rfl) (by rw [sI_same, s]; omega) ?_ (by rw [sI_same, s]; omega)
        rw [sI_same, s, ← skp_1 (by omega) ⟨lt, blk_t c⟩]
        exact hS
      exact Eq.mpr (q_Tx_go_26.eq_1 _ _ _ _) (ta_x t rfl b2.1 (fun y _ => ⟨fun _ => st _, fun _ => st _⟩))
    rw [q_Tx_go_0.eq_2]
    refine ta_x t rfl b2.1 (fun y a => ⟨fun c => nx ?_, fun c => ta_x t rfl b2.1 (fun y2 a2 => ⟨fun d => hE w hB hF ?_, fun d => nx ?_⟩)⟩)
    · have a' : y.toInt = f (w.1 129 2).toInt ∨ (y.toInt = 0 ∧ f (w.1 129 2).toInt = -1) := a
      omega
    · have a' : y.toInt = f (w.1 129 2).toInt ∨ (y.toInt = 0 ∧ f (w.1 129 2).toInt = -1) := a
      have a2' : y2.toInt = f (w.1 129 2).toInt ∨ (y2.toInt = 0 ∧ f (w.1 129 2).toInt = -1) := a2
      rw [skp_n 4001 (fun z => by rw [blk_f (by omega) (by omega)] at z; exact absurd z.2 (by decide))] at hS
      exact hS
    · have a2' : y2.toInt = f (w.1 129 2).toInt ∨ (y2.toInt = 0 ∧ f (w.1 129 2).toInt = -1) := a2
      omega
theorem go_124 {w0 : MW} {f : Int → Int} {n B P : Int} {x : Int32} {E : MW → Prop} {Q : Int32 → MW → Prop} (hT : TXm w0 f n) (hb : (w0.1 129 5).toInt = B) (B0 : 0 ≤ B) (hE : ∀ w', BND w' → FR [(129, some 2)] w0 w' → (w'.1 129 2).toInt = P → E w') (m : Nat) : ∀ (i : Nat) (w : MW), BND w → FR [(129, some 2)] w0 w → i ≤ 12 → (w.1 129 2).toInt = B + (i : Int) → B + (i : Int) ≤ n → B + (i : Int) + ((lts f (12 - i) (B + (i : Int))).length : Int) = P → 12 - i < m → q_Tx_go_124 x E Q m w := by
  induction m with
  | zero => intros; omega
  | succ m ih =>
    intro i w hB hF hi hp pn hP hm
    have t := txm_fr hT hF rfl
    have n4 := hT.2.1
    have e5 : (w.1 129 5).toInt = B := by rw [(hF 129 5 rfl).1]; exact hb
    have sb := ti_sub2 hp e5 (by omega) (by omega)
    have out : (12 - i = 0 ∨ ld1 (f (B + (i : Int))) = false) → E w := fun o => by
      have el : lts f (12 - i) (B + (i : Int)) = [] := by
        cases hk : 12 - i with
        | zero => rfl
        | succ k =>
          rcases o with o | o
          · omega
          · rw [lts_u, if_neg (nt o)]
      rw [el] at hP
      exact hE w hB hF (by rw [hp, ← hP]; simp)
    have st : ld1 (f (B + (i : Int))) = true → q_Tx_go_152 x w (fun (w : MW) => q_Tx_go_124 x E Q m w) E Q := fun ld => by
      refine Eq.mpr (q_Tx_go_152.eq_1 _ _ _ _ _) ⟨fun z => out (Or.inl (by omega)), fun z => ?_⟩
      have ldc' := ld1_t.mp ld
      have lt : B + (i : Int) < n := by
        by_cases q : 0 ≤ B + (i : Int) ∧ B + (i : Int) < n
        · exact q.2
        · have := hT.2.2.2 _ q
          omega
      have s := ti_add2 hp i_1 (by omega) (by omega)
      rw [show 12 - i = (12 - (i + 1)) + 1 by omega, lts_u, if_pos ld, List.length_cons] at hP
      have ei : B + ((i + 1 : Nat) : Int) = B + (i : Int) + 1 := by omega
      refine ih (i + 1) _ (wbd_129_2 hB (by omega) (by omega)) (FR.I hF rfl) (by omega) (by rw [sI_same, s, ei]) (by omega) ?_ (by omega)
      rw [ei, ← hP]
      omega
    rw [q_Tx_go_124.eq_2]
    refine ta_x t hp (by omega) (fun y a => ml_x a (fun d => ⟨fun _ => st (ld1_t.mpr (Or.inl (lt1_t.mp d))), fun z => absurd i1n z⟩) (fun d => ⟨fun z => absurd i_0 z, fun _ => ta_x t hp (by omega) (fun y2 a2 => md_x a2 (fun d2 => ⟨fun z => absurd z i1n, fun _ => st (ld1_t.mpr (Or.inr (dg1_t.mp d2)))⟩) (fun d2 => ⟨fun _ => out (Or.inr (ld1_f.mpr ⟨lt1_f.mp d, dg1_f.mp d2⟩)), fun z => absurd i_0 z⟩))⟩))
theorem dg_5 {w0 : MW} {f : Int → Int} {n B T P : Int} {E Q : MW → Prop} (hX : TXm w0 f n) (hb : (w0.1 129 5).toInt = B) (B0 : 0 ≤ B) (hE : ∀ w', BND w' → FR [(129, some 2), (129, some 8)] w0 w' → (w'.2.1 129 8).toInt = T → (w'.1 129 2).toInt = P → 0 ≤ T → T < 1000000000 → P ≤ n → E w') (m : Nat) : ∀ (i : Nat) (w : MW), BND w → FR [(129, some 2), (129, some 8)] w0 w → i ≤ 9 → (w.1 129 2).toInt = B + (i : Int) → B + (i : Int) ≤ n → 0 ≤ (w.2.1 129 8).toInt → (w.2.1 129 8).toInt < 10 ^ i → vlu (w.2.1 129 8).toInt (dgl f (9 - i) (B + (i : Int))) = T → B + (i : Int) + ((dgl f (9 - i) (B + (i : Int))).length : Int) = P → 9 - i < m → q_Tx_digits_5 E Q m w := by
  induction m with
  | zero => intros; omega
  | succ m ih =>
    intro i w hB hF hi hp pn c0 c1 hT hP hm
    have t := txm_fr hX hF rfl
    have n4 := hX.2.1
    have e5 : (w.1 129 5).toInt = B := by rw [(hF 129 5 rfl).1]; exact hb
    have sb := ti_sub2 hp e5 (by omega) (by omega)
    have pw := p10q i (by omega)
    have out : (9 - i = 0 ∨ dg1 (f (B + (i : Int))) = false) → E w := fun o => by
      have el : dgl f (9 - i) (B + (i : Int)) = [] := by
        cases hk : 9 - i with
        | zero => rfl
        | succ k =>
          rcases o with o | o
          · omega
          · rw [dgl_u, if_neg (nt o)]
      rw [el] at hT hP
      have hT' : (w.2.1 129 8).toInt = T := hT
      have hP' : B + (i : Int) = P := by rw [← hP]; simp
      exact hE w hB hF hT' (by rw [hp, hP']) (by omega) (by omega) (by omega)
    rw [q_Tx_digits_5.eq_2]
    refine ta_x t hp (by omega) (fun y a => md_x a (fun d => ⟨fun z => absurd z i1n, fun _ => ⟨fun z => out (Or.inl (by omega)), fun z => ta_x t hp (by omega) (fun y2 a2 => ?_)⟩⟩) (fun d => ⟨fun _ => out (Or.inr d), fun z => absurd i_0 z⟩))
    have dd := dg1_t.mp d
    have a2' : y2.toInt = f (B + (i : Int)) ∨ (y2.toInt = 0 ∧ f (B + (i : Int)) = -1) := a2
    have ey : y2.toInt = f (B + (i : Int)) := by omega
    have lt : B + (i : Int) < n := by
      by_cases q : 0 ≤ B + (i : Int) ∧ B + (i : Int) < n
      · exact q.2
      · have := hX.2.2.2 _ q
        omega
    have s := ti_add2 hp i_1 (by omega) (by omega)
    have pe : (10 : Int) ^ (i + 1) = 10 ^ i * 10 := Int.pow_succ 10 i
    rw [show 9 - i = (9 - (i + 1)) + 1 by omega, dgl_u, if_pos d] at hT hP
    have e10 := li_mul (show (10 : Int64).toInt = 10 by decide) (Eq.refl (w.2.1 129 8).toInt) (by omega) (by omega)
    have e11 := li_add e10 ((nb_i2l y2).trans ey) (by omega) (by omega)
    have eK := li_sub e11 (show (48 : Int64).toInt = 48 by decide) (by omega) (by omega)
    generalize hK : (((10 : Int64) * (w.2.1 129 8)) + (Int32.toInt64 y2)) - (48 : Int64) = K at *
    have a1 : (sI (sJ w 129 8 K) 129 2 ((w.1 129 2) + (1 : Int32))).1 129 2 = (w.1 129 2) + (1 : Int32) := sI_same _ _ _ _
    have a6 : (sI (sJ w 129 8 K) 129 2 ((w.1 129 2) + (1 : Int32))).2.1 129 8 = K := sJ_same _ _ _ _
    have ei : B + ((i + 1 : Nat) : Int) = B + (i : Int) + 1 := by omega
    refine ih (i + 1) _ (wbd_129_2 (show BND (sJ w 129 8 K) from hB) (by omega) (by omega)) (FR.I (FR.J hF rfl) rfl) (by omega) (by rw [a1, s, ei]) (by omega) (by rw [a6, eK]; omega) (by rw [a6, eK, pe]; omega) ?_ ?_ (by omega)
    · rw [a6, eK, ei, show 10 * (w.2.1 129 8).toInt = (w.2.1 129 8).toInt * 10 by omega]
      exact hT
    · rw [ei, ← hP, List.length_cons]
      omega
def fkl (k : Nat) (b : Int64) : Prop := (k = 3 ∧ b = 100) ∨ (k = 2 ∧ b = 10) ∨ (k = 1 ∧ b = 1) ∨ (k = 0 ∧ b = 0)
theorem dg_143 {w0 : MW} {f : Int → Int} {n T P : Int} {E Q : MW → Prop} (hX : TXm w0 f n) (hE : ∀ w', BND w' → FR [(129, some 2), (129, some 8)] w0 w' → (w'.2.1 129 8).toInt = T → (w'.1 129 2).toInt = P → P ≤ n → E w') (m : Nat) : ∀ (k : Nat) (b : Int64) (w : MW), fkl k b → BND w → FR [(129, some 2), (129, some 8)] w0 w → (w.1 129 2).toInt ≤ n → 0 ≤ (w.2.1 129 8).toInt → (w.2.1 129 8).toInt + 1000 * (k : Int) ≤ 2000000000000 → fra b.toInt (w.2.1 129 8).toInt (dgl f k (w.1 129 2).toInt) = T → (w.1 129 2).toInt + ((dgl f k (w.1 129 2).toInt).length : Int) = P → k < m → q_Tx_digits_143 E Q m b w := by
  induction m with
  | zero => intros; omega
  | succ m ih =>
    intro k b w hk hB hF pn c0 c1 hT hP hm
    have t := txm_fr hX hF rfl
    have n4 := hX.2.1
    have b2 := bd_129_2 hB
    have out : (k = 0 ∨ dg1 (f (w.1 129 2).toInt) = false) → E w := fun o => by
      have el : dgl f k (w.1 129 2).toInt = [] := by
        cases k with
        | zero => rfl
        | succ k =>
          rcases o with o | o
          · omega
          · rw [dgl_u, if_neg (nt o)]
      rw [el] at hT hP
      have hP' : (w.1 129 2).toInt = P := by rw [← hP]; simp
      exact hE w hB hF hT hP' (by omega)
    have step : ∀ (k' : Nat) (b' : Int64) (B : Int) (y : Int32), k = k' + 1 → b.toInt = B → b / (10 : Int64) = b' → B / 10 = b'.toInt → fkl k' b' → 0 ≤ B → B ≤ 100 → dg1 (f (w.1 129 2).toInt) = true → ag0 y.toInt (f (w.1 129 2).toInt) → q_Tx_digits_143 E Q m (b / (10 : Int64)) (sI (sJ w 129 8 ((w.2.1 129 8) + (b * (Int32.toInt64 (y - (48 : Int32)))))) 129 2 ((w.1 129 2) + (1 : Int32))) := fun k' b' B y ek eb e1 e2 hk' B0 B1 d a => by
      have dd := dg1_t.mp d
      have a' : y.toInt = f (w.1 129 2).toInt ∨ (y.toInt = 0 ∧ f (w.1 129 2).toInt = -1) := a
      have ey : y.toInt = f (w.1 129 2).toInt := by omega
      have lt : (w.1 129 2).toInt < n := by
        by_cases q : 0 ≤ (w.1 129 2).toInt ∧ (w.1 129 2).toInt < n
        · exact q.2
        · have := hX.2.2.2 _ q
          omega
      have s := ti_add2 (Eq.refl (w.1 129 2).toInt) i_1 (by omega) (by omega)
      rw [ek, dgl_u, if_pos d] at hT hP
      have d0 := ti_sub2 ey (show (48 : Int32).toInt = 48 by decide) (by omega) (by omega)
      have mb : 0 ≤ B * (f (w.1 129 2).toInt - 48) ∧ B * (f (w.1 129 2).toInt - 48) ≤ 100 * 9 := ⟨Int.mul_nonneg B0 (by omega), Int.mul_le_mul B1 (by omega) (by omega) (by omega)⟩
      have dm := li_mul eb ((nb_i2l (y - (48 : Int32))).trans d0) (by omega) (by omega)
      have eK := li_add (Eq.refl (w.2.1 129 8).toInt) dm (by omega) (by omega)
      generalize hK : (w.2.1 129 8) + (b * (Int32.toInt64 (y - (48 : Int32)))) = K at *
      have a1 : (sI (sJ w 129 8 K) 129 2 ((w.1 129 2) + (1 : Int32))).1 129 2 = (w.1 129 2) + (1 : Int32) := sI_same _ _ _ _
      have a6 : (sI (sJ w 129 8 K) 129 2 ((w.1 129 2) + (1 : Int32))).2.1 129 8 = K := sJ_same _ _ _ _
      rw [e1]
      refine ih k' b' _ hk' (wbd_129_2 (show BND (sJ w 129 8 K) from hB) (by omega) (by omega)) (FR.I (FR.J hF rfl) rfl) (by rw [a1, s]; omega) (by rw [a6, eK]; omega) (by rw [a6, eK]; omega) ?_ ?_ (by omega)
      · rw [a6, eK, a1, s, ← e2]
        rw [eb] at hT
        exact hT
      · rw [a1, s, ← hP, List.length_cons]
        omega
    rw [q_Tx_digits_143.eq_2]
    refine ta_x t rfl b2.1 (fun y a => md_x a (fun d => ⟨fun z => absurd z i1n, fun _ => ⟨fun z => out ?_, fun z => ta_x t rfl b2.1 (fun y2 a2 => ?_)⟩⟩) (fun d => ⟨fun _ => out (Or.inr d), fun z => absurd i_0 z⟩))
    · rcases hk with ⟨_, e⟩ | ⟨_, e⟩ | ⟨_, e⟩ | ⟨e, _⟩
      · rw [e] at z
        exact absurd z (by decide)
      · rw [e] at z
        exact absurd z (by decide)
      · rw [e] at z
        exact absurd z (by decide)
      · exact Or.inl e
    · rcases hk with ⟨ek, e⟩ | ⟨ek, e⟩ | ⟨ek, e⟩ | ⟨ek, e⟩
      · exact step 2 10 100 y2 ek (by rw [e]; decide) (by rw [e]; decide) (by decide) (Or.inr (Or.inl ⟨rfl, rfl⟩)) (by decide) (by decide) d a2
      · exact step 1 1 10 y2 ek (by rw [e]; decide) (by rw [e]; decide) (by decide) (Or.inr (Or.inr (Or.inl ⟨rfl, rfl⟩))) (by decide) (by decide) d a2
      · exact step 0 0 1 y2 ek (by rw [e]; decide) (by rw [e]; decide) (by decide) (Or.inr (Or.inr (Or.inr ⟨rfl, rfl⟩))) (by decide) (by decide) d a2
      · rw [e] at z
        exact absurd (show (lg_cmp (0 : Int64) (0 : Int64)).toInt ≤ 0 by decide) z
def ldg : Pl := [(129, some 2), (129, some 8), (129, some 9)]
theorem dg_x {w : MW} {f : Int → Int} {n q : Int} {Q : MW → Prop} (hI : BND w) (hX : TXm w f n) (h2 : (w.1 129 2).toInt = q) (h5 : (w.1 129 5).toInt = q) (qn : q ≤ n) (hQ : ∀ w', BND w' → FR ldg w w' → (w'.2.1 129 8).toInt = dgz f q → (w'.1 129 2).toInt = dgn f q → (w'.1 129 9).toInt = (if dgp f q = true then 1 else 0) → dgn f q ≤ n → Q w') : p_Tx_digits w Q := by
  have b5 := bd_129_5 hI
  have z0 : (0 : Int64).toInt = 0 := by decide
  have B1 : BND (sJ w 129 8 0) := hI
  have F1 : FR ldg w (sJ w 129 8 0) := FR.J (FR.refl _ w) rfl
  have a8 : (sJ w 129 8 0).2.1 129 8 = 0 := sJ_same _ _ _ _
  have a2 : ((sJ w 129 8 0).1 129 2).toInt = q + ((0 : Nat) : Int) := by
    have e : ((sJ w 129 8 0).1 129 2).toInt = q := h2
    omega
  have a5 : ((sJ w 129 8 0).1 129 5).toInt = q := h5
  refine Eq.mpr (p_Tx_digits.eq_1 _ _) ?_
  generalize (sJ w 129 8 0) = w1 at *
  have X1 := txm_fr hX F1 rfl
  refine dg_5 (w0 := w1) X1 a5 (by omega) (fun w6 B6 F6 e8 e2 t0 t1 pn => ?_) FU 0 w1 B1 (FR.refl _ w1) (Nat.zero_le _) a2 (by omega) (by rw [a8, z0]; decide) (by rw [a8, z0]; decide) rfl rfl (fu_lt (by decide))
  rw [a8, z0] at e8 t0 t1
  rw [show q + ((0 : Nat) : Int) = q by omega] at e8 t0 t1 e2 pn
  have hd : (w6.1 129 2).toInt = dge f q := e2
  have e8' : (w6.2.1 129 8).toInt = vlu 0 (dgl f 9 q) := e8
  have t0' : 0 ≤ vlu 0 (dgl f 9 q) := t0
  have t1' : vlu 0 (dgl f 9 q) < 1000000000 := t1
  have pn' : dge f q ≤ n := pn
  have F16 : FR ldg w w6 := F1.tr F6 rfl
  have eM := li_mul (Eq.refl (w6.2.1 129 8).toInt) (show (1000 : Int64).toInt = 1000 by decide) (by omega) (by omega)
  have B7 : BND (sJ w6 129 8 ((w6.2.1 129 8) * (1000 : Int64))) := B6
  have F7 : FR ldg w (sJ w6 129 8 ((w6.2.1 129 8) * (1000 : Int64))) := FR.J F16 rfl
  have c8 : ((sJ w6 129 8 ((w6.2.1 129 8) * (1000 : Int64))).2.1 129 8).toInt = vlu 0 (dgl f 9 q) * 1000 := by rw [sJ_same, eM, e8']
  have c2 : ((sJ w6 129 8 ((w6.2.1 129 8) * (1000 : Int64))).1 129 2).toInt = dge f q := hd
  have de : 0 ≤ dge f q := by
    have := bd_129_2 B6
    omega
  have ew : (sJ w6 129 8 ((w6.2.1 129 8) * (1000 : Int64))).1 129 2 = w6.1 129 2 := rfl
  rw [← ew]
  generalize (sJ w6 129 8 ((w6.2.1 129 8) * (1000 : Int64))) = w7 at *
  have X7 := txm_fr hX F7 rfl
  have n4 := hX.2.1
  have no : dgp f q = false → q_Tx_digits_119 0 w7 Q := fun np => by
    refine Eq.mpr (q_Tx_digits_119.eq_1 _ _ _) ⟨Or.inl i_0, fun _ => hQ _ (wbd_129_9 B7 (by decide) (by decide)) (FR.I F7 rfl) ?_ ?_ ?_ ?_, fun z => absurd i_0 z⟩
    · show (w7.2.1 129 8).toInt = _
      rw [c8]
      unfold dgz dgf
      rw [if_neg (nt np)]
      rfl
    · rw [sI_ne _ _ _ _ _ (by decide), c2]
      unfold dgn
      rw [if_neg (nt np)]
    · rw [sI_same, if_neg (nt np)]
      exact i_0
    · unfold dgn
      rw [if_neg (nt np)]
      exact pn'
  refine ta_x X7 c2 de (fun y a => ⟨fun z => no ?_, fun z => ?_⟩)
  · have a' : y.toInt = f (dge f q) ∨ (y.toInt = 0 ∧ f (dge f q) = -1) := a
    unfold dgp
    exact decide_eq_false (fun u => by have := u.1; omega)
  · have a' : y.toInt = f (dge f q) ∨ (y.toInt = 0 ∧ f (dge f q) = -1) := a
    have z' := Classical.not_not.mp z
    have e46 : f (dge f q) = 46 := by omega
    have lt : dge f q < n := by
      by_cases u : 0 ≤ dge f q ∧ dge f q < n
      · exact u.2
      · have := hX.2.2.2 _ u
        omega
    have s := ti_add2 c2 i_1 (by omega) (by omega)
    refine ta_x X7 s (by omega) (fun y2 a2 => md_x a2 (fun d => ⟨fun u => absurd u i1n, fun _ => ?_⟩) (fun d => ⟨fun _ => no ?_, fun u => absurd i_0 u⟩))
    · have yes : dgp f q = true := decide_eq_true ⟨e46, d⟩
      refine Eq.mpr (q_Tx_digits_119.eq_1 _ _ _) ⟨Or.inr i_1, fun u => absurd u i1n, fun _ => ?_⟩
      have B9 : BND (sI (sI w7 129 9 1) 129 2 ((w7.1 129 2) + (1 : Int32))) := wbd_129_2 (wbd_129_9 B7 (by decide) (by decide)) (by omega) (by omega)
      have F9 : FR ldg w (sI (sI w7 129 9 1) 129 2 ((w7.1 129 2) + (1 : Int32))) := FR.I (FR.I F7 rfl) rfl
      have g2 : ((sI (sI w7 129 9 1) 129 2 ((w7.1 129 2) + (1 : Int32))).1 129 2).toInt = dge f q + 1 := by rw [sI_same]; exact s
      have g8 : ((sI (sI w7 129 9 1) 129 2 ((w7.1 129 2) + (1 : Int32))).2.1 129 8).toInt = vlu 0 (dgl f 9 q) * 1000 := c8
      have g9 : ((sI (sI w7 129 9 1) 129 2 ((w7.1 129 2) + (1 : Int32))).1 129 9).toInt = 1 := by rw [sI_ne _ _ _ _ _ (by decide), sI_same]; exact i_1
      generalize (sI (sI w7 129 9 1) 129 2 ((w7.1 129 2) + (1 : Int32))) = w9 at *
      have X9 := txm_fr hX F9 rfl
      refine dg_143 (w0 := w9) X9 (fun w' B' F' f8 f2 fn => hQ w' B' (F9.tr F' rfl) ?_ ?_ ?_ ?_) FU 3 100 w9 (Or.inl ⟨rfl, rfl⟩) B9 (FR.refl _ w9) (by rw [g2]; omega) (by rw [g8]; omega) (by rw [g8]; omega) rfl rfl (fu_lt (by decide))
      · rw [f8, g8, g2]
        unfold dgz dgf
        rw [if_pos yes]
        rfl
      · rw [f2, g2]
        unfold dgn
        rw [if_pos yes]
      · rw [(F' 129 9 rfl).1, g9, if_pos yes]
      · rw [g2] at fn
        unfold dgn
        rw [if_pos yes]
        exact fn
    · unfold dgp
      exact decide_eq_false (fun u => absurd u.2 (nt d))
