/-! the class's readers of sums where something is wrong already -/
theorem xb_op {w : MW} {f : Int → Int} {n : Int} {nm : List Nm} {op op' : Nat} {v : Int32} (h : XB w f n nm op) (hv : v.toInt = (op' : Int)) (o2 : op' ≤ 20) : XB (sI w 87 8 v) f n nm op' := by
  have F : FR [(87, some 8)] w (sI w 87 8 v) := FR.I (FR.refl _ w) rfl
  have B : BND (sI w 87 8 v) := bnd_set h.1 (by show (0 : Int) ≤ _; omega) (by show _ ≤ (20 : Int); omega)
  refine ⟨B, h.2.1, h.2.2.1, h.2.2.2.1, (cf_fr F rfl).trans h.2.2.2.2.1, by rw [(F 1 2 rfl).1]; exact h.2.2.2.2.2.1, nmc_fr h.2.2.2.2.2.2.1 F rfl, by rw [sI_same]; exact hv, by rw [(F 87 2 rfl).1]; exact h.2.2.2.2.2.2.2.2⟩
theorem xs_op {w : MW} {f : Int → Int} {n : Int} {nm : List Nm} {op op' : Nat} {p : Int} {ns : List Nod} {v : Int32} (h : XS w f n nm op p ns) (hv : v.toInt = (op' : Int)) (o2 : op' ≤ 20) : XS (sI w 87 8 v) f n nm op' p ns := by
  have F : FR [(87, some 8)] w (sI w 87 8 v) := FR.I (FR.refl _ w) rfl
  exact ⟨xb_op h.1 hv o2, tkc_fr h.2.1 F rfl, h.2.2.1, by rw [(F 87 9 rfl).1]; exact h.2.2.2.1, pnc_k h.2.2.2.2.1 (KNd.fr F rfl) (F 108 1 rfl).1, h.2.2.2.2.2.1, h.2.2.2.2.2.2.1, h.2.2.2.2.2.2.2⟩
theorem xw_op {w : MW} {f : Int → Int} {n : Int} {nm : List Nm} {op op' N : Nat} {e : Int} {v : Int32} (h : XW w f n nm op e N) (hv : v.toInt = (op' : Int)) (o2 : op' ≤ 20) : XW (sI w 87 8 v) f n nm op' e N := by
  have F : FR [(87, some 8)] w (sI w 87 8 v) := FR.I (FR.refl _ w) rfl
  exact ⟨xb_op h.1 hv o2, by rw [(F 87 9 rfl).1]; exact h.2.1, h.2.2.1, by rw [(F 108 1 rfl).1]; exact h.2.2.2.1, h.2.2.2.2⟩
theorem w_53 {rF : MW → (Int32 → MW → Prop) → Prop} {rL : MW → Int32 → (Int32 → MW → Prop) → Prop} {w : MW} {f : Int → Int} {n : Int} {nm : List Nm} {op N : Nat} {e : Int} {x y z : Int32} {Q : Int32 → MW → Prop} (h : XW w f n nm op e N) (hQ : Q 0 w) : q_Rd_readFactor_53 rF rL x y z w Q := by
  have e0 := h.2.2.1
  have ew := h.2.1
  exact Eq.mpr (q_Rd_readFactor_53.eq_1 _ _ _ _ _ _ _) ⟨fun _ => fl_w h hQ, fun c => absurd (show 0 ≤ (w.1 87 9).toInt by omega) c⟩
theorem w_26 {rF : MW → (Int32 → MW → Prop) → Prop} {rL : MW → Int32 → (Int32 → MW → Prop) → Prop} {w : MW} {f : Int → Int} {n : Int} {nm : List Nm} {op N : Nat} {e : Int} {x y : Int32} {Q : Int32 → MW → Prop} (h : XW w f n nm op e N) (hQ : Q 0 w) : q_Rd_readFactor_26 rF rL x y w Q :=
  Eq.mpr (q_Rd_readFactor_26.eq_1 _ _ _ _ _ _) ⟨fun _ => ⟨fun _ => w_53 h hQ, fun _ => w_53 h hQ⟩, fun _ => ⟨fun _ => w_53 h hQ, fun _ => ⟨fun _ => w_53 h hQ, fun _ => w_53 h hQ⟩⟩⟩
theorem w_fac {d : Nat} {w : MW} {f : Int → Int} {n : Int} {nm : List Nm} {op N : Nat} {e : Int} {Q : Int32 → MW → Prop} (h : XW w f n nm op e N) (hQ : ∀ y : Int32, Q y w) : pn_Rd_readFactor (d + 1) w Q := by
  rw [pe_Rd_readFactor]
  refine Eq.mpr (pb_Rd_readFactor.eq_1 _ _ _ _) ⟨fun _ => w_26 h (hQ 0), fun _ => ⟨h.1.2.2.1, h_Pr_finds108 h.1.1 (fun r w' _ F' _ _ => ?_)⟩⟩
  obtain rfl := fr_nil F' rfl
  exact w_26 h (hQ 0)
theorem w_38 {rF : MW → (Int32 → MW → Prop) → Prop} {rL : MW → Int32 → (Int32 → MW → Prop) → Prop} {w : MW} {f : Int → Int} {n : Int} {nm : List Nm} {op N : Nat} {e : Int} {a b c u j : Int32} {E : Int32 → Int32 → MW → Prop} {Q : Int32 → MW → Prop} (h : XW w f n nm op e N) (hE : E u j w) (k : Nat) (hk : 0 < k) : q_Rd_readLevel_38 rF rL a b c E Q k u j w := by
  have e0 := h.2.2.1
  have ew := h.2.1
  cases k with
  | zero => omega
  | succ k =>
    rw [q_Rd_readLevel_38.eq_2]
    exact ⟨fun _ => hE, fun _ => ⟨fun _ => hE, fun z => absurd (show 0 ≤ (w.1 87 9).toInt by omega) z⟩⟩
theorem w_33 {rF : MW → (Int32 → MW → Prop) → Prop} {rL : MW → Int32 → (Int32 → MW → Prop) → Prop} {w : MW} {f : Int → Int} {n : Int} {nm : List Nm} {op N : Nat} {e : Int} {a b c u : Int32} {Q : Int32 → MW → Prop} (h : XW w f n nm op e N) (hQ : ∀ y : Int32, Q y w) : q_Rd_readLevel_33 rF rL a b u c w Q :=
  Eq.mpr (q_Rd_readLevel_33.eq_1 _ _ _ _ _ _ _ _) (w_38 h ⟨fun _ => hQ _, fun _ => ⟨fun _ => hQ _, fun _ => fl_w h (hQ _)⟩⟩ FU (fu_lt (by decide)))
theorem w_lev {w : MW} {f : Int → Int} {n : Int} {nm : List Nm} {op N : Nat} {e : Int} (h : XW w f n nm op e N) : ∀ (s m d : Nat) (Q : Int32 → MW → Prop), m + s = 2 → (∀ y : Int32, Q y w) → pn_Rd_readLevel (d + s + 2) w (nI m) Q := by
  intro s
  induction s with
  | zero =>
    intro m d Q hm hQ
    have tm : (nI m + (1 : Int32)).toInt = (m : Int) + 1 := by
      rw [nI_1, nI_toInt (by omega)]
      omega
    rw [pe_Rd_readLevel]
    refine Eq.mpr (pb_Rd_readLevel.eq_1 _ _ _ _ _) ⟨fun _ => w_fac h (fun y => ⟨fun _ => w_33 h hQ, fun _ => w_33 h hQ⟩), fun z => ?_⟩
    rw [tm] at z
    omega
  | succ s ih =>
    intro m d Q hm hQ
    have tm : (nI m + (1 : Int32)).toInt = (m : Int) + 1 := by
      rw [nI_1, nI_toInt (by omega)]
      omega
    rw [show d + (s + 1) + 2 = (d + s + 2) + 1 by omega, pe_Rd_readLevel]
    refine Eq.mpr (pb_Rd_readLevel.eq_1 _ _ _ _ _) ⟨fun z => ?_, fun z => ?_⟩
    · rw [tm] at z
      omega
    · rw [nI_1]
      exact ih (m + 1) d _ (by omega) (fun y => ⟨fun _ => w_33 h hQ, fun _ => w_33 h hQ⟩)
theorem w_join {w : MW} {f : Int → Int} {n : Int} {nm : List Nm} {op N : Nat} {e : Int} {a b c d : Int32} {Q : Int32 → MW → Prop} (h : XW w f n nm op e N) (hQ : Q 0 w) : p_Rd_join w a b c d Q := by
  have e0 := h.2.2.1
  have ew := h.2.1
  exact Eq.mpr (p_Rd_join.eq_1 _ _ _ _ _ _) ⟨fun z => by omega, fun _ => hQ⟩
/-- two sides are joined -/
theorem jn_g {w : MW} {C U Y : Int} {a b c d : Int32} {Q : Int32 → MW → Prop} (hw : (w.1 87 9).toInt = -1) (ha : a.toInt = C) (hc : c.toInt = U) (hd : d.toInt = Y) (U0 : 0 ≤ U) (Y0 : 0 ≤ Y) (h0 : xun C U Y < 0 → Q 0 (sI w 87 9 b)) (h1 : ¬ xun C U Y < 0 → ∀ x : Int32, x.toInt = xun C U Y → p_Rd_makeNode w a 0 (fun r6 w6 => Q x w6)) : p_Rd_join w a b c d Q := by
  have j0 : xun C U Y < 0 → ∀ x : Int32, q_Rd_join_94 a b 0 x w Q := fun z x => Eq.mpr (q_Rd_join_94.eq_1 _ _ _ _ _ _) ⟨fun q => absurd i_0 q, fun _ => h0 z⟩
  have j1 : ∀ x : Int32, x.toInt = xun C U Y → 0 ≤ xun C U Y → q_Rd_join_94 a b 1 x w Q := fun x ex z => Eq.mpr (q_Rd_join_94.eq_1 _ _ _ _ _ _) ⟨fun _ => h1 (by omega) x ex, fun q => absurd i1n q⟩
  have k20 : ∀ s : Int32, ((s = 1 ∧ U = Y) ∨ (s = 0 ∧ ¬ U = Y)) → q_Rd_join_20 a b c d s w Q := fun s hs => by
    refine Eq.mpr (q_Rd_join_20.eq_1 _ _ _ _ _ _ _) ⟨fun n42 => ⟨fun n47 => ?_, fun q47 => ⟨fun eq => ⟨fun dn => ?_, fun dz => ?_⟩, fun ne => ⟨fun dn => ?_, fun dz => ?_⟩⟩⟩, fun q42 => ⟨fun cz => Eq.mpr (p_Ma_max.eq_1 _ _ _ _) ⟨fun g => ?_, fun g => ?_⟩, fun cn => ⟨fun dn => Eq.mpr (p_Ma_max.eq_1 _ _ _ _) ⟨fun g => ?_, fun g => ?_⟩, fun dz => Eq.mpr (p_Ma_max.eq_1 _ _ _ _) ⟨fun g => ?_, fun g => ?_⟩⟩⟩⟩
    · have ex : xun C U Y = if U = Y then U else -1 := by
        unfold xun
        rw [if_neg (by omega), if_neg (by omega)]
      rcases hs with ⟨es, eu⟩ | ⟨es, eu⟩
      · rw [if_pos eu] at ex
        rw [es]
        exact j1 c (by omega) (by omega)
      · rw [if_neg eu] at ex
        rw [es]
        exact j0 (by omega) c
    · have ex : xun C U Y = 0 := by
        unfold xun
        rw [if_neg (by omega), if_pos (by have := Classical.not_not.mp q47; omega), if_neg (by omega), if_pos (by omega)]
      exact j1 0 (by rw [ex]; exact i_0) (by omega)
    · have ex : xun C U Y = U := by
        unfold xun
        rw [if_neg (by omega), if_pos (by have := Classical.not_not.mp q47; omega), if_pos (by have := Classical.not_not.mp dz; omega)]
      exact j1 c (by rw [ex]; exact hc) (by omega)
    · have ex : xun C U Y = -1 := by
        unfold xun
        rw [if_neg (by omega), if_pos (by have := Classical.not_not.mp q47; omega), if_neg (by omega), if_neg (by omega)]
      exact j0 (by omega) 0
    · have ex : xun C U Y = U := by
        unfold xun
        rw [if_neg (by omega), if_pos (by have := Classical.not_not.mp q47; omega), if_pos (by have := Classical.not_not.mp dz; omega)]
      exact j1 c (by rw [ex]; exact hc) (by omega)
    all_goals have c42 := Classical.not_not.mp q42
    · have ex : xun C U Y = Y := by
        unfold xun
        rw [if_pos (by omega), if_pos (by omega)]
      exact j1 _ (by omega) (by omega)
    · have ex : xun C U Y = Y := by
        unfold xun
        rw [if_pos (by omega), if_pos (by omega)]
      exact j1 _ (by omega) (by omega)
    · have ex : xun C U Y = -1 := by
        unfold xun
        rw [if_pos (by omega), if_neg (by omega), if_neg (by omega)]
      exact j0 (by omega) _
    · have ex : xun C U Y = -1 := by
        unfold xun
        rw [if_pos (by omega), if_neg (by omega), if_neg (by omega)]
      exact j0 (by omega) _
    · have ex : xun C U Y = U := by
        unfold xun
        rw [if_pos (by omega), if_neg (by omega), if_pos (by have := Classical.not_not.mp dz; omega)]
      have := Classical.not_not.mp dz
      exact j1 _ (by omega) (by omega)
    · have ex : xun C U Y = U := by
        unfold xun
        rw [if_pos (by omega), if_neg (by omega), if_pos (by have := Classical.not_not.mp dz; omega)]
      have := Classical.not_not.mp dz
      exact j1 _ (by omega) (by omega)
  exact Eq.mpr (p_Rd_join.eq_1 _ _ _ _ _ _) ⟨fun _ => ⟨fun ne => k20 0 (Or.inr ⟨rfl, by omega⟩), fun eq => k20 1 (Or.inl ⟨rfl, by have := Classical.not_not.mp eq; omega⟩)⟩, fun z => by omega⟩
