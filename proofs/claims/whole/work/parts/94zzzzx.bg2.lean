/-! a begin on both sides: kinds without a sum -/
/-- outside of s the reference's places are as they were -/
def A8 (w W : MW) (s : Nat) : Prop := ∀ j : Nat, ¬ j = s → W.1 210 j = w.1 210 j ∧ W.1 211 j = w.1 211 j ∧ W.1 212 j = w.1 212 j ∧ W.1 213 j = w.1 213 j ∧ W.1 214 j = w.1 214 j ∧ W.2.1 215 j = w.2.1 215 j ∧ W.2.1 216 j = w.2.1 216 j ∧ W.2.1 217 j = w.2.1 217 j
theorem a8_0 (w : MW) (s : Nat) : A8 w w s := fun _ _ => ⟨rfl, rfl, rfl, rfl, rfl, rfl, rfl, rfl⟩
theorem a8_I {w W : MW} {s : Nat} (h : A8 w W s) (c : Nat) (x : Int32) : A8 w (sI W c s x) s := fun j hj => by
  have t := h j hj
  have e : ∀ a, (sI W c s x).1 a j = W.1 a j := fun a => by rw [sI_at, if_neg (fun z => hj z.2)]
  rw [e, e, e, e, e, sI_J]
  exact t
theorem a8_J {w W : MW} {s : Nat} (h : A8 w W s) (c : Nat) (x : Int64) : A8 w (sJ W c s x) s := fun j hj => by
  have t := h j hj
  have e : ∀ a, (sJ W c s x).2.1 a j = W.2.1 a j := fun a => by rw [sJ_at, if_neg (fun z => hj z.2)]
  rw [e, e, e, sJ_I]
  exact t
theorem a8_f {w W W' : MW} {s : Nat} {l : Pl} (h : A8 w W s) (F : FR l W W') (ho : off l [(210, none), (211, none), (212, none), (213, none), (214, none), (215, none), (216, none), (217, none)] = true) : A8 w W' s := fun j hj => by
  have t := h j hj
  rw [(F 210 j (off_hit ho rfl)).1, (F 211 j (off_hit ho rfl)).1, (F 212 j (off_hit ho rfl)).1, (F 213 j (off_hit ho rfl)).1, (F 214 j (off_hit ho rfl)).1, (F 215 j (off_hit ho rfl)).2.1, (F 216 j (off_hit ho rfl)).2.1, (F 217 j (off_hit ho rfl)).2.1]
  exact t
theorem a8_x (w : MW) (s : Nat) (x mn : Int64) : A8 w (bxW w s x mn) s := a8_I (a8_J (a8_J (a8_I (a8_I (a8_I (a8_0 w s) _ _) _ _) _ _) _ _) _ _) _ _
/-- outside of s .. m - 1 the class's parts are as they were -/
def A6 (v V : MW) (s m : Nat) : Prop := ∀ j : Nat, (j < s ∨ m ≤ j) → V.1 80 j = v.1 80 j ∧ V.1 81 j = v.1 81 j ∧ V.2.1 82 j = v.2.1 82 j ∧ V.2.1 83 j = v.2.1 83 j ∧ V.2.1 84 j = v.2.1 84 j ∧ V.2.1 85 j = v.2.1 85 j
theorem a6_0 (v : MW) (s m : Nat) : A6 v v s m := fun _ _ => ⟨rfl, rfl, rfl, rfl, rfl, rfl⟩
theorem a6_J {v V : MW} {s m : Nat} (sm : s < m) (h : A6 v V s m) (c : Nat) (x : Int64) : A6 v (sJ V c s x) s m := fun j hj => by
  have t := h j hj
  have e : ∀ a, (sJ V c s x).2.1 a j = V.2.1 a j := fun a => by rw [sJ_at, if_neg (fun z => by have := z.2; omega)]
  rw [e, e, e, e, sJ_I]
  exact t
theorem a6_f {v V V' : MW} {s m : Nat} {l : Pl} (h : A6 v V s m) (F : FR l V V') (ho : off l [(80, none), (81, none), (82, none), (83, none), (84, none), (85, none)] = true) : A6 v V' s m := fun j hj => by
  have t := h j hj
  rw [(F 80 j (off_hit ho rfl)).1, (F 81 j (off_hit ho rfl)).1, (F 82 j (off_hit ho rfl)).2.1, (F 83 j (off_hit ho rfl)).2.1, (F 84 j (off_hit ho rfl)).2.1, (F 85 j (off_hit ho rfl)).2.1]
  exact t
theorem a6_c {v V : MW} {s m : Nat} {a b : Int32} (sm : s < m) (h : A6 v V s m) (ea : a.toInt.toNat = s) (hB : BND V) (b0 : -1 ≤ b.toInt) (b5 : b.toInt ≤ 500) (bs : b.toInt = -1 ∨ ((s : Int) < b.toInt ∧ b.toInt < (m : Int))) : A6 v (chW (sI V 80 a.toInt.toNat 1) a b) s m := fun j hj => by
  have t := h j hj
  obtain ⟨_, F, _, _, _, f4, f5⟩ := ci_x ea hB b0 b5 (by omega)
  rw [f4 j (by omega) (by omega), f5 j (by omega), (F 82 j rfl).2.1, (F 83 j rfl).2.1, (F 84 j rfl).2.1, (F 85 j rfl).2.1]
  exact t
/-- the reference's loop over kids, and what is kept -/
theorem bm_g {ns : List Nod} {v w w2 : MW} {l : List Nat} {s m : Nat} {x0 : Int32} {Qm : Int32 → MW → Prop} (ly : LyQ v w) (hL : Lz ns v l (s + 1) (fiC v s) m) (sm : s < m) (hp : (m : Int) ≤ (v.1 61 5).toInt) (h : q_Mo_begin_538 (fun w' => Qm 1 w') Qm FU x0 w2) (ex : x0 = w.1 208 s) (h9 : ∀ j, w2.1 209 j = w.1 209 j) (hB : BND w2) (A2 : A8 w w2 s) : ∃ w', Qm 1 w' ∧ BND w' ∧ FR [(210, none), (212, none)] w2 w' ∧ AO0 v w' l (fiC v s) ∧ w'.1 210 s = w2.1 210 s ∧ (∀ j : Nat, (j < s ∨ m ≤ j) → w'.1 210 j = w.1 210 j ∧ w'.1 211 j = w.1 211 j ∧ w'.1 212 j = w.1 212 j ∧ w'.1 213 j = w.1 213 j ∧ w'.1 214 j = w.1 214 j ∧ w'.2.1 215 j = w.2.1 215 j ∧ w'.2.1 216 j = w.2.1 216 j ∧ w'.2.1 217 j = w.2.1 217 j) ∧ SgR false w2 w' := by
  obtain ⟨w', a1, a2, a3, a4, a5, a6⟩ := bt_x (v := v) h (by rw [ex, ← (ly.2.2 s (by omega)).2.1]; rfl) hL (fun j hj => by rw [h9]; exact (ly.2.2 j hj).2.2) hp hB
  refine ⟨w', a1, a3, a2, a4, (a5 s (Or.inl (by omega))).1, fun j hj => ?_, (a2 127 74 rfl).1, fun j hj => Or.inl ?_⟩
  rotate_left
  · rcases a6 j with z | z
    · unfold bgM at hj ⊢
      unfold siM
      rw [z] at hj
      rw [(a2 214 j rfl).1]
      exact ⟨hj, rfl⟩
    · unfold bgM at hj
      omega
  have t := A2 j (by omega)
  have q := a5 j (by omega)
  rw [q.1, q.2, (a2 211 j rfl).1, (a2 213 j rfl).1, (a2 214 j rfl).1, (a2 215 j rfl).2.1, (a2 216 j rfl).2.1, (a2 217 j rfl).2.1]
  exact t
def lpC : Pl := [(80, none), (81, none), (82, none), (83, none), (84, none), (85, none)]
def lpM : Pl := [(210, none), (211, none), (212, none), (213, none), (214, none), (215, none), (216, none), (217, none)]
theorem bg_p {GoW : MW → MW → Prop} {ns : List Nod} {nm : List Nm} {ks : List Nat} {off : Int} {v w v' w' : MW} {s m : Nat} (hG : GoI GoW) (hW : WS GoW ns nm ks off v w) (B : BND v') (B' : BND w') (F : FR lpC v v') (G : FR lpM w w') (A : A6 v v' s m) (A' : ∀ j : Nat, (j < s ∨ m ≤ j) → w'.1 210 j = w.1 210 j ∧ w'.1 211 j = w.1 211 j ∧ w'.1 212 j = w.1 212 j ∧ w'.1 213 j = w.1 213 j ∧ w'.1 214 j = w.1 214 j ∧ w'.2.1 215 j = w.2.1 215 j ∧ w'.2.1 216 j = w.2.1 216 j ∧ w'.2.1 217 j = w.2.1 217 j) (mn : MnR false v w v' w') : PoL false GoW ns nm ks off v w v' w' s m := pol_b hG hW B B' ((FR.refl lrC v).tr F rfl) ((FR.refl lrM w).tr G rfl) (vlr_f hW.2.2.2.1 F G rfl rfl) (alr_f hW.2.2.2.2.1 F G rfl rfl) (cnr_f hW.2.2.2.2.2 F G rfl rfl (by rw [(G 127 76 rfl).1]; exact hW.2.2.2.2.2.2.2.2.1)) A A' mn
theorem sml5 {GoW : MW → MW → Prop} {ns : List Nod} {nm : List Nm} {ks : List Nat} {off : Int} {v w : MW} {m : Nat} (hW : WS GoW ns nm ks off v w) (hp : (m : Int) ≤ (v.1 61 5).toInt) : m ≤ 501 := by
  have := hW.2.2.1.2.2.2.2.2.1.2.1.2
  omega
/-- a statement that stands behind its begin -/
theorem bdy_st {D : Nat → Nat → Prop} {ns : List Nod} {off : Int} {v w : MW} {c p : Nat} {k : Int} (hk : k = 12 ∨ k = 13 ∨ k = 14 ∨ k = 22) (cu : cuC v p = -1) (h12 : k = 12 → (v.2.1 82 p).toInt = siM w p + (w.2.1 215 p).toInt + off + 1) (h13 : k = 13 → dnM w p = 0) (h14 : k = 14 → dnM w p = 0 ∧ 1 ≤ (w.2.1 215 p).toInt ∧ (v.2.1 82 p).toInt = siM w p + off + 1 ∧ v.2.1 83 p = w.2.1 215 p ∧ v.2.1 84 p = w.2.1 217 p ∧ v.2.1 85 p = w.2.1 216 p) (h22 : k = 22 → ((v.2.1 82 p).toInt = 0 ↔ dnM w p = 0)) : BdY D ns off v w c p k := ⟨fun z => by omega, fun _ => cu, h12, h13, h14, h22, fun z => by omega, fun z => by omega, fun z => by omega, by omega⟩
/-- par -/
theorem bg_16 {GoW : MW → MW → Prop} {ns : List Nod} {nm : List Nm} {ks : List Nat} {off : Int} {k c s m : Nat} {d : Nod} {as am K1 n K nd o : Int32} {v w : MW} {Qc Qm : Int32 → MW → Prop} (hG : GoI GoW) (hW : WS GoW ns nm ks off v w) (sl : SmL ns v c s m d as am) (k16 : d.1 = 16) (eK1 : K1.toInt = d.1) (hc : p_Ru_beginPlain v as K1 Qc) (eK : K.toInt = wht d.1) (ho : o.toInt = 0) (hm : q_Mo_begin_133 am n K nd o w Qm) : ∃ (ac : Int32) (v' w' : MW), Qc ac v' ∧ Qm 1 w' ∧ BgO GoW ns nm ks off k c s m d v w v' w' ac := by
  obtain ⟨as', am', ec, hd, hS, hL, sm, hp, on⟩ := sl
  have ly := hW.2.2.1.2.2.2.2.2.1
  have pg := hW.2.2.1.2.2.2.1
  have m5 := sml5 hW hp
  have eK' : K.toInt = 14 := by rw [eK, k16]; decide
  rw [p_Ru_beginPlain.eq_1] at hc
  have c1 := hc.2.1 (by omega)
  rw [p_Ru_beginPar.eq_1, as'] at c1
  obtain ⟨v2, a1, a2, a3, a4, a5⟩ := bp_x (v0 := v) (ns := ns) (kdl ns c) FU (s + 1) m _ 0 (fiC v s) v c1.2 rfl hL (fun j => rfl) (by decide) (by rw [i_0]; omega) m5 hW.2.1.1
  have c2 := gi_x a1
  have A6a : A6 v v2 s m := fun j hj => ⟨a5 j (by omega), (a2 81 j rfl).1, (a2 82 j rfl).2.1, (a2 83 j rfl).2.1, (a2 84 j rfl).2.1, (a2 85 j rfl).2.1⟩
  have A6b := a6_c (a := as) (b := -1) sm A6a as' a3 (by decide) (by decide) (Or.inl (by decide))
  obtain ⟨B, F, f1, f2, f3, f4, f5⟩ := ci_x (v := v2) (a := as) (b := -1) as' a3 (by decide) (by decide) (Or.inl (by decide))
  generalize chW (sI v2 80 as.toInt.toNat 1) as (-1) = v3 at *
  have q := b248_d (b133_0 hm ho (by omega) hW.2.2.2.2.2.2.2.2.1 am') am' (by omega)
  obtain ⟨w', r1, r2, r3, ao, r5, r6, r7⟩ := bm_g ly hL sm hp q rfl (fun j => (bx_f w s 0 _ 209 j rfl).1) (bx_b hW.2.1.2 s 0 _) (a8_x w s 0 _)
  have F3 : FR lpC v v3 := ((FR.refl _ v).tr a2 rfl).tr F rfl
  have G3 : FR lpM w w' := ((FR.refl _ w).tr (bx_f w s 0 _) rfl).tr r3 rfl
  have e8 : fiC v3 s = fiC v s := by unfold fiC; rw [(F3 78 s rfl).1]
  refine ⟨2, v3, w', c2, r1, bg_p hG hW B r2 F3 G3 A6b r6 (mn_k F3 rfl (sgx w s 0 _) r7), le19 F3 rfl, Or.inl ⟨by decide, by rw [(F3 61 4 rfl).1]; exact on, ?_, f1, Or.inl k16, fun _ => by rw [e8]; exact so_v (v := v) (fun j => by unfold nxC; rw [(F3 79 j rfl).1]) _ _ (so_f _ _ _ _ hL (fun j ja => f4 j (by omega) (by rw [i_m1]; omega)) a4), fun z => absurd k16 z⟩⟩
  rw [Dy_u]
  refine ⟨d, hd, Or.inr ⟨f1, ?_, ?_⟩⟩
  · unfold bgM
    rw [r5]
    exact (bx_s w s 0 _).1
  · rw [k16]
    refine bdy_7 ⟨?_, ?_⟩
    · unfold cuC
      rw [f2]
      decide
    · rw [e8]
      exact sik_0 (v0 := v) (fun j => by unfold nxC; rw [(F3 79 j rfl).1]) _ _ (so_f _ _ _ _ hL (fun j ja => f4 j (by omega) (by rw [i_m1]; omega)) a4) ao (fun b hb p h1 h2 => by
        obtain ⟨db, hdb, _⟩ := kd_b pg hd hS hb
        exact dy_0 hdb h1 h2)
/-- do -/
theorem bg_23 {GoW : MW → MW → Prop} {ns : List Nod} {nm : List Nm} {ks : List Nat} {off : Int} {k c s m : Nat} {d : Nod} {as am K1 n K nd o : Int32} {v w : MW} {Qc Qm : Int32 → MW → Prop} (hG : GoI GoW) (hW : WS GoW ns nm ks off v w) (sl : SmL ns v c s m d as am) (k23 : d.1 = 23) (eK1 : K1.toInt = d.1) (hc : p_Ru_beginPlain v as K1 Qc) (eK : K.toInt = wht d.1) (ho : o.toInt = 0) (hm : q_Mo_begin_133 am n K nd o w Qm) : ∃ (ac : Int32) (v' w' : MW), Qc ac v' ∧ Qm 1 w' ∧ BgO GoW ns nm ks off k c s m d v w v' w' ac := by
  obtain ⟨as', am', ec, hd, hS, hL, sm, hp, on⟩ := sl
  have ly := hW.2.2.1.2.2.2.2.2.1
  have pg := hW.2.2.1.2.2.2.1
  have m5 := sml5 hW hp
  have eK' : K.toInt = 19 := by rw [eK, k23]; decide
  rw [p_Ru_beginPlain.eq_1, as'] at hc
  have c1 := ((((((((hc.2.2 (by omega)).2 (by omega)).2 (by omega)).2 (by omega)).2 (by omega)).2 (by omega)).2 (by omega)).1 (by omega)).2
  have c2 := gi_x c1
  have hk := kdl_23 hd k23
  have hL0 := hL
  rw [hk] at hL0
  obtain ⟨e1, e2, mx, x1, x2, L1, _⟩ := lz_c hL0
  have e78 : (v.1 78 s).toInt = ((s + 1 : Nat) : Int) := e1
  have A6b := a6_c (a := as) (b := v.1 78 s) sm (a6_0 v s m) as' hW.2.1.1 (by omega) (by omega) (Or.inr ⟨by omega, by omega⟩)
  obtain ⟨B, F, f1, f2, f3, f4, f5⟩ := ci_x (v := v) (a := as) (b := v.1 78 s) as' hW.2.1.1 (by omega) (by omega) (Or.inr (by omega))
  generalize chW (sI v 80 as.toInt.toNat 1) as (v.1 78 s) = v3 at *
  have q := b248_d (b133_0 hm ho (by omega) hW.2.2.2.2.2.2.2.2.1 am') am' (by omega)
  obtain ⟨w', r1, r2, r3, ao, r5, r6, r7⟩ := bm_g ly hL sm hp q rfl (fun j => (bx_f w s 0 _ 209 j rfl).1) (bx_b hW.2.1.2 s 0 _) (a8_x w s 0 _)
  have F3 : FR lpC v v3 := (FR.refl _ v).tr F rfl
  have G3 : FR lpM w w' := ((FR.refl _ w).tr (bx_f w s 0 _) rfl).tr r3 rfl
  have e8 : fiC v3 s = fiC v s := by unfold fiC; rw [(F3 78 s rfl).1]
  have fs : (fiC v s).toNat = s + 1 := by omega
  refine ⟨2, v3, w', c2, r1, bg_p hG hW B r2 F3 G3 A6b r6 (mn_k F3 rfl (sgx w s 0 _) r7), le19 F3 rfl, Or.inl ⟨by decide, by rw [(F3 61 4 rfl).1]; exact on, ?_, f1, Or.inr (Or.inr (Or.inr (Or.inr k23))), fun z => by omega, fun _ _ => by
    have z : cuC v3 s = ((s + 1 : Nat) : Int) := by unfold cuC; rw [f2]; exact e78
    rw [z, show (((s + 1 : Nat) : Int)).toNat = s + 1 by omega]
    exact f3 _ e78⟩⟩
  rw [Dy_u]
  refine ⟨d, hd, Or.inr ⟨f1, ?_, bdy_9 (Or.inr (Or.inr k23)) ⟨?_, ?_⟩⟩⟩
  · unfold bgM
    rw [r5]
    exact (bx_s w s 0 _).1
  · unfold cuC crM
    rw [f2, (r3 213 s rfl).1, (bx_s w s 0 _).2.2.1, ← (ly.2.2 s (by omega)).2.1]
  · rw [hk] at ao ⊢
    have ec3 : cuC v3 s = fiC v s := by unfold cuC; rw [f2]; rfl
    rw [e8, ec3]
    obtain ⟨db, hdb, _⟩ := kd_b pg hd hS (b := d.2.2.1.toNat) (by rw [hk]; exact List.mem_cons_self)
    refine cui_1 ?_
    exact dy_0 hdb (f3 _ (by rw [fs]; exact e78)) ao.1
/-- ask -/
theorem bg_22 {GoW : MW → MW → Prop} {ns : List Nod} {nm : List Nm} {ks : List Nat} {off : Int} {k c s m : Nat} {d : Nod} {as am K1 n K nd o : Int32} {v w : MW} {Qc Qm : Int32 → MW → Prop} (hG : GoI GoW) (hW : WS GoW ns nm ks off v w) (sl : SmL ns v c s m d as am) (k22 : d.1 = 22) (eK1 : K1.toInt = d.1) (hc : p_Ru_beginPlain v as K1 Qc) (eK : K.toInt = wht d.1) (ho : o.toInt = 0) (hm : q_Mo_begin_133 am n K nd o w Qm) : ∃ (ac : Int32) (v' w' : MW), Qc ac v' ∧ Qm 1 w' ∧ BgO GoW ns nm ks off k c s m d v w v' w' ac := by
  obtain ⟨as', am', ec, hd, hS, hL, sm, hp, on⟩ := sl
  have ly := hW.2.2.1.2.2.2.2.2.1
  have m5 := sml5 hW hp
  have eK' : K.toInt = 18 := by rw [eK, k22]; decide
  rw [p_Ru_beginPlain.eq_1] at hc
  have c1 := (((((((hc.2.2 (by omega)).2 (by omega)).2 (by omega)).2 (by omega)).2 (by omega)).2 (by omega)).1 (by omega)).2
  have c2 := sd_x c1
  rw [sd_c, as'] at c2
  have B0 : BND (sJ v 82 s 0) := bnd_e hW.2.1.1 rfl
  have A6b := a6_c (a := as) (b := -1) sm (a6_J sm (a6_0 v s m) 82 0) as' B0 (by decide) (by decide) (Or.inl (by decide))
  obtain ⟨B, F, f1, f2, f3, f4, f5⟩ := ci_x (v := sJ v 82 s 0) (a := as) (b := -1) as' B0 (by decide) (by decide) (Or.inl (by decide))
  have F0 : FR lpC v (sJ v 82 s 0) := FR.J (FR.refl _ v) rfl
  have j82 : (chW (sI (sJ v 82 s 0) 80 as.toInt.toNat 1) as (-1)).2.1 82 s = 0 := by rw [(F 82 s rfl).2.1, sJ_same]
  rw [as'] at A6b B F f1 f2 f3 f4 f5 j82
  generalize chW (sI (sJ v 82 s 0) 80 s 1) as (-1) = v3 at *
  have q := b248_d (b133_0 hm ho (by omega) hW.2.2.2.2.2.2.2.2.1 am') am' (by omega)
  obtain ⟨w', r1, r2, r3, ao, r5, r6, r7⟩ := bm_g ly hL sm hp q rfl (fun j => (bx_f w s 0 _ 209 j rfl).1) (bx_b hW.2.1.2 s 0 _) (a8_x w s 0 _)
  have F3 : FR lpC v v3 := F0.tr F rfl
  have G3 : FR lpM w w' := ((FR.refl _ w).tr (bx_f w s 0 _) rfl).tr r3 rfl
  have bs := bx_s w s 0 ((0 : Int64) / (1000 : Int64))
  refine ⟨0, v3, w', c2, r1, bg_p hG hW B r2 F3 G3 A6b r6 (mn_k F3 rfl (sgx w s 0 _) r7), le19 F3 rfl, Or.inr (Or.inl ⟨by decide, by rw [(F3 61 4 rfl).1]; exact on, ?_, f1, by rw [(r3 214 s rfl).1, bs.2.2.2.1, (G3 127 74 rfl).1], Or.inr (Or.inr (Or.inr k22)), fun z => by omega, fun _ => by unfold dnM; rw [(r3 211 s rfl).1]; exact bs.2.1⟩)⟩
  rw [Dy_u]
  refine ⟨d, hd, Or.inr ⟨f1, ?_, bdy_st (Or.inr (Or.inr (Or.inr k22))) ?_ (fun z => by omega) (fun z => by omega) (fun z => by omega) (fun _ => ?_)⟩⟩
  · unfold bgM
    rw [r5]
    exact bs.1
  · unfold cuC
    rw [f2]
    decide
  · rw [j82]
    refine ⟨fun _ => ?_, fun _ => by decide⟩
    unfold dnM
    rw [(r3 211 s rfl).1]
    exact bs.2.1
/-- stop -/
theorem bg_24 {GoW : MW → MW → Prop} {ns : List Nod} {nm : List Nm} {ks : List Nat} {off : Int} {k c s m : Nat} {d : Nod} {as am K1 n K nd o : Int32} {v w : MW} {Qc Qm : Int32 → MW → Prop} (hG : GoI GoW) (hW : WS GoW ns nm ks off v w) (sl : SmL ns v c s m d as am) (k24 : d.1 = 24) (eK1 : K1.toInt = d.1) (hc : p_Ru_beginPlain v as K1 Qc) (eK : K.toInt = wht d.1) (ho : o.toInt = 0) (hm : q_Mo_begin_133 am n K nd o w Qm) : ∃ (ac : Int32) (v' w' : MW), Qc ac v' ∧ Qm 1 w' ∧ BgO GoW ns nm ks off k c s m d v w v' w' ac := by
  obtain ⟨as', am', ec, hd, hS, hL, sm, hp, on⟩ := sl
  have ly := hW.2.2.1.2.2.2.2.2.1
  have eK' : K.toInt = 20 := by rw [eK, k24]; decide
  rw [p_Ru_beginPlain.eq_1] at hc
  have c1 := ((((((((hc.2.2 (by omega)).2 (by omega)).2 (by omega)).2 (by omega)).2 (by omega)).2 (by omega)).2 (by omega)).2 (by omega)).1 (by omega)
  have q := b248_d (b133_0 hm ho (by omega) hW.2.2.2.2.2.2.2.2.1 am') am' (by omega)
  obtain ⟨w', r1, r2, r3, ao, r5, r6, r7⟩ := bm_g ly hL sm hp q rfl (fun j => (bx_f w s 0 _ 209 j rfl).1) (bx_b hW.2.1.2 s 0 _) (a8_x w s 0 _)
  have F3 : FR [(61, some 4)] v (sI v 61 4 3) := FR.I (FR.refl _ v) rfl
  have G3 : FR lpM w w' := ((FR.refl _ w).tr (bx_f w s 0 _) rfl).tr r3 rfl
  refine ⟨0, _, w', c1, r1, pol_b hG hW (wbd_61_4 hW.2.1.1 (by decide) (by decide)) r2 ((FR.refl lrC v).tr F3 rfl) ((FR.refl lrM w).tr G3 rfl) (vlr_f hW.2.2.2.1 F3 G3 rfl rfl) (alr_f hW.2.2.2.2.1 F3 G3 rfl rfl) (cnr_f hW.2.2.2.2.2 F3 G3 rfl rfl (by rw [(G3 127 76 rfl).1]; exact hW.2.2.2.2.2.2.2.2.1)) (a6_f (a6_0 v s m) F3 rfl) r6 (mn_k F3 rfl (sgx w s 0 _) r7), le19 F3 rfl, Or.inr (Or.inr (Or.inl ⟨by decide, ?_, k24⟩))⟩
  rw [sI_same]
  decide
/-- hold -/
theorem bg_25 {GoW : MW → MW → Prop} {ns : List Nod} {nm : List Nm} {ks : List Nat} {off : Int} {k c s m : Nat} {d : Nod} {as am K1 n K nd o : Int32} {v w : MW} {Qc Qm : Int32 → MW → Prop} (hG : GoI GoW) (hW : WS GoW ns nm ks off v w) (sl : SmL ns v c s m d as am) (k25 : d.1 = 25) (eK1 : K1.toInt = d.1) (hc : p_Ru_beginPlain v as K1 Qc) (eK : K.toInt = wht d.1) (ho : o.toInt = 0) (hm : q_Mo_begin_133 am n K nd o w Qm) : ∃ (ac : Int32) (v' w' : MW), Qc ac v' ∧ Qm 1 w' ∧ BgO GoW ns nm ks off k c s m d v w v' w' ac := by
  obtain ⟨as', am', ec, hd, hS, hL, sm, hp, on⟩ := sl
  have ly := hW.2.2.1.2.2.2.2.2.1
  have eK' : K.toInt = 21 := by rw [eK, k25]; decide
  rw [p_Ru_beginPlain.eq_1] at hc
  have c1 := (((((((((hc.2.2 (by omega)).2 (by omega)).2 (by omega)).2 (by omega)).2 (by omega)).2 (by omega)).2 (by omega)).2 (by omega)).2 (by omega)).1 (by omega)
  have q := b248_21 (b133_0 hm ho (by omega) hW.2.2.2.2.2.2.2.2.1 am') am' eK'
  have F2 : FR [(127, some 75), (210, none), (211, none), (213, none), (214, none), (215, none), (216, none)] w (sI (bxW w s 0 ((0 : Int64) / (1000 : Int64))) 127 75 1) := FR.I ((FR.refl _ w).tr (bx_f w s 0 _) rfl) rfl
  have A8a : A8 w (sI (bxW w s 0 ((0 : Int64) / (1000 : Int64))) 127 75 1) s := a8_f (a8_x w s 0 _) (FR.I (FR.refl [(127, some 75)] _) rfl) rfl
  have B2 : BND (sI (bxW w s 0 ((0 : Int64) / (1000 : Int64))) 127 75 1) := wbd_127_75 (bx_b hW.2.1.2 s 0 _) (by decide) (by decide)
  have e75 : (sI (bxW w s 0 ((0 : Int64) / (1000 : Int64))) 127 75 1).1 127 75 = 1 := sI_same _ _ _ _
  obtain ⟨w', r1, r2, r3, ao, r5, r6, r7⟩ := bm_g ly hL sm hp q rfl (fun j => (F2 209 j rfl).1) B2 A8a
  have F3 : FR [(61, some 18)] v (sI v 61 18 1) := FR.I (FR.refl _ v) rfl
  have G3 : FR [(127, some 75), (210, none), (211, none), (212, none), (213, none), (214, none), (215, none), (216, none)] w w' := ((FR.refl _ w).tr F2 rfl).tr r3 rfl
  have cn := hW.2.2.2.2.2
  have cn' : CnR off (sI v 61 18 1) w' := by
    unfold CnR
    rw [(F3 61 17 rfl).2.1, (F3 61 19 rfl).1, (F3 61 20 rfl).1, sI_same, (G3 127 72 rfl).1, (G3 127 73 rfl).1, (G3 127 74 rfl).1, (G3 127 76 rfl).1, (r3 127 75 rfl).1, e75]
    exact ⟨cn.1, cn.2.1, ⟨fun z => absurd z (by decide), fun z => absurd z (by decide)⟩, cn.2.2.2⟩
  refine ⟨1, _, w', c1, r1, pol_b hG hW (wbd_61_18 hW.2.1.1 (by decide) (by decide)) r2 ((FR.refl lrC v).tr F3 rfl) ((FR.refl lrM w).tr G3 rfl) (vlr_f hW.2.2.2.1 F3 G3 rfl rfl) (alr_f hW.2.2.2.2.1 F3 G3 rfl rfl) cn' (a6_f (a6_0 v s m) F3 rfl) r6 (mn_k F3 rfl (sgr_t (sgx w s 0 _) (sgr_f (FR.I (FR.refl [(127, some 75)] _) rfl) rfl)) r7), le19 F3 rfl, Or.inr (Or.inr (Or.inr (Or.inl ⟨by decide, ?_, Or.inr (Or.inl k25)⟩)))⟩
  rw [(F3 61 4 rfl).1]
  exact on
/-- an act on both sides -/
def PfG (GoW : MW → MW → Prop) : Prop := ∀ (v w : MW) (a : Int32) (Qc Qm : Int32 → MW → Prop), GoW v w → BND v → BND w → p_Ac_perform v a Qc → p_Mo_perform w a Qm → ∃ (r : Int32) (v' w' : MW), Qc r v' ∧ Qm r w' ∧ GoW v' w' ∧ BND v' ∧ BND w' ∧ FR l_Ac_perform v v' ∧ FR l_Mo_perform w w'
theorem bg_26 {GoW : MW → MW → Prop} {ns : List Nod} {nm : List Nm} {ks : List Nat} {off : Int} {k c s m : Nat} {d : Nod} {as am K1 n K nd o : Int32} {v w : MW} {Qc Qm : Int32 → MW → Prop} (hG : GoI GoW) (hP : PfG GoW) (hW : WS GoW ns nm ks off v w) (sl : SmL ns v c s m d as am) (k26 : d.1 = 26) (eK1 : K1.toInt = d.1) (hc : p_Ru_beginPlain v as K1 Qc) (eK : K.toInt = wht d.1) (en : n = v.1 77 s) (hnd : nd.toInt.toNat = nd1 w (c : Int)) (ho : o.toInt = 0) (hm : q_Mo_begin_133 am n K nd o w Qm) : ∃ (ac : Int32) (v' w' : MW), Qc ac v' ∧ Qm 1 w' ∧ BgO GoW ns nm ks off k c s m d v w v' w' ac := by
  obtain ⟨as', am', ec, hd, hS, hL, sm, hp, on⟩ := sl
  have st := hW.2.2.1
  have ly := st.2.2.2.2.2.1
  have stc := st.2.1 c d hd
  have eK' : K.toInt = 22 := by rw [eK, k26]; decide
  have cn : (v.1 77 s).toInt.toNat = c := by omega
  rw [p_Ru_beginPlain.eq_1, as', cn] at hc
  have c1 := (((((((((((hc.2.2 (by omega)).2 (by omega)).2 (by omega)).2 (by omega)).2 (by omega)).2 (by omega)).2 (by omega)).2 (by omega)).2 (by omega)).2 (by omega)).1 (by omega)).2.2
  have q := b248_22 (b133_0 hm ho (by omega) hW.2.2.2.2.2.2.2.2.1 am') am' eK'
  have b64 : -2147483648 ≤ d.2.1 ∧ d.2.1 ≤ 2147483647 := by
    rw [← stc.2.1]
    exact ⟨ti_lo _, ti_hi _⟩
  have ea : Int64.toInt32 (w.2.1 132 nd.toInt.toNat) = v.1 64 c := Int32.toInt_inj.mp (by rw [nm_x st.2.2.1 hd hnd (by omega) (by omega) b64.1 b64.2, stc.2.1])
  rw [ea] at q
  -- the reference's writes first
  have G1 : FR lpM w (bxW w s 0 ((0 : Int64) / (1000 : Int64))) := (FR.refl _ w).tr (bx_f w s 0 _) rfl
  have P1 : PoL false GoW ns nm ks off v w v (bxW w s 0 ((0 : Int64) / (1000 : Int64))) s m := bg_p hG hW hW.2.1.1 (bx_b hW.2.1.2 s 0 _) (FR.refl _ v) G1 (a6_0 v s m) (fun j hj => a8_x w s 0 _ j (by omega)) ⟨Int.le_refl _, sgx w s 0 _⟩
  generalize bxW w s 0 ((0 : Int64) / (1000 : Int64)) = w2 at *
  obtain ⟨r, v3, w3, g1, g2, gw, B3, B3', F3, G3⟩ := hP v w2 (v.1 64 c) _ _ P1.1.1 P1.1.2.1.1 P1.1.2.1.2 c1 q
  have W3 : WS GoW ns nm ks off v3 w3 := ⟨gw, ⟨B3, B3'⟩, sta_f P1.1.2.2.1 F3 G3 rfl rfl, vlr_f P1.1.2.2.2.1 F3 G3 rfl rfl, alr_f P1.1.2.2.2.2.1 F3 G3 rfl rfl, cnr_f P1.1.2.2.2.2.2 F3 G3 rfl rfl (by rw [(G3 127 76 rfl).1]; exact P1.1.2.2.2.2.2.2.2.2.1)⟩
  have P3 : PoL false GoW ns nm ks off v w2 v3 w3 s m := ⟨W3, ⟨agr_f F3 G3 rfl rfl _ _, agr_f F3 G3 rfl rfl _ _⟩, (kpc_f F3 rfl).1, (kpc_f F3 rfl).2.1, (kpc_f F3 rfl).2.2, mnr_f F3 G3 rfl rfl⟩
  have P13 := pol_t P1 P3
  have on3 : (v3.1 61 4).toInt = 0 := by rw [(F3 61 4 rfl).1]; exact on
  -- the kids: none, but the loop is as for all
  have last : ∀ v4 w4, PoL false GoW ns nm ks off v w v4 w4 s m → (v.1 61 19).toInt ≤ (v4.1 61 19).toInt → (v4.1 61 4).toInt = 0 → Qc 1 v4 → q_Mo_begin_538 (fun w' => Qm 1 w') Qm FU (w4.1 208 s) w4 → ∃ (ac : Int32) (v' w' : MW), Qc ac v' ∧ Qm 1 w' ∧ BgO GoW ns nm ks off k c s m d v w v' w' ac := fun v4 w4 P4 l4 on4 h1 h2 => by
    have W4 := P4.1
    have L4 := pol_l P4 hL
    rw [← (pol_fi P4 s).1] at L4
    obtain ⟨w', r1, r2, r3, ao, r5, r6, r7⟩ := bm_g W4.2.2.1.2.2.2.2.2.1 L4 sm (by rw [P4.2.2.2.1]; exact hp) h2 rfl (fun j => rfl) W4.2.1.2 (a8_0 w4 s)
    have P5 := bg_p hG W4 W4.2.1.1 r2 (FR.refl _ v4) ((FR.refl _ w4).tr r3 rfl) (a6_0 v4 s m) r6 (mn_k (FR.refl [] v4) rfl (sgr_0 w4) r7)
    exact ⟨1, v4, w', h1, r1, pol_t P4 P5, l4, Or.inr (Or.inr (Or.inr (Or.inl ⟨by decide, on4, Or.inr (Or.inr (Or.inl k26))⟩)))⟩
  by_cases z : r.toInt ≤ 0
  · exact last v3 w3 P13 (le19 F3 rfl) on3 (g1.1 z) (g2.1 z).2
  · have h1 := al_c (g1.2 z)
    have h2 := al_m (g2.2 z)
    rw [en] at h2
    have WA := ws_a (n := v.1 77 s) (k := (10 : Int32) + r) hG W3
    have FA : FR lalC v3 (alC v3 (v3.1 7 1) (v.1 77 s) ((10 : Int32) + r)) := alc_l _ _ _ _
    have GA : FR lalM w3 (alM w3 (v.1 77 s) ((10 : Int32) + r)) := alm_l _ _ _
    have a4 : ((alC v3 (v3.1 7 1) (v.1 77 s) ((10 : Int32) + r)).1 61 4).toInt = 0 := by
      have t : (alC v3 (v3.1 7 1) (v.1 77 s) ((10 : Int32) + r)).1 61 4 = v3.1 61 4 := by
        unfold alC
        by_cases z : 200 ≤ (v3.1 3 0).toInt
        · rw [if_pos z]
        · rw [if_neg z]
          rfl
      rw [t]
      exact on3
    generalize alC v3 (v3.1 7 1) (v.1 77 s) ((10 : Int32) + r) = v4 at *
    generalize alM w3 (v.1 77 s) ((10 : Int32) + r) = w4 at *
    exact last v4 w4 (pol_t P13 (pol_i WA (fr_lal FA) (agr_f FA GA rfl rfl _ _) (agr_f FA GA rfl rfl _ _) (mnr_f FA GA rfl rfl))) (Int.le_trans (le19 F3 rfl) (le19 FA rfl)) a4 h1 h2.2
