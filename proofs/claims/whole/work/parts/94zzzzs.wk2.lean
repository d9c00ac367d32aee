/-! the walk: steps that both sides make -/
theorem bnd_e {v v' : MW} (h : BND v) (e : v'.1 = v.1) : BND v' := by
  unfold BND at h ⊢
  rw [e]
  exact h
theorem ws_f {GoW : MW → MW → Prop} {ns : List Nod} {nm : List Nm} {ks : List Nat} {off : Int} {v w v' w' : MW} (hG : GoI GoW) (h : WS GoW ns nm ks off v w) (B : BND v') (B' : BND w') (F : FR lrC v v') (F' : FR lrM w w') (vl : VlR v' w') (al : AlR v' w') (cn : CnR off v' w') : WS GoW ns nm ks off v' w' := ⟨hG _ _ _ _ h.1 B B' F F', ⟨B, B'⟩, sta_f h.2.2.1 F F' rfl rfl, vl, al, cn⟩
/-- cells that a step of the class leaves -/
def KpC (v v' : MW) : Prop := (∀ j, v'.1 77 j = v.1 77 j ∧ v'.1 78 j = v.1 78 j ∧ v'.1 79 j = v.1 79 j) ∧ v'.1 61 5 = v.1 61 5 ∧ v'.1 7 1 = v.1 7 1
theorem kpc_f {l : Pl} {v v' : MW} (F : FR l v v') (ho : off l [(7, some 1), (61, some 5), (77, none), (78, none), (79, none)] = true) : KpC v v' := ⟨fun j => ⟨(F 77 j (off_hit ho rfl)).1, (F 78 j (off_hit ho rfl)).1, (F 79 j (off_hit ho rfl)).1⟩, (F 61 5 (off_hit ho rfl)).1, (F 7 1 (off_hit ho rfl)).1⟩
theorem pol_i {t : Bool} {GoW : MW → MW → Prop} {ns : List Nod} {nm : List Nm} {ks : List Nat} {off : Int} {v w v' w' : MW} {p m : Nat} (h : WS GoW ns nm ks off v' w') (F : FR lrC v v') (a : AgR 0 p v v' w w') (b : AgR m 501 v v' w w') (mn : MnR t v w v' w') : PoL t GoW ns nm ks off v w v' w' p m := ⟨h, ⟨a, b⟩, (kpc_f F rfl).1, (kpc_f F rfl).2.1, (kpc_f F rfl).2.2, mn⟩
/-- no place is touched -/
theorem agr_f {l l' : Pl} {v v' w w' : MW} (F : FR l v v') (G : FR l' w w') (ho : off l [(78, none), (79, none), (80, none), (81, none), (82, none), (83, none), (84, none), (85, none)] = true) (ho' : off l' [(210, none), (211, none), (212, none), (213, none), (214, none), (215, none), (216, none), (217, none)] = true) (s q : Nat) : AgR s q v v' w w' := fun j _ _ => ⟨⟨(F 78 j (off_hit ho rfl)).1, (F 79 j (off_hit ho rfl)).1, (F 80 j (off_hit ho rfl)).1, (F 81 j (off_hit ho rfl)).1, (F 82 j (off_hit ho rfl)).2.1, (F 83 j (off_hit ho rfl)).2.1, (F 84 j (off_hit ho rfl)).2.1, (F 85 j (off_hit ho rfl)).2.1⟩, (G 210 j (off_hit ho' rfl)).1, (G 211 j (off_hit ho' rfl)).1, (G 212 j (off_hit ho' rfl)).1, (G 213 j (off_hit ho' rfl)).1, (G 214 j (off_hit ho' rfl)).1, (G 215 j (off_hit ho' rfl)).2.1, (G 216 j (off_hit ho' rfl)).2.1, (G 217 j (off_hit ho' rfl)).2.1⟩
def lalC : Pl := [(3, some 0), (4, none), (5, none), (6, none), (61, some 4), (86, none)]
def lalM : Pl := [(127, some 76), (127, some 79), (218, none), (219, none), (220, none)]
theorem alc_l (v : MW) (a b c : Int32) : FR lalC v (alC v a b c) := by
  unfold alC
  by_cases q : 200 ≤ (v.1 3 0).toInt
  · rw [if_pos q]
    exact FR.refl _ _
  · rw [if_neg q]
    exact FR.I (FR.I (FR.I (FR.I (FR.refl _ v) rfl) rfl) rfl) rfl
theorem alm_l (w : MW) (a b : Int32) : FR lalM w (alM w a b) := by
  unfold alM
  by_cases q : 200 ≤ (w.1 127 79).toInt
  · rw [if_pos q]
    exact FR.refl _ _
  · rw [if_neg q]
    exact FR.I (FR.I (FR.I (FR.I (FR.refl _ w) rfl) rfl) rfl) rfl
theorem alc_b {v : MW} (h : BND v) (a b c : Int32) : BND (alC v a b c) := by
  unfold alC
  by_cases q : 200 ≤ (v.1 3 0).toInt
  · rw [if_pos q]
    exact h
  · rw [if_neg q]
    have b3 := bd_3_0 h
    have s := ti_add2 (Eq.refl (v.1 3 0).toInt) i_1 (by omega) (by omega)
    exact wbd_3_0 (wbd_6 (wbd_5 (wbd_4 h _) _) _) (by omega) (by omega)
theorem alm_b {w : MW} (h : BND w) (a b : Int32) : BND (alM w a b) := by
  unfold alM
  by_cases q : 200 ≤ (w.1 127 79).toInt
  · rw [if_pos q]
    exact h
  · rw [if_neg q]
    have b3 := bd_127_79 h
    have s := ti_add2 (Eq.refl (w.1 127 79).toInt) i_1 (by omega) (by omega)
    exact wbd_127_79 (wbd_220 (wbd_219 (wbd_218 h _) _) _) (by omega) (by omega)
theorem fr_lal {v v' : MW} (F : FR lalC v v') : FR lrC v v' := (FR.refl lrC v).tr F rfl
theorem fr_lam {w w' : MW} (F : FR lalM w w') : FR lrM w w' := (FR.refl lrM w).tr F rfl
theorem vlr_f {l l' : Pl} {v v' w w' : MW} (h : VlR v w) (F : FR l v v') (G : FR l' w w') (ho : off l [(62, some 10), (74, none)] = true) (ho' : off l' [(206, none)] = true) : VlR v' w' := fun n hn => by
  rw [(F 62 10 (off_hit ho rfl)).1] at hn
  rw [(F 74 n (off_hit ho rfl)).2.1, (G 206 n (off_hit ho' rfl)).2.1]
  exact h n hn
theorem cnr_f {l l' : Pl} {off1 : Int} {v v' w w' : MW} (h : CnR off1 v w) (F : FR l v v') (G : FR l' w w') (ho : off l [(61, some 17), (61, some 18), (61, some 19), (61, some 20)] = true) (ho' : off l' [(127, some 72), (127, some 73), (127, some 74), (127, some 75)] = true) (h76 : (w'.1 127 76).toInt = -1) : CnR off1 v' w' := by
  unfold CnR
  rw [(F 61 17 (off_hit ho rfl)).2.1, (F 61 18 (off_hit ho rfl)).1, (F 61 19 (off_hit ho rfl)).1, (F 61 20 (off_hit ho rfl)).1, (G 127 72 (off_hit ho' rfl)).1, (G 127 73 (off_hit ho' rfl)).1, (G 127 74 (off_hit ho' rfl)).1, (G 127 75 (off_hit ho' rfl)).1]
  exact ⟨h.1, h.2.1, h.2.2.1, h76, h.2.2.2.2⟩
theorem alr_f {l l' : Pl} {v v' w w' : MW} (h : AlR v w) (F : FR l v v') (G : FR l' w w') (ho : off l [(3, some 0), (4, none), (5, none), (6, none), (7, some 1)] = true) (ho' : off l' [(127, some 78), (127, some 79), (218, none), (219, none), (220, none)] = true) : AlR v' w' := by
  refine ⟨?_, ?_, ?_, ?_, fun j hj => ?_⟩
  · rw [(F 7 1 (off_hit ho rfl)).1, (G 127 78 (off_hit ho' rfl)).1]
    exact h.1
  · rw [(F 3 0 (off_hit ho rfl)).1, (G 127 79 (off_hit ho' rfl)).1]
    exact h.2.1
  · rw [(F 3 0 (off_hit ho rfl)).1]
    exact h.2.2.1
  · rw [(F 3 0 (off_hit ho rfl)).1]
    exact h.2.2.2.1
  · rw [(F 4 j (off_hit ho rfl)).1, (F 5 j (off_hit ho rfl)).1, (F 6 j (off_hit ho rfl)).1, (G 218 j (off_hit ho' rfl)).1, (G 219 j (off_hit ho' rfl)).1, (G 220 j (off_hit ho' rfl)).1]
    exact h.2.2.2.2 j hj
theorem sk_l {t : Nat} {v v' : MW} (h : SkT t v v') : FR lalC v v' := fun c j q => by
  refine ⟨by rw [h.1], h.2.2 c j ?_, by rw [h.2.1]⟩
  by_cases z : c = 86
  · rw [z] at q
    exact absurd (show true = false from q) (by decide)
  · exact Or.inl z
/-- the stack alone has changed -/
theorem ws_s {GoW : MW → MW → Prop} {ns : List Nod} {nm : List Nm} {ks : List Nat} {off : Int} {t : Nat} {v w v' : MW} (hG : GoI GoW) (h : WS GoW ns nm ks off v w) (s : SkT t v v') : WS GoW ns nm ks off v' w := by
  have F := sk_l s
  have F86 : FR [(86, none)] v v' := fun c j q => by
    refine ⟨by rw [s.1], s.2.2 c j ?_, by rw [s.2.1]⟩
    by_cases z : c = 86
    · rw [z] at q
      exact absurd (show true = false from q) (by decide)
    · exact Or.inl z
  exact ws_f hG h (bnd_e h.2.1.1 s.1) h.2.1.2 (fr_lal F) (FR.refl _ w) (vlr_f h.2.2.2.1 F86 (FR.refl [] w) rfl rfl) (alr_f h.2.2.2.2.1 F86 (FR.refl [] w) rfl rfl) (cnr_f h.2.2.2.2.2 F86 (FR.refl [] w) rfl rfl h.2.2.2.2.2.2.2.2.1)
/-- an alarm on both sides -/
theorem ws_a {GoW : MW → MW → Prop} {ns : List Nod} {nm : List Nm} {ks : List Nat} {off : Int} {v w : MW} {n k : Int32} (hG : GoI GoW) (h : WS GoW ns nm ks off v w) : WS GoW ns nm ks off (alC v (v.1 7 1) n k) (alM w n k) := by
  have F := alc_l v (v.1 7 1) n k
  have G := alm_l w n k
  have F2 : FR [(3, some 0), (4, none), (5, none), (6, none)] v (alC v (v.1 7 1) n k) := by
    unfold alC
    by_cases q : 200 ≤ (v.1 3 0).toInt
    · rw [if_pos q]
      exact FR.refl _ _
    · rw [if_neg q]
      exact FR.I (FR.I (FR.I (FR.I (FR.refl _ v) rfl) rfl) rfl) rfl
  have G2 : FR [(127, some 79), (218, none), (219, none), (220, none)] w (alM w n k) := by
    unfold alM
    by_cases q : 200 ≤ (w.1 127 79).toInt
    · rw [if_pos q]
      exact FR.refl _ _
    · rw [if_neg q]
      exact FR.I (FR.I (FR.I (FR.I (FR.refl _ w) rfl) rfl) rfl) rfl
  exact ws_f hG h (alc_b h.2.1.1 _ _ _) (alm_b h.2.1.2 _ _) (fr_lal F) (fr_lam G) (vlr_f h.2.2.2.1 F G rfl rfl) (alr_a h.2.2.2.2.1) (cnr_f h.2.2.2.2.2 F2 G2 rfl rfl (by rw [(G2 127 76 rfl).1]; exact h.2.2.2.2.2.2.2.2.1))
/-- the class's state changes -/
theorem ws_st {GoW : MW → MW → Prop} {ns : List Nod} {nm : List Nm} {ks : List Nat} {off : Int} {v w : MW} {x : Int32} (hG : GoI GoW) (h : WS GoW ns nm ks off v w) (x0 : 0 ≤ x.toInt) (x1 : x.toInt ≤ 4) : WS GoW ns nm ks off (sI v 61 4 x) w := by
  have F : FR [(61, some 4)] v (sI v 61 4 x) := FR.I (FR.refl _ v) rfl
  exact ws_f hG h (wbd_61_4 h.2.1.1 x0 x1) h.2.1.2 ((FR.refl lrC v).tr F rfl) (FR.refl _ w) (vlr_f h.2.2.2.1 F (FR.refl [] w) rfl rfl) (alr_f h.2.2.2.2.1 F (FR.refl [] w) rfl rfl) (cnr_f h.2.2.2.2.2 F (FR.refl [] w) rfl rfl h.2.2.2.2.2.2.2.2.1)
/-- a fault on both sides -/
theorem ws_fl {GoW : MW → MW → Prop} {ns : List Nod} {nm : List Nm} {ks : List Nat} {off : Int} {v w : MW} {n k : Int32} (hG : GoI GoW) (h : WS GoW ns nm ks off v w) : WS GoW ns nm ks off (fltC v k n) (alM w n k) ∧ ((fltC v k n).1 61 4).toInt = 2 ∧ FR lalC v (fltC v k n) := by
  refine ⟨ws_st hG (ws_a hG h) (by decide) (by decide), ?_, FR.I (alc_l v _ _ _) rfl⟩
  show ((sI (alC v (v.1 7 1) n k) 61 4 2).1 61 4).toInt = 2
  rw [sI_same]
  decide
/-- a division by nothing on both sides -/
theorem ws_bad {GoW : MW → MW → Prop} {ns : List Nod} {nm : List Nm} {ks : List Nat} {off : Int} {v w v' : MW} {z : Nat} (hG : GoI GoW) (h : WS GoW ns nm ks off v w) (s : SkT 0 v v') : WS GoW ns nm ks off (fltC v' 1 (nI z)) (sI (alM (sI w 127 76 (nI z)) ((sI w 127 76 (nI z)).1 127 76) 1) 127 76 (-1)) ∧ ((fltC v' 1 (nI z)).1 61 4).toInt = 2 ∧ FR lalC v (fltC v' 1 (nI z)) ∧ FR lalM w (sI (alM (sI w 127 76 (nI z)) ((sI w 127 76 (nI z)).1 127 76) 1) 127 76 (-1)) := by
  have h1 := ws_s hG h s
  have h2 := ws_fl (n := nI z) (k := 1) hG h1
  have G0 : FR lalM w (sI (alM (sI w 127 76 (nI z)) ((sI w 127 76 (nI z)).1 127 76) 1) 127 76 (-1)) := FR.I ((FR.I (FR.refl lalM w) rfl).tr (alm_l _ _ _) rfl) rfl
  refine ⟨?_, h2.2.1, (sk_l s).tr h2.2.2 rfl, G0⟩
  have e76 : (sI w 127 76 (nI z)).1 127 76 = nI z := sI_same _ _ _ _
  rw [e76] at G0 ⊢
  have A1 : ∀ u : MW, u.1 127 79 = w.1 127 79 → u.1 127 78 = w.1 127 78 → ∀ c j, ¬ c = 127 → u.1 c j = w.1 c j → (alM u (nI z) 1).1 c j = (alM w (nI z) 1).1 c j := fun u u1 u2 c j hc hu => by
    unfold alM
    rw [u1, u2]
    by_cases q : 200 ≤ (w.1 127 79).toInt
    · rw [if_pos q, if_pos q]
      exact hu
    · rw [if_neg q, if_neg q, sI_oth _ _ _ _ _ _ hc, sI_oth _ _ _ _ _ _ hc, sI_at, sI_at, sI_at, sI_at, sI_at, sI_at, hu]
  have hS := h2.1
  have al := hS.2.2.2.2.1
  have u79 : (sI w 127 76 (nI z)).1 127 79 = w.1 127 79 := sI_ne _ _ _ _ _ (by decide)
  have u78 : (sI w 127 76 (nI z)).1 127 78 = w.1 127 78 := sI_ne _ _ _ _ _ (by decide)
  have cnt : (alM (sI w 127 76 (nI z)) (nI z) 1).1 127 79 = (alM w (nI z) 1).1 127 79 := by
    unfold alM
    rw [u79]
    by_cases q : 200 ≤ (w.1 127 79).toInt
    · rw [if_pos q, if_pos q]
      exact u79
    · rw [if_neg q, if_neg q, sI_same, sI_same]
  have al2 : AlR (fltC v' 1 (nI z)) (sI (alM (sI w 127 76 (nI z)) (nI z) 1) 127 76 (-1)) := by
    refine ⟨?_, ?_, al.2.2.1, al.2.2.2.1, fun j hj => ?_⟩
    · have e : (sI (alM (sI w 127 76 (nI z)) (nI z) 1) 127 76 (-1)).1 127 78 = w.1 127 78 := by
        rw [sI_ne _ _ _ _ _ (by decide), (alm_l _ _ _ 127 78 rfl).1]
        exact u78
      rw [e, ← (alm_l w (nI z) 1 127 78 rfl).1]
      exact al.1
    · rw [sI_ne _ _ _ _ _ (by decide), cnt]
      exact al.2.1
    · rw [sI_oth _ _ _ _ _ _ (by decide), sI_oth _ _ _ _ _ _ (by decide), sI_oth _ _ _ _ _ _ (by decide), A1 _ u79 u78 218 j (by decide) (sI_oth _ _ _ _ _ _ (by decide)), A1 _ u79 u78 219 j (by decide) (sI_oth _ _ _ _ _ _ (by decide)), A1 _ u79 u78 220 j (by decide) (sI_oth _ _ _ _ _ _ (by decide))]
      exact al.2.2.2.2 j hj
  have Fv := (sk_l s).tr h2.2.2 rfl
  refine ws_f hG h hS.2.1.1 (wbd_127_76 (alm_b (wbd_127_76 h.2.1.2) _ _)) (fr_lal Fv) (fr_lam G0) (vlr_f h.2.2.2.1 Fv G0 rfl rfl) al2 (cnr_f h.2.2.2.2.2 Fv G0 rfl rfl ?_)
  rw [sI_same]
  decide
