/-! the walk: what both sides share, and small steps -/
/-- one alarm more, the reference -/
def alM (w : MW) (a b : Int32) : MW := if 200 ≤ (w.1 127 79).toInt then w else sI (sI (sI (sI w 218 ((w.1 127 79).toInt.toNat) (w.1 127 78)) 219 ((w.1 127 79).toInt.toNat) a) 220 ((w.1 127 79).toInt.toNat) b) 127 79 ((w.1 127 79) + (1 : Int32))
theorem al_m {w : MW} {a b : Int32} {Q : MW → Prop} (h : p_Mo_raise w a b Q) : Q (alM w a b) := by
  rw [p_Mo_raise.eq_1] at h
  unfold alM
  by_cases q : 200 ≤ (w.1 127 79).toInt
  · rw [if_pos q]
    exact h.1 q
  · rw [if_neg q]
    exact (h.2 q).2.2.2
/-- alarms are alike -/
def AlR (v w : MW) : Prop := v.1 7 1 = w.1 127 78 ∧ v.1 3 0 = w.1 127 79 ∧ 0 ≤ (v.1 3 0).toInt ∧ (v.1 3 0).toInt ≤ 200 ∧ ∀ j : Nat, j < 200 → v.1 4 j = w.1 218 j ∧ v.1 5 j = w.1 219 j ∧ v.1 6 j = w.1 220 j
theorem alr_a {v w : MW} {n k : Int32} (h : AlR v w) : AlR (alC v (v.1 7 1) n k) (alM w n k) := by
  obtain ⟨h1, h2, h3, h4, h5⟩ := h
  unfold alC alM
  rw [← h2]
  by_cases q : 200 ≤ (v.1 3 0).toInt
  · rw [if_pos q, if_pos q]
    exact ⟨h1, h2, h3, h4, h5⟩
  · rw [if_neg q, if_neg q]
    generalize hi : (v.1 3 0).toInt.toNat = i
    have s := ti_add2 (Eq.refl (v.1 3 0).toInt) i_1 (by omega) (by omega)
    refine ⟨?_, ?_, ?_, ?_, fun j hj => ?_⟩
    · show v.1 7 1 = w.1 127 78
      exact h1
    · show (sI _ 3 0 ((v.1 3 0) + (1 : Int32))).1 3 0 = (sI _ 127 79 ((v.1 3 0) + (1 : Int32))).1 127 79
      rw [sI_same, sI_same]
    · rw [sI_same]
      omega
    · rw [sI_same]
      omega
    · have t := h5 j hj
      refine ⟨?_, ?_, ?_⟩
      · show (sI v 4 i (v.1 7 1)).1 4 j = (sI w 218 i (w.1 127 78)).1 218 j
        rw [sI_at, sI_at]
        by_cases z : j = i
        · rw [if_pos ⟨rfl, z⟩, if_pos ⟨rfl, z⟩]
          exact h1
        · rw [if_neg (fun y => z y.2), if_neg (fun y => z y.2)]
          exact t.1
      · show (sI v 5 i n).1 5 j = (sI w 219 i n).1 219 j
        rw [sI_at, sI_at]
        by_cases z : j = i
        · rw [if_pos ⟨rfl, z⟩, if_pos ⟨rfl, z⟩]
        · rw [if_neg (fun y => z y.2), if_neg (fun y => z y.2)]
          exact t.2.1
      · show (sI v 6 i k).1 6 j = (sI w 220 i k).1 220 j
        rw [sI_at, sI_at]
        by_cases z : j = i
        · rw [if_pos ⟨rfl, z⟩, if_pos ⟨rfl, z⟩]
        · rw [if_neg (fun y => z y.2), if_neg (fun y => z y.2)]
          exact t.2.2
/-- what the class's walk writes: all but the house -/
def lrC : Pl := [(3, some 0), (4, none), (5, none), (6, none), (61, some 4), (61, some 18), (61, some 19), (61, some 20), (74, none), (80, none), (81, none), (82, none), (83, none), (84, none), (85, none), (86, none)]
def lrM : Pl := [(127, some 72), (127, some 73), (127, some 75), (127, some 76), (127, some 79), (206, none), (210, none), (211, none), (212, none), (213, none), (214, none), (215, none), (216, none), (217, none), (218, none), (219, none), (220, none)]
theorem alc_f (v : MW) (a b c : Int32) : FR lrC v (alC v a b c) := by
  unfold alC
  by_cases q : 200 ≤ (v.1 3 0).toInt
  · rw [if_pos q]
    exact FR.refl _ _
  · rw [if_neg q]
    exact FR.I (FR.I (FR.I (FR.I (FR.refl _ v) rfl) rfl) rfl) rfl
theorem alm_f (w : MW) (a b : Int32) : FR lrM w (alM w a b) := by
  unfold alM
  by_cases q : 200 ≤ (w.1 127 79).toInt
  · rw [if_pos q]
    exact FR.refl _ _
  · rw [if_neg q]
    exact FR.I (FR.I (FR.I (FR.I (FR.refl _ w) rfl) rfl) rfl) rfl
theorem flt_f (v : MW) (a b : Int32) : FR lrC v (fltC v a b) := FR.I (alc_f v _ _ _) rfl
theorem sk_f {t : Nat} {v v' : MW} (h : SkT t v v') : FR lrC v v' := fun c j q => by
  refine ⟨by rw [h.1], h.2.2 c j ?_, by rw [h.2.1]⟩
  by_cases z : c = 86
  · rw [z] at q
    exact absurd (show true = false from q) (by decide)
  · exact Or.inl z
/-- parts of the class are places of the reference -/
def LyQ (v w : MW) : Prop := v.1 61 5 = w.1 127 60 ∧ (1 ≤ (v.1 61 5).toInt ∧ (v.1 61 5).toInt ≤ 501) ∧ ∀ j : Nat, (j : Int) < (v.1 61 5).toInt → v.1 77 j = w.1 207 j ∧ v.1 78 j = w.1 208 j ∧ v.1 79 j = w.1 209 j
/-- what stays as it is while a run goes on -/
def STa (ns : List Nod) (nm : List Nm) (ks : List Nat) (v w : MW) : Prop := v.2.2 61 3 = some 62 ∧ (∀ (i : Nat) (d : Nod), ns[i]? = some d → (v.1 63 i).toInt = d.1 ∧ (v.1 64 i).toInt = d.2.1 ∧ (d.1 = 31 → v.2.1 69 i = Int64.ofInt d.2.2.1) ∧ (¬ own d.1 = 0 → RGv ns i d (v.1 65 i).toInt (v.1 66 i).toInt)) ∧ StM ns w ∧ PGS ns nm ∧ ((v.1 62 10).toInt = (nm.length : Int) ∧ nm.length ≤ 40) ∧ LyQ v w ∧ Lz ns v ks 1 (fiC v 0) (v.1 61 5).toInt.toNat ∧ (∀ c ∈ ks, OwB ns false c)
/-- counters of a walk -/
def CnR (off : Int) (v w : MW) : Prop := v.1 61 19 = w.1 127 72 ∧ v.1 61 20 = w.1 127 73 ∧ ((v.1 61 18).toInt = 0 ↔ (w.1 127 75).toInt = 0) ∧ (w.1 127 76).toInt = -1 ∧ (v.2.1 61 17).toInt = (w.1 127 74).toInt + off + 1 ∧ (0 ≤ (w.1 127 74).toInt ∧ (w.1 127 74).toInt ≤ 1000000) ∧ (0 ≤ off ∧ off ≤ 1000000) ∧ (0 ≤ (v.1 61 19).toInt ∧ (v.1 61 19).toInt ≤ 1000) ∧ (0 ≤ (v.1 61 20).toInt ∧ (v.1 61 20).toInt ≤ 10)
/-- both sides, while they walk -/
def WS (GoW : MW → MW → Prop) (ns : List Nod) (nm : List Nm) (ks : List Nat) (off : Int) (v w : MW) : Prop := GoW v w ∧ (BND v ∧ BND w) ∧ STa ns nm ks v w ∧ VlR v w ∧ AlR v w ∧ CnR off v w
/-- the house does not see a run -/
def GoI (GoW : MW → MW → Prop) : Prop := ∀ v w v' w', GoW v w → BND v' → BND w' → FR lrC v v' → FR lrM w w' → GoW v' w'
theorem lz_g {ns : List Nod} {v v' : MW} {l : List Nat} {s : Nat} {h : Int} {q : Nat} (a : Lz ns v l s h q) (e7 : ∀ j, v'.1 77 j = v.1 77 j) (e8 : ∀ j, v'.1 78 j = v.1 78 j) (e9 : ∀ j, v'.1 79 j = v.1 79 j) : Lz ns v' l s h q := by
  obtain ⟨k, a⟩ := a
  exact ⟨k, LayA_g _ _ _ _ _ a (fun j _ _ => ⟨by rw [e7], by unfold fiC; rw [e8], by unfold nxC; rw [e9]⟩)⟩
theorem sta_f {ns : List Nod} {nm : List Nm} {ks : List Nat} {l l' : Pl} {v w v' w' : MW} (h : STa ns nm ks v w) (F : FR l v v') (G : FR l' w w') (ho : off l [(61, some 3), (61, some 5), (62, some 10), (63, none), (64, none), (65, none), (66, none), (69, none), (77, none), (78, none), (79, none)] = true) (ho' : off l' [(127, some 60), (129, some 12), (131, none), (132, none), (135, none), (136, none), (137, none), (207, none), (208, none), (209, none)] = true) : STa ns nm ks v' w' := by
  obtain ⟨h1, h2, h3, h4, h5, h6, h7, h8⟩ := h
  have e5 : v'.1 61 5 = v.1 61 5 := (F 61 5 (off_hit ho rfl)).1
  have e7 : ∀ j, v'.1 77 j = v.1 77 j := fun j => (F 77 j (off_hit ho rfl)).1
  have e8 : ∀ j, v'.1 78 j = v.1 78 j := fun j => (F 78 j (off_hit ho rfl)).1
  have e9 : ∀ j, v'.1 79 j = v.1 79 j := fun j => (F 79 j (off_hit ho rfl)).1
  have g12 : w'.1 129 12 = w.1 129 12 := (G 129 12 (off_hit ho' rfl)).1
  have gn : ∀ i : Int, nd1 w' i = nd1 w i := fun i => by unfold nd1; rw [g12]
  refine ⟨(F 61 3 (off_hit ho rfl)).2.2.trans h1, fun i d hd => ?_, ⟨h3.1, by rw [g12]; exact h3.2.1, fun i d hd => ?_⟩, h4, by rw [(F 62 10 (off_hit ho rfl)).1]; exact h5, ⟨by rw [e5, (G 127 60 (off_hit ho' rfl)).1]; exact h6.1, by rw [e5]; exact h6.2.1, fun j hj => ?_⟩, ?_, h8⟩
  · rw [(F 63 i (off_hit ho rfl)).1, (F 64 i (off_hit ho rfl)).1, (F 65 i (off_hit ho rfl)).1, (F 66 i (off_hit ho rfl)).1, (F 69 i (off_hit ho rfl)).2.1]
    exact h2 i d hd
  · have q := h3.2.2 i d hd
    rw [gn, g12, (G 131 _ (off_hit ho' rfl)).1, (G 132 _ (off_hit ho' rfl)).2.1, (G 135 _ (off_hit ho' rfl)).1, (G 136 _ (off_hit ho' rfl)).1]
    refine ⟨q.1, q.2.1, q.2.2.1, q.2.2.2.1, q.2.2.2.2.1, fun k c hk => ?_⟩
    rw [(G 137 _ (off_hit ho' rfl)).1]
    exact q.2.2.2.2.2 k c hk
  · rw [e5] at hj
    rw [e7, e8, e9, (G 207 j (off_hit ho' rfl)).1, (G 208 j (off_hit ho' rfl)).1, (G 209 j (off_hit ho' rfl)).1]
    exact h6.2.2 j hj
  · rw [e5]
    have e0 : fiC v' 0 = fiC v 0 := by
      unfold fiC
      rw [e8]
    rw [e0]
    exact lz_g h7 e7 e8 e9
/-! small steps of the class -/
theorem io_x {v : MW} {Q : Int32 → MW → Prop} (h : p_Ru_isOver v Q) : ((v.1 61 4).toInt = 0 → Q 0 v) ∧ (¬ (v.1 61 4).toInt = 0 → Q 1 v) := by
  rw [p_Ru_isOver.eq_1] at h
  exact h
/-- a block, or what a statement does, is chosen -/
def chW (v : MW) (a b : Int32) : MW := if b.toInt < 0 then sI v 81 a.toInt.toNat b else sI (sI v 81 a.toInt.toNat b) 80 b.toInt.toNat 0
theorem ch_x {v : MW} {a b : Int32} {Q : MW → Prop} (h : p_Ru_choose v a b Q) : Q (chW v a b) := by
  rw [p_Ru_choose.eq_1] at h
  unfold chW
  by_cases q : b.toInt < 0
  · rw [if_pos q]
    exact h.2.1 q
  · rw [if_neg q]
    exact (h.2.2 q).2
theorem gi_x {v : MW} {a b : Int32} {Q : Int32 → MW → Prop} (h : p_Ru_goInside v a b Q) : Q 2 (chW (sI v 80 a.toInt.toNat 1) a b) := by
  rw [p_Ru_goInside.eq_1] at h
  exact ch_x h.2
theorem sd_x {v : MW} {a : Int32} {Q : Int32 → MW → Prop} (h : p_Ru_stand v a Q) : Q 0 (sI (sI v 80 a.toInt.toNat 1) 81 a.toInt.toNat (-1)) := by
  rw [p_Ru_stand.eq_1] at h
  exact h.2.2
theorem sv_x {v : MW} {a : Int32} {x : Int64} {Q : MW → Prop} (h : p_Ru_setValue v a x Q) : Q (sJ v 74 ((v.1 64 a.toInt.toNat).toInt.toNat) x) := by
  rw [p_Ru_setValue.eq_1] at h
  exact h.2.2.2.2
theorem en_x {v : MW} {a : Int32} {Q : MW → Prop} (h : p_Ru_enter v a Q) : Q (chW (sI v 80 a.toInt.toNat 1) a (v.1 78 a.toInt.toNat)) := by
  rw [p_Ru_enter.eq_1] at h
  have h1 := h.2.2.2.2
  unfold chW
  by_cases q : (v.1 78 a.toInt.toNat).toInt < 0
  · rw [if_pos q]
    exact h1.1 q
  · rw [if_neg q]
    exact (h1.2 q).2.2
/-- may it begin: an act (act = 1) or not -/
theorem mb_x {v : MW} {a : Int32} {Q : Int32 → MW → Prop} (h : p_Ru_mayBegin v a Q) : ((1000 ≤ (v.1 61 19).toInt ∨ ((v.1 63 ((v.1 77 a.toInt.toNat).toInt.toNat)).toInt = 26 ∧ 10 ≤ (v.1 61 20).toInt)) → Q 0 (fltC v 2 (v.1 77 a.toInt.toNat))) ∧ (¬ (1000 ≤ (v.1 61 19).toInt ∨ ((v.1 63 ((v.1 77 a.toInt.toNat).toInt.toNat)).toInt = 26 ∧ 10 ≤ (v.1 61 20).toInt)) → Q 1 (sI (sI v 61 19 ((v.1 61 19) + (1 : Int32))) 61 20 ((v.1 61 20) + (if (v.1 63 ((v.1 77 a.toInt.toNat).toInt.toNat)).toInt = 26 then (1 : Int32) else 0)))) := by
  rw [p_Ru_mayBegin.eq_1] at h
  have h1 := h.2.2.2
  by_cases k : (v.1 63 ((v.1 77 a.toInt.toNat).toInt.toNat)).toInt = 26
  · have h2 := h1.2 (fun z => z k)
    rw [q_Ru_mayBegin_24.eq_1] at h2
    rw [if_pos k]
    refine ⟨fun q => ?_, fun q => ?_⟩
    · by_cases z : 1000 ≤ (v.1 61 19).toInt
      · exact flt_c (h2.1 z).2
      · exact flt_c (((h2.2 z).2 (by decide)).2 (by omega)).2
    · have h3 := ((h2.2 (by omega)).2 (by decide)).1 (by omega)
      rw [q_Ru_mayBegin_61.eq_1] at h3
      exact h3.2 (by decide)
  · have h2 := h1.1 k
    rw [q_Ru_mayBegin_24.eq_1] at h2
    rw [if_neg k]
    refine ⟨fun q => flt_c (h2.1 (by omega)).2, fun q => ?_⟩
    have h3 := (h2.2 (by omega)).1 (by decide)
    rw [q_Ru_mayBegin_61.eq_1] at h3
    exact h3.1 (by decide)
/-! small steps of the reference -/
theorem kn_x {ns : List Nod} {w : MW} {a : Int32} {c : Nat} {d : Nod} {Q : Int32 → MW → Prop} (hS : StM ns w) (ha : (w.1 207 a.toInt.toNat).toInt = (c : Int)) (hd : ns[c]? = some d) (h : p_Mo_kind w a Q) : ∃ r : Int32, r.toInt = wht d.1 ∧ Q r w := by
  have cl := (List.getElem?_eq_some_iff.mp hd).1
  have l3 := hS.1
  rw [p_Mo_kind.eq_1] at h
  have h1 := (h.2.1 (by omega)).2
  rw [p_Tx_node1.eq_1, ndx hS ha (by omega)] at h1
  exact ⟨_, (hS.2.2 c d hd).1, h1.2⟩
/-- nothing is bad -/
theorem ib_0 {w : MW} {Q : Int32 → MW → Prop} (h : p_Mo_isBad w Q) (hb : (w.1 127 76).toInt = -1) : Q 0 w := by
  rw [p_Mo_isBad.eq_1] at h
  exact h.2 (fun z => z hb)
theorem ib_1 {w : MW} {Q : Int32 → MW → Prop} (h : p_Mo_isBad w Q) (hb : ¬ (w.1 127 76).toInt = -1) : Q 1 (sI (alM w (w.1 127 76) 1) 127 76 (-1)) := by
  rw [p_Mo_isBad.eq_1] at h
  exact al_m (h.1 hb)
/-! a sum on both sides -/
theorem rk_2 {GoW : MW → MW → Prop} {ns : List Nod} {nm : List Nm} {ks : List Nat} {off : Int} {v w : MW} {k lo e M : Nat} {a b n : Int32} {Qc Qm : Int64 → MW → Prop} (h : WS GoW ns nm ks off v w) (hT : TRX ns k lo e 44) (ha : a.toInt = (lo : Int)) (hb : b.toInt = (e : Int) + 1) (hn : n.toInt = (e : Int)) (hc : p_Ru_reckon v a b Qc) (hm : pn_Mo_reckon M w n Qm) : (∃ x v', SkT 0 v v' ∧ Qc x v' ∧ Qm x w) ∨ (∃ (z : Nat) (v' : MW) (x : Int64), z < 300 ∧ SkT 0 v v' ∧ Qc 0 (fltC v' 1 (nI z)) ∧ Qm x (sI w 127 76 (nI z))) := by
  obtain ⟨_, _, st, vl, _, cn⟩ := h
  have nml := st.2.2.2.1.2.2.2.1
  have l3 := st.2.2.2.1.2.2.2.2.2.2.1
  have n4 := st.2.2.2.2.1
  have R : RkC ns (fun j => v.2.1 74 j) v := ⟨l3, fun i d hd => by
    have q := st.2.1 i d hd
    exact ⟨q.1, fun z => ⟨q.2.1, rfl⟩, q.2.2.1⟩⟩
  have V : ∀ (i : Nat) (d : Nod), ns[i]? = some d → d.1 = 30 → (0 ≤ d.2.1 ∧ d.2.1 < 40) ∧ w.2.1 206 d.2.1.toNat = (fun j => v.2.1 74 j) d.2.1.toNat := fun i d hd z => by
    have q := nml i d hd (Or.inl z)
    exact ⟨by omega, (vl d.2.1.toNat (by omega)).symm⟩
  obtain ⟨C1, C2⟩ := rk_c hc hT ha hb R
  obtain ⟨M1, M2⟩ := rk_m k lo e 44 M n w Qm hT hm hn st.2.2.1 V cn.2.2.2.1
  cases hv : evx ns (fun j => v.2.1 74 j) k e with
  | inl z =>
    obtain ⟨v', s, q⟩ := C2 z hv
    obtain ⟨x, q2⟩ := M2 z hv
    exact Or.inr ⟨z, v', x, by have := ev_z k e z hv; omega, s, q, q2⟩
  | inr x =>
    obtain ⟨v', s, q⟩ := C1 x hv
    exact Or.inl ⟨x, v', s, q, M1 x hv⟩
