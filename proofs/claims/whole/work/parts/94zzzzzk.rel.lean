/-! both sides between two calls -/
/-- two contracts of one call hold together at one end -/
theorem jt_1 {pX : (MW → Prop) → Prop} (ex : ∀ Q, pX Q → ∃ u, Q u ∧ pX (fun x => x = u)) (al : ∀ (Q1 : Bool → MW → Prop) (Q3 : MW → Prop), (∀ i, pX (Q1 i)) → (∀ x, (∀ i, Q1 i x) → Q3 x) → pX Q3) {Q Q' : MW → Prop} (h : pX Q) (h' : pX Q') : ∃ u, Q u ∧ Q' u ∧ pX (fun x => x = u) := by
  have t : pX (fun x => Q x ∧ Q' x) := al (fun b => bif b then Q else Q') _ (fun i => by cases i; exact h'; exact h) (fun x hx => ⟨hx true, hx false⟩)
  obtain ⟨u, q, e⟩ := ex _ t
  exact ⟨u, q.1, q.2, e⟩
theorem jt_2 {pX : (Int32 → MW → Prop) → Prop} (ex : ∀ Q, pX Q → ∃ r u, Q r u ∧ pX (fun y x => y = r ∧ x = u)) (al : ∀ (Q1 : Bool → Int32 → MW → Prop) (Q3 : Int32 → MW → Prop), (∀ i, pX (Q1 i)) → (∀ y x, (∀ i, Q1 i y x) → Q3 y x) → pX Q3) {Q Q' : Int32 → MW → Prop} (h : pX Q) (h' : pX Q') : ∃ r u, Q r u ∧ Q' r u ∧ pX (fun y x => y = r ∧ x = u) := by
  have t : pX (fun y x => Q y x ∧ Q' y x) := al (fun b => bif b then Q else Q') _ (fun i => by cases i; exact h'; exact h) (fun y x hx => ⟨hx true, hx false⟩)
  obtain ⟨r, u, q, e⟩ := ex _ t
  exact ⟨r, u, q.1, q.2, e⟩
/-- what acts and ways rest on -/
def SvC (v : MW) : Prop := AC v ∧ AZ v ∧ PE v ∧ PJ v ∧ PL v ∧ WO v ∧ v.2.2 47 3 = some 48 ∧ v.2.2 7 0 = some 8
def SvM (w : MW) : Prop := DR w ∧ FT w ∧ HW w ∧ MC w ∧ MZ w ∧ RP w ∧ SZ w
theorem svc_f {l : Pl} {v v' : MW} (F : FR l v v') (h : SvC v) (hW : WO v') (ho : off l [(8, some 0), (8, some 1), (13, none), (14, none), (15, none), (58, none), (59, none), (60, none), (47, some 3), (7, some 0)] = true) : SvC v' := ⟨AC_fr F (off_mono ho (by decide)) h.1, AZ_fr F (off_mono ho (by decide)) h.2.1, PE_fr F (off_mono ho (by decide)) h.2.2.1, PJ_fr F (off_mono ho (by decide)) h.2.2.2.1, PL_fr F (off_mono ho (by decide)) h.2.2.2.2.1, hW, ((F 47 3 (off_hit ho rfl)).2.2).trans h.2.2.2.2.2.2.1, ((F 7 0 (off_hit ho rfl)).2.2).trans h.2.2.2.2.2.2.2⟩
theorem svm_f {l : Pl} {w w' : MW} (F : FR l w w') (h : SvM w) (h1 : FT w') (h2 : HW w') (ho : off l [(147, some 12), (147, some 20), (151, none), (152, none), (153, none), (154, none), (197, none), (199, none), (200, none), (127, some 11), (163, none), (169, none), (170, none), (171, none)] = true) : SvM w' := ⟨DR_fr F (off_mono ho (by decide)) h.1, h1, h2, MC_fr F (off_mono ho (by decide)) h.2.2.2.1, MZ_fr F (off_mono ho (by decide)) h.2.2.2.2.1, RP_fr F (off_mono ho (by decide)) h.2.2.2.2.2.1, SZ_fr F (off_mono ho (by decide)) h.2.2.2.2.2.2⟩
/-- the rows of both sides -/
def RwQ (v w : MW) : Prop := ∃ (g : Nat) (rs : List Rw), RsC v rs ∧ GrS rs ∧ RoM w g rs ∧ (∀ r : Nat, r < rs.length → v.1 49 r = w.1 160 r ∧ v.1 50 r = w.1 161 r ∧ v.1 51 r = w.1 162 r) ∧ v.1 48 1 = w.1 147 24
theorem rwq_f {l l' : Pl} {v w v' w' : MW} (h : RwQ v w) (F : FR l v v') (G : FR l' w w') (ho : off l [(48, some 0), (48, some 1), (49, none), (50, none), (51, none), (52, none), (53, none), (54, none), (55, none), (56, none)] = true) (ho' : off l' [(147, none), (151, none), (152, none), (153, none), (154, none), (155, none), (156, none), (157, none), (158, none), (160, none), (161, none), (162, none)] = true) : RwQ v' w' := by
  obtain ⟨g, rs, h1, h2, h3, h4, h5⟩ := h
  refine ⟨g, rs, rsc_fr h1 F (off_mono ho (by decide)), h2, rom_k h3 (G 147 12 (off_hit ho' rfl)).1 (G 147 20 (off_hit ho' rfl)).1 (KR.fr G (off_mono ho' (by decide))), fun r hr => ?_, ?_⟩
  · rw [(F 49 r (off_hit ho rfl)).1, (F 50 r (off_hit ho rfl)).1, (F 51 r (off_hit ho rfl)).1, (G 160 r (off_hit ho' rfl)).1, (G 161 r (off_hit ho' rfl)).1, (G 162 r (off_hit ho' rfl)).1]
    exact h4 r hr
  · rw [(F 48 1 (off_hit ho rfl)).1, (G 147 24 (off_hit ho' rfl)).1]
    exact h5
/-- acts -/
theorem hac_f {l l' : Pl} {v w v' w' : MW} (h : HAc (mx v w)) (F : FR l v v') (G : FR l' w w') (ho : off l [(57, none), (58, none), (59, none), (60, none)] = true) (ho' : off l' [(197, none), (198, none), (199, none), (200, none)] = true) : HAc (mx v' w') := fun k hk => by
  have t := h k hk
  have a : v.1 60 k = w.1 197 k ∧ v.1 57 k = w.1 198 k ∧ v.1 58 k = w.1 199 k ∧ v.1 59 k = w.1 200 k := t
  show v'.1 60 k = w'.1 197 k ∧ v'.1 57 k = w'.1 198 k ∧ v'.1 58 k = w'.1 199 k ∧ v'.1 59 k = w'.1 200 k
  rw [(F 57 k (off_hit ho rfl)).1, (F 58 k (off_hit ho rfl)).1, (F 59 k (off_hit ho rfl)).1, (F 60 k (off_hit ho rfl)).1, (G 197 k (off_hit ho' rfl)).1, (G 198 k (off_hit ho' rfl)).1, (G 199 k (off_hit ho' rfl)).1, (G 200 k (off_hit ho' rfl)).1]
  exact a
/-- what is sensed, what is watched -/
theorem ssr_f {l l' : Pl} {v w v' w' : MW} (h : SsR v w) (F : FR l v v') (G : FR l' w w') (ho : off l [(62, some 10), (71, none), (75, none), (76, none)] = true) (ho' : off l' [(129, some 32), (201, none), (202, none)] = true) : SsR v' w' := by
  obtain ⟨h1, h2, h3⟩ := h
  refine ⟨?_, ?_, fun n hn => ?_⟩
  · rw [(F 62 10 (off_hit ho rfl)).1, (G 129 32 (off_hit ho' rfl)).1]
    exact h1
  · rw [(F 62 10 (off_hit ho rfl)).1]
    exact h2
  · rw [(F 62 10 (off_hit ho rfl)).1] at hn
    have t := h3 n hn
    unfold SnsC SnsM at *
    rw [(F 71 n (off_hit ho rfl)).1, (F 75 n (off_hit ho rfl)).1, (F 76 n (off_hit ho rfl)).1, (G 201 n (off_hit ho' rfl)).1, (G 202 n (off_hit ho' rfl)).1]
    exact t
theorem wtr_f {l l' : Pl} {v w v' w' : MW} (h : WtR v w) (F : FR l v v') (G : FR l' w w') (ho : off l [(124, none), (125, none), (126, none)] = true) (ho' : off l' [(147, some 24), (203, none), (204, none), (205, none)] = true) : WtR v' w' := by
  obtain ⟨h1, h2⟩ := h
  refine ⟨fun c hc => ?_, fun c h3 h4 => ?_⟩
  · rw [(F 124 c (off_hit ho rfl)).1, (F 125 c (off_hit ho rfl)).2.1, (F 126 c (off_hit ho rfl)).1, (G 147 24 (off_hit ho' rfl)).1, (G 203 c (off_hit ho' rfl)).1, (G 204 c (off_hit ho' rfl)).1, (G 205 c (off_hit ho' rfl)).2.1]
    exact h1 c hc
  · rw [(G 147 24 (off_hit ho' rfl)).1]
    exact h2 c h3 h4
/-- the program that stands -/
def PgQ (ns : List Nod) (nm : List Nm) (ks : List Nat) (v w : MW) : Prop := v.2.2 61 3 = some 62 ∧ (∀ (i : Nat) (d : Nod), ns[i]? = some d → (v.1 63 i).toInt = d.1 ∧ (v.1 64 i).toInt = d.2.1 ∧ (d.1 = 31 → v.2.1 69 i = Int64.ofInt d.2.2.1) ∧ (¬ own d.1 = 0 → RGv ns i d (v.1 65 i).toInt (v.1 66 i).toInt)) ∧ StM ns w ∧ PGS ns nm ∧ ((v.1 62 10).toInt = (nm.length : Int) ∧ nm.length ≤ 40) ∧ (∀ c ∈ ks, OwB ns false c) ∧ DpL ns ks 0 ∧ (∀ (i : Nat) (x : Nm), nm[i]? = some x → (v.1 71 i).toInt = x.2.1) ∧ RlM w nm ∧ (∃ ts, TpW w ts ks) ∧ StN nm w ∧ ((v.1 62 2).toInt < 0 ↔ ks = []) ∧ (¬ ks = [] → (v.1 77 0).toInt = -1 ∧ (1 ≤ (v.1 61 5).toInt ∧ (v.1 61 5).toInt ≤ 501) ∧ Lz ns v ks 1 (fiC v 0) (v.1 61 5).toInt.toNat)
theorem stm_f {l : Pl} {ns : List Nod} {w w' : MW} (h : StM ns w) (G : FR l w w') (ho : off l [(129, some 12), (131, none), (132, none), (135, none), (136, none), (137, none)] = true) : StM ns w' := by
  have g12 : w'.1 129 12 = w.1 129 12 := (G 129 12 (off_hit ho rfl)).1
  have gn : ∀ i : Int, nd1 w' i = nd1 w i := fun i => by unfold nd1; rw [g12]
  refine ⟨h.1, by rw [g12]; exact h.2.1, fun i d hd => ?_⟩
  have q := h.2.2 i d hd
  rw [gn, g12, (G 131 _ (off_hit ho rfl)).1, (G 132 _ (off_hit ho rfl)).2.1, (G 135 _ (off_hit ho rfl)).1, (G 136 _ (off_hit ho rfl)).1]
  refine ⟨q.1, q.2.1, q.2.2.1, q.2.2.2.1, q.2.2.2.2.1, fun k c hk => ?_⟩
  rw [(G 137 _ (off_hit ho rfl)).1]
  exact q.2.2.2.2.2 k c hk
theorem stn_f {l : Pl} {nm : List Nm} {w w' : MW} (h : StN nm w) (G : FR l w w') (ho : off l [(129, some 12), (143, none)] = true) : StN nm w' := ⟨h.1, fun i x hx x0 => by
  rw [(G 129 12 (off_hit ho rfl)).1, (G 143 _ (off_hit ho rfl)).1]
  exact h.2 i x hx x0⟩
def lpgC : Pl := [(61, some 3), (61, some 5), (62, some 2), (62, some 10), (63, none), (64, none), (65, none), (66, none), (69, none), (71, none), (77, none), (78, none), (79, none)]
def lpgM : Pl := [(129, some 12), (129, some 31), (129, some 32), (131, none), (132, none), (135, none), (136, none), (137, none), (138, none), (141, none), (143, none)]
theorem pgq_f {l l' : Pl} {ns : List Nod} {nm : List Nm} {ks : List Nat} {v w v' w' : MW} (h : PgQ ns nm ks v w) (F : FR l v v') (G : FR l' w w') (ho : off l lpgC = true) (ho' : off l' lpgM = true) : PgQ ns nm ks v' w' := by
  obtain ⟨h1, h2, h3, h4, h5, h6, h7, h8, h9, ⟨ts, h10⟩, h11, h12, h13⟩ := h
  have e5 : v'.1 61 5 = v.1 61 5 := (F 61 5 (off_hit ho rfl)).1
  have e8 : fiC v' 0 = fiC v 0 := by unfold fiC; rw [(F 78 0 (off_hit ho rfl)).1]
  refine ⟨((F 61 3 (off_hit ho rfl)).2.2).trans h1, fun i d hd => ?_, stm_f h3 G (off_mono ho' (by decide)), h4, by rw [(F 62 10 (off_hit ho rfl)).1]; exact h5, h6, h7, fun i x hx => by rw [(F 71 i (off_hit ho rfl)).1]; exact h8 i x hx, rlm_fr h9 G (off_mono ho' (by decide)), ⟨ts, tpw_fr h10 G (off_mono ho' (by decide))⟩, stn_f h11 G (off_mono ho' (by decide)), by rw [(F 62 2 (off_hit ho rfl)).1]; exact h12, fun z => ?_⟩
  · rw [(F 63 i (off_hit ho rfl)).1, (F 64 i (off_hit ho rfl)).1, (F 65 i (off_hit ho rfl)).1, (F 66 i (off_hit ho rfl)).1, (F 69 i (off_hit ho rfl)).2.1]
    exact h2 i d hd
  · rw [e5, e8, (F 77 0 (off_hit ho rfl)).1]
    have t := h13 z
    exact ⟨t.1, t.2.1, lz_g t.2.2 (fun j => (F 77 j (off_hit ho rfl)).1) (fun j => (F 78 j (off_hit ho rfl)).1) (fun j => (F 79 j (off_hit ho rfl)).1)⟩
/-- the house of both sides, with acts, rows, what is sensed and watched, and the program -/
def GwR (ns : List Nod) (nm : List Nm) (ks : List Nat) (v w : MW) : Prop := HRq (mx v w) ∧ HAc (mx v w) ∧ RwQ v w ∧ SvC v ∧ SvM w ∧ SsR v w ∧ WtR v w ∧ PgQ ns nm ks v w
def lhrC : Pl := [(7, some 1), (8, some 0), (8, some 1), (9, none), (10, none), (11, none), (12, none), (13, none), (14, none), (15, none), (16, none), (17, none), (18, none), (19, none), (20, none), (21, none), (22, none), (23, none), (24, none), (25, none), (26, some 1), (27, none), (28, none), (29, none), (30, none), (31, none), (32, none), (33, none), (34, none), (35, none), (36, none), (37, none), (41, none)]
def lhrM : Pl := [(127, some 4), (127, some 11), (127, some 26), (127, some 78), (163, none), (164, none), (165, none), (166, none), (167, none), (169, none), (170, none), (171, none), (172, none), (173, none), (174, none), (175, none), (176, none), (177, none), (181, none), (182, none), (183, none), (184, none), (185, none), (186, none), (187, none)]
/-- a list split by sides -/
theorem ag_mx {l l' lc lm : Pl} {v w v' w' : MW} (F : FR l v v') (G : FR l' w w') (ho : off l lc = true) (ho' : off l' lm = true) (m : Pl) (hm : (m.all fun c => (Nat.blt c.1 127 && (sub [c] lc)) || (!Nat.blt c.1 127 && (sub [c] lm))) = true) : Ag m (mx v w) (mx v' w') := mx_ag (fun k j hk => by
  obtain ⟨c, hc, hck⟩ : ∃ c, c ∈ m ∧ hit [c] k j = true := by
    unfold hit at hk
    obtain ⟨c, hc, q⟩ := List.any_eq_true.mp hk
    exact ⟨c, hc, by unfold hit; exact List.any_eq_true.mpr ⟨c, List.mem_singleton.mpr rfl, q⟩⟩
  have ck : c.1 = k := by
    obtain ⟨c', hc', e⟩ := hit_in hck
    rw [List.mem_singleton.mp hc'] at e
    exact e
  have t := List.all_eq_true.mp hm c hc
  rcases (Bool.or_eq_true _ _).mp t with z | z
  · have z2 := (Bool.and_eq_true _ _).mp z
    have lt : k < 127 := by
      rw [← ck]
      exact blt_i.mp z2.1
    exact ⟨fun _ => (F k j (off_hit ho (sub_hit z2.2 hck))).1, fun n => absurd lt n⟩
  · have z2 := (Bool.and_eq_true _ _).mp z
    have nlt : ¬ k < 127 := by
      rw [← ck]
      intro q
      have q2 := blt_i.mpr q
      rw [q2] at z2
      exact absurd z2.1 (by decide)
    exact ⟨fun q => absurd q nlt, fun _ => (G k j (off_hit ho' (sub_hit z2.2 hck))).1⟩)
theorem hr_f {l l' : Pl} {v w v' w' : MW} (h : HRq (mx v w)) (F : FR l v v') (G : FR l' w w') (ho : off l lhrC = true) (ho' : off l' lhrM = true) : HRq (mx v' w') := HRq_ag (ag_mx F G ho ho' lPL (by decide)) (ag_mx F G ho ho' lTq (by decide)) (ag_mx F G ho ho' lSk (by decide)) (ag_mx F G ho ho' lWy (by decide)) (fun j => by
  show v'.2.1 20 j = v.2.1 20 j
  exact (F 20 j (off_hit ho rfl)).2.1) h
/-- the house sees nothing of a run -/
theorem gw_j (ns : List Nod) (nm : List Nm) (ks : List Nat) : GoJ (GwR ns nm ks) := fun v w v' w' h B B' F G => ⟨hr_f h.1 F G rfl rfl, hac_f h.2.1 F G rfl rfl, rwq_f h.2.2.1 F G rfl rfl, svc_f F h.2.2.2.1 (WO_fr F rfl h.2.2.2.1.2.2.2.2.2.1) rfl, svm_f G h.2.2.2.2.1 (FT_fr G rfl h.2.2.2.2.1.2.1) (HW_fr G rfl h.2.2.2.2.1.2.2.1) rfl, ssr_f h.2.2.2.2.2.1 F G rfl rfl, wtr_f h.2.2.2.2.2.2.1 F G rfl rfl, pgq_f h.2.2.2.2.2.2.2 F G rfl rfl⟩
/-- bars of both sides -/
theorem br_eq {v w : MW} {g : Nat} {rs : List Rw} {a : Int} {y y' : Int} (hq : ∀ r : Nat, r < rs.length → v.1 49 r = w.1 160 r ∧ v.1 50 r = w.1 161 r ∧ v.1 51 r = w.1 162 r) (h48 : v.1 48 1 = w.1 147 24) (h : FsB (BrW 49 50 51 (sbt (v.1 48 1)) a v) rs y) (h' : FsB (BrW 160 161 162 (sbt (w.1 147 24)) a w) rs y') : y = y' := fsb_eq (fun r x hx => by
  have t := hq r (List.getElem?_eq_some_iff.mp hx).1
  unfold BrW
  rw [t.1, t.2.1, t.2.2, h48]) h h'
/-- AN ACT ON BOTH SIDES -/
theorem gw_p (ns : List Nod) (nm : List Nm) (ks : List Nat) : PfG (GwR ns nm ks) := fun v w a Qc Qm h B B' hc hm => by
  obtain ⟨hr, ha, ⟨g, rs, h1, h2, h3, h4, h5⟩, sc, sm, ss, wt, pg⟩ := h
  have a0 : 0 ≤ a.toInt ∧ a.toInt < 32 := by
    rw [p_Mo_perform.eq_1] at hm
    exact hm.1
  obtain ⟨r1, v1, q1, s1, e1⟩ := jt_2 (pX := fun Q => p_Ac_perform v a Q) (fun Q q => ex_p_Ac_perform q) (fun Q1 Q3 q k => al_p_Ac_perform true q k) hc (h_Ac_perform (Q := fun r v' => BND v' ∧ FR l_Ac_perform v v' ∧ WO v') B sc.1 sc.2.1 sc.2.2.1 sc.2.2.2.1 sc.2.2.2.2.1 sc.2.2.2.2.2.1 sc.2.2.2.2.2.2.1 sc.2.2.2.2.2.2.2 (fun r v' b f wo _ _ => ⟨b, f, wo⟩))
  obtain ⟨r2, w1, q2, s2, e2⟩ := jt_2 (pX := fun Q => p_Mo_perform w a Q) (fun Q q => ex_p_Mo_perform q) (fun Q1 Q3 q k => al_p_Mo_perform true q k) hm (h_Mo_perform (Q := fun r w' => BND w' ∧ FR l_Mo_perform w w' ∧ FT w' ∧ HW w') B' sm.1 sm.2.1 sm.2.2.1 sm.2.2.2.1 sm.2.2.2.2.1 sm.2.2.2.2.2.1 sm.2.2.2.2.2.2 a0.1 (by omega) (fun r w' b f ft hw _ _ => ⟨b, f, ft, hw⟩))
  have t := pf_pair (Q' := fun r v' => r = r2 ∧ HRq (mx v' w1) ∧ r = r1 ∧ v' = v1) a0.1 a0.2 B B' sc.1 hr ha (cb_bar (Q := fun y v' => v' = v ∧ FsB (BrW 49 50 51 (sbt (v.1 48 1)) a.toInt v) rs y.toInt) a0.1 a0.2 h1 h2 (fun y hy => ⟨rfl, hy⟩)) (mb_bars (Q := fun y w' => w' = w ∧ FsB (BrW 160 161 162 (sbt (w.1 147 24)) a.toInt w) rs y.toInt) B' sm.1 h3 (fun z => by omega) (fun _ _ y hy => ⟨rfl, hy⟩)) (fun y y' z z' => br_eq (g := g) h4 h5 z z') sc.2.1 (fun a b c ta tb ab hc => op_pair B B' hr sm.2.2.1 sm.2.2.2.2.2.1 sm.2.2.2.2.2.2 ta tb ab hc) e1 (fun r v' P e => by
    have q := P (fun y x => y = r2 ∧ x = w1) (fun y x => (y = r2 ∧ x = w1) ∧ HRq (mx v' x) ∧ y = r) e2 (fun w' z1 z2 => ⟨z2, z1, rfl⟩)
    obtain ⟨y, x, ⟨⟨z1, z2⟩, z3, z4⟩, _⟩ := ex_p_Mo_perform q
    rw [z2] at z3
    exact ⟨z4.symm.trans z1, z3, e.1, e.2⟩)
  obtain ⟨r, v', ⟨z1, z2, z3, z4⟩, _⟩ := ex_p_Ac_perform t
  rw [z4] at z2
  have er : r1 = r2 := z3.symm.trans z1
  have F := s1.2.1
  have G := s2.2.1
  refine ⟨r1, v1, w1, q1, by rw [er]; exact q2, ⟨z2, hac_f ha F G rfl rfl, rwq_f ⟨g, rs, h1, h2, h3, h4, h5⟩ F G rfl rfl, svc_f F sc s1.2.2 rfl, svm_f G sm s2.2.2.1 s2.2.2.2 rfl, ssr_f ss F G rfl rfl, wtr_f wt F G rfl rfl, pgq_f pg F G rfl rfl⟩, s1.1, s2.1, F, G⟩
