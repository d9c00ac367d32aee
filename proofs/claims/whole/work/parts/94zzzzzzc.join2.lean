/-! end on both sides: rows, a program -/
theorem hit_app {l l' : Pl} {k j : Nat} (h : hit (l ++ l') k j = false) : hit l k j = false ∧ hit l' k j = false := by
  unfold hit at h ⊢
  rw [List.any_append] at h
  exact Bool.or_eq_false_iff.mp h
/-- a twin stands: all else is as it was -/
theorem fr_star {l lS : Pl} {σ : Nat → Nat} {v v1 : MW} (F : FR l v v1) (hS : ∀ k j, hit lS k j = false → σ k = k) : FR (l ++ lS) v ((sw σ v1).1, (sw σ v1).2.1, v.2.2) := fun k j hk => by
  have h := hit_app hk
  refine ⟨?_, ?_, rfl⟩
  · show v1.1 (σ k) j = v.1 k j
    rw [hS k j h.2]
    exact (F k j h.1).1
  · show v1.2.1 (σ k) j = v.2.1 k j
    rw [hS k j h.2]
    exact (F k j h.1).2.1
def lQs : Pl := [(48, none), (49, none), (50, none), (51, none), (52, none), (53, none), (54, none), (55, none), (56, none), (99, none), (100, none), (101, none), (102, none), (103, none), (104, none), (105, none), (106, none), (107, none)]
def lNs : Pl := [(62, none), (63, none), (64, none), (65, none), (66, none), (67, none), (68, none), (69, none), (70, none), (71, none), (72, none), (73, none), (74, none), (75, none), (76, none), (108, none), (109, none), (110, none), (111, none), (112, none), (113, none), (114, none), (115, none), (116, none), (117, none), (118, none), (119, none), (120, none), (121, none), (122, none)]
def lPs : Pl := [(8, none), (9, none), (10, none), (11, none), (12, none), (13, none), (14, none), (15, none), (91, none), (92, none), (93, none), (94, none), (95, none), (96, none), (97, none), (98, none)]
theorem hit_no {l : Pl} {k j : Nat} (h : hit l k j = false) (hm : (k, none) ∈ l) : False := by
  have t : hit l k j = true := by
    unfold hit
    exact List.any_eq_true.mpr ⟨(k, none), hm, by simp⟩
  rw [t] at h
  cases h
theorem sQ_s (k j : Nat) (h : hit lQs k j = false) : sQ k = k := by
  unfold sQ
  rw [if_neg, if_neg]
  · intro q
    have : k = 99 ∨ k = 100 ∨ k = 101 ∨ k = 102 ∨ k = 103 ∨ k = 104 ∨ k = 105 ∨ k = 106 ∨ k = 107 := by omega
    exact hit_no h (by rcases this with e | e | e | e | e | e | e | e | e <;> (rw [e]; decide))
  · intro q
    have : k = 48 ∨ k = 49 ∨ k = 50 ∨ k = 51 ∨ k = 52 ∨ k = 53 ∨ k = 54 ∨ k = 55 ∨ k = 56 := by omega
    exact hit_no h (by rcases this with e | e | e | e | e | e | e | e | e <;> (rw [e]; decide))
theorem sN_s (k j : Nat) (h : hit lNs k j = false) : sN k = k := by
  unfold sN
  rw [if_neg, if_neg]
  · intro q
    have : k = 108 ∨ k = 109 ∨ k = 110 ∨ k = 111 ∨ k = 112 ∨ k = 113 ∨ k = 114 ∨ k = 115 ∨ k = 116 ∨ k = 117 ∨ k = 118 ∨ k = 119 ∨ k = 120 ∨ k = 121 ∨ k = 122 := by omega
    exact hit_no h (by rcases this with e | e | e | e | e | e | e | e | e | e | e | e | e | e | e <;> (rw [e]; decide))
  · intro q
    have : k = 62 ∨ k = 63 ∨ k = 64 ∨ k = 65 ∨ k = 66 ∨ k = 67 ∨ k = 68 ∨ k = 69 ∨ k = 70 ∨ k = 71 ∨ k = 72 ∨ k = 73 ∨ k = 74 ∨ k = 75 ∨ k = 76 := by omega
    exact hit_no h (by rcases this with e | e | e | e | e | e | e | e | e | e | e | e | e | e | e <;> (rw [e]; decide))
theorem sP_s (k j : Nat) (h : hit lPs k j = false) : sP k = k := by
  unfold sP
  rw [if_neg, if_neg]
  · intro q
    have : k = 91 ∨ k = 92 ∨ k = 93 ∨ k = 94 ∨ k = 95 ∨ k = 96 ∨ k = 97 ∨ k = 98 := by omega
    exact hit_no h (by rcases this with e | e | e | e | e | e | e | e <;> (rw [e]; decide))
  · intro q
    have : k = 8 ∨ k = 9 ∨ k = 10 ∨ k = 11 ∨ k = 12 ∨ k = 13 ∨ k = 14 ∨ k = 15 := by omega
    exact hit_no h (by rcases this with e | e | e | e | e | e | e | e <;> (rw [e]; decide))
/-- what acts rest on, where references are the old ones -/
theorem svc_star {u v : MW} (hu : CI u) (hv : CI v) : SvC (u.1, u.2.1, v.2.2) := by
  obtain ⟨a, b, c⟩ := u
  have s := svc_ci hu
  have p1 : AC (a, b, v.2.2) := s.1
  have p2 : AZ (a, b, v.2.2) := s.2.1
  have p3 : PE (a, b, v.2.2) := s.2.2.1
  have p4 : PJ (a, b, v.2.2) := s.2.2.2.1
  have p5 : PL (a, b, v.2.2) := s.2.2.2.2.1
  have p6 : WO (a, b, v.2.2) := s.2.2.2.2.2.1
  have c1 : v.2.2 47 3 = some 48 := ci_47 hv
  have c2 : v.2.2 7 0 = some 8 := ci_7 hv
  exact ⟨p1, p2, p3, p4, p5, p6, c1, c2⟩
/-- references do not count, but that they are the class's -/
theorem zr_e {T : Int} {ns : List Nod} {nm : List Nm} {ks : List Nat} {u w : MW} {c : Nat → Nat → Option Nat} (h : ZRr T ns nm ks (u.1, u.2.1, c) w) (hu : CI u) : ZRr T ns nm ks u w := by
  obtain ⟨a, b, c'⟩ := u
  obtain ⟨⟨hr, ha, ⟨g, rs, h1, h2, h3, h4, h5⟩, sc, sm, ss, wt, pg⟩, BB, vl, al, st, bad, nw, wk, rn⟩ := h
  have hr' : HRq (mx (a, b, c') w) := HRq_ag (fun k j _ => rfl) (fun k j _ => rfl) (fun k j _ => rfl) (fun k j _ => rfl) (fun j => rfl) hr
  have ha' : HAc (mx (a, b, c') w) := ha
  have h1' : RsC (a, b, c') rs := h1
  have ss' : SsR (a, b, c') w := ss
  have wt' : WtR (a, b, c') w := wt
  have vl' : VlR (a, b, c') w := vl
  have al' : AlR (a, b, c') w := al
  have p2 := pg.2
  obtain ⟨q2, q3, q4, q5, q6, q7, q8, q9, q10, q11, q12, q13⟩ := p2
  have pg' : PgQ ns nm ks (a, b, c') w := ⟨ci_61 hu, q2, q3, q4, q5, q6, q7, q8, q9, q10, q11, q12, fun z => by
    have t := q13 z
    exact ⟨t.1, t.2.1, lz_g t.2.2 (fun j => rfl) (fun j => rfl) (fun j => rfl)⟩⟩
  refine ⟨⟨hr', ha', ⟨g, rs, h1', h2, h3, h4, h5⟩, svc_ci hu, sm, ss', wt', pg'⟩, ⟨hu.1, BB.2⟩, vl', al', st, bad, nw, wk, fun z => ?_⟩
  obtain ⟨k0, ly, o, o1, o2, o3, r1, r2⟩ := rn z
  have ly' : LyQ (a, b, c') w := ly
  have t := q13 k0
  have t2 := t.2.1
  have t2' : 1 ≤ (a 61 5).toInt ∧ (a 61 5).toInt ≤ 501 := t2
  refine ⟨k0, ly', o, o1, o2, o3, blkr_f (m := (a 61 5).toInt.toNat) t.2.2 (by omega) (fun j _ _ => ⟨⟨rfl, rfl, rfl, rfl, rfl, rfl, rfl, rfl⟩, rfl, rfl, rfl, rfl, rfl, rfl, rfl, rfl⟩) r1, r2⟩
/-- rows were taken on both sides -/
theorem ze_Q {T : Int} {ns : List Nod} {nm : List Nm} {ks : List Nat} {v w v1 w' : MW} {rs : List Rw} (h : ZRr T ns nm ks v w) (hv : CI v) (hu : CI (sw sQ v1)) (hw : MdJ w') (hg : GrS rs) (F : CzQ v v1 rs) (G : MzQ w w' rs) : ZRr T ns nm ks (sw sQ v1) w' := by
  obtain ⟨F1, R1, e1, _⟩ := F
  obtain ⟨G1, g, R2, z2⟩ := G
  have S := fr_star (σ := sQ) (lS := lQs) F1 sQ_s
  have h5 : v.1 48 1 = w.1 147 24 := by
    obtain ⟨_, _, _, _, _, _, q⟩ := h.1.2.2.1
    exact q
  obtain ⟨hr, ha, _, sc, sm, ss, wt, pg⟩ := h.1
  have rc : RsC ((sw sQ v1).1, (sw sQ v1).2.1, v.2.2) rs := rsc_of R1
  refine zr_e (zr_k h ⟨hr_f hr S G1 (by decide +kernel) (by decide +kernel), hac_f ha S G1 (by decide +kernel) (by decide +kernel), ⟨g, rs, rc, hg, R2, fun r hr => ?_, ?_⟩, svc_star hu hv, svm_mj hw, ssr_f ss S G1 (by decide +kernel) (by decide +kernel), wtr_f wt S G1 (by decide +kernel) (by decide +kernel), pgq_f pg S G1 (by decide +kernel) (by decide +kernel)⟩ (bnd_e hu.1 rfl) hw.1.1 S G1 (by decide +kernel) (by decide +kernel)) hu
  · have c := R1.2.2.2 r _ (List.getElem?_eq_getElem hr)
    have z := z2 r hr
    show v1.1 100 r = w'.1 160 r ∧ v1.1 101 r = w'.1 161 r ∧ v1.1 102 r = w'.1 162 r
    rw [z.1, z.2.1, z.2.2]
    exact ⟨c.1, c.2.1, c.2.2.1⟩
  · show v1.1 99 1 = w'.1 147 24
    rw [e1, (G1 147 24 (by decide +kernel)).1]
    exact h5
