/-! a call of the law on both sides: the tapes and the text of the plant -/
theorem ev_det {d μ pc : Nat} {L : Lo} {S : List Value} {w : MW} {r1 r2 : Option Value × MW} (h1 : Ev d μ pc L S w r1) (h2 : Ev d μ pc L S w r2) : r1 = r2 := by
  obtain ⟨f, hf⟩ := h1
  obtain ⟨g, hg⟩ := h2
  have a := mi_le hf (Nat.le_max_left f g)
  have b := mi_le hg (Nat.le_max_right f g)
  rw [a] at b
  exact Option.some.inj b
theorem ri_and {d μ : Nat} {as : List Value} {w : MW} {Q Q' : Int32 → MW → Prop} (h : Tc d μ as w (RI Q)) (h' : Tc d μ as w (RI Q')) : Tc d μ as w (RI fun r w' => Q r w' ∧ Q' r w') := by
  obtain ⟨v, w1, e, r, er, q⟩ := h
  obtain ⟨v', w1', e', r', er', q'⟩ := h'
  have ee := ev_det e e'
  have e1 : v = v' := congrArg Prod.fst ee
  have e2 : w1 = w1' := congrArg Prod.snd ee
  refine ⟨v, w1, e, r, er, q, ?_⟩
  have e3 : r = r' := by
    rw [e1, er'] at er
    injection er with k
    injection k with k
    exact k.symm
  rw [e2, e3]
  exact q'
/-- the class's text of the plant is that of the reference's plant -/
def WRT (w : MW) : Prop := ∃ ls, GL ls ∧ WT w (w.1 0 12) (txt ls) ∧ PWs w ls
def LKw (w : MW) : Prop := LK w ∧ TPy w ∧ WRT w
theorem wrt_of {l l' : Pl} {w w1 w2 : MW} (hw : WRT w) (f : FX l w w1) (m : FR l' w1 w2) (hl : off l [(0, some 12), (123, none), (127, some 4), (127, some 11), (163, none), (164, none), (169, none), (170, none), (171, none)] = true) (hl' : off l' [(0, some 12), (123, none), (127, some 4), (127, some 11), (163, none), (164, none), (169, none), (170, none), (171, none)] = true) : WRT w2 := by
  have g : ∀ k j, hit [(0, some 12), (123, none), (127, some 4), (127, some 11), (163, none), (164, none), (169, none), (170, none), (171, none)] k j = true → sP k = k → sQ k = k → sN k = k → w2.1 k j = w.1 k j := fun k j hk s1 s2 s3 => ((m k j (off_hit hl' hk)).1).trans (f k j s1 s2 s3 (off_hit hl hk)).1
  obtain ⟨ls, h1, h2, h3⟩ := hw
  refine ⟨ls, h1, ⟨?_, fun j c q => ?_⟩, ?_, ?_, fun t y e => ?_, fun p y e => ?_⟩
  · rw [g 0 12 rfl rfl rfl rfl]
    exact h2.1
  · rw [g 123 j rfl rfl rfl rfl]
    exact h2.2 j c q
  · rw [g 127 4 rfl rfl rfl rfl]
    exact h3.1
  · rw [g 127 11 rfl rfl rfl rfl]
    exact h3.2.1
  · rw [g 163 t rfl rfl rfl rfl, g 164 t rfl rfl rfl rfl]
    exact h3.2.2.1 t y e
  · rw [g 169 p rfl rfl rfl rfl, g 170 (2 * p) rfl rfl rfl rfl, g 170 (2 * p + 1) rfl rfl rfl rfl, g 171 (2 * p) rfl rfl rfl rfl, g 171 (2 * p + 1) rfl rfl rfl rfl]
    exact h3.2.2.2 p y e
theorem tpy_of {l l' : Pl} {w w1 w2 : MW} (hy : TPy w) (f : FX l w w1) (m : FR l' w1 w2) (hl : off l [(1, some 1), (2, none), (128, none)] = true) (hl' : off l' [(1, some 1), (2, none), (128, none)] = true) : TPy w2 := by
  have g : ∀ k j, hit [(1, some 1), (2, none), (128, none)] k j = true → sP k = k → sQ k = k → sN k = k → w2.1 k j = w.1 k j := fun k j hk s1 s2 s3 => ((m k j (off_hit hl' hk)).1).trans (f k j s1 s2 s3 (off_hit hl hk)).1
  unfold TPy
  rw [g 1 1 rfl rfl rfl rfl]
  refine ⟨hy.1, fun i hi => ?_⟩
  rw [g 128 i rfl rfl rfl rfl, g 2 (i / 4) rfl rfl rfl rfl]
  exact hy.2 i hi
theorem tw_of {l l' : Pl} {w w1 w2 : MW} (hy : TPy w) (hw : WRT w) (f : FX l w w1) (m : FR l' w1 w2) (hl : off l [(1, some 1), (2, none), (128, none), (0, some 12), (123, none), (127, some 4), (127, some 11), (163, none), (164, none), (169, none), (170, none), (171, none)] = true) (hl' : off l' [(1, some 1), (2, none), (128, none), (0, some 12), (123, none), (127, some 4), (127, some 11), (163, none), (164, none), (169, none), (170, none), (171, none)] = true) : TPy w2 ∧ WRT w2 :=
  ⟨tpy_of hy f m (off_mono hl (by decide)) (off_mono hl' (by decide)), wrt_of hw f m (off_mono hl (by decide)) (off_mono hl' (by decide))⟩
theorem s3c (a b c : Bool) (w : MW) : (S3 a b c w).1 0 = w.1 0 ∧ (S3 a b c w).1 1 = w.1 1 ∧ (S3 a b c w).1 2 = w.1 2 ∧ (S3 a b c w).1 123 = w.1 123 := ⟨(S3_at rfl rfl rfl).1, (S3_at rfl rfl rfl).1, (S3_at rfl rfl rfl).1, (S3_at rfl rfl rfl).1⟩
theorem ec_raw {x y z : Bool} {w w1 : MW} {a b r : Int32} (h : EC (S3 x y z w) a b r (S3 x y z w1)) : EC w a b r w1 := by
  have s := s3c x y z w
  have t := s3c x y z w1
  unfold EC CTx sameT WT at *
  simp only [s.1, s.2.1, s.2.2.1, s.2.2.2, t.1, t.2.2.2] at h
  exact h
/-- good texts are the same on both sides -/
theorem tx_bt {w w1 : MW} {n : Int} (hy : TPy w) (hn : n ≤ (w.1 1 1).toInt) (e128 : ∀ j, w1.1 128 j = w.1 128 j) (p : Int) (p0 : 0 ≤ p) (p1 : p < n) : MTx w1 n p = if CTx w n p < 128 then CTx w n p else CTx w n p - 256 := by
  have ec : CTx w n p = (cby (w.1 2 (p.toNat / 4)) (p.toNat % 4)).toInt := by
    unfold CTx
    exact if_pos ⟨p0, p1⟩
  have em : MTx w1 n p = (w1.1 128 p.toNat).toInt := by
    unfold MTx
    exact if_pos ⟨p0, p1⟩
  rw [ec, em, e128, hy.2 p.toNat (by omega), byt_c]
theorem tx_iff {w w1 : MW} {n : Int} (hy : TPy w) (hn : n ≤ (w.1 1 1).toInt) (e128 : ∀ j, w1.1 128 j = w.1 128 j) : txO (CTx w n) n ↔ txO (MTx w1 n) n := by
  have b : ∀ p, 0 ≤ p → p < n → 0 ≤ CTx w n p ∧ CTx w n p ≤ 255 := fun p p0 p1 => by
    unfold CTx
    rw [if_pos ⟨p0, p1⟩]
    exact cby_b _ _
  constructor
  · intro h p p0 p1
    have k := h p p0 p1
    rw [tx_bt hy hn e128 p p0 p1, if_pos (by omega)]
    exact k
  · intro h p p0 p1
    have k := h p p0 p1
    have bb := b p p0 p1
    rw [tx_bt hy hn e128 p p0 p1] at k
    by_cases c : CTx w n p < 128
    · rw [if_pos c] at k
      exact k
    · rw [if_neg c] at k
      omega
theorem tx_ag {w w1 : MW} {n : Int} (hy : TPy w) (hn : n ≤ (w.1 1 1).toInt) (e128 : ∀ j, w1.1 128 j = w.1 128 j) (ok : txO (CTx w n) n) : AgF (CTx w n) (MTx w1 n) := by
  intro p
  by_cases c : 0 ≤ p ∧ p < n
  · left
    have k := ok p c.1 c.2
    rw [tx_bt hy hn e128 p c.1 c.2, if_pos (by omega)]
  · right
    unfold CTx MTx
    rw [if_neg c, if_neg c]
    exact ⟨rfl, rfl⟩
/-- both ends, the plant's text -/
theorem end_wrt {w w1 w2 : MW} {a b r r' : Int32} {l l' : Pl} (hy : TPy w) (r1 : w.1 1 1 = w.1 127 1) (hw : WRT w) (f : FX l w w1) (m : FR l' w1 w2) (hl : off l [(128, none), (127, some 1), (127, some 4), (127, some 11), (163, none), (164, none), (169, none), (170, none), (171, none)] = true) (hl' : off l' [(0, some 12), (123, none)] = true) (ec : EC w a b r w1) (em : EM w1 a b r' w2) : WRT w2 := by
  have e128 : ∀ j, w1.1 128 j = w.1 128 j := fun j => (f 128 j rfl rfl rfl (off_hit hl rfl)).1
  have e1 : w1.1 127 1 = w.1 1 1 := ((f 127 1 rfl rfl rfl (off_hit hl rfl)).1).trans r1.symm
  obtain ⟨ls, g, t, p⟩ := hw
  have p1 : PWs w1 ls := by
    have q : ∀ k j, hit [(128, none), (127, some 1), (127, some 4), (127, some 11), (163, none), (164, none), (169, none), (170, none), (171, none)] k j = true → sP k = k → sQ k = k → sN k = k → w1.1 k j = w.1 k j := fun k j hk s1 s2 s3 => (f k j s1 s2 s3 (off_hit hl hk)).1
    refine ⟨by rw [q 127 4 rfl rfl rfl rfl]; exact p.1, by rw [q 127 11 rfl rfl rfl rfl]; exact p.2.1, fun t y e => ?_, fun p' y e => ?_⟩
    · rw [q 163 t rfl rfl rfl rfl, q 164 t rfl rfl rfl rfl]
      exact p.2.2.1 t y e
    · rw [q 169 p' rfl rfl rfl rfl, q 170 (2 * p') rfl rfl rfl rfl, q 170 (2 * p' + 1) rfl rfl rfl rfl, q 171 (2 * p') rfl rfl rfl rfl, q 171 (2 * p' + 1) rfl rfl rfl rfl]
      exact p.2.2.2 p' y e
  have c2 : ∀ L, WT w1 (w1.1 0 12) L → WT w2 (w2.1 0 12) L := fun L h => by
    refine ⟨?_, fun j c q => ?_⟩
    · rw [(m 0 12 (off_hit hl' rfl)).1]
      exact h.1
    · rw [(m 123 j (off_hit hl' rfl)).1]
      exact h.2 j c q
  have c1 : sameT w w1 → WT w1 (w1.1 0 12) (txt ls) := fun s => by
    refine ⟨?_, fun j c q => ?_⟩
    · rw [s.1]
      exact t.1
    · rw [s.2]
      exact t.2 j c q
  have old : sameT w w1 → sameP w1 w2 → WRT w2 := fun s q => ⟨ls, g, c2 _ (c1 s), q ls p1⟩
  unfold EM at em
  rw [e1] at em
  by_cases ft : fitE (w.1 1 1).toInt a b
  · have iff := tx_iff (w := w) (w1 := w1) (n := b.toInt) hy ft.2.2.2.2 e128
    by_cases ok : txO (CTx w b.toInt) b.toInt
    · have okm := iff.mp ok
      have ag := tx_ag hy ft.2.2.2.2 e128 ok
      rcases ec with ⟨n, _⟩ | ⟨_, a0, s⟩ | ⟨_, a0, q, L, ⟨k, hk⟩, ec⟩
      · exact absurd ⟨ft, ok⟩ n
      · rcases em with ⟨n, _⟩ | ⟨_, _, s'⟩ | ⟨_, a0', _⟩
        · exact absurd ⟨ft, okm⟩ n
        · exact old s s'
        · exact absurd a0' a0
      · rcases em with ⟨n, _⟩ | ⟨_, a0', _⟩ | ⟨_, _, q', L', ⟨k', hk'⟩, em⟩
        · exact absurd ⟨ft, okm⟩ n
        · exact absurd a0 a0'
        · have d := plr_det k k' 0 [] _ _ _ _ (plr_ag ag k 0 [] _ _ hk) hk'
          rcases ec with ⟨q0, _, s⟩ | ⟨q0, _, s⟩
          · rcases em with ⟨_, _, s'⟩ | ⟨q0', _⟩
            · exact old s s'
            · have := d.1
              omega
          · rcases em with ⟨q0', _⟩ | ⟨_, _, s'⟩
            · have := d.1
              omega
            · refine ⟨L, plr_gl k 0 [] _ _ hk gl_nil, c2 _ s, ?_⟩
              rw [d.2]
              exact s'.1
    · have nom : ¬ txO (MTx w1 b.toInt) b.toInt := fun z => ok (iff.mpr z)
      rcases ec with ⟨_, _, s⟩ | ⟨z, _⟩ | ⟨z, _⟩
      · rcases em with ⟨_, _, s'⟩ | ⟨z, _⟩ | ⟨z, _⟩
        · exact old s s'
        · exact absurd z.2 nom
        · exact absurd z.2 nom
      · exact absurd z.2 ok
      · exact absurd z.2 ok
  · rcases ec with ⟨_, _, s⟩ | ⟨z, _⟩ | ⟨z, _⟩
    · rcases em with ⟨_, _, s'⟩ | ⟨z, _⟩ | ⟨z, _⟩
      · exact old s s'
      · exact absurd z.1 ft
      · exact absurd z.1 ft
    · exact absurd z.1 ft
    · exact absurd z.1 ft
theorem tpy_0 {w : MW} (h : w.1 1 1 = 0) : TPy w := by
  unfold TPy
  rw [h, i_0]
  exact ⟨rfl, fun i hi => by omega⟩
theorem feed_tpy {x y z : Bool} {w w1 w2 : MW} {a b c d g r r' : Int32} (hy : TPy w) (r1 : w.1 1 1 = w.1 127 1) (n0 : 0 ≤ (w.1 1 1).toInt) (f : FX l_Bh_feed w w1) (m : FR l_Mo_feed w1 w2) (k1 : FdV (w1.1 127 1) (w1.1 1 1) r) (k2 : FdV (w1.1 127 1) (w2.1 127 1) r') (k3 : ((S3 x y z w).1 1 1).toInt ≤ 4000 → FdC (S3 x y z w) (S3 x y z w1) a b c d g) (k4 : 4000 < ((S3 x y z w).1 1 1).toInt → S3 x y z w1 = S3 x y z w) (k5 : (w1.1 127 1).toInt ≤ 4000 → FdM w1 w2 a b c d g) (k6 : 4000 < (w1.1 127 1).toInt → w2 = w1) : TPy w2 := by
  have s := s3c x y z w
  have t := s3c x y z w1
  have e1 : w1.1 127 1 = w.1 1 1 := ((f 127 1 rfl rfl rfl rfl).1).trans r1.symm
  rw [e1] at k1 k5 k6
  rw [s.2.1] at k3 k4
  by_cases q : (w.1 1 1).toInt ≤ 4000
  · have c1 := k3 q
    have c2 := k5 q
    have d1 : FdC w w1 a b c d g := by
      unfold FdC at *
      rw [s.2.1, s.2.2.1, t.2.2.1] at c1
      exact c1
    have d2 : FdM w w2 a b c d g := by
      unfold FdM at *
      intro j
      have := c2 j
      rw [(f 127 1 rfl rfl rfl rfl).1, (f 128 j rfl rfl rfl rfl).1] at this
      exact this
    refine tp_feed hy r1 ?_ ?_ d1 (funext fun j => (m 2 j rfl).1) d2
    · rw [(m 1 1 rfl).1]
      rcases k1 with k | k
      · exact k.2.1
      · omega
    · exact n0
  · have q2 : 4000 < (w.1 1 1).toInt := by omega
    have c1 := k4 q2
    have c2 := k6 q2
    have e : w1 = w := by
      have := congrArg (S3 x y z) c1
      rw [S3_iv, S3_iv] at this
      exact this
    rw [c2, e]
    exact hy
theorem pw_feed {w : MW} {a : Int32} {b : Int32} {c : Int32} {d : Int32} {g : Int32} (h : LKw w) : Tc 2000 0 [.ref 0, .int a, .int b, .int c, .int d, .int g] w (RI fun r w1 => Tc 2000 36 [.ref 127, .int a, .int b, .int c, .int d, .int g] w1 (RI fun r' w2 => LKw w2 ∧ r = r')) := by
  obtain ⟨⟨⟨⟨x, y, z, hc⟩, hM⟩, r1, r2, hm⟩, hy, hw⟩ := h
  refine tc_mono (tc_3 (a := x) (b := y) (c := z) (w := w) rfl rfl rfl ri_n (dm_Bh_feed (d := 1999) (w := S3 x y z w) (Q := fun r w' => CIs w' ∧ FR l_Bh_feed (S3 x y z w) w' ∧ FdV ((S3 x y z w).1 1 1) (w'.1 1 1) r ∧ (((S3 x y z w).1 1 1).toInt ≤ 4000 → FdC (S3 x y z w) w' a b c d g) ∧ (4000 < ((S3 x y z w).1 1 1).toInt → w' = S3 x y z w)) (cy_feed hc (by rw [(s3c x y z w).2.1]; exact hy.1) (fun r w' h' hF kk k3 k4 => ⟨Or.inl h', hF, kk, k3, k4⟩)))) (fun v w1 hv => ?_)
  obtain ⟨r, e, q1, q2, k1, k3, k4⟩ := hv
  have l1 : LI w1 := li_cls hM q1 q2 rfl
  have f1 := fx_of q2
  rw [(S3_at rfl rfl rfl).1, (S3_at rfl rfl rfl).1, r1, ← (f1 127 1 rfl rfl rfl rfl).1] at k1
  refine ⟨r, e, ?_⟩
  refine tc_mono (dm_Mo_feed (d := 2000) (w := w1) (Q := fun r' w2 => MdJ w2 ∧ FR l_Mo_feed w1 w2 ∧ FdV (w1.1 127 1) (w2.1 127 1) r' ∧ ((w1.1 127 1).toInt ≤ 4000 → FdM w1 w2 a b c d g) ∧ (4000 < (w1.1 127 1).toInt → w2 = w1)) (my_feed l1.2 (fun r' w2 h2 hF kk k5 k6 => ⟨h2, hF, kk, k5, k6⟩))) (fun v2 w2 hv2 => ?_)
  obtain ⟨r', e', m1, m2, k2, k5, k6⟩ := hv2
  have ty : TPy w2 := feed_tpy hy r1 (bd_1_1 (bnd_S3 hc.1)).1 f1 m2 k1 k2 k3 k4 k5 k6
  exact ⟨r', e', ⟨⟨li_ref l1.1 m1 m2 rfl, ⟨(((m2 1 1 rfl).1).trans (fd_eq k1 k2).1), (((m2 7 1 rfl).1).trans (f1 7 1 rfl rfl rfl rfl).1).trans (r2.trans (((m2 127 78 rfl).1).trans (f1 127 78 rfl rfl rfl rfl).1).symm), mm_of hm f1 m2 rfl rfl⟩⟩, ⟨ty, wrt_of hw f1 m2 rfl rfl⟩⟩, (fd_eq k1 k2).2⟩
set_option maxRecDepth 20000 in
theorem pw_end {w : MW} {a : Int32} {b : Int32} (h : LKw w) : Tc 2000 1 [.ref 0, .int a, .int b] w (RI fun r w1 => Tc 2000 37 [.ref 127, .int a, .int b] w1 (RI fun r' w2 => LKw w2 ∧ True)) := by
  obtain ⟨⟨⟨⟨x, y, z, hc⟩, hM⟩, r1, r2, hm⟩, hy, hw⟩ := h
  refine tc_mono (tc_3 (a := x) (b := y) (c := z) (w := w) rfl rfl rfl ri_n (ri_and (dm_Bh_end (d := 1195) (w := S3 x y z w) (Q := fun r w' => EC (S3 x y z w) a b r w') (cx_end hc (fun r w' q => q))) (dm_Bh_end (d := 1195) (w := S3 x y z w) (Q := fun r w' => CIs w' ∧ FR ((1, some 1) :: lBE) (S3 x y z w) w' ∧ w'.1 1 1 = 0) (ci_end hc (fun r w' h' hF => ⟨h', FR.tr (FR.I (FR.refl _ _) rfl : FR ((1, some 1) :: lBE) (S3 x y z w) (sI (S3 x y z w) 1 1 0)) hF rfl, ((hF 1 1 rfl).1).trans (sI_same _ _ _ _)⟩)))))  (fun v w1 hv => ?_)
  obtain ⟨r, e, ec, q1, q2, k1⟩ := hv
  have ec := ec_raw ec
  have l1 : LI w1 := li_cls hM q1 q2 rfl
  have f1 := fx_of q2
  rw [(S3_at rfl rfl rfl).1] at k1
  refine ⟨r, e, ?_⟩
  refine tc_mono (ri_and (dm_Mo_end (d := 1192) (w := w1) (Q := fun r' w2 => EM w1 a b r' w2) (mx_end l1.2 (fun r' w2 q => q))) (dm_Mo_end (d := 1192) (w := w1) (Q := fun r' w2 => MdJ w2 ∧ FR ((127, some 1) :: lme) w1 w2 ∧ w2.1 127 1 = 0) (mf_end l1.2 (fun r' w2 h2 hF => ⟨h2, FR.tr (FR.I (FR.refl _ _) rfl : FR ((127, some 1) :: lme) w1 (sI w1 127 1 0)) hF rfl, ((hF 127 1 rfl).1).trans (sI_same _ _ _ _)⟩))))  (fun v2 w2 hv2 => ?_)
  obtain ⟨r', e', em, m1, m2, k2⟩ := hv2
  exact ⟨r', e', ⟨⟨li_ref l1.1 m1 m2 rfl, ⟨((m2 1 1 rfl).1).trans (k1.trans k2.symm), (((m2 7 1 rfl).1).trans (f1 7 1 rfl rfl rfl rfl).1).trans (r2.trans (((m2 127 78 rfl).1).trans (f1 127 78 rfl rfl rfl rfl).1).symm), mm_of hm f1 m2 rfl rfl⟩⟩, ⟨tpy_0 (((m2 1 1 rfl).1).trans k1), end_wrt hy r1 hw f1 m2 rfl rfl ec em⟩⟩, trivial⟩
theorem pw_fill {w : MW} {a : Int32} {b : Int32} {c : Int64} (h : LKw w) : Tc 2000 5 [.ref 0, .int a, .int b, .long c] w (RZ fun r w1 => Tc 2000 84 [.ref 127, .int a, .int b, .long c] w1 (RZ fun r' w2 => LKw w2 ∧ True)) := by
  obtain ⟨⟨⟨⟨x, y, z, hc⟩, hM⟩, r1, r2, hm⟩, hy, hw⟩ := h
  refine tc_mono (tc_3 (a := x) (b := y) (c := z) (w := w) rfl rfl rfl rz_n (dm_Bh_fill (d := 1996) (w := S3 x y z w) (Q := fun r w' => CIs w' ∧ FR l_Bh_fill (S3 x y z w) w') (ci_fill hc (fun r w' h' hF => ⟨Or.inl h', hF⟩)))) (fun v w1 hv => ?_)
  obtain ⟨r, e, zz, q1, q2⟩ := hv
  have l1 : LI w1 := li_cls hM q1 q2 rfl
  have f1 := fx_of q2
  refine ⟨r, e, zz, ?_⟩
  refine tc_mono (dm_Mo_fill (d := 1996) (w := w1) (Q := fun r' w2 => MdJ w2 ∧ FR l_Mo_fill w1 w2) (mf_fill l1.2 (fun r' w2 h2 hF => ⟨h2, hF⟩))) (fun v2 w2 hv2 => ?_)
  obtain ⟨r', e', zz2, m1, m2⟩ := hv2
  exact ⟨r', e', zz2, ⟨⟨li_ref l1.1 m1 m2 rfl, lk_of r1 r2 hm f1 m2 rfl rfl⟩, tw_of hy hw f1 m2 rfl rfl⟩, trivial⟩
theorem pw_may {w : MW} {a : Int32} {b : Int32} (h : LKw w) : Tc 2000 7 [.ref 0, .int a, .int b] w (RZ fun r w1 => Tc 2000 85 [.ref 127, .int a, .int b] w1 (RZ fun r' w2 => LKw w2 ∧ r = r')) := by
  obtain ⟨⟨⟨⟨x, y, z, hc⟩, hM⟩, r1, r2, hm⟩, hy, hw⟩ := h
  refine tc_mono (tc_3 (a := x) (b := y) (c := z) (w := w) rfl rfl rfl rz_n (dm_Bh_may (d := 1999) (w := S3 x y z w) (Q := fun r w' => CIs w' ∧ FR l_Bh_may (S3 x y z w) w' ∧ VL (CMy (S3 x y z w) a b) r ∧ ((¬ CMy (S3 x y z w) a b ∧ w' = S3 x y z w) ∨ (CMy (S3 x y z w) a b ∧ MyC (S3 x y z w) w' a b))) (cv_may hc (fun r w' h' hF kk kb => ⟨Or.inl h', hF, kk, kb⟩)))) (fun v w1 hv => ?_)
  obtain ⟨r, e, zz, q1, q2, k1, k1b⟩ := hv
  have l1 : LI w1 := li_cls hM q1 q2 rfl
  have f1 := fx_of q2
  have s22 : (S3 x y z w).1 22 = w.1 22 := (S3_at rfl rfl rfl).1
  have s22b : (S3 x y z w1).1 22 = w1.1 22 := (S3_at rfl rfl rfl).1
  have cE : CMy (S3 x y z w) a b = CMy w a b := by unfold CMy; rw [s22]
  have mE : MyC (S3 x y z w) (S3 x y z w1) a b = MyC w w1 a b := by unfold MyC; rw [s22, s22b]
  rw [cE] at k1
  rw [cE, mE] at k1b
  have e175 : w1.1 175 = w.1 175 := funext (fun j => (f1 175 j rfl rfl rfl rfl).1)
  have dE : CMm w1 a b = CMm w a b := by unfold CMm; rw [e175]
  have nE : ∀ w2, MyM w1 w2 a b = MyM w w2 a b := fun w2 => by unfold MyM; rw [e175]
  have h1 : (¬ CMy w a b ∧ w1.1 22 = w.1 22) ∨ (CMy w a b ∧ MyC w w1 a b) := by
    rcases k1b with ⟨n1, e⟩ | q
    · refine Or.inl ⟨n1, ?_⟩
      rw [← s22, ← s22b, e]
    · exact Or.inr q
  refine ⟨r, e, zz, ?_⟩
  refine tc_mono (dm_Mo_may (d := 2000) (w := w1) (Q := fun r' w2 => MdJ w2 ∧ FR l_Mo_may w1 w2 ∧ VL (CMm w1 a b) r' ∧ ((¬ CMm w1 a b ∧ w2 = w1) ∨ (CMm w1 a b ∧ MyM w1 w2 a b))) (mv_may l1.2 (fun r' w2 h2 hF kk kb => ⟨h2, hF, kk, kb⟩))) (fun v2 w2 hv2 => ?_)
  obtain ⟨r', e', zz2, m1, m2, k2, k2b⟩ := hv2
  rw [dE] at k2
  rw [dE, nE] at k2b
  have h2 : (¬ CMm w a b ∧ w2.1 175 = w.1 175) ∨ (CMm w a b ∧ MyM w w2 a b) := by
    rcases k2b with ⟨n1, e⟩ | q
    · refine Or.inl ⟨n1, ?_⟩
      rw [e, e175]
    · exact Or.inr q
  exact ⟨r', e', zz2, ⟨⟨li_ref l1.1 m1 m2 rfl, ⟨(((m2 1 1 rfl).1).trans (f1 1 1 rfl rfl rfl rfl).1).trans (r1.trans (((m2 127 1 rfl).1).trans (f1 127 1 rfl rfl rfl rfl).1).symm), (((m2 7 1 rfl).1).trans (f1 7 1 rfl rfl rfl rfl).1).trans (r2.trans (((m2 127 78 rfl).1).trans (f1 127 78 rfl rfl rfl rfl).1).symm), mm_pair hm h1 h2 (funext (fun j => (m2 22 j rfl).1))⟩⟩, tw_of hy hw f1 m2 rfl rfl⟩, vl_eq k1 (by rw [propext (cm_iff hm a b)]; exact k2)⟩
theorem pw_need {w : MW} {a : Int32} {b : Int32} {c : Int32} (h : LKw w) : Tc 2000 8 [.ref 0, .int a, .int b, .int c] w (RZ fun r w1 => Tc 2000 86 [.ref 127, .int a, .int b, .int c] w1 (RZ fun r' w2 => LKw w2 ∧ r = r')) := by
  obtain ⟨⟨⟨⟨x, y, z, hc⟩, hM⟩, r1, r2, hm⟩, hy, hw⟩ := h
  refine tc_mono (tc_3 (a := x) (b := y) (c := z) (w := w) rfl rfl rfl rz_n (dm_Bh_need (d := 1999) (w := S3 x y z w) (Q := fun r w' => CIs w' ∧ FR l_Bh_need (S3 x y z w) w' ∧ VL (CN a b c) r) (cv_need hc (fun r w' h' hF kk => ⟨Or.inl h', hF, kk⟩)))) (fun v w1 hv => ?_)
  obtain ⟨r, e, zz, q1, q2, k1⟩ := hv
  have l1 : LI w1 := li_cls hM q1 q2 rfl
  have f1 := fx_of q2
  refine ⟨r, e, zz, ?_⟩
  refine tc_mono (dm_Mo_need (d := 2000) (w := w1) (Q := fun r' w2 => MdJ w2 ∧ FR l_Mo_need w1 w2 ∧ VL (CN a b c) r') (mv_need l1.2 (fun r' w2 h2 hF kk => ⟨h2, hF, kk⟩))) (fun v2 w2 hv2 => ?_)
  obtain ⟨r', e', zz2, m1, m2, k2⟩ := hv2
  exact ⟨r', e', zz2, ⟨⟨li_ref l1.1 m1 m2 rfl, lk_of r1 r2 hm f1 m2 rfl rfl⟩, tw_of hy hw f1 m2 rfl rfl⟩, vl_eq k1 k2⟩
theorem pw_lasts {w : MW} {a : Int32} {b : Int32} (h : LKw w) : Tc 2000 9 [.ref 0, .int a, .int b] w (RZ fun r w1 => Tc 2000 87 [.ref 127, .int a, .int b] w1 (RZ fun r' w2 => LKw w2 ∧ r = r')) := by
  obtain ⟨⟨⟨⟨x, y, z, hc⟩, hM⟩, r1, r2, hm⟩, hy, hw⟩ := h
  refine tc_mono (tc_3 (a := x) (b := y) (c := z) (w := w) rfl rfl rfl rz_n (dm_Bh_lasts (d := 2000) (w := S3 x y z w) (Q := fun r w' => CIs w' ∧ FR l_Bh_lasts (S3 x y z w) w' ∧ VL (CLs a b) r) (cv_lasts hc (fun r w' h' hF kk => ⟨Or.inl h', hF, kk⟩)))) (fun v w1 hv => ?_)
  obtain ⟨r, e, zz, q1, q2, k1⟩ := hv
  have l1 : LI w1 := li_cls hM q1 q2 rfl
  have f1 := fx_of q2
  refine ⟨r, e, zz, ?_⟩
  refine tc_mono (dm_Mo_lasts (d := 2000) (w := w1) (Q := fun r' w2 => MdJ w2 ∧ FR l_Mo_lasts w1 w2 ∧ VL (CLs a b) r') (mv_lasts l1.2 (fun r' w2 h2 hF kk => ⟨h2, hF, kk⟩))) (fun v2 w2 hv2 => ?_)
  obtain ⟨r', e', zz2, m1, m2, k2⟩ := hv2
  exact ⟨r', e', zz2, ⟨⟨li_ref l1.1 m1 m2 rfl, lk_of r1 r2 hm f1 m2 rfl rfl⟩, tw_of hy hw f1 m2 rfl rfl⟩, vl_eq k1 k2⟩
theorem pw_sense {w : MW} {a : Int32} {b : Int32} {c : Int32} (h : LKw w) : Tc 2000 10 [.ref 0, .int a, .int b, .int c] w (RZ fun r w1 => Tc 2000 93 [.ref 127, .int a, .int b, .int c] w1 (RZ fun r' w2 => LKw w2 ∧ True)) := by
  obtain ⟨⟨⟨⟨x, y, z, hc⟩, hM⟩, r1, r2, hm⟩, hy, hw⟩ := h
  refine tc_mono (tc_3 (a := x) (b := y) (c := z) (w := w) rfl rfl rfl rz_n (dm_Bh_sense (d := 1999) (w := S3 x y z w) (Q := fun r w' => CIs w' ∧ FR l_Bh_sense (S3 x y z w) w') (ci_sense hc (fun r w' h' hF => ⟨Or.inl h', hF⟩)))) (fun v w1 hv => ?_)
  obtain ⟨r, e, zz, q1, q2⟩ := hv
  have l1 : LI w1 := li_cls hM q1 q2 rfl
  have f1 := fx_of q2
  refine ⟨r, e, zz, ?_⟩
  refine tc_mono (dm_Mo_sense (d := 1999) (w := w1) (Q := fun r' w2 => MdJ w2 ∧ FR l_Mo_sense w1 w2) (mf_sense l1.2 (fun r' w2 h2 hF => ⟨h2, hF⟩))) (fun v2 w2 hv2 => ?_)
  obtain ⟨r', e', zz2, m1, m2⟩ := hv2
  exact ⟨r', e', zz2, ⟨⟨li_ref l1.1 m1 m2 rfl, lk_of r1 r2 hm f1 m2 rfl rfl⟩, tw_of hy hw f1 m2 rfl rfl⟩, trivial⟩
theorem pw_watch {w : MW} {a : Int32} {b : Int32} {c : Int32} {d : Int64} (h : LKw w) : Tc 2000 11 [.ref 0, .int a, .int b, .int c, .long d] w (RZ fun r w1 => Tc 2000 94 [.ref 127, .int a, .int b, .int c, .long d] w1 (RZ fun r' w2 => LKw w2 ∧ r = r')) := by
  obtain ⟨⟨⟨⟨x, y, z, hc⟩, hM⟩, r1, r2, hm⟩, hy, hw⟩ := h
  refine tc_mono (tc_3 (a := x) (b := y) (c := z) (w := w) rfl rfl rfl rz_n (dm_Bh_watch (d := 2000) (w := S3 x y z w) (Q := fun r w' => CIs w' ∧ FR l_Bh_watch (S3 x y z w) w' ∧ VL (CWa a b) r) (cv_watch hc (fun r w' h' hF kk => ⟨Or.inl h', hF, kk⟩)))) (fun v w1 hv => ?_)
  obtain ⟨r, e, zz, q1, q2, k1⟩ := hv
  have l1 : LI w1 := li_cls hM q1 q2 rfl
  have f1 := fx_of q2
  refine ⟨r, e, zz, ?_⟩
  refine tc_mono (dm_Mo_watch (d := 2000) (w := w1) (Q := fun r' w2 => MdJ w2 ∧ FR l_Mo_watch w1 w2 ∧ VL (CWa a b) r') (mv_watch l1.2 (fun r' w2 h2 hF kk => ⟨h2, hF, kk⟩))) (fun v2 w2 hv2 => ?_)
  obtain ⟨r', e', zz2, m1, m2, k2⟩ := hv2
  exact ⟨r', e', zz2, ⟨⟨li_ref l1.1 m1 m2 rfl, lk_of r1 r2 hm f1 m2 rfl rfl⟩, tw_of hy hw f1 m2 rfl rfl⟩, vl_eq k1 k2⟩
theorem pw_signal {w : MW} {a : Int32} {b : Int64} (h : LKw w) : Tc 2000 12 [.ref 0, .int a, .long b] w (RZ fun r w1 => Tc 2000 95 [.ref 127, .int a, .long b] w1 (RZ fun r' w2 => LKw w2 ∧ True)) := by
  obtain ⟨⟨⟨⟨x, y, z, hc⟩, hM⟩, r1, r2, hm⟩, hy, hw⟩ := h
  refine tc_mono (tc_3 (a := x) (b := y) (c := z) (w := w) rfl rfl rfl rz_n (dm_Bh_signal (d := 1999) (w := S3 x y z w) (Q := fun r w' => CIs w' ∧ FR l_Bh_signal (S3 x y z w) w') (ci_signal hc (fun r w' h' hF => ⟨Or.inl h', hF⟩)))) (fun v w1 hv => ?_)
  obtain ⟨r, e, zz, q1, q2⟩ := hv
  have l1 : LI w1 := li_cls hM q1 q2 rfl
  have f1 := fx_of q2
  refine ⟨r, e, zz, ?_⟩
  refine tc_mono (dm_Mo_signal (d := 1999) (w := w1) (Q := fun r' w2 => MdJ w2 ∧ FR l_Mo_signal w1 w2) (mf_signal l1.2 (fun r' w2 h2 hF => ⟨h2, hF⟩))) (fun v2 w2 hv2 => ?_)
  obtain ⟨r', e', zz2, m1, m2⟩ := hv2
  exact ⟨r', e', zz2, ⟨⟨li_ref l1.1 m1 m2 rfl, lk_of r1 r2 hm f1 m2 rfl rfl⟩, tw_of hy hw f1 m2 rfl rfl⟩, trivial⟩
theorem pw_bind {w : MW} {a : Int32} {b : Int32} {c : Int32} {d : Int32} {g : Int32} (h : LKw w) : Tc 2000 13 [.ref 0, .int a, .int b, .int c, .int d, .int g] w (RZ fun r w1 => Tc 2000 88 [.ref 127, .int a, .int b, .int c, .int d, .int g] w1 (RZ fun r' w2 => LKw w2 ∧ r = r')) := by
  obtain ⟨⟨⟨⟨x, y, z, hc⟩, hM⟩, r1, r2, hm⟩, hy, hw⟩ := h
  refine tc_mono (tc_3 (a := x) (b := y) (c := z) (w := w) rfl rfl rfl rz_n (dm_Bh_bind (d := 1998) (w := S3 x y z w) (Q := fun r w' => CIs w' ∧ FR l_Ac_tie (S3 x y z w) w' ∧ VL (CBi a b d g) r) (cv_bind hc (fun r w' h' hF kk => ⟨Or.inl h', hF, kk⟩)))) (fun v w1 hv => ?_)
  obtain ⟨r, e, zz, q1, q2, k1⟩ := hv
  have l1 : LI w1 := li_cls hM q1 q2 rfl
  have f1 := fx_of q2
  refine ⟨r, e, zz, ?_⟩
  refine tc_mono (dm_Mo_bind (d := 2000) (w := w1) (Q := fun r' w2 => MdJ w2 ∧ FR [(197, none), (198, none), (199, none), (200, none)] w1 w2 ∧ VL (CBi a b d g) r') (mv_bind l1.2 (fun r' w2 h2 hF kk => ⟨h2, hF, kk⟩))) (fun v2 w2 hv2 => ?_)
  obtain ⟨r', e', zz2, m1, m2, k2⟩ := hv2
  exact ⟨r', e', zz2, ⟨⟨li_ref l1.1 m1 m2 rfl, lk_of r1 r2 hm f1 m2 rfl rfl⟩, tw_of hy hw f1 m2 rfl rfl⟩, vl_eq k1 k2⟩
theorem pw_act {w : MW} {a : Int32} (h : LKw w) : Tc 2000 14 [.ref 0, .int a] w (RI fun r w1 => Tc 2000 91 [.ref 127, .int a] w1 (RI fun r' w2 => LKw w2 ∧ True)) := by
  obtain ⟨⟨⟨⟨x, y, z, hc⟩, hM⟩, r1, r2, hm⟩, hy, hw⟩ := h
  refine tc_mono (tc_3 (a := x) (b := y) (c := z) (w := w) rfl rfl rfl ri_n (dm_Bh_act (d := 1994) (w := S3 x y z w) (Q := fun r w' => CIs w' ∧ FR l_Bh_act (S3 x y z w) w') (ci_act hc (fun r w' h' hF => ⟨Or.inl h', hF⟩)))) (fun v w1 hv => ?_)
  obtain ⟨r, e, q1, q2⟩ := hv
  have l1 : LI w1 := li_cls hM q1 q2 rfl
  have f1 := fx_of q2
  refine ⟨r, e, ?_⟩
  refine tc_mono (dm_Mo_act (d := 1596) (w := w1) (Q := fun r' w2 => MdJ w2 ∧ FR l_Mo_act w1 w2) (mf_act l1.2 (fun r' w2 h2 hF => ⟨h2, hF⟩))) (fun v2 w2 hv2 => ?_)
  obtain ⟨r', e', m1, m2⟩ := hv2
  exact ⟨r', e', ⟨⟨li_ref l1.1 m1 m2 rfl, lk_of r1 r2 hm f1 m2 rfl rfl⟩, tw_of hy hw f1 m2 rfl rfl⟩, trivial⟩
theorem pw_start {w : MW}  (h : LKw w) : Tc 2000 15 [.ref 0] w (RZ fun r w1 => Tc 2000 107 [.ref 127] w1 (RZ fun r' w2 => LKw w2 ∧ True)) := by
  obtain ⟨⟨⟨⟨x, y, z, hc⟩, hM⟩, r1, r2, hm⟩, hy, hw⟩ := h
  refine tc_mono (tc_3 (a := x) (b := y) (c := z) (w := w) rfl rfl rfl rz_n (dm_Bh_start (d := 1997) (w := S3 x y z w) (Q := fun r w' => CIs w' ∧ FR l_Bh_start (S3 x y z w) w') (ci_start hc (fun r w' h' hF => ⟨Or.inl h', hF⟩)))) (fun v w1 hv => ?_)
  obtain ⟨r, e, zz, q1, q2⟩ := hv
  have l1 : LI w1 := li_cls hM q1 q2 rfl
  have f1 := fx_of q2
  refine ⟨r, e, zz, ?_⟩
  refine tc_mono (dm_Mo_start (d := 1488) (w := w1) (Q := fun r' w2 => MdJ w2 ∧ FR lst w1 w2) (mf_start l1.2 (fun r' w2 h2 hF => ⟨h2, hF⟩))) (fun v2 w2 hv2 => ?_)
  obtain ⟨r', e', zz2, m1, m2⟩ := hv2
  exact ⟨r', e', zz2, ⟨⟨li_ref l1.1 m1 m2 rfl, lk_of r1 r2 hm f1 m2 rfl rfl⟩, tw_of hy hw f1 m2 rfl rfl⟩, trivial⟩
theorem pw_tick {w : MW} {a : Int32} (h : LKw w) : Tc 2000 16 [.ref 0, .int a] w (RI fun r w1 => Tc 2000 117 [.ref 127, .int a] w1 (RI fun r' w2 => LKw w2 ∧ True)) := by
  obtain ⟨⟨⟨⟨x, y, z, hc⟩, hM⟩, r1, r2, hm⟩, hy, hw⟩ := h
  refine tc_mono (tc_3 (a := x) (b := y) (c := z) (w := w) rfl rfl rfl ri_n (dm_Bh_tick (d := 1592) (w := S3 x y z w) (Q := fun r w' => CIs w' ∧ FR l_Bh_tick (S3 x y z w) w' ∧ TkV ((S3 x y z w).1 7 1) (w'.1 7 1) a) (cv_tick hc (fun r w' h' hF kk => ⟨Or.inl h', hF, kk⟩)))) (fun v w1 hv => ?_)
  obtain ⟨r, e, q1, q2, k1⟩ := hv
  have l1 : LI w1 := li_cls hM q1 q2 rfl
  have f1 := fx_of q2
  rw [(S3_at rfl rfl rfl).1, (S3_at rfl rfl rfl).1, r2, ← (f1 127 78 rfl rfl rfl rfl).1] at k1
  refine ⟨r, e, ?_⟩
  refine tc_mono (dm_Mo_tick (d := 584) (w := w1) (Q := fun r' w2 => MdJ w2 ∧ FR ltk w1 w2 ∧ TkV (w1.1 127 78) (w2.1 127 78) a) (mv_tick l1.2 (fun r' w2 h2 hF kk => ⟨h2, hF, kk⟩))) (fun v2 w2 hv2 => ?_)
  obtain ⟨r', e', m1, m2, k2⟩ := hv2
  exact ⟨r', e', ⟨⟨li_ref l1.1 m1 m2 rfl, ⟨(((m2 1 1 rfl).1).trans (f1 1 1 rfl rfl rfl rfl).1).trans (r1.trans (((m2 127 1 rfl).1).trans (f1 127 1 rfl rfl rfl rfl).1).symm), ((m2 7 1 rfl).1).trans (tk_eq k1 k2), mm_of hm f1 m2 rfl rfl⟩⟩, tw_of hy hw f1 m2 rfl rfl⟩, trivial⟩
theorem pw_answer {w : MW} {a : Int64} (h : LKw w) : Tc 2000 19 [.ref 0, .long a] w (RZ fun r w1 => Tc 2000 119 [.ref 127, .long a] w1 (RZ fun r' w2 => LKw w2 ∧ True)) := by
  obtain ⟨⟨⟨⟨x, y, z, hc⟩, hM⟩, r1, r2, hm⟩, hy, hw⟩ := h
  refine tc_mono (tc_3 (a := x) (b := y) (c := z) (w := w) rfl rfl rfl rz_n (dm_Bh_answer (d := 1598) (w := S3 x y z w) (Q := fun r w' => CIs w' ∧ FR l_Ru_giveAnswer (S3 x y z w) w') (ci_answer hc (fun r w' h' hF => ⟨Or.inl h', hF⟩)))) (fun v w1 hv => ?_)
  obtain ⟨r, e, zz, q1, q2⟩ := hv
  have l1 : LI w1 := li_cls hM q1 q2 rfl
  have f1 := fx_of q2
  refine ⟨r, e, zz, ?_⟩
  refine tc_mono (dm_Mo_answer (d := 1488) (w := w1) (Q := fun r' w2 => MdJ w2 ∧ FR lan w1 w2) (mf_answer l1.2 (fun r' w2 h2 hF => ⟨h2, hF⟩))) (fun v2 w2 hv2 => ?_)
  obtain ⟨r', e', zz2, m1, m2⟩ := hv2
  exact ⟨r', e', zz2, ⟨⟨li_ref l1.1 m1 m2 rfl, lk_of r1 r2 hm f1 m2 rfl rfl⟩, tw_of hy hw f1 m2 rfl rfl⟩, trivial⟩
theorem pw_hold {w : MW} {a : Int32} (h : LKw w) : Tc 2000 20 [.ref 0, .int a] w (RZ fun r w1 => Tc 2000 120 [.ref 127, .int a] w1 (RZ fun r' w2 => LKw w2 ∧ True)) := by
  obtain ⟨⟨⟨⟨x, y, z, hc⟩, hM⟩, r1, r2, hm⟩, hy, hw⟩ := h
  refine tc_mono (tc_3 (a := x) (b := y) (c := z) (w := w) rfl rfl rfl rz_n (dm_Bh_hold (d := 1998) (w := S3 x y z w) (Q := fun r w' => CIs w' ∧ FR l_Bh_hold (S3 x y z w) w') (ci_hold hc (fun r w' h' hF => ⟨Or.inl h', hF⟩)))) (fun v w1 hv => ?_)
  obtain ⟨r, e, zz, q1, q2⟩ := hv
  have l1 : LI w1 := li_cls hM q1 q2 rfl
  have f1 := fx_of q2
  refine ⟨r, e, zz, ?_⟩
  refine tc_mono (dm_Mo_hold (d := 1997) (w := w1) (Q := fun r' w2 => MdJ w2 ∧ FR lhs w1 w2) (mf_hold l1.2 (fun r' w2 h2 hF => ⟨h2, hF⟩))) (fun v2 w2 hv2 => ?_)
  obtain ⟨r', e', zz2, m1, m2⟩ := hv2
  exact ⟨r', e', zz2, ⟨⟨li_ref l1.1 m1 m2 rfl, lk_of r1 r2 hm f1 m2 rfl rfl⟩, tw_of hy hw f1 m2 rfl rfl⟩, trivial⟩
theorem pw_stop {w : MW}  (h : LKw w) : Tc 2000 21 [.ref 0] w (RZ fun r w1 => Tc 2000 121 [.ref 127] w1 (RZ fun r' w2 => LKw w2 ∧ True)) := by
  obtain ⟨⟨⟨⟨x, y, z, hc⟩, hM⟩, r1, r2, hm⟩, hy, hw⟩ := h
  refine tc_mono (tc_3 (a := x) (b := y) (c := z) (w := w) rfl rfl rfl rz_n (dm_Bh_stop (d := 1998) (w := S3 x y z w) (Q := fun r w' => CIs w' ∧ FR l_Bh_stop (S3 x y z w) w') (ci_stop hc (fun r w' h' hF => ⟨Or.inl h', hF⟩)))) (fun v w1 hv => ?_)
  obtain ⟨r, e, zz, q1, q2⟩ := hv
  have l1 : LI w1 := li_cls hM q1 q2 rfl
  have f1 := fx_of q2
  refine ⟨r, e, zz, ?_⟩
  refine tc_mono (dm_Mo_stop (d := 1997) (w := w1) (Q := fun r' w2 => MdJ w2 ∧ FR lhs w1 w2) (mf_stop l1.2 (fun r' w2 h2 hF => ⟨h2, hF⟩))) (fun v2 w2 hv2 => ?_)
  obtain ⟨r', e', zz2, m1, m2⟩ := hv2
  exact ⟨r', e', zz2, ⟨⟨li_ref l1.1 m1 m2 rfl, lk_of r1 r2 hm f1 m2 rfl rfl⟩, tw_of hy hw f1 m2 rfl rfl⟩, trivial⟩
theorem pw_pass {w : MW} {a : Int32} {b : Int32} {c : Int32} {d : Int32} (h : LKw w) : Tc 2000 22 [.ref 0, .int a, .int b, .int c, .int d] w (RI fun r w1 => Tc 2000 99 [.ref 127, .int a, .int b, .int c, .int d] w1 (RI fun r' w2 => LKw w2 ∧ True)) := by
  obtain ⟨⟨⟨⟨x, y, z, hc⟩, hM⟩, r1, r2, hm⟩, hy, hw⟩ := h
  refine tc_mono (tc_3 (a := x) (b := y) (c := z) (w := w) rfl rfl rfl ri_n (dm_Bh_pass (d := 1999) (w := S3 x y z w) (Q := fun r w' => CIs w' ∧ FR l_Bh_pass (S3 x y z w) w') (ci_pass hc (fun r w' h' hF => ⟨Or.inl h', hF⟩)))) (fun v w1 hv => ?_)
  obtain ⟨r, e, q1, q2⟩ := hv
  have l1 : LI w1 := li_cls hM q1 q2 rfl
  have f1 := fx_of q2
  refine ⟨r, e, ?_⟩
  refine tc_mono (dm_Mo_pass (d := 1998) (w := w1) (Q := fun r' w2 => MdJ w2 ∧ FR l_Mr_pass w1 w2) (mf_pass l1.2 (fun r' w2 h2 hF => ⟨h2, hF⟩))) (fun v2 w2 hv2 => ?_)
  obtain ⟨r', e', m1, m2⟩ := hv2
  exact ⟨r', e', ⟨⟨li_ref l1.1 m1 m2 rfl, lk_of r1 r2 hm f1 m2 rfl rfl⟩, tw_of hy hw f1 m2 rfl rfl⟩, trivial⟩
theorem pw_reset {w : MW} {a : Int32} (h : LKw w) : Tc 2000 24 [.ref 0, .int a] w (RZ fun r w1 => Tc 2000 100 [.ref 127, .int a] w1 (RZ fun r' w2 => LKw w2 ∧ True)) := by
  obtain ⟨⟨⟨⟨x, y, z, hc⟩, hM⟩, r1, r2, hm⟩, hy, hw⟩ := h
  refine tc_mono (tc_3 (a := x) (b := y) (c := z) (w := w) rfl rfl rfl rz_n (dm_Bh_reset (d := 1999) (w := S3 x y z w) (Q := fun r w' => CIs w' ∧ FR l_Bh_reset (S3 x y z w) w') (ci_reset hc (fun r w' h' hF => ⟨Or.inl h', hF⟩)))) (fun v w1 hv => ?_)
  obtain ⟨r, e, zz, q1, q2⟩ := hv
  have l1 : LI w1 := li_cls hM q1 q2 rfl
  have f1 := fx_of q2
  refine ⟨r, e, zz, ?_⟩
  refine tc_mono (dm_Mo_reset (d := 1597) (w := w1) (Q := fun r' w2 => MdJ w2 ∧ FR l_Mr_reset w1 w2) (mf_reset l1.2 (fun r' w2 h2 hF => ⟨h2, hF⟩))) (fun v2 w2 hv2 => ?_)
  obtain ⟨r', e', zz2, m1, m2⟩ := hv2
  exact ⟨r', e', zz2, ⟨⟨li_ref l1.1 m1 m2 rfl, lk_of r1 r2 hm f1 m2 rfl rfl⟩, tw_of hy hw f1 m2 rfl rfl⟩, trivial⟩
theorem pw_bars {w : MW} {a : Int32} (h : LKw w) : Tc 2000 25 [.ref 0, .int a] w (RI fun r w1 => Tc 2000 101 [.ref 127, .int a] w1 (RI fun r' w2 => LKw w2 ∧ True)) := by
  obtain ⟨⟨⟨⟨x, y, z, hc⟩, hM⟩, r1, r2, hm⟩, hy, hw⟩ := h
  refine tc_mono (tc_3 (a := x) (b := y) (c := z) (w := w) rfl rfl rfl ri_n (dm_Bh_bars (d := 1998) (w := S3 x y z w) (Q := fun r w' => CIs w' ∧ FR l_Bh_bars (S3 x y z w) w') (ci_bars hc (fun r w' h' hF => ⟨Or.inl h', hF⟩)))) (fun v w1 hv => ?_)
  obtain ⟨r, e, q1, q2⟩ := hv
  have l1 : LI w1 := li_cls hM q1 q2 rfl
  have f1 := fx_of q2
  refine ⟨r, e, ?_⟩
  refine tc_mono (dm_Mo_bars (d := 1597) (w := w1) (Q := fun r' w2 => MdJ w2 ∧ FR l_Mr_act1 w1 w2) (mf_bars l1.2 (fun r' w2 h2 hF => ⟨h2, hF⟩))) (fun v2 w2 hv2 => ?_)
  obtain ⟨r', e', m1, m2⟩ := hv2
  exact ⟨r', e', ⟨⟨li_ref l1.1 m1 m2 rfl, lk_of r1 r2 hm f1 m2 rfl rfl⟩, tw_of hy hw f1 m2 rfl rfl⟩, trivial⟩
theorem pw_row {w : MW} {a : Int32} {b : Int32} (h : LKw w) : Tc 2000 26 [.ref 0, .int a, .int b] w (RI fun r w1 => Tc 2000 102 [.ref 127, .int a, .int b] w1 (RI fun r' w2 => LKw w2 ∧ True)) := by
  obtain ⟨⟨⟨⟨x, y, z, hc⟩, hM⟩, r1, r2, hm⟩, hy, hw⟩ := h
  refine tc_mono (tc_3 (a := x) (b := y) (c := z) (w := w) rfl rfl rfl ri_n (dm_Bh_row (d := 1999) (w := S3 x y z w) (Q := fun r w' => CIs w' ∧ FR l_Bh_row (S3 x y z w) w') (ci_row hc (fun r w' h' hF => ⟨Or.inl h', hF⟩)))) (fun v w1 hv => ?_)
  obtain ⟨r, e, q1, q2⟩ := hv
  have l1 : LI w1 := li_cls hM q1 q2 rfl
  have f1 := fx_of q2
  refine ⟨r, e, ?_⟩
  refine tc_mono (dm_Mo_row (d := 1598) (w := w1) (Q := fun r' w2 => MdJ w2 ∧ FR l_Mo_row w1 w2) (mf_row l1.2 (fun r' w2 h2 hF => ⟨h2, hF⟩))) (fun v2 w2 hv2 => ?_)
  obtain ⟨r', e', m1, m2⟩ := hv2
  exact ⟨r', e', ⟨⟨li_ref l1.1 m1 m2 rfl, lk_of r1 r2 hm f1 m2 rfl rfl⟩, tw_of hy hw f1 m2 rfl rfl⟩, trivial⟩
theorem pw_state {w : MW}  (h : LKw w) : Tc 2000 27 [.ref 0] w (RI fun r w1 => Tc 2000 122 [.ref 127] w1 (RI fun r' w2 => LKw w2 ∧ True)) := by
  obtain ⟨⟨⟨⟨x, y, z, hc⟩, hM⟩, r1, r2, hm⟩, hy, hw⟩ := h
  refine tc_mono (tc_3 (a := x) (b := y) (c := z) (w := w) rfl rfl rfl ri_n (dm_Bh_state (d := 2000) (w := S3 x y z w) (Q := fun r w' => CIs w' ∧ FR [] (S3 x y z w) w') (ci_state hc (fun r w' h' hF => ⟨Or.inl h', hF⟩)))) (fun v w1 hv => ?_)
  obtain ⟨r, e, q1, q2⟩ := hv
  have l1 : LI w1 := li_cls hM q1 q2 rfl
  have f1 := fx_of q2
  refine ⟨r, e, ?_⟩
  refine tc_mono (dm_Mo_state (d := 2000) (w := w1) (Q := fun r' w2 => MdJ w2 ∧ FR [] w1 w2) (mf_state l1.2 (fun r' w2 h2 hF => ⟨h2, hF⟩))) (fun v2 w2 hv2 => ?_)
  obtain ⟨r', e', m1, m2⟩ := hv2
  exact ⟨r', e', ⟨⟨li_ref l1.1 m1 m2 rfl, lk_of r1 r2 hm f1 m2 rfl rfl⟩, tw_of hy hw f1 m2 rfl rfl⟩, trivial⟩
theorem pw_value {w : MW} {a : Int32} (h : LKw w) : Tc 2000 28 [.ref 0, .int a] w (RJ fun r w1 => Tc 2000 96 [.ref 127, .int a] w1 (RJ fun r' w2 => LKw w2 ∧ True)) := by
  obtain ⟨⟨⟨⟨x, y, z, hc⟩, hM⟩, r1, r2, hm⟩, hy, hw⟩ := h
  refine tc_mono (tc_3 (a := x) (b := y) (c := z) (w := w) rfl rfl rfl rj_n (dm_Bh_value (d := 1999) (w := S3 x y z w) (Q := fun r w' => CIs w' ∧ FR [] (S3 x y z w) w') (ci_value hc (fun r w' h' hF => ⟨Or.inl h', hF⟩)))) (fun v w1 hv => ?_)
  obtain ⟨r, e, q1, q2⟩ := hv
  have l1 : LI w1 := li_cls hM q1 q2 rfl
  have f1 := fx_of q2
  refine ⟨r, e, ?_⟩
  refine tc_mono (dm_Mo_value (d := 1999) (w := w1) (Q := fun r' w2 => MdJ w2 ∧ FR l_Mo_value w1 w2) (mf_value l1.2 (fun r' w2 h2 hF => ⟨h2, hF⟩))) (fun v2 w2 hv2 => ?_)
  obtain ⟨r', e', m1, m2⟩ := hv2
  exact ⟨r', e', ⟨⟨li_ref l1.1 m1 m2 rfl, lk_of r1 r2 hm f1 m2 rfl rfl⟩, tw_of hy hw f1 m2 rfl rfl⟩, trivial⟩
theorem pw_still {w : MW} {a : Int32} (h : LKw w) : Tc 2000 29 [.ref 0, .int a] w (RI fun r w1 => Tc 2000 123 [.ref 127, .int a] w1 (RI fun r' w2 => LKw w2 ∧ True)) := by
  obtain ⟨⟨⟨⟨x, y, z, hc⟩, hM⟩, r1, r2, hm⟩, hy, hw⟩ := h
  refine tc_mono (tc_3 (a := x) (b := y) (c := z) (w := w) rfl rfl rfl ri_n (dm_Bh_still (d := 1598) (w := S3 x y z w) (Q := fun r w' => CIs w' ∧ FR l_Ru_seek (S3 x y z w) w') (ci_still hc (fun r w' h' hF => ⟨Or.inl h', hF⟩)))) (fun v w1 hv => ?_)
  obtain ⟨r, e, q1, q2⟩ := hv
  have l1 : LI w1 := li_cls hM q1 q2 rfl
  have f1 := fx_of q2
  refine ⟨r, e, ?_⟩
  refine tc_mono (dm_Mo_still (d := 1488) (w := w1) (Q := fun r' w2 => MdJ w2 ∧ FR lsa w1 w2) (mf_still l1.2 (fun r' w2 h2 hF => ⟨h2, hF⟩))) (fun v2 w2 hv2 => ?_)
  obtain ⟨r', e', m1, m2⟩ := hv2
  exact ⟨r', e', ⟨⟨li_ref l1.1 m1 m2 rfl, lk_of r1 r2 hm f1 m2 rfl rfl⟩, tw_of hy hw f1 m2 rfl rfl⟩, trivial⟩
theorem pw_alarm {w : MW} {a : Int32} {b : Int32} (h : LKw w) : Tc 2000 30 [.ref 0, .int a, .int b] w (RI fun r w1 => Tc 2000 124 [.ref 127, .int a, .int b] w1 (RI fun r' w2 => LKw w2 ∧ True)) := by
  obtain ⟨⟨⟨⟨x, y, z, hc⟩, hM⟩, r1, r2, hm⟩, hy, hw⟩ := h
  refine tc_mono (tc_3 (a := x) (b := y) (c := z) (w := w) rfl rfl rfl ri_n (dm_Bh_alarm (d := 1999) (w := S3 x y z w) (Q := fun r w' => CIs w' ∧ FR [] (S3 x y z w) w') (ci_alarm hc (fun r w' h' hF => ⟨Or.inl h', hF⟩)))) (fun v w1 hv => ?_)
  obtain ⟨r, e, q1, q2⟩ := hv
  have l1 : LI w1 := li_cls hM q1 q2 rfl
  have f1 := fx_of q2
  refine ⟨r, e, ?_⟩
  refine tc_mono (dm_Mo_alarm (d := 2000) (w := w1) (Q := fun r' w2 => MdJ w2 ∧ FR [] w1 w2) (mf_alarm l1.2 (fun r' w2 h2 hF => ⟨h2, hF⟩))) (fun v2 w2 hv2 => ?_)
  obtain ⟨r', e', m1, m2⟩ := hv2
  exact ⟨r', e', ⟨⟨li_ref l1.1 m1 m2 rfl, lk_of r1 r2 hm f1 m2 rfl rfl⟩, tw_of hy hw f1 m2 rfl rfl⟩, trivial⟩
theorem pw_way {w : MW} {a : Int32} {b : Int32} (h : LKw w) : Tc 2000 31 [.ref 0, .int a, .int b] w (RI fun r w1 => Tc 2000 82 [.ref 127, .int a, .int b] w1 (RI fun r' w2 => LKw w2 ∧ True)) := by
  obtain ⟨⟨⟨⟨x, y, z, hc⟩, hM⟩, r1, r2, hm⟩, hy, hw⟩ := h
  refine tc_mono (tc_3 (a := x) (b := y) (c := z) (w := w) rfl rfl rfl ri_n (dm_Bh_way (d := 1999) (w := S3 x y z w) (Q := fun r w' => CIs w' ∧ FR l_Wa_get (S3 x y z w) w') (ci_way hc (fun r w' h' hF => ⟨Or.inl h', hF⟩)))) (fun v w1 hv => ?_)
  obtain ⟨r, e, q1, q2⟩ := hv
  have l1 : LI w1 := li_cls hM q1 q2 rfl
  have f1 := fx_of q2
  refine ⟨r, e, ?_⟩
  refine tc_mono (dm_Mo_way (d := 2000) (w := w1) (Q := fun r' w2 => MdJ w2 ∧ FR [] w1 w2) (mf_way l1.2 (fun r' w2 h2 hF => ⟨h2, hF⟩))) (fun v2 w2 hv2 => ?_)
  obtain ⟨r', e', m1, m2⟩ := hv2
  exact ⟨r', e', ⟨⟨li_ref l1.1 m1 m2 rfl, lk_of r1 r2 hm f1 m2 rfl rfl⟩, tw_of hy hw f1 m2 rfl rfl⟩, trivial⟩
theorem pw_space {w : MW} {a : Int32} {b : Int32} (h : LKw w) : Tc 2000 32 [.ref 0, .int a, .int b] w (RI fun r w1 => Tc 2000 83 [.ref 127, .int a, .int b] w1 (RI fun r' w2 => LKw w2 ∧ True)) := by
  obtain ⟨⟨⟨⟨x, y, z, hc⟩, hM⟩, r1, r2, hm⟩, hy, hw⟩ := h
  refine tc_mono (tc_3 (a := x) (b := y) (c := z) (w := w) rfl rfl rfl ri_n (dm_Bh_space (d := 1997) (w := S3 x y z w) (Q := fun r w' => CIs w' ∧ FR l_Bh_space (S3 x y z w) w') (ci_space hc (fun r w' h' hF => ⟨Or.inl h', hF⟩)))) (fun v w1 hv => ?_)
  obtain ⟨r, e, q1, q2⟩ := hv
  have l1 : LI w1 := li_cls hM q1 q2 rfl
  have f1 := fx_of q2
  refine ⟨r, e, ?_⟩
  refine tc_mono (dm_Mo_space (d := 1997) (w := w1) (Q := fun r' w2 => MdJ w2 ∧ FR l_Mo_space w1 w2) (mf_space l1.2 (fun r' w2 h2 hF => ⟨h2, hF⟩))) (fun v2 w2 hv2 => ?_)
  obtain ⟨r', e', m1, m2⟩ := hv2
  exact ⟨r', e', ⟨⟨li_ref l1.1 m1 m2 rfl, lk_of r1 r2 hm f1 m2 rfl rfl⟩, tw_of hy hw f1 m2 rfl rfl⟩, trivial⟩
theorem pw_danger {w : MW} {a : Int32} (h : LKw w) : Tc 2000 33 [.ref 0, .int a] w (RI fun r w1 => Tc 2000 70 [.ref 127, .int a] w1 (RI fun r' w2 => LKw w2 ∧ True)) := by
  obtain ⟨⟨⟨⟨x, y, z, hc⟩, hM⟩, r1, r2, hm⟩, hy, hw⟩ := h
  refine tc_mono (tc_3 (a := x) (b := y) (c := z) (w := w) rfl rfl rfl ri_n (dm_Bh_danger (d := 1996) (w := S3 x y z w) (Q := fun r w' => CIs w' ∧ FR l_Bh_danger (S3 x y z w) w') (ci_danger hc (fun r w' h' hF => ⟨Or.inl h', hF⟩)))) (fun v w1 hv => ?_)
  obtain ⟨r, e, q1, q2⟩ := hv
  have l1 : LI w1 := li_cls hM q1 q2 rfl
  have f1 := fx_of q2
  refine ⟨r, e, ?_⟩
  refine tc_mono (dm_Mo_danger (d := 1996) (w := w1) (Q := fun r' w2 => MdJ w2 ∧ FR l_Mo_danger w1 w2) (mf_danger l1.2 (fun r' w2 h2 hF => ⟨h2, hF⟩))) (fun v2 w2 hv2 => ?_)
  obtain ⟨r', e', m1, m2⟩ := hv2
  exact ⟨r', e', ⟨⟨li_ref l1.1 m1 m2 rfl, lk_of r1 r2 hm f1 m2 rfl rfl⟩, tw_of hy hw f1 m2 rfl rfl⟩, trivial⟩
theorem wrt_in {l : Pl} {w w1 : MW} {ls : List Ln} (f : FX l w w1) (p : PWs w ls) (hl : off l [(127, some 4), (127, some 11), (163, none), (164, none), (169, none), (170, none), (171, none)] = true) : PWs w1 ls := by
  have q : ∀ k j, hit [(127, some 4), (127, some 11), (163, none), (164, none), (169, none), (170, none), (171, none)] k j = true → sP k = k → sQ k = k → sN k = k → w1.1 k j = w.1 k j := fun k j hk s1 s2 s3 => (f k j s1 s2 s3 (off_hit hl hk)).1
  refine ⟨by rw [q 127 4 rfl rfl rfl rfl]; exact p.1, by rw [q 127 11 rfl rfl rfl rfl]; exact p.2.1, fun t y e => ?_, fun p' y e => ?_⟩
  · rw [q 163 t rfl rfl rfl rfl, q 164 t rfl rfl rfl rfl]
    exact p.2.2.1 t y e
  · rw [q 169 p' rfl rfl rfl rfl, q 170 (2 * p') rfl rfl rfl rfl, q 170 (2 * p' + 1) rfl rfl rfl rfl, q 171 (2 * p') rfl rfl rfl rfl, q 171 (2 * p' + 1) rfl rfl rfl rfl]
    exact p.2.2.2 p' y e
theorem pw_write {w : MW} {a : Int32} (h : LKw w) : Tc 2000 34 [.ref 0, .int a] w (RI fun r w1 => Tc 2000 49 [.ref 127, .int a] w1 (RI fun r' w2 => LKw w2 ∧ r = r')) := by
  obtain ⟨⟨⟨⟨x, y, z, hc⟩, hM⟩, r1, r2, hm⟩, hy, hw⟩ := h
  have hw2 := hw
  obtain ⟨ls, gl, wt, pw⟩ := hw2
  refine tc_mono (tc_3 (a := x) (b := y) (c := z) (w := w) rfl rfl rfl ri_n (ri_and (dm_Bh_write (d := 2000) (w := S3 x y z w) (Q := fun r w' => r.toInt = wrV ls a.toInt) (cw_x hc.1 (by unfold WT; rw [(s3c x y z w).1, (s3c x y z w).2.2.2]; exact wt) (fun r q => q))) (dm_Bh_write (d := 2000) (w := S3 x y z w) (Q := fun r w' => CIs w' ∧ FR [] (S3 x y z w) w') (ci_write hc (fun r w' h' hF => ⟨Or.inl h', hF⟩)))))  (fun v w1 hv => ?_)
  obtain ⟨r, e, k1, q1, q2⟩ := hv
  have l1 : LI w1 := li_cls hM q1 q2 rfl
  have f1 := fx_of q2
  refine ⟨r, e, ?_⟩
  have pw1 : PWs w1 ls := (wrt_in f1 pw rfl)
  refine tc_mono (ri_and (dm_Mo_write (d := 1998) (w := w1) (Q := fun r' w2 => r'.toInt = wrV ls a.toInt) (mwr_x l1.2.1.1 pw1 gl (fun r' w2 _ _ q => q))) (dm_Mo_write (d := 1998) (w := w1) (Q := fun r' w2 => MdJ w2 ∧ FR l_Mo_write w1 w2) (mf_write l1.2 (fun r' w2 h2 hF => ⟨h2, hF⟩))))  (fun v2 w2 hv2 => ?_)
  obtain ⟨r', e', k2, m1, m2⟩ := hv2
  exact ⟨r', e', ⟨⟨li_ref l1.1 m1 m2 rfl, lk_of r1 r2 hm f1 m2 rfl rfl⟩, tw_of hy hw f1 m2 rfl rfl⟩, ti_inj (k1.trans k2.symm)⟩
theorem pw_second {w : MW}  (h : LKw w) : Tc 2000 35 [.ref 0] w (RI fun r w1 => Tc 2000 125 [.ref 127] w1 (RI fun r' w2 => LKw w2 ∧ r = r')) := by
  obtain ⟨⟨⟨⟨x, y, z, hc⟩, hM⟩, r1, r2, hm⟩, hy, hw⟩ := h
  refine tc_mono (tc_3 (a := x) (b := y) (c := z) (w := w) rfl rfl rfl ri_n (dm_Bh_second (d := 2000) (w := S3 x y z w) (Q := fun r w' => CIs w' ∧ FR [] (S3 x y z w) w' ∧ r = (S3 x y z w).1 7 1) (cv_second hc (fun r w' h' hF kk => ⟨Or.inl h', hF, kk⟩)))) (fun v w1 hv => ?_)
  obtain ⟨r, e, q1, q2, k1⟩ := hv
  have l1 : LI w1 := li_cls hM q1 q2 rfl
  have f1 := fx_of q2
  refine ⟨r, e, ?_⟩
  refine tc_mono (dm_Mo_second (d := 2000) (w := w1) (Q := fun r' w2 => MdJ w2 ∧ FR [] w1 w2 ∧ r' = w1.1 127 78) (mv_second l1.2 (fun r' w2 h2 hF kk => ⟨h2, hF, kk⟩))) (fun v2 w2 hv2 => ?_)
  obtain ⟨r', e', m1, m2, k2⟩ := hv2
  exact ⟨r', e', ⟨⟨li_ref l1.1 m1 m2 rfl, lk_of r1 r2 hm f1 m2 rfl rfl⟩, tw_of hy hw f1 m2 rfl rfl⟩, by rw [k1, k2, (S3_at rfl rfl rfl).1, (f1 127 78 rfl rfl rfl rfl).1, r2]⟩
