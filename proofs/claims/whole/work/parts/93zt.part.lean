/-! the class reads a row's condition -/
def lpu : Pl := [(99, some 10), (107, none)]
def lpt : Pl := [(99, some 10), (99, some 12), (99, some 13), (99, some 14), (99, some 15), (99, some 16), (99, some 17), (107, none)]
/-- the codes from place b on -/
def Cod (w : MW) (b : Nat) (c : List Int) : Prop := (w.1 99 10).toInt = ((b + c.length : Nat) : Int) ∧ ∀ (j : Nat) (x : Int), c[j]? = some x → (w.1 107 (b + j)).toInt = x
theorem cod_fr {l : Pl} {w w' : MW} {b : Nat} {c : List Int} (h : Cod w b c) (hF : FR l w w') (ho : off l lpu = true) : Cod w' b c := by
  refine ⟨?_, fun j x q => ?_⟩
  · rw [(hF 99 10 (off_hit ho rfl)).1]
    exact h.1
  · rw [(hF 107 (b + j) (off_hit ho rfl)).1]
    exact h.2 j x q
theorem pu_b {w : MW} {a : Int32} {Q : MW → Prop} (hI : BND w) (a0 : 0 ≤ a.toInt) (a1 : a.toInt ≤ 18) (hQ : ∀ w', BND w' → FR lpu w w' → Q w') : p_Ro_puts99 w a Q := by
  have b := bd_99_10 hI
  have s := ti_add2 (Eq.refl (w.1 99 10).toInt) i_1 (by omega) (by omega)
  exact Eq.mpr (p_Ro_puts99.eq_1 _ _ _) ⟨fun _ => hQ w hI (FR.refl _ w), fun c => ⟨⟨by omega, by omega⟩, hQ _ (wbd_99_10 (wbd_107 hI _ a0 a1) (by omega) (by omega)) (FR.I (FR.I (FR.refl _ w) rfl) rfl)⟩⟩
theorem pu_x {w : MW} {a : Int32} {b : Nat} {c : List Int} {x : Int} {Q : MW → Prop} (hI : BND w) (hc : Cod w b c) (lt : b + c.length < 1400) (ha : a.toInt = x) (a0 : 0 ≤ x) (a1 : x ≤ 18) (hQ : ∀ w', BND w' → FR lpu w w' → Cod w' b (c ++ [x]) → Q w') : p_Ro_puts99 w a Q := by
  have h1 := hc.1
  have s := ti_add2 h1 i_1 (by omega) (by omega)
  have n : (w.1 99 10).toInt.toNat = b + c.length := by omega
  refine Eq.mpr (p_Ro_puts99.eq_1 _ _ _) ⟨fun q => by omega, fun q => ⟨⟨by omega, by omega⟩, hQ _ (wbd_99_10 (wbd_107 hI _ (by omega) (by omega)) (by omega) (by omega)) (FR.I (FR.I (FR.refl _ w) rfl) rfl) ⟨?_, fun j y q => ?_⟩⟩⟩
  · rw [sI_same, s, List.length_append]
    show ((b + c.length : Nat) : Int) + 1 = ((b + (c.length + 1) : Nat) : Int)
    omega
  · rw [sI_oth _ _ _ _ _ _ (by decide), sI_if, n]
    by_cases e : j = c.length
    · rw [if_pos (by omega), ha]
      rw [e, List.getElem?_append_right (Nat.le_refl _), Nat.sub_self] at q
      exact Option.some.inj q
    · rw [if_neg (by omega)]
      have l2 := (List.getElem?_eq_some_iff.mp q).1
      rw [List.length_append] at l2
      have : ([x] : List Int).length = 1 := rfl
      rw [List.getElem?_append_left (by omega)] at q
      exact hc.2 j y q
/-- the class stands at word i, with its codes, nothing wrong -/
def CSt (w : MW) (b o : Nat) (c : List Int) (t i : Nat) : Prop := WSt w i ∧ (w.1 99 17).toInt < 0 ∧ (w.1 99 15).toInt = (o : Int) ∧ (w.1 99 16).toInt = (t : Int) ∧ Cod w b c
/-- behind a part: as r says -/
def OuC (w : MW) (b o pd : Nat) (r : Bool × List Int × Nat × Nat) : Prop := WSt w r.2.2.2 ∧ (w.1 99 15).toInt = (o : Int) ∧ r.2.2.2 ≤ 5000 ∧ ((r.1 = true ∧ CSt w b o r.2.1 r.2.2.1 r.2.2.2 ∧ r.2.2.1 ≤ 32 ∧ b + r.2.1.length + pd ≤ lwn (cf w) (w.1 1 2).toInt r.2.2.2) ∨ (r.1 = false ∧ (w.1 99 17).toInt = (r.2.2.2 : Int)))
/-- a reader of mode md, with d calls in one another left -/
def PQr (md : Nat) (X : MW → (MW → Prop) → Prop) (dn d : Nat) : Prop := ∀ (w : MW) (b o : Nat) (c : List Int) (t i pd : Nat) (Q : MW → Prop), BND w → CSt w b o c t i → o ≤ 20 → t ≤ 32 → i ≤ 5000 → b + c.length + pd ≤ lwn (cf w) (w.1 1 2).toInt i → 3 * (20 - o) + dn ≤ d → (∀ w' r, BND w' → FR lpt w w' → (∃ k, SP (cf w) (w.1 1 2).toInt k md o c t i r) → OuC w' b o pd r → Q w') → X w Q
theorem i_le {w : MW} {i : Nat} (hI : BND w) (h : 0 < wnd (cf w) (w.1 1 2).toInt i - wat (cf w) (w.1 1 2).toInt i) : i < 4000 := by
  have b := bd_1_2 hI
  have a := wq_in (f := cf w) b.1 h
  have c := wat_i (f := cf w) b.1 i a
  omega
theorem ltln (K N : Nat) : ((ltr K N).length : Int) = (N : Int) := by rw [ltr_l]
/-- what the words' functions hang on stands -/
theorem cf_n {l : Pl} {w w' : MW} (hF : FR l w w') (ho : off l [(1, some 2), (2, none)] = true) : cf w' = cf w ∧ w'.1 1 2 = w.1 1 2 := ⟨cf_fr hF ho, (hF 1 2 (off_hit ho rfl)).1⟩
/-- a wrong word -/
theorem ou_f {w w0 : MW} {b o pd i : Nat} (h : WSt w i) (h17 : (w.1 99 17).toInt < 0) (h15 : (w.1 99 15).toInt = (o : Int)) (hi : i ≤ 5000) : OuC (sI w 99 17 (w.1 99 14)) b o pd (rsF i) := by
  have F : FR [(99, some 17)] w (sI w 99 17 (w.1 99 14)) := FR.I (FR.refl _ w) rfl
  refine ⟨wst_fr h F rfl, ?_, hi, Or.inr ⟨rfl, ?_⟩⟩
  · rw [(F 99 15 rfl).1]
    exact h15
  · rw [sI_same]
    exact h.2.2.1
theorem pq_114 {rA rO rP : MW → (MW → Prop) → Prop} {w : MW} {b o t i pd : Nat} {c : List Int} {v : Int32} {Q : MW → Prop} (hI : BND w) (h : CSt w b o c t i) (t2 : t ≤ 32) (i5 : i ≤ 5000) (hl : b + c.length + pd ≤ lwn (cf w) (w.1 1 2).toInt i) (n1 : wq (cf w) (w.1 1 2).toInt i (ltr 8 3) = false) (n2 : wq (cf w) (w.1 1 2).toInt i (ltr 9 1) = false) (hv : v.toInt = cnw (cf w) (w.1 1 2).toInt i) (hQ : ∀ w' r, BND w' → FR lpt w w' → (∃ k, SP (cf w) (w.1 1 2).toInt k 0 o c t i r) → OuC w' b o pd r → Q w') : q_Ro_readParts99_114 rA rO rP v w Q := by
  have sp : ∀ r, (r = if cnw (cf w) (w.1 1 2).toInt i < 0 ∨ t = 32 then rsF i else (true, c ++ [cnw (cf w) (w.1 1 2).toInt i], t + 1, i + 1)) → ∃ k, SP (cf w) (w.1 1 2).toInt k 0 o c t i r := fun r e => by
    refine ⟨1, ?_⟩
    rw [SP0]
    rw [if_neg (by rw [n1]; decide), if_neg (by rw [n2]; decide)]
    exact e
  have fail : cnw (cf w) (w.1 1 2).toInt i < 0 ∨ t = 32 → p_Ro_fails99 w (fun w' => Q w') := fun z => flr_x h.2.1 (hQ _ (rsF i) (wbd_99_17 hI) (FR.I (FR.refl _ w) rfl) (sp _ (by rw [if_pos z])) (ou_f (w0 := w) h.1 h.2.1 h.2.2.1 i5))
  have h17 := h.2.1
  have h16 := h.2.2.2.1
  refine Eq.mpr (q_Ro_readParts99_114.eq_1 _ _ _ _ _ _) ⟨fun z => by omega, fun _ => ⟨fun z => fail (Or.inl (by omega)), fun z => ⟨fun z2 => ?_, fun z2 => fail (Or.inr (by omega))⟩⟩⟩
  have nf : ¬ (cnw (cf w) (w.1 1 2).toInt i < 0 ∨ t = 32) := fun y => by
    rcases y with y | y
    · omega
    · omega
  have s := ti_add2 h16 i_1 (by omega) (by omega)
  have B1 : BND (sI w 99 16 ((w.1 99 16) + (1 : Int32))) := wbd_99_16 hI (by omega) (by omega)
  have F1 : FR [(99, some 16)] w (sI w 99 16 ((w.1 99 16) + (1 : Int32))) := FR.I (FR.refl _ w) rfl
  have e16 : ((sI w 99 16 ((w.1 99 16) + (1 : Int32))).1 99 16).toInt = ((t + 1 : Nat) : Int) := by rw [sI_same, s]; rfl
  generalize (sI w 99 16 ((w.1 99 16) + (1 : Int32))) = w1 at *
  have b2 := bd_1_2 hI
  have len : 2 ≤ wnd (cf w) (w.1 1 2).toInt i - wat (cf w) (w.1 1 2).toInt i ∧ cnw (cf w) (w.1 1 2).toInt i ≤ 15 := by
    have nz : ¬ cnw (cf w) (w.1 1 2).toInt i < 0 := fun y => nf (Or.inl y)
    unfold cnw at nz ⊢
    by_cases q : cf w (wat (cf w) (w.1 1 2).toInt i) = 99
    · rw [if_pos q] at nz ⊢
      unfold nbv at nz ⊢
      by_cases q2 : wnd (cf w) (w.1 1 2).toInt i - (wat (cf w) (w.1 1 2).toInt i + 1) < 1 ∨ 4 < wnd (cf w) (w.1 1 2).toInt i - (wat (cf w) (w.1 1 2).toInt i + 1) ∨ (1 < wnd (cf w) (w.1 1 2).toInt i - (wat (cf w) (w.1 1 2).toInt i + 1) ∧ cf w (wat (cf w) (w.1 1 2).toInt i + 1) = 48)
      · rw [if_pos q2] at nz
        exact absurd (by decide) nz
      · rw [if_neg q2] at nz ⊢
        by_cases q3 : 15 < dgv (cf w) (wnd (cf w) (w.1 1 2).toInt i - (wat (cf w) (w.1 1 2).toInt i + 1)).toNat (wat (cf w) (w.1 1 2).toInt i + 1) 0
        · rw [if_pos q3] at nz
          exact absurd (by decide) nz
        · rw [if_neg q3]
          refine ⟨?_, by omega⟩
          by_cases q4 : wnd (cf w) (w.1 1 2).toInt i - (wat (cf w) (w.1 1 2).toInt i + 1) < 1
          · exact absurd (Or.inl q4) q2
          · omega
    · rw [if_neg q] at nz
      exact absurd (by decide) nz
  have mx := lw_max (f := cf w) b2.1 b2.2 i
  have i4 := i_le hI (i := i) (by omega)
  have le := lw_l len.1
  refine pu_x B1 (cod_fr h.2.2.2.2 F1 rfl) (by omega) hv (by omega) (by omega) (fun w2 B2 F2 C2 => nws B2 (wst_fr (wst_fr h.1 F1 rfl) F2 rfl) (by omega) (fun w3 B3 F3 S3 => ?_))
  have F : FR lpt w w3 := ((FR.tr (FR.refl _ w) F1 rfl).tr F2 rfl).tr F3 rfl
  have cn := cf_n F rfl
  refine hQ w3 (true, c ++ [cnw (cf w) (w.1 1 2).toInt i], t + 1, i + 1) B3 F (sp _ (by rw [if_neg nf])) ⟨S3, ?_, by show i + 1 ≤ 5000; omega, Or.inl ⟨rfl, ⟨S3, ?_, ?_, ?_, cod_fr C2 F3 rfl⟩, by show t + 1 ≤ 32; omega, ?_⟩⟩
  · rw [(F3 99 15 rfl).1, (F2 99 15 rfl).1, (F1 99 15 rfl).1]
    exact h.2.2.1
  · rw [(F3 99 17 rfl).1, (F2 99 17 rfl).1, (F1 99 17 rfl).1]
    exact h17
  · rw [(F3 99 15 rfl).1, (F2 99 15 rfl).1, (F1 99 15 rfl).1]
    exact h.2.2.1
  · rw [(F3 99 16 rfl).1, (F2 99 16 rfl).1]
    exact e16
  · rw [cn.1, cn.2]
    show b + (c ++ [cnw (cf w) (w.1 1 2).toInt i]).length + pd ≤ lwn (cf w) (w.1 1 2).toInt (i + 1)
    rw [List.length_append, le]
    show b + (c.length + 1) + pd ≤ _
    omega
theorem b16 : ((16 : Int32)).toInt = 16 := by decide
theorem b17 : ((17 : Int32)).toInt = 17 := by decide
theorem b18 : ((18 : Int32)).toInt = 18 := by decide
/-- a part that begins with not, or with a bracket -/
theorem pq_20 {rA rO rP : MW → (MW → Prop) → Prop} {d : Nat} (hO : PQr 2 rO 3 d) (hP : PQr 0 rP 1 d) {w : MW} {b o t i pd : Nat} {c : List Int} {y : Int32} {Q : MW → Prop} (hI : BND w) (h : CSt w b o c t i) (o2 : o ≤ 20) (t2 : t ≤ 32) (i5 : i ≤ 5000) (hl : b + c.length + pd ≤ lwn (cf w) (w.1 1 2).toInt i) (hd : 3 * (20 - o) + 1 ≤ d + 1) (hy : (¬ y.toInt = 0 ∧ wq (cf w) (w.1 1 2).toInt i (ltr 8 3) = true) ∨ (y.toInt = 0 ∧ wq (cf w) (w.1 1 2).toInt i (ltr 8 3) = false ∧ wq (cf w) (w.1 1 2).toInt i (ltr 9 1) = true)) (hQ : ∀ w' r, BND w' → FR lpt w w' → (∃ k, SP (cf w) (w.1 1 2).toInt k 0 o c t i r) → OuC w' b o pd r → Q w') : q_Ro_readParts99_20 rA rO rP y w Q := by
  have h15 := h.2.2.1
  have b2 := bd_1_2 hI
  refine Eq.mpr (q_Ro_readParts99_20.eq_1 _ _ _ _ _ _) ⟨fun z => ?_, fun z => ?_⟩
  · have no : ¬ o = 20 := by omega
    have s := ti_add2 h15 i_1 (by omega) (by omega)
    have B1 : BND (sI w 99 15 ((w.1 99 15) + (1 : Int32))) := wbd_99_15 hI (by omega) (by omega)
    have F1 : FR [(99, some 15)] w (sI w 99 15 ((w.1 99 15) + (1 : Int32))) := FR.I (FR.refl _ w) rfl
    have e15 : ((sI w 99 15 ((w.1 99 15) + (1 : Int32))).1 99 15).toInt = ((o + 1 : Nat) : Int) := by rw [sI_same, s]; rfl
    generalize (sI w 99 15 ((w.1 99 15) + (1 : Int32))) = w1 at *
    have i4 : i < 4000 := by
      rcases hy with q | q
      · have := wq_len q.2
        rw [ltln] at this
        exact i_le hI (by omega)
      · have := wq_len q.2.2
        rw [ltln] at this
        exact i_le hI (by omega)
    refine nws B1 (wst_fr h.1 F1 rfl) (by omega) (fun w4 B4 F4 S4 => ?_)
    have F : FR lpt w w4 := (FR.tr (FR.refl _ w) F1 rfl).tr F4 rfl
    have cn := cf_n F rfl
    have C4 : CSt w4 b (o + 1) c t (i + 1) := ⟨S4, by rw [(F4 99 17 rfl).1, (F1 99 17 rfl).1]; exact h.2.1, by rw [(F4 99 15 rfl).1]; exact e15, by rw [(F4 99 16 rfl).1, (F1 99 16 rfl).1]; exact h.2.2.2.1, cod_fr (cod_fr h.2.2.2.2 F1 rfl) F4 rfl⟩
    have dec : ∀ v : MW, BND v → (v.1 99 15).toInt = ((o + 1 : Nat) : Int) → BND (sI v 99 15 ((v.1 99 15) - (1 : Int32))) ∧ FR [(99, some 15)] v (sI v 99 15 ((v.1 99 15) - (1 : Int32))) ∧ ((sI v 99 15 ((v.1 99 15) - (1 : Int32))).1 99 15).toInt = (o : Int) := fun v Bv ev => by
      have s2 := ti_sub2 ev i_1 (by omega) (by omega)
      refine ⟨wbd_99_15 Bv (by omega) (by omega), FR.I (FR.refl _ v) rfl, ?_⟩
      rw [sI_same, s2]
      omega
    refine ⟨fun y0 => ?_, fun y0 => ?_⟩
    · have q := hy.resolve_left (fun k => k.1 y0)
      refine hO w4 b (o + 1) c t (i + 1) pd _ B4 C4 (by omega) t2 (by omega) (by rw [cn.1, cn.2]; have := lw_m (f := cf w) (n := (w.1 1 2).toInt) i; omega) (by omega) (fun w6 r1 B6 F6 S6 U6 => ?_)
      rw [cn.1, cn.2] at S6
      obtain ⟨k, hk⟩ := S6
      have G6 : FR lpt w w6 := F.tr F6 rfl
      have cn6 := cf_n G6 rfl
      have sp : ∀ r, (r = if r1.1 = true then (if wq (cf w) (w.1 1 2).toInt r1.2.2.2 (ltr 10 1) = true then (true, r1.2.1, r1.2.2.1, r1.2.2.2 + 1) else rsF r1.2.2.2) else r1) → ∃ k, SP (cf w) (w.1 1 2).toInt k 0 o c t i r := fun r e => by
        refine ⟨k + 1, ?_⟩
        rw [SP0]
        rw [if_neg (by rw [q.2.1]; decide), if_pos q.2.2, if_neg no]
        exact ⟨r1, hk, e⟩
      have i6 := U6.2.2.1
      refine tkw_10 B6 U6.1 (by omega) (fun w17 wqt w7 B7 F7 S7 => ?_) (fun w17 wqf => ?_) (fun w17 => ?_)
      · rw [cn6.1, cn6.2] at wqt
        rcases U6.2.2.2 with ⟨ok, C6, t6, l6⟩ | ⟨nk, e17⟩
        · have e7 : (w7.1 99 15).toInt = ((o + 1 : Nat) : Int) := by rw [(F7 99 15 rfl).1]; exact U6.2.1
          have D := dec w7 B7 e7
          have i7 : r1.2.2.2 < 4000 := by
            have z1 := wq_len wqt
            rw [ltln] at z1
            exact i_le hI (by omega)
          generalize (sI w7 99 15 ((w7.1 99 15) - (1 : Int32))) = w8 at *
          have G8 : FR lpt w w8 := (G6.tr F7 rfl).tr D.2.1 rfl
          have cn8 := cf_n G8 rfl
          refine hQ w8 (true, r1.2.1, r1.2.2.1, r1.2.2.2 + 1) D.1 G8 (sp _ (by rw [if_pos ok, if_pos wqt])) ⟨wst_fr S7 D.2.1 rfl, D.2.2, by show r1.2.2.2 + 1 ≤ 5000; omega, Or.inl ⟨rfl, ⟨wst_fr S7 D.2.1 rfl, ?_, D.2.2, ?_, cod_fr (cod_fr C6.2.2.2.2 F7 rfl) D.2.1 rfl⟩, t6, ?_⟩⟩
          · rw [(D.2.1 99 17 rfl).1, (F7 99 17 rfl).1]
            exact C6.2.1
          · rw [(D.2.1 99 16 rfl).1, (F7 99 16 rfl).1]
            exact C6.2.2.2.1
          · rw [cn8.1, cn8.2]
            rw [cn6.1, cn6.2] at l6
            have := lw_m (f := cf w) (n := (w.1 1 2).toInt) r1.2.2.2
            show b + r1.2.1.length + pd ≤ lwn (cf w) (w.1 1 2).toInt (r1.2.2.2 + 1)
            omega
        · omega
      · rw [cn6.1, cn6.2] at wqf
        rcases U6.2.2.2 with ⟨ok, C6, t6, l6⟩ | ⟨nk, e17⟩
        · have Ff : FR [(99, some 17)] w6 (sI w6 99 17 (w6.1 99 14)) := FR.I (FR.refl _ w6) rfl
          have Bf : BND (sI w6 99 17 (w6.1 99 14)) := wbd_99_17 B6
          have ef : ((sI w6 99 17 (w6.1 99 14)).1 99 17).toInt = (r1.2.2.2 : Int) := by rw [sI_same]; exact U6.1.2.2.1
          generalize (sI w6 99 17 (w6.1 99 14)) = w7 at *
          have e7 : (w7.1 99 15).toInt = ((o + 1 : Nat) : Int) := by rw [(Ff 99 15 rfl).1]; exact U6.2.1
          have D := dec w7 Bf e7
          generalize (sI w7 99 15 ((w7.1 99 15) - (1 : Int32))) = w8 at *
          refine hQ w8 (rsF r1.2.2.2) D.1 ((G6.tr Ff rfl).tr D.2.1 rfl) (sp _ (by rw [if_pos ok, if_neg (by rw [wqf]; decide)])) ⟨wst_fr (wst_fr U6.1 Ff rfl) D.2.1 rfl, D.2.2, i6, Or.inr ⟨rfl, ?_⟩⟩
          rw [(D.2.1 99 17 rfl).1]
          exact ef
        · omega
      · rcases U6.2.2.2 with ⟨ok, C6, t6, l6⟩ | ⟨nk, e17⟩
        · have := C6.2.1
          omega
        · have D := dec w6 B6 U6.2.1
          generalize (sI w6 99 15 ((w6.1 99 15) - (1 : Int32))) = w8 at *
          refine hQ w8 r1 D.1 (G6.tr D.2.1 rfl) (sp _ (by rw [if_neg (by rw [nk]; decide)])) ⟨wst_fr U6.1 D.2.1 rfl, D.2.2, i6, Or.inr ⟨nk, ?_⟩⟩
          rw [(D.2.1 99 17 rfl).1]
          exact e17
    · have q := hy.resolve_right (fun k => y0 k.1)
      have ln := wq_len q.2
      rw [ltln] at ln
      have le := lw_l (f := cf w) (n := (w.1 1 2).toInt) (i := i) (by omega)
      refine hP w4 b (o + 1) c t (i + 1) (pd + 1) _ B4 C4 (by omega) t2 (by omega) (by rw [cn.1, cn.2, le]; omega) (by omega) (fun w6 r1 B6 F6 S6 U6 => ?_)
      rw [cn.1, cn.2] at S6
      obtain ⟨k, hk⟩ := S6
      have G6 : FR lpt w w6 := F.tr F6 rfl
      have cn6 := cf_n G6 rfl
      have sp : ∀ r, (r = if r1.1 = true then (true, r1.2.1 ++ [16], r1.2.2.1, r1.2.2.2) else r1) → ∃ k, SP (cf w) (w.1 1 2).toInt k 0 o c t i r := fun r e => by
        refine ⟨k + 1, ?_⟩
        rw [SP0]
        rw [if_pos q.2, if_neg no]
        exact ⟨r1, hk, e⟩
      have i6 := U6.2.2.1
      rcases U6.2.2.2 with ⟨ok, C6, t6, l6⟩ | ⟨nk, e17⟩
      · have mx := lw_max (f := cf w) b2.1 b2.2 r1.2.2.2
        rw [cn6.1, cn6.2] at l6
        refine pu_x B6 C6.2.2.2.2 (by omega) b16 (by decide) (by decide) (fun w7 B7 F7 C7 => ?_)
        have e7 : (w7.1 99 15).toInt = ((o + 1 : Nat) : Int) := by rw [(F7 99 15 rfl).1]; exact U6.2.1
        have D := dec w7 B7 e7
        generalize (sI w7 99 15 ((w7.1 99 15) - (1 : Int32))) = w8 at *
        have G8 : FR lpt w w8 := (G6.tr F7 rfl).tr D.2.1 rfl
        have cn8 := cf_n G8 rfl
        have S8 := wst_fr (wst_fr U6.1 F7 rfl) D.2.1 rfl
        refine hQ w8 (true, r1.2.1 ++ [16], r1.2.2.1, r1.2.2.2) D.1 G8 (sp _ (by rw [if_pos ok])) ⟨S8, D.2.2, i6, Or.inl ⟨rfl, ⟨S8, ?_, D.2.2, ?_, cod_fr C7 D.2.1 rfl⟩, t6, ?_⟩⟩
        · rw [(D.2.1 99 17 rfl).1, (F7 99 17 rfl).1]
          exact C6.2.1
        · rw [(D.2.1 99 16 rfl).1, (F7 99 16 rfl).1]
          exact C6.2.2.2.1
        · rw [cn8.1, cn8.2]
          show b + (r1.2.1 ++ [16]).length + pd ≤ lwn (cf w) (w.1 1 2).toInt r1.2.2.2
          rw [List.length_append]
          show b + (r1.2.1.length + 1) + pd ≤ _
          omega
      · refine pu_b B6 (by decide) (by decide) (fun w7 B7 F7 => ?_)
        have e7 : (w7.1 99 15).toInt = ((o + 1 : Nat) : Int) := by rw [(F7 99 15 rfl).1]; exact U6.2.1
        have D := dec w7 B7 e7
        generalize (sI w7 99 15 ((w7.1 99 15) - (1 : Int32))) = w8 at *
        refine hQ w8 r1 D.1 ((G6.tr F7 rfl).tr D.2.1 rfl) (sp _ (by rw [if_neg (by rw [nk]; decide)])) ⟨wst_fr (wst_fr U6.1 F7 rfl) D.2.1 rfl, D.2.2, i6, Or.inr ⟨nk, ?_⟩⟩
        rw [(D.2.1 99 17 rfl).1, (F7 99 17 rfl).1]
        exact e17
  · have o20 : o = 20 := by omega
    refine flr_x h.2.1 (hQ _ (rsF i) (wbd_99_17 hI) (FR.I (FR.refl _ w) rfl) ⟨1, ?_⟩ (ou_f (w0 := w) h.1 h.2.1 h.2.2.1 i5))
    rw [SP0]
    rcases hy with q | q
    · rw [if_pos q.2, if_pos o20]
    · rw [if_neg (by rw [q.2.1]; decide), if_pos q.2.2, if_pos o20]
theorem pq_part {rA rO rP : MW → (MW → Prop) → Prop} {d : Nat} (hO : PQr 2 rO 3 d) (hP : PQr 0 rP 1 d) : PQr 0 (pb_Ro_readParts99 rA rO rP) 1 (d + 1) := by
  intro w b o c t i pd Q hI h o2 t2 i5 hl hd hQ
  have h17 := h.2.1
  refine Eq.mpr (pb_Ro_readParts99.eq_1 _ _ _ _ _) (iss_8 hI h.1 (fun _ q => ⟨fun _ => pq_20 hO hP hI h o2 t2 i5 hl hd (Or.inl ⟨by decide, q⟩) hQ, fun z => absurd (show ¬ (1 : Int32).toInt = 0 by decide) z⟩) (fun _ q => ⟨fun z => absurd i_0 z, fun _ => iss_9 hI h.1 (fun _ q2 => ⟨fun z => absurd z (by decide), fun _ => pq_20 hO hP hI h o2 t2 i5 hl hd (Or.inr ⟨i_0, q, q2⟩) hQ⟩) (fun _ q2 => ⟨fun _ => ⟨h.1.2.2.2, at_x hI ?_⟩, fun z => absurd i_0 z⟩) (fun z => by omega)⟩) (fun z => by omega))
  have ev : (cv w (w.1 99 12)).toInt = cf w (wat (cf w) (w.1 1 2).toInt i) := by rw [cv_cf, h.1.1]
  refine ⟨fun z => pq_114 hI h t2 i5 hl q q2 ?_ hQ, fun z => nbh hI h.1 i_1 (by decide) (by decide) (by decide : ((15 : Int32)).toInt = 15) (by decide) (fun r hr => pq_114 hI h t2 i5 hl q q2 ?_ hQ)⟩
  · rw [ev] at z
    unfold cnw
    rw [if_neg z]
    exact i_m1
  · have z := Classical.not_not.mp z
    rw [ev] at z
    unfold cnw
    rw [if_pos z]
    exact hr
