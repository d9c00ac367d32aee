/-! the class's run: expandAll -/
def lex : Pl := [(61, some 5), (77, none), (78, none), (79, none)]
def pN (w : MW) (j : Int) : Int := (w.1 77 j.toNat).toInt
def pFi (w : MW) (j : Int) : Int := (w.1 78 j.toNat).toInt
def pNx (w : MW) (j : Int) : Int := (w.1 79 j.toNat).toInt
def pts (w : MW) : Int := (w.1 61 5).toInt
def UBp (B : Int) (w w' : MW) : Prop := ∀ j : Int, 0 ≤ j → j < B → pN w' j = pN w j ∧ pFi w' j = pFi w j ∧ pNx w' j = pNx w j
theorem UBp.tr {B B2 : Int} {w w1 w2 : MW} (h : UBp B w w1) (h2 : UBp B2 w1 w2) (hb : B ≤ B2) : UBp B w w2 := fun j a b => by
  have p := h j a b
  have q := h2 j a (by omega)
  exact ⟨q.1.trans p.1, q.2.1.trans p.2.1, q.2.2.trans p.2.2⟩
def POx (v w : MW) (P j : Int) : Prop := (0 ≤ pN w j ∧ pN w j < ndC v) ∧ (pFi w j = -1 ∨ (j < pFi w j ∧ pFi w j < P)) ∧ (pNx w j = -1 ∨ (j < pNx w j ∧ pNx w j < P)) ∧ ((yK v (pN w j) = 17 ∨ yK v (pN w j) = 19 ∨ yK v (pN w j) = 20) → 1 ≤ pFi w j)
theorem POx.up {v w w' : MW} {P P' j : Int} (h : POx v w P j) (e : pN w' j = pN w j ∧ pFi w' j = pFi w j ∧ pNx w' j = pNx w j) (hP : P ≤ P') : POx v w' P' j := by
  unfold POx
  rw [e.1, e.2.1, e.2.2]
  exact ⟨h.1, by have := h.2.1; omega, by have := h.2.2.1; omega, h.2.2.2⟩
def Pch (v : MW) (H x : Int) : Prop := x < ndC v ∧ 1 ≤ yS v x ∧ (yK v x = 35 → 2 * yD v x - 1 ≤ H) ∧ (¬ yK v x = 35 → 2 * yD v x ≤ H)
def ExO (v : MW) (S f : Int) (w : MW) (r : Int32) (w' : MW) : Prop := BND w' ∧ FR lex w w' ∧ pts w ≤ pts w' ∧ pts w' ≤ pts w + S ∧ UBp (pts w) w w' ∧ (∀ j, pts w ≤ j → j < pts w' → POx v w' (pts w') j) ∧ (r.toInt = -1 ∨ (r.toInt = pts w ∧ pts w < pts w')) ∧ (0 ≤ f → r.toInt = pts w ∧ pts w < pts w')
def ExR (v : MW) (N : Int) (R : MW → Int32 → Int32 → (Int32 → MW → Prop) → Prop) : Prop := ∀ (f dep : Int32) (w : MW) (Q : Int32 → MW → Prop) (H S : Int) (k : Nat), -2 ≤ H → H + 2 < N → CHn v (Pch v H) k f.toInt S → BND w → FR lex v w → w.2.2 61 3 = some 108 → 1 ≤ pts w → pts w + S ≤ 501 → 0 ≤ dep.toInt → dep.toInt + H ≤ 90 → (∀ r w', ExO v S f.toInt w r w' → Q r w') → R w f dep Q
theorem CHn.pos {w : MW} {P : Int → Prop} (hp : ∀ x, P x → 1 ≤ yS w x) (k : Nat) : ∀ f S, CHn w P k f S → 0 ≤ S := by
  induction k with
  | zero => intro f S q; exact q.2
  | succ k ih =>
    intro f S q
    cases q with
    | inl a => exact a.2
    | inr a =>
      have := hp f a.2.1
      have := ih _ _ a.2.2
      omega
def ExL (v : MW) (S : Int) (w : MW) (f : Int) (hd bf ch : Int32) (S' i : Int) (w' : MW) : Prop := (BND w' ∧ FR lex w w') ∧ (pts w ≤ pts w' ∧ pts w' + S' ≤ pts w + S ∧ i + S' ≤ S) ∧ UBp (pts w) w w' ∧ (∀ j, pts w ≤ j → j < pts w' → POx v w' (pts w') j) ∧ ((bf.toInt = -1 ∧ hd.toInt = -1 ∧ pts w' = pts w ∧ ch.toInt = f) ∨ (hd.toInt = pts w ∧ pts w ≤ bf.toInt ∧ bf.toInt < pts w'))
theorem ex_11 {v w : MW} {dep : Int32} {S H f : Int} {R : MW → Int32 → Int32 → (Int32 → MW → Prop) → Prop} {E Q : Int32 → MW → Prop} (hv : BND v) (hT : ∀ m, 0 ≤ m → m < ndC v → GTm v m) (hR : -1 ≤ H → ExR v (H + 2) R) (hF : FR lex v w) (hr : w.2.2 61 3 = some 108) (p1 : 1 ≤ pts w) (pS : pts w + S ≤ 501) (d0 : 0 ≤ dep.toInt) (dH : dep.toInt + H ≤ 90) (hE : ∀ r w', ExO v S f w r w' → E r w') (n : Nat) : ∀ (hd bf ch i : Int32) (S' : Int) (k : Nat) (w' : MW), CHn v (Pch v H) k ch.toInt S' → ExL v S w f hd bf ch S' i.toInt w' → 0 ≤ i.toInt → (501 - i.toInt).toNat < n → q_Ru_expandAllm108_11 R dep E Q n hd bf ch i w' := by
  induction n with
  | zero =>
    intro hd bf ch i S' k w' hC hL i0 hm
    have := CHn.pos (fun x p => p.2.1) k _ _ hC
    have := hL.2.1
    omega
  | succ n ih =>
    intro hd bf ch i S' k w' hC hL i0 hm
    have s0 := CHn.pos (fun x p => p.2.1) k _ _ hC
    have A := hL.2.1
    have stop : ch.toInt < 0 → E hd w' := fun c => hE hd w' ⟨hL.1.1, hL.1.2, A.1, by omega, hL.2.2.1, hL.2.2.2.1, by
      cases hL.2.2.2.2 with
      | inl a => left; exact a.2.1
      | inr a => right; exact ⟨a.1, by omega⟩, fun cf => by
      cases hL.2.2.2.2 with
      | inl a => omega
      | inr a => exact ⟨a.1, by omega⟩⟩
    rw [q_Ru_expandAllm108_11.eq_2]
    by_cases cc : ch.toInt < 0
    · exact ⟨fun _ => stop cc, fun _ => ⟨fun _ => stop cc, fun c => absurd cc c⟩⟩
    · cases k with
      | zero => exact absurd hC.1 (by omega)
      | succ k =>
        have X := hC.resolve_left (fun q => by have := q.1; omega)
        have Px := X.2.1
        have Px1 := Px.1
        have Px2 := Px.2.1
        have s1 := CHn.pos (fun x p => p.2.1) k _ _ X.2.2
        obtain ⟨lo, lo0, lom, T⟩ := hT ch.toInt X.1 Px1
        have T3 := T.2.2.1
        have H1 : -1 ≤ H := by
          by_cases e : yK v ch.toInt = 35
          · have := Px.2.2.1 e
            omega
          · have := Px.2.2.2 e
            omega
        have hpts : (w'.1 61 5).toInt = pts w' := rfl
        have b5 := bd_61_5 hL.1.1
        have bc := bd_108_1 hv
        have hnd : (v.1 108 1).toInt = ndC v := rfl
        have gp : 0 ≤ (w'.1 61 5).toInt ∧ (w'.1 61 5).toInt < 501 := ⟨by omega, by omega⟩
        have sp := ti_add2 (Eq.refl (w'.1 61 5).toInt) i_1 (by omega) (by omega)
        have si := ti_add2 (Eq.refl i.toInt) i_1 (by omega) (by omega)
        have sd := ti_add2 (Eq.refl dep.toInt) i_1 (by omega) (by omega)
        have Fv : FR lex v w' := hF.tr hL.1.2 rfl
        have r108 : w'.2.2 61 3 = some 108 := ((hL.1.2 61 3 rfl).2.2).trans hr
        have K93 : ∀ (hd' : Int32) (wa : MW), BND wa → FR lex w' wa → pts wa = pts w' + 1 → pN wa (pts w') = ch.toInt → pNx wa (pts w') = -1 → UBp (pts w) w' wa → (∀ j, pts w ≤ j → j < pts w' → POx v wa (pts wa) j) → hd'.toInt = pts w → q_Ru_expandAllm108_93 R dep hd' ch i (w'.1 61 5) wa (fun (x11_3 : Int32) (x11_4 : Int32) (x11_5 : Int32) (x11_6 : Int32) (w : MW) => q_Ru_expandAllm108_11 R dep E Q n x11_3 x11_4 x11_5 x11_6 w) E Q := fun hd' wa ha fa ea na xa ua oa hh => by
          have Fva : FR lex v wa := Fv.tr fa rfl
          have ra : wa.2.2 61 3 = some 108 := ((fa 61 3 rfl).2.2).trans r108
          have q109 : (wa.1 109 ch.toInt.toNat).toInt = yK v ch.toInt := by rw [(Fva 109 _ rfl).1]; rfl
          have q110 : (wa.1 110 ch.toInt.toNat).toInt = yA v ch.toInt := by rw [(Fva 110 _ rfl).1]; rfl
          have q113 : (wa.1 113 ch.toInt.toNat).toInt = yI v ch.toInt := by rw [(Fva 113 _ rfl).1]; rfl
          have gc : 0 ≤ ch.toInt ∧ ch.toInt < 301 := ⟨X.1, by omega⟩
          have G : ∀ (g : Int32) (k2 : Nat), CHn v (Pch v (H - 1)) k2 g.toInt (yS v ch.toInt - 1) → ((yK v ch.toInt = 17 ∨ yK v ch.toInt = 19 ∨ yK v ch.toInt = 20) → 0 ≤ g.toInt) → R wa g (dep + (1 : Int32)) (fun r11 w11 => ((0 ≤ (w'.1 61 5).toInt ∧ (w'.1 61 5).toInt < 501) ∧ ((w11.2.2 61 3 = some 108) ∧ ((0 ≤ ch.toInt ∧ ch.toInt < 301) ∧ (q_Ru_expandAllm108_11 R dep E Q n hd' (w'.1 61 5) (w11.1 114 ch.toInt.toNat) (i + (1 : Int32)) (sI w11 78 ((w'.1 61 5).toInt.toNat) r11)))))) := fun g k2 hg hk => by
            refine hR H1 g _ wa _ (H - 1) (yS v ch.toInt - 1) k2 (by omega) (by omega) hg ha Fva ra (by omega) (by omega) (by omega) (by omega) (fun r11 w11 t => ⟨gp, ((t.2.1 61 3 rfl).2.2).trans ra, gc, ?_⟩)
            have t3 := t.2.2.1
            have t4 := t.2.2.2.1
            have Fv11 : FR lex v w11 := Fva.tr t.2.1 rfl
            have q114 : (w11.1 114 ch.toInt.toNat).toInt = yX v ch.toInt := by rw [(Fv11 114 _ rfl).1]; rfl
            have b11 := bd_61_5 t.1
            have h11 : (w11.1 61 5).toInt = pts w11 := rfl
            have rb : -1 ≤ r11.toInt ∧ r11.toInt ≤ 500 := by
              have := t.2.2.2.2.2.2.1
              omega
            have e78 : ∀ j, 0 ≤ j → j ≠ pts w' → pFi (sI w11 78 ((w'.1 61 5).toInt.toNat) r11) j = pFi w11 j := fun j j0 j1 => by
              unfold pFi
              rw [sI_ne _ _ _ _ _ (by omega)]
            have e78s : pFi (sI w11 78 ((w'.1 61 5).toInt.toNat) r11) (pts w') = r11.toInt := by
              unfold pFi pts
              rw [sI_same]
            have e77 : ∀ j, pN (sI w11 78 ((w'.1 61 5).toInt.toNat) r11) j = pN w11 j := fun j => rfl
            have e79 : ∀ j, pNx (sI w11 78 ((w'.1 61 5).toInt.toNat) r11) j = pNx w11 j := fun j => rfl
            have ept : pts (sI w11 78 ((w'.1 61 5).toInt.toNat) r11) = pts w11 := rfl
            have U := t.2.2.2.2.1
            refine ih hd' _ _ _ (S' - yS v ch.toInt) k _ (by rw [q114]; exact X.2.2) ⟨⟨wbd_78 t.1 _ rb.1 rb.2, FR.I ((hL.1.2.tr fa rfl).tr t.2.1 rfl) rfl⟩, ⟨by omega, by omega, by omega⟩, fun j j0 j1 => ?_, fun j j0 j1 => ?_, Or.inr ⟨hh, by omega, by omega⟩⟩ (by omega) (by omega)
            · have a := hL.2.2.1 j j0 j1
              have b := ua j j0 j1
              have c := U j j0 (by omega)
              rw [e77, e79, e78 j j0 (by omega)]
              exact ⟨(c.1.trans b.1).trans a.1, (c.2.1.trans b.2.1).trans a.2.1, (c.2.2.trans b.2.2).trans a.2.2⟩
            · rw [ept] at j1 ⊢
              by_cases c1 : j < pts w'
              · have c := U j (by omega) (by omega)
                exact (oa j j0 c1).up ⟨by rw [e77]; exact c.1, by rw [e78 j (by omega) (by omega)]; exact c.2.1, by rw [e79]; exact c.2.2⟩ t3
              · by_cases c2 : j = pts w'
                · have c := U (pts w') (by omega) (by omega)
                  rw [c2]
                  unfold POx
                  rw [e77, e79, e78s, c.1, na, c.2.2, xa]
                  refine ⟨⟨X.1, Px1⟩, ?_, Or.inl rfl, fun q => ?_⟩
                  · have := t.2.2.2.2.2.2.1
                    omega
                  · have z := t.2.2.2.2.2.2.2 (hk q)
                    omega
                · exact (t.2.2.2.2.2.1 j (by omega) j1).up ⟨e77 j, e78 j (by omega) c2, e79 j⟩ (Int.le_refl _)
          refine Eq.mpr (q_Ru_expandAllm108_93.eq_1 _ _ _ _ _ _ _ _ _ _) ⟨ra, Eq.mpr (p_Pr_firstBlocks108.eq_1 _ _ _) ⟨gc, ?_⟩⟩
          rw [q109]
          refine ⟨fun n23 => ⟨gc, ?_⟩, fun y23 => ⟨gc, ?_⟩⟩
          · obtain ⟨k2, hk2⟩ := T.2.2.2.2.2.1 n23 (by omega)
            have q113' : (wa.1 113 ch.toInt.toNat).toInt = yI v ch.toInt := q113
            have hP : ∀ x, 0 ≤ x → Pc v lo ch.toInt x → Pch v (H - 1) x ∧ yX v x = yX v x ∧ yS v x = yS v x := fun x x0 p => by
              have pl := p.1
              refine ⟨⟨by omega, p.2.1, fun e => ?_, fun e => ?_⟩, rfl, rfl⟩
              · by_cases z : yK v ch.toInt = 35
                · exact absurd e (p.2.2.1 z).1
                · have a := (p.2.2.2 z).2
                  have b := Px.2.2.2 z
                  omega
              · by_cases z : yK v ch.toInt = 35
                · have a := (p.2.2.1 z).2
                  have b := Px.2.2.1 z
                  omega
                · exact absurd (p.2.2.2 z).1 e
            exact G _ k2 (by rw [q113']; exact CHn.mp hP k2 _ _ hk2) (fun q => by rw [q113']; exact T.2.2.2.2.1 q)
          · have k23 : yK v ch.toInt = 23 := by omega
            have D := T.2.2.2.2.2.2 k23
            have a39 := T.1 (by omega)
            have q119 : (wa.1 119 ((wa.1 110 ch.toInt.toNat).toInt.toNat)).toInt = nbB v (yA v ch.toInt) := by rw [(Fva 119 _ rfl).1, q110]; rfl
            have z := Px.2.2.2 (by omega)
            have D9 := D.2.2.2.2.2.2.2.2
            have D8 := D.2.2.2.2.2.2.2.1 (by omega)
            have D4 := D.2.2.2.1
            refine ⟨⟨by omega, by omega⟩, G _ 1 (by rw [q119]; exact Or.inr ⟨D.2.2.1, ⟨by omega, D.2.2.2.2.2.2.1, fun _ => by omega, fun e => absurd D.2.2.2.2.1 e⟩, D.2.2.2.2.2.1, by omega⟩) (fun q => by omega)⟩
        refine ⟨fun c => by omega, fun _ => ⟨fun c => absurd c cc, fun _ => ⟨fun c => by omega, fun _ => ⟨fun c => by omega, fun _ => ⟨gp, gp, fun cb => ?_, fun cb => ?_⟩⟩⟩⟩⟩
        · have B := hL.2.2.2.2.resolve_left (fun q => by omega)
          refine ⟨⟨cb, by omega⟩, K93 hd _ (wbd_79 (wbd_79 (wbd_77 (wbd_61_5 hL.1.1 (by omega) (by omega)) _ (by omega) (by omega)) _ (by decide) (by decide)) _ (by omega) (by omega)) (FR.I (FR.I (FR.I (FR.I (FR.refl lex w') rfl) rfl) rfl) rfl) sp ?_ ?_ (fun j j0 j1 => ?_) (fun j j0 j1 => ?_) B.1⟩
          · exact congrArg Int32.toInt (sI_same (sI w' 61 5 ((w'.1 61 5) + (1 : Int32))) 77 ((w'.1 61 5).toInt.toNat) ch)
          · show ((sI (sI w' 79 ((w'.1 61 5).toInt.toNat) (-1)) 79 bf.toInt.toNat (w'.1 61 5)).1 79 (w'.1 61 5).toInt.toNat).toInt = -1
            rw [sI_ne _ _ _ _ _ (by omega), sI_same]
            exact i_m1
          · refine ⟨?_, rfl, ?_⟩
            · show ((sI w' 77 ((w'.1 61 5).toInt.toNat) ch).1 77 j.toNat).toInt = _
              rw [sI_ne _ _ _ _ _ (by omega)]
              rfl
            · show ((sI (sI w' 79 ((w'.1 61 5).toInt.toNat) (-1)) 79 bf.toInt.toNat (w'.1 61 5)).1 79 j.toNat).toInt = _
              rw [sI_ne _ _ _ _ _ (by omega), sI_ne _ _ _ _ _ (by omega)]
              rfl
          · have O := hL.2.2.2.1 j j0 j1
            have en : pN (sI (sI (sI (sI w' 61 5 ((w'.1 61 5) + (1 : Int32))) 77 ((w'.1 61 5).toInt.toNat) ch) 79 ((w'.1 61 5).toInt.toNat) (-1)) 79 bf.toInt.toNat (w'.1 61 5)) j = pN w' j := by
              show ((sI w' 77 ((w'.1 61 5).toInt.toNat) ch).1 77 j.toNat).toInt = _
              rw [sI_ne _ _ _ _ _ (by omega)]
              rfl
            have ef : pFi (sI (sI (sI (sI w' 61 5 ((w'.1 61 5) + (1 : Int32))) 77 ((w'.1 61 5).toInt.toNat) ch) 79 ((w'.1 61 5).toInt.toNat) (-1)) 79 bf.toInt.toNat (w'.1 61 5)) j = pFi w' j := rfl
            have epp : pts (sI (sI (sI (sI w' 61 5 ((w'.1 61 5) + (1 : Int32))) 77 ((w'.1 61 5).toInt.toNat) ch) 79 ((w'.1 61 5).toInt.toNat) (-1)) 79 bf.toInt.toNat (w'.1 61 5)) = pts w' + 1 := sp
            by_cases z : j = bf.toInt
            · have ex : pNx (sI (sI (sI (sI w' 61 5 ((w'.1 61 5) + (1 : Int32))) 77 ((w'.1 61 5).toInt.toNat) ch) 79 ((w'.1 61 5).toInt.toNat) (-1)) 79 bf.toInt.toNat (w'.1 61 5)) j = pts w' := by
                rw [z]
                exact congrArg Int32.toInt (sI_same _ 79 bf.toInt.toNat (w'.1 61 5))
              unfold POx
              rw [en, ef, ex, epp]
              exact ⟨O.1, by have := O.2.1; omega, Or.inr ⟨by omega, by omega⟩, O.2.2.2⟩
            · have ex : pNx (sI (sI (sI (sI w' 61 5 ((w'.1 61 5) + (1 : Int32))) 77 ((w'.1 61 5).toInt.toNat) ch) 79 ((w'.1 61 5).toInt.toNat) (-1)) 79 bf.toInt.toNat (w'.1 61 5)) j = pNx w' j := by
                show ((sI (sI w' 79 ((w'.1 61 5).toInt.toNat) (-1)) 79 bf.toInt.toNat (w'.1 61 5)).1 79 j.toNat).toInt = _
                rw [sI_ne _ _ _ _ _ (by omega), sI_ne _ _ _ _ _ (by omega)]
                rfl
              exact O.up ⟨en, ef, ex⟩ (by rw [epp]; omega)
        · have B : bf.toInt = -1 ∧ pts w' = pts w := by
            cases hL.2.2.2.2 with
            | inl a => exact ⟨a.1, a.2.2.1⟩
            | inr a => omega
          refine K93 (w'.1 61 5) _ (wbd_79 (wbd_77 (wbd_61_5 hL.1.1 (by omega) (by omega)) _ (by omega) (by omega)) _ (by decide) (by decide)) (FR.I (FR.I (FR.I (FR.refl lex w') rfl) rfl) rfl) sp ?_ ?_ (fun j j0 j1 => ?_) (fun j j0 j1 => by omega) (by omega)
          · exact congrArg Int32.toInt (sI_same (sI w' 61 5 ((w'.1 61 5) + (1 : Int32))) 77 ((w'.1 61 5).toInt.toNat) ch)
          · exact (congrArg Int32.toInt (sI_same w' 79 ((w'.1 61 5).toInt.toNat) (-1))).trans i_m1
          · refine ⟨?_, rfl, ?_⟩
            · show ((sI w' 77 ((w'.1 61 5).toInt.toNat) ch).1 77 j.toNat).toInt = _
              rw [sI_ne _ _ _ _ _ (by omega)]
              rfl
            · show ((sI w' 79 ((w'.1 61 5).toInt.toNat) (-1)).1 79 j.toNat).toInt = _
              rw [sI_ne _ _ _ _ _ (by omega)]
              rfl
theorem ex_all {v : MW} (hv : BND v) (hT : ∀ m, 0 ≤ m → m < ndC v → GTm v m) (d : Nat) : ExR v (d : Int) (pn_Ru_expandAllm108 d) := by
  induction d with
  | zero => intro f dep w Q H S k h0 h1; omega
  | succ d ih =>
    intro f dep w Q H S k h0 h1 hC hI hF hr p1 pS d0 dH hQ
    rw [pe_Ru_expandAllm108]
    have s0 := CHn.pos (fun x p => p.2.1) k _ _ hC
    have hRd : -1 ≤ H → ExR v (H + 2) (pn_Ru_expandAllm108 d) := fun _ f' dep' w' Q' H' S' k' a1 a2 => ih f' dep' w' Q' H' S' k' a1 (by omega)
    exact Eq.mpr (pb_Ru_expandAllm108.eq_1 _ _ _ _ _) (ex_11 hv hT hRd hF hr p1 pS d0 dH (fun r w' t => hQ r w' t) FU (-1) (-1) f 0 S k w hC ⟨⟨hI, FR.refl _ w⟩, ⟨Int.le_refl _, Int.le_refl _, by rw [i_0]; omega⟩, fun j _ _ => ⟨rfl, rfl, rfl⟩, fun j j0 j1 => by omega, Or.inl ⟨i_m1, i_m1, rfl, rfl⟩⟩ (by decide) (fu_lt (by decide)))
