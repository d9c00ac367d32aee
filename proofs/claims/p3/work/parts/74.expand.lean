/-! the class's run: expandAll -/
def lex : Pl := [(61, some 5), (77, none), (78, none), (79, none)]
def pN (w : MW) (j : Int) : Int := (w.1 77 j.toNat).toInt
def pFi (w : MW) (j : Int) : Int := (w.1 78 j.toNat).toInt
def pNx (w : MW) (j : Int) : Int := (w.1 79 j.toNat).toInt
def pts (w : MW) : Int := (w.1 61 5).toInt
def UBp (B : Int) (w w' : MW) : Prop := ∀ j : Int, 0 ≤ j → j < B → pN w' j = pN w j ∧ pFi w' j = pFi w j ∧ pNx w' j = pNx w j
theorem UBp.tr {B B2 : Int} {w w1 w2 : MW} (h : UBp B w w1) (h2 : UBp B2 w1 w2) (hb : B ≤ B2) : UBp B w w2 := fun j a b => by
  have p := h j a b
  have q := h2 j a (by omega)
  exact ⟨q.1.trans p.1, q.2.1.trans p.2.1, q.2.2.trans p.2.2⟩
def POx (v w : MW) (P j : Int) : Prop := (0 ≤ pN w j ∧ pN w j < ndC v) ∧ (pFi w j = -1 ∨ (j < pFi w j ∧ pFi w j < P)) ∧ (pNx w j = -1 ∨ (j < pNx w j ∧ pNx w j < P)) ∧ ((yK v (pN w j) = 17 ∨ yK v (pN w j) = 19 ∨ yK v (pN w j) = 20) → 1 ≤ pFi w j) ∧ (0 ≤ pFi w j → (yK v (pN w (pFi w j)) = 35 ↔ ¬ yK v (pN w j) = 35)) ∧ (0 ≤ pNx w j → (yK v (pN w (pNx w j)) = 35 ↔ yK v (pN w j) = 35))
theorem POx.up {v w w' : MW} {P P' j : Int} (h : POx v w P j) (en : ∀ i, 0 ≤ i → i < P → pN w' i = pN w i) (ef : pFi w' j = pFi w j) (ex : pNx w' j = pNx w j) (j0 : 0 ≤ j) (j1 : j < P) (hP : P ≤ P') : POx v w' P' j := by
  have h1 := h.2.1
  have h2 := h.2.2.1
  unfold POx
  rw [en j j0 j1, ef, ex]
  refine ⟨h.1, by omega, by omega, h.2.2.2.1, fun c => ?_, fun c => ?_⟩
  · rw [en _ c (by omega)]
    exact h.2.2.2.2.1 c
  · rw [en _ c (by omega)]
    exact h.2.2.2.2.2 c
def Pch (v : MW) (H : Int) (b : Prop) (x : Int) : Prop := (x < ndC v ∧ (yK v x = 35 ↔ b)) ∧ 1 ≤ yS v x ∧ (yK v x = 35 → 2 * yD v x - 1 ≤ H) ∧ (¬ yK v x = 35 → 2 * yD v x ≤ H)
def ExO (v : MW) (S f : Int) (w : MW) (r : Int32) (w' : MW) : Prop := BND w' ∧ FR lex w w' ∧ pts w ≤ pts w' ∧ pts w' ≤ pts w + S ∧ UBp (pts w) w w' ∧ (∀ j, pts w ≤ j → j < pts w' → POx v w' (pts w') j) ∧ (r.toInt = -1 ∨ (r.toInt = pts w ∧ pts w < pts w')) ∧ (0 ≤ f → r.toInt = pts w ∧ pts w < pts w' ∧ pN w' r.toInt = f) ∧ (f < 0 → r.toInt = -1)
def ExR (v : MW) (N : Int) (R : MW → Int32 → Int32 → (Int32 → MW → Prop) → Prop) : Prop := ∀ (f dep : Int32) (w : MW) (Q : Int32 → MW → Prop) (H S : Int) (k : Nat) (b : Prop), -2 ≤ H → H + 2 < N → CHn v (Pch v H b) k f.toInt S → BND w → FR lex v w → w.2.2 61 3 = some 108 → 1 ≤ pts w → pts w + S ≤ 501 → 0 ≤ dep.toInt → dep.toInt + H ≤ 90 → (∀ r w', ExO v S f.toInt w r w' → Q r w') → R w f dep Q
theorem CHn.pos {w : MW} {P : Int → Prop} (hp : ∀ x, P x → 1 ≤ yS w x) (k : Nat) : ∀ f S, CHn w P k f S → 0 ≤ S := by
  induction k with
  | zero => intro f S q; exact q.2
  | succ k ih =>
    intro f S q
    cases q with
    | inl a => exact a.2
    | inr a =>
      have := hp f a.2.1
      have := ih _ _ a.2.2
      omega
def ExL (v : MW) (b : Prop) (S : Int) (w : MW) (f : Int) (hd bf ch : Int32) (S' i : Int) (w' : MW) : Prop := (BND w' ∧ FR lex w w') ∧ (pts w ≤ pts w' ∧ pts w' + S' ≤ pts w + S ∧ i + S' ≤ S) ∧ UBp (pts w) w w' ∧ (∀ j, pts w ≤ j → j < pts w' → POx v w' (pts w') j) ∧ ((bf.toInt = -1 ∧ hd.toInt = -1 ∧ pts w' = pts w ∧ ch.toInt = f) ∨ (hd.toInt = pts w ∧ pts w ≤ bf.toInt ∧ bf.toInt < pts w' ∧ (yK v (pN w' bf.toInt) = 35 ↔ b) ∧ pN w' (pts w) = f))
theorem ex_11 {v w : MW} {b : Prop} {dep : Int32} {S H f : Int} {R : MW → Int32 → Int32 → (Int32 → MW → Prop) → Prop} {E Q : Int32 → MW → Prop} (hv : BND v) (hT : ∀ m, 0 ≤ m → m < ndC v → GTm v m) (hR : -1 ≤ H → ExR v (H + 2) R) (hF : FR lex v w) (hr : w.2.2 61 3 = some 108) (p1 : 1 ≤ pts w) (pS : pts w + S ≤ 501) (d0 : 0 ≤ dep.toInt) (dH : dep.toInt + H ≤ 90) (hE : ∀ r w', ExO v S f w r w' → E r w') (n : Nat) : ∀ (hd bf ch i : Int32) (S' : Int) (k : Nat) (w' : MW), CHn v (Pch v H b) k ch.toInt S' → ExL v b S w f hd bf ch S' i.toInt w' → 0 ≤ i.toInt → (501 - i.toInt).toNat < n → q_Ru_expandAllm108_11 R dep E Q n hd bf ch i w' := by
  induction n with
  | zero =>
    intro hd bf ch i S' k w' hC hL i0 hm
    have := CHn.pos (fun x p => p.2.1) k _ _ hC
    have := hL.2.1
    omega
  | succ n ih =>
    intro hd bf ch i S' k w' hC hL i0 hm
    have s0 := CHn.pos (fun x p => p.2.1) k _ _ hC
    have A := hL.2.1
    have stop : ch.toInt < 0 → E hd w' := fun c => hE hd w' ⟨hL.1.1, hL.1.2, A.1, by omega, hL.2.2.1, hL.2.2.2.1, by
      cases hL.2.2.2.2 with
      | inl a => left; exact a.2.1
      | inr a => right; exact ⟨a.1, by omega⟩, fun cf => by
      cases hL.2.2.2.2 with
      | inl a => omega
      | inr a => exact ⟨a.1, by omega, by rw [a.1]; exact a.2.2.2.2⟩, fun cf => by
      cases hL.2.2.2.2 with
      | inl a => exact a.2.1
      | inr a =>
        have z := (hL.2.2.2.1 (pts w) (Int.le_refl _) (by omega)).1.1
        have y := a.2.2.2.2
        omega⟩
    rw [q_Ru_expandAllm108_11.eq_2]
    by_cases cc : ch.toInt < 0
    · exact ⟨fun _ => stop cc, fun _ => ⟨fun _ => stop cc, fun c => absurd cc c⟩⟩
    · cases k with
      | zero => exact absurd hC.1 (by omega)
      | succ k =>
        have X := hC.resolve_left (fun q => by have := q.1; omega)
        have Px := X.2.1
        have Px1 := Px.1.1
        have Pxb := Px.1.2
        have Px2 := Px.2.1
        have s1 := CHn.pos (fun x p => p.2.1) k _ _ X.2.2
        obtain ⟨lo, lo0, lom, T⟩ := hT ch.toInt X.1 Px1
        have T3 := T.2.2.1
        have H1 : -1 ≤ H := by
          by_cases e : yK v ch.toInt = 35
          · have := Px.2.2.1 e
            omega
          · have := Px.2.2.2 e
            omega
        have hpts : (w'.1 61 5).toInt = pts w' := rfl
        have b5 := bd_61_5 hL.1.1
        have bc := bd_108_1 hv
        have hnd : (v.1 108 1).toInt = ndC v := rfl
        have gp : 0 ≤ (w'.1 61 5).toInt ∧ (w'.1 61 5).toInt < 501 := ⟨by omega, by omega⟩
        have sp := ti_add2 (Eq.refl (w'.1 61 5).toInt) i_1 (by omega) (by omega)
        have si := ti_add2 (Eq.refl i.toInt) i_1 (by omega) (by omega)
        have sd := ti_add2 (Eq.refl dep.toInt) i_1 (by omega) (by omega)
        have Fv : FR lex v w' := hF.tr hL.1.2 rfl
        have r108 : w'.2.2 61 3 = some 108 := ((hL.1.2 61 3 rfl).2.2).trans hr
        have K93 : ∀ (hd' : Int32) (wa : MW), BND wa → FR lex w' wa → pts wa = pts w' + 1 → pN wa (pts w') = ch.toInt → pNx wa (pts w') = -1 → UBp (pts w) w' wa → (∀ j, pts w ≤ j → j < pts w' → POx v wa (pts wa) j) → (∀ j, 0 ≤ j → j < pts w' → pN wa j = pN w' j) → hd'.toInt = pts w ∧ pN wa (pts w) = f → q_Ru_expandAllm108_93 R dep hd' ch i (w'.1 61 5) wa (fun (x11_3 : Int32) (x11_4 : Int32) (x11_5 : Int32) (x11_6 : Int32) (w : MW) => q_Ru_expandAllm108_11 R dep E Q n x11_3 x11_4 x11_5 x11_6 w) E Q := fun hd' wa ha fa ea na xa ua oa un hh => by
          have Fva : FR lex v wa := Fv.tr fa rfl
          have ra : wa.2.2 61 3 = some 108 := ((fa 61 3 rfl).2.2).trans r108
          have q109 : (wa.1 109 ch.toInt.toNat).toInt = yK v ch.toInt := by rw [(Fva 109 _ rfl).1]; rfl
          have q110 : (wa.1 110 ch.toInt.toNat).toInt = yA v ch.toInt := by rw [(Fva 110 _ rfl).1]; rfl
          have q113 : (wa.1 113 ch.toInt.toNat).toInt = yI v ch.toInt := by rw [(Fva 113 _ rfl).1]; rfl
          have gc : 0 ≤ ch.toInt ∧ ch.toInt < 301 := ⟨X.1, by omega⟩
          have G : ∀ (g : Int32) (k2 : Nat), CHn v (Pch v (H - 1) (¬ b)) k2 g.toInt (yS v ch.toInt - 1) → (0 ≤ g.toInt → (yK v g.toInt = 35 ↔ ¬ yK v ch.toInt = 35)) → ((yK v ch.toInt = 17 ∨ yK v ch.toInt = 19 ∨ yK v ch.toInt = 20) → 0 ≤ g.toInt) → R wa g (dep + (1 : Int32)) (fun r11 w11 => ((0 ≤ (w'.1 61 5).toInt ∧ (w'.1 61 5).toInt < 501) ∧ ((w11.2.2 61 3 = some 108) ∧ ((0 ≤ ch.toInt ∧ ch.toInt < 301) ∧ (q_Ru_expandAllm108_11 R dep E Q n hd' (w'.1 61 5) (w11.1 114 ch.toInt.toNat) (i + (1 : Int32)) (sI w11 78 ((w'.1 61 5).toInt.toNat) r11)))))) := fun g k2 hg hgk hk => by
            refine hR H1 g _ wa _ (H - 1) (yS v ch.toInt - 1) k2 (¬ b) (by omega) (by omega) hg ha Fva ra (by omega) (by omega) (by omega) (by omega) (fun r11 w11 t => ⟨gp, ((t.2.1 61 3 rfl).2.2).trans ra, gc, ?_⟩)
            have t3 := t.2.2.1
            have t4 := t.2.2.2.1
            have Fv11 : FR lex v w11 := Fva.tr t.2.1 rfl
            have q114 : (w11.1 114 ch.toInt.toNat).toInt = yX v ch.toInt := by rw [(Fv11 114 _ rfl).1]; rfl
            have b11 := bd_61_5 t.1
            have h11 : (w11.1 61 5).toInt = pts w11 := rfl
            have rb : -1 ≤ r11.toInt ∧ r11.toInt ≤ 500 := by
              have := t.2.2.2.2.2.2.1
              omega
            have e78 : ∀ j, 0 ≤ j → j ≠ pts w' → pFi (sI w11 78 ((w'.1 61 5).toInt.toNat) r11) j = pFi w11 j := fun j j0 j1 => by
              unfold pFi
              rw [sI_ne _ _ _ _ _ (by omega)]
            have e78s : pFi (sI w11 78 ((w'.1 61 5).toInt.toNat) r11) (pts w') = r11.toInt := by
              unfold pFi pts
              rw [sI_same]
            have e77 : ∀ j, pN (sI w11 78 ((w'.1 61 5).toInt.toNat) r11) j = pN w11 j := fun j => rfl
            have e79 : ∀ j, pNx (sI w11 78 ((w'.1 61 5).toInt.toNat) r11) j = pNx w11 j := fun j => rfl
            have ept : pts (sI w11 78 ((w'.1 61 5).toInt.toNat) r11) = pts w11 := rfl
            have U := t.2.2.2.2.1
            refine ih hd' _ _ _ (S' - yS v ch.toInt) k _ (by rw [q114]; exact X.2.2) ⟨⟨wbd_78 t.1 _ rb.1 rb.2, FR.I ((hL.1.2.tr fa rfl).tr t.2.1 rfl) rfl⟩, ⟨by omega, by omega, by omega⟩, fun j j0 j1 => ?_, fun j j0 j1 => ?_, Or.inr ⟨hh.1, by omega, by omega, ?_, ?_⟩⟩ (by omega) (by omega)
            · have a := hL.2.2.1 j j0 j1
              have b := ua j j0 j1
              have c := U j j0 (by omega)
              rw [e77, e79, e78 j j0 (by omega)]
              exact ⟨(c.1.trans b.1).trans a.1, (c.2.1.trans b.2.1).trans a.2.1, (c.2.2.trans b.2.2).trans a.2.2⟩
            · rw [ept] at j1 ⊢
              by_cases c1 : j < pts w'
              · have c := U j (by omega) (by omega)
                exact (oa j j0 c1).up (fun i i0 i1 => (U i i0 i1).1) (by rw [e78 j (by omega) (by omega)]; exact c.2.1) (by rw [e79]; exact c.2.2) (by omega) (by omega) t3
              · by_cases c2 : j = pts w'
                · have c := U (pts w') (by omega) (by omega)
                  rw [c2]
                  unfold POx
                  rw [e77, e79, e78s, e77, e77, c.1, na, c.2.2, xa]
                  refine ⟨⟨X.1, Px1⟩, ?_, Or.inl rfl, fun q => ?_, fun q => ?_, fun q => by omega⟩
                  · have := t.2.2.2.2.2.2.1
                    omega
                  · have z := t.2.2.2.2.2.2.2.1 (hk q)
                    omega
                  · by_cases g0 : 0 ≤ g.toInt
                    · have z := t.2.2.2.2.2.2.2.1 g0
                      rw [z.2.2]
                      exact hgk g0
                    · have z := t.2.2.2.2.2.2.2.2 (by omega)
                      omega
                · exact (t.2.2.2.2.2.1 j (by omega) j1).up (fun i i0 i1 => e77 i) (e78 j (by omega) c2) (e79 j) (by omega) j1 (Int.le_refl _)
            · rw [e77]
              have c := U (pts w') (by omega) (by omega)
              have eb : (w'.1 61 5).toInt = pts w' := rfl
              rw [eb, c.1, na]
              exact Pxb
            · rw [e77]
              have c := U (pts w) (by omega) (by omega)
              rw [c.1]
              exact hh.2
          refine Eq.mpr (q_Ru_expandAllm108_93.eq_1 _ _ _ _ _ _ _ _ _ _) ⟨ra, Eq.mpr (p_Pr_firstBlocks108.eq_1 _ _ _) ⟨gc, ?_⟩⟩
          rw [q109]
          refine ⟨fun n23 => ⟨gc, ?_⟩, fun y23 => ⟨gc, ?_⟩⟩
          · obtain ⟨k2, hk2⟩ := T.2.2.2.2.2.1 n23 (by omega)
            have q113' : (wa.1 113 ch.toInt.toNat).toInt = yI v ch.toInt := q113
            have hP : ∀ x, 0 ≤ x → Pc v lo ch.toInt x → Pch v (H - 1) (¬ b) x ∧ yX v x = yX v x ∧ yS v x = yS v x := fun x x0 p => by
              have pl := p.1
              have cls : yK v x = 35 ↔ ¬ b := by
                rw [← Pxb]
                exact ⟨fun e z => (p.2.2.1 z).1 e, fun z => (p.2.2.2 z).1⟩
              refine ⟨⟨⟨by omega, cls⟩, p.2.1, fun e => ?_, fun e => ?_⟩, rfl, rfl⟩
              · by_cases z : yK v ch.toInt = 35
                · exact absurd e (p.2.2.1 z).1
                · have a := (p.2.2.2 z).2
                  have b := Px.2.2.2 z
                  omega
              · by_cases z : yK v ch.toInt = 35
                · have a := (p.2.2.1 z).2
                  have b := Px.2.2.1 z
                  omega
                · exact absurd (p.2.2.2 z).1 e
            have hC2 := CHn.mp hP k2 _ _ hk2
            refine G _ k2 (by rw [q113']; exact hC2) (fun g0 => ?_) (fun q => by rw [q113']; exact T.2.2.2.2.1 q)
            rw [q113'] at g0 ⊢
            cases k2 with
            | zero =>
              have := hC2.1
              omega
            | succ k2 =>
              have z := hC2.resolve_left (fun q => by have := q.1; omega)
              have y := z.2.1.1.2
              rw [← Pxb] at y
              exact y
          · have k23 : yK v ch.toInt = 23 := by omega
            have D := T.2.2.2.2.2.2 k23
            have a39 := T.1 (by omega)
            have q119 : (wa.1 119 ((wa.1 110 ch.toInt.toNat).toInt.toNat)).toInt = nbB v (yA v ch.toInt) := by rw [(Fva 119 _ rfl).1, q110]; rfl
            have z := Px.2.2.2 (by omega)
            have D9 := D.2.2.2.2.2.2.2.2
            have D8 := D.2.2.2.2.2.2.2.1 (by omega)
            have D4 := D.2.2.2.1
            refine ⟨⟨by omega, by omega⟩, G _ 1 (by rw [q119]; exact Or.inr ⟨D.2.2.1, ⟨⟨by omega, ⟨fun _ z => by rw [← Pxb] at z; omega, fun _ => D.2.2.2.2.1⟩⟩, D.2.2.2.2.2.2.1, fun _ => by omega, fun e => absurd D.2.2.2.2.1 e⟩, D.2.2.2.2.2.1, by omega⟩) (fun _ => by rw [q119]; exact ⟨fun _ => by omega, fun _ => D.2.2.2.2.1⟩) (fun q => by omega)⟩
        refine ⟨fun c => by omega, fun _ => ⟨fun c => absurd c cc, fun _ => ⟨fun c => by omega, fun _ => ⟨fun c => by omega, fun _ => ⟨gp, gp, fun cb => ?_, fun cb => ?_⟩⟩⟩⟩⟩
        · have B := hL.2.2.2.2.resolve_left (fun q => by omega)
          refine ⟨⟨cb, by omega⟩, K93 hd _ (wbd_79 (wbd_79 (wbd_77 (wbd_61_5 hL.1.1 (by omega) (by omega)) _ (by omega) (by omega)) _ (by decide) (by decide)) _ (by omega) (by omega)) (FR.I (FR.I (FR.I (FR.I (FR.refl lex w') rfl) rfl) rfl) rfl) sp ?_ ?_ (fun j j0 j1 => ?_) (fun j j0 j1 => ?_) (fun j j0 j1 => ?_) ⟨B.1, ?_⟩⟩
          · exact congrArg Int32.toInt (sI_same (sI w' 61 5 ((w'.1 61 5) + (1 : Int32))) 77 ((w'.1 61 5).toInt.toNat) ch)
          · show ((sI (sI w' 79 ((w'.1 61 5).toInt.toNat) (-1)) 79 bf.toInt.toNat (w'.1 61 5)).1 79 (w'.1 61 5).toInt.toNat).toInt = -1
            rw [sI_ne _ _ _ _ _ (by omega), sI_same]
            exact i_m1
          · refine ⟨?_, rfl, ?_⟩
            · show ((sI w' 77 ((w'.1 61 5).toInt.toNat) ch).1 77 j.toNat).toInt = _
              rw [sI_ne _ _ _ _ _ (by omega)]
              rfl
            · show ((sI (sI w' 79 ((w'.1 61 5).toInt.toNat) (-1)) 79 bf.toInt.toNat (w'.1 61 5)).1 79 j.toNat).toInt = _
              rw [sI_ne _ _ _ _ _ (by omega), sI_ne _ _ _ _ _ (by omega)]
              rfl
          · have O := hL.2.2.2.1 j j0 j1
            have en : ∀ i, 0 ≤ i → i < pts w' → pN (sI (sI (sI (sI w' 61 5 ((w'.1 61 5) + (1 : Int32))) 77 ((w'.1 61 5).toInt.toNat) ch) 79 ((w'.1 61 5).toInt.toNat) (-1)) 79 bf.toInt.toNat (w'.1 61 5)) i = pN w' i := fun i i0 i1 => by
              show ((sI w' 77 ((w'.1 61 5).toInt.toNat) ch).1 77 i.toNat).toInt = _
              rw [sI_ne _ _ _ _ _ (by omega)]
              rfl
            have ef : pFi (sI (sI (sI (sI w' 61 5 ((w'.1 61 5) + (1 : Int32))) 77 ((w'.1 61 5).toInt.toNat) ch) 79 ((w'.1 61 5).toInt.toNat) (-1)) 79 bf.toInt.toNat (w'.1 61 5)) j = pFi w' j := rfl
            have epp : pts (sI (sI (sI (sI w' 61 5 ((w'.1 61 5) + (1 : Int32))) 77 ((w'.1 61 5).toInt.toNat) ch) 79 ((w'.1 61 5).toInt.toNat) (-1)) 79 bf.toInt.toNat (w'.1 61 5)) = pts w' + 1 := sp
            by_cases z : j = bf.toInt
            · have ex : pNx (sI (sI (sI (sI w' 61 5 ((w'.1 61 5) + (1 : Int32))) 77 ((w'.1 61 5).toInt.toNat) ch) 79 ((w'.1 61 5).toInt.toNat) (-1)) 79 bf.toInt.toNat (w'.1 61 5)) j = pts w' := by
                rw [z]
                exact congrArg Int32.toInt (sI_same _ 79 bf.toInt.toNat (w'.1 61 5))
              have O2 := O.2.1
              unfold POx
              rw [en j (by omega) (by omega), ef, ex, epp]
              refine ⟨O.1, by omega, Or.inr ⟨by omega, by omega⟩, O.2.2.2.1, fun c => ?_, fun c => ?_⟩
              · rw [en _ c (by omega)]
                exact O.2.2.2.2.1 c
              · have e9 : pN (sI (sI (sI (sI w' 61 5 ((w'.1 61 5) + (1 : Int32))) 77 ((w'.1 61 5).toInt.toNat) ch) 79 ((w'.1 61 5).toInt.toNat) (-1)) 79 bf.toInt.toNat (w'.1 61 5)) (pts w') = ch.toInt := congrArg Int32.toInt (sI_same (sI w' 61 5 ((w'.1 61 5) + (1 : Int32))) 77 ((w'.1 61 5).toInt.toNat) ch)
                rw [e9, z]
                exact Pxb.trans B.2.2.2.1.symm
            · have ex : pNx (sI (sI (sI (sI w' 61 5 ((w'.1 61 5) + (1 : Int32))) 77 ((w'.1 61 5).toInt.toNat) ch) 79 ((w'.1 61 5).toInt.toNat) (-1)) 79 bf.toInt.toNat (w'.1 61 5)) j = pNx w' j := by
                show ((sI (sI w' 79 ((w'.1 61 5).toInt.toNat) (-1)) 79 bf.toInt.toNat (w'.1 61 5)).1 79 j.toNat).toInt = _
                rw [sI_ne _ _ _ _ _ (by omega), sI_ne _ _ _ _ _ (by omega)]
                rfl
              exact O.up en ef ex (by omega) j1 (by rw [epp]; omega)
          · show ((sI w' 77 ((w'.1 61 5).toInt.toNat) ch).1 77 j.toNat).toInt = _
            rw [sI_ne _ _ _ _ _ (by omega)]
            rfl
          · show ((sI w' 77 ((w'.1 61 5).toInt.toNat) ch).1 77 (pts w).toNat).toInt = _
            rw [sI_ne _ _ _ _ _ (by omega)]
            exact B.2.2.2.2
        · have B : bf.toInt = -1 ∧ pts w' = pts w ∧ ch.toInt = f := by
            cases hL.2.2.2.2 with
            | inl a => exact ⟨a.1, a.2.2.1, a.2.2.2⟩
            | inr a => omega
          refine K93 (w'.1 61 5) _ (wbd_79 (wbd_77 (wbd_61_5 hL.1.1 (by omega) (by omega)) _ (by omega) (by omega)) _ (by decide) (by decide)) (FR.I (FR.I (FR.I (FR.refl lex w') rfl) rfl) rfl) sp ?_ ?_ (fun j j0 j1 => ?_) (fun j j0 j1 => by omega) (fun j j0 j1 => ?_) ⟨by omega, ?_⟩
          · exact congrArg Int32.toInt (sI_same (sI w' 61 5 ((w'.1 61 5) + (1 : Int32))) 77 ((w'.1 61 5).toInt.toNat) ch)
          · exact (congrArg Int32.toInt (sI_same w' 79 ((w'.1 61 5).toInt.toNat) (-1))).trans i_m1
          · refine ⟨?_, rfl, ?_⟩
            · show ((sI w' 77 ((w'.1 61 5).toInt.toNat) ch).1 77 j.toNat).toInt = _
              rw [sI_ne _ _ _ _ _ (by omega)]
              rfl
            · show ((sI w' 79 ((w'.1 61 5).toInt.toNat) (-1)).1 79 j.toNat).toInt = _
              rw [sI_ne _ _ _ _ _ (by omega)]
              rfl
          · show ((sI w' 77 ((w'.1 61 5).toInt.toNat) ch).1 77 j.toNat).toInt = _
            rw [sI_ne _ _ _ _ _ (by omega)]
            rfl
          · show ((sI w' 77 ((w'.1 61 5).toInt.toNat) ch).1 77 (pts w).toNat).toInt = _
            have e0 : (pts w).toNat = (w'.1 61 5).toInt.toNat := by omega
            rw [e0, sI_same]
            exact B.2.2
theorem ex_all {v : MW} (hv : BND v) (hT : ∀ m, 0 ≤ m → m < ndC v → GTm v m) (d : Nat) : ExR v (d : Int) (pn_Ru_expandAllm108 d) := by
  induction d with
  | zero => intro f dep w Q H S k b h0 h1; omega
  | succ d ih =>
    intro f dep w Q H S k b h0 h1 hC hI hF hr p1 pS d0 dH hQ
    rw [pe_Ru_expandAllm108]
    have s0 := CHn.pos (fun x p => p.2.1) k _ _ hC
    have hRd : -1 ≤ H → ExR v (H + 2) (pn_Ru_expandAllm108 d) := fun _ f' dep' w' Q' H' S' k' b' a1 a2 => ih f' dep' w' Q' H' S' k' b' a1 (by omega)
    exact Eq.mpr (pb_Ru_expandAllm108.eq_1 _ _ _ _ _) (ex_11 hv hT hRd hF hr p1 pS d0 dH (fun r w' t => hQ r w' t) FU (-1) (-1) f 0 S k w hC ⟨⟨hI, FR.refl _ w⟩, ⟨Int.le_refl _, Int.le_refl _, by rw [i_0]; omega⟩, fun j _ _ => ⟨rfl, rfl, rfl⟩, fun j j0 j1 => by omega, Or.inl ⟨i_m1, i_m1, rfl, rfl⟩⟩ (by decide) (fu_lt (by decide)))
