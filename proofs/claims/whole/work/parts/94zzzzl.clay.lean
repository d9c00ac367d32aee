/-! the class lays a program out -/
def LyC (ns : List Nod) (w : MW) (l : List Nat) (p : Nat) (h : Int) (q : Nat) : Prop := ∃ k, LayA ns (fun j => (w.1 77 j).toInt) (fun j => (w.1 78 j).toInt) (fun j => (w.1 79 j).toInt) k l p h q
/-- a chain of nodes has the nodes of its list -/
def EyO (ns : List Nod) (S : Int) (l : List Nat) (w : MW) (r : Int32) (w' : MW) : Prop := BND w' ∧ FR lex w w' ∧ pts w ≤ pts w' ∧ pts w' ≤ pts w + S ∧ (∀ j : Nat, (j : Int) < pts w → w'.1 77 j = w.1 77 j ∧ w'.1 78 j = w.1 78 j ∧ w'.1 79 j = w.1 79 j) ∧ LyC ns w' l (pts w).toNat r.toInt (pts w').toNat
def EyR (v : MW) (ns : List Nod) (N : Int) (R : MW → Int32 → Int32 → (Int32 → MW → Prop) → Prop) : Prop := ∀ (f dep : Int32) (w : MW) (Q : Int32 → MW → Prop) (H S : Int) (k : Nat) (b : Prop) (l : List Nat), -2 ≤ H → H + 2 < N → CHn v (Pch v H b) k f.toInt S → CHc v l f.toInt → (∀ c ∈ l, OwA ns c) → BND w → FR lex v w → w.2.2 61 3 = some 108 → 1 ≤ pts w → pts w + S ≤ 501 → 0 ≤ dep.toInt → dep.toInt + H ≤ 90 → (∀ r w', EyO ns S l w r w' → Q r w') → R w f dep Q
/-- what the class's program is told by -/
def PGv (v : MW) (ns : List Nod) (nm : List Nm) : Prop := SzC v ns ∧ KOn ns ∧ NWf (lkn nm) ns ∧ NmC v nm ∧ PNc v ns ∧ ∀ (i : Nat) (x : Nm), nm[i]? = some x → 0 ≤ x.2.2.2 → (∃ d, ns[x.2.2.2.toNat]? = some d ∧ d.1 = 35) ∧ (v.1 114 x.2.2.2.toNat).toInt = -1
def EyL (ns : List Nod) (S : Int) (w : MW) (l0 : List Nat) (hd bf : Int32) (S' i : Int) (w' : MW) : Prop := (BND w' ∧ FR lex w w') ∧ (pts w ≤ pts w' ∧ pts w' + S' ≤ pts w + S ∧ i + S' ≤ S) ∧ (∀ j : Nat, (j : Int) < pts w → w'.1 77 j = w.1 77 j ∧ w'.1 78 j = w.1 78 j ∧ w'.1 79 j = w.1 79 j) ∧ ((bf.toInt = -1 ∧ hd.toInt = -1 ∧ pts w' = pts w ∧ l0 = []) ∨ (0 ≤ bf.toInt ∧ bf.toInt < pts w' ∧ pts w ≤ bf.toInt ∧ (w'.1 79 bf.toInt.toNat).toInt = -1 ∧ LayB ns (fun j => (w'.1 77 j).toInt) (fun j => (w'.1 78 j).toInt) (fun j => (w'.1 79 j).toInt) l0 (pts w).toNat hd.toInt bf.toInt.toNat (pts w').toNat))
theorem ey_11 {v w : MW} {ns : List Nod} {nm : List Nm} {b : Prop} {dep : Int32} {S H : Int} {L : List Nat} {R : MW → Int32 → Int32 → (Int32 → MW → Prop) → Prop} {E Q : Int32 → MW → Prop} (hv : BND v) (hT : ∀ m, 0 ≤ m → m < ndC v → GTm v m) (hG : PGv v ns nm) (hR : -1 ≤ H → EyR v ns (H + 2) R) (hF : FR lex v w) (hr : w.2.2 61 3 = some 108) (p1 : 1 ≤ pts w) (pS : pts w + S ≤ 501) (d0 : 0 ≤ dep.toInt) (dH : dep.toInt + H ≤ 90) (hE : ∀ r w', EyO ns S L w r w' → E r w') (n : Nat) : ∀ (hd bf ch i : Int32) (S' : Int) (k : Nat) (l0 l : List Nat) (w' : MW), CHn v (Pch v H b) k ch.toInt S' → CHc v l ch.toInt → (∀ c ∈ l, OwA ns c) → l0 ++ l = L → EyL ns S w l0 hd bf S' i.toInt w' → 0 ≤ i.toInt → (501 - i.toInt).toNat < n → q_Ru_expandAllm108_11 R dep E Q n hd bf ch i w' := by
  induction n with
  | zero =>
    intro hd bf ch i S' k l0 l w' hC hX hO eL hL i0 hm
    have := CHn.pos (fun x p => p.2.1) k _ _ hC
    have := hL.2.1
    omega
  | succ n ih =>
    intro hd bf ch i S' k l0 l w' hC hX hO eL hL i0 hm
    have s0 := CHn.pos (fun x p => p.2.1) k _ _ hC
    have A := hL.2.1
    have stop : ch.toInt < 0 → E hd w' := fun c => by
      have l00 : l = [] := by
        cases l with
        | nil => rfl
        | cons y ys =>
          have := hX.1
          omega
      rw [l00, List.append_nil] at eL
      refine hE hd w' ⟨hL.1.1, hL.1.2, A.1, by omega, hL.2.2.1, ?_⟩
      rcases hL.2.2.2 with ⟨a1, a2, a3, a4⟩ | ⟨a1, a2, a3, a4, a5⟩
      · refine ⟨1, ?_⟩
        rw [← eL, a4, LayA_n, a3]
        exact ⟨a2, rfl⟩
      · rw [← eL]
        exact LayB_e _ _ _ _ _ a5 a4
    rw [q_Ru_expandAllm108_11.eq_2]
    by_cases cc : ch.toInt < 0
    · exact ⟨fun _ => stop cc, fun _ => ⟨fun _ => stop cc, fun c => absurd cc c⟩⟩
    · cases k with
      | zero => exact absurd hC.1 (by omega)
      | succ k =>
        have X := hC.resolve_left (fun q => by have := q.1; omega)
        have Px := X.2.1
        have Px1 := Px.1.1
        have Pxb := Px.1.2
        have Px2 := Px.2.1
        have s1 := CHn.pos (fun x p => p.2.1) k _ _ X.2.2
        obtain ⟨lo, lo0, lom, T⟩ := hT ch.toInt X.1 Px1
        have T3 := T.2.2.1
        have H1 : -1 ≤ H := by
          by_cases e : yK v ch.toInt = 35
          · have := Px.2.2.1 e
            omega
          · have := Px.2.2.2 e
            omega
        cases l with
        | nil =>
          have z : ch.toInt = -1 := hX
          omega
        | cons c cs =>
          have ec : ch.toInt = (c : Int) := hX.1
          have cn : ch.toInt.toNat = c := by omega
          have hX2 : CHc v cs (v.1 114 c).toInt := hX.2
          obtain ⟨dc, hdc, odc⟩ := hO c List.mem_cons_self
          have sz := hG.1 c dc hdc odc
          have pn := hG.2.2.2.2.1.2 c dc hdc
          have hpts : (w'.1 61 5).toInt = pts w' := rfl
          have b5 := bd_61_5 hL.1.1
          have bc := bd_108_1 hv
          have hnd : (v.1 108 1).toInt = ndC v := rfl
          have gp : 0 ≤ (w'.1 61 5).toInt ∧ (w'.1 61 5).toInt < 501 := ⟨by omega, by omega⟩
          have sp := ti_add2 (Eq.refl (w'.1 61 5).toInt) i_1 (by omega) (by omega)
          have si := ti_add2 (Eq.refl i.toInt) i_1 (by omega) (by omega)
          have sd := ti_add2 (Eq.refl dep.toInt) i_1 (by omega) (by omega)
          have Fv : FR lex v w' := hF.tr hL.1.2 rfl
          have r108 : w'.2.2 61 3 = some 108 := ((hL.1.2 61 3 rfl).2.2).trans hr
          have eL2 : (l0 ++ [c]) ++ cs = L := by rw [List.append_assoc]; exact eL
          have qn : (pts w').toNat = (w'.1 61 5).toInt.toNat := rfl
          have K93 : ∀ (hd' : Int32) (wa : MW), BND wa → FR lex w' wa → pts wa = pts w' + 1 → (wa.1 77 (pts w').toNat).toInt = ch.toInt → (wa.1 79 (pts w').toNat).toInt = -1 → (∀ j : Nat, (j : Int) < pts w' → wa.1 77 j = w'.1 77 j ∧ wa.1 78 j = w'.1 78 j ∧ (¬ (j : Int) = bf.toInt → wa.1 79 j = w'.1 79 j)) → (0 ≤ bf.toInt → (wa.1 79 bf.toInt.toNat).toInt = pts w') → hd'.toInt = pts w → (0 ≤ bf.toInt → hd' = hd) → q_Ru_expandAllm108_93 R dep hd' ch i (w'.1 61 5) wa (fun (x11_3 : Int32) (x11_4 : Int32) (x11_5 : Int32) (x11_6 : Int32) (w : MW) => q_Ru_expandAllm108_11 R dep E Q n x11_3 x11_4 x11_5 x11_6 w) E Q := fun hd' wa ha fa ea na xa ua xb hh hh2 => by
            have Fva : FR lex v wa := Fv.tr fa rfl
            have ra : wa.2.2 61 3 = some 108 := ((fa 61 3 rfl).2.2).trans r108
            have q109 : (wa.1 109 ch.toInt.toNat).toInt = yK v ch.toInt := by rw [(Fva 109 _ rfl).1]; rfl
            have q110 : (wa.1 110 ch.toInt.toNat).toInt = yA v ch.toInt := by rw [(Fva 110 _ rfl).1]; rfl
            have q113 : (wa.1 113 ch.toInt.toNat).toInt = yI v ch.toInt := by rw [(Fva 113 _ rfl).1]; rfl
            have k109 : yK v ch.toInt = dc.1 := by
              show (v.1 109 ch.toInt.toNat).toInt = dc.1
              rw [cn]
              exact pn.1
            have gc : 0 ≤ ch.toInt ∧ ch.toInt < 301 := ⟨X.1, by omega⟩
            have G : ∀ (g : Int32) (k2 : Nat), CHn v (Pch v (H - 1) (¬ b)) k2 g.toInt (yS v ch.toInt - 1) → CHc v (kdl ns c) g.toInt → (∀ x ∈ kdl ns c, OwA ns x) → R wa g (dep + (1 : Int32)) (fun r11 w11 => ((0 ≤ (w'.1 61 5).toInt ∧ (w'.1 61 5).toInt < 501) ∧ ((w11.2.2 61 3 = some 108) ∧ ((0 ≤ ch.toInt ∧ ch.toInt < 301) ∧ (q_Ru_expandAllm108_11 R dep E Q n hd' (w'.1 61 5) (w11.1 114 ch.toInt.toNat) (i + (1 : Int32)) (sI w11 78 ((w'.1 61 5).toInt.toNat) r11)))))) := fun g k2 hg hgc hgo => by
              refine hR H1 g _ wa _ (H - 1) (yS v ch.toInt - 1) k2 (¬ b) (kdl ns c) (by omega) (by omega) hg hgc hgo ha Fva ra (by omega) (by omega) (by omega) (by omega) (fun r11 w11 t => ⟨gp, ((t.2.1 61 3 rfl).2.2).trans ra, gc, ?_⟩)
              have t3 := t.2.2.1
              have t4 := t.2.2.2.1
              have Fv11 : FR lex v w11 := Fva.tr t.2.1 rfl
              have q114 : (w11.1 114 ch.toInt.toNat).toInt = yX v ch.toInt := by rw [(Fv11 114 _ rfl).1]; rfl
              have y114 : yX v ch.toInt = (v.1 114 c).toInt := by
                show (v.1 114 ch.toInt.toNat).toInt = _
                rw [cn]
              have b11 := bd_61_5 t.1
              have h11 : (w11.1 61 5).toInt = pts w11 := rfl
              have U := t.2.2.2.2.1
              obtain ⟨kL, hLay⟩ := t.2.2.2.2.2
              have lle := LayA_le _ _ _ _ _ hLay
              have rb : -1 ≤ r11.toInt ∧ r11.toInt ≤ 500 := by
                by_cases z : kdl ns c = []
                · have := lle.2.2 z
                  omega
                · have := lle.2.1 z
                  omega
              generalize hq : (w'.1 61 5).toInt.toNat = q at *
              have qi : (q : Int) = pts w' := by omega
              have f78 : ∀ j : Nat, ¬ j = q → (sI w11 78 q r11).1 78 j = w11.1 78 j := fun j hj => sI_ne _ _ _ _ _ hj
              have f78q : ((sI w11 78 q r11).1 78 q).toInt = r11.toInt := by rw [sI_same]
              have f77 : ∀ j : Nat, (sI w11 78 q r11).1 77 j = w11.1 77 j := fun j => sI_oth _ _ _ _ _ _ (by decide)
              have f79 : ∀ j : Nat, (sI w11 78 q r11).1 79 j = w11.1 79 j := fun j => sI_oth _ _ _ _ _ _ (by decide)
              have ept : pts (sI w11 78 q r11) = pts w11 := rfl
              have pwa : (pts wa).toNat = q + 1 := by omega
              rw [pwa] at hLay
              have Nq : ((sI w11 78 q r11).1 77 q).toInt = (c : Int) := by
                rw [f77, (U q (by omega)).1, ← ec, ← na, qn]
              have Xq : ((sI w11 78 q r11).1 79 q).toInt = -1 := by
                rw [f79, (U q (by omega)).2.2, ← xa, qn]
              have LA : LayA ns (fun j => ((sI w11 78 q r11).1 77 j).toInt) (fun j => ((sI w11 78 q r11).1 78 j).toInt) (fun j => ((sI w11 78 q r11).1 79 j).toInt) kL (kdl ns c) (q + 1) ((fun j : Nat => ((sI w11 78 q r11).1 78 j).toInt) q) (pts w11).toNat := by
                show LayA ns _ _ _ kL (kdl ns c) (q + 1) ((sI w11 78 q r11).1 78 q).toInt (pts w11).toNat
                rw [f78q]
                exact LayA_g _ _ _ _ _ hLay (fun j j0 j1 => ⟨by rw [f77], by rw [f78 j (by omega)], by rw [f79]⟩)
              refine ih hd' _ _ _ (S' - yS v ch.toInt) k (l0 ++ [c]) cs _ (by rw [q114]; exact X.2.2) (by rw [q114, y114]; exact hX2) (fun x hx => hO x (List.mem_cons_of_mem _ hx)) eL2 ⟨⟨wbd_78 t.1 _ rb.1 rb.2, FR.I ((hL.1.2.tr fa rfl).tr t.2.1 rfl) rfl⟩, ⟨by omega, by omega, by omega⟩, fun j hj => ?_, Or.inr ⟨by omega, by omega, by omega, ?_, ?_⟩⟩ (by omega) (by omega)
              · have a := hL.2.2.1 j hj
                have nb : ¬ (j : Int) = bf.toInt := by
                  rcases hL.2.2.2 with z | z
                  · omega
                  · have := z.2.2.1
                    omega
                have b := ua j (by omega)
                have c := U j (by omega)
                rw [f77, f78 j (by omega), f79]
                exact ⟨(c.1.trans b.1).trans a.1, (c.2.1.trans b.2.1).trans a.2.1, (c.2.2.trans (b.2.2 nb)).trans a.2.2⟩
              · rw [hq]
                exact Xq
              · rw [hq, ept]
                rcases hL.2.2.2 with ⟨a1, a2, a3, a4⟩ | ⟨a1, a2, a3, a4, a5⟩
                · have e1 : l0 ++ [c] = [c] := by rw [a4]; rfl
                  rw [e1, show (pts w).toNat = q by omega, show hd'.toInt = (q : Int) by omega]
                  exact LayB_1 Nq LA
                · have a5' := LayB_g (N' := fun j => ((sI w11 78 q r11).1 77 j).toInt) (F' := fun j => ((sI w11 78 q r11).1 78 j).toInt) (X' := fun j => ((sI w11 78 q r11).1 79 j).toInt) _ _ _ _ _ a5 (fun j j0 j1 => by
                    have jq : j < q := by omega
                    have b := ua j (by omega)
                    have c := U j (by omega)
                    refine ⟨?_, ?_, fun nj => ?_⟩
                    · show ((sI w11 78 q r11).1 77 j).toInt = _
                      rw [f77, c.1, b.1]
                    · show ((sI w11 78 q r11).1 78 j).toInt = _
                      rw [f78 j (by omega), c.2.1, b.2.1]
                    · show ((sI w11 78 q r11).1 79 j).toInt = _
                      rw [f79, c.2.2, b.2.2 (by omega)])
                  rw [show (pts w').toNat = q by omega] at a5'
                  rw [hh2 a1]
                  refine LayB_s _ _ _ _ _ a5' ?_ Nq LA
                  show ((sI w11 78 q r11).1 79 bf.toInt.toNat).toInt = (q : Int)
                  rw [f79, (U bf.toInt.toNat (by omega)).2.2, xb a1]
                  omega
            refine Eq.mpr (q_Ru_expandAllm108_93.eq_1 _ _ _ _ _ _ _ _ _ _) ⟨ra, Eq.mpr (p_Pr_firstBlocks108.eq_1 _ _ _) ⟨gc, ?_⟩⟩
            rw [q109]
            refine ⟨fun n23 => ⟨gc, ?_⟩, fun y23 => ⟨gc, ?_⟩⟩
            · obtain ⟨k2, hk2⟩ := T.2.2.2.2.2.1 n23 (by omega)
              have hP : ∀ x, 0 ≤ x → Pc v lo ch.toInt x → Pch v (H - 1) (¬ b) x ∧ yX v x = yX v x ∧ yS v x = yS v x := fun x x0 p => by
                have pl := p.1
                have cls : yK v x = 35 ↔ ¬ b := by
                  rw [← Pxb]
                  exact ⟨fun e z => (p.2.2.1 z).1 e, fun z => (p.2.2.2 z).1⟩
                refine ⟨⟨⟨by omega, cls⟩, p.2.1, fun e => ?_, fun e => ?_⟩, rfl, rfl⟩
                · by_cases z : yK v ch.toInt = 35
                  · exact absurd e (p.2.2.1 z).1
                  · have a := (p.2.2.2 z).2
                    have b := Px.2.2.2 z
                    omega
                · by_cases z : yK v ch.toInt = 35
                  · have a := (p.2.2.1 z).2
                    have b := Px.2.2.1 z
                    omega
                  · exact absurd (p.2.2.2 z).1 e
              have hC2 := CHn.mp hP k2 _ _ hk2
              have n23' : ¬ dc.1 = 23 := by omega
              refine G _ k2 (by rw [q113]; exact hC2) ?_ ?_
              · rw [kdl_o hdc n23', q113]
                have e3 : yI v ch.toInt = (v.1 113 c).toInt := by
                  show (v.1 113 ch.toInt.toNat).toInt = _
                  rw [cn]
                rw [e3]
                exact sz.2.2.2.1
              · rw [kdl_o hdc n23']
                exact fun x hx => owb_a (hG.2.1 c dc hdc odc x hx)
            · have k23 : yK v ch.toInt = 23 := by omega
              have D := T.2.2.2.2.2.2 k23
              have a39 := T.1 (by omega)
              have q119 : (wa.1 119 ((wa.1 110 ch.toInt.toNat).toInt.toNat)).toInt = nbB v (yA v ch.toInt) := by rw [(Fva 119 _ rfl).1, q110]; rfl
              have z := Px.2.2.2 (by omega)
              have D9 := D.2.2.2.2.2.2.2.2
              have D8 := D.2.2.2.2.2.2.2.1 (by omega)
              have D4 := D.2.2.2.1
              have dk : dc.1 = 23 := by omega
              obtain ⟨_, ⟨l, u, el, e0⟩, _, _⟩ := (hG.2.2.1 c dc hdc).2 dk
              obtain ⟨ix, xn, hxn, ej, x10, xb2, b00⟩ := lkn_x el e0
              have nmx := hG.2.2.2.1.2.2 ix xn hxn
              have blk := hG.2.2.2.2.2 ix xn hxn (by omega)
              have eb : nbB v (yA v ch.toInt) = dc.2.2.1 := by
                have e1 : yA v ch.toInt = (ix : Int) := by
                  show (v.1 110 ch.toInt.toNat).toInt = _
                  rw [cn, pn.2.1]
                  exact ej
                rw [e1]
                show (v.1 119 ((ix : Int)).toNat).toInt = _
                rw [show ((ix : Int)).toNat = ix by omega, nmx.2.2.2.1]
                exact xb2
              refine ⟨⟨by omega, by omega⟩, G _ 1 (by rw [q119]; exact Or.inr ⟨D.2.2.1, ⟨⟨by omega, ⟨fun _ z => by rw [← Pxb] at z; omega, fun _ => D.2.2.2.2.1⟩⟩, D.2.2.2.2.2.2.1, fun _ => by omega, fun e => absurd D.2.2.2.2.1 e⟩, D.2.2.2.2.2.1, by omega⟩) ?_ ?_⟩
              · rw [kdl_23 hdc dk, q119, eb]
                refine ⟨by omega, ?_⟩
                show (v.1 114 dc.2.2.1.toNat).toInt = -1
                rw [← xb2]
                exact blk.2
              · rw [kdl_23 hdc dk]
                intro x hx
                rw [List.mem_singleton.mp hx, ← xb2]
                obtain ⟨db, hdb, e35⟩ := blk.1
                exact ⟨db, hdb, by rw [e35]; decide⟩
          refine ⟨fun c => by omega, fun _ => ⟨fun c => absurd c cc, fun _ => ⟨fun c => by omega, fun _ => ⟨fun c => by omega, fun _ => ⟨gp, gp, fun cb => ?_, fun cb => ?_⟩⟩⟩⟩⟩
          · have B := hL.2.2.2.resolve_left (fun q => by omega)
            have hdw : hd.toInt = pts w := by
              have := (LayB_le _ _ _ _ _ B.2.2.2.2).2.2
              omega
            refine ⟨⟨cb, by omega⟩, K93 hd _ (wbd_79 (wbd_79 (wbd_77 (wbd_61_5 hL.1.1 (by omega) (by omega)) _ (by omega) (by omega)) _ (by decide) (by decide)) _ (by omega) (by omega)) (FR.I (FR.I (FR.I (FR.I (FR.refl lex w') rfl) rfl) rfl) rfl) sp ?_ ?_ (fun j hj => ?_) (fun _ => ?_) hdw (fun _ => rfl)⟩
            · exact congrArg Int32.toInt (sI_same (sI w' 61 5 ((w'.1 61 5) + (1 : Int32))) 77 ((w'.1 61 5).toInt.toNat) ch)
            · show ((sI (sI w' 79 ((w'.1 61 5).toInt.toNat) (-1)) 79 bf.toInt.toNat (w'.1 61 5)).1 79 (w'.1 61 5).toInt.toNat).toInt = -1
              rw [sI_ne _ _ _ _ _ (by omega), sI_same]
              exact i_m1
            · refine ⟨?_, rfl, fun nj => ?_⟩
              · show (sI w' 77 ((w'.1 61 5).toInt.toNat) ch).1 77 j = _
                rw [sI_ne _ _ _ _ _ (by omega)]
              · show (sI (sI w' 79 ((w'.1 61 5).toInt.toNat) (-1)) 79 bf.toInt.toNat (w'.1 61 5)).1 79 j = _
                rw [sI_ne _ _ _ _ _ (by omega), sI_ne _ _ _ _ _ (by omega)]
            · exact congrArg Int32.toInt (sI_same _ 79 bf.toInt.toNat (w'.1 61 5))
          · have B : bf.toInt = -1 ∧ pts w' = pts w := by
              rcases hL.2.2.2 with a | a
              · exact ⟨a.1, a.2.2.1⟩
              · exact absurd a.1 cb
            refine K93 (w'.1 61 5) _ (wbd_79 (wbd_77 (wbd_61_5 hL.1.1 (by omega) (by omega)) _ (by omega) (by omega)) _ (by decide) (by decide)) (FR.I (FR.I (FR.I (FR.refl lex w') rfl) rfl) rfl) sp ?_ ?_ (fun j hj => ?_) (fun z => absurd z cb) (by omega) (fun z => absurd z cb)
            · exact congrArg Int32.toInt (sI_same (sI w' 61 5 ((w'.1 61 5) + (1 : Int32))) 77 ((w'.1 61 5).toInt.toNat) ch)
            · exact (congrArg Int32.toInt (sI_same w' 79 ((w'.1 61 5).toInt.toNat) (-1))).trans i_m1
            · refine ⟨?_, rfl, fun nj => ?_⟩
              · show (sI w' 77 ((w'.1 61 5).toInt.toNat) ch).1 77 j = _
                rw [sI_ne _ _ _ _ _ (by omega)]
              · show (sI w' 79 ((w'.1 61 5).toInt.toNat) (-1)).1 79 j = _
                rw [sI_ne _ _ _ _ _ (by omega)]
/-- THE CLASS LAYS A LIST OUT -/
theorem ey_all {v : MW} {ns : List Nod} {nm : List Nm} (hv : BND v) (hT : ∀ m, 0 ≤ m → m < ndC v → GTm v m) (hG : PGv v ns nm) (d : Nat) : EyR v ns (d : Int) (pn_Ru_expandAllm108 d) := by
  induction d with
  | zero => intro f dep w Q H S k b l h1 h2; omega
  | succ d ih =>
    intro f dep w Q H S k b l h1 h2 hC hX hO hI hF hr p1 pS d0 dH hQ
    rw [pe_Ru_expandAllm108, pb_Ru_expandAllm108.eq_1]
    have s0 := CHn.pos (fun x p => p.2.1) k _ _ hC
    refine ey_11 (L := l) (S := S) (H := H) hv hT hG (fun _ => fun f dep w Q H' S k b l a1 a2 => ih f dep w Q H' S k b l a1 (by omega)) hF hr p1 pS d0 dH (fun r w' t => hQ r w' t) FU (-1) (-1) f 0 S k [] l w hC hX hO rfl ⟨⟨hI, FR.refl _ _⟩, ⟨Int.le_refl _, Int.le_refl _, by rw [i_0]; omega⟩, fun j _ => ⟨rfl, rfl, rfl⟩, Or.inl ⟨by decide, by decide, rfl, rfl⟩⟩ (by decide) (fu_lt (by decide))
