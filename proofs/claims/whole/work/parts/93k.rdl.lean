/-! the class reads a line of a plant -/
def lat : Pl := [(91, some 10), (91, some 11)]
theorem cf_fr {l : Pl} {w w' : MW} (hF : FR l w w') (ho : off l [(1, some 2), (2, none)] = true) : cf w' = cf w := by
  funext p
  unfold cf
  rw [(hF 1 2 (off_hit ho rfl)).1, (hF 2 (p.toNat / 4) (off_hit ho rfl)).1]
/-- a world in which the reader stands at q -/
def RdA (w0 : MW) (w : MW) (q : Int) : Prop := BND w ∧ FR lat w0 w ∧ w.2.2 91 9 = some 1 ∧ (w.1 91 10).toInt = q
theorem rda_cf {w0 w : MW} {q : Int} (h : RdA w0 w q) : cf w = cf w0 := cf_fr h.2.1 rfl
theorem rda_tk {w0 w : MW} {p q : Int} (h : RdA w0 w p) (q0 : 0 ≤ q) (q1 : q ≤ 4000) : RdA w0 (sI w 91 10 (tI q)) q := by
  have t := tI_t (n := q) (by omega) (by omega)
  refine ⟨wbd_91_10 h.1 (by omega) (by omega), FR.I h.2.1 rfl, h.2.2.1, ?_⟩
  rw [sI_same, t]
theorem rda_nm {w0 w : MW} {p q v : Int} (h : RdA w0 w p) (v0 : -1 ≤ v) (v1 : v ≤ 9999999) (q0 : 0 ≤ q) (q1 : q ≤ 4000) : RdA w0 (sI (sI w 91 11 (tI v)) 91 10 (tI q)) q ∧ ((sI (sI w 91 11 (tI v)) 91 10 (tI q)).1 91 11).toInt = v := by
  have t := tI_t (n := q) (by omega) (by omega)
  have tv := tI_t (n := v) (by omega) (by omega)
  refine ⟨⟨wbd_91_10 (wbd_91_11 h.1 (by omega) (by omega)) (by omega) (by omega), FR.I (FR.I h.2.1 rfl) rfl, h.2.2.1, ?_⟩, ?_⟩
  · rw [sI_same, t]
  · rw [sI_ne _ _ _ _ _ (by decide), sI_same, tv]
/-- a line of a plant: what it tells (-1 where it is wrong), its numbers, and where the reader stands behind it -/
def lnN (f : Int → Int) (k : Int) (l : List Int) (p : Int) : Int × Int × Int × Int × Int := if (tks f l p).1 = true then (if (dgs f 7 0 0 (tks f l p).2).1 = 0 then (-1, 0, 0, 0, (dgs f 7 0 0 (tks f l p).2).2.2) else if f (dgs f 7 0 0 (tks f l p).2).2.2 = 10 then (k, (dgs f 7 0 0 (tks f l p).2).2.1, 0, 0, (dgs f 7 0 0 (tks f l p).2).2.2) else (-1, 0, 0, 0, (dgs f 7 0 0 (tks f l p).2).2.2)) else (-1, 0, 0, 0, (tks f l p).2)
theorem rl_num {w0 w : MW} {p : Int} {Q : Int32 → MW → Prop} (h : RdA w0 w p) (hQ : ∀ w', (w'.1 91 11).toInt = (dgs (cf w0) 7 0 0 p).2.1 → 0 ≤ (w'.1 91 11).toInt → RdA w0 w' (dgs (cf w0) 7 0 0 p).2.2 → Q (if (dgs (cf w0) 7 0 0 p).1 = 0 then 0 else 1) w') : p_Pl_takesNumbers91 w Q := by
  refine nx_91 h.1 h.2.2.1 (fun c v q h1 v0 v1 q0 q1 => ?_)
  rw [rda_cf h, h.2.2.2] at h1
  have g := rda_nm h (v := v) (q := q) (by omega) v1 q0 q1
  have k := hQ (sI (sI w 91 11 (tI v)) 91 10 (tI q)) (by rw [g.2, h1]) (by rw [g.2]; exact v0) (by rw [h1]; exact g.1)
  rw [h1] at k
  exact k
theorem rl_pe {w0 w : MW} {p : Int} {Q : Int32 → MW → Prop} (h : RdA w0 w p) (hQ : ∀ w', (w'.1 91 11).toInt = (pes (cf w0) p).2.1 → -1 ≤ (w'.1 91 11).toInt → RdA w0 w' (pes (cf w0) p).2.2 → Q (if (pes (cf w0) p).1 = true then 1 else 0) w') : p_Pl_takesPipeEnds91 w Q := by
  refine pe_91 h.1 h.2.2.1 (fun c v q h1 v0 v1 q0 q1 => ?_)
  rw [rda_cf h, h.2.2.2] at h1
  have g := rda_nm h (v := v) (q := q) (by omega) v1 q0 q1
  have k := hQ (sI (sI w 91 11 (tI v)) 91 10 (tI q)) (by rw [g.2, h1]) (by rw [g.2]; exact v0) (by rw [h1]; exact g.1)
  rw [h1] at k
  exact k
theorem rl_el {w0 w : MW} {p : Int} {Q : Int32 → MW → Prop} (h : RdA w0 w p) (h1 : cf w0 p = 10 → Q 1 w) (h0 : ¬ cf w0 p = 10 → Q 0 w) : p_Pl_endsLines91 w Q := by
  refine el_91 h.1 h.2.2.1 (fun c => h1 ?_) (fun c => h0 ?_)
  · rw [rda_cf h, h.2.2.2] at c
    exact c
  · rw [rda_cf h, h.2.2.2] at c
    exact c
theorem rl_at {w0 w : MW} {p : Int} {a : Int32} {Q : Int32 → MW → Prop} (h : RdA w0 w p) (hQ : ∀ r : Int32, r.toInt = cf w0 a.toInt → Q r w) : p_Tp_at w a Q := at_x h.1 (hQ _ (by rw [cv_cf, rda_cf h]))
theorem rl_tx1 {w0 w : MW} {p : Int} {Q : Int32 → MW → Prop} (h : RdA w0 w p) (hQ : ∀ w', RdA w0 w' (tks (cf w0) (ltr 1 5) p).2 → w'.1 91 11 = w.1 91 11 → Q (if (tks (cf w0) (ltr 1 5) p).1 = true then 1 else 0) w') : p_Pl_takess91_2001 w Q := by
  refine tx_2001 h.1 h.2.2.1 (fun b q h1 q0 q1 => ?_)
  rw [rda_cf h, h.2.2.2] at h1
  have k := hQ (sI w 91 10 (tI q)) (by rw [h1]; exact rda_tk h q0 q1) (sI_ne _ _ _ _ _ (by decide))
  rw [h1] at k
  exact k
theorem rl_tx2 {w0 w : MW} {p : Int} {Q : Int32 → MW → Prop} (h : RdA w0 w p) (hQ : ∀ w', RdA w0 w' (tks (cf w0) (ltr 2 6) p).2 → w'.1 91 11 = w.1 91 11 → Q (if (tks (cf w0) (ltr 2 6) p).1 = true then 1 else 0) w') : p_Pl_takess91_2002 w Q := by
  refine tx_2002 h.1 h.2.2.1 (fun b q h1 q0 q1 => ?_)
  rw [rda_cf h, h.2.2.2] at h1
  have k := hQ (sI w 91 10 (tI q)) (by rw [h1]; exact rda_tk h q0 q1) (sI_ne _ _ _ _ _ (by decide))
  rw [h1] at k
  exact k
theorem rl_tx3 {w0 w : MW} {p : Int} {Q : Int32 → MW → Prop} (h : RdA w0 w p) (hQ : ∀ w', RdA w0 w' (tks (cf w0) (ltr 3 4) p).2 → w'.1 91 11 = w.1 91 11 → Q (if (tks (cf w0) (ltr 3 4) p).1 = true then 1 else 0) w') : p_Pl_takess91_2003 w Q := by
  refine tx_2003 h.1 h.2.2.1 (fun b q h1 q0 q1 => ?_)
  rw [rda_cf h, h.2.2.2] at h1
  have k := hQ (sI w 91 10 (tI q)) (by rw [h1]; exact rda_tk h q0 q1) (sI_ne _ _ _ _ _ (by decide))
  rw [h1] at k
  exact k
theorem rl_tx4 {w0 w : MW} {p : Int} {Q : Int32 → MW → Prop} (h : RdA w0 w p) (hQ : ∀ w', RdA w0 w' (tks (cf w0) (ltr 4 5) p).2 → w'.1 91 11 = w.1 91 11 → Q (if (tks (cf w0) (ltr 4 5) p).1 = true then 1 else 0) w') : p_Pl_takess91_2004 w Q := by
  refine tx_2004 h.1 h.2.2.1 (fun b q h1 q0 q1 => ?_)
  rw [rda_cf h, h.2.2.2] at h1
  have k := hQ (sI w 91 10 (tI q)) (by rw [h1]; exact rda_tk h q0 q1) (sI_ne _ _ _ _ _ (by decide))
  rw [h1] at k
  exact k
theorem rl_tx5 {w0 w : MW} {p : Int} {Q : Int32 → MW → Prop} (h : RdA w0 w p) (hQ : ∀ w', RdA w0 w' (tks (cf w0) (ltr 5 1) p).2 → w'.1 91 11 = w.1 91 11 → Q (if (tks (cf w0) (ltr 5 1) p).1 = true then 1 else 0) w') : p_Pl_takess91_2005 w Q := by
  refine tx_2005 h.1 h.2.2.1 (fun b q h1 q0 q1 => ?_)
  rw [rda_cf h, h.2.2.2] at h1
  have k := hQ (sI w 91 10 (tI q)) (by rw [h1]; exact rda_tk h q0 q1) (sI_ne _ _ _ _ _ (by decide))
  rw [h1] at k
  exact k
