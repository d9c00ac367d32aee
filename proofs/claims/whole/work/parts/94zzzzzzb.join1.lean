/-! end on both sides: what the class does; nothing taken; rows -/
def EZ (w : MW) (a b : Int32) (w' : MW) : Prop := (¬ (fitE (w.1 1 1).toInt a b ∧ txO (CTx w b.toInt) b.toInt) ∧ CzN w w') ∨ ((fitE (w.1 1 1).toInt a b ∧ txO (CTx w b.toInt) b.toInt) ∧ EZs w a (CTx w b.toInt) b.toInt w')
theorem czn_p {w w0 w' : MW} (F0 : FR [(1, some 1)] w w0) (h : CzN w0 w') : CzN w w' := ((FR.refl lzn w).tr F0 (by decide +kernel)).tr h (by decide +kernel)
theorem ezs_p {w w0 w' : MW} {y : Int32} {f : Int → Int} {n : Int} (F0 : FR [(1, some 1)] w w0) (h : EZs w0 y f n w') : EZs w y f n w' := by
  rcases h with ⟨y0, r', ls, k, q⟩ | ⟨y1, q⟩ | ⟨y2, q⟩
  · refine Or.inl ⟨y0, r', ls, k, ?_⟩
    rcases q with ⟨q1, q2⟩ | ⟨q1, q2, q3⟩
    · exact Or.inl ⟨q1, czn_p F0 q2⟩
    · exact Or.inr ⟨q1, ((FR.refl lzp w).tr F0 (by decide +kernel)).tr q2 (by decide +kernel), q3⟩
  · refine Or.inr (Or.inl ⟨y1, ?_⟩)
    rcases q with ⟨rs, k, q1, q2, q3, q4⟩ | ⟨q, q0, k, q1⟩
    · exact Or.inl ⟨rs, k, ((FR.refl lzq w).tr F0 (by decide +kernel)).tr q1 (by decide +kernel), q2, by rw [q3]; exact (F0 48 1 rfl).1, q4⟩
    · exact Or.inr ⟨q, q0, k, czn_p F0 q1⟩
  · refine Or.inr (Or.inr ⟨y2, ?_⟩)
    rcases q with ⟨e, e0, pg, q1⟩ | ⟨m, ns, nm, ks, pg, x, q1, q2⟩
    · exact Or.inl ⟨e, e0, pg, czn_p F0 q1⟩
    · exact Or.inr ⟨m, ns, nm, ks, pg, x, ((FR.refl lzg w).tr F0 (by decide +kernel)).tr q1 (by decide +kernel), q2⟩
theorem cz_end {d : Nat} {w : MW} {a b : Int32} {Q : Int32 → MW → Prop} (h : CI w) (hK : KWc w) (hQ : ∀ r w', EZ w a b w' → Q r w') : p2_Bh_end d w a b Q := by
  have F0 : FR [(1, some 1)] w (sI w 1 1 0) := FR.I (FR.refl _ w) rfl
  have h1 : CI (sI w 1 1 0) := ci_fr (l := [(1, some 1)]) h F0 (wbd_1_1 h.1 (by decide) (by decide)) rfl
  have K1 : KWc (sI w 1 1 0) := fun i k hk => by rw [(F0 90 i rfl).2.1]; exact hK i k hk
  have eT : ∀ n, CTx (sI w 1 1 0) n = CTx w n := fun n => rfl
  have no : ¬ fitE (w.1 1 1).toInt a b → q2_Bh_end_36 d a b 0 w Q := fun nf => Eq.mpr (q2_Bh_end_36.eq_1 _ _ _ _ _ _) ⟨fun _ => cz_end58 h1 K1 (fun q => absurd i_0 q) (by decide) (by decide) (fun _ r w' q => hQ _ w' (Or.inl ⟨fun z => nf z.1, czn_p F0 q⟩)) (fun q => absurd i_0 q), fun q => absurd i_0 q⟩
  refine Eq.mpr (p2_Bh_end.eq_1 _ _ _ _ _) ⟨fun c => no (fun z => ?_), fun a0 => ⟨fun c => no (fun z => ?_), fun a2 => ⟨fun c => no (fun z => ?_), fun b0 => ⟨fun c => no (fun z => ?_), fun b4 => ⟨fun c => no (fun z => ?_), fun bn => ?_⟩⟩⟩⟩⟩
  · have := z.1
    omega
  · have := z.2.1
    omega
  · have := z.2.2.1
    omega
  · have := z.2.2.2.1
    omega
  · have := z.2.2.2.2
    omega
  · have ft : fitE (w.1 1 1).toInt a b := ⟨by omega, by omega, by omega, by omega, by omega⟩
    refine Eq.mpr (q2_Bh_end_36.eq_1 _ _ _ _ _ _) ⟨fun q => absurd q (by decide), fun _ => cz_end58 h1 K1 (fun _ => ⟨by omega, by omega⟩) (by omega) (by omega) (fun q r w' st => ?_) (fun _ ok r w' q => ?_)⟩
    · rw [eT] at q
      refine hQ _ w' (Or.inl ⟨fun z => ?_, czn_p F0 st⟩)
      rcases q with q | q
      · exact absurd q (by decide)
      · exact q z.2
    · rw [eT] at ok q
      exact hQ r w' (Or.inr ⟨⟨ft, ok⟩, ezs_p F0 q⟩)
/-! which twin stands -/
theorem ci_7 {u : MW} (h : CI u) : u.2.2 7 0 = some 8 := h.2.1.2.2.2.2.2.2.2.2.1
theorem can_0 {u : MW} (h : CIs u) (r7 : u.2.2 7 0 = some 8) (r47 : u.2.2 47 3 = some 48) (r61 : u.2.2 61 3 = some 62) : CI u := by
  rcases h with h | h | h | h
  · exact h
  · have t : Option.map sP (u.2.2 7 0) = some 8 := ci_7 h
    rw [r7] at t
    exact absurd t (by decide)
  · have t : Option.map sQ (u.2.2 47 3) = some 48 := ci_47 h
    rw [r47] at t
    exact absurd t (by decide)
  · have t : Option.map sN (u.2.2 61 3) = some 62 := ci_61 h
    rw [r61] at t
    exact absurd t (by decide)
theorem can_P {u : MW} (h : CIs u) (r7 : u.2.2 7 0 = some 91) : CI (sw sP u) := by
  rcases h with h | h | h | h
  · have t := ci_7 h
    rw [r7] at t
    exact absurd t (by decide)
  · exact h
  · have t : Option.map sQ (u.2.2 7 0) = some 8 := ci_7 h
    rw [r7] at t
    exact absurd t (by decide)
  · have t : Option.map sN (u.2.2 7 0) = some 8 := ci_7 h
    rw [r7] at t
    exact absurd t (by decide)
theorem can_Q {u : MW} (h : CIs u) (r47 : u.2.2 47 3 = some 99) : CI (sw sQ u) := by
  rcases h with h | h | h | h
  · have t := ci_47 h
    rw [r47] at t
    exact absurd t (by decide)
  · have t : Option.map sP (u.2.2 47 3) = some 48 := ci_47 h
    rw [r47] at t
    exact absurd t (by decide)
  · exact h
  · have t : Option.map sN (u.2.2 47 3) = some 48 := ci_47 h
    rw [r47] at t
    exact absurd t (by decide)
/-! the program that stands, where only the other half was written -/
theorem stm_h {ns : List Nod} {w w' : MW} (h : StM ns w) (k : HFk w w') : StM ns w' := by
  have g12 := k.1
  have gn : ∀ i : Int, nd1 w' i = nd1 w i := fun i => by unfold nd1; rw [g12]
  have b := h.2.1
  refine ⟨h.1, by rw [g12]; exact h.2.1, fun i d hd => ?_⟩
  have il := (List.getElem?_eq_some_iff.mp hd).1
  have l3 := h.1
  have q := h.2.2 i d hd
  have ei : ((nd1 w (i : Int) : Nat) : Int) = 300 * (w.1 129 12).toInt + (i : Int) := by unfold nd1; omega
  have t := k.2.2.2.1 (nd1 w (i : Int)) (by omega) (by omega)
  rw [gn, g12, t.1, t.2.1, t.2.2.1, t.2.2.2.1]
  refine ⟨q.1, q.2.1, q.2.2.1, q.2.2.2.1, q.2.2.2.2.1, fun x c hx => ?_⟩
  have xl := (List.getElem?_eq_some_iff.mp hx).1
  have q5 := q.2.2.2.2.1
  have t2 := k.2.2.2.1 (300 * (w.1 129 12).toInt + (w.1 135 (nd1 w (i : Int))).toInt + (x : Int)).toNat (by omega) (by omega)
  rw [t2.2.2.2.2]
  exact q.2.2.2.2.2 x c hx
theorem stn_h {nm : List Nm} {w w' : MW} (h : StN nm w) (b : 0 ≤ (w.1 129 12).toInt) (k : HFk w w') : StN nm w' := ⟨h.1, fun i x hx x0 => by
  have il := (List.getElem?_eq_some_iff.mp hx).1
  have l4 := h.1
  rw [k.1, k.2.2.2.2.1.2 _ (by omega) (by omega)]
  exact h.2 i x hx x0⟩
theorem rlm_h {nm : List Nm} {w w' : MW} (h : RlM w nm) (b : 0 ≤ (w.1 129 12).toInt) (k : HFk w w') : RlM w' nm := ⟨by rw [k.2.2.1]; exact h.1, h.2.1, fun i x hx => by
  have il := (List.getElem?_eq_some_iff.mp hx).1
  have l4 := h.2.1
  rw [k.1, k.2.2.2.2.2 _ (by omega) (by omega)]
  exact h.2.2 i x hx⟩
theorem tpw_h {ts ks : List Nat} {w w' : MW} (h : TpW w ts ks) (hB : BND w) (k : HFk w w') : TpW w' ts ks := by
  have b31 := bd_129_31 hB
  have b12 := bd_129_12 hB
  have e := h.1
  refine ⟨by rw [k.2.1]; exact h.1, fun i c hc => ?_, fun t ht => ?_, fun t ht => ?_⟩
  · have il := (List.getElem?_eq_some_iff.mp hc).1
    rw [k.1, k.2.2.2.2.1.1 _ (by omega) (by omega)]
    exact h.2.1 i c hc
  · have q := h.2.2.1 t ht
    have q1 := q.1
    rw [k.1, (k.2.2.2.1 _ (by omega) (by omega)).1]
    exact q
  · have q := h.2.2.2 t ht
    have q1 := q.1
    rw [k.1, (k.2.2.2.1 _ (by omega) (by omega)).1]
    exact q
theorem pgq_h {l : Pl} {ns : List Nod} {nm : List Nm} {ks : List Nat} {v w v' w' : MW} (h : PgQ ns nm ks v w) (hB : BND w) (F : FR l v v') (k : HFk w w') (ho : off l lpgC = true) : PgQ ns nm ks v' w' := by
  have q := pgq_f h F (FR.refl [] w) ho rfl
  have b12 := bd_129_12 hB
  obtain ⟨h1, h2, h3, h4, h5, h6, h7, h8, h9, ⟨ts, h10⟩, h11, h12, h13⟩ := q
  exact ⟨h1, h2, stm_h h3 k, h4, h5, h6, h7, h8, rlm_h h9 b12.1 k, ⟨ts, tpw_h h10 hB k⟩, stn_h h11 b12.1 k, h12, h13⟩
theorem ssr_h {l l' : Pl} {v w v' w' : MW} (h : SsR v w) (F : FR l v v') (G : FR l' w w') (k : HFk w w') (ho : off l [(62, some 10), (71, none), (75, none), (76, none)] = true) (ho' : off l' [(201, none), (202, none)] = true) : SsR v' w' := by
  obtain ⟨h1, h2, h3⟩ := h
  refine ⟨by rw [(F 62 10 (off_hit ho rfl)).1, k.2.2.1]; exact h1, by rw [(F 62 10 (off_hit ho rfl)).1]; exact h2, fun n hn => ?_⟩
  rw [(F 62 10 (off_hit ho rfl)).1] at hn
  have t := h3 n hn
  unfold SnsC SnsM at *
  rw [(F 71 n (off_hit ho rfl)).1, (F 75 n (off_hit ho rfl)).1, (F 76 n (off_hit ho rfl)).1, (G 201 n (off_hit ho' rfl)).1, (G 202 n (off_hit ho' rfl)).1]
  exact t
/-- nothing was taken on either side -/
theorem ze_N {T : Int} {ns : List Nod} {nm : List Nm} {ks : List Nat} {v w v' w' : MW} {g : Nat} {rs : List Rw} (h : ZRr T ns nm ks v w) (hv : CI v') (hw : MdJ w') (F : CzN v v') (G : MzN w w' g rs) (h1 : RsC v rs) (h2 : GrS rs) (h4 : ∀ r : Nat, r < rs.length → v.1 49 r = w.1 160 r ∧ v.1 50 r = w.1 161 r ∧ v.1 51 r = w.1 162 r) (h5 : v.1 48 1 = w.1 147 24) : ZRr T ns nm ks v' w' := by
  obtain ⟨hr, ha, _, sc, sm, ss, wt, pg⟩ := h.1
  obtain ⟨G1, K, R, C⟩ := G
  refine zr_k h ⟨hr_f hr F G1 (by decide +kernel) (by decide +kernel), hac_f ha F G1 (by decide +kernel) (by decide +kernel), ⟨g, rs, rsc_fr h1 F (by decide +kernel), h2, R, fun r hr => ?_, ?_⟩, svc_ci hv, svm_mj hw, ssr_h ss F G1 K (by decide +kernel) (by decide +kernel), wtr_f wt F G1 (by decide +kernel) (by decide +kernel), pgq_h pg h.2.1.2 F K (by decide +kernel)⟩ hv.1 hw.1.1 F G1 (by decide +kernel) (by decide +kernel)
  · have c := C r
    rw [(F 49 r rfl).1, (F 50 r rfl).1, (F 51 r rfl).1, c.1, c.2.1, c.2.2]
    exact h4 r hr
  · rw [(F 48 1 (by decide +kernel)).1, (G1 147 24 (by decide +kernel)).1]
    exact h5
