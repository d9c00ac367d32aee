/-! the reference reads a program: its two loops -/
theorem yp_5 {w0 : MW} {f : Int → Int} {n : Int} {s0 : DS} {E : Int32 → MW → Prop} {Q : Int32 → MW → Prop} (hb : ∀ (w' : MW) (r : DQ), (∃ k, DP f n k s0 r) → r.1 = false → (w'.1 129 10).toInt = r.2.1 → E 0 w') (hg : ∀ (w' : MW) (s' : DS) (ts' : List Nat), (∃ k, DP f n k s0 (dok s')) → YD w' f n s' ts' → E 1 w') (m : Nat) : ∀ (w : MW) (s : DS) (ts : List Nat), YD w f n s ts → (∀ r, (∃ k, DP f n k s r) → ∃ k, DP f n k s0 r) → 41 - s.2.2.2.length < m → q_Tx_program_5 E Q m 1 w := by
  induction m with
  | zero => intros; omega
  | succ m ih =>
    intro w s ts h H hm
    have n4 := h.1.1.2.2.1.2.1
    rw [q_Tx_program_5.eq_2]
    have D : ((wrd f n s.1).1 = 8 ∨ (wrd f n s.1).1 = 9 ∨ (wrd f n s.1).1 = 10) → p_Tx_declaration w (fun r5 w5 => (q_Tx_program_5 E Q m r5 w5)) := fun hc => by
      refine y_decl h hc (fun w' r hd hf ew => ?_) (fun w' s' ts' hd h' hl => ?_)
      · cases m with
        | zero => omega
        | succ m =>
          rw [q_Tx_program_5.eq_2]
          refine ⟨fun _ => hb w' r (H r ⟨1, ?_⟩) hf ew, fun z => absurd i_0 z⟩
          rw [DP_u, if_pos hc]
          exact ⟨r, hd, by rw [if_neg (by rw [hf]; decide)]⟩
      · have n4' := h'.1.1.2.2.1.2.1
        refine ih w' s' ts' h' (fun r hr => H r ?_) (by omega)
        obtain ⟨k, hr⟩ := hr
        refine ⟨k + 1, ?_⟩
        rw [DP_u, if_pos hc]
        refine ⟨dok s', hd, ?_⟩
        show (if true = true then _ else _)
        rw [if_pos rfl]
        exact hr
    refine ⟨fun z => absurd z i1n, fun _ => y_isw (c := 8) h.1 (by decide) (by decide) (fun k => ⟨fun _ => D (Or.inl k), fun z => absurd i1n z⟩) (fun n8 => ⟨fun z => absurd i_0 z, fun _ => y_isw (c := 9) h.1 (by decide) (by decide) (fun k => ⟨fun _ => D (Or.inr (Or.inl k)), fun z => absurd i1n z⟩) (fun n9 => ⟨fun z => absurd i_0 z, fun _ => y_isw (c := 10) h.1 (by decide) (by decide) (fun k => ⟨fun z => absurd z i1n, fun _ => D (Or.inr (Or.inr k))⟩) (fun n10 => ⟨fun _ => hg w s ts (H _ ⟨1, ?_⟩) h, fun z => absurd i_0 z⟩)⟩)⟩)⟩
    rw [DP_u, if_neg (by omega)]
/-- among the statements outside -/
def YE (w : MW) (f : Int → Int) (n : Int) (nm : List Nm) (s : ZS) (ts : List Nat) : Prop := YS w f n nm 0 0 s.1 s.2.1 ∧ (w.1 129 38).toInt = s.2.2.1 ∧ 0 ≤ s.2.2.1 ∧ s.2.2.1 ≤ (s.2.1.length : Int) ∧ TpM w (ts ++ s.2.2.2.1) ∧ (∀ t ∈ ts, t < s.2.1.length ∧ (w.1 131 (nb w (t : Int))).toInt = 24) ∧ ∀ t ∈ s.2.2.2.1, t < s.2.1.length ∧ (w.1 131 (nb w (t : Int))).toInt ≤ 23
theorem yp_44 {f : Int → Int} {n : Int} {nm : List Nm} {ts : List Nat} {E : Int32 → MW → Prop} {Q : Int32 → MW → Prop} {R : ZR → Prop} (hb : ∀ (w' : MW) (r : ZR), R r → r.1 = false → (w'.1 129 10).toInt = r.2.1 → E 0 w') (hg : ∀ (w' : MW) (s' : ZS), R (zok s') → (wrd f n s'.1).1 = 32 → YE w' f n nm s' ts → E 1 w') (m : Nat) : ∀ (w : MW) (s : ZS), YE w f n nm s ts → (∀ r, ZI f n (lkn nm) 0 10 0 s r → (r.1 = false ∨ ∃ s', r = zok s') → R r) → 301 - s.2.1.length < m → q_Tx_program_44 E Q m 1 w := by
  induction m with
  | zero => intros; omega
  | succ m ih =>
    intro w s h hR hm
    have l3 := ys_len h.1
    have tk := y_tk h.1
    have t32 := tk_end (f := f) (n := n) (p := s.1) h.1.2.2.1
    have e13 := h.1.2.2.2.1.1
    rw [q_Tx_program_44.eq_2, tk]
    refine ⟨fun z => absurd z i1n, fun _ => ⟨fun z => hg w s (hR _ (ZI_10n (t32.mp z)) (Or.inr ⟨s, rfl⟩)) (t32.mp z) h, fun z => ?_⟩⟩
    have n32 : ¬ (wrd f n s.1).1 = 32 := fun q => z (t32.mpr q)
    refine y_statement (Nat.zero_le _) 0 s w _ h.1 h.2.1 h.2.2.1 h.2.2.2.1 (fun y w1 r hr o => ?_)
    rcases o with ⟨s', er, Y1, y1, KN, e35, kp, m1, M0, M1, p1, n1, et, k23⟩ | ⟨g, y1, e1⟩
    · refine ⟨fun z => absurd z (by omega), fun _ => Eq.mpr (q_Tx_program_70.eq_1 _ _ _ _ _ _) ⟨fun z => absurd z i1n, fun _ => Eq.mpr (p_Tx_base.eq_1 _ _) ?_⟩⟩
      rw [er] at hr
      have T1 := tpl_k h.2.2.2.2.1 KN
      have l1 := ys_len Y1
      have t23 := T1.1
      have b23 := bd_129_23 Y1.1.1.1
      have b13 := bd_129_13 Y1.1.1.1
      have bh := bhf_b Y1.1.1.1
      have hs := Y1.1.1.2.2
      have b35 := bd_129_35 Y1.1.1.1
      have b21 := bd_129_21 Y1.1.1.1
      have ej := bb_ix (n := w1.1 129 23) Y1.1.1.1 (by omega) (by omega)
      have s23 := ti_add2 t23 i_1 (by omega) (by omega)
      have TP := y_top (r := y) (X := ((((300 : Int32) * ((1 : Int32) - (w1.1 129 12))) + (w1.1 129 23)).toInt.toNat)) (y := (w1.1 129 23) + (1 : Int32)) Y1 (Int.le_refl 0) T1 (by omega) (by omega) (by rw [ej]; unfold nb; rw [t23]) (by omega)
      have qtp : bhf (sI (sI w1 138 ((((300 : Int32) * ((1 : Int32) - (w1.1 129 12))) + (w1.1 129 23)).toInt.toNat) y) 129 23 ((w1.1 129 23) + (1 : Int32))) = bhf w1 := by
        unfold bhf
        rw [(TP.2.2 129 12 rfl).1]
      have qn : ∀ i, nb (sI (sI w1 138 ((((300 : Int32) * ((1 : Int32) - (w1.1 129 12))) + (w1.1 129 23)).toInt.toNat) y) 129 23 ((w1.1 129 23) + (1 : Int32))) i = nb w1 i := fun i => by unfold nb; rw [qtp]
      have ek : s'.2.2.2.1 = s.2.2.2.1 ++ [y.toInt.toNat] := by
        rw [et]
        show s.2.2.2.1 ++ [s'.2.1.length - 1] = _
        rw [show s'.2.1.length - 1 = y.toInt.toNat by omega]
      refine ⟨⟨by omega, by omega⟩, ?_⟩
      refine ih _ s' ⟨TP.1, by rw [(TP.2.2 129 38 rfl).1]; exact m1, M0, M1, ?_, fun t ht => ?_, fun t ht => ?_⟩ (fun r h10 ho => hR r (ZI_10 n32 ?_) ho) (by omega)
      · rw [ek, ← List.append_assoc]
        exact TP.2.1
      · have q := stp_k h.2.2.2.2.2.1 e13 KN t ht
        rw [qn, (TP.2.2 131 _ rfl).1]
        exact ⟨by omega, q.2⟩
      · rw [qn, (TP.2.2 131 _ rfl).1]
        rw [ek] at ht
        rcases List.mem_append.mp ht with q | q
        · have q2 := h.2.2.2.2.2.2 t q
          refine ⟨by omega, ?_⟩
          rw [(knm_b KN).2, (KN.2.2.2.1 (t : Int) (by omega) (by omega)).1]
          exact q2.2
        · rw [List.mem_singleton.mp q, show ((y.toInt.toNat : Nat) : Int) = y.toInt by omega]
          exact ⟨by omega, k23⟩
      · rcases ho with hf | ⟨s2, e2⟩
        · exact ZE_g hr rfl (ZE_b h10 hf)
        · rw [e2] at h10 ⊢
          exact ZE_g hr rfl (ZE_g h10 rfl (ZE_n _ _ _ _ _))
    · refine ⟨fun _ => Eq.mpr (q_Tx_program_70.eq_1 _ _ _ _ _ _) ⟨fun _ => ?_, fun z => absurd i_0 z⟩, fun z => absurd y1 z⟩
      cases m with
      | zero => omega
      | succ m =>
        rw [q_Tx_program_44.eq_2]
        exact ⟨fun _ => hb w1 r (hR r (ZI_10 n32 (ZE_b hr g)) (Or.inl g)) g e1, fun z => absurd i_0 z⟩
theorem n_44 {E : Int32 → MW → Prop} {Q : Int32 → MW → Prop} {w : MW} (h : E 0 w) (m : Nat) (hm : 0 < m) : q_Tx_program_44 E Q m 0 w := by
  cases m with
  | zero => omega
  | succ m =>
    rw [q_Tx_program_44.eq_2]
    exact ⟨fun _ => h, fun z => absurd i_0 z⟩
theorem n_p5 {E : Int32 → MW → Prop} {Q : Int32 → MW → Prop} {w : MW} (h : E 0 w) (m : Nat) (hm : 0 < m) : q_Tx_program_5 E Q m 0 w := by
  cases m with
  | zero => omega
  | succ m =>
    rw [q_Tx_program_5.eq_2]
    exact ⟨fun _ => h, fun z => absurd i_0 z⟩
/-- what is read before it is asked whether it is small -/
def PG1 (f : Int → Int) (n : Int) (r : Bool × Int) (z : ZS) (nm : List Nm) : Prop :=
  if (wrd f n 0).1 = 33 then r = (false, (wrd f n 0).2.1) else
  ∃ (k : Nat) (d : DQ), DP f n k (0, [], 0, []) d ∧ (if d.1 = true then
    ∃ y, ZI f n (lkn d.2.2.2.2.2) 0 10 0 (dbl d.2.2) y ∧ (if y.1 = true then r = (true, 0) ∧ z = y.2.2 ∧ nm = d.2.2.2.2.2 else r = (false, y.2.1))
    else r = (false, d.2.1))
theorem y_prog {w : MW} {f : Int → Int} {n : Int} {Q : Int32 → MW → Prop} (hB : YB w f n [] 0 0) (hp : (w.1 129 2).toInt = 0) (n0 : 0 ≤ n) (h13 : (w.1 129 13).toInt = 0) (h23 : (w.1 129 23).toInt = 0) (h38 : (w.1 129 38).toInt = 0) (hb : ∀ (w' : MW) (e : Int), PG1 f n (false, e) (0, [], 0, [], 0, 0, 0) [] → (w'.1 129 10).toInt = e → Q 0 w') (hg : ∀ (w' : MW) (z : ZS) (nm : List Nm) (ts : List Nat), PG1 f n (true, 0) z nm → (wrd f n z.1).1 = 32 → YE w' f n nm z ts → Q 1 w') : p_Tx_program w Q := by
  have fu : (1000 : Nat) < FU := fu_lt (by decide)
  have N0 : PNm w [] := ⟨by rw [h13]; rfl, fun i d h => (by cases h)⟩
  refine Eq.mpr (p_Tx_program.eq_1 _ _) (y_go0 hB hp n0 N0 (fun ok w1 F1 Y1 K1 => ?_) (fun bad w1 e1 => n_p5 (n_44 ⟨Or.inl i_0, hb w1 _ ?_ e1⟩ FU (by omega)) FU (by omega)))
  · have D1 : YD w1 f n (0, [], 0, []) [] := ⟨Y1, by rw [K1.2.2.2]; exact h38, Int.le_refl _, by show (0 : Int) ≤ ((0 : Nat) : Int); omega, ⟨by rw [K1.1.2.2.2.2.2.1, h23]; rfl, fun k c h => (by cases h)⟩, fun t h => (by cases h)⟩
    have B5 : ∀ r : DQ, (∃ k, DP f n k (0, [], 0, []) r) → r.1 = false → PG1 f n (false, r.2.1) (0, [], 0, [], 0, 0, 0) [] := fun r hr hf => by
      unfold PG1
      rw [if_neg ok]
      obtain ⟨k, hr⟩ := hr
      refine ⟨k, r, hr, ?_⟩
      rw [if_neg (by rw [hf]; decide)]
    refine yp_5 (s0 := (0, [], 0, [])) (w0 := w1) (fun w' r hr hf ew => n_44 ⟨Or.inl i_0, hb w' r.2.1 (B5 r hr hf) ew⟩ FU (by omega)) (fun w' s' ts' hr h' => ?_) FU w1 (0, [], 0, []) [] D1 (fun r hr => hr) (by show 41 - 0 < FU; omega)
    · obtain ⟨k, hr⟩ := hr
      have up : ∀ (r : Bool × Int) (z : ZS) (nm : List Nm) (y : ZR), ZI f n (lkn s'.2.2.2) 0 10 0 (dbl s') y → (if y.1 = true then r = (true, 0) ∧ z = y.2.2 ∧ nm = s'.2.2.2 else r = (false, y.2.1)) → PG1 f n r z nm := fun r z nm y a b => by
        unfold PG1
        rw [if_neg ok]
        refine ⟨k, dok s', hr, ?_⟩
        show (if true = true then _ else _)
        rw [if_pos rfl]
        exact ⟨y, a, b⟩
      refine yp_44 (nm := s'.2.2.2) (ts := ts') (R := fun y => ZI f n (lkn s'.2.2.2) 0 10 0 (dbl s') y) (fun w2 y hy hf ew => ⟨Or.inl i_0, hb w2 y.2.1 (up _ _ _ y hy (by rw [if_neg (by rw [hf]; decide)])) ew⟩) (fun w2 z hz k32 h2 => ⟨Or.inr i_1, hg w2 z s'.2.2.2 ts' (up _ _ _ (zok z) hz (by show (if true = true then _ else _); rw [if_pos rfl]; exact ⟨rfl, rfl, rfl⟩)) k32 h2⟩) FU w' (dbl s') ⟨h'.1, h'.2.1, h'.2.2.1, h'.2.2.2.1, ?_, h'.2.2.2.2.2, fun t h => (by cases h)⟩ (fun r hr _ => hr) (by omega)
      · show TpM w' (ts' ++ [])
        rw [List.append_nil]
        exact h'.2.2.2.2.1
  · unfold PG1
    rw [if_pos bad]
