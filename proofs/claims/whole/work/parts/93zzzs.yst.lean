/-! the reference reads statements: each kind -/
theorem mng_st (k : Int) (h : k = 30 ∨ (1 ≤ k ∧ k ≤ 26)) : isS k = true ↔ 10 ≤ mng k ∧ mng k ≤ 22 := by
  have t : ∀ j : Nat, j < 31 → ((j : Int) = 30 ∨ (1 ≤ (j : Int) ∧ (j : Int) ≤ 26)) → (isS (j : Int) = true ↔ 10 ≤ mng (j : Int) ∧ mng (j : Int) ≤ 22) := by decide +kernel
  have := t k.toNat (by omega)
  rw [show ((k.toNat : Nat) : Int) = k by omega] at this
  exact this h
theorem tk_st {f : Int → Int} {n p : Int} (h : ¬ (wrd f n p).1 = 33) : (isS (wrd f n p).1 = true ↔ 1010 ≤ tkm (wrd f n p).1 ∧ tkm (wrd f n p).1 ≤ 1022) := by
  have b := tk_unit h
  unfold tkm
  rcases wrd_k f n p with k | k | k | k | k
  · exact absurd k h
  · rw [if_pos k, isS_t]
    omega
  · rw [if_neg (by omega), if_pos k, isS_t]
    omega
  · rw [if_neg (by omega), if_neg (by omega), if_neg (by omega), isS_t]
    omega
  · have b := mng_st _ k.1
    have k1 := k.1
    rw [if_neg (by omega), if_neg (by omega), if_pos (by omega), b]
    omega
theorem wht_st (k : Int) (h : isS k = true) : wht k = mng k ∧ 10 ≤ mng k ∧ mng k ≤ 22 ∧ ¬ k = 31 ∧ ¬ k = 10 := by
  have q := isS_t.mp h
  have m := (mng_st k (by omega)).mp h
  refine ⟨?_, m.1, m.2, by omega, by omega⟩
  unfold wht
  rw [if_neg (by omega), if_neg (by omega), if_neg (by omega), if_neg (by omega), if_neg (by omega), if_neg (by omega), if_neg (by omega), if_neg (by omega), if_neg (by omega), if_neg (by omega), if_neg (by omega)]
theorem s59 {f : Int → Int} {n : Int} : ∀ q, ¬ (wrd f n q).1 = 33 → (tkm (wrd f n q).1 = (59 : Int32).toInt ↔ (wrd f n q).1 = 59) := fun q hq => by
  rw [show (59 : Int32).toInt = 59 by decide]
  exact tk_sign hq (by decide) (by decide)
theorem s15 {f : Int → Int} {n : Int} : ∀ q, ¬ (wrd f n q).1 = 33 → (tkm (wrd f n q).1 = (1032 : Int32).toInt ↔ (wrd f n q).1 = 15) := fun q hq => by
  rw [show (1032 : Int32).toInt = 1000 + mng 15 by decide]
  exact tk_word hq (by decide)
theorem s21 {f : Int → Int} {n : Int} : ∀ q, ¬ (wrd f n q).1 = 33 → (tkm (wrd f n q).1 = (1034 : Int32).toInt ↔ (wrd f n q).1 = 21) := fun q hq => by
  rw [show (1034 : Int32).toInt = 1000 + mng 21 by decide]
  exact tk_word hq (by decide)
/-- what must hold where the pieces L of a statement end: wrong, or good -/
def YBd (f : Int → Int) (n : Int) (nm : List Nm) (op : Nat) (L : List (Int × Int)) (s1 : ZS) (Q : Int32 → MW → Prop) : Prop := ∀ (w' : MW) (r : ZR), ZE f n (lkn nm) op L s1 r → r.1 = false → (w'.1 129 10).toInt = r.2.1 → Q (-1) w'
def YGd (f : Int → Int) (n : Int) (nm : List Nm) (op : Nat) (e lo : Int) (L : List (Int × Int)) (s1 : ZS) (v : MW) (wh ln : Int32) (Q : Int32 → MW → Prop) : Prop := ∀ (w9 : MW) (s9 : ZS) (nn : Int32), ZE f n (lkn nm) op L s1 (zok s9) → YZ w9 f n nm op e lo s9 → KY lo v w9 → nn.toInt = s9.2.2.2.2.1 → s1.1 ≤ s9.1 → p_Tx_node0 (sI w9 129 38 ((w9.1 129 38) + (1 : Int32))) wh (Int32.toInt64 nn) ln (-1) (v.1 129 35) (fun r10 w10 => (Q r10 w10))
/-- set -/
theorem yk_set {B S : MW → (Int32 → MW → Prop) → Prop} {f : Int → Int} {n : Int} {nm : List Nm} {op : Nat} {e lo : Int} {s1 : ZS} {v : MW} {wh ln : Int32} {Q : Int32 → MW → Prop} (hZ : YZ v f n nm op e lo s1) (bad : YBd f n nm op [(1, 9), (2, -1), (0, 59)] s1 Q) (good : YGd f n nm op e lo [(1, 9), (2, -1), (0, 59)] s1 v wh ln Q) : (p_Tx_known v 31 (fun r7 w7 => ((r7.toInt < 0 → (q_Tx_statement_195 B S wh ln (v.1 129 35) r7 0 w7 Q)) ∧ (¬ (r7.toInt < 0) → ((0 ≤ (((40 : Int32) * ((1 : Int32) - (w7.1 129 12))) + r7).toInt ∧ (((40 : Int32) * ((1 : Int32) - (w7.1 129 12))) + r7).toInt < 80) ∧ (p_Tx_sumOf w7 (w7.1 142 ((((40 : Int32) * ((1 : Int32) - (w7.1 129 12))) + r7).toInt.toNat)) (fun r12 w12 => ((r12.toInt = 0 → (q_Tx_statement_195 B S wh ln (v.1 129 35) r7 0 w12 Q)) ∧ (¬ (r12.toInt = 0) → (p_Tx_over w12 59 (fun r15 w15 => ((r15.toInt = 0 → (q_Tx_statement_195 B S wh ln (v.1 129 35) r7 0 w15 Q)) ∧ (¬ (r15.toInt = 0) → (q_Tx_statement_195 B S wh ln (v.1 129 35) r7 1 w15 Q)))))))))))))) := by
  have B0 : ∀ (w' : MW) (r : ZR) (x : Int32), ZE f n (lkn nm) op [(1, 9), (2, -1), (0, 59)] s1 r → r.1 = false → (w'.1 129 10).toInt = r.2.1 → q_Tx_statement_195 B S wh ln (v.1 129 35) x 0 w' Q := fun w' r x a b c => Eq.mpr (q_Tx_statement_195.eq_1 _ _ _ _ _ _ _ _ _) ⟨fun z => absurd i_0 z, fun _ => bad w' r a b c⟩
  refine yi_kn (c := 9) hZ (by decide) (by decide) (fun w' r hz hf ew => ⟨fun _ => B0 w' r _ (ZE_b hz hf) hf ew, fun z => absurd (show (-1 : Int32).toInt < 0 by decide) z⟩) (fun w7 s7 j x hx hz es p7 Z7 K7 => ?_)
  have n4 := Z7.1.1.2.2.1.2.1
  have jl := (List.getElem?_eq_some_iff.mp hx).1
  have tj : (nI j).toInt = (j : Int) := nI_toInt (by omega)
  have bh := bhf_b Z7.1.1.1.1
  have ei := cc_ix (n := nI j) Z7.1.1.1.1 (by omega) (by omega)
  have g := Z7.1.1.2.2.1.2.2 j x hx
  have eN : (((40 : Int32) * ((1 : Int32) - (w7.1 129 12))) + (nI j)).toInt.toNat = (40 * bhf w7 + (j : Int)).toNat := by omega
  refine ⟨fun z => absurd z (by omega), fun _ => ⟨⟨by omega, by omega⟩, yi_sum (c := -1) Z7 (by rw [eN, if_pos (by decide), es]; exact g.2.2.2.2.1) (fun w' r hz2 hf ew => ⟨fun _ => B0 w' r _ (ZE_g hz rfl (ZE_b hz2 hf)) hf ew, fun z => absurd i_0 z⟩) (fun w12 s12 hz2 ea p12 n12 Z12 K12 => ⟨fun z => absurd z i1n, fun _ => yi_tk (c := 59) Z12 s59 (fun w' r hz3 hf ew => ⟨fun _ => B0 w' r _ (ZE_g hz rfl (ZE_g hz2 rfl (ZE_b hz3 hf))) hf ew, fun z => absurd i_0 z⟩) (fun w15 s15 hz3 es3 p15 Z15 K15 => ⟨fun z => absurd z i1n, fun _ => Eq.mpr (q_Tx_statement_195.eq_1 _ _ _ _ _ _ _ _ _) ⟨fun _ => good w15 s15 (nI j) (ZE_g hz rfl (ZE_g hz2 rfl (ZE_g hz3 rfl (ZE_n _ _ _ _ _)))) Z15 ((K7.tr K12).tr K15) ?_ (by omega), fun z => absurd i1n z⟩⟩)⟩)⟩⟩
  rw [es3]
  show _ = s12.2.2.2.2.1
  rw [ea, es]
  exact tj
/-- ramp -/
theorem yk_ramp {B S : MW → (Int32 → MW → Prop) → Prop} {f : Int → Int} {n : Int} {nm : List Nm} {op : Nat} {e lo : Int} {s1 : ZS} {v : MW} {wh ln : Int32} {Q : Int32 → MW → Prop} (hZ : YZ v f n nm op e lo s1) (bad : YBd f n nm op [(1, 9), (2, -1), (0, 15), (2, 3), (0, 59)] s1 Q) (good : YGd f n nm op e lo [(1, 9), (2, -1), (0, 15), (2, 3), (0, 59)] s1 v wh ln Q) : (p_Tx_known v 31 (fun r33 w33 => ((r33.toInt < 0 → (q_Tx_statement_195 B S wh ln (v.1 129 35) r33 0 w33 Q)) ∧ (¬ (r33.toInt < 0) → ((0 ≤ (((40 : Int32) * ((1 : Int32) - (w33.1 129 12))) + r33).toInt ∧ (((40 : Int32) * ((1 : Int32) - (w33.1 129 12))) + r33).toInt < 80) ∧ (p_Tx_sumOf w33 (w33.1 142 ((((40 : Int32) * ((1 : Int32) - (w33.1 129 12))) + r33).toInt.toNat)) (fun r36 w36 => ((r36.toInt = 0 → (q_Tx_statement_195 B S wh ln (v.1 129 35) r33 0 w36 Q)) ∧ (¬ (r36.toInt = 0) → (p_Tx_over w36 1032 (fun r39 w39 => ((r39.toInt = 0 → (q_Tx_statement_195 B S wh ln (v.1 129 35) r33 0 w39 Q)) ∧ (¬ (r39.toInt = 0) → (p_Tx_sumOf w39 3 (fun r41 w41 => ((r41.toInt = 0 → (q_Tx_statement_195 B S wh ln (v.1 129 35) r33 0 w41 Q)) ∧ (¬ (r41.toInt = 0) → (p_Tx_over w41 59 (fun r43 w43 => ((r43.toInt = 0 → (q_Tx_statement_195 B S wh ln (v.1 129 35) r33 0 w43 Q)) ∧ (¬ (r43.toInt = 0) → (q_Tx_statement_195 B S wh ln (v.1 129 35) r33 1 w43 Q)))))))))))))))))))))) := by
  have B0 : ∀ (w' : MW) (r : ZR) (x : Int32), ZE f n (lkn nm) op [(1, 9), (2, -1), (0, 15), (2, 3), (0, 59)] s1 r → r.1 = false → (w'.1 129 10).toInt = r.2.1 → q_Tx_statement_195 B S wh ln (v.1 129 35) x 0 w' Q := fun w' r x a b c => Eq.mpr (q_Tx_statement_195.eq_1 _ _ _ _ _ _ _ _ _) ⟨fun z => absurd i_0 z, fun _ => bad w' r a b c⟩
  refine yi_kn (c := 9) hZ (by decide) (by decide) (fun w' r hz hf ew => ⟨fun _ => B0 w' r _ (ZE_b hz hf) hf ew, fun z => absurd (show (-1 : Int32).toInt < 0 by decide) z⟩) (fun w7 s7 j x hx hz es p7 Z7 K7 => ?_)
  have n4 := Z7.1.1.2.2.1.2.1
  have jl := (List.getElem?_eq_some_iff.mp hx).1
  have tj : (nI j).toInt = (j : Int) := nI_toInt (by omega)
  have bh := bhf_b Z7.1.1.1.1
  have ei := cc_ix (n := nI j) Z7.1.1.1.1 (by omega) (by omega)
  have g := Z7.1.1.2.2.1.2.2 j x hx
  have eN : (((40 : Int32) * ((1 : Int32) - (w7.1 129 12))) + (nI j)).toInt.toNat = (40 * bhf w7 + (j : Int)).toNat := by omega
  refine ⟨fun z => absurd z (by omega), fun _ => ⟨⟨by omega, by omega⟩, yi_sum (c := -1) Z7 (by rw [eN, if_pos (by decide), es]; exact g.2.2.2.2.1) (fun w' r hz2 hf ew => ⟨fun _ => B0 w' r _ (ZE_g hz rfl (ZE_b hz2 hf)) hf ew, fun z => absurd i_0 z⟩) (fun w12 s12 hz2 ea p12 n12 Z12 K12 => ⟨fun z => absurd z i1n, fun _ => yi_tk (c := 15) Z12 s15 (fun w' r hz3 hf ew => ⟨fun _ => B0 w' r _ (ZE_g hz rfl (ZE_g hz2 rfl (ZE_b hz3 hf))) hf ew, fun z => absurd i_0 z⟩) (fun w15 s15 hz3 es3 p15 Z15 K15 => ⟨fun z => absurd z i1n, fun _ => yi_sum (c := 3) Z15 (by rw [if_neg (by decide)]; decide) (fun w' r hz4 hf ew => ⟨fun _ => B0 w' r _ (ZE_g hz rfl (ZE_g hz2 rfl (ZE_g hz3 rfl (ZE_b hz4 hf)))) hf ew, fun z => absurd i_0 z⟩) (fun w16 s16 hz4 ea4 p16 n16 Z16 K16 => ⟨fun z => absurd z i1n, fun _ => yi_tk (c := 59) Z16 s59 (fun w' r hz5 hf ew => ⟨fun _ => B0 w' r _ (ZE_g hz rfl (ZE_g hz2 rfl (ZE_g hz3 rfl (ZE_g hz4 rfl (ZE_b hz5 hf))))) hf ew, fun z => absurd i_0 z⟩) (fun w17 s17 hz5 es5 p17 Z17 K17 => ⟨fun z => absurd z i1n, fun _ => Eq.mpr (q_Tx_statement_195.eq_1 _ _ _ _ _ _ _ _ _) ⟨fun _ => good w17 s17 (nI j) (ZE_g hz rfl (ZE_g hz2 rfl (ZE_g hz3 rfl (ZE_g hz4 rfl (ZE_g hz5 rfl (ZE_n _ _ _ _ _)))))) Z17 ((((K7.tr K12).tr K15).tr K16).tr K17) ?_ (by omega), fun z => absurd i1n z⟩⟩)⟩)⟩)⟩)⟩⟩
  rw [es5]
  show _ = s16.2.2.2.2.1
  rw [ea4, es3]
  show _ = s12.2.2.2.2.1
  rw [ea, es]
  exact tj
/-- wait -/
theorem yk_wait {B S : MW → (Int32 → MW → Prop) → Prop} {f : Int → Int} {n : Int} {nm : List Nm} {op : Nat} {e lo : Int} {s1 : ZS} {v : MW} {wh ln : Int32} {Q : Int32 → MW → Prop} (hZ : YZ v f n nm op e lo s1) (hA : s1.2.2.2.2 = (0, 0, 0)) (bad : YBd f n nm op [(2, 3), (0, 59)] s1 Q) (good : YGd f n nm op e lo [(2, 3), (0, 59)] s1 v wh ln Q) : (p_Tx_sumOf v 3 (fun r18 w18 => ((r18.toInt = 0 → (q_Tx_statement_222 B S wh ln (v.1 129 35) 0 0 w18 Q)) ∧ (¬ (r18.toInt = 0) → (p_Tx_over w18 59 (fun r22 w22 => ((r22.toInt = 0 → (q_Tx_statement_222 B S wh ln (v.1 129 35) 0 0 w22 Q)) ∧ (¬ (r22.toInt = 0) → (q_Tx_statement_222 B S wh ln (v.1 129 35) 0 1 w22 Q))))))))) := by
  have B0 : ∀ (w' : MW) (r : ZR), ZE f n (lkn nm) op [(2, 3), (0, 59)] s1 r → r.1 = false → (w'.1 129 10).toInt = r.2.1 → q_Tx_statement_222 B S wh ln (v.1 129 35) 0 0 w' Q := fun w' r a b c => Eq.mpr (q_Tx_statement_222.eq_1 _ _ _ _ _ _ _ _ _) ⟨fun z => absurd i_0 z, fun _ => bad w' r a b c⟩
  refine yi_sum (c := 3) hZ (by rw [if_neg (by decide)]; decide) (fun w' r hz hf ew => ⟨fun _ => B0 w' r (ZE_b hz hf) hf ew, fun z => absurd i_0 z⟩) (fun w1 s2 hz ea p1 n1 Z1 K1 => ⟨fun z => absurd z i1n, fun _ => yi_tk (c := 59) Z1 s59 (fun w' r hz2 hf ew => ⟨fun _ => B0 w' r (ZE_g hz rfl (ZE_b hz2 hf)) hf ew, fun z => absurd i_0 z⟩) (fun w2 s3 hz2 es2 p2 Z2 K2 => ⟨fun z => absurd z i1n, fun _ => Eq.mpr (q_Tx_statement_222.eq_1 _ _ _ _ _ _ _ _ _) ⟨fun _ => good w2 s3 0 (ZE_g hz rfl (ZE_g hz2 rfl (ZE_n _ _ _ _ _))) Z2 (K1.tr K2) ?_ (by omega), fun z => absurd i1n z⟩⟩)⟩)
  rw [es2]
  show _ = s2.2.2.2.2.1
  rw [ea, hA]
  decide
/-- until -/
theorem yk_until {B S : MW → (Int32 → MW → Prop) → Prop} {f : Int → Int} {n : Int} {nm : List Nm} {op : Nat} {e lo : Int} {s1 : ZS} {v : MW} {wh ln : Int32} {Q : Int32 → MW → Prop} (hZ : YZ v f n nm op e lo s1) (hA : s1.2.2.2.2 = (0, 0, 0)) (bad : YBd f n nm op [(3, 0), (0, 59)] s1 Q) (good : YGd f n nm op e lo [(3, 0), (0, 59)] s1 v wh ln Q) : (p_Tx_test v  (fun r25 w25 => (p_Tx_pushed w25 r25 (fun r26 w26 => ((r26.toInt = 0 → (q_Tx_statement_252 B S wh ln (v.1 129 35) 0 0 w26 Q)) ∧ (¬ (r26.toInt = 0) → (p_Tx_over w26 59 (fun r30 w30 => ((r30.toInt = 0 → (q_Tx_statement_252 B S wh ln (v.1 129 35) 0 0 w30 Q)) ∧ (¬ (r30.toInt = 0) → (q_Tx_statement_252 B S wh ln (v.1 129 35) 0 1 w30 Q))))))))))) := by
  have B0 : ∀ (w' : MW) (r : ZR), ZE f n (lkn nm) op [(3, 0), (0, 59)] s1 r → r.1 = false → (w'.1 129 10).toInt = r.2.1 → q_Tx_statement_252 B S wh ln (v.1 129 35) 0 0 w' Q := fun w' r a b c => Eq.mpr (q_Tx_statement_252.eq_1 _ _ _ _ _ _ _ _ _) ⟨fun z => absurd i_0 z, fun _ => bad w' r a b c⟩
  refine yi_tst hZ (fun w' r hz hf ew => ⟨fun _ => B0 w' r (ZE_b hz hf) hf ew, fun z => absurd i_0 z⟩) (fun w1 s2 hz ea p1 n1 Z1 K1 => ⟨fun z => absurd z i1n, fun _ => yi_tk (c := 59) Z1 s59 (fun w' r hz2 hf ew => ⟨fun _ => B0 w' r (ZE_g hz rfl (ZE_b hz2 hf)) hf ew, fun z => absurd i_0 z⟩) (fun w2 s3 hz2 es2 p2 Z2 K2 => ⟨fun z => absurd z i1n, fun _ => Eq.mpr (q_Tx_statement_252.eq_1 _ _ _ _ _ _ _ _ _) ⟨fun _ => good w2 s3 0 (ZE_g hz rfl (ZE_g hz2 rfl (ZE_n _ _ _ _ _))) Z2 (K1.tr K2) ?_ (by omega), fun z => absurd i1n z⟩⟩)⟩)
  rw [es2]
  show _ = s2.2.2.2.2.1
  rw [ea, hA]
  decide
/-- ask, do -/
theorem yk_480 {B S : MW → (Int32 → MW → Prop) → Prop} {f : Int → Int} {n : Int} {nm : List Nm} {op : Nat} {e lo c : Int} {s1 : ZS} {v : MW} {wh ln a : Int32} {Q : Int32 → MW → Prop} (hZ : YZ v f n nm op e lo s1) (c8 : c = 8 ∨ c = 9 ∨ c = 10) (ha : a.toInt = mrl c) (bad : YBd f n nm op [(1, c), (0, 59)] s1 Q) (good : YGd f n nm op e lo [(1, c), (0, 59)] s1 v wh ln Q) : q_Tx_statement_480 B S wh ln (v.1 129 35) a v Q := by
  have B0 : ∀ (w' : MW) (r : ZR) (x : Int32), ZE f n (lkn nm) op [(1, c), (0, 59)] s1 r → r.1 = false → (w'.1 129 10).toInt = r.2.1 → q_Tx_statement_504 B S wh ln (v.1 129 35) x 0 w' Q := fun w' r x a b c => Eq.mpr (q_Tx_statement_504.eq_1 _ _ _ _ _ _ _ _ _) ⟨fun z => absurd i_0 z, fun _ => bad w' r a b c⟩
  refine Eq.mpr (q_Tx_statement_480.eq_1 _ _ _ _ _ _ _ _) (yi_kn (c := c) hZ c8 ha (fun w' r hz hf ew => ⟨fun _ => B0 w' r _ (ZE_b hz hf) hf ew, fun z => absurd (show (-1 : Int32).toInt < 0 by decide) z⟩) (fun w7 s7 j x hx hz es p7 Z7 K7 => ?_))
  have n4 := Z7.1.1.2.2.1.2.1
  have jl := (List.getElem?_eq_some_iff.mp hx).1
  have tj : (nI j).toInt = (j : Int) := nI_toInt (by omega)
  refine ⟨fun z => absurd z (by omega), fun _ => yi_tk (c := 59) Z7 s59 (fun w' r hz2 hf ew => ⟨fun _ => B0 w' r _ (ZE_g hz rfl (ZE_b hz2 hf)) hf ew, fun z => absurd i_0 z⟩) (fun w2 s3 hz2 es2 p2 Z2 K2 => ⟨fun z => absurd z i1n, fun _ => Eq.mpr (q_Tx_statement_504.eq_1 _ _ _ _ _ _ _ _ _) ⟨fun _ => good w2 s3 (nI j) (ZE_g hz rfl (ZE_g hz2 rfl (ZE_n _ _ _ _ _))) Z2 (K7.tr K2) ?_ (by omega), fun z => absurd i1n z⟩⟩)⟩
  rw [es2]
  show _ = s7.2.2.2.2.1
  rw [es]
  exact tj
/-- stop, hold -/
theorem yk_stop {f : Int → Int} {n : Int} {nm : List Nm} {op : Nat} {e lo : Int} {s1 : ZS} {v : MW} {wh ln : Int32} {Q : Int32 → MW → Prop} (hZ : YZ v f n nm op e lo s1) (hA : s1.2.2.2.2 = (0, 0, 0)) (bad : YBd f n nm op [(0, 59)] s1 Q) (good : YGd f n nm op e lo [(0, 59)] s1 v wh ln Q) : (p_Tx_over v 59 (fun r113 w113 => ((¬ r113.toInt = 0 → (p_Tx_node0 (sI w113 129 38 ((w113.1 129 38) + (1 : Int32))) wh (Int32.toInt64 (0 : Int32)) ln (-1) (v.1 129 35) (fun r115 w115 => (Q r115 w115)))) ∧ (¬ (¬ r113.toInt = 0) → (Q (-1) w113))))) := by
  refine yi_tk (c := 59) hZ s59 (fun w' r hz2 hf ew => ⟨fun z => absurd i_0 z, fun _ => bad w' r (ZE_b hz2 hf) hf ew⟩) (fun w2 s3 hz2 es2 p2 Z2 K2 => ⟨fun _ => good w2 s3 0 (ZE_g hz2 rfl (ZE_n _ _ _ _ _)) Z2 K2 ?_ p2, fun z => absurd i1n z⟩)
  rw [es2]
  show _ = s1.2.2.2.2.1
  rw [hA]
  decide
/-- act -/
theorem yk_act {B S : MW → (Int32 → MW → Prop) → Prop} {f : Int → Int} {n : Int} {nm : List Nm} {op : Nat} {e lo : Int} {s1 : ZS} {v : MW} {wh ln : Int32} {Q : Int32 → MW → Prop} (hZ : YZ v f n nm op e lo s1) (bad : YBd f n nm op [(5, 0), (0, 59)] s1 Q) (good : YGd f n nm op e lo [(5, 0), (0, 59)] s1 v wh ln Q) : ((¬ (v.1 129 4).toInt = 2000 → (p_Tx_bad v  (fun r122 w122 => (Q r122 w122)))) ∧ (¬ (¬ (v.1 129 4).toInt = 2000) → ((¬ (v.1 129 9).toInt = 0 → (p_Tx_bad v  (fun r124 w124 => (Q r124 w124)))) ∧ (¬ (¬ (v.1 129 9).toInt = 0) → (((lg_cmp (v.2.1 129 8) (32000 : Int64)).toInt < 0 → (p_Tx_go v  (fun r126 w126 => ((r126.toInt = 0 → (q_Tx_statement_574 B S wh ln (v.1 129 35) (Int64.toInt32 ((v.2.1 129 8) / (1000 : Int64))) 0 w126 Q)) ∧ (¬ (r126.toInt = 0) → (p_Tx_over w126 59 (fun r130 w130 => ((r130.toInt = 0 → (q_Tx_statement_574 B S wh ln (v.1 129 35) (Int64.toInt32 ((v.2.1 129 8) / (1000 : Int64))) 0 w130 Q)) ∧ (¬ (r130.toInt = 0) → (q_Tx_statement_574 B S wh ln (v.1 129 35) (Int64.toInt32 ((v.2.1 129 8) / (1000 : Int64))) 1 w130 Q)))))))))) ∧ (¬ ((lg_cmp (v.2.1 129 8) (32000 : Int64)).toInt < 0) → (p_Tx_bad v  (fun r132 w132 => (Q r132 w132))))))))) := by
  have B0 : ∀ (w' : MW) (r : ZR) (x : Int32), ZE f n (lkn nm) op [(5, 0), (0, 59)] s1 r → r.1 = false → (w'.1 129 10).toInt = r.2.1 → q_Tx_statement_574 B S wh ln (v.1 129 35) x 0 w' Q := fun w' r x a b c => Eq.mpr (q_Tx_statement_574.eq_1 _ _ _ _ _ _ _ _ _) ⟨fun z => absurd i_0 z, fun _ => bad w' r a b c⟩
  have no : ¬ ((wrd f n s1.1).1 = 31 ∧ (wrd f n s1.1).2.2.2.2.2 = false ∧ (wrd f n s1.1).2.2.2.2.1 < 32000) → p_Tx_bad v (fun r122 w122 => (Q r122 w122)) := fun q => y_bad hZ.1 (fun w' e' => bad w' (zer (wrd f n s1.1).2.1) (ZE_b (ZI_5 (by unfold zac; rw [if_neg q])) rfl) rfl e')
  have t31 := tk_num (f := f) (n := n) (p := s1.1) hZ.1.2.2.1
  have tk := y_tk hZ.1
  rw [tk]
  refine ⟨fun z => no (fun q => z (t31.mpr q.1)), fun z => ?_⟩
  have k31 := t31.mp (Classical.not_not.mp z)
  have T := hZ.1.2.1.2.2.2.2 k31
  have vb := wrd_v (f := f) (n := n) (p := s1.1)
  rw [T.2]
  refine ⟨fun z2 => no (fun q => z2 (by rw [if_neg (by rw [q.2.1]; decide)])), fun z2 => ?_⟩
  have np : (wrd f n s1.1).2.2.2.2.2 = false := by
    have z3 := Classical.not_not.mp z2
    by_cases q : (wrd f n s1.1).2.2.2.2.2 = true
    · rw [if_pos q] at z3
      exact absurd z3 (by decide)
    · exact Bool.not_eq_true _ ▸ q
  have cm := nb_cmp (v.2.1 129 8) (32000 : Int64)
  rw [(by decide : ((32000 : Int64)).toInt = 32000), T.1] at cm
  refine ⟨fun c => ?_, fun c => no (fun q => by have := q.2.2; omega)⟩
  have yes : (wrd f n s1.1).1 = 31 ∧ (wrd f n s1.1).2.2.2.2.2 = false ∧ (wrd f n s1.1).2.2.2.2.1 < 32000 := ⟨k31, np, by omega⟩
  have ed := nb_ldiv (show 0 ≤ (v.2.1 129 8).toInt by rw [T.1]; exact vb.1) (by decide : ((1000 : Int64)).toInt = 1000) (by omega)
  have en := nb_l2i (x := (v.2.1 129 8) / (1000 : Int64)) (by rw [ed, T.1]; omega) (by rw [ed, T.1]; omega)
  refine y_go hZ.1 (fun ok w7 F7 Y7 K7 p7 => ⟨fun z => absurd z i1n, fun _ => ?_⟩) (fun bd w7 e7 => ⟨fun _ => B0 w7 (zer (wrd f n (wrd f n s1.1).2.2.1).2.1) _ (ZE_b (ZI_5 (by unfold zac zgo; rw [if_pos yes, if_pos bd])) rfl) rfl e7, fun z => absurd i_0 z⟩)
  have t := yz_kx hZ Y7 K7 ((wrd f n s1.1).2.2.2.2.1 / 1000, s1.2.2.2.2.2)
  have hz : ZI f n (lkn nm) op 5 0 s1 (zok ((wrd f n s1.1).2.2.1, s1.2.1, s1.2.2.1, s1.2.2.2.1, (wrd f n s1.1).2.2.2.2.1 / 1000, s1.2.2.2.2.2)) := ZI_5 (by unfold zac zgo; rw [if_pos yes, if_neg ok])
  refine yi_tk (c := 59) t.1 s59 (fun w' r hz2 hf ew => ⟨fun _ => B0 w' r _ (ZE_g hz rfl (ZE_b hz2 hf)) hf ew, fun z => absurd i_0 z⟩) (fun w2 s3 hz2 es2 p2 Z2 K2 => ⟨fun z => absurd z i1n, fun _ => Eq.mpr (q_Tx_statement_574.eq_1 _ _ _ _ _ _ _ _ _) ⟨fun _ => good w2 s3 _ (ZE_g hz rfl (ZE_g hz2 rfl (ZE_n _ _ _ _ _))) Z2 (t.2.tr K2) ?_ (Int.le_trans p7 p2), fun z => absurd i1n z⟩⟩)
  rw [es2]
  show _ = (wrd f n s1.1).2.2.2.2.1 / 1000
  rw [en, ed, T.1]
/-- par: further blocks -/
theorem yk_286 {B S : MW → (Int32 → MW → Prop) → Prop} {f : Int → Int} {n : Int} {nm : List Nm} {op : Nat} {e lo : Int} {L : List (Int × Int)} {s1 : ZS} {v : MW} {wh ln : Int32} {Q : Int32 → MW → Prop} (hB : HZm B 4 op f n nm) (bad : YBd f n nm op L s1 Q) (good : YGd f n nm op e lo L s1 v wh ln Q) (m : Nat) : ∀ (w1 : MW) (s : ZS), YZ w1 f n nm op e lo s → KY lo v w1 → s1.1 ≤ s.1 → s.2.2.2.2 = (0, 0, 0) → (∀ r, ZI f n (lkn nm) op 7 0 s r → r.1 = false → ZE f n (lkn nm) op L s1 r) → (∀ s9, ZI f n (lkn nm) op 7 0 s (zok s9) → ZE f n (lkn nm) op L s1 (zok s9)) → 301 - s.2.1.length < m → q_Tx_statement_286 B S wh ln (v.1 129 35) 0 (fun (e286_5_53 : Int32) (w53 : MW) => ((¬ e286_5_53.toInt = 0 → (p_Tx_node0 (sI w53 129 38 ((w53.1 129 38) + (1 : Int32))) wh (Int32.toInt64 0) ln (-1) (v.1 129 35) (fun r55 w55 => (Q r55 w55)))) ∧ (¬ (¬ e286_5_53.toInt = 0) → (Q (-1) w53)))) Q m 1 w1 := by
  induction m with
  | zero => intros; omega
  | succ m ih =>
    intro w1 s hZ K p1 hA Hb Hg hm
    have l3 := ys_len hZ.1
    have tk := y_tk hZ.1
    have t123 := tk_sign (f := f) (n := n) (p := s.1) (c := 123) hZ.1.2.2.1 (by decide) (by decide)
    rw [q_Tx_statement_286.eq_2, tk]
    refine ⟨fun z => absurd z i1n, fun _ => ⟨fun z => ⟨fun _ => good w1 s 0 (Hg s (ZI_7n (fun q => z (t123.mpr q)))) hZ K ?_ p1, fun z => absurd i1n z⟩, fun z => ?_⟩⟩
    · rw [hA]
      decide
    · have k := t123.mp (Classical.not_not.mp z)
      refine yi_blk hB hZ (fun w' r hz hf ew => ?_) (fun w2 s2 hz ea p2 n2 Z2 K2 => ?_)
      · cases m with
        | zero => omega
        | succ m =>
          rw [q_Tx_statement_286.eq_2]
          exact ⟨fun _ => ⟨fun z => absurd i_0 z, fun _ => bad w' r (Hb r (ZI_7 k (ZE_b hz hf)) hf) hf ew⟩, fun z => absurd i_0 z⟩
      · have l2 := ys_len Z2.1
        exact ih w2 s2 Z2 (K.tr K2) (by omega) (ea.trans hA) (fun r h7 hf => Hb r (ZI_7 k (ZE_g hz rfl (ZE_b h7 hf))) hf) (fun s9 h7 => Hg s9 (ZI_7 k (ZE_g hz rfl (ZE_g h7 rfl (ZE_n _ _ _ _ _))))) (by omega)
theorem n_286 {B S : MW → (Int32 → MW → Prop) → Prop} {a b c d : Int32} {E : Int32 → MW → Prop} {Q : Int32 → MW → Prop} {w : MW} (h : E 0 w) (m : Nat) (hm : 0 < m) : q_Tx_statement_286 B S a b c d E Q m 0 w := by
  cases m with
  | zero => omega
  | succ m =>
    rw [q_Tx_statement_286.eq_2]
    exact ⟨fun _ => h, fun z => absurd i_0 z⟩
theorem yk_par {B S : MW → (Int32 → MW → Prop) → Prop} {f : Int → Int} {n : Int} {nm : List Nm} {op : Nat} {e lo : Int} {s1 : ZS} {v : MW} {wh ln : Int32} {Q : Int32 → MW → Prop} (hB : HZm B 4 op f n nm) (hZ : YZ v f n nm op e lo s1) (hA : s1.2.2.2.2 = (0, 0, 0)) (bad : YBd f n nm op [(4, 0), (4, 0), (7, 0)] s1 Q) (good : YGd f n nm op e lo [(4, 0), (4, 0), (7, 0)] s1 v wh ln Q) : (B v  (fun r46 w46 => (p_Tx_pushed w46 r46 (fun r47 w47 => ((r47.toInt = 0 → (q_Tx_statement_284 B S wh ln (v.1 129 35) 0 0 w47 Q)) ∧ (¬ (r47.toInt = 0) → (B w47  (fun r56 w56 => (p_Tx_pushed w56 r56 (fun r57 w57 => ((r57.toInt = 0 → (q_Tx_statement_284 B S wh ln (v.1 129 35) 0 0 w57 Q)) ∧ (¬ (r57.toInt = 0) → (q_Tx_statement_284 B S wh ln (v.1 129 35) 0 1 w57 Q))))))))))))) := by
  have fu : (1000 : Nat) < FU := fu_lt (by decide)
  have B0 : ∀ (w' : MW) (r : ZR), ZE f n (lkn nm) op [(4, 0), (4, 0), (7, 0)] s1 r → r.1 = false → (w'.1 129 10).toInt = r.2.1 → q_Tx_statement_284 B S wh ln (v.1 129 35) 0 0 w' Q := fun w' r a b c => Eq.mpr (q_Tx_statement_284.eq_1 _ _ _ _ _ _ _ _ _) (n_286 ⟨fun z => absurd i_0 z, fun _ => bad w' r a b c⟩ FU (by omega))
  refine yi_blk hB hZ (fun w' r hz hf ew => ⟨fun _ => B0 w' r (ZE_b hz hf) hf ew, fun z => absurd i_0 z⟩) (fun w1 s2 hz ea p1 n1 Z1 K1 => ⟨fun z => absurd z i1n, fun _ => yi_blk hB Z1 (fun w' r hz2 hf ew => ⟨fun _ => B0 w' r (ZE_g hz rfl (ZE_b hz2 hf)) hf ew, fun z => absurd i_0 z⟩) (fun w2 s3 hz2 ea2 p2 n2 Z2 K2 => ⟨fun z => absurd z i1n, fun _ => Eq.mpr (q_Tx_statement_284.eq_1 _ _ _ _ _ _ _ _ _) (yk_286 hB bad good FU w2 s3 Z2 (K1.tr K2) (by omega) ((ea2.trans ea).trans hA) (fun r h7 hf => ZE_g hz rfl (ZE_g hz2 rfl (ZE_b h7 hf))) (fun s9 h7 => ZE_g hz rfl (ZE_g hz2 rfl (ZE_g h7 rfl (ZE_n _ _ _ _ _)))) (by omega))⟩)⟩)
/-- if -/
theorem yk_if {B S : MW → (Int32 → MW → Prop) → Prop} {f : Int → Int} {n : Int} {nm : List Nm} {op : Nat} {e lo : Int} {s1 : ZS} {v : MW} {wh ln : Int32} {Q : Int32 → MW → Prop} (hB : HZm B 4 op f n nm) (hZ : YZ v f n nm op e lo s1) (hA : s1.2.2.2.2 = (0, 0, 0)) (bad : YBd f n nm op [(3, 0), (4, 0), (6, 0)] s1 Q) (good : YGd f n nm op e lo [(3, 0), (4, 0), (6, 0)] s1 v wh ln Q) : (p_Tx_test v  (fun r60 w60 => (p_Tx_pushed w60 r60 (fun r61 w61 => ((r61.toInt = 0 → (q_Tx_statement_340 B S wh ln (v.1 129 35) 0 0 w61 Q)) ∧ (¬ (r61.toInt = 0) → (B w61  (fun r77 w77 => (p_Tx_pushed w77 r77 (fun r78 w78 => ((r78.toInt = 0 → (q_Tx_statement_340 B S wh ln (v.1 129 35) 0 0 w78 Q)) ∧ (¬ (r78.toInt = 0) → (q_Tx_statement_340 B S wh ln (v.1 129 35) 0 1 w78 Q))))))))))))) := by
  have B0 : ∀ (w' : MW) (r : ZR), ZE f n (lkn nm) op [(3, 0), (4, 0), (6, 0)] s1 r → r.1 = false → (w'.1 129 10).toInt = r.2.1 → q_Tx_statement_340 B S wh ln (v.1 129 35) 0 0 w' Q := fun w' r a b c => Eq.mpr (q_Tx_statement_340.eq_1 _ _ _ _ _ _ _ _ _) ⟨fun _ => ⟨fun z => absurd i_0 z, fun _ => bad w' r a b c⟩, fun z => absurd i_0 z⟩
  have M0 : ∀ (w' : MW) (r : ZR), ZE f n (lkn nm) op [(3, 0), (4, 0), (6, 0)] s1 r → r.1 = false → (w'.1 129 10).toInt = r.2.1 → q_Tx_statement_379 B S wh ln (v.1 129 35) 0 0 w' Q := fun w' r a b c => Eq.mpr (q_Tx_statement_379.eq_1 _ _ _ _ _ _ _ _ _) ⟨fun z => absurd i_0 z, fun _ => bad w' r a b c⟩
  refine yi_tst hZ (fun w' r hz hf ew => ⟨fun _ => B0 w' r (ZE_b hz hf) hf ew, fun z => absurd i_0 z⟩) (fun w1 s2 hz ea p1 n1 Z1 K1 => ⟨fun z => absurd z i1n, fun _ => yi_blk hB Z1 (fun w' r hz2 hf ew => ⟨fun _ => B0 w' r (ZE_g hz rfl (ZE_b hz2 hf)) hf ew, fun z => absurd i_0 z⟩) (fun w2 s3 hz2 ea2 p2 n2 Z2 K2 => ⟨fun z => absurd z i1n, fun _ => ?_⟩)⟩)
  have a3 : s3.2.2.2.2 = (0, 0, 0) := (ea2.trans ea).trans hA
  refine Eq.mpr (q_Tx_statement_340.eq_1 _ _ _ _ _ _ _ _ _) ⟨fun z => absurd z i1n, fun _ => y_isw (c := 18) Z2.1 (by decide) (by decide) (fun k18 => ⟨fun z => absurd z i1n, fun _ => ?_⟩) (fun n18 => ⟨fun _ => ⟨fun _ => good w2 s3 0 (ZE_g hz rfl (ZE_g hz2 rfl (ZE_g (ZI_6n n18) rfl (ZE_n _ _ _ _ _)))) Z2 (K1.tr K2) ?_ (by omega), fun z => absurd i1n z⟩, fun z => absurd i_0 z⟩)⟩
  · refine yi_go Z2 k18 (fun w' r hz3 hf ew => ⟨fun _ => M0 w' r (ZE_g hz rfl (ZE_g hz2 rfl (ZE_b (ZI_6 k18 (ZE_b hz3 hf)) hf))) hf ew, fun z => absurd i_0 z⟩) (fun w4 s4 hz3 es3 p4 Z4 _ K4 => ⟨fun z => absurd z i1n, fun _ => yi_blk hB Z4 (fun w' r hz4 hf ew => ⟨fun _ => M0 w' r (ZE_g hz rfl (ZE_g hz2 rfl (ZE_b (ZI_6 k18 (ZE_g hz3 rfl (ZE_b hz4 hf))) hf))) hf ew, fun z => absurd i_0 z⟩) (fun w5 s5 hz4 ea4 p5 n5 Z5 K5 => ⟨fun z => absurd z i1n, fun _ => Eq.mpr (q_Tx_statement_379.eq_1 _ _ _ _ _ _ _ _ _) ⟨fun _ => good w5 s5 0 (ZE_g hz rfl (ZE_g hz2 rfl (ZE_g (ZI_6 k18 (ZE_g hz3 rfl (ZE_g hz4 rfl (ZE_n _ _ _ _ _)))) rfl (ZE_n _ _ _ _ _)))) Z5 (((K1.tr K2).tr K4).tr K5) ?_ (by omega), fun z => absurd i1n z⟩⟩)⟩)
    rw [ea4, es3]
    show _ = s3.2.2.2.2.1
    rw [a3]
    decide
  · rw [a3]
    decide
/-- repeat -/
theorem yk_rep {B S : MW → (Int32 → MW → Prop) → Prop} {f : Int → Int} {n : Int} {nm : List Nm} {op : Nat} {e lo : Int} {s1 : ZS} {v : MW} {wh ln : Int32} {Q : Int32 → MW → Prop} (hB : HZm B 4 op f n nm) (hZ : YZ v f n nm op e lo s1) (hA : s1.2.2.2.2 = (0, 0, 0)) (bad : YBd f n nm op [(2, 0), (4, 0)] s1 Q) (good : YGd f n nm op e lo [(2, 0), (4, 0)] s1 v wh ln Q) : (p_Tx_sumOf v 0 (fun r81 w81 => ((r81.toInt = 0 → (q_Tx_statement_408 B S wh ln (v.1 129 35) 0 0 w81 Q)) ∧ (¬ (r81.toInt = 0) → (B w81  (fun r85 w85 => (p_Tx_pushed w85 r85 (fun r86 w86 => ((r86.toInt = 0 → (q_Tx_statement_408 B S wh ln (v.1 129 35) 0 0 w86 Q)) ∧ (¬ (r86.toInt = 0) → (q_Tx_statement_408 B S wh ln (v.1 129 35) 0 1 w86 Q))))))))))) := by
  have B0 : ∀ (w' : MW) (r : ZR), ZE f n (lkn nm) op [(2, 0), (4, 0)] s1 r → r.1 = false → (w'.1 129 10).toInt = r.2.1 → q_Tx_statement_408 B S wh ln (v.1 129 35) 0 0 w' Q := fun w' r a b c => Eq.mpr (q_Tx_statement_408.eq_1 _ _ _ _ _ _ _ _ _) ⟨fun z => absurd i_0 z, fun _ => bad w' r a b c⟩
  refine yi_sum (c := 0) hZ (by rw [if_neg (by decide)]; decide) (fun w' r hz hf ew => ⟨fun _ => B0 w' r (ZE_b hz hf) hf ew, fun z => absurd i_0 z⟩) (fun w1 s2 hz ea p1 n1 Z1 K1 => ⟨fun z => absurd z i1n, fun _ => yi_blk hB Z1 (fun w' r hz2 hf ew => ⟨fun _ => B0 w' r (ZE_g hz rfl (ZE_b hz2 hf)) hf ew, fun z => absurd i_0 z⟩) (fun w2 s3 hz2 ea2 p2 n2 Z2 K2 => ⟨fun z => absurd z i1n, fun _ => Eq.mpr (q_Tx_statement_408.eq_1 _ _ _ _ _ _ _ _ _) ⟨fun _ => good w2 s3 0 (ZE_g hz rfl (ZE_g hz2 rfl (ZE_n _ _ _ _ _))) Z2 (K1.tr K2) ?_ (by omega), fun z => absurd i1n z⟩⟩)⟩)
  rw [ea2, ea, hA]
  decide
/-- limit -/
theorem yk_limit {B S : MW → (Int32 → MW → Prop) → Prop} {f : Int → Int} {n : Int} {nm : List Nm} {op : Nat} {e lo : Int} {s1 : ZS} {v : MW} {wh ln : Int32} {Q : Int32 → MW → Prop} (hB : HZm B 4 op f n nm) (hZ : YZ v f n nm op e lo s1) (hA : s1.2.2.2.2 = (0, 0, 0)) (bad : YBd f n nm op [(3, 0), (4, 0), (0, 21), (4, 0)] s1 Q) (good : YGd f n nm op e lo [(3, 0), (4, 0), (0, 21), (4, 0)] s1 v wh ln Q) : (p_Tx_test v  (fun r89 w89 => (p_Tx_pushed w89 r89 (fun r90 w90 => ((r90.toInt = 0 → (q_Tx_statement_461 B S wh ln (v.1 129 35) 0 0 w90 Q)) ∧ (¬ (r90.toInt = 0) → (B w90  (fun r94 w94 => (p_Tx_pushed w94 r94 (fun r95 w95 => ((r95.toInt = 0 → (q_Tx_statement_461 B S wh ln (v.1 129 35) 0 0 w95 Q)) ∧ (¬ (r95.toInt = 0) → (p_Tx_over w95 1034 (fun r97 w97 => ((r97.toInt = 0 → (q_Tx_statement_461 B S wh ln (v.1 129 35) 0 0 w97 Q)) ∧ (¬ (r97.toInt = 0) → (B w97  (fun r99 w99 => (p_Tx_pushed w99 r99 (fun r100 w100 => ((r100.toInt = 0 → (q_Tx_statement_461 B S wh ln (v.1 129 35) 0 0 w100 Q)) ∧ (¬ (r100.toInt = 0) → (q_Tx_statement_461 B S wh ln (v.1 129 35) 0 1 w100 Q))))))))))))))))))))))) := by
  have B0 : ∀ (w' : MW) (r : ZR), ZE f n (lkn nm) op [(3, 0), (4, 0), (0, 21), (4, 0)] s1 r → r.1 = false → (w'.1 129 10).toInt = r.2.1 → q_Tx_statement_461 B S wh ln (v.1 129 35) 0 0 w' Q := fun w' r a b c => Eq.mpr (q_Tx_statement_461.eq_1 _ _ _ _ _ _ _ _ _) ⟨fun z => absurd i_0 z, fun _ => bad w' r a b c⟩
  refine yi_tst hZ (fun w' r hz hf ew => ⟨fun _ => B0 w' r (ZE_b hz hf) hf ew, fun z => absurd i_0 z⟩) (fun w1 s2 hz ea p1 n1 Z1 K1 => ⟨fun z => absurd z i1n, fun _ => yi_blk hB Z1 (fun w' r hz2 hf ew => ⟨fun _ => B0 w' r (ZE_g hz rfl (ZE_b hz2 hf)) hf ew, fun z => absurd i_0 z⟩) (fun w2 s3 hz2 ea2 p2 n2 Z2 K2 => ⟨fun z => absurd z i1n, fun _ => yi_tk (c := 21) Z2 s21 (fun w' r hz3 hf ew => ⟨fun _ => B0 w' r (ZE_g hz rfl (ZE_g hz2 rfl (ZE_b hz3 hf))) hf ew, fun z => absurd i_0 z⟩) (fun w4 s4 hz3 es3 p4 Z4 K4 => ⟨fun z => absurd z i1n, fun _ => yi_blk hB Z4 (fun w' r hz4 hf ew => ⟨fun _ => B0 w' r (ZE_g hz rfl (ZE_g hz2 rfl (ZE_g hz3 rfl (ZE_b hz4 hf)))) hf ew, fun z => absurd i_0 z⟩) (fun w5 s5 hz4 ea4 p5 n5 Z5 K5 => ⟨fun z => absurd z i1n, fun _ => Eq.mpr (q_Tx_statement_461.eq_1 _ _ _ _ _ _ _ _ _) ⟨fun _ => good w5 s5 0 (ZE_g hz rfl (ZE_g hz2 rfl (ZE_g hz3 rfl (ZE_g hz4 rfl (ZE_n _ _ _ _ _))))) Z5 (((K1.tr K2).tr K4).tr K5) ?_ (by omega), fun z => absurd i1n z⟩⟩)⟩)⟩)⟩)
  rw [ea4, es3]
  show _ = s3.2.2.2.2.1
  rw [ea2, ea, hA]
  decide
