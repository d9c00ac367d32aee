/-! THE REFERENCE READS A PROGRAM, exactly -/
theorem pg1_f {f : Int → Int} {n e : Int} {z : ZS} {nm : List Nm} (h : PG1 f n (false, e) z nm) : PGM f n (false, e, 0, [], [], []) := by
  unfold PG1 at h
  unfold PGM
  by_cases c : (wrd f n 0).1 = 33
  · rw [if_pos c] at h ⊢
    have t : e = (wrd f n 0).2.1 := congrArg Prod.snd h
    rw [t]
  · rw [if_neg c] at h ⊢
    obtain ⟨k, d, a, b⟩ := h
    refine ⟨k, d, a, ?_⟩
    by_cases g : d.1 = true
    · rw [if_pos g] at b ⊢
      obtain ⟨y, yz, yb⟩ := b
      refine ⟨y, yz, ?_⟩
      by_cases gy : y.1 = true
      · rw [if_pos gy] at yb
        exact absurd (show false = true from congrArg Prod.fst yb.1) (by decide)
      · rw [if_neg gy] at yb ⊢
        have t : e = y.2.1 := congrArg Prod.snd yb
        rw [t]
    · rw [if_neg g] at b ⊢
      have t : e = d.2.1 := congrArg Prod.snd b
      rw [t]
theorem pg1_t {f : Int → Int} {n : Int} {z : ZS} {nm : List Nm} (h : PG1 f n (true, 0) z nm) : (tooM z.2.1 z.2.2.2.1 → PGM f n (false, n, 0, [], [], [])) ∧ (¬ tooM z.2.1 z.2.2.2.1 → PGM f n (true, 0, z.2.2.1, z.2.1, nm, z.2.2.2.1)) := by
  unfold PG1 at h
  by_cases c : (wrd f n 0).1 = 33
  · rw [if_pos c] at h
    exact absurd (show true = false from congrArg Prod.fst h) (by decide)
  · rw [if_neg c] at h
    obtain ⟨k, d, a, b⟩ := h
    by_cases g : d.1 = true
    · rw [if_pos g] at b
      obtain ⟨y, yz, yb⟩ := b
      by_cases gy : y.1 = true
      · rw [if_pos gy] at yb
        obtain ⟨_, ez, en⟩ := yb
        rw [ez, en]
        have up : ∀ r, ((tooM y.2.2.2.1 y.2.2.2.2.2.1 ∧ r = (false, n, 0, [], [], [])) ∨ (¬ tooM y.2.2.2.1 y.2.2.2.2.2.1 ∧ r = (true, 0, y.2.2.2.2.1, y.2.2.2.1, d.2.2.2.2.2, y.2.2.2.2.2.1))) → PGM f n r := fun r hr => by
          unfold PGM
          rw [if_neg c]
          refine ⟨k, d, a, ?_⟩
          rw [if_pos g]
          refine ⟨y, yz, ?_⟩
          rw [if_pos gy]
          exact hr
        exact ⟨fun t => up _ (Or.inl ⟨t, rfl⟩), fun t => up _ (Or.inr ⟨t, rfl⟩)⟩
      · rw [if_neg gy] at yb
        exact absurd (show true = false from congrArg Prod.fst yb) (by decide)
    · rw [if_neg g] at b
      exact absurd (show true = false from congrArg Prod.fst b) (by decide)
/-- names' roles and what stands outside, in the half that stands -/
def RlM (w : MW) (nm : List Nm) : Prop := (w.1 129 32).toInt = (nm.length : Int) ∧ nm.length ≤ 40 ∧ ∀ (i : Nat) (x : Nm), nm[i]? = some x → (w.1 141 (40 * (w.1 129 12).toInt + (i : Int)).toNat).toInt = mrl x.2.1 ∧ (x.2.1 = 8 ∨ x.2.1 = 9 ∨ x.2.1 = 10)
def TpW (w : MW) (ts ks : List Nat) : Prop := (w.1 129 31).toInt = ((ts ++ ks).length : Int) ∧ (∀ (k c : Nat), (ts ++ ks)[k]? = some c → (w.1 138 (300 * (w.1 129 12).toInt + (k : Int)).toNat).toInt = (c : Int)) ∧ (∀ t ∈ ts, t < 300 ∧ (w.1 131 (300 * (w.1 129 12).toInt + (t : Int)).toNat).toInt = 24) ∧ ∀ t ∈ ks, t < 300 ∧ (w.1 131 (300 * (w.1 129 12).toInt + (t : Int)).toNat).toInt ≤ 23
/-- what the reference's read answers -/
def YRd (f : Int → Int) (n : Int) (r : Int32) (w' : MW) : Prop := w'.1 129 1 = 0 ∧ ((∃ x : Int32, PGM f n (false, x.toInt, 0, [], [], []) ∧ r = (-1 : Int32) - x) ∨ (∃ (m : Int) (ns : List Nod) (nm : List Nm) (ks ts : List Nat), PGM f n (true, 0, m, ns, nm, ks) ∧ r.toInt = m ∧ 0 ≤ m ∧ RlM w' nm ∧ TpW w' ts ks))
theorem y_read {w : MW} {f : Int → Int} {n : Int} {Q : Int32 → MW → Prop} (hI : BND w) (hT : TXm w f n) (n0 : 0 ≤ n) (hQ : ∀ (r : Int32) (w' : MW), YRd f n r w' → Q r w') : p_Tx_read w Q := by
  have f0 : FR [(129, some 2), (129, some 3), (129, some 11), (129, some 13), (129, some 21), (129, some 23), (129, some 24), (129, some 35), (129, some 38), (129, some 10)] w (sI (sI (sI (sI (sI (sI (sI (sI (sI (sI w 129 2 0) 129 3 1) 129 11 0) 129 13 0) 129 21 0) 129 23 0) 129 24 0) 129 35 0) 129 38 0) 129 10 (-1)) := FR.I (FR.I (FR.I (FR.I (FR.I (FR.I (FR.I (FR.I (FR.I (FR.I (FR.refl _ w) rfl) rfl) rfl) rfl) rfl) rfl) rfl) rfl) rfl) rfl
  have hB : BND (sI (sI (sI (sI (sI (sI (sI (sI (sI (sI w 129 2 0) 129 3 1) 129 11 0) 129 13 0) 129 21 0) 129 23 0) 129 24 0) 129 35 0) 129 38 0) 129 10 (-1)) := wbd_129_10 (wbd_129_38 (wbd_129_35 (wbd_129_24 (wbd_129_23 (wbd_129_21 (wbd_129_13 (wbd_129_11 (wbd_129_3 (wbd_129_2 hI (by decide) (by decide))) (by decide) (by decide)) (by decide) (by decide)) (by decide) (by decide)) (by decide) (by decide)) (by decide) (by decide)) (by decide) (by decide)))
  have e2 : (sI (sI (sI (sI (sI (sI (sI (sI (sI (sI w 129 2 0) 129 3 1) 129 11 0) 129 13 0) 129 21 0) 129 23 0) 129 24 0) 129 35 0) 129 38 0) 129 10 (-1)).1 129 2 = 0 := rfl
  have e11 : (sI (sI (sI (sI (sI (sI (sI (sI (sI (sI w 129 2 0) 129 3 1) 129 11 0) 129 13 0) 129 21 0) 129 23 0) 129 24 0) 129 35 0) 129 38 0) 129 10 (-1)).1 129 11 = 0 := rfl
  have e13 : (sI (sI (sI (sI (sI (sI (sI (sI (sI (sI w 129 2 0) 129 3 1) 129 11 0) 129 13 0) 129 21 0) 129 23 0) 129 24 0) 129 35 0) 129 38 0) 129 10 (-1)).1 129 13 = 0 := rfl
  have e21 : (sI (sI (sI (sI (sI (sI (sI (sI (sI (sI w 129 2 0) 129 3 1) 129 11 0) 129 13 0) 129 21 0) 129 23 0) 129 24 0) 129 35 0) 129 38 0) 129 10 (-1)).1 129 21 = 0 := rfl
  have e23 : (sI (sI (sI (sI (sI (sI (sI (sI (sI (sI w 129 2 0) 129 3 1) 129 11 0) 129 13 0) 129 21 0) 129 23 0) 129 24 0) 129 35 0) 129 38 0) 129 10 (-1)).1 129 23 = 0 := rfl
  have e24 : (sI (sI (sI (sI (sI (sI (sI (sI (sI (sI w 129 2 0) 129 3 1) 129 11 0) 129 13 0) 129 21 0) 129 23 0) 129 24 0) 129 35 0) 129 38 0) 129 10 (-1)).1 129 24 = 0 := rfl
  have e35 : (sI (sI (sI (sI (sI (sI (sI (sI (sI (sI w 129 2 0) 129 3 1) 129 11 0) 129 13 0) 129 21 0) 129 23 0) 129 24 0) 129 35 0) 129 38 0) 129 10 (-1)).1 129 35 = 0 := rfl
  have e38 : (sI (sI (sI (sI (sI (sI (sI (sI (sI (sI w 129 2 0) 129 3 1) 129 11 0) 129 13 0) 129 21 0) 129 23 0) 129 24 0) 129 35 0) 129 38 0) 129 10 (-1)).1 129 38 = 0 := rfl
  refine Eq.mpr (p_Tx_read.eq_1 _ _) ?_
  generalize (sI (sI (sI (sI (sI (sI (sI (sI (sI (sI w 129 2 0) 129 3 1) 129 11 0) 129 13 0) 129 21 0) 129 23 0) 129 24 0) 129 35 0) 129 38 0) 129 10 (-1)) = w0 at *
  have T0 : TXm w0 f n := ⟨by rw [(f0 129 1 rfl).1]; exact hT.1, hT.2.1, fun p hp => by rw [(f0 130 p rfl).1]; exact hT.2.2.1 p hp, hT.2.2.2⟩
  have J0 : YJ 0 w0 := ⟨hB, Int.le_refl _, by rw [e35, e21, e23, e13]; decide⟩
  have B0 : YB w0 f n [] 0 0 := ⟨J0, T0, ⟨by rw [e24]; rfl, by decide, fun i x h => (by cases h)⟩, by rw [e11]; rfl⟩
  have bad : ∀ (w1 : MW) (e : Int), PGM f n (false, e, 0, [], [], []) → (w1.1 129 10).toInt = e → q_Tx_read_69 0 w1 Q := fun w1 e hp h1 => Eq.mpr (q_Tx_read_69.eq_1 _ _ _) ⟨fun q => absurd i_0 q, fun _ => hQ _ _ ⟨rfl, Or.inl ⟨w1.1 129 10, by rw [h1]; exact hp, rfl⟩⟩⟩
  refine y_prog B0 (by rw [e2]; exact i_0) n0 (by rw [e13]; exact i_0) (by rw [e23]; exact i_0) (by rw [e38]; exact i_0) (fun w1 e hp h1 => ⟨fun _ => bad w1 e (pg1_f hp) h1, fun c => absurd i_0 c⟩) (fun w1 z nm ts hp k32 h1 => ⟨fun c => absurd c i1n, fun _ => ?_⟩)
  have wf := PG1_wf hp
  have pt := pg1_t hp
  refine y_small h1 wf.2 wf.1 (fun tm w4 h10 => ⟨fun _ => bad w4 n (pt.1 tm) h10, fun c => absurd i_0 c⟩) (fun nt w4 hB4 F4 => ⟨fun c => absurd c i1n, fun _ => Eq.mpr (q_Tx_read_69.eq_1 _ _ _) ⟨fun _ => hQ _ _ ⟨rfl, Or.inr ⟨z.2.2.1, z.2.1, nm, z.2.2.2.1, ts, pt.2 nt, ?_, h1.2.2.1, ?_, ?_⟩⟩, fun c => absurd i1n c⟩⟩)
  · rw [(F4 129 38 rfl).1]
    exact h1.2.1
  all_goals
    have b12 := bd_129_12 hB4
    have s1 := ti_sub2 (by decide : ((1 : Int32)).toInt = 1) (Eq.refl (w4.1 129 12).toInt) (by omega) (by omega)
    have eh : ((sI (sI (sI (sI (sI (sI w4 129 1 0) 129 12 ((1 : Int32) - (w4.1 129 12))) 129 30 (w4.1 129 13)) 129 31 (w4.1 129 23)) 129 32 (w4.1 129 24)) 129 33 (w4.1 129 38)).1 129 12).toInt = bhf w1 := by
      show ((1 : Int32) - (w4.1 129 12)).toInt = 1 - (w1.1 129 12).toInt
      rw [s1, (F4 129 12 rfl).1]
    have ek : ∀ k j : Nat, 130 ≤ k → (sI (sI (sI (sI (sI (sI w4 129 1 0) 129 12 ((1 : Int32) - (w4.1 129 12))) 129 30 (w4.1 129 13)) 129 31 (w4.1 129 23)) 129 32 (w4.1 129 24)) 129 33 (w4.1 129 38)).1 k j = w4.1 k j := fun k j hk => by
      rw [sI_oth _ _ _ _ _ _ (by omega), sI_oth _ _ _ _ _ _ (by omega), sI_oth _ _ _ _ _ _ (by omega), sI_oth _ _ _ _ _ _ (by omega), sI_oth _ _ _ _ _ _ (by omega), sI_oth _ _ _ _ _ _ (by omega)]
    have q32 : (sI (sI (sI (sI (sI (sI w4 129 1 0) 129 12 ((1 : Int32) - (w4.1 129 12))) 129 30 (w4.1 129 13)) 129 31 (w4.1 129 23)) 129 32 (w4.1 129 24)) 129 33 (w4.1 129 38)).1 129 32 = w4.1 129 24 := rfl
    have q31 : (sI (sI (sI (sI (sI (sI w4 129 1 0) 129 12 ((1 : Int32) - (w4.1 129 12))) 129 30 (w4.1 129 13)) 129 31 (w4.1 129 23)) 129 32 (w4.1 129 24)) 129 33 (w4.1 129 38)).1 129 31 = w4.1 129 23 := rfl
    generalize (sI (sI (sI (sI (sI (sI w4 129 1 0) 129 12 ((1 : Int32) - (w4.1 129 12))) 129 30 (w4.1 129 13)) 129 31 (w4.1 129 23)) 129 32 (w4.1 129 24)) 129 33 (w4.1 129 38)) = v at *
  · have NN := h1.1.1.2.2.1
    refine ⟨by rw [q32, (F4 129 24 rfl).1]; exact NN.1, NN.2.1, fun i x hx => ?_⟩
    have t := NN.2.2 i x hx
    rw [eh, ek 141 _ (by decide), (F4 141 _ rfl).1]
    exact ⟨t.2.2.2.1, t.2.2.2.2.2.2⟩
  · have TT := h1.2.2.2.2.1
    have l3 := ys_len h1.1
    refine ⟨by rw [q31, (F4 129 23 rfl).1]; exact TT.1, fun k c hk => ?_, fun t ht => ?_, fun t ht => ?_⟩
    · rw [eh, ek 138 _ (by decide), (F4 138 _ rfl).1]
      exact TT.2 k c hk
    · have q := h1.2.2.2.2.2.1 t ht
      rw [eh, ek 131 _ (by decide), (F4 131 _ rfl).1]
      exact ⟨by omega, q.2⟩
    · have q := h1.2.2.2.2.2.2 t ht
      rw [eh, ek 131 _ (by decide), (F4 131 _ rfl).1]
      exact ⟨by omega, q.2⟩
/-! the half that stands: names' roles, too -/
def S41 (w w' : MW) : Prop := ∀ j : Nat, 40 * (w.1 129 12).toInt ≤ (j : Int) → (j : Int) < 40 * (w.1 129 12).toInt + 40 → w'.1 141 j = w.1 141 j
def PgU (w w' : MW) : Prop := PgS w w' ∧ S41 w w'
theorem PgU.tr {w w1 w2 : MW} (h : PgU w w1) (h2 : PgU w1 w2) : PgU w w2 := by
  have e : w1.1 129 12 = w.1 129 12 := (h.1.1 129 12 rfl).1
  exact ⟨h.1.tr h2.1, fun j a b => (h2.2 j (by rw [e]; exact a) (by rw [e]; exact b)).trans (h.2 j a b)⟩
theorem PgU.of {m : Int} {w w' : MW} (h : TbS m w w') : PgU w w' := ⟨PgS.of h, fun j _ _ => (h.1 141 j rfl).1⟩
theorem t7_tell {e : Int} {w : MW} {a : Int32} {Q : Int32 → MW → Prop} (h : TbI e w) (hT : TpT w) (a0 : -1128 ≤ a.toInt) (a1 : a.toInt ≤ 1000) (hk : (w.1 129 4).toInt < 900 ∨ 2000 ≤ (w.1 129 4).toInt ∨ ((w.1 129 5).toInt ≤ (w.1 129 6).toInt ∧ (w.1 129 6).toInt ≤ (w.1 129 5).toInt + 12)) (hQ : ∀ (r : Int32) (w' : MW), TbI e w' → TpT w' → PgU w w' → (0 ≤ r.toInt → r.toInt < (w'.1 129 24).toInt ∧ (w.1 129 24).toInt < (w'.1 129 24).toInt ∧ stB w' r.toInt < 0 ∧ (MD w → MD w')) → Q r w') : p_Tx_tell w a Q := by
  have b24 := bd_129_24 h.1
  have b12 := bd_129_12 h.1
  have bh := bhf_b h.1
  have b5 := bd_129_5 h.1
  have b6 := bd_129_6 h.1
  have bad : p_Tx_bad w (fun r3 w3 => (Q r3 w3)) := t_bad h (fun r w' r0 h' m' => hQ r w' h' (tpt_ts hT m'.1) (PgU.of m'.1) (fun c => by omega))
  refine Eq.mpr (p_Tx_tell.eq_1 _ _ _) (Eq.mpr (p_Tx_isWord.eq_1 _ _ _) ⟨fun _ => ⟨fun _ => bad, fun c => absurd i_0 c⟩, fun ck => ⟨fun c => absurd c (by decide), fun _ => t_nameOf h.1 ⟨fun c => absurd c (by decide), fun _ => ⟨fun c40 => ?_, fun _ => bad⟩⟩ (fun r r0 r1 => ⟨fun _ => bad, fun c => absurd r0 c⟩)⟩⟩)
  have k999 : (w.1 129 4).toInt = 999 := by
    have z : ((1000 : Int32) + (-1)).toInt = 999 := by decide
    rw [z] at ck
    omega
  have ei := cc_ix (n := w.1 129 24) h.1 b24.1 (by omega)
  refine hq_Tx_tell_49 FU _ w h.1 a0 a1 (by omega) (by omega) b5.1 b5.2 (Int.le_refl _) (by omega) (fu_lt (by omega)) (fun w11 hI11 hF11 => ?_) (fun _ _ _ _ q => q.elim)
  refine ⟨⟨by omega, by omega⟩, ⟨by omega, by omega⟩, ⟨by omega, by omega⟩, ⟨by omega, by omega⟩, ?_⟩
  have e24 : w11.1 129 24 = w.1 129 24 := (hF11 129 24 rfl).1
  have e5 : w11.1 129 5 = w.1 129 5 := (hF11 129 5 rfl).1
  have e6 : w11.1 129 6 = w.1 129 6 := (hF11 129 6 rfl).1
  have sd := ti_sub2 (Eq.refl (w.1 129 6).toInt) (Eq.refl (w.1 129 5).toInt) (by omega) (by omega)
  have s24 := ti_add2 (Eq.refl (w.1 129 24).toInt) i_1 (by omega) (by omega)
  have t24 := ti_sub2 s24 i_1 (by omega) (by omega)
  rw [e24, e5, e6]
  generalize hX : (((40 : Int32) * ((1 : Int32) - (w.1 129 12))) + (w.1 129 24)).toInt.toNat = X
  have X0 : (X : Int) = 40 * bhf w + (w.1 129 24).toInt := by rw [← hX]; omega
  have hB : BND (sI (sI (sI (sI (sI w11 140 X ((w.1 129 6) - (w.1 129 5))) 141 X a) 142 X 0) 143 X (-1)) 129 24 ((w.1 129 24) + (1 : Int32))) := wbd_129_24 (wbd_143 (wbd_142 (wbd_141 (wbd_140 hI11 X (by omega) (by omega)) X) X (by decide) (by decide)) X (by decide) (by decide)) (by omega) (by omega)
  have hF : FR ltl w (sI (sI (sI (sI (sI w11 140 X ((w.1 129 6) - (w.1 129 5))) 141 X a) 142 X 0) 143 X (-1)) 129 24 ((w.1 129 24) + (1 : Int32))) := FR.I (FR.I (FR.I (FR.I (FR.I ((FR.refl ltl w).tr hF11 rfl) rfl) rfl) rfl) rfl) rfl
  have r24 : ((sI (sI (sI (sI (sI w11 140 X ((w.1 129 6) - (w.1 129 5))) 141 X a) 142 X 0) 143 X (-1)) 129 24 ((w.1 129 24) + (1 : Int32))).1 129 24).toInt = (w.1 129 24).toInt + 1 := s24
  have r143 : ∀ j, (sI (sI (sI (sI (sI w11 140 X ((w.1 129 6) - (w.1 129 5))) 141 X a) 142 X 0) 143 X (-1)) 129 24 ((w.1 129 24) + (1 : Int32))).1 143 j = (sI w11 143 X (-1)).1 143 j := fun j => rfl
  have r141 : ∀ j, (sI (sI (sI (sI (sI w11 140 X ((w.1 129 6) - (w.1 129 5))) 141 X a) 142 X 0) 143 X (-1)) 129 24 ((w.1 129 24) + (1 : Int32))).1 141 j = (sI w11 141 X a).1 141 j := fun j => rfl
  generalize (sI (sI (sI (sI (sI w11 140 X ((w.1 129 6) - (w.1 129 5))) 141 X a) 142 X 0) 143 X (-1)) 129 24 ((w.1 129 24) + (1 : Int32))) = w' at *
  have e12 : bhf w' = bhf w := by unfold bhf; rw [(hF 129 12 rfl).1]
  have ev : bhf w = 1 - (w.1 129 12).toInt := rfl
  have o143 : ∀ j, j ≠ X → w'.1 143 j = w.1 143 j := fun j hj => by rw [r143, sI_ne _ _ _ _ _ hj]; exact (hF11 143 j rfl).1
  have o141 : ∀ j, j ≠ X → w'.1 141 j = w.1 141 j := fun j hj => by rw [r141, sI_ne _ _ _ _ _ hj]; exact (hF11 141 j rfl).1
  have sN : stB w' (w.1 129 24).toInt = -1 := by
    unfold stB
    rw [e12, (by omega : (40 * bhf w + (w.1 129 24).toInt).toNat = X), r143, sI_same]
    decide
  have sO : ∀ m, 0 ≤ m → m < (w.1 129 24).toInt → stB w' m = stB w m := fun m m0 m1 => by
    unfold stB
    rw [e12, o143 _ (by omega)]
  refine hQ _ w' (tb_st h hF hB (by omega) (fun m m0 m1 _ => sO m m0 m1) (fun m m0 m1 m2 => Or.inl ?_)) (tpt_tl hT hF) ⟨pgs_tl hF (fun j j0 j1 => o143 j (by omega)), fun j j0 j1 => o141 j (by omega)⟩ (fun _ => ⟨by rw [t24]; omega, by omega, by rw [t24, (by omega : (w.1 129 24).toInt + 1 - 1 = (w.1 129 24).toInt), sN]; decide, fun m => by unfold MD; rw [(hF 129 38 rfl).1, (hF 129 13 rfl).1]; exact m⟩)
  by_cases c : m = (w.1 129 24).toInt
  · rw [c, sN] at m2
    omega
  · exact ⟨by omega, by rw [← sO m m0 (by omega)]; exact m2⟩
theorem t7_decl {w : MW} {Q : Int32 → MW → Prop} (h : PgI w) (hQ : ∀ (r : Int32) (w' : MW), PgI w' → PgU w w' → (r.toInt = 0 ∨ (r.toInt = 1 ∧ (w.1 129 24).toInt < (w'.1 129 24).toInt ∧ (MD w → MD w'))) → Q r w') : p_Tx_declaration w Q := by
  have b4 := bd_129_4 h.1.1
  have er := ti_sub2 (Eq.refl (w.1 129 4).toInt) (by decide : ((1000 : Int32)).toInt = 1000) (by omega) (by omega)
  rw [p_Tx_declaration.eq_1]
  generalize ((w.1 129 4) - (1000 : Int32)) = role at *
  refine t_go h.1 (fun r1 w1 h1 f1 _ _ k1 => ?_)
  have m1 := TbM.fr f1 rfl rfl
  have T1 := tpt_ts h.2 m1.1
  have P1 := PgU.of m1.1
  have n1 : w1.1 129 24 = w.1 129 24 := (f1 129 24 rfl).1
  refine ⟨fun c1 => t7_tell h1 T1 (by omega) (by omega) (by omega) (fun r3 w3 h3 T3 P3' k3 => ?_), fun _ => hQ 0 w1 ⟨h1, T1⟩ P1 (Or.inl i_0)⟩
  have P3 := P1.tr P3'
  refine ⟨fun _ => hQ 0 w3 ⟨h3, T3⟩ P3 (Or.inl i_0), fun c3 => ?_⟩
  have q3 := k3 (by omega)
  rw [n1] at q3
  have b24 := bd_129_24 h3.1
  have bh := bhf_b h3.1
  refine t_go h3 (fun r5 w5 h5 f5 _ _ _ => ?_)
  have m5 := TbM.fr f5 rfl rfl
  have T5 := tpt_ts T3 m5.1
  have P5 := P3.tr (PgU.of m5.1)
  have n5 : w5.1 129 24 = w3.1 129 24 := (f5 129 24 rfl).1
  have ei := cc_ix (n := r3) h5.1 (by omega) (by omega)
  have bh5 := bhf_b h5.1
  refine ⟨fun _ => ⟨fun c24 => ?_, fun _ => ?_⟩, fun _ => hQ 0 w5 ⟨h5, T5⟩ P5 (Or.inl i_0)⟩
  · refine t_block h5 (fun r8 w8 t8 => t_pushed t8 (by omega) (by omega) (fun r9 w9 t9 => ⟨fun c9 => ?_, fun _ => hQ 0 w9 ⟨t9.1, tpt_ts T5 t9.2.1⟩ (P5.tr (PgU.of t9.2.1)) (Or.inl i_0)⟩))
    have q9 := t9.2.2 c9
    have b35 := bd_129_35 h5.1
    have T9 := tpt_ts T5 t9.2.1
    have P9 := P5.tr (PgU.of t9.2.1)
    refine t_node t9.1 (by decide) (by decide) (by decide) (by decide) b35.1 (by omega) (tc_24 (by decide) (by omega) ?_) (fun r11 w11 h11 s11 k11 => ?_)
    · show 10 ≤ Kb w9 (pil w9 ((w5.1 129 35).toInt + 0))
      rw [Int.add_zero]
      have := q9.2.2.1
      omega
    have S11 := s11 0
    have T11 := tpt_ts T9 S11
    have P11 := P9.tr (PgU.of S11)
    refine ⟨fun c11 => ?_, fun _ => hQ 0 w11 ⟨h11, T11⟩ P11 (Or.inl i_0)⟩
    have q11 := k11 c11
    have e12 : w11.1 129 12 = w5.1 129 12 := ((S11.1 129 12 rfl).1).trans (t9.2.1.1 129 12 rfl).1
    have e24 : w11.1 129 24 = w5.1 129 24 := ((S11.1 129 24 rfl).1).trans (t9.2.1.1 129 24 rfl).1
    have eh : bhf w11 = bhf w5 := by unfold bhf; rw [e12]
    have es : stB w11 r3.toInt = stB w3 r3.toInt := by
      have a1 := stB_fr f5 rfl r3.toInt
      unfold stB at *
      rw [eh, (S11.1 143 _ rfl).1, (t9.2.1.1 143 _ rfl).1]
      exact a1
    have q12' := tb_step (m := r3) (s := r11) (X := (((40 : Int32) * ((1 : Int32) - (w5.1 129 12))) + r3).toInt.toNat) q11.2.2.1 T11 (by omega) (by rw [e24, n5]; exact q3.1) (by rw [es]; exact q3.2.2.1) c11 q11.1 (by rw [q11.2.1]; decide) (by rw [eh]; omega)
    rw [e12]
    refine ⟨⟨by omega, by omega⟩, Eq.mpr (p_Tx_base.eq_1 _ _) ?_⟩
    have e13 : (sI w11 143 (((40 : Int32) * ((1 : Int32) - (w5.1 129 12))) + r3).toInt.toNat r11).1 129 13 = w11.1 129 13 := rfl
    have M11 : MD w → MD (sI w11 143 (((40 : Int32) * ((1 : Int32) - (w5.1 129 12))) + r3).toInt.toNat r11) := fun m => by
      have z : MD w9 := q9.2.2.2.2.2 (m5.2.2.2 (q3.2.2.2 (m1.2.2.2 m)))
      show MD w11
      unfold MD
      rw [q11.2.2.2.2.2.2, q11.2.2.2.2.2.1]
      exact ⟨z.1, by have := z.2; omega⟩
    have f24 : (sI w11 143 (((40 : Int32) * ((1 : Int32) - (w5.1 129 12))) + r3).toInt.toNat r11).1 129 24 = w11.1 129 24 := rfl
    have f141 : ∀ j, (sI w11 143 (((40 : Int32) * ((1 : Int32) - (w5.1 129 12))) + r3).toInt.toNat r11).1 141 j = w11.1 141 j := fun j => rfl
    generalize (sI w11 143 (((40 : Int32) * ((1 : Int32) - (w5.1 129 12))) + r3).toInt.toNat r11) = w14 at *
    have b23 := bd_129_23 q12'.1.1
    have b13 := bd_129_13 q12'.1.1
    have b21 := bd_129_21 q12'.1.1
    have c35 := bd_129_35 q12'.1.1
    have hs := q12'.1.2.2.2.1
    have et := bb_ix (n := w14.1 129 23) q12'.1.1 (by omega) (by omega)
    have bh14 := bhf_b q12'.1.1
    have s23 := ti_add2 (Eq.refl (w14.1 129 23).toInt) i_1 (by omega) (by omega)
    have z := tb_top (X := (((300 : Int32) * ((1 : Int32) - (w14.1 129 12))) + (w14.1 129 23)).toInt.toNat) (x := (w14.1 129 23) + (1 : Int32)) (e := 0) q12'.1 (by omega) q12'.2.1 c11 (by rw [e13]; exact q11.1) (by rw [q12'.2.2.2, q11.2.1]; decide) (by omega) s23
    refine ⟨⟨by omega, by omega⟩, hQ 1 _ ⟨z.1, z.2.1⟩ ((P11.tr ⟨q12'.2.2.1, fun j _ _ => f141 j⟩).tr ⟨z.2.2, fun j _ _ => rfl⟩) (Or.inr ⟨i_1, ?_, M11⟩)⟩
    show (w.1 129 24).toInt < (w14.1 129 24).toInt
    rw [f24, e24, n5]
    exact q3.2.1
  · refine t_unitWord (fun u u0 u1 => ⟨⟨by omega, by omega⟩, ?_⟩)
    have hF : FR ltl w5 (sI w5 142 ((((40 : Int32) * ((1 : Int32) - (w5.1 129 12))) + r3).toInt.toNat) u) := FR.I (FR.refl _ w5) rfl
    have h6 : TbI 0 (sI w5 142 ((((40 : Int32) * ((1 : Int32) - (w5.1 129 12))) + r3).toInt.toNat) u) := TbI_fr (l := [(142, none)]) h5 (FR.I (FR.refl _ w5) rfl) (wbd_142 h5.1 _ u0 u1) (PV_fr (l := [(142, none)]) (FR.I (FR.refl _ w5) rfl) rfl h5.2.1) rfl
    have M6 : MD w → MD (sI w5 142 ((((40 : Int32) * ((1 : Int32) - (w5.1 129 12))) + r3).toInt.toNat) u) := fun m => m5.2.2.2 (q3.2.2.2 (m1.2.2.2 m))
    have n6 : (sI w5 142 ((((40 : Int32) * ((1 : Int32) - (w5.1 129 12))) + r3).toInt.toNat) u).1 129 24 = w5.1 129 24 := rfl
    have f143 : ∀ j, (sI w5 142 ((((40 : Int32) * ((1 : Int32) - (w5.1 129 12))) + r3).toInt.toNat) u).1 143 j = w5.1 143 j := fun j => rfl
    have g141 : ∀ j, (sI w5 142 ((((40 : Int32) * ((1 : Int32) - (w5.1 129 12))) + r3).toInt.toNat) u).1 141 j = w5.1 141 j := fun j => rfl
    generalize (sI w5 142 ((((40 : Int32) * ((1 : Int32) - (w5.1 129 12))) + r3).toInt.toNat) u) = w6 at *
    have T6 := tpt_tl T5 hF
    have P6 := P5.tr ⟨pgs_tl hF (fun j _ _ => f143 j), fun j _ _ => g141 j⟩
    have fin : ∀ w7 : MW, TbI 0 w7 → FR l_Tx_go w6 w7 → PgI w7 ∧ PgU w w7 ∧ (w.1 129 24).toInt < (w7.1 129 24).toInt ∧ (MD w → MD w7) := fun w7 h7 f7 => by
      have m7 := TbM.fr f7 rfl rfl
      refine ⟨⟨h7, tpt_ts T6 m7.1⟩, P6.tr (PgU.of m7.1), ?_, fun m => m7.2.2.2 (M6 m)⟩
      rw [(f7 129 24 rfl).1, n6, n5]
      exact q3.2.1
    refine ⟨fun _ => t_over h6 (fun r19 w19 h19 f19 => ⟨fun _ => hQ 0 w19 (fin w19 h19 f19).1 (fin w19 h19 f19).2.1 (Or.inl i_0), fun _ => hQ 1 w19 (fin w19 h19 f19).1 (fin w19 h19 f19).2.1 (Or.inr ⟨i_1, (fin w19 h19 f19).2.2⟩)⟩), fun _ => t_go h6 (fun r21 w21 h21 f21 _ _ _ => ⟨fun _ => hQ 0 w21 (fin w21 h21 f21).1 (fin w21 h21 f21).2.1 (Or.inl i_0), fun _ => t_over h21 (fun r19 w19 h19 f19 => ?_)⟩)⟩
    have f := f21.tr f19 rfl
    exact ⟨fun _ => hQ 0 w19 (fin w19 h19 f).1 (fin w19 h19 f).2.1 (Or.inl i_0), fun _ => hQ 1 w19 (fin w19 h19 f).1 (fin w19 h19 f).2.1 (Or.inr ⟨i_1, (fin w19 h19 f).2.2⟩)⟩
theorem x7_pg5 {w0 : MW} {E : Int32 → MW → Prop} {Q : Int32 → MW → Prop} (hE : ∀ (r : Int32) (w' : MW), PgI w' → PgU w0 w' → (r.toInt = 0 ∨ (r.toInt = 1 ∧ (MD w0 → MD w'))) → E r w') (n : Nat) : ∀ (x : Int32) (w : MW), PgI w → PgU w0 w → (x.toInt = 0 ∨ (x.toInt = 1 ∧ (MD w0 → MD w))) → (41 - (w.1 129 24).toInt).toNat < n → q_Tx_program_5 E Q n x w := by
  induction n with
  | zero => intros; omega
  | succ n ih =>
    intro x w h s hx hm
    have b24 := bd_129_24 h.1.1
    rw [q_Tx_program_5.eq_2]
    have D : ¬ x.toInt = 0 → p_Tx_declaration w (fun r5 w5 => (q_Tx_program_5  E Q n r5 w5)) := fun cx => t7_decl h (fun r w' h' s' k => by
      cases k with
      | inl z =>
        cases n with
        | zero => omega
        | succ n =>
          rw [q_Tx_program_5.eq_2]
          exact ⟨fun _ => hE r w' h' (s.tr s') (Or.inl z), fun c => absurd z c⟩
      | inr z => exact ih r w' h' (s.tr s') (Or.inr ⟨z.1, fun m => z.2.2 ((hx.resolve_left cx).2 m)⟩) (by have := z.2.1; have := bd_129_24 h'.1.1; omega))
    have X := hE x w h s hx
    refine ⟨fun _ => X, fun cx => t_isWord ⟨fun _ => D cx, fun _ => t_isWord ⟨fun _ => D cx, fun _ => t_isWord ⟨fun _ => X, fun _ => D cx⟩ ⟨fun _ => X, fun _ => D cx⟩⟩ ⟨fun _ => D cx, fun _ => t_isWord ⟨fun _ => X, fun _ => D cx⟩ ⟨fun _ => X, fun _ => D cx⟩⟩⟩ ⟨fun _ => D cx, fun _ => t_isWord ⟨fun _ => D cx, fun _ => t_isWord ⟨fun _ => X, fun _ => D cx⟩ ⟨fun _ => X, fun _ => D cx⟩⟩ ⟨fun _ => D cx, fun _ => t_isWord ⟨fun _ => X, fun _ => D cx⟩ ⟨fun _ => X, fun _ => D cx⟩⟩⟩⟩
theorem x7_pg44 {w0 : MW} {E : Int32 → MW → Prop} {Q : Int32 → MW → Prop} (hE : ∀ (r : Int32) (w' : MW), PgI w' → PgU w0 w' → (r.toInt = 0 ∨ (r.toInt = 1 ∧ (MD w0 → MD w'))) → E r w') (n : Nat) : ∀ (x : Int32) (w : MW), PgI w → PgU w0 w → (x.toInt = 0 ∨ (x.toInt = 1 ∧ (MD w0 → MD w))) → (301 - (w.1 129 13).toInt).toNat < n → q_Tx_program_44 E Q n x w := by
  induction n with
  | zero => intros; omega
  | succ n ih =>
    intro x w h s hx hm
    have b13 := bd_129_13 h.1.1
    rw [q_Tx_program_44.eq_2]
    have X := hE x w h s hx
    refine ⟨fun _ => X, fun cx => ⟨fun _ => X, fun _ => t_statement h.1 (fun r15 w15 t15 => ?_)⟩⟩
    have T15 := tpt_ts h.2 t15.2.1
    have P15 := s.tr (PgU.of t15.2.1)
    refine ⟨fun _ => Eq.mpr (q_Tx_program_70.eq_1 _ _ _ _ _ _) ⟨fun _ => ?_, fun c => absurd i_0 c⟩, fun c => Eq.mpr (q_Tx_program_70.eq_1 _ _ _ _ _ _) ⟨fun c => absurd c (by decide), fun _ => Eq.mpr (p_Tx_base.eq_1 _ _) ?_⟩⟩
    · cases n with
      | zero => omega
      | succ n =>
        rw [q_Tx_program_44.eq_2]
        exact ⟨fun _ => hE _ w15 ⟨t15.1, T15⟩ P15 (Or.inl i_0), fun c => absurd i_0 c⟩
    · have q := t15.2.2 (by omega)
      have b23 := bd_129_23 t15.1.1
      have c13 := bd_129_13 t15.1.1
      have b21 := bd_129_21 t15.1.1
      have b35 := bd_129_35 t15.1.1
      have hs := q.2.2.2.1.2.2.2.1
      have et := bb_ix (n := w15.1 129 23) t15.1.1 (by omega) (by omega)
      have bh := bhf_b t15.1.1
      have s23 := ti_add2 (Eq.refl (w15.1 129 23).toInt) i_1 (by omega) (by omega)
      have z := tb_top (X := (((300 : Int32) * ((1 : Int32) - (w15.1 129 12))) + (w15.1 129 23)).toInt.toNat) (x := (w15.1 129 23) + (1 : Int32)) (e := 0) q.2.2.2.1 (by omega) T15 (by omega) q.1 q.2.1 (by omega) s23
      refine ⟨⟨by omega, by omega⟩, ih _ _ ⟨z.1, z.2.1⟩ (P15.tr ⟨z.2.2, fun j _ _ => rfl⟩) (Or.inr ⟨i_1, fun m => q.2.2.2.2.1.2.2.2 ((hx.resolve_left cx).2 m)⟩) ?_⟩
      show (301 - (w15.1 129 13).toInt).toNat < n
      have := q.2.2.2.2.2
      omega
theorem t7_program {w : MW} {Q : Int32 → MW → Prop} (h : PgI w) (hQ : ∀ (r : Int32) (w' : MW), PgI w' → PgU w w' → (r.toInt = 0 ∨ (r.toInt = 1 ∧ (MD w → MD w'))) → Q r w') : p_Tx_program w Q :=
  Eq.mpr (p_Tx_program.eq_1 _ _) (t_go h.1 (fun r1 w1 h1 f1 r0 r1' _ => x7_pg5 (fun r w' h' s' k => x7_pg44 (fun r2 w2 h2 s2 k2 => ⟨by omega, hQ r2 w2 h2 s2 k2⟩) FU r w' h' s' k (fu_lt (by have := bd_129_13 h'.1.1; omega))) FU r1 w1 ⟨h1, tpt_ts h.2 (TbM.fr f1 rfl rfl).1⟩ (PgU.of (TbM.fr f1 rfl rfl).1) (by
    by_cases z : r1.toInt = 0
    · exact Or.inl z
    · exact Or.inr ⟨by omega, (TbM.fr f1 rfl rfl).2.2.2⟩) (fu_lt (by have := bd_129_24 h1.1; omega))))
/-- a read that answers less than 0 leaves the half that stands -/
def HFk (w w' : MW) : Prop := w'.1 129 12 = w.1 129 12 ∧ w'.1 129 31 = w.1 129 31 ∧ w'.1 129 32 = w.1 129 32 ∧ SHh w w' ∧ SH2 w w' ∧ S41 w w'
theorem t7_read {w : MW} {Q : Int32 → MW → Prop} (hI : BND w) (hV : VG w) (hQ : ∀ (r : Int32) (w' : MW), (r.toInt < 0 → HFk w w') → Q r w') : p_Tx_read w Q := by
  have h0 := rd_start hI hV
  have f0 : FR lr0 w (sI (sI (sI (sI (sI (sI (sI (sI (sI (sI w 129 2 0) 129 3 1) 129 11 0) 129 13 0) 129 21 0) 129 23 0) 129 24 0) 129 35 0) 129 38 0) 129 10 (-1)) := FR.I (FR.I (FR.I (FR.I (FR.I (FR.I (FR.I (FR.I (FR.I (FR.I (FR.refl _ w) rfl) rfl) rfl) rfl) rfl) rfl) rfl) rfl) rfl) rfl
  have m0 : MD (sI (sI (sI (sI (sI (sI (sI (sI (sI (sI w 129 2 0) 129 3 1) 129 11 0) 129 13 0) 129 21 0) 129 23 0) 129 24 0) 129 35 0) 129 38 0) 129 10 (-1)) := by
    show 0 ≤ (0 : Int32).toInt ∧ (0 : Int32).toInt ≤ (0 : Int32).toInt
    decide
  refine Eq.mpr (p_Tx_read.eq_1 _ _) ?_
  generalize (sI (sI (sI (sI (sI (sI (sI (sI (sI (sI w 129 2 0) 129 3 1) 129 11 0) 129 13 0) 129 21 0) 129 23 0) 129 24 0) 129 35 0) 129 38 0) 129 10 (-1)) = w0 at *
  have g0 : SHh w w0 := fun j _ _ => ⟨(f0 131 j rfl).1, (f0 132 j rfl).2.1, (f0 135 j rfl).1, (f0 136 j rfl).1, (f0 137 j rfl).1⟩
  have k0 : SH2 w w0 := ⟨fun j _ _ => (f0 138 j rfl).1, fun j _ _ => (f0 143 j rfl).1⟩
  have u0 : S41 w w0 := fun j _ _ => (f0 141 j rfl).1
  have e0 : w0.1 129 12 = w.1 129 12 := (f0 129 12 rfl).1
  have N : ∀ w1 : MW, HFk w w1 → q_Tx_read_69 0 w1 Q := fun w1 k => Eq.mpr (q_Tx_read_69.eq_1 _ _ _) ⟨fun q => absurd i_0 q, fun _ => hQ _ _ (fun _ => k)⟩
  refine t7_program h0 (fun r1 w1 h1 s1 k1 => ?_)
  have E1 : SHh w w1 := SHh.tr2 e0 g0 s1.1.2.1
  have E2 : SH2 w w1 := ⟨fun j a b => (s1.1.2.2.1 j (by rw [e0]; exact a) (by rw [e0]; exact b)).trans (k0.1 j a b), fun j a b => (s1.1.2.2.2 j (by rw [e0]; exact a) (by rw [e0]; exact b)).trans (k0.2 j a b)⟩
  have E3 : S41 w w1 := fun j a b => (s1.2 j (by rw [e0]; exact a) (by rw [e0]; exact b)).trans (u0 j a b)
  have q12 : w1.1 129 12 = w.1 129 12 := ((s1.1.1 129 12 rfl).1).trans e0
  have q31 : w1.1 129 31 = w.1 129 31 := ((s1.1.1 129 31 rfl).1).trans (f0 129 31 rfl).1
  have q32 : w1.1 129 32 = w.1 129 32 := ((s1.1.1 129 32 rfl).1).trans (f0 129 32 rfl).1
  refine ⟨fun _ => N w1 ⟨q12, q31, q32, E1, E2, E3⟩, fun c1 => t_small h1 (fun r4 w4 i4 f4 k4 => ?_)⟩
  have M1 := (k1.resolve_left c1).2 m0
  refine ⟨fun _ => N w4 ⟨((f4 129 12 rfl).1).trans q12, ((f4 129 31 rfl).1).trans q31, ((f4 129 32 rfl).1).trans q32, SHh.tr2 q12 E1 (fun j _ _ => ⟨(f4 131 j rfl).1, (f4 132 j rfl).2.1, (f4 135 j rfl).1, (f4 136 j rfl).1, (f4 137 j rfl).1⟩), ⟨fun j a b => ((f4 138 j rfl).1).trans (E2.1 j a b), fun j a b => ((f4 143 j rfl).1).trans (E2.2 j a b)⟩, fun j a b => ((f4 141 j rfl).1).trans (E3 j a b)⟩, fun c4 => Eq.mpr (q_Tx_read_69.eq_1 _ _ _) ⟨fun _ => hQ _ _ (fun q => ?_), fun q => absurd (by decide) q⟩⟩
  have q' : (w4.1 129 38).toInt < 0 := q
  rw [(f4 129 38 rfl).1] at q'
  have := M1.1
  omega
