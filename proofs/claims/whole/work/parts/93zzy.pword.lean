/-! the class reads a word of a program -/
theorem pl_x {w : MW} {c : Int32} {Q : Int32 → MW → Prop} (h1 : lt1 c.toInt = true → Q 1 w) (h0 : lt1 c.toInt = false → Q 0 w) : p_Tp_isLetter w c Q :=
  Eq.mpr (p_Tp_isLetter.eq_1 _ _ _) ⟨fun d => h0 (lt1_f.mpr (by omega)), fun d => ⟨fun d2 => h0 (lt1_f.mpr (by omega)), fun d2 => h1 (lt1_t.mpr (by omega))⟩⟩
theorem pd_x {w : MW} {c : Int32} {Q : Int32 → MW → Prop} (h1 : dg1 c.toInt = true → Q 1 w) (h0 : dg1 c.toInt = false → Q 0 w) : p_Tp_isDigit w c Q :=
  Eq.mpr (p_Tp_isDigit.eq_1 _ _ _) ⟨fun d => h0 (dg1_f.mpr (by omega)), fun d => ⟨fun d2 => h0 (dg1_f.mpr (by omega)), fun d2 => h1 (dg1_t.mpr (by omega))⟩⟩
theorem pm_x {w : MW} {c : Int32} {Q : Int32 → MW → Prop} (h1 : mk1 c.toInt = true → Q 1 w) (h0 : mk1 c.toInt = false → Q 0 w) : p_Rd_isMark w c Q :=
  Eq.mpr (p_Rd_isMark.eq_1 _ _ _) ⟨fun d => h1 (mk1_t.mpr (by omega)), fun d0 => ⟨fun d => h1 (mk1_t.mpr (by omega)), fun d1 => ⟨fun d => h1 (mk1_t.mpr (by omega)), fun d2 => ⟨fun d => h1 (mk1_t.mpr (by omega)), fun d3 => ⟨fun d => h1 (mk1_t.mpr (by omega)), fun d4 => ⟨fun d => h1 (mk1_t.mpr (by omega)), fun d5 => ⟨fun d => h1 (mk1_t.mpr (by omega)), fun d6 => ⟨fun d => h1 (mk1_t.mpr (by omega)), fun d7 => ⟨fun d => h1 (mk1_t.mpr (by omega)), fun d8 => ⟨fun d => h1 (mk1_t.mpr (by omega)), fun d9 => ⟨fun d => h1 (mk1_t.mpr (by omega)), fun d10 => ⟨fun d => h0 (mk1_f.mpr (by omega)), fun d => h1 (mk1_t.mpr (by omega))⟩⟩⟩⟩⟩⟩⟩⟩⟩⟩⟩⟩
theorem cf_lt {w : MW} {p : Int} (h : 0 ≤ cf w p) : 0 ≤ p ∧ p < (w.1 1 2).toInt := by
  unfold cf at h
  by_cases q : 0 ≤ p ∧ p < (w.1 1 2).toInt
  · exact q
  · rw [if_neg q] at h
    omega
theorem p37 : ∀ i : Nat, i < 13 → (37 : Int) ^ i ≤ 6582952005840035281 := by decide +kernel
theorem p10q : ∀ i : Nat, i < 10 → (10 : Int) ^ i ≤ 1000000000 := by decide +kernel
/-- the reader knows the words -/
def KWc (w : MW) : Prop := ∀ (i : Nat) (k : List Int), kwl[i]? = some k → (w.2.1 90 i).toInt = cod 0 k
def lsl : Pl := [(87, some 2), (87, some 5)]
theorem slq_19 {w0 : MW} {T P : Int} {E Q : MW → Prop} (hr : w0.2.2 87 0 = some 1) (hE : ∀ w', BND w' → FR lsl w0 w' → (w'.2.1 87 5).toInt = T → (w'.1 87 2).toInt = P → E w') (m : Nat) : ∀ (i : Nat) (w : MW) (c : Int32), BND w → FR lsl w0 w → i ≤ 12 → c = cv w (w.1 87 2) → 0 ≤ (w.2.1 87 5).toInt → (w.2.1 87 5).toInt < 37 ^ i → cod (w.2.1 87 5).toInt (lts (cf w0) (12 - i) (w.1 87 2).toInt) = T → (w.1 87 2).toInt + ((lts (cf w0) (12 - i) (w.1 87 2).toInt).length : Int) = P → 12 - i < m → q_Rd_scanLetters_19 E Q m c (nI i) w := by
  induction m with
  | zero => intros; omega
  | succ m ih =>
    intro i w c hB hF hi hc c0 c1 hT hP hm
    have ti : (nI i).toInt = (i : Int) := nI_toInt (by omega)
    have ec : cf w = cf w0 := cf_fr hF rfl
    have rr : w.2.2 87 0 = some 1 := ((hF 87 0 rfl).2.2).trans hr
    have v : c.toInt = cf w0 (w.1 87 2).toInt := by rw [hc, cv_cf, ec]
    have b2 := bd_87_2 hB
    have bn := bd_1_2 hB
    rw [q_Rd_scanLetters_19.eq_2]
    have out : (12 - i = 0 ∨ ld1 (cf w0 (w.1 87 2).toInt) = false) → E w := fun o => by
      have el : lts (cf w0) (12 - i) (w.1 87 2).toInt = [] := by
        rcases o with o | o
        · rw [o]
          rfl
        · obtain ⟨k, ek⟩ : ∃ k, 12 - i = k ∨ (12 - i = k + 1) := ⟨12 - i, Or.inl rfl⟩
          cases hk : 12 - i with
          | zero => rfl
          | succ k => rw [lts_u, if_neg (nt o)]
      rw [el] at hT hP
      exact hE w hB hF hT (by rw [← hP]; simp)
    have step : ld1 (cf w0 (w.1 87 2).toInt) = true → ¬ 12 ≤ i → q_Rd_scanLetters_39 c (nI i) w (fun (x19_1 : Int32) (x19_2 : Int32) (w : MW) => q_Rd_scanLetters_19 E Q m x19_1 x19_2 w) E Q := fun ld i12 => by
      have ldc' := ld1_t.mp ld
      have lt := cf_lt (w := w) (p := (w.1 87 2).toInt) (by rw [ec]; omega)
      have cb := cdg_b (c := cf w0 (w.1 87 2).toInt) ldc'
      have pw := p37 i (by omega)
      have pw1 := p37 (i + 1) (by omega)
      have pe : (37 : Int) ^ (i + 1) = 37 ^ i * 37 := Int.pow_succ 37 i
      rw [show 12 - i = (12 - (i + 1)) + 1 by omega, lts_u, if_pos ld] at hT hP
      have nx : ∀ r6 : Int32, r6.toInt = cdg (cf w0 (w.1 87 2).toInt) → ((w.2.2 87 0 = some 1) ∧ (p_Tp_at (sI (sJ w 87 5 (((w.2.1 87 5) * (37 : Int64)) + (Int32.toInt64 r6))) 87 2 ((w.1 87 2) + (1 : Int32))) ((w.1 87 2) + (1 : Int32)) (fun r8 w8 => q_Rd_scanLetters_19 E Q m r8 ((nI i) + (1 : Int32)) w8))) := fun r6 er => by
        have s := ti_add2 (Eq.refl (w.1 87 2).toInt) i_1 (by omega) (by omega)
        have e37 := li_mul (Eq.refl (w.2.1 87 5).toInt) (show (37 : Int64).toInt = 37 by decide) (by omega) (by omega)
        have eK := li_add e37 ((nb_i2l r6).trans er) (by omega) (by omega)
        generalize hK : ((w.2.1 87 5) * (37 : Int64)) + (Int32.toInt64 r6) = K at *
        have B1 : BND (sI (sJ w 87 5 K) 87 2 ((w.1 87 2) + (1 : Int32))) := wbd_87_2 (show BND (sJ w 87 5 K) from hB) (by omega) (by omega)
        have F1 : FR lsl w0 (sI (sJ w 87 5 K) 87 2 ((w.1 87 2) + (1 : Int32))) := FR.I (FR.J hF rfl) rfl
        have a1 : (sI (sJ w 87 5 K) 87 2 ((w.1 87 2) + (1 : Int32))).1 87 2 = (w.1 87 2) + (1 : Int32) := sI_same _ _ _ _
        have a5 : (sI (sJ w 87 5 K) 87 2 ((w.1 87 2) + (1 : Int32))).2.1 87 5 = K := sJ_same _ _ _ _
        refine ⟨rr, at_x B1 ?_⟩
        rw [nI_1]
        refine ih (i + 1) _ _ B1 F1 (by omega) (by rw [a1]) (by rw [a5, eK]; omega) (by rw [a5, eK, pe]; omega) ?_ ?_ (by omega)
        · rw [a5, eK, a1, s]
          exact hT
        · rw [a1, s, ← hP, List.length_cons]
          omega
      refine Eq.mpr (q_Rd_scanLetters_39.eq_1 _ _ _ _ _ _) (Eq.mpr (p_Rd_digitOf.eq_1 _ _ _) ⟨fun l => nx _ ?_, fun l => nx _ ?_⟩)
      · rw [ti_add2 (ti_sub2 v (show (48 : Int32).toInt = 48 by decide) (by omega) (by omega)) (show (27 : Int32).toInt = 27 by decide) (by omega) (by omega)]
        unfold cdg
        rw [if_pos (by omega)]
      · rw [ti_add2 (ti_sub2 v (show (97 : Int32).toInt = 97 by decide) (by omega) (by omega)) i_1 (by omega) (by omega)]
        unfold cdg
        rw [if_neg (by omega)]
    refine ⟨fun z => out (Or.inl (by omega)), fun z => pl_x (fun d => ⟨fun _ => step (ld1_t.mpr (Or.inl (by rw [← v]; exact lt1_t.mp d))) (by omega), fun q => absurd i1n q⟩) (fun d => ⟨fun q => absurd i_0 q, fun _ => pd_x (fun d2 => ⟨fun q => absurd q i1n, fun _ => step (ld1_t.mpr (Or.inr (by rw [← v]; exact dg1_t.mp d2))) (by omega)⟩) (fun d2 => ⟨fun _ => out (Or.inr (ld1_f.mpr ⟨by rw [← v]; exact lt1_f.mp d, by rw [← v]; exact dg1_f.mp d2⟩)), fun q => absurd i_0 q⟩)⟩)⟩
theorem slq_93 {w0 : MW} {l : List Int} {E Q : MW → Prop} (hK : KWc w0) (hl : ∀ c ∈ l, ldc c) (hc : (w0.2.1 87 5).toInt = cod 0 l) (hE : ∀ w', BND w' → FR [(87, some 3)] w0 w' → (w'.1 87 3).toInt = kwd l → E w') (m : Nat) : ∀ (i : Nat) (w : MW), BND w → FR [(87, some 3)] w0 w → i ≤ 26 → (((w.1 87 3).toInt = 30 ∧ kix l (kwl.drop i) ((i : Int) + 1) = kwd l) ∨ (¬ (w.1 87 3).toInt = 30 ∧ (w.1 87 3).toInt = kwd l)) → 26 - i < m → q_Rd_scanLetters_93 E Q m (nI i) w := by
  induction m with
  | zero => intros; omega
  | succ m ih =>
    intro i w hB hF hi hh hm
    have ti : (nI i).toInt = (i : Int) := nI_toInt (by omega)
    have tn : (nI i).toInt.toNat = i := by omega
    have kl : kwl.length = 26 := by decide
    rw [q_Rd_scanLetters_93.eq_2, tn]
    refine ⟨fun z => hE w hB hF ?_, fun z => ⟨fun n => hE w hB hF ?_, fun n => ⟨by omega, fun q => ?_, fun q => ?_⟩⟩⟩
    · rcases hh with ⟨a, b⟩ | ⟨_, b⟩
      · rw [show i = 26 by omega] at b
        rw [a, ← b]
        rfl
      · exact b
    · rcases hh with ⟨a, _⟩ | ⟨_, b⟩
      · exact absurd a n
      · exact b
    · have n0 := Classical.not_not.mp n
      rcases hh with ⟨a, b⟩ | ⟨a, _⟩
      · have il : i < kwl.length := by omega
        have gk : kwl[i]? = some kwl[i] := List.getElem?_eq_getElem il
        have cK := hK i _ gk
        have e90 : w.2.1 90 i = w0.2.1 90 i := (hF 90 i rfl).2.1
        have e5 : w.2.1 87 5 = w0.2.1 87 5 := (hF 87 5 rfl).2.1
        rw [List.drop_eq_getElem_cons il, kix_u] at b
        have ne : ¬ kwl[i] = l := fun z => by
          rcases nb_cmp (w.2.1 90 i) (w.2.1 87 5) with t | t | t
          · have := t.2
            rw [e90, e5, cK, hc, z] at this
            omega
          · exact q t.1
          · have := t.2
            rw [e90, e5, cK, hc, z] at this
            omega
        rw [if_neg ne] at b
        rw [nI_1]
        have B1 : BND (sI w 87 3 30) := wbd_87_3 hB
        refine ih (i + 1) _ B1 (FR.I hF rfl) (by omega) (Or.inl ⟨by rw [sI_same]; decide, ?_⟩) (by omega)
        rw [show ((i + 1 : Nat) : Int) + 1 = (i : Int) + 1 + 1 by omega]
        exact b
      · exact absurd n0 a
    · rcases hh with ⟨a, b⟩ | ⟨a, _⟩
      · have q0 := Classical.not_not.mp q
        have il : i < kwl.length := by omega
        have gk : kwl[i]? = some kwl[i] := List.getElem?_eq_getElem il
        have cK := hK i _ gk
        have e90 : w.2.1 90 i = w0.2.1 90 i := (hF 90 i rfl).2.1
        have e5 : w.2.1 87 5 = w0.2.1 87 5 := (hF 87 5 rfl).2.1
        have ee : cod 0 kwl[i] = cod 0 l := by
          rcases nb_cmp (w.2.1 90 i) (w.2.1 87 5) with t | t | t
          · have := t.1
            omega
          · have := t.2
            rw [e90, e5, cK, hc] at this
            exact this
          · have := t.1
            omega
        have km := kwl_m _ (List.mem_of_getElem? gk)
        have ek : kwl[i] = l := cod_i 6 _ _ km.1 (fun c h => Or.inl (km.2 c h)) hl ee
        rw [List.drop_eq_getElem_cons il, kix_u, if_pos ek] at b
        rw [nI_1]
        have t1 : (nI (i + 1)).toInt = ((i + 1 : Nat) : Int) := nI_toInt (by omega)
        refine ih (i + 1) _ (wbd_87_3 hB) (FR.I hF rfl) (by omega) (Or.inr ⟨by rw [sI_same, t1]; omega, by rw [sI_same, t1, ← b]; omega⟩) (by omega)
      · exact absurd (Classical.not_not.mp n) a
def lsw : Pl := [(87, some 2), (87, some 3), (87, some 5)]
theorem sl_x {w : MW} {Q : MW → Prop} (hI : BND w) (hr : w.2.2 87 0 = some 1) (hK : KWc w) (hQ : ∀ w', BND w' → FR lsw w w' → (w'.2.1 87 5).toInt = cod 0 (lts (cf w) 12 (w.1 87 2).toInt) → (w'.1 87 2).toInt = (w.1 87 2).toInt + ((lts (cf w) 12 (w.1 87 2).toInt).length : Int) → (w'.1 87 3).toInt = kwd (lts (cf w) 12 (w.1 87 2).toInt) → Q w') : p_Rd_scanLetters w Q := by
  have B1 : BND (sJ w 87 5 0) := hI
  have F1 : FR lsl w (sJ w 87 5 0) := FR.J (FR.refl _ w) rfl
  have a5 : (sJ w 87 5 0).2.1 87 5 = 0 := sJ_same _ _ _ _
  have z0 : (0 : Int64).toInt = 0 := by decide
  refine Eq.mpr (p_Rd_scanLetters.eq_1 _ _) ⟨hr, at_x B1 ?_⟩
  refine slq_19 (w0 := w) hr (fun w' B' F' e5 e2 => ?_) FU 0 (sJ w 87 5 0) _ B1 F1 (Nat.zero_le _) rfl (by rw [a5, z0] <;> decide) (by rw [a5, z0] <;> decide) (by rw [a5, z0] <;> rfl) rfl (fu_lt (by decide))
  have B2 : BND (sI w' 87 3 30) := wbd_87_3 B'
  have F2 : FR lsw w (sI w' 87 3 30) := FR.I (FR.tr (FR.refl _ w) F' rfl) rfl
  have c3 : ((sI w' 87 3 30).1 87 3).toInt = 30 := by rw [sI_same]; decide
  have c5 : ((sI w' 87 3 30).2.1 87 5).toInt = cod 0 (lts (cf w) 12 (w.1 87 2).toInt) := e5
  have c2 : ((sI w' 87 3 30).1 87 2).toInt = (w.1 87 2).toInt + ((lts (cf w) 12 (w.1 87 2).toInt).length : Int) := by rw [sI_ne _ _ _ _ _ (by decide)]; exact e2
  generalize (sI w' 87 3 30) = w2 at *
  have lm := lts_m (cf w) 12 (w.1 87 2).toInt
  have K2 : KWc w2 := fun i k hk => by rw [(F2 90 i rfl).2.1]; exact hK i k hk
  exact slq_93 (w0 := w2) K2 lm.2 c5 (fun w3 B3 F3 e3 => hQ w3 B3 (FR.tr F2 F3 rfl) (by rw [(F3 87 5 rfl).2.1]; exact c5) (by rw [(F3 87 2 rfl).1]; exact c2) e3) FU 0 w2 B2 (FR.refl _ w2) (Nat.zero_le _) (Or.inl ⟨c3, rfl⟩) (fu_lt (by decide))
def lsn : Pl := [(87, some 2), (87, some 6)]
theorem sn_13 {w0 : MW} {T P : Int} {E Q : MW → Prop} (hr : w0.2.2 87 0 = some 1) (hE : ∀ w', BND w' → FR lsn w0 w' → (w'.2.1 87 6).toInt = T → (w'.1 87 2).toInt = P → 0 ≤ T → T < 1000000000 → E w') (m : Nat) : ∀ (i : Nat) (w : MW), BND w → FR lsn w0 w → i ≤ 9 → 0 ≤ (w.2.1 87 6).toInt → (w.2.1 87 6).toInt < 10 ^ i → vlu (w.2.1 87 6).toInt (dgl (cf w0) (9 - i) (w.1 87 2).toInt) = T → (w.1 87 2).toInt + ((dgl (cf w0) (9 - i) (w.1 87 2).toInt).length : Int) = P → 9 - i < m → q_Rd_scanNumber_13 E Q m (nI i) w := by
  induction m with
  | zero => intros; omega
  | succ m ih =>
    intro i w hB hF hi c0 c1 hT hP hm
    have ti : (nI i).toInt = (i : Int) := nI_toInt (by omega)
    have ec : cf w = cf w0 := cf_fr hF rfl
    have rr : w.2.2 87 0 = some 1 := ((hF 87 0 rfl).2.2).trans hr
    have v : (cv w (w.1 87 2)).toInt = cf w0 (w.1 87 2).toInt := by rw [cv_cf, ec]
    have b2 := bd_87_2 hB
    have bn := bd_1_2 hB
    have pw := p10q i (by omega)
    rw [q_Rd_scanNumber_13.eq_2]
    have out : (9 - i = 0 ∨ dg1 (cf w0 (w.1 87 2).toInt) = false) → E w := fun o => by
      have el : dgl (cf w0) (9 - i) (w.1 87 2).toInt = [] := by
        cases hk : 9 - i with
        | zero => rfl
        | succ k =>
          rcases o with o | o
          · omega
          · rw [dgl_u, if_neg (nt o)]
      rw [el] at hT hP
      have hT' : (w.2.1 87 6).toInt = T := hT
      exact hE w hB hF hT' (by rw [← hP]; simp) (by omega) (by omega)
    refine ⟨fun z => out (Or.inl (by omega)), fun z => ⟨rr, at_x hB (pd_x (fun d => ⟨fun q => absurd q i1n, fun _ => ⟨rr, at_x hB ?_⟩⟩) (fun d => ⟨fun _ => out (Or.inr (by rw [← v]; exact d)), fun q => absurd i_0 q⟩))⟩⟩
    rw [v] at d
    have dd := dg1_t.mp d
    have lt := cf_lt (w := w) (p := (w.1 87 2).toInt) (by rw [ec]; omega)
    have pw1 := p10q i (by omega)
    have pe : (10 : Int) ^ (i + 1) = 10 ^ i * 10 := Int.pow_succ 10 i
    rw [show 9 - i = (9 - (i + 1)) + 1 by omega, dgl_u, if_pos d] at hT hP
    have s := ti_add2 (Eq.refl (w.1 87 2).toInt) i_1 (by omega) (by omega)
    have e10 := li_mul (Eq.refl (w.2.1 87 6).toInt) (show (10 : Int64).toInt = 10 by decide) (by omega) (by omega)
    have e11 := li_add e10 ((nb_i2l (cv w (w.1 87 2))).trans v) (by omega) (by omega)
    have eK := li_sub e11 (show (48 : Int64).toInt = 48 by decide) (by omega) (by omega)
    generalize hK : (((w.2.1 87 6) * (10 : Int64)) + (Int32.toInt64 (cv w (w.1 87 2)))) - (48 : Int64) = K at *
    have B1 : BND (sI (sJ w 87 6 K) 87 2 ((w.1 87 2) + (1 : Int32))) := wbd_87_2 (show BND (sJ w 87 6 K) from hB) (by omega) (by omega)
    have a1 : (sI (sJ w 87 6 K) 87 2 ((w.1 87 2) + (1 : Int32))).1 87 2 = (w.1 87 2) + (1 : Int32) := sI_same _ _ _ _
    have a6 : (sI (sJ w 87 6 K) 87 2 ((w.1 87 2) + (1 : Int32))).2.1 87 6 = K := sJ_same _ _ _ _
    rw [nI_1]
    refine ih (i + 1) _ B1 (FR.I (FR.J hF rfl) rfl) (by omega) (by rw [a6, eK]; omega) (by rw [a6, eK, pe]; omega) ?_ ?_ (by omega)
    · rw [a6, eK, a1, s]
      exact hT
    · rw [a1, s, ← hP, List.length_cons]
      omega
def fkb (k : Nat) (b : Int32) : Prop := (k = 3 ∧ b = 100) ∨ (k = 2 ∧ b = 10) ∨ (k = 1 ∧ b = 1) ∨ (k = 0 ∧ b = 0)
theorem sn_172 {w0 : MW} {T P : Int} {E Q : MW → Prop} (hr : w0.2.2 87 0 = some 1) (hE : ∀ w', BND w' → FR lsn w0 w' → (w'.2.1 87 6).toInt = T → (w'.1 87 2).toInt = P → E w') (m : Nat) : ∀ (k : Nat) (b : Int32) (w : MW), fkb k b → BND w → FR lsn w0 w → 0 ≤ (w.2.1 87 6).toInt → (w.2.1 87 6).toInt + 1000 * (k : Int) ≤ 2000000000000 → fra b.toInt (w.2.1 87 6).toInt (dgl (cf w0) k (w.1 87 2).toInt) = T → (w.1 87 2).toInt + ((dgl (cf w0) k (w.1 87 2).toInt).length : Int) = P → k < m → q_Rd_scanNumber_172 E Q m b w := by
  induction m with
  | zero => intros; omega
  | succ m ih =>
    intro k b w hk hB hF c0 c1 hT hP hm
    have ec : cf w = cf w0 := cf_fr hF rfl
    have rr : w.2.2 87 0 = some 1 := ((hF 87 0 rfl).2.2).trans hr
    have v : (cv w (w.1 87 2)).toInt = cf w0 (w.1 87 2).toInt := by rw [cv_cf, ec]
    have b2 := bd_87_2 hB
    have bn := bd_1_2 hB
    rw [q_Rd_scanNumber_172.eq_2]
    have out : (k = 0 ∨ dg1 (cf w0 (w.1 87 2).toInt) = false) → E w := fun o => by
      have el : dgl (cf w0) k (w.1 87 2).toInt = [] := by
        cases k with
        | zero => rfl
        | succ k =>
          rcases o with o | o
          · omega
          · rw [dgl_u, if_neg (nt o)]
      rw [el] at hT hP
      exact hE w hB hF hT (by rw [← hP]; simp)
    have step : ∀ (k' : Nat) (b' : Int32) (B : Int), k = k' + 1 → b.toInt = B → b / (10 : Int32) = b' → B / 10 = b'.toInt → fkb k' b' → 0 ≤ B → B ≤ 100 → dg1 (cf w0 (w.1 87 2).toInt) = true → q_Rd_scanNumber_172 E Q m (b / (10 : Int32)) (sI (sJ w 87 6 ((w.2.1 87 6) + (Int32.toInt64 (b * ((cv w (w.1 87 2)) - (48 : Int32)))))) 87 2 ((w.1 87 2) + (1 : Int32))) := fun k' b' B ek eb e1 e2 hk' B0 B1 d => by
      have dd := dg1_t.mp d
      have lt := cf_lt (w := w) (p := (w.1 87 2).toInt) (by rw [ec]; omega)
      have s := ti_add2 (Eq.refl (w.1 87 2).toInt) i_1 (by omega) (by omega)
      rw [ek, dgl_u, if_pos d] at hT hP
      have d0 := ti_sub2 v (show (48 : Int32).toInt = 48 by decide) (by omega) (by omega)
      have mb : 0 ≤ B * (cf w0 (w.1 87 2).toInt - 48) ∧ B * (cf w0 (w.1 87 2).toInt - 48) ≤ 100 * 9 := ⟨Int.mul_nonneg B0 (by omega), Int.mul_le_mul B1 (by omega) (by omega) (by omega)⟩
      have dm := ti_mul2 eb d0 (by omega) (by omega)
      have eK := li_add (Eq.refl (w.2.1 87 6).toInt) ((nb_i2l (b * ((cv w (w.1 87 2)) - (48 : Int32)))).trans dm) (by omega) (by omega)
      generalize hK : (w.2.1 87 6) + (Int32.toInt64 (b * ((cv w (w.1 87 2)) - (48 : Int32)))) = K at *
      have a1 : (sI (sJ w 87 6 K) 87 2 ((w.1 87 2) + (1 : Int32))).1 87 2 = (w.1 87 2) + (1 : Int32) := sI_same _ _ _ _
      have a6 : (sI (sJ w 87 6 K) 87 2 ((w.1 87 2) + (1 : Int32))).2.1 87 6 = K := sJ_same _ _ _ _
      rw [e1]
      refine ih k' b' _ hk' (wbd_87_2 (show BND (sJ w 87 6 K) from hB) (by omega) (by omega)) (FR.I (FR.J hF rfl) rfl) (by rw [a6, eK]; omega) (by rw [a6, eK]; omega) ?_ ?_ (by omega)
      · rw [a6, eK, a1, s, ← e2]
        rw [eb] at hT
        exact hT
      · rw [a1, s, ← hP, List.length_cons]
        omega
    refine ⟨fun z => out ?_, fun z => ⟨rr, at_x hB (pd_x (fun d => ⟨fun q => absurd q i1n, fun _ => ⟨rr, at_x hB ?_⟩⟩) (fun d => ⟨fun _ => out (Or.inr (by rw [← v]; exact d)), fun q => absurd i_0 q⟩))⟩⟩
    · rcases hk with ⟨_, e⟩ | ⟨_, e⟩ | ⟨_, e⟩ | ⟨e, _⟩
      · rw [e] at z
        exact absurd z (by decide)
      · rw [e] at z
        exact absurd z (by decide)
      · rw [e] at z
        exact absurd z (by decide)
      · exact Or.inl e
    · rw [v] at d
      rcases hk with ⟨ek, e⟩ | ⟨ek, e⟩ | ⟨ek, e⟩ | ⟨ek, e⟩
      · exact step 2 10 100 ek (by rw [e]; decide) (by rw [e]; decide) (by decide) (Or.inr (Or.inl ⟨rfl, rfl⟩)) (by decide) (by decide) d
      · exact step 1 1 10 ek (by rw [e]; decide) (by rw [e]; decide) (by decide) (Or.inr (Or.inr (Or.inl ⟨rfl, rfl⟩))) (by decide) (by decide) d
      · exact step 0 0 1 ek (by rw [e]; decide) (by rw [e]; decide) (by decide) (Or.inr (Or.inr (Or.inr ⟨rfl, rfl⟩))) (by decide) (by decide) d
      · rw [e] at z
        exact absurd (show (0 : Int32).toInt ≤ 0 by decide) z
