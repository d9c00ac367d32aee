/-! the class's number behind a word's first letters -/
def dgv (f : Int → Int) : Nat → Int → Int → Int
  | 0, _, v => v
  | k + 1, p, v => if 48 ≤ f p ∧ f p ≤ 57 then dgv f k (p + 1) (v * 10 + f p - 48) else -1
theorem dgv_u (f : Int → Int) (k : Nat) (p v : Int) : dgv f (k + 1) p v = if 48 ≤ f p ∧ f p ≤ 57 then dgv f k (p + 1) (v * 10 + f p - 48) else -1 := rfl
/-- the number that word i is behind its first s letters, -1 when it is none up to m -/
def nbv (f : Int → Int) (n : Int) (i : Nat) (s m : Int) : Int := if wnd f n i - (wat f n i + s) < 1 ∨ 4 < wnd f n i - (wat f n i + s) ∨ (1 < wnd f n i - (wat f n i + s) ∧ f (wat f n i + s) = 48) then -1 else if m < dgv f (wnd f n i - (wat f n i + s)).toNat (wat f n i + s) 0 then -1 else dgv f (wnd f n i - (wat f n i + s)).toNat (wat f n i + s) 0
theorem idg_x {w : MW} {c : Int32} {Q : Int32 → MW → Prop} (h1 : 48 ≤ c.toInt ∧ c.toInt ≤ 57 → Q 1 w) (h0 : ¬ (48 ≤ c.toInt ∧ c.toInt ≤ 57) → Q 0 w) : p_Tp_isDigit w c Q :=
  Eq.mpr (p_Tp_isDigit.eq_1 _ _ _) ⟨fun d => h0 (by omega), fun d => ⟨fun d2 => h0 (by omega), fun d2 => h1 (by omega)⟩⟩
theorem nb_54 {w : MW} {b a d : Int32} {P T : Int} {D : Nat} {E Q : Int32 → MW → Prop} (hI : BND w) (hr : w.2.2 99 11 = some 1) (ha : a.toInt = P) (p0 : 0 ≤ P) (p4 : P ≤ 4001) (hd : d.toInt = (D : Int)) (d4 : D ≤ 4) (hE : ∀ v : Int32, v.toInt = T → E v w) (hQ : T = -1 → Q (-1) w) (m : Nat) : ∀ (j : Nat) (v : Int32), j ≤ D → 0 ≤ v.toInt → v.toInt < 10 ^ j → dgv (cf w) (D - j) (P + j) v.toInt = T → D - j < m → q_Ro_numberBehinds99_54 b a d E Q m v (nI j) w := by
  induction m with
  | zero => intros; omega
  | succ m ih =>
    intro j v hj v0 v1 hT hm
    have ti : (nI j).toInt = (j : Int) := nI_toInt (by omega)
    have ix := ti_add2 ha ti (by omega) (by omega)
    have pw : (10 : Int) ^ j ≤ 10000 := by
      have : j = 0 ∨ j = 1 ∨ j = 2 ∨ j = 3 ∨ j = 4 := by omega
      rcases this with rfl | rfl | rfl | rfl | rfl <;> decide
    rw [q_Ro_numberBehinds99_54.eq_2]
    refine ⟨fun c => ?_, fun c => ⟨hr, at_x hI ?_⟩⟩
    · have e : D - j = 0 := by omega
      rw [e] at hT
      exact hE v hT
    have ev : (cv w (a + nI j)).toInt = cf w (P + j) := by rw [cv_cf, ix]
    obtain ⟨k, ek⟩ : ∃ k, D - j = k + 1 := ⟨D - j - 1, by omega⟩
    rw [ek, dgv_u] at hT
    refine idg_x (fun q => ⟨fun _ => ⟨hr, at_x hI ?_⟩, fun z => absurd (show ¬ (1 : Int32).toInt = 0 by decide) z⟩) (fun q => ⟨fun z => absurd i_0 z, fun _ => ?_⟩)
    · have q2 := q
      rw [ev] at q2
      rw [if_pos q2] at hT
      have s1 := ti_mul2 (Eq.refl v.toInt) (by decide : ((10 : Int32)).toInt = 10) (by omega) (by omega)
      have s2 := ti_add2 s1 ev (by omega) (by omega)
      have s3 := ti_sub2 s2 (by decide : ((48 : Int32)).toInt = 48) (by omega) (by omega)
      rw [nI_1]
      have pj : (10 : Int) ^ (j + 1) = 10 ^ j * 10 := Int.pow_succ 10 j
      refine ih (j + 1) _ (by omega) (by omega) (by omega) ?_ (by omega)
      have e1 : D - (j + 1) = k := by omega
      have e2 : P + ((j + 1 : Nat) : Int) = P + (j : Int) + 1 := by omega
      rw [e1, e2, s3]
      exact hT
    · rw [ev] at q
      rw [if_neg q] at hT
      exact hQ hT.symm
theorem nbh {w : MW} {i : Nat} {s m : Int32} {S M : Int} {Q : Int32 → MW → Prop} (hI : BND w) (h : WSt w i) (hs : s.toInt = S) (s0 : 0 ≤ S) (s1 : S ≤ 1) (hm : m.toInt = M) (m0 : 0 ≤ M) (hQ : ∀ r : Int32, r.toInt = nbv (cf w) (w.1 1 2).toInt i S M → Q r w) : p_Ro_numberBehinds99 w s m Q := by
  have b12 := bd_99_12 hI
  have b13 := bd_99_13 hI
  have h12 := h.1
  have h13 := h.2.1
  have x1 := ti_add2 h12 hs (by omega) (by omega)
  have x2 := ti_sub2 h13 x1 (by omega) (by omega)
  unfold nbv at hQ
  have go : ¬ (wnd (cf w) (w.1 1 2).toInt i - (wat (cf w) (w.1 1 2).toInt i + S) < 1 ∨ 4 < wnd (cf w) (w.1 1 2).toInt i - (wat (cf w) (w.1 1 2).toInt i + S) ∨ (1 < wnd (cf w) (w.1 1 2).toInt i - (wat (cf w) (w.1 1 2).toInt i + S) ∧ cf w (wat (cf w) (w.1 1 2).toInt i + S) = 48)) → q_Ro_numberBehinds99_54 m ((w.1 99 12) + s) ((w.1 99 13) - ((w.1 99 12) + s)) (fun (e54_5_11 : Int32) (w11 : MW) => ((m.toInt < e54_5_11.toInt → (Q (-1) w11)) ∧ (¬ (m.toInt < e54_5_11.toInt) → (Q e54_5_11 w11)))) Q FU 0 0 w := fun c => by
    rw [if_neg c] at hQ
    have c1 : 1 ≤ wnd (cf w) (w.1 1 2).toInt i - (wat (cf w) (w.1 1 2).toInt i + S) ∧ wnd (cf w) (w.1 1 2).toInt i - (wat (cf w) (w.1 1 2).toInt i + S) ≤ 4 := by
      refine ⟨?_, ?_⟩
      · by_cases q : wnd (cf w) (w.1 1 2).toInt i - (wat (cf w) (w.1 1 2).toInt i + S) < 1
        · exact absurd (Or.inl q) c
        · omega
      · by_cases q : 4 < wnd (cf w) (w.1 1 2).toInt i - (wat (cf w) (w.1 1 2).toInt i + S)
        · exact absurd (Or.inr (Or.inl q)) c
        · omega
    have e0 : wat (cf w) (w.1 1 2).toInt i + S + ((0 : Nat) : Int) = wat (cf w) (w.1 1 2).toInt i + S := by omega
    generalize eT : dgv (cf w) (wnd (cf w) (w.1 1 2).toInt i - (wat (cf w) (w.1 1 2).toInt i + S)).toNat (wat (cf w) (w.1 1 2).toInt i + S) 0 = T at hQ
    have h1 : ∀ v : Int32, v.toInt = T → ((m.toInt < v.toInt → (Q (-1) w)) ∧ (¬ (m.toInt < v.toInt) → (Q v w))) := fun v hv => ⟨fun q => hQ _ (by rw [if_pos (by omega)]; exact i_m1), fun q => hQ _ (by rw [if_neg (by omega)]; exact hv)⟩
    have h2 : T = -1 → Q (-1) w := fun q => hQ _ (by rw [if_neg (by omega), q]; exact i_m1)
    have h3 : dgv (cf w) ((wnd (cf w) (w.1 1 2).toInt i - (wat (cf w) (w.1 1 2).toInt i + S)).toNat - 0) (wat (cf w) (w.1 1 2).toInt i + S + ((0 : Nat) : Int)) (0 : Int32).toInt = T := by
      rw [i_0, e0, Nat.sub_zero]
      exact eT
    have h4 : (wnd (cf w) (w.1 1 2).toInt i - (wat (cf w) (w.1 1 2).toInt i + S)).toNat - 0 < FU := Nat.lt_of_le_of_lt (show _ ≤ 4 by omega) (fu_lt (by decide))
    exact nb_54 (D := (wnd (cf w) (w.1 1 2).toInt i - (wat (cf w) (w.1 1 2).toInt i + S)).toNat) hI h.2.2.2 x1 (by omega) (by omega) (by rw [x2]; omega) (by omega) h1 h2 FU 0 0 (Nat.zero_le _) (by decide) (by decide) h3 h4
  refine Eq.mpr (p_Ro_numberBehinds99.eq_1 _ _ _ _) ⟨fun c => ?_, fun c => ⟨fun c2 => ?_, fun c2 => ⟨fun c3 => go ?_, fun c3 => ⟨h.2.2.2, at_x hI ⟨fun c4 => go ?_, fun c4 => ?_⟩⟩⟩⟩⟩
  · rw [x2] at c
    refine hQ _ ?_
    rw [if_pos (Or.inl c)]
    exact i_m1
  · rw [x2] at c2
    refine hQ _ ?_
    rw [if_pos (Or.inr (Or.inl c2))]
    exact i_m1
  · rw [x2] at c c2 c3
    intro z
    rcases z with z | z | z
    · exact c z
    · exact c2 z
    · have := z.1
      omega
  · rw [x2] at c c2 c3
    have ev : (cv w ((w.1 99 12) + s)).toInt = cf w (wat (cf w) (w.1 1 2).toInt i + S) := by rw [cv_cf, x1]
    intro z
    rcases z with z | z | z
    · exact c z
    · exact c2 z
    · rw [ev] at c4
      exact c4 z.2
  · rw [x2] at c3
    have ev : (cv w ((w.1 99 12) + s)).toInt = cf w (wat (cf w) (w.1 1 2).toInt i + S) := by rw [cv_cf, x1]
    have c4 := Classical.not_not.mp c4
    rw [ev] at c4
    refine hQ _ ?_
    rw [if_pos (Or.inr (Or.inr ⟨by omega, c4⟩))]
    exact i_m1
