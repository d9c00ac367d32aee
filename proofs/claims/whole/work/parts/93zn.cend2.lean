/-! the class's end of a text, as far as its plant's text goes -/
/-- the text of n bytes on the class's tape -/
def CTx (w : MW) (n : Int) (p : Int) : Int := if 0 ≤ p ∧ p < n then (cby (w.1 2 (p.toNat / 4)) (p.toNat % 4)).toInt else -1
def fitE (n : Int) (a b : Int32) : Prop := 0 ≤ a.toInt ∧ a.toInt ≤ 2 ∧ 0 ≤ b.toInt ∧ b.toInt ≤ 4000 ∧ b.toInt ≤ n
def sameT (w w' : MW) : Prop := w'.1 0 12 = w.1 0 12 ∧ ∀ j, w'.1 123 j = w.1 123 j
theorem st_fr {l : Pl} {w w' : MW} (hF : FR l w w') (ho : off l [(0, some 12), (123, none)] = true) : sameT w w' := ⟨(hF 0 12 (off_hit ho rfl)).1, fun j => (hF 123 j (off_hit ho rfl)).1⟩
/-- what the class's end does -/
def EC (w : MW) (a b : Int32) (r : Int32) (w' : MW) : Prop := (¬ (fitE (w.1 1 1).toInt a b ∧ txO (CTx w b.toInt) b.toInt) ∧ r = -1 ∧ sameT w w') ∨ ((fitE (w.1 1 1).toInt a b ∧ txO (CTx w b.toInt) b.toInt) ∧ ¬ a.toInt = 0 ∧ sameT w w') ∨ ((fitE (w.1 1 1).toInt a b ∧ txO (CTx w b.toInt) b.toInt) ∧ a.toInt = 0 ∧ ∃ (r' : Int) (ls : List Ln), (∃ k, PlR (CTx w b.toInt) b.toInt k 0 [] r' ls) ∧ ((0 ≤ r' ∧ r.toInt = -3 - r' ∧ sameT w w') ∨ (r' = -1 ∧ r.toInt = ((thg ls).length : Int) ∧ WT w' (w'.1 0 12) (txt ls))))
theorem plr_r {f : Int → Int} {n : Int} : ∀ (k : Nat) (p : Int) (ls : List Ln) (r : Int) (ls' : List Ln), 0 ≤ p → PlR f n k p ls r ls' → r = -1 ∨ 0 ≤ r := by
  intro k
  induction k with
  | zero => intro p ls r ls' _ h; exact absurd h (fun y => y)
  | succ k ih =>
    intro p ls r ls' p0 h
    have le := lnS_le f p
    rcases h with ⟨_, e, _⟩ | ⟨_, _, e, _⟩ | ⟨_, _, _, q⟩
    · exact Or.inl e
    · exact Or.inr (by omega)
    · exact ih _ _ _ _ (by omega) q
theorem cx_end58 {w : MW} {y f s : Int32} {Q : Int32 → MW → Prop} (h : CI w) (hf : ¬ f.toInt = 0 → 0 ≤ y.toInt ∧ y.toInt ≤ 2) (s0 : 0 ≤ s.toInt) (s1 : s.toInt ≤ 4000) (hN : (f.toInt = 0 ∨ ¬ txO (CTx w s.toInt) s.toInt) → ∀ w', sameT w w' → Q (-1) w') (hO : ¬ f.toInt = 0 → txO (CTx w s.toInt) s.toInt → ¬ y.toInt = 0 → ∀ r w', sameT w w' → Q r w') (hP : ¬ f.toInt = 0 → txO (CTx w s.toInt) s.toInt → y.toInt = 0 → ∀ (r : Int32) (w' : MW) (r' : Int) (ls : List Ln), (∃ k, PlR (CTx w s.toInt) s.toInt k 0 [] r' ls) → ((0 ≤ r' ∧ r.toInt = -3 - r' ∧ sameT w w') ∨ (r' = -1 ∧ r.toInt = ((thg ls).length : Int) ∧ WT w' (w'.1 0 12) (txt ls))) → Q r w') : q_Bh_end_58 y f s w Q := by
  have F1 : FR [(1, some 2)] w (sI w 1 2 s) := FR.I (FR.refl _ w) rfl
  have h1 : CI (sI w 1 2 s) := ci_fr (l := [(1, some 2)]) h F1 (wbd_1_2 h.1 s0 s1) rfl
  have en : (sI w 1 2 s).1 1 2 = s := sI_same _ _ _ _
  have ec : cf (sI w 1 2 s) = CTx w s.toInt := by
    funext p
    unfold cf CTx
    rw [sI_same, sI_oth _ _ _ _ _ _ (by decide)]
  refine Eq.mpr (q_Bh_end_58.eq_1 _ _ _ _ _) ?_
  generalize (sI w 1 2 s) = w1 at *
  refine ⟨fun c => hN (Or.inl c) w1 (st_fr F1 rfl), fun c => it_x h1.1 (fun ok => ?_) (fun no => ⟨fun q => absurd i_0 q, fun _ => hN (Or.inr (by rw [ec, en] at no; exact no)) w1 (st_fr F1 rfl)⟩)⟩
  rw [ec, en] at ok
  have yy := hf c
  have x := h1.2.2.2.2
  refine ⟨fun _ => ⟨fun c0 => ⟨fun c1 => ⟨x.2.2.2.2, ci_readN h1 (fun r3 w3 h3 F3 hp => ?_)⟩, fun c1 => ⟨x.2.2.2.1, ci_readQ h1 (fun r3 w3 h3 F3 => ?_)⟩⟩, fun c0 => ⟨x.2.2.1, rc_read h1.1 (fun r3 w3 ls B3 F3 r4 k P3 => ?_)⟩⟩, fun q => absurd (show ¬ (1 : Int32).toInt = 0 by decide) q⟩
  · refine Eq.mpr (q_Bh_end_129.eq_1 _ _ _ _) ⟨fun d => ⟨fun _ => ⟨fun _ => ci_takeProgram h3 (hp d) (fun r w' h' hF => hO c ok c0 r w' (st_fr (FR.tr (FR.tr (l := (1, some 2) :: (lrr ++ ltN)) (FR.tr (FR.refl _ w) F1 rfl) F3 rfl) hF rfl) rfl)), fun q => absurd c1 q⟩, fun q => absurd c0 q⟩, fun _ => hO c ok c0 _ w3 (st_fr (FR.tr (l := (1, some 2) :: lrr) (FR.tr (FR.refl _ w) F1 rfl) F3 rfl) rfl)⟩
  · refine Eq.mpr (q_Bh_end_129.eq_1 _ _ _ _) ⟨fun d => ⟨fun _ => ⟨fun q => absurd q c1, fun _ => ci_takeRows h3 (fun r w' h' hF => hO c ok c0 r w' (st_fr (FR.tr (FR.tr (l := (1, some 2) :: (l_Ro_reads99_1 ++ ltQ)) (FR.tr (FR.refl _ w) F1 rfl) F3 rfl) hF rfl) rfl))⟩, fun q => absurd c0 q⟩, fun _ => hO c ok c0 _ w3 (st_fr (FR.tr (l := (1, some 2) :: l_Ro_reads99_1) (FR.tr (FR.refl _ w) F1 rfl) F3 rfl) rfl)⟩
  · rw [ec, en] at k
    have y0 := Classical.not_not.mp c0
    have k2 := k
    obtain ⟨kk, hk⟩ := k2
    have rr := plr_r kk 0 [] _ _ (by decide) hk
    have S3 : sameT w w3 := st_fr (FR.tr (l := (1, some 2) :: lrc9) (FR.tr (FR.refl _ w) F1 rfl) F3 rfl) rfl
    refine Eq.mpr (q_Bh_end_129.eq_1 _ _ _ _) ⟨fun d => ⟨fun q => absurd y0 q, fun _ => ct_plant B3 (((F3 7 0 rfl).2.2).trans h1.2.1.2.2.2.2.2.2.2.2.1) (((F3 0 8 rfl).2.2).trans x.2.2.1) (P3 d) (plr_gl kk 0 [] _ _ hk gl_nil) (fun r w' B' F' er Z W => hP c ok y0 r w' r3.toInt ls k (Or.inr ⟨by omega, by rw [er]; exact (P3 d).1, W⟩))⟩, fun d => ?_⟩
    have b3 := lnS_le (CTx w s.toInt) 0
    refine hP c ok y0 _ w3 r3.toInt ls k (Or.inl ⟨by omega, ?_, S3⟩)
    exact ti_sub2 (by decide : ((-3) : Int32).toInt = -3) (Eq.refl r3.toInt) (by omega) (by omega)
theorem cx_end {w : MW} {a b : Int32} {Q : Int32 → MW → Prop} (h : CI w) (hQ : ∀ r w', EC w a b r w' → Q r w') : p_Bh_end w a b Q := by
  have F0 : FR [(1, some 1)] w (sI w 1 1 0) := FR.I (FR.refl _ w) rfl
  have h1 : CI (sI w 1 1 0) := ci_fr (l := [(1, some 1)]) h F0 (wbd_1_1 h.1 (by decide) (by decide)) rfl
  have eT : ∀ n, CTx (sI w 1 1 0) n = CTx w n := fun n => rfl
  have s0 : ∀ w', sameT (sI w 1 1 0) w' → sameT w w' := fun w' q => ⟨q.1.trans (F0 0 12 rfl).1, fun j => (q.2 j).trans (F0 123 j rfl).1⟩
  have no : ¬ fitE (w.1 1 1).toInt a b → q_Bh_end_36 a b 0 w Q := fun nf => Eq.mpr (q_Bh_end_36.eq_1 _ _ _ _ _) ⟨fun _ => cx_end58 h1 (fun q => absurd i_0 q) (by decide) (by decide) (fun _ w' q => hQ _ w' (Or.inl ⟨fun z => nf z.1, rfl, s0 w' q⟩)) (fun q => absurd i_0 q) (fun q => absurd i_0 q), fun q => absurd i_0 q⟩
  refine Eq.mpr (p_Bh_end.eq_1 _ _ _ _) ⟨fun c => no (fun z => ?_), fun a0 => ⟨fun c => no (fun z => ?_), fun a2 => ⟨fun c => no (fun z => ?_), fun b0 => ⟨fun c => no (fun z => ?_), fun b4 => ⟨fun c => no (fun z => ?_), fun bn => ?_⟩⟩⟩⟩⟩
  · have := z.1
    omega
  · have := z.2.1
    omega
  · have := z.2.2.1
    omega
  · have := z.2.2.2.1
    omega
  · have := z.2.2.2.2
    omega
  · have ft : fitE (w.1 1 1).toInt a b := ⟨by omega, by omega, by omega, by omega, by omega⟩
    refine Eq.mpr (q_Bh_end_36.eq_1 _ _ _ _ _) ⟨fun q => absurd q (by decide), fun _ => cx_end58 h1 (fun _ => ⟨by omega, by omega⟩) (by omega) (by omega) (fun q w' st => ?_) (fun _ ok ya r w' st => ?_) (fun _ ok ya r w' r' ls k q => ?_)⟩
    · rw [eT] at q
      exact hQ _ w' (Or.inl ⟨fun z => (q.resolve_left (by decide)) z.2, rfl, s0 w' st⟩)
    · rw [eT] at ok
      exact hQ r w' (Or.inr (Or.inl ⟨⟨ft, ok⟩, ya, s0 w' st⟩))
    · rw [eT] at ok k
      refine hQ r w' (Or.inr (Or.inr ⟨⟨ft, ok⟩, ya, r', ls, k, ?_⟩))
      rcases q with q | q
      · exact Or.inl ⟨q.1, q.2.1, s0 w' q.2.2⟩
      · exact Or.inr q
