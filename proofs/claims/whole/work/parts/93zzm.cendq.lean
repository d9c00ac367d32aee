/-! the class's end of a text, as far as its rows go -/
def sameC (w w' : MW) : Prop := (∀ k j : Nat, 48 ≤ k → k ≤ 56 → w'.1 k j = w.1 k j) ∧ w'.2.2 47 3 = w.2.2 47 3
def lqc : Pl := [(47, some 3), (48, none), (49, none), (50, none), (51, none), (52, none), (53, none), (54, none), (55, none), (56, none)]
theorem sc_fr {l : Pl} {w w' : MW} (hF : FR l w w') (ho : off l lqc = true) : sameC w w' := by
  refine ⟨fun k j h1 h2 => ?_, (hF 47 3 (off_hit ho rfl)).2.2⟩
  have : k = 48 ∨ k = 49 ∨ k = 50 ∨ k = 51 ∨ k = 52 ∨ k = 53 ∨ k = 54 ∨ k = 55 ∨ k = 56 := by omega
  rcases this with rfl | rfl | rfl | rfl | rfl | rfl | rfl | rfl | rfl <;> exact (hF _ j (off_hit ho rfl)).1
theorem roc_fr {l : Pl} {w w' : MW} {rs : List Rw} (h : RosC w rs) (hF : FR l w w') (ho : off l [(99, some 0), (99, some 10), (99, some 15), (100, none), (101, none), (102, none), (103, none), (104, none), (105, none), (106, none), (107, none)] = true) : RosC w' rs := by
  refine ⟨by rw [(hF 99 0 (off_hit ho rfl)).1]; exact h.1, ⟨by rw [(hF 99 10 (off_hit ho rfl)).1]; exact h.2.1.1, fun j x hx => by rw [(hF 107 _ (off_hit ho rfl)).1]; exact h.2.1.2 j x hx⟩, by rw [(hF 99 15 (off_hit ho rfl)).1]; exact h.2.2.1, fun r x hx => ?_⟩
  have t := h.2.2.2 r x hx
  unfold RwC at t ⊢
  rw [(hF 100 r (off_hit ho rfl)).1, (hF 101 r (off_hit ho rfl)).1, (hF 102 r (off_hit ho rfl)).1, (hF 103 r (off_hit ho rfl)).1, (hF 104 r (off_hit ho rfl)).1, (hF 105 r (off_hit ho rfl)).1, (hF 106 r (off_hit ho rfl)).1, (hF 106 (r + 1) (off_hit ho rfl)).1]
  exact t
theorem rdq_nil {f : Int → Int} {n : Int} : ∀ (k : Nat) (rs : List Rw) (i : Nat) (r : Int) (x : List Rw), RdQ f n k rs i r x → 0 ≤ r → x = [] := by
  intro k
  induction k with
  | zero => intro rs i r x h; exact absurd h (fun z => z)
  | succ k ih =>
    intro rs i r x h r0
    rcases h with ⟨_, b, _⟩ | ⟨_, _, _, d⟩ | ⟨_, _, q, _, h⟩
    · omega
    · exact d
    · rcases h with ⟨_, _, s⟩ | ⟨_, v⟩
      · exact s
      · exact ih _ _ _ _ v r0
def ECr (w : MW) (g : Int → Int) (n : Int) (r : Int32) (w' : MW) : Prop := (∃ rs, (∃ k, RdQ g n k [] 0 (-1) rs) ∧ r.toInt = (rs.length : Int) ∧ RosC w' rs ∧ w'.1 99 1 = w.1 48 1 ∧ w'.2.2 47 3 = some 99) ∨ (∃ (q : Int) (x : Int32), 0 ≤ q ∧ (∃ k, RdQ g n k [] 0 q []) ∧ x.toInt = q ∧ r = ((-3) : Int32) - x ∧ sameC w w')
/-- what the class's end does to its rows -/
def ECq (w : MW) (a b : Int32) (r : Int32) (w' : MW) : Prop := (¬ ((fitE (w.1 1 1).toInt a b ∧ txO (CTx w b.toInt) b.toInt) ∧ a.toInt = 1) ∧ sameC w w') ∨ (((fitE (w.1 1 1).toInt a b ∧ txO (CTx w b.toInt) b.toInt) ∧ a.toInt = 1) ∧ ECr w (CTx w b.toInt) b.toInt r w')
theorem cq_end58 {w : MW} {y f s : Int32} {Q : Int32 → MW → Prop} (h : CI w) (hf : ¬ f.toInt = 0 → 0 ≤ y.toInt ∧ y.toInt ≤ 2) (s0 : 0 ≤ s.toInt) (s1 : s.toInt ≤ 4000) (hN : (f.toInt = 0 ∨ ¬ txO (CTx w s.toInt) s.toInt ∨ ¬ y.toInt = 1) → ∀ r w', sameC w w' → Q r w') (hY : ¬ f.toInt = 0 → txO (CTx w s.toInt) s.toInt → y.toInt = 1 → ∀ r w', ECr w (CTx w s.toInt) s.toInt r w' → Q r w') : q_Bh_end_58 y f s w Q := by
  have F1 : FR [(1, some 2)] w (sI w 1 2 s) := FR.I (FR.refl _ w) rfl
  have h1 : CI (sI w 1 2 s) := ci_fr (l := [(1, some 2)]) h F1 (wbd_1_2 h.1 s0 s1) rfl
  have en : (sI w 1 2 s).1 1 2 = s := sI_same _ _ _ _
  have ec : cf (sI w 1 2 s) = CTx w s.toInt := by
    funext p
    unfold cf CTx
    rw [sI_same, sI_oth _ _ _ _ _ _ (by decide)]
  refine Eq.mpr (q_Bh_end_58.eq_1 _ _ _ _ _) ?_
  generalize (sI w 1 2 s) = w1 at *
  refine ⟨fun c => hN (Or.inl c) _ w1 (sc_fr F1 rfl), fun c => it_x h1.1 (fun ok => ?_) (fun no => ⟨fun q => absurd i_0 q, fun _ => hN (Or.inr (Or.inl (by rw [ec, en] at no; exact no))) _ w1 (sc_fr F1 rfl)⟩)⟩
  rw [ec, en] at ok
  have yy := hf c
  have x := h1.2.2.2.2
  refine ⟨fun _ => ⟨fun c0 => ⟨fun c1 => ⟨x.2.2.2.2, ci_readN h1 (fun r3 w3 h3 F3 hp => ?_)⟩, fun c1 => ⟨x.2.2.2.1, rq_read h1.1 (fun r3 w3 r' rs' B3 F3 k q => ?_)⟩⟩, fun c0 => ⟨x.2.2.1, rc_read h1.1 (fun r3 w3 ls B3 F3 r4 k P3 => ?_)⟩⟩, fun q => absurd (show ¬ (1 : Int32).toInt = 0 by decide) q⟩
  · exact Eq.mpr (q_Bh_end_129.eq_1 _ _ _ _) ⟨fun d => ⟨fun _ => ⟨fun _ => ci_takeProgram h3 (hp d) (fun r w' h' hF => hN (Or.inr (Or.inr c1)) r w' (sc_fr (FR.tr (FR.tr (l := (1, some 2) :: (lrr ++ ltN)) (FR.tr (FR.refl _ w) F1 rfl) F3 rfl) hF rfl) rfl)), fun q => absurd c1 q⟩, fun q => absurd c0 q⟩, fun _ => hN (Or.inr (Or.inr c1)) _ w3 (sc_fr (FR.tr (l := (1, some 2) :: lrr) (FR.tr (FR.refl _ w) F1 rfl) F3 rfl) rfl)⟩
  · have y1 := Classical.not_not.mp c1
    rw [ec, en] at k
    have G3 : FR ((1, some 2) :: lrq) w w3 := FR.tr (FR.tr (FR.refl _ w) F1 rfl) F3 rfl
    have e47 : w3.2.2 47 3 = some 48 := ((F3 47 3 rfl).2.2).trans h1.2.1.2.2.2.2.2.2.2.2.2
    have e09 : w3.2.2 0 9 = some 99 := ((F3 0 9 rfl).2.2).trans x.2.2.2.1
    refine Eq.mpr (q_Bh_end_129.eq_1 _ _ _ _) ⟨fun d => ⟨fun _ => ⟨fun z => absurd y1 z, fun _ => ?_⟩, fun z => absurd c0 z⟩, fun d => ?_⟩
    · rcases q with ⟨er, _, R3⟩ | ⟨_, _⟩
      · have F4 : FR [(99, some 1), (47, some 3), (0, some 9)] w3 (sR (sR (sI w3 99 1 (w3.1 48 1)) 47 3 (some 99)) 0 9 (some 48)) := FR.R (FR.R (FR.I (FR.refl _ w3) rfl) rfl) rfl
        refine Eq.mpr (p_Bh_takeRows.eq_1 _ _) ⟨e47, e09, e09, hY c ok y1 _ _ (Or.inl ⟨rs', by rw [er] at k; exact k, R3.1, roc_fr R3 F4 rfl, ?_, ?_⟩)⟩
        · show (sI w3 99 1 (w3.1 48 1)).1 99 1 = w.1 48 1
          rw [sI_same]
          exact (G3 48 1 rfl).1
        · have g : FR [(0, some 9)] (sR (sI w3 99 1 (w3.1 48 1)) 47 3 (some 99)) (sR (sR (sI w3 99 1 (w3.1 48 1)) 47 3 (some 99)) 0 9 (some 48)) := FR.R (FR.refl _ _) rfl
          rw [(g 47 3 rfl).2.2]
          exact sRs _ _ _ _
      · omega
    · rcases q with ⟨_, _, _⟩ | ⟨r0, e3⟩
      · omega
      · obtain ⟨kk, hk⟩ := k
        have en := rdq_nil _ _ _ _ _ hk r0
        rw [en] at hk
        exact hY c ok y1 _ _ (Or.inr ⟨r', r3, r0, ⟨kk, hk⟩, e3, rfl, sc_fr G3 rfl⟩)
  · have y0 := Classical.not_not.mp c0
    have k2 := k
    obtain ⟨kk, hk⟩ := k2
    have S3 : FR ((1, some 2) :: lrc9) w w3 := FR.tr (l := (1, some 2) :: lrc9) (FR.tr (FR.refl _ w) F1 rfl) F3 rfl
    have T3 := sc_fr S3 rfl
    refine Eq.mpr (q_Bh_end_129.eq_1 _ _ _ _) ⟨fun d => ⟨fun q => absurd y0 q, fun _ => ct_plant B3 (((F3 7 0 rfl).2.2).trans h1.2.1.2.2.2.2.2.2.2.2.1) (((F3 0 8 rfl).2.2).trans x.2.2.1) (P3 d) (plr_gl kk 0 [] _ _ hk gl_nil) (fun r w' B' F' er Z W => hN (Or.inr (Or.inr (by omega))) r w' ?_)⟩, fun d => hN (Or.inr (Or.inr (by omega))) _ w3 T3⟩
    have T4 := sc_fr F' rfl
    exact ⟨fun k j a b => (T4.1 k j a b).trans (T3.1 k j a b), T4.2.trans T3.2⟩
theorem cq_end {w : MW} {a b : Int32} {Q : Int32 → MW → Prop} (h : CI w) (hQ : ∀ r w', ECq w a b r w' → Q r w') : p_Bh_end w a b Q := by
  have F0 : FR [(1, some 1)] w (sI w 1 1 0) := FR.I (FR.refl _ w) rfl
  have h1 : CI (sI w 1 1 0) := ci_fr (l := [(1, some 1)]) h F0 (wbd_1_1 h.1 (by decide) (by decide)) rfl
  have eT : ∀ n, CTx (sI w 1 1 0) n = CTx w n := fun n => rfl
  have T0 := sc_fr F0 rfl
  have s0 : ∀ w', sameC (sI w 1 1 0) w' → sameC w w' := fun w' q => ⟨fun k j a b => (q.1 k j a b).trans (T0.1 k j a b), q.2.trans T0.2⟩
  have no : ¬ fitE (w.1 1 1).toInt a b → q_Bh_end_36 a b 0 w Q := fun nf => Eq.mpr (q_Bh_end_36.eq_1 _ _ _ _ _) ⟨fun _ => cq_end58 h1 (fun q => absurd i_0 q) (by decide) (by decide) (fun _ r w' q => hQ _ w' (Or.inl ⟨fun z => nf z.1.1, s0 w' q⟩)) (fun q => absurd i_0 q), fun q => absurd i_0 q⟩
  refine Eq.mpr (p_Bh_end.eq_1 _ _ _ _) ⟨fun c => no (fun z => ?_), fun a0 => ⟨fun c => no (fun z => ?_), fun a2 => ⟨fun c => no (fun z => ?_), fun b0 => ⟨fun c => no (fun z => ?_), fun b4 => ⟨fun c => no (fun z => ?_), fun bn => ?_⟩⟩⟩⟩⟩
  · have := z.1
    omega
  · have := z.2.1
    omega
  · have := z.2.2.1
    omega
  · have := z.2.2.2.1
    omega
  · have := z.2.2.2.2
    omega
  · have ft : fitE (w.1 1 1).toInt a b := ⟨by omega, by omega, by omega, by omega, by omega⟩
    refine Eq.mpr (q_Bh_end_36.eq_1 _ _ _ _ _) ⟨fun q => absurd q (by decide), fun _ => cq_end58 h1 (fun _ => ⟨by omega, by omega⟩) (by omega) (by omega) (fun q r w' st => ?_) (fun _ ok ya r w' q => ?_)⟩
    · rw [eT] at q
      refine hQ _ w' (Or.inl ⟨fun z => ?_, s0 w' st⟩)
      rcases q with q | q | q
      · exact absurd q (by decide)
      · exact q z.1.2
      · exact q z.2
    · rw [eT] at ok q
      refine hQ r w' (Or.inr ⟨⟨⟨ft, ok⟩, ya⟩, ?_⟩)
      rcases q with ⟨rs, k, e, R, e1, e2⟩ | ⟨v, x, v0, k, ex, er, st⟩
      · exact Or.inl ⟨rs, k, e, R, e1.trans (F0 48 1 rfl).1, e2⟩
      · exact Or.inr ⟨v, x, v0, k, ex, er, s0 w' st⟩
