/-! a line, in the class's plant as its lines -/
def lnX (L : Int × Int × Int × Int × Int) : Ln := (L.1, L.2.1, L.2.2.1, L.2.2.2.1)
def lrd9 : Pl := [(91, some 0), (91, some 1), (91, some 10), (91, some 11), (92, none), (93, none), (94, none), (95, none), (96, none), (97, none), (98, none)]
theorem ok_t {ls : List Ln} {x : Ln} (h : ¬ x.1 = 3) (c : okL ls x) : (thg ls).length < 20 := by
  rcases c with c | c | c | c
  · exact c.2.2.2
  · exact c.2
  · exact c.2.2.2
  · exact absurd c.1 h
/-- behind a line: taken, and one line more; or not, and where -/
def StC (w w' : MW) (ls : List Ln) (r : Int32) (L : Int × Int × Int × Int × Int) : Prop := BND w' ∧ FR lrd9 w w' ∧ w'.2.2 91 9 = some 1 ∧ (w'.1 91 10).toInt = L.2.2.2.2 ∧ ((r = 0 ∧ (L.1 = -1 ∨ ¬ okL ls (lnX L))) ∨ (r = 1 ∧ ¬ L.1 = -1 ∧ okL ls (lnX L) ∧ PWc w' (ls ++ [lnX L])))
theorem st_line {w w' : MW} {ls : List Ln} {r : Int32} {L : Int × Int × Int × Int × Int} (h : PWc w ls) (e : RlE w w' r L) : StC w w' ls r L := by
  obtain ⟨z, hz, hB, q⟩ := e
  have pz : PWc z ls := pwc_fr h hz.2.1 rfl
  have n0 := pz.1
  have Fz : FR lrd9 w z := FR.tr (FR.refl _ w) hz.2.1 rfl
  rcases q with ⟨k, er, ew⟩ | ⟨k, q⟩ | ⟨k, q⟩ | ⟨k, q⟩ | ⟨k, bb, q⟩
  · rw [ew]
    exact ⟨hz.1, Fz, hz.2.2.1, hz.2.2.2, Or.inl ⟨er, Or.inl k⟩⟩
  · rcases q with ⟨c, er, ew⟩ | ⟨c, er, ad, F⟩
    · rw [ew]
      refine ⟨hz.1, Fz, hz.2.2.1, hz.2.2.2, Or.inl ⟨er, Or.inr (fun o => ?_)⟩⟩
      have k2 : (lnX L).1 = 0 := k
      rcases o with o | o | o | o
      · have o1 : 1 ≤ L.2.1 := o.2.1
        have o2 : L.2.1 ≤ 100000 := o.2.2.1
        have o3 := o.2.2.2
        exact c ⟨o1, o2, by omega⟩
      · have := o.1
        omega
      · have := o.1
        omega
      · have := o.1
        omega
    · have k2 : (lnX L).1 = 0 := k
      refine ⟨hB, Fz.tr F rfl, ((F 91 9 rfl).2.2).trans hz.2.2.1, by rw [(F 91 10 rfl).1]; exact hz.2.2.2, Or.inr ⟨er, by omega, Or.inl ⟨k, c.1, c.2.1, by omega⟩, pwc_t pz (by omega) ?_ ?_ F ad⟩⟩
      · unfold ckd
        rw [if_pos k2]
        decide
      · rw [if_pos k2, tI_t (by omega) (by omega)]
        rfl
  · rcases q with ⟨c, er, ew⟩ | ⟨c, er, ad, F⟩
    · rw [ew]
      refine ⟨hz.1, Fz, hz.2.2.1, hz.2.2.2, Or.inl ⟨er, Or.inr (fun o => c ?_)⟩⟩
      have k2 : (lnX L).1 = 1 := k
      have := ok_t (by omega) o
      omega
    · have k2 : (lnX L).1 = 1 := k
      refine ⟨hB, Fz.tr F rfl, ((F 91 9 rfl).2.2).trans hz.2.2.1, by rw [(F 91 10 rfl).1]; exact hz.2.2.2, Or.inr ⟨er, by omega, Or.inr (Or.inl ⟨k, by omega⟩), pwc_t pz (by omega) ?_ ?_ F ad⟩⟩
      · unfold ckd
        rw [if_neg (by omega), if_pos k2]
        decide
      · rw [if_neg (by omega)]
        exact i_0
  · rcases q with ⟨c, er, ew⟩ | ⟨c, er, ad, F⟩
    · rw [ew]
      refine ⟨hz.1, Fz, hz.2.2.1, hz.2.2.2, Or.inl ⟨er, Or.inr (fun o => ?_)⟩⟩
      have k2 : (lnX L).1 = 2 := k
      rcases o with o | o | o | o
      · have := o.1
        omega
      · have := o.1
        omega
      · have o2 : L.2.1 ≤ 7 := o.2.2.1
        have o3 := o.2.2.2
        exact c ⟨o2, by omega⟩
      · have := o.1
        omega
    · have k2 : (lnX L).1 = 2 := k
      refine ⟨hB, Fz.tr F rfl, ((F 91 9 rfl).2.2).trans hz.2.2.1, by rw [(F 91 10 rfl).1]; exact hz.2.2.2, Or.inr ⟨er, by omega, Or.inr (Or.inr (Or.inl ⟨k, c.1, c.2.1, by omega⟩)), pwc_t pz (by omega) ?_ ?_ F ad⟩⟩
      · unfold ckd
        rw [if_neg (by omega), if_neg (by omega), tI_t (by omega) (by omega)]
        rfl
      · rw [if_neg (by omega)]
        exact i_0
  · have k2 : (lnX L).1 = 3 := k
    have ta : (tI L.2.1).toInt = (lnX L).2.1 := tI_t (by omega) (by omega)
    have tb : (tI L.2.2.1).toInt = (lnX L).2.2.1 := tI_t (by omega) (by omega)
    have tl : (tI L.2.2.2.1).toInt = (lnX L).2.2.2 := tI_t (by omega) (by omega)
    have a0 : -1 ≤ (tI L.2.1).toInt := by rw [tI_t (by omega) (by omega)]; omega
    have b0 : -1 ≤ (tI L.2.2.1).toInt := by rw [tI_t (by omega) (by omega)]; omega
    have o := ok_pipe pz k2 ta tb tl a0 b0
    rcases q with ⟨c, er, F⟩ | ⟨c, er, ad, F⟩
    · exact ⟨hB, Fz.tr F rfl, ((F 91 9 rfl).2.2).trans hz.2.2.1, by rw [(F 91 10 rfl).1]; exact hz.2.2.2, Or.inl ⟨er, Or.inr (fun y => c (o.mpr y))⟩⟩
    · exact ⟨hB, Fz.tr F rfl, ((F 91 9 rfl).2.2).trans hz.2.2.1, by rw [(F 91 10 rfl).1]; exact hz.2.2.2, Or.inr ⟨er, by omega, o.mp c, pwc_p hz.1 pz k2 ta tb tl a0 b0 c ad⟩⟩
