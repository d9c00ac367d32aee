/-! the open ways of both sides -/
/-- the end where pipe i of way k is entered -/
def ent (w : MW) (k i : Nat) : Nat := (w.1 186 (24 * k + i)).toInt.toNat
def wln (w : MW) (k : Nat) : Nat := (w.1 185 k).toInt.toNat
def nwy (w : MW) : Nat := (w.1 127 26).toInt.toNat
def hldB (w : MW) (t k : Nat) : Bool := decide (¬ (w.1 187 (20 * k + t)).toInt = -1)
/-- numbers of a way: from, to, rate, liquid, length -/
def WRa (w : MW) : Prop := w.1 26 1 = w.1 127 26 ∧ 0 ≤ (w.1 127 26).toInt ∧ (w.1 127 26).toInt ≤ 24 ∧ ∀ k, k < nwy w → (w.1 27 k = w.1 181 k ∧ w.1 28 k = w.1 182 k ∧ w.1 29 k = w.1 184 k ∧ w.1 30 k = w.1 183 k ∧ w.1 31 k = w.1 185 k) ∧ (1 ≤ (w.1 185 k).toInt ∧ (w.1 185 k).toInt ≤ 24) ∧ (1 ≤ (w.1 183 k).toInt ∧ (w.1 183 k).toInt ≤ 14) ∧ (1 ≤ (w.1 184 k).toInt ∧ (w.1 184 k).toInt ≤ 100) ∧ (0 ≤ (w.1 181 k).toInt ∧ (w.1 181 k).toInt < tM w ∧ tkM w (w.1 181 k).toInt) ∧ (0 ≤ (w.1 182 k).toInt ∧ (w.1 182 k).toInt < tM w ∧ tkM w (w.1 182 k).toInt) ∧ ¬ (w.1 181 k).toInt = (w.1 182 k).toInt
/-- its pipes -/
def WRb (w : MW) : Prop := ∀ k, k < nwy w → (∀ i, i < wln w k → (0 ≤ (w.1 186 (24 * k + i)).toInt ∧ (w.1 186 (24 * k + i)).toInt < 2 * pM w) ∧ w.1 34 (ent w k i / 2) = nI (xo (ent w k i)) ∧ w.1 35 (ent w k i / 2) = (if i + 1 < wln w k then nI (ent w k (i + 1) / 2) else -1)) ∧ w.1 32 k = nI (ent w k 0 / 2) ∧ w.1 33 k = nI (ent w k (wln w k - 1) / 2)
def onN (w : MW) (p : Nat) : Prop := ∃ k i, k < nwy w ∧ i < wln w k ∧ ent w k i / 2 = p
/-- which pipes are taken; no pipe twice -/
def WRc (w : MW) : Prop := (∀ p : Nat, (p : Int) < pM w → ((w.1 36 p).toInt = 0 ↔ ¬ onN w p)) ∧ ∀ k i k' i', k < nwy w → i < wln w k → k' < nwy w → i' < wln w k' → ent w k i / 2 = ent w k' i' / 2 → k = k' ∧ i = i'
/-- how they hang together -/
def WRd (w : MW) : Prop := ∀ k, k < nwy w → atM w (ent w k 0) = (w.1 181 k).toInt ∧ atM w (xo (ent w k (wln w k - 1))) = (w.1 182 k).toInt ∧ (∀ i, i + 1 < wln w k → atM w (xo (ent w k i)) = atM w (ent w k (i + 1)) ∧ 0 ≤ atM w (ent w k (i + 1)) ∧ ¬ tkM w (atM w (ent w k (i + 1)))) ∧ ∀ i j, i + 1 < wln w k → j + 1 < wln w k → atM w (ent w k (i + 1)) = atM w (ent w k (j + 1)) → i = j
/-- what is held -/
def WRe (w : MW) : Prop := (∀ k t : Nat, k < nwy w → (t : Int) < tM w → (¬ (w.1 187 (20 * k + t)).toInt = -1 ↔ ∃ i, i + 1 < wln w k ∧ atM w (ent w k (i + 1)) = t)) ∧ HP w ∧ ∀ t : Nat, (t : Int) < tM w → (w.1 37 t).toInt = ctb (hldB w t) (nwy w)
/-- what flows in them -/
def WRf (w : MW) : Prop := ∀ k i, k < nwy w → i < wln w k → w.1 17 ((tM w).toNat + ent w k i / 2) = 0 ∨ w.1 17 ((tM w).toNat + ent w k i / 2) = w.1 183 k
theorem w_n {w : MW} (h : WRa w) : ((nwy w : Nat) : Int) = (w.1 127 26).toInt ∧ nwy w ≤ 24 := by
  have a := h.2.1
  have b := h.2.2.1
  unfold nwy
  omega
theorem w_l {w : MW} (h : WRa w) {k : Nat} (hk : k < nwy w) : ((wln w k : Nat) : Int) = (w.1 185 k).toInt ∧ 1 ≤ wln w k ∧ wln w k ≤ 24 := by
  have a := (h.2.2.2 k hk).2.1
  unfold wln
  omega
theorem w_e {w : MW} (h : WRb w) {k i : Nat} (hk : k < nwy w) (hi : i < wln w k) : ((ent w k i : Nat) : Int) = (w.1 186 (24 * k + i)).toInt ∧ (ent w k i : Int) < 2 * pM w := by
  have a := ((h k hk).1 i hi).1
  unfold ent
  omega
/-- the class's chain is the reference's row -/
theorem w_ch {w : MW} (ha : WRa w) (hb : WRb w) (p24 : pM w ≤ 24) {k : Nat} (hk : k < nwy w) : ∀ i, i < wln w k → wpi w k i = ((ent w k i / 2 : Nat) : Int) := by
  have H := hb k hk
  have n2 : ∀ i, i < wln w k → (nI (ent w k i / 2)).toInt = ((ent w k i / 2 : Nat) : Int) := fun i hi => by
    have := (w_e hb hk hi).2
    exact nI_toInt (by omega)
  intro i
  induction i with
  | zero =>
    intro hi
    show (w.1 32 k).toInt = _
    rw [H.2.1]
    exact n2 0 hi
  | succ i ih =>
    intro hi
    have q := ih (by omega)
    show (w.1 35 (chn w (w.1 32 k).toInt i).toNat).toInt = _
    have q' : chn w (w.1 32 k).toInt i = ((ent w k i / 2 : Nat) : Int) := q
    rw [q', show (((ent w k i / 2 : Nat) : Int)).toNat = ent w k i / 2 by omega, (H.1 i (by omega)).2.2, if_pos hi]
    exact n2 (i + 1) hi
theorem w_ok {w : MW} (ha : WRa w) (hb : WRb w) (p24 : pM w ≤ 24) {k : Nat} (hk : k < nwy w) (i : Nat) : wok w k i ↔ i < wln w k := by
  have e31 : w.1 31 k = w.1 185 k := (ha.2.2.2 k hk).1.2.2.2.2
  have l := w_l ha hk
  unfold wok
  rw [e31]
  constructor
  · intro q
    have := q.1
    omega
  · intro q
    refine ⟨by omega, fun j hj => ?_⟩
    rw [w_ch ha hb p24 hk j (by omega)]
    omega
/-- what a way wants, by the reference's row -/
theorem wnt_e {w : MW} (ha : WRa w) (hb : WRb w) {k x : Nat} (hk : k < nwy w) : wnt w k x ↔ (x : Int) = (w.1 182 k).toInt ∨ ∃ i, i < wln w k ∧ (x : Int) = tM w + ((ent w k i / 2 : Nat) : Int) := by
  have l := w_l ha hk
  unfold wnt
  constructor
  · intro q
    rcases q with q | ⟨i, q1, q2⟩
    · exact Or.inl q
    · have hi : i < wln w k := by omega
      have e := (w_e hb hk hi).1
      exact Or.inr ⟨i, hi, by omega⟩
  · intro q
    rcases q with q | ⟨i, hi, q2⟩
    · exact Or.inl q
    · have e := (w_e hb hk hi).1
      exact Or.inr ⟨i, by omega, by omega⟩
theorem wys_e {w : MW} (ha : WRa w) (hb : WRb w) (p24 : pM w ≤ 24) (eT : tC w = tM w) (l y : Nat) : WyS w l y ↔ ∃ k, k < nwy w ∧ (w.1 183 k).toInt = l ∧ wnt w k y := by
  have n := w_n ha
  unfold WyS
  rw [ha.1, eT]
  constructor
  · intro q
    obtain ⟨k, q1, q2, q3⟩ := q
    have hk : k < nwy w := by omega
    have A := (ha.2.2.2 k hk).1
    rw [A.2.2.2.1] at q2
    rw [A.2.1] at q3
    refine ⟨k, hk, q2, (wnt_e ha hb hk).mpr ?_⟩
    rcases q3 with q3 | ⟨i, ok, q3⟩
    · exact Or.inl q3
    · have hi := (w_ok ha hb p24 hk i).mp ok
      rw [w_ch ha hb p24 hk i hi] at q3
      exact Or.inr ⟨i, hi, q3⟩
  · intro q
    obtain ⟨k, hk, q2, q3⟩ := q
    have A := (ha.2.2.2 k hk).1
    refine ⟨k, by omega, by rw [A.2.2.2.1]; exact q2, ?_⟩
    rw [A.2.1]
    rcases (wnt_e ha hb hk).mp q3 with q3 | ⟨i, hi, q3⟩
    · exact Or.inl q3
    · refine Or.inr ⟨i, (w_ok ha hb p24 hk i).mpr hi, ?_⟩
      rw [w_ch ha hb p24 hk i hi]
      exact q3
/-- the insides, by the ways -/
def INs (w : MW) : Prop := ∀ x : Nat, (x : Int) < tM w + pM w → (¬ (w.1 17 x).toInt = 0 ∧ w.1 194 x = w.1 17 x) ∨ ((w.1 17 x).toInt = 0 ∧ ((w.1 194 x = 0 ∧ ∀ k, k < nwy w → ¬ wnt w k x) ∨ ∃ k, k < nwy w ∧ wnt w k x ∧ w.1 194 x = w.1 183 k))
/-- where liquids flood from -/
theorem sr_x {w : MW} (T : 0 ≤ tM w ∧ tM w ≤ 20) (P : 0 ≤ pM w ∧ pM w ≤ 24) (eT : tC w = tM w) (eP : pC w = pM w) (b17 : ∀ x : Nat, 0 ≤ (w.1 17 x).toInt ∧ (w.1 17 x).toInt ≤ 14) (ha : WRa w) (hb : WRb w) (hc : WRc w) (hd : WRd w) (hf : WRf w) (hi : INs w) : SRr w := by
  have en : nsp w = tM w + pM w := ti_add2 rfl rfl (by unfold tM pM at *; omega) (by unfold tM pM at *; omega)
  have n := w_n ha
  have pipe : ∀ (k i : Nat) (l : Nat), k < nwy w → i < wln w k → 1 ≤ l → (w.1 183 k).toInt = l → Si w l ((tM w).toNat + ent w k i / 2) := fun k i l hk hik l1 e => by
    have E := (w_e hb hk hik).2
    have hx : (((tM w).toNat + ent w k i / 2 : Nat) : Int) < tM w + pM w := by omega
    refine ⟨by rw [en]; exact hx, ?_⟩
    have want : wnt w k ((tM w).toNat + ent w k i / 2) := (wnt_e ha hb hk).mpr (Or.inr ⟨i, hik, by omega⟩)
    rcases hi _ hx with ⟨h1, h2⟩ | ⟨h1, ⟨h2, h3⟩ | ⟨k', hk', h2, h3⟩⟩
    · rw [h2]
      rcases hf k i hk hik with f | f
      · rw [f] at h1
        exact absurd i_0 h1
      · rw [f]
        exact e
    · exact absurd want (h3 k hk)
    · rw [h3]
      rcases (wnt_e ha hb hk').mp h2 with q | ⟨i', hi', q⟩
      · have := (ha.2.2.2 k' hk').2.2.2.2.2.1
        omega
      · have same : ent w k' i' / 2 = ent w k i / 2 := by omega
        have kk := (hc.2 k' i' k i hk' hi' hk hik same).1
        rw [kk]
        exact e
  refine ⟨fun y hy => ?_, fun l y l0 l1 s => ?_, fun l y l0 l1 s => ?_⟩
  · rw [en] at hy
    rcases hi y hy with ⟨_, h2⟩ | ⟨_, ⟨h2, _⟩ | ⟨k, hk, _, h2⟩⟩
    · rw [h2]
      exact b17 y
    · rw [h2, i_0]
      omega
    · rw [h2]
      have := (ha.2.2.2 k hk).2.2.1
      omega
  · have hy := s.1
    have e := s.2
    rw [en] at hy
    rcases hi y hy with ⟨_, h2⟩ | ⟨_, ⟨h2, _⟩ | ⟨k, hk, h3, h2⟩⟩
    · rw [h2] at e
      exact Or.inr ⟨by rw [eT, eP]; exact hy, e⟩
    · rw [h2, i_0] at e
      omega
    · rw [h2] at e
      exact Or.inl ((wys_e ha hb P.2 eT l y).mpr ⟨k, hk, e, h3⟩)
  · rcases s with s | s
    · obtain ⟨k, hk, e, want⟩ := (wys_e ha hb P.2 eT l y).mp s
      rcases (wnt_e ha hb hk).mp want with q | ⟨i, hik, q⟩
      · have l := w_l ha hk
        have hl : wln w k - 1 < wln w k := by omega
        have D := hd k hk
        have E := (w_e hb hk hl).2
        have A := (ha.2.2.2 k hk).2.2.2.2.2.1
        refine Or.inr ⟨xo (ent w k (wln w k - 1)), ?_, by rw [D.2.1]; exact q.symm, by rw [q]; exact A.2.2, (tM w).toNat + ent w k (wln w k - 1) / 2, ?_, pipe k _ _ hk hl l0 e⟩
        · have := xo_lt (e := ent w k (wln w k - 1)) (N := (pM w).toNat) (by omega)
          omega
        · have := xo_2 (ent w k (wln w k - 1))
          omega
      · have ey : y = (tM w).toNat + ent w k i / 2 := by omega
        rw [ey]
        exact Or.inl (pipe k i l hk hik l0 e)
    · refine Or.inl ⟨by rw [en, ← eT, ← eP]; exact s.1, ?_⟩
      have hy := s.1
      rw [eT, eP] at hy
      have e := s.2
      rcases hi y hy with ⟨_, h2⟩ | ⟨h1, _⟩
      · rw [h2]
        exact e
      · omega
/-- held is held by some way -/
theorem ov_x {w : MW} (ha : WRa w) (he : WRe w) : OVq w := by
  intro t ht
  have n := w_n ha
  rw [he.2.2 t ht]
  constructor
  · intro q k hk
    by_cases c : (w.1 187 (20 * k + (t : Int).toNat)).toInt = -1
    · exact c
    · exfalso
      rw [show ((t : Int)).toNat = t by omega] at c
      have m := ctb_lt (f := fun _ => false) (g := hldB w t) (k := k) rfl (decide_eq_true c) (nwy w) (by omega) (fun x _ z => by cases z)
      omega
  · intro q
    have z : ctb (hldB w t) (nwy w) = ctb (fun _ => false) (nwy w) := ctb_same _ (fun k hk => by
      refine decide_eq_false (fun c => c ?_)
      have := q k (by omega)
      rw [show ((t : Int)).toNat = t by omega] at this
      exact this)
    have z2 : ∀ n, ctb (fun _ => false) n = 0 := fun n => by
      induction n with
      | zero => rfl
      | succ n ih =>
        show ctb (fun _ => false) n + (if false = true then 1 else 0) = 0
        rw [ih]
        rfl
    rw [z, z2]
    rfl
/-- the pipes that are busy are those that are taken -/
theorem on_e {w : MW} (ha : WRa w) (hb : WRb w) (p : Nat) : onW w p ↔ onN w p := by
  have n := w_n ha
  unfold onW onN
  constructor
  · intro q
    obtain ⟨k, i, q1, q2, q3⟩ := q
    have hk : k < nwy w := by omega
    have l := w_l ha hk
    have hi : i < wln w k := by omega
    have e := (w_e hb hk hi).1
    exact ⟨k, i, hk, hi, by omega⟩
  · intro q
    obtain ⟨k, i, hk, hi, q3⟩ := q
    have l := w_l ha hk
    have e := (w_e hb hk hi).1
    exact ⟨k, i, by omega, by omega, by omega⟩
