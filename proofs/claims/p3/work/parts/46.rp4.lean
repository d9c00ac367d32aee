theorem incF_at {f : Nat → Int32} {i : Int32} {j : Nat} (hb : 0 ≤ (f j).toInt) (hc : (f j).toInt ≤ 1000) : ((incF f i) j).toInt = (f j).toInt + (if 0 ≤ i.toInt ∧ j = i.toInt.toNat then 1 else 0) := by
  unfold incF
  by_cases c : i.toInt < 0
  · rw [if_pos c, if_neg (by omega)]
    omega
  · rw [if_neg c]
    by_cases d : j = i.toInt.toNat
    · rw [if_pos d, if_pos ⟨by omega, d⟩]
      exact ti_add2 (Eq.refl (f j).toInt) (by decide : ((1 : Int32)).toInt = 1) (by omega) (by omega)
    · rw [if_neg d, if_neg (fun q => d q.2)]
      omega
def lr2 : Pl := [(127, some 4), (127, some 11), (127, some 21), (163, none), (164, none), (165, none), (166, none), (167, none), (168, none), (169, none), (170, none), (171, none), (172, none), (178, none)]
theorem pi_thing {v v' : MW} {k : Int32} (hI : BND v) (h : PI v) (hn : (v.1 127 4).toInt < 20) (h4 : v'.1 127 4 = (v.1 127 4) + (1 : Int32)) (hF : FR lbt v v') (h163 : ∀ j, v'.1 163 j = if j = (v.1 127 4).toInt.toNat then k else v.1 163 j) (h168 : ∀ j, v'.1 168 j = if j = (v.1 127 4).toInt.toNat then 0 else v.1 168 j) (hk : ¬ k.toInt = 0 → 0 ≤ (rm k).toInt) : PI v' := by
  have b4 := bd_127_4 hI
  have e4 := ti_add2 (Eq.refl (v.1 127 4).toInt) (by decide : ((1 : Int32)).toInt = 1) (by omega) (by omega)
  have e11 : v'.1 127 11 = v.1 127 11 := (hF 127 11 rfl).1
  have e170 : ∀ j, v'.1 170 j = v.1 170 j := fun j => (hF 170 j rfl).1
  have e171 : ∀ j, v'.1 171 j = v.1 171 j := fun j => (hF 171 j rfl).1
  have e169 : ∀ j, v'.1 169 j = v.1 169 j := fun j => (hF 169 j rfl).1
  have b11 := bd_127_11 hI
  obtain ⟨hA, hB, hC, hD⟩ := h
  refine ⟨fun j j0 j1 => ?_, fun e e0 e1 => ?_, fun e g e0 e1 g0 g1 eg hat h0 => ?_, fun p p0 p1 => ?_⟩
  · rw [h4, e4] at j1
    rw [h163, h168, e11]
    by_cases c : j = (v.1 127 4).toInt
    · have q : j.toNat = (v.1 127 4).toInt.toNat := by rw [c]
      rw [if_pos q, if_pos q, i_0]
      exact ⟨by omega, by omega, hk⟩
    · have q : j.toNat ≠ (v.1 127 4).toInt.toNat := by omega
      rw [if_neg q, if_neg q]
      exact hA j j0 (by omega)
  · rw [e11] at e1
    rw [e170, e171, h4, e4]
    have hb := hB e e0 e1
    refine ⟨by omega, fun h0 => ?_⟩
    rw [h168, if_neg (by omega)]
    exact hb.2 h0
  · rw [e11] at e1 g1
    rw [e170, e170] at hat
    rw [e170] at h0
    rw [e171, e171]
    exact hC e g e0 e1 g0 g1 eg hat h0
  · rw [e11] at p1
    rw [e169]
    exact hD p p0 p1
theorem pt_nn {f : Nat → Int32} {a : Int32} (h : ¬ a.toInt < 0) : pt f a = f a.toInt.toNat := by unfold pt; rw [if_neg h]
theorem pi_pipe {v v' : MW} (hI : BND v) (h : PI v) (hn : (v.1 127 11).toInt < 24) (c1 : 1 ≤ (v.1 178 2).toInt) (hF : FR lbp v v') (h11 : v'.1 127 11 = (v.1 127 11) + (1 : Int32)) (h169 : ∀ j, v'.1 169 j = if j = (v.1 127 11).toInt.toNat then v.1 178 2 else v.1 169 j) (h170 : ∀ j, v'.1 170 j = if j = (2 * (v.1 127 11).toInt + 1).toNat then v.1 178 1 else if j = (2 * (v.1 127 11).toInt).toNat then v.1 178 0 else v.1 170 j) (h171 : ∀ j, v'.1 171 j = if j = (2 * (v.1 127 11).toInt + 1).toNat then pt (incF (fun j => v.1 168 j) (v.1 178 0)) (v.1 178 1) else if j = (2 * (v.1 127 11).toInt).toNat then pt (fun j => v.1 168 j) (v.1 178 0) else v.1 171 j) (h168 : (fun j => v'.1 168 j) = incF (incF (fun j => v.1 168 j) (v.1 178 0)) (v.1 178 1)) (hat0 : (v.1 178 0).toInt < (v.1 127 4).toInt) (hat1 : (v.1 178 1).toInt < (v.1 127 4).toInt) (hr0 : ¬ (v.1 178 0).toInt < 0 → ((v.1 168 (v.1 178 0).toInt.toNat) + bth (v.1 178 0) (v.1 178 1)).toInt < (rm (v.1 163 (v.1 178 0).toInt.toNat)).toInt) (hr1 : ¬ (v.1 178 1).toInt < 0 → ((v.1 168 (v.1 178 1).toInt.toNat) + bth (v.1 178 0) (v.1 178 1)).toInt < (rm (v.1 163 (v.1 178 1).toInt.toNat)).toInt) : PI v' := by
  have b11 := bd_127_11 hI
  have b4 := bd_127_4 hI
  have e11 := ti_add2 (Eq.refl (v.1 127 11).toInt) (by decide : ((1 : Int32)).toInt = 1) (by omega) (by omega)
  have e4 : v'.1 127 4 = v.1 127 4 := (hF 127 4 rfl).1
  have e163 : ∀ j, v'.1 163 j = v.1 163 j := fun j => (hF 163 j rfl).1
  obtain ⟨hA, hB, hC, hD⟩ := h
  generalize ha : v.1 178 0 = a at *
  generalize hb : v.1 178 1 = b at *
  -- taken, as numbers
  have tk1 : ∀ j : Int, 0 ≤ j → j < (v.1 127 4).toInt → ((incF (fun j => v.1 168 j) a) j.toNat).toInt = (v.1 168 j.toNat).toInt + (if 0 ≤ a.toInt ∧ j.toNat = a.toInt.toNat then 1 else 0) := fun j j0 j1 => incF_at (f := fun j => v.1 168 j) (hA j j0 j1).1 (by have := (hA j j0 j1).2.1; show (v.1 168 j.toNat).toInt ≤ 1000; omega)
  have tk2 : ∀ j : Int, 0 ≤ j → j < (v.1 127 4).toInt → (v'.1 168 j.toNat).toInt = (v.1 168 j.toNat).toInt + (if 0 ≤ a.toInt ∧ j.toNat = a.toInt.toNat then 1 else 0) + (if 0 ≤ b.toInt ∧ j.toNat = b.toInt.toNat then 1 else 0) := by
    intro j j0 j1
    have e : v'.1 168 j.toNat = (incF (incF (fun j => v.1 168 j) a) b) j.toNat := congrFun h168 j.toNat
    have t1 := tk1 j j0 j1
    have hh := hA j j0 j1
    have sp : (if 0 ≤ a.toInt ∧ j.toNat = a.toInt.toNat then (1 : Int) else 0) = 0 ∨ (if 0 ≤ a.toInt ∧ j.toNat = a.toInt.toNat then (1 : Int) else 0) = 1 := by
      split
      · exact Or.inr rfl
      · exact Or.inl rfl
    rw [e, incF_at (by omega) (by omega), t1]
  have bthv : bth a b = 0 ∧ ¬ a.toInt = b.toInt ∨ bth a b = 1 ∧ a.toInt = b.toInt := by
    unfold bth
    by_cases c : a.toInt = b.toInt
    · rw [if_pos c]; exact Or.inr ⟨rfl, c⟩
    · rw [if_neg c]; exact Or.inl ⟨rfl, c⟩
  have room0 : ¬ a.toInt < 0 → (v.1 168 a.toInt.toNat).toInt + (bth a b).toInt < (rm (v.1 163 a.toInt.toNat)).toInt := by
    intro c
    have hh := hA a.toInt (by omega) hat0
    have q := hr0 c
    have e := ti_add2 (Eq.refl (v.1 168 a.toInt.toNat).toInt) (Eq.refl (bth a b).toInt) (by rcases bthv with ⟨q, _⟩ | ⟨q, _⟩ <;> rw [q] <;> have := i_0 <;> have := i_1 <;> omega) (by rcases bthv with ⟨q, _⟩ | ⟨q, _⟩ <;> rw [q] <;> have := i_0 <;> have := i_1 <;> omega)
    omega
  have room1 : ¬ b.toInt < 0 → (v.1 168 b.toInt.toNat).toInt + (bth a b).toInt < (rm (v.1 163 b.toInt.toNat)).toInt := by
    intro c
    have hh := hA b.toInt (by omega) hat1
    have q := hr1 c
    have e := ti_add2 (Eq.refl (v.1 168 b.toInt.toNat).toInt) (Eq.refl (bth a b).toInt) (by rcases bthv with ⟨q, _⟩ | ⟨q, _⟩ <;> rw [q] <;> have := i_0 <;> have := i_1 <;> omega) (by rcases bthv with ⟨q, _⟩ | ⟨q, _⟩ <;> rw [q] <;> have := i_0 <;> have := i_1 <;> omega)
    omega
  have bv : (bth a b).toInt = 0 ∧ ¬ a.toInt = b.toInt ∨ (bth a b).toInt = 1 ∧ a.toInt = b.toInt := by
    rcases bthv with ⟨q, c⟩ | ⟨q, c⟩
    · exact Or.inl ⟨by rw [q]; exact i_0, c⟩
    · exact Or.inr ⟨by rw [q]; exact i_1, c⟩
  -- the two new ends
  have at0 : v'.1 170 (2 * (v.1 127 11).toInt).toNat = a := by rw [h170, if_neg (by omega), if_pos rfl]
  have at1 : v'.1 170 (2 * (v.1 127 11).toInt + 1).toNat = b := by rw [h170, if_pos rfl]
  have po0 : v'.1 171 (2 * (v.1 127 11).toInt).toNat = pt (fun j => v.1 168 j) a := by rw [h171, if_neg (by omega), if_pos rfl]
  have po1 : v'.1 171 (2 * (v.1 127 11).toInt + 1).toNat = pt (incF (fun j => v.1 168 j) a) b := by rw [h171, if_pos rfl]
  have old170 : ∀ e : Int, 0 ≤ e → e < 2 * (v.1 127 11).toInt → v'.1 170 e.toNat = v.1 170 e.toNat := fun e e0 e1 => by rw [h170, if_neg (by omega), if_neg (by omega)]
  have old171 : ∀ e : Int, 0 ≤ e → e < 2 * (v.1 127 11).toInt → v'.1 171 e.toNat = v.1 171 e.toNat := fun e e0 e1 => by rw [h171, if_neg (by omega), if_neg (by omega)]
  have p0v : 0 ≤ a.toInt → (pt (fun j => v.1 168 j) a).toInt = (v.1 168 a.toInt.toNat).toInt := fun c => by rw [pt_nn (by omega)]
  have p1v : 0 ≤ b.toInt → (pt (incF (fun j => v.1 168 j) a) b).toInt = (v.1 168 b.toInt.toNat).toInt + (if 0 ≤ a.toInt ∧ b.toInt.toNat = a.toInt.toNat then 1 else 0) := fun c => by rw [pt_nn (by omega)]; exact tk1 b.toInt c hat1
  have mono : ∀ j : Int, 0 ≤ j → j < (v.1 127 4).toInt → (v.1 168 j.toNat).toInt ≤ (v'.1 168 j.toNat).toInt := by
    intro j j0 j1
    rw [tk2 j j0 j1]
    split <;> split <;> omega
  have endc : ∀ e : Int, 0 ≤ e → e < 2 * ((v.1 127 11).toInt + 1) → e < 2 * (v.1 127 11).toInt ∨ e = 2 * (v.1 127 11).toInt ∨ e = 2 * (v.1 127 11).toInt + 1 := fun e e0 e1 => by omega
  refine ⟨fun j j0 j1 => ?_, fun e e0 e1 => ?_, fun e g e0 e1 g0 g1 eg hat h0 => ?_, fun p p0 p1 => ?_⟩
  · rw [e4] at j1
    rw [e163, h11, e11, tk2 j j0 j1]
    have hh := hA j j0 j1
    refine ⟨by split <;> split <;> omega, by split <;> split <;> omega, fun hk => ?_⟩
    have h3 := hh.2.2 hk
    by_cases ca : 0 ≤ a.toInt ∧ j.toNat = a.toInt.toNat
    · have r0 := room0 (by omega)
      rw [← ca.2] at r0
      rw [if_pos ca]
      by_cases cb : 0 ≤ b.toInt ∧ j.toNat = b.toInt.toNat
      · rw [if_pos cb]
        omega
      · rw [if_neg cb]
        omega
    · rw [if_neg ca]
      by_cases cb : 0 ≤ b.toInt ∧ j.toNat = b.toInt.toNat
      · have r1 := room1 (by omega)
        rw [← cb.2] at r1
        rw [if_pos cb]
        omega
      · rw [if_neg cb]
        omega
  · rw [h11, e11] at e1
    rw [e4]
    rcases endc e e0 e1 with c | c | c
    · rw [old170 e e0 c, old171 e e0 c]
      have hb' := hB e e0 c
      refine ⟨hb'.1, fun h0 => ?_⟩
      have := mono _ h0 hb'.1
      have := hb'.2 h0
      omega
    · subst c
      rw [at0, po0]
      refine ⟨hat0, fun h0 => ?_⟩
      have q := tk2 a.toInt h0 hat0
      rw [if_pos ⟨h0, rfl⟩] at q
      have hh := hA a.toInt h0 hat0
      rw [p0v h0]
      refine ⟨hh.1, ?_⟩
      split at q <;> omega
    · subst c
      rw [at1, po1]
      refine ⟨hat1, fun h0 => ?_⟩
      have q := tk2 b.toInt h0 hat1
      rw [if_pos (show 0 ≤ b.toInt ∧ b.toInt.toNat = b.toInt.toNat from ⟨h0, rfl⟩)] at q
      have hh := hA b.toInt h0 hat1
      rw [p1v h0]
      refine ⟨by split <;> omega, ?_⟩
      rw [q]
      split <;> omega
  · rw [h11, e11] at e1 g1
    have sep : ∀ x : Int, 0 ≤ x → x < 2 * (v.1 127 11).toInt → 0 ≤ (v.1 170 x.toNat).toInt → ¬ ((v.1 170 x.toNat).toInt = a.toInt ∧ (v.1 171 x.toNat).toInt = (pt (fun j => v.1 168 j) a).toInt) ∧ ¬ ((v.1 170 x.toNat).toInt = b.toInt ∧ (v.1 171 x.toNat).toInt = (pt (incF (fun j => v.1 168 j) a) b).toInt) := by
      intro x x0 x1 xh
      have hx := hB x x0 x1
      have hx2 := hx.2 xh
      refine ⟨fun q => ?_, fun q => ?_⟩
      · have q1 := p0v (by omega)
        rw [q.1] at hx2
        omega
      · have q1 := p1v (by omega)
        rw [q.1] at hx2
        split at q1 <;> omega
    have nab : 0 ≤ a.toInt → a.toInt = b.toInt → ¬ (pt (fun j => v.1 168 j) a).toInt = (pt (incF (fun j => v.1 168 j) a) b).toInt := by
      intro ha0 hab
      have q0 := p0v ha0
      have q1 := p1v (by omega)
      rw [if_pos ⟨ha0, by rw [hab]⟩, ← hab] at q1
      omega
    rcases endc e e0 e1 with c | c | c <;> rcases endc g g0 g1 with d | d | d
    · rw [old170 e e0 c, old170 g g0 d] at hat
      rw [old170 e e0 c] at h0
      rw [old171 e e0 c, old171 g g0 d]
      exact hC e g e0 c g0 d eg hat h0
    · subst d
      rw [old170 e e0 c, at0] at hat
      rw [old170 e e0 c] at h0
      rw [old171 e e0 c, po0]
      exact fun q => (sep e e0 c h0).1 ⟨hat, q⟩
    · subst d
      rw [old170 e e0 c, at1] at hat
      rw [old170 e e0 c] at h0
      rw [old171 e e0 c, po1]
      exact fun q => (sep e e0 c h0).2 ⟨hat, q⟩
    · subst c
      rw [old170 g g0 d, at0] at hat
      rw [at0] at h0
      rw [old171 g g0 d, po0]
      exact fun q => (sep g g0 d (by omega)).1 ⟨hat.symm, q.symm⟩
    · omega
    · subst c
      subst d
      rw [at0, at1] at hat
      rw [at0] at h0
      rw [po0, po1]
      exact nab h0 hat
    · subst c
      rw [old170 g g0 d, at1] at hat
      rw [at1] at h0
      rw [old171 g g0 d, po1]
      exact fun q => (sep g g0 d (by omega)).2 ⟨hat.symm, q.symm⟩
    · subst c
      subst d
      rw [at0, at1] at hat
      rw [at1] at h0
      rw [po0, po1]
      exact fun q => nab (by omega) hat.symm q.symm
    · omega
  · rw [h11, e11] at p1
    rw [h169]
    by_cases c : p = (v.1 127 11).toInt
    · rw [if_pos (by rw [c])]
      exact c1
    · rw [if_neg (by omega)]
      exact hD p p0 (by omega)
