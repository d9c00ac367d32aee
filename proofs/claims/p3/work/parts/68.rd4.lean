/-! the class's reader: the tree -/
def CHn (w : MW) (P : Int → Prop) : Nat → Int → Int → Prop
  | 0, f, S => f = -1 ∧ 0 ≤ S
  | k + 1, f, S => (f = -1 ∧ 0 ≤ S) ∨ (0 ≤ f ∧ P f ∧ CHn w P k (yX w f) (S - yS w f))
theorem CHn.mp {w w' : MW} {P P' : Int → Prop} (h : ∀ x, 0 ≤ x → P x → P' x ∧ yX w' x = yX w x ∧ yS w' x = yS w x) (k : Nat) : ∀ f S, CHn w P k f S → CHn w' P' k f S := by
  induction k with
  | zero => intro f S q; exact q
  | succ k ih =>
    intro f S q
    cases q with
    | inl a => exact Or.inl a
    | inr a =>
      have z := h f a.1 a.2.1
      refine Or.inr ⟨a.1, z.1, ?_⟩
      rw [z.2.1, z.2.2]
      exact ih _ _ a.2.2
theorem CHn.le {w : MW} {P : Int → Prop} {S S' : Int} (hS : S ≤ S') (k : Nat) : ∀ f d, CHn w P k f (S - d) → CHn w P k f (S' - d) := by
  induction k with
  | zero => intro f d q; exact ⟨q.1, by have := q.2; omega⟩
  | succ k ih =>
    intro f d q
    cases q with
    | inl a => exact Or.inl ⟨a.1, by have := a.2; omega⟩
    | inr a =>
      have e1 : S - d - yS w f = S - (d + yS w f) := by omega
      have e2 : S' - d - yS w f = S' - (d + yS w f) := by omega
      refine Or.inr ⟨a.1, a.2.1, ?_⟩
      rw [e2]
      exact ih _ _ (by rw [← e1]; exact a.2.2)
def nmC (w : MW) : Int := (w.1 108 10).toInt
def nkB (w : MW) (i : Int) : Int := (w.1 117 i.toNat).toInt
def nbB (w : MW) (i : Int) : Int := (w.1 119 i.toNat).toInt
/-- what a child x of m keeps -/
def Pc (w : MW) (lo m x : Int) : Prop := (lo ≤ x ∧ x < m) ∧ 1 ≤ yS w x ∧ (yK w m = 35 → ¬ yK w x = 35 ∧ yD w x + 1 ≤ yD w m) ∧ (¬ yK w m = 35 → yK w x = 35 ∧ yD w x ≤ yD w m)
/-- a node of a good tree -/
def TCm (w : MW) (lo m : Int) : Prop := ((yK w m = 11 ∨ yK w m = 14 ∨ yK w m = 22 ∨ yK w m = 23 ∨ yK w m = 30) → 0 ≤ yA w m ∧ yA w m ≤ 39) ∧ (yT w m ≤ m ∧ (yF w m < yT w m → (11 ≤ yK w m ∧ yK w m ≤ 14) ∨ yK w m = 17 ∨ yK w m = 19 ∨ yK w m = 20)) ∧ (1 ≤ yS w m ∧ yS w m ≤ 501 ∧ 0 ≤ yD w m ∧ yD w m ≤ m + 1) ∧ (¬ yK w m = 23 → yI w m = -1 ∨ (lo ≤ yI w m ∧ yI w m < m)) ∧ ((yK w m = 17 ∨ yK w m = 19 ∨ yK w m = 20) → 0 ≤ yI w m) ∧ (¬ yK w m = 23 → yS w m ≤ 500 → ∃ k, CHn w (Pc w lo m) k (yI w m) (yS w m - 1)) ∧ (yK w m = 23 → yA w m < nmC w ∧ nkB w (yA w m) = 10 ∧ 0 ≤ nbB w (yA w m) ∧ nbB w (yA w m) < lo ∧ yK w (nbB w (yA w m)) = 35 ∧ yX w (nbB w (yA w m)) = -1 ∧ 1 ≤ yS w (nbB w (yA w m)) ∧ (yS w m ≤ 500 → 1 + yS w (nbB w (yA w m)) ≤ yS w m) ∧ yD w (nbB w (yA w m)) ≤ yD w m)
/-- names are the same -/
def SM (w w' : MW) : Prop := nmC w' = nmC w ∧ (∀ i, nkB w' i = nkB w i) ∧ (∀ i, nbB w' i = nbB w i)
theorem SM.fr {l : Pl} {w w' : MW} (hF : FR l w w') (ho : off l [(108, some 10), (117, none), (119, none)] = true) : SM w w' := by
  have hq : ∀ k j, hit [(108, some 10), (117, none), (119, none)] k j = true → w'.1 k j = w.1 k j := fun k j hk => (hF k j (off_hit ho hk)).1
  unfold SM nmC nkB nbB
  exact ⟨by rw [hq 108 10 rfl], fun i => by rw [hq 117 _ rfl], fun i => by rw [hq 119 _ rfl]⟩
/-- all is the same below B, but for the next of f0 -/
def NSx (f0 B : Int) (w w' : MW) : Prop := ∀ j : Int, 0 ≤ j → j < B → (yK w' j = yK w j ∧ yA w' j = yA w j ∧ yF w' j = yF w j ∧ yT w' j = yT w j ∧ yI w' j = yI w j ∧ yS w' j = yS w j ∧ yD w' j = yD w j) ∧ (¬ j = f0 → yX w' j = yX w j)
theorem NS.x {B : Int} {w w' : MW} (h : NS B w w') (f0 : Int) : NSx f0 B w w' := fun j a b => ⟨⟨(h j a b).1, (h j a b).2.1, (h j a b).2.2.1, (h j a b).2.2.2.1, (h j a b).2.2.2.2.1, (h j a b).2.2.2.2.2.2.1, (h j a b).2.2.2.2.2.2.2⟩, fun _ => (h j a b).2.2.2.2.2.1⟩
theorem TCm.sx {w w' : MW} {f0 lo m : Int} (l0 : 0 ≤ lo) (lm : lo ≤ m) (h : TCm w lo m) (s : NSx f0 (m + 1) w w') (n : SM w w') (hf : f0 < lo ∨ m ≤ f0) (hb : ∀ i, 0 ≤ i → i < nmC w → nkB w i = 10 → nbB w i < f0) : TCm w' lo m := by
  have e := (s m (by omega) (by omega)).1
  have pc : ∀ x, 0 ≤ x → Pc w lo m x → Pc w' lo m x ∧ yX w' x = yX w x ∧ yS w' x = yS w x := fun x x0 p => by
    have p1 := p.1
    have q := s x x0 (by omega)
    unfold Pc
    rw [q.1.1, q.1.2.2.2.2.2.1, q.1.2.2.2.2.2.2, e.1, e.2.2.2.2.2.2]
    exact ⟨p, q.2 (by omega), rfl⟩
  unfold TCm
  rw [e.1, e.2.1, e.2.2.1, e.2.2.2.1, e.2.2.2.2.1, e.2.2.2.2.2.1, e.2.2.2.2.2.2, n.1, n.2.1, n.2.2]
  refine ⟨h.1, h.2.1, h.2.2.1, h.2.2.2.1, h.2.2.2.2.1, fun c d => ?_, fun c => ?_⟩
  · obtain ⟨k, hk⟩ := h.2.2.2.2.2.1 c d
    exact ⟨k, CHn.mp pc k _ _ hk⟩
  · have z := h.2.2.2.2.2.2 c
    have a := h.1 (by omega)
    have q := s (nbB w (yA w m)) z.2.2.1 (by have := z.2.2.2.1; omega)
    have nf := hb (yA w m) a.1 z.1 z.2.1
    rw [q.1.1, q.2 (by omega), q.1.2.2.2.2.2.1, q.1.2.2.2.2.2.2]
    exact z
theorem TCm.sn {w w' : MW} {lo m : Int} (l0 : 0 ≤ lo) (lm : lo ≤ m) (h : TCm w lo m) (s : NS (m + 1) w w') (n : SM w w') : TCm w' lo m := by
  have e := s m (by omega) (by omega)
  have pc : ∀ x, 0 ≤ x → Pc w lo m x → Pc w' lo m x ∧ yX w' x = yX w x ∧ yS w' x = yS w x := fun x x0 p => by
    have p1 := p.1
    have q := s x x0 (by omega)
    unfold Pc
    rw [q.1, q.2.2.2.2.2.2.1, q.2.2.2.2.2.2.2, e.1, e.2.2.2.2.2.2.2]
    exact ⟨p, q.2.2.2.2.2.1, rfl⟩
  unfold TCm
  rw [e.1, e.2.1, e.2.2.1, e.2.2.2.1, e.2.2.2.2.1, e.2.2.2.2.2.2.1, e.2.2.2.2.2.2.2, n.1, n.2.1, n.2.2]
  refine ⟨h.1, h.2.1, h.2.2.1, h.2.2.2.1, h.2.2.2.2.1, fun c d => ?_, fun c => ?_⟩
  · obtain ⟨k, hk⟩ := h.2.2.2.2.2.1 c d
    exact ⟨k, CHn.mp pc k _ _ hk⟩
  · have z := h.2.2.2.2.2.2 c
    have q := s (nbB w (yA w m)) z.2.2.1 (by have := z.2.2.2.1; omega)
    rw [q.1, q.2.2.2.2.2.1, q.2.2.2.2.2.2.1, q.2.2.2.2.2.2.2]
    exact z
/-- a lower bound may sink, if the steps' blocks lie below it -/
theorem TCm.lo {w : MW} {lo lo2 m : Int} (h : TCm w lo m) (hl : lo2 ≤ lo) (hb : ∀ i, 0 ≤ i → i < nmC w → nkB w i = 10 → nbB w i < lo2) : TCm w lo2 m := by
  refine ⟨h.1, h.2.1, h.2.2.1, fun c => by have := h.2.2.2.1 c; omega, h.2.2.2.2.1, fun c d => ?_, fun c => ?_⟩
  · obtain ⟨k, hk⟩ := h.2.2.2.2.2.1 c d
    exact ⟨k, CHn.mp (fun x x0 p => ⟨⟨⟨by have := p.1; omega, p.1.2⟩, p.2⟩, rfl, rfl⟩) k _ _ hk⟩
  · have z := h.2.2.2.2.2.2 c
    have a := h.1 (by omega)
    exact ⟨z.1, z.2.1, z.2.2.1, hb _ a.1 z.1 z.2.1, z.2.2.2.2⟩
theorem PlN.tc {w : MW} {lo m : Int} (m0 : 0 ≤ m) (h : PlN w m) : TCm w lo m := by
  have h1 := h.1
  have hF := h.2.2.1
  have hT := h.2.2.2.1
  have hI := h.2.2.2.2.1
  have hS := h.2.2.2.2.2.2.1
  have hD := h.2.2.2.2.2.2.2
  refine ⟨fun q => h.2.1 (by omega), ⟨by omega, fun q => by omega⟩, ⟨by omega, by omega, by omega, by omega⟩, fun _ => Or.inl hI, fun q => by omega, fun _ _ => ⟨0, ?_⟩, fun q => by omega⟩
  rw [hI, hS]
  exact ⟨rfl, by omega⟩
/-- the steps' blocks -/
def NI (w : MW) : Prop := ∀ i, 0 ≤ i → i < nmC w → nkB w i = 10 → 0 ≤ nbB w i ∧ nbB w i < ndC w ∧ yK w (nbB w i) = 35 ∧ yX w (nbB w i) = -1 ∧ (1 ≤ yS w (nbB w i) ∧ yS w (nbB w i) ≤ 501) ∧ 0 ≤ yD w (nbB w i) ∧ yD w (nbB w i) ≤ nbB w i + 1
theorem NI.sn {w w' : MW} (h : NI w) (n : SM w w') (s : NS (ndC w) w w') (hn : ndC w ≤ ndC w') : NI w' := fun i i0 i1 i2 => by
  rw [n.1] at i1
  rw [n.2.1] at i2
  have z := h i i0 i1 i2
  have q := s (nbB w i) z.1 z.2.1
  rw [n.2.2, q.1, q.2.2.2.2.2.1, q.2.2.2.2.2.2.1, q.2.2.2.2.2.2.2]
  exact ⟨z.1, by have := z.2.1; omega, z.2.2⟩
def RN (w : MW) : Prop := RW w ∧ NK w ∧ (wr w < 0 → NI w)
/-- the tree has grown -/
def TGc (w w' : MW) : Prop := wr w' < 0 → wr w < 0 ∧ ndC w ≤ ndC w' ∧ NS (ndC w) w w' ∧ ∀ m, ndC w ≤ m → m < ndC w' → TCm w' (ndC w) m
def TG (w w' : MW) : Prop := RN w' ∧ (FR lcr w w' ∧ WM w w') ∧ TGc w w'
theorem RN.st {w w' : MW} (h : RN w) (hR : RW w') (hF : FR lcr w w') (hc : wr w' < 0 → wr w < 0 ∧ ndC w ≤ ndC w' ∧ NS (ndC w) w w') : RN w' := ⟨hR, NK_fr hF rfl h.2.1, fun c => (h.2.2 (hc c).1).sn (SM.fr hF rfl) (hc c).2.2 (hc c).2.1⟩
theorem TG.refl {w : MW} (h : RN w) : TG w w := ⟨h, ⟨FR.refl _ w, fun c => c⟩, fun c => ⟨c, Int.le_refl _, NS.refl _ w, fun m a b => by omega⟩⟩
theorem TG.tr {w w1 w2 : MW} (hw : RN w) (h : TG w w1) (h2 : TG w1 w2) : TG w w2 := by
  refine ⟨h2.1, ⟨h.2.1.1.tr h2.2.1.1 rfl, h.2.1.2.tr h2.2.1.2⟩, fun c => ?_⟩
  have q := h2.2.2 c
  have p := h.2.2 q.1
  have n0 := nd_0 hw.1
  refine ⟨p.1, by omega, p.2.2.1.tr q.2.2.1 p.2.1, fun m a b => ?_⟩
  by_cases d : m < ndC w1
  · exact (p.2.2.2 m a d).sn n0 a (q.2.2.1.wk (by omega)) (SM.fr h2.2.1.1 rfl)
  · refine (q.2.2.2 m (by omega) b).lo p.2.1 (fun i i0 i1 i2 => ?_)
    have n := SM.fr (h.2.1.1.tr h2.2.1.1 rfl : FR lcr w w2) rfl
    rw [n.1] at i1
    rw [n.2.1] at i2
    rw [n.2.2]
    exact (hw.2.2 p.1 i i0 i1 i2).2.1
theorem GB.tg {w w' : MW} (hw : RN w) (h : GB w w') : TG w w' := ⟨hw.st h.1 h.2.1 (fun c => ⟨(h.2.2.2 c).1, (h.2.2.2 c).2.1, (h.2.2.2 c).2.2.1⟩), ⟨h.2.1, h.2.2.1⟩, fun c => ⟨(h.2.2.2 c).1, (h.2.2.2 c).2.1, (h.2.2.2 c).2.2.1, fun m a b => ((h.2.2.2 c).2.2.2 m a b).tc (by have := nd_0 hw.1; omega)⟩⟩
theorem TkS.tg {w w' : MW} (hw : RN w) (h : TkS w w') : TG w w' := GB.tg hw h.gb
/-- a statement or block was read: its node is the last one -/
def StO (lo hi : Int) (w : MW) (r : Int32) (w' : MW) : Prop := TG w w' ∧ w'.1 87 8 = w.1 87 8 ∧ (0 ≤ r.toInt ∧ r.toInt ≤ 300) ∧ (wr w' < 0 → ndC w ≤ r.toInt ∧ r.toInt + 1 = ndC w' ∧ yX w' r.toInt = -1 ∧ lo ≤ yK w' r.toInt ∧ yK w' r.toInt ≤ hi)
theorem StO.bad {lo hi : Int} {w w' : MW} {r : Int32} (t : TG w w') (ho : w'.1 87 8 = w.1 87 8) (r0 : 0 ≤ r.toInt) (r1 : r.toInt ≤ 300) (c : 0 ≤ wr w') : StO lo hi w r w' := ⟨t, ho, ⟨r0, r1⟩, fun d => by omega⟩
theorem StO.seq {lo hi : Int} {w w1 w' : MW} {r : Int32} (hw : RN w) (t : TG w w1) (ho : w1.1 87 8 = w.1 87 8) (h : StO lo hi w1 r w') : StO lo hi w r w' := ⟨TG.tr hw t h.1, h.2.1.trans ho, h.2.2.1, fun c => by
  have q := h.2.2.2 c
  have p := (t.2.2 ((h.1.2.2 c).1)).2.1
  exact ⟨by omega, q.2⟩⟩
