/-! the class's reader: blocks -/
def SEG (w : MW) (P : Int → Prop) (b : Int) : Nat → Int → Int → Prop
  | 0, f, S => f = b ∧ P f ∧ 0 ≤ f ∧ yS w f ≤ S
  | k + 1, f, S => 0 ≤ f ∧ f < b ∧ P f ∧ SEG w P b k (yX w f) (S - yS w f)
theorem SEG.close {w : MW} {P : Int → Prop} {b : Int} (hb : yX w b = -1) (k : Nat) : ∀ f S, SEG w P b k f S → CHn w (fun x => P x ∧ x ≤ b) (k + 1) f S := by
  induction k with
  | zero =>
    intro f S q
    refine Or.inr ⟨q.2.2.1, ⟨q.2.1, by have := q.1; omega⟩, ?_, by have := q.2.2.2; omega⟩
    rw [q.1]
    exact hb
  | succ k ih =>
    intro f S q
    exact Or.inr ⟨q.1, ⟨q.2.2.1, by have := q.2.1; omega⟩, ih _ _ q.2.2.2⟩
theorem SEG.ext {w w' : MW} {P P' : Int → Prop} {b y : Int} (hx : yX w' b = y) (hy : b < y) (py : P' y) (h : ∀ x, 0 ≤ x → x ≤ b → P x → P' x ∧ yS w' x = yS w x ∧ (x < b → yX w' x = yX w x)) (k : Nat) : ∀ f S, SEG w P b k f S → SEG w' P' y (k + 1) f (S + yS w' y) := by
  induction k with
  | zero =>
    intro f S q
    have z := h f q.2.2.1 (by have := q.1; omega) q.2.1
    have e := q.1
    have e3 : yX w' f = y := by rw [e]; exact hx
    have q3 := q.2.2.1
    refine ⟨q.2.2.1, by omega, z.1, ?_⟩
    rw [e3]
    exact ⟨rfl, py, by omega, by rw [z.2.1]; have := q.2.2.2; omega⟩
  | succ k ih =>
    intro f S q
    have z := h f q.1 (by have := q.2.1; omega) q.2.2.1
    refine ⟨q.1, by have := q.2.1; omega, z.1, ?_⟩
    rw [z.2.2 q.2.1, z.2.1]
    have e : S + yS w' y - yS w f = S - yS w f + yS w' y := by omega
    rw [e]
    exact ih _ _ q.2.2.2
theorem SEG.mp {w w' : MW} {P P' : Int → Prop} {b : Int} (h : ∀ x, 0 ≤ x → x ≤ b → P x → P' x ∧ yS w' x = yS w x ∧ yX w' x = yX w x) (k : Nat) : ∀ f S, SEG w P b k f S → SEG w' P' b k f S := by
  induction k with
  | zero =>
    intro f S q
    have z := h f q.2.2.1 (by have := q.1; omega) q.2.1
    exact ⟨q.1, z.1, q.2.2.1, by rw [z.2.1]; exact q.2.2.2⟩
  | succ k ih =>
    intro f S q
    have z := h f q.1 (by have := q.2.1; omega) q.2.2.1
    refine ⟨q.1, q.2.1, z.1, ?_⟩
    rw [z.2.2, z.2.1]
    exact ih _ _ q.2.2.2
/-- an element of a list of statements (11 .. 26) or of blocks (35) -/
def PS (w : MW) (kl kh lo D x : Int) : Prop := lo ≤ x ∧ 1 ≤ yS w x ∧ kl ≤ yK w x ∧ yK w x ≤ kh ∧ yD w x ≤ D
theorem PS.sn {w w' : MW} {kl kh lo D D' x : Int} (h : PS w kl kh lo D x) (eK : yK w' x = yK w x) (eS : yS w' x = yS w x) (eD : yD w' x = yD w x) (hD : D ≤ D') : PS w' kl kh lo D' x := by
  unfold PS
  rw [eK, eS, eD]
  exact ⟨h.1, h.2.1, h.2.2.1, h.2.2.2.1, by have := h.2.2.2.2; omega⟩
/-- the list from f to b, its cost all, its depth D -/
def LsT (w v : MW) (kl kh f b al D : Int) : Prop := ndC w ≤ b ∧ b + 1 = ndC v ∧ yX v b = -1 ∧ (ndC w ≤ f ∧ f ≤ b) ∧ ∃ k S, SEG v (PS v kl kh (ndC w) D) b k f S ∧ (al ≤ 500 → S ≤ al - 1)
theorem ls_one {w v v1 : MW} {kl kh al : Int} {r : Int32} (hw : RN w) (t : TG w v) (h : StO kl kh v r v1) (c : wr v1 < 0) (ha : al ≤ 500 → yS v1 r.toInt ≤ al - 1) : LsT w v1 kl kh r.toInt r.toInt al (yD v1 r.toInt) ∧ (1 ≤ yS v1 r.toInt ∧ yS v1 r.toInt ≤ 501) ∧ 0 ≤ yD v1 r.toInt ∧ yD v1 r.toInt ≤ ndC v1 := by
  have q := h.1.2.2 c
  have p := t.2.2 q.1
  have s := h.2.2.2 c
  have n0 := nd_0 hw.1
  have T := q.2.2.2 r.toInt s.1 (by omega)
  have T3 := T.2.2.1
  refine ⟨⟨by omega, s.2.1, s.2.2.1, ⟨by omega, Int.le_refl _⟩, 0, yS v1 r.toInt, ⟨rfl, ⟨by omega, T3.1, s.2.2.2.1, s.2.2.2.2, Int.le_refl _⟩, by omega, Int.le_refl _⟩, ha⟩, ⟨T3.1, T3.2.1⟩, T3.2.2.1, by omega⟩
/-- one more -/
theorem ls_more {w v v1 v' : MW} {kl kh f b al al' D D' : Int} {r : Int32} (hw : RN w) (t : TG w v) (L : LsT w v kl kh f b al D) (h : StO kl kh v r v1) (c : wr v1 < 0) (hb : ndC v' = ndC v1) (hX : NSx b (ndC v1) v1 v') (hx : yX v' b = r.toInt) (hD : D ≤ D') (hD' : yD v1 r.toInt ≤ D') (ha : al' ≤ 500 → al ≤ 500 ∧ al + yS v1 r.toInt ≤ al') : LsT w v' kl kh f r.toInt al' D' := by
  have q := h.1.2.2 c
  have p := t.2.2 q.1
  have s := h.2.2.2 c
  have n0 := nd_0 hw.1
  have T := q.2.2.2 r.toInt s.1 (by omega)
  have T3 := T.2.2.1
  have L1 := L.1
  have L2 := L.2.1
  have L4 := L.2.2.2.1
  have er := hX r.toInt (by omega) (by omega)
  obtain ⟨k, S, hS, hA⟩ := L.2.2.2.2
  refine ⟨by omega, by omega, ?_, ⟨L4.1, by omega⟩, k + 1, S + yS v' r.toInt, SEG.ext hx (by omega) ⟨by omega, by rw [er.1.2.2.2.2.2.1]; exact T3.1, by rw [er.1.1]; exact s.2.2.2.1, by rw [er.1.1]; exact s.2.2.2.2, by rw [er.1.2.2.2.2.2.2]; exact hD'⟩ (fun x x0 x1 px => ?_) k f S hS, fun c5 => ?_⟩
  · rw [er.2 (by omega)]
    exact s.2.2.1
  · have a := q.2.2.1 x x0 (by omega)
    have e := hX x x0 (by omega)
    exact ⟨PS.sn px (e.1.1.trans a.1) (e.1.2.2.2.2.2.1.trans a.2.2.2.2.2.2.1) (e.1.2.2.2.2.2.2.trans a.2.2.2.2.2.2.2) hD, e.1.2.2.2.2.2.1.trans a.2.2.2.2.2.2.1, fun d => (e.2 (by omega)).trans a.2.2.2.2.2.1⟩
  · have z := ha c5
    have y := hA z.1
    rw [er.1.2.2.2.2.2.1]
    omega
/-- the same list in a world where more was read behind it -/
theorem ls_on {w v v' : MW} {kl kh f b al D : Int} (hw : RN w) (L : LsT w v kl kh f b al D) (h : NS (ndC v) v v') (hn : ndC w ≤ b → b < ndC v) : ∃ k S, SEG v' (PS v' kl kh (ndC w) D) b k f S ∧ (al ≤ 500 → S ≤ al - 1) := by
  obtain ⟨k, S, hS, hA⟩ := L.2.2.2.2
  refine ⟨k, S, SEG.mp (fun x x0 x1 px => ?_) k f S hS, hA⟩
  have L1 := L.1
  have a := h x x0 (by have := hn L1; omega)
  exact ⟨PS.sn px a.1 a.2.2.2.2.2.2.1 a.2.2.2.2.2.2.2 (Int.le_refl _), a.2.2.2.2.2.2.1, a.2.2.2.2.2.1⟩
def RcS (lo hi o : Int) (F : MW → (Int32 → MW → Prop) → Prop) : Prop := ∀ (w : MW) (Q : Int32 → MW → Prop), RN w → (w.1 87 8).toInt = o → (∀ r w', StO lo hi w r w' → Q r w') → F w Q
/-- what readBlock's loop keeps -/
def BkL (w v : MW) (f b al D : Int32) : Prop := TG w v ∧ v.1 87 8 = w.1 87 8 + 1 ∧ ((-1 ≤ f.toInt ∧ f.toInt ≤ 300) ∧ -1 ≤ b.toInt ∧ b.toInt ≤ 300) ∧ (wr v < 0 → (1 ≤ al.toInt ∧ al.toInt ≤ 501) ∧ (0 ≤ D.toInt ∧ D.toInt ≤ ndC v) ∧ ((b.toInt = -1 ∧ f.toInt = -1 ∧ al.toInt = 1) ∨ LsT w v 11 26 f.toInt b.toInt al.toInt D.toInt))
theorem x_bk57 {B S : MW → (Int32 → MW → Prop) → Prop} {G : MW → Int32 → (Int32 → MW → Prop) → Prop} {P : MW → (Int32 → MW → Prop) → Prop} {w : MW} {E : Int32 → Int32 → Int32 → MW → Prop} {Q : Int32 → MW → Prop} (hw : RN w) (o20 : (w.1 87 8).toInt < 20) (hS : RcS 11 26 ((w.1 87 8).toInt + 1) S) (hE : ∀ (f b al D : Int32) (v : MW), BkL w v f b al D → E f al D v) (n : Nat) : ∀ (f b al D i : Int32) (v : MW), BkL w v f b al D → 0 ≤ i.toInt → i.toInt ≤ 4001 → (4001 - i.toInt).toNat < n → q_Rd_readBlock_57 B G P S E Q n f b al D i v := by
  induction n with
  | zero => intros; omega
  | succ n ih =>
    intro f b al D i v h i0 i1 hm
    have b8 := bd_87_8 hw.1.1
    have so := ti_add2 (Eq.refl (w.1 87 8).toInt) i_1 (by omega) (by omega)
    rw [q_Rd_readBlock_57.eq_2]
    have X := hE f b al D v h
    refine ⟨fun _ => X, fun ci => ⟨fun _ => X, fun _ => ⟨fun _ => X, fun _ => hS v _ h.1.1 (by rw [h.2.1]; exact so) (fun r v1 t => ?_)⟩⟩⟩
    have si := ti_add2 (Eq.refl i.toInt) i_1 (by omega) (by omega)
    have g : 0 ≤ r.toInt ∧ r.toInt < 301 := ⟨t.2.2.1.1, by have := t.2.2.1.2; omega⟩
    have hb := h.2.2.1
    have o1 : v1.1 87 8 = w.1 87 8 + 1 := t.2.1.trans h.2.1
    have eS : (v1.1 88 r.toInt.toNat).toInt = yS v1 r.toInt := rfl
    have eD : (v1.1 89 r.toInt.toNat).toInt = yD v1 r.toInt := rfl
    have M : ∀ al' D' : Int32, (wr v1 < 0 → 1 ≤ yS v1 r.toInt → yS v1 r.toInt ≤ 501 → 1 ≤ al.toInt → al.toInt ≤ 501 → (1 ≤ al'.toInt ∧ al'.toInt ≤ 501 ∧ (al'.toInt ≤ 500 → al'.toInt = al.toInt + yS v1 r.toInt))) → (D.toInt ≤ D'.toInt ∧ yD v1 r.toInt ≤ D'.toInt ∧ (D'.toInt = D.toInt ∨ D'.toInt = yD v1 r.toInt)) → ((0 ≤ b.toInt → ((v1.2.2 87 1 = some 108) ∧ ((0 ≤ b.toInt ∧ b.toInt < 301) ∧ (q_Rd_readBlock_57 B G P S  E Q n f r al' D' (i + (1 : Int32)) (sI v1 114 b.toInt.toNat r))))) ∧ (¬ (0 ≤ b.toInt) → (q_Rd_readBlock_57 B G P S  E Q n r r al' D' (i + (1 : Int32)) v1))) := fun al' D' ha hD => by
      refine ⟨fun cb => ⟨t.1.1.1.2.2.1, ⟨cb, by omega⟩, ih _ _ _ _ _ _ ⟨tg_link hw h.1 cb (fun c => ?_) t.1 (by omega) (by omega), o1, ⟨hb.1, by omega, by omega⟩, fun c => ?_⟩ (by omega) (by omega) (by omega)⟩, fun cb => ih _ _ _ _ _ _ ⟨TG.tr hw h.1 t.1, o1, ⟨⟨by omega, by omega⟩, by omega, by omega⟩, fun c => ?_⟩ (by omega) (by omega) (by omega)⟩
      · have z := (h.2.2.2 c).2.2
        have y := z.resolve_left (fun q => by omega)
        exact ⟨y.1, y.2.1⟩
      · have c1 : wr v1 < 0 := c
        have q := t.1.2.2 c1
        have z := h.2.2.2 q.1
        have L := z.2.2.resolve_left (fun q => by omega)
        have T := (q.2.2.2 r.toInt (t.2.2.2 c1).1 (by have := (t.2.2.2 c1).2.1; omega)).2.2.1
        have a := ha c1 T.1 T.2.1 z.1.1 z.1.2
        have sr := (t.2.2.2 c1)
        have en : ndC (sI v1 114 b.toInt.toNat r) = ndC v1 := rfl
        rw [en]
        exact ⟨⟨a.1, a.2.1⟩, ⟨by omega, by omega⟩, Or.inr (ls_more hw h.1 L t c1 rfl (nsx_link cb) (by rw [yX_set cb cb, if_pos rfl]) hD.1 hD.2.1 (fun c5 => by have := a.2.2 c5; omega))⟩
      · have q := t.1.2.2 c
        have z := h.2.2.2 q.1
        have nb : b.toInt = -1 ∧ f.toInt = -1 ∧ al.toInt = 1 := by
          cases z.2.2 with
          | inl y => exact y
          | inr y =>
            have := y.1
            have := nd_0 hw.1
            omega
        have T := (q.2.2.2 r.toInt (t.2.2.2 c).1 (by have := (t.2.2.2 c).2.1; omega)).2.2.1
        have a := ha c T.1 T.2.1 z.1.1 z.1.2
        have sr := (t.2.2.2 c)
        have O := ls_one (al := al'.toInt) hw h.1 t c (fun c5 => by have := a.2.2 c5; omega)
        refine ⟨⟨a.1, a.2.1⟩, ⟨by omega, by omega⟩, Or.inr ?_⟩
        obtain ⟨k, Sm, hSm, hAm⟩ := O.1.2.2.2.2
        exact ⟨O.1.1, O.1.2.1, O.1.2.2.1, O.1.2.2.2.1, k, Sm, SEG.mp (fun x x0 x1 px => ⟨PS.sn px rfl rfl rfl hD.2.1, rfl, rfl⟩) k _ _ hSm, hAm⟩
    have N : ∀ al' : Int32, (wr v1 < 0 → 1 ≤ yS v1 r.toInt → yS v1 r.toInt ≤ 501 → 1 ≤ al.toInt → al.toInt ≤ 501 → (1 ≤ al'.toInt ∧ al'.toInt ≤ 501 ∧ (al'.toInt ≤ 500 → al'.toInt = al.toInt + yS v1 r.toInt))) → ((0 ≤ r.toInt ∧ r.toInt < 301) ∧ (p_Ma_max v1 D (v1.1 89 r.toInt.toNat) (fun r14 w14 => ((0 ≤ b.toInt → ((w14.2.2 87 1 = some 108) ∧ ((0 ≤ b.toInt ∧ b.toInt < 301) ∧ (q_Rd_readBlock_57 B G P S  E Q n f r al' r14 (i + (1 : Int32)) (sI w14 114 b.toInt.toNat r))))) ∧ (¬ (0 ≤ b.toInt) → (q_Rd_readBlock_57 B G P S  E Q n r r al' r14 (i + (1 : Int32)) w14)))))) := fun al' ha => ⟨g, Eq.mpr (p_Ma_max.eq_1 _ _ _ _) ⟨fun c => M al' _ ha ⟨by omega, by omega, by right; exact eD⟩, fun c => M al' _ ha ⟨by omega, by omega, by left; rfl⟩⟩⟩
    refine ⟨g, Eq.mpr (p_Ma_min.eq_1 _ _ _ _) ⟨fun c => N 501 (fun _ _ _ _ _ => ⟨by decide, by decide, fun q => absurd q (by decide)⟩), fun c => N _ (fun _ s0 s1 a0 a1 => ?_)⟩⟩
    have s := ti_add2 (Eq.refl al.toInt) eS (by omega) (by omega)
    rw [(by decide : ((501 : Int32)).toInt = 501)] at c
    omega
theorem CHn.le0 {w : MW} {P : Int → Prop} {S S' : Int} {k : Nat} {f : Int} (hS : S ≤ S') (h : CHn w P k f S) : CHn w P k f S' := by
  have z := CHn.le (w := w) (P := P) hS k f 0 (by rw [Int.sub_zero]; exact h)
  rw [Int.sub_zero] at z
  exact z
/-- the chain of a node behind a list -/
theorem ls_chain {w v w3 : MW} {kl kh f b al D m : Int} (L : LsT w v kl kh f b al D) (hn : ndC v ≤ m) (h : NS (ndC v) v w3) (hK : (yK w3 m = 35 ∧ kl = 11 ∧ kh = 26 ∧ D + 1 ≤ yD w3 m) ∨ (¬ yK w3 m = 35 ∧ kl = 35 ∧ kh = 35 ∧ D ≤ yD w3 m)) (ha : al ≤ 500) (w0 : 0 ≤ ndC w) : ∃ k, CHn w3 (Pc w3 (ndC w) m) k f (al - 1) := by
  obtain ⟨k, S, hS, hA⟩ := L.2.2.2.2
  have L1 := L.1
  have L2 := L.2.1
  have h1 := SEG.mp (w' := w3) (P' := PS w3 kl kh (ndC w) D) (fun x x0 x1 px => by
    have a := h x x0 (by omega)
    exact ⟨PS.sn px a.1 a.2.2.2.2.2.2.1 a.2.2.2.2.2.2.2 (Int.le_refl _), a.2.2.2.2.2.2.1, a.2.2.2.2.2.1⟩) k f S hS
  have hb : yX w3 b = -1 := by
    rw [(h b (by omega) (by omega)).2.2.2.2.2.1]
    exact L.2.2.1
  have h2 := CHn.le0 (hA ha) (SEG.close hb k f S h1)
  refine ⟨k + 1, CHn.mp (fun x x0 px => ⟨?_, rfl, rfl⟩) (k + 1) f _ h2⟩
  have p := px.1
  have pu := px.2
  have p1 := p.1
  have p3 := p.2.2.1
  have p4 := p.2.2.2.1
  have p5 := p.2.2.2.2
  exact ⟨⟨p1, by omega⟩, p.2.1, fun c => ⟨by omega, by omega⟩, fun c => ⟨by omega, by omega⟩⟩
theorem x_bkE {w v : MW} {f b al D : Int32} {Q : Int32 → MW → Prop} (hw : RN w) (o20 : (w.1 87 8).toInt < 20) (h : BkL w v f b al D) (hQ : ∀ r w', StO 35 35 w r w' → Q r w') : p_Rd_take v 125 (fun w19 => (p_Rd_makeNode (sI w19 87 8 ((w19.1 87 8) - (1 : Int32))) 35 0 (fun r20 w20 => ((w20.2.2 87 1 = some 108) ∧ ((0 ≤ r20.toInt ∧ r20.toInt < 301) ∧ ((0 ≤ r20.toInt ∧ r20.toInt < 301) ∧ ((0 ≤ r20.toInt ∧ r20.toInt < 301) ∧ (Q r20 (sI (sI (sI w20 113 r20.toInt.toNat f) 88 r20.toInt.toNat al) 89 r20.toInt.toNat (D + (1 : Int32))))))))))) := by
  have b8 := bd_87_8 hw.1.1
  refine k_take h.1.1.1 (fun w19 t19 => ?_)
  have T19 := TG.tr hw h.1 (t19.tg h.1.1)
  have e8 : w19.1 87 8 - (1 : Int32) = w.1 87 8 := i_back (t19.ge.2.trans h.2.1) b8.1 b8.2
  rw [e8]
  have z := k_open (v := w.1 87 8) t19.1 b8.1 b8.2
  have o1 : (sI w19 87 8 (w.1 87 8)).1 87 8 = w.1 87 8 := sI_same _ _ _ _
  have sn1 : ∀ j, SN j w19 (sI w19 87 8 (w.1 87 8)) := fun j => ⟨rfl, rfl, rfl, rfl, rfl, rfl, rfl, rfl⟩
  have nd1' : ndC (sI w19 87 8 (w.1 87 8)) = ndC w19 := rfl
  have wr1 : wr (sI w19 87 8 (w.1 87 8)) = wr w19 := rfl
  generalize (sI w19 87 8 (w.1 87 8)) = w1 at *
  have T1 := TG.tr hw T19 (z.tg T19.1)
  refine k_node z.1 (fun r w2 hD r0 r1 hc => ?_)
  have g : 0 ≤ r.toInt ∧ r.toInt < 301 := ⟨r0, by omega⟩
  have hb := h.2.2.1
  refine ⟨hD.1.2.2.1, g, g, g, hQ _ _ (mk_fin hw T1 o1 hD r0 r1 hc (FR.I (FR.I (FR.I (FR.refl lmk w2) rfl) rfl) rfl) (wbd_89 (wbd_88 (wbd_113 hD.1.1 _ hb.1.1 hb.1.2) _) _) (fun j j0 j1 => ?_) (by decide) (by decide) (fun c1 c2 e N S kK kA sm => ?_))⟩
  · have nj : j.toNat ≠ r.toInt.toNat := by omega
    exact ⟨rfl, rfl, rfl, rfl, congrArg Int32.toInt (sI_ne w2 113 j.toNat r.toInt.toNat f nj), rfl, congrArg Int32.toInt (sI_ne w2 88 j.toNat r.toInt.toNat al nj), congrArg Int32.toInt (sI_ne w2 89 j.toNat r.toInt.toNat (D + (1 : Int32)) nj)⟩
  · have eI : yI (sI (sI (sI w2 113 r.toInt.toNat f) 88 r.toInt.toNat al) 89 r.toInt.toNat (D + (1 : Int32))) r.toInt = f.toInt := congrArg Int32.toInt (sI_same w2 113 r.toInt.toNat f)
    have eS : yS (sI (sI (sI w2 113 r.toInt.toNat f) 88 r.toInt.toNat al) 89 r.toInt.toNat (D + (1 : Int32))) r.toInt = al.toInt := congrArg Int32.toInt (sI_same w2 88 r.toInt.toNat al)
    have eD : yD (sI (sI (sI w2 113 r.toInt.toNat f) 88 r.toInt.toNat al) 89 r.toInt.toNat (D + (1 : Int32))) r.toInt = (D + (1 : Int32)).toInt := congrArg Int32.toInt (sI_same w2 89 r.toInt.toNat (D + (1 : Int32)))
    have eT : yT (sI (sI (sI w2 113 r.toInt.toNat f) 88 r.toInt.toNat al) 89 r.toInt.toNat (D + (1 : Int32))) r.toInt = r.toInt := N.2.2.2.1
    have eF : yF (sI (sI (sI w2 113 r.toInt.toNat f) 88 r.toInt.toNat al) 89 r.toInt.toNat (D + (1 : Int32))) r.toInt = r.toInt := N.2.2.1
    generalize (sI (sI (sI w2 113 r.toInt.toNat f) 88 r.toInt.toNat al) 89 r.toInt.toNat (D + (1 : Int32))) = w3 at *
    have c19 : wr w19 < 0 := by rw [← wr1]; exact c1
    have cv := ((t19.tg h.1.1).2.2 c19).1
    have H := h.2.2.2 cv
    have nv : ndC w19 = ndC v := t19.nd
    have sD := ti_add2 (Eq.refl D.toInt) i_1 (by omega) (by omega)
    have k35 : yK w3 r.toInt = 35 := kK
    have n0 := nd_0 hw.1
    have NSv : NS (ndC v) v w3 := fun j j0 j1 => ((t19.sn j).tr (sn1 j)).tr (S j j0 (by omega))
    refine ⟨fun q => by omega, ⟨by omega, fun q => by omega⟩, ⟨by omega, by omega, by omega, by omega⟩, fun _ => ?_, fun q => by omega, fun _ c5 => ?_, fun q => by omega⟩
    · rw [eI]
      cases H.2.2 with
      | inl a => left; exact a.2.1
      | inr a =>
        right
        have := a.1
        have := a.2.1
        have := a.2.2.2.1
        omega
    · rw [eI, eS]
      rw [eS] at c5
      cases H.2.2 with
      | inl a => exact ⟨0, a.2.1, by omega⟩
      | inr a => exact ls_chain a (by omega) NSv (Or.inl ⟨k35, rfl, rfl, by omega⟩) c5 n0
theorem x_rblock {B S : MW → (Int32 → MW → Prop) → Prop} {G : MW → Int32 → (Int32 → MW → Prop) → Prop} {P : MW → (Int32 → MW → Prop) → Prop} {w : MW} {Q : Int32 → MW → Prop} (hw : RN w) (hS : (w.1 87 8).toInt < 20 → RcS 11 26 ((w.1 87 8).toInt + 1) S) (hQ : ∀ r w', StO 35 35 w r w' → Q r w') : pb_Rd_readBlock B G P S w Q := by
  have b8 := bd_87_8 hw.1.1
  have F : p_Rd_fail w (fun w2 => (Q 0 w2)) := k_fail hw.1 (fun w' t c => hQ 0 w' (StO.bad (t.tg hw) t.ge.2 (by decide) (by decide) c))
  refine Eq.mpr (pb_Rd_readBlock.eq_1 _ _ _ _ _ _) ⟨fun _ => F, fun _ => ⟨fun _ => F, fun _ => ⟨fun c => ?_, fun _ => F⟩⟩⟩
  have s := ti_add2 (Eq.refl (w.1 87 8).toInt) i_1 (by omega) (by omega)
  have z := k_open (v := (w.1 87 8) + (1 : Int32)) hw.1 (by omega) (by omega)
  have e8 : (sI w 87 8 ((w.1 87 8) + (1 : Int32))).1 87 8 = w.1 87 8 + 1 := sI_same _ _ _ _
  generalize (sI w 87 8 ((w.1 87 8) + (1 : Int32))) = w1 at *
  have T1 := z.tg hw
  refine k_next z.1 (fun w6 t6 => x_bk57 hw c (hS c) (fun f b al D v hv => x_bkE hw c hv hQ) FU (-1) (-1) 1 0 0 w6 ⟨TG.tr hw T1 (t6.tg T1.1), t6.ge.2.trans e8, ⟨⟨by decide, by decide⟩, by decide, by decide⟩, fun c6 => ⟨⟨by decide, by decide⟩, ⟨by decide, by rw [i_0]; exact nd_0 t6.1⟩, Or.inl ⟨i_m1, i_m1, i_1⟩⟩⟩ (by decide) (by decide) (fu_lt (by decide)))
