/-! the class's isSafe -/
/-- liquid l floods from y -/
def SrC (w : MW) (l y : Nat) : Prop := WyS w l y ∨ LqS w l y
def EdD (w : MW) (v ps : Int32) (z y : Nat) : Prop := z < 44 ∧ EdC w v ps z y
def FlC (w : MW) (v ps : Int32) (l x : Nat) : Prop := Rea (EdD w v ps) (SrC w l) x
def BdC (w : MW) (v ps : Int32) (x a b : Nat) : Prop := x < 44 ∧ 1 ≤ a ∧ a < b ∧ b < 15 ∧ FlC w v ps a x ∧ FlC w v ps b x ∧ mb (w.1 22 b) a = false
def LbC (w : MW) (v ps : Int32) (x a b : Nat) : Prop := BdC w v ps x a b ∧ ∀ x' a' b', BdC w v ps x' a' b' → x < x' ∨ (x = x' ∧ (a < a' ∨ (a = a' ∧ b ≤ b')))
def clC (w : MW) (v ps : Int32) : Prop := ∀ x a b, ¬ BdC w v ps x a b
/-- what may meet is told both ways -/
def MSy (w : MW) : Prop := ∀ i j : Nat, 1 ≤ i → i ≤ 14 → 1 ≤ j → j ≤ 14 → mb (w.1 22 i) j = mb (w.1 22 j) i
/-- w3 is made ready for the floods of w -/
def RDY (w w3 : MW) : Prop := (∀ c j, ¬ c = 42 → ¬ c = 44 → w3.1 c j = w.1 c j) ∧ (∀ l y, l < 15 → (S43 w3 l y ↔ SrC w l y)) ∧ (∀ l a : Nat, 1 ≤ l → l < 15 → a < 15 → (mb (w3.1 44 l) a = true ↔ RvS w3 l a))
def o57 (w3 w' : MW) : Prop := (∀ c j, ¬ c = 42 → w'.1 c j = w3.1 c j) ∧ (∀ c j, ¬ c = 45 → ¬ c = 46 → w'.2.1 c j = w3.2.1 c j) ∧ w'.2.2 = w3.2.2 ∧ w'.1 42 6 = w3.1 42 6
theorem o57_r (w : MW) : o57 w w := ⟨fun _ _ _ => rfl, fun _ _ _ _ => rfl, rfl, rfl⟩
theorem nz_43 {v : Int64} : (¬ v = 0) ↔ ∃ y, lb v y = true := by
  constructor
  · intro h
    obtain ⟨k, hk⟩ := low_ex h
    exact ⟨k, hk.2.1⟩
  · intro h z
    obtain ⟨y, hy⟩ := h
    rw [z, lb_0] at hy
    cases hy
theorem rea_s {E : Nat → Nat → Prop} {S : Nat → Prop} {x : Nat} (h : Rea E S x) : ∃ y, S y := by
  exact rs_min (T := fun _ => ∃ y, S y) (fun y hy => ⟨y, hy⟩) (fun _ _ hy _ => hy) x h
theorem rea_c {E E' : Nat → Nat → Prop} {S S' : Nat → Prop} (hE : ∀ z y, E z y ↔ E' z y) (hS : ∀ y, S y ↔ S' y) (x : Nat) : Rea E S x ↔ Rea E' S' x := ⟨rs_mono (fun y hy => rs_src ((hS y).mp hy)) (fun z y e => (hE z y).mp e) x, rs_mono (fun y hy => rs_src ((hS y).mpr hy)) (fun z y e => (hE z y).mpr e) x⟩
theorem mb_nz {x : Int32} {a : Nat} (h : mb x a = true) : ¬ x.toInt = 0 := fun z => by
  have e : x = 0 := ti_inj (by rw [z, i_0])
  rw [e, mb_z] at h
  cases h
/-- rivals by the sources -/
theorem rv_src {w w3 : MW} (r : RDY w w3) (ms : MSy w) {a b : Nat} (a0 : 1 ≤ a) (ab : a < b) (b1 : b < 15) : mb (w3.1 44 b) a = true ↔ (∃ y, SrC w a y) ∧ (∃ y, SrC w b y) ∧ mb (w.1 22 b) a = false := by
  rw [r.2.2 b a (by omega) b1 (by omega)]
  unfold RvS
  rw [nz_43, nz_43, r.1 22 b (by decide) (by decide)]
  constructor
  · intro q
    obtain ⟨_, ⟨y, hy⟩, ⟨y2, hy2⟩, q3, _⟩ := q
    exact ⟨⟨y, (r.2.1 a y (by omega)).mp hy⟩, ⟨y2, (r.2.1 b y2 b1).mp hy2⟩, q3⟩
  · intro q
    obtain ⟨⟨y, hy⟩, ⟨y2, hy2⟩, q3⟩ := q
    exact ⟨a0, ⟨y, (r.2.1 a y (by omega)).mpr hy⟩, ⟨y2, (r.2.1 b y2 b1).mpr hy2⟩, q3, by omega⟩
theorem rv_src2 {w w3 : MW} (r : RDY w w3) (ms : MSy w) {a b : Nat} (a0 : 1 ≤ a) (ab : a < b) (b1 : b < 15) (h : mb (w3.1 44 b) a = true) : mb (w3.1 44 a) b = true := by
  rw [r.2.2 b a (by omega) b1 (by omega)] at h
  rw [r.2.2 a b a0 (by omega) b1]
  unfold RvS at h ⊢
  refine ⟨by omega, h.2.2.1, h.2.1, ?_, by omega⟩
  rw [r.1 22 a (by decide) (by decide), ms a b a0 (by omega) (by omega) (by omega), ← r.1 22 b (by decide) (by decide)]
  exact h.2.2.2.1
theorem edC_c {w w' : MW} (h : ∀ c j, ¬ c = 42 → ¬ c = 44 → w'.1 c j = w.1 c j) (v ps : Int32) : EdC w' v ps = EdC w v ps := by
  have e1 : tC w' = tC w := by
    unfold tC
    rw [h 8 0 (by decide) (by decide)]
  have e2 : pC w' = pC w := by
    unfold pC
    rw [h 8 1 (by decide) (by decide)]
  have e3 : atC w' = atC w := by
    funext e
    unfold atC
    rw [h 13 e (by decide) (by decide)]
  have e4 : tkC w' = tkC w := by
    funext t
    unfold tkC
    rw [h 9 _ (by decide) (by decide)]
  have e5 : psC w' v ps = psC w v ps := by
    funext e g
    unfold psC sgC poC
    rw [e3, h 14 e (by decide) (by decide), h 14 g (by decide) (by decide), h 9 _ (by decide) (by decide), h 16 _ (by decide) (by decide)]
  unfold EdC
  rw [e1, e2, e3, e4, e5]
/-- what meet looks for is what BdC says -/
theorem bdg_c {w w3 w5 : MW} {v ps : Int32} (r : RDY w w3) (ms : MSy w) (h1 : ∀ c j, ¬ c = 42 → w5.1 c j = w3.1 c j) (h2 : ∀ j, w5.2.1 43 j = w3.2.1 43 j) (hE : ∀ z y, E46 w5 z y ↔ EdD w v ps z y) (x a b : Nat) : BdG w5 x a b ↔ BdC w v ps x a b := by
  have e44 : ∀ l, w5.1 44 l = w3.1 44 l := fun l => h1 44 l (by decide)
  have eS : ∀ l, l < 15 → ∀ y, S43 w5 l y ↔ SrC w l y := fun l hl y => by
    unfold S43
    rw [h2 l]
    exact r.2.1 l y hl
  have eR : ∀ l, l < 15 → ∀ x, Rea (E46 w5) (S43 w5 l) x ↔ FlC w v ps l x := fun l hl x => rea_c hE (eS l hl) x
  unfold BdG BdC
  constructor
  · intro q
    obtain ⟨q1, q2, q3, q4, q5, q6, q7⟩ := q
    rw [e44] at q7
    have n1 := mb_nz q7
    have n2 := mb_nz (rv_src2 r ms q2 q3 q4 q7)
    have s := (rv_src r ms q2 q3 q4).mp q7
    refine ⟨q1, q2, q3, q4, ?_, ?_, s.2.2⟩
    · rcases q5 with q5 | q5
      · exact absurd (by rw [← e44]; exact q5.1) n2
      · exact (eR a (by omega) x).mp q5.2
    · rcases q6 with q6 | q6
      · exact absurd (by rw [← e44]; exact q6.1) n1
      · exact (eR b q4 x).mp q6.2
  · intro q
    obtain ⟨q1, q2, q3, q4, q5, q6, q7⟩ := q
    have s := (rv_src r ms q2 q3 q4).mpr ⟨rea_s q5, rea_s q6, q7⟩
    have n1 := mb_nz s
    have n2 := mb_nz (rv_src2 r ms q2 q3 q4 s)
    exact ⟨q1, q2, q3, q4, Or.inr ⟨by rw [e44]; exact n2, (eR a (by omega) x).mpr q5⟩, Or.inr ⟨by rw [e44]; exact n1, (eR b q4 x).mpr q6⟩, by rw [e44]; exact s⟩
/-- what the class's plant says of its numbers -/
def PB (w : MW) : Prop := (0 ≤ tC w ∧ tC w ≤ 20) ∧ (0 ≤ pC w ∧ pC w ≤ 24) ∧ (∀ t : Nat, (t : Int) < tC w → 0 ≤ (w.1 9 t).toInt ∧ (w.1 9 t).toInt ≤ 9) ∧ (∀ t : Nat, (t : Int) < tC w → 0 ≤ (w.1 16 t).toInt ∧ (w.1 16 t).toInt ≤ 9) ∧ (∀ e : Nat, 0 ≤ (w.1 14 e).toInt ∧ (w.1 14 e).toInt ≤ 3)
theorem PX_c {w w' : MW} (h : ∀ c j, ¬ c = 42 → ¬ c = 44 → w'.1 c j = w.1 c j) (hx : PX w) : PX w' := by
  have e1 : tC w' = tC w := by
    unfold tC
    rw [h 8 0 (by decide) (by decide)]
  have e2 : pC w' = pC w := by
    unfold pC
    rw [h 8 1 (by decide) (by decide)]
  have e3 : atC w' = atC w := by
    funext e
    unfold atC
    rw [h 13 e (by decide) (by decide)]
  have e4 : tkC w' = tkC w := by
    funext t
    unfold tkC
    rw [h 9 _ (by decide) (by decide)]
  have e5 : poC w' = poC w := by
    funext e
    unfold poC
    rw [h 14 e (by decide) (by decide)]
  have e6 : ∀ j, w'.1 15 j = w.1 15 j := fun j => h 15 j (by decide) (by decide)
  unfold PX
  rw [e1, e2, e3, e4, e5]
  refine ⟨fun e he => ⟨(hx.1 e he).1, fun a b => ?_⟩, fun t j ht hj h0 => ?_⟩
  · rw [e6]
    exact (hx.1 e he).2 a b
  · rw [e6] at h0 ⊢
    exact hx.2 t j ht hj h0
theorem PB_c {w w' : MW} (h : ∀ c j, ¬ c = 42 → ¬ c = 44 → w'.1 c j = w.1 c j) (hb : PB w) : PB w' := by
  have e1 : tC w' = tC w := by
    unfold tC
    rw [h 8 0 (by decide) (by decide)]
  have e2 : pC w' = pC w := by
    unfold pC
    rw [h 8 1 (by decide) (by decide)]
  unfold PB
  rw [e1, e2]
  refine ⟨hb.1, hb.2.1, fun t ht => ?_, fun t ht => ?_, fun e => ?_⟩
  · rw [h 9 t (by decide) (by decide)]
    exact hb.2.2.1 t ht
  · rw [h 16 t (by decide) (by decide)]
    exact hb.2.2.2.1 t ht
  · rw [h 14 e (by decide) (by decide)]
    exact hb.2.2.2.2 e
theorem edC_44 {w : MW} {v ps : Int32} (hx : PX w) (hb : PB w) {z y : Nat} (h : EdC w v ps z y) : y < 44 := by
  have t1 := hb.1.2
  have p1 := hb.2.1.2
  obtain ⟨e, he, a0, ⟨_, q | q⟩ | ⟨_, _, g, hg, _, _, _, q⟩⟩ := h
  · have := (hx.1 e he).1
    omega
  · omega
  · omega
theorem srC_44 {w : MW} (hb : PB w) (h28 : ∀ k : Nat, k < 24 → 0 ≤ (w.1 28 k).toInt ∧ (w.1 28 k).toInt < 20) (h26 : (w.1 26 1).toInt ≤ 24) (hw : ∀ k i : Nat, wok w k i → wpi w k i < 24) {l y : Nat} (h : SrC w l y) : y < 44 := by
  have t1 := hb.1.2
  have p1 := hb.2.1.2
  rcases h with ⟨k, hk, _, q | ⟨i, ok, q⟩⟩ | h
  · have := h28 k (by omega)
    omega
  · have := hw k i ok
    omega
  · have := h.1
    omega
/-- link, then meet -/
theorem lm_x {w w3 w' : MW} {v ps : Int32} {Q Q' : Int32 → MW → Prop} (h : p_Sf_link w' v ps (fun w13 => p_Sf_meet w13 Q)) (r : RDY w w3) (o : o57 w3 w') (ms : MSy w) (hx : PX w) (hb : PB w) (dp : dgo ps) (s44 : ∀ l y, l < 15 → SrC w l y → y < 44) (k0 : ∀ w2, o57 w3 w2 → clC w v ps → Q 0 w2 → Q' 0 w2) (k1 : ∀ w2, o57 w3 w2 → 0 ≤ (w2.1 42 7).toInt → 0 ≤ (w2.1 42 8).toInt → 0 ≤ (w2.1 42 9).toInt → LbC w v ps (w2.1 42 7).toInt.toNat (w2.1 42 8).toInt.toNat (w2.1 42 9).toInt.toNat → Q 1 w2 → Q' 1 w2) : p_Sf_link w' v ps (fun w13 => p_Sf_meet w13 Q') := by
  have ow : ∀ c j, ¬ c = 42 → ¬ c = 44 → w'.1 c j = w.1 c j := fun c j h1 h2 => by rw [o.1 c j h1]; exact r.1 c j h1 h2
  have hx' := PX_c ow hx
  have hb' := PB_c ow hb
  refine ln_x h hx' hb'.1.1 hb'.1.2 hb'.2.1.1 hb'.2.1.2 dp hb'.2.2.1 hb'.2.2.2.1 hb'.2.2.2.2 (fun w5 o5 b5 g5 => ?_)
  have c1 : ∀ c j, ¬ c = 42 → w5.1 c j = w3.1 c j := fun c j hc => by rw [o5.1]; exact o.1 c j hc
  have c2 : ∀ j, w5.2.1 43 j = w3.2.1 43 j := fun j => by rw [o5.2.2 43 j (by decide)]; exact o.2.1 43 j (by decide) (by decide)
  have cE : ∀ z y, E46 w5 z y ↔ EdD w v ps z y := fun z y => by
    unfold E46 EdD
    constructor
    · intro q
      have q2 := (b5 z y q.1).mp q.2
      rw [edC_c ow] at q2
      exact ⟨q.1, q2⟩
    · intro q
      refine ⟨q.1, (b5 z y q.1).mpr ?_⟩
      rw [edC_c ow]
      exact q.2
  have eB := bdg_c r ms c1 c2 cE
  have co : ∀ w2, o42 w5 w2 → o57 w3 w2 := fun w2 q => ⟨fun c j hc => by rw [q.1 c j hc]; exact c1 c j hc, fun c j h1 h2 => by rw [q.2.1 c j h1, o5.2.2 c j h2]; exact o.2.1 c j h1 h2, by rw [q.2.2.1, o5.2.1]; exact o.2.2.1, by rw [q.2.2.2 6 (Or.inl (by decide)), o5.1]; exact o.2.2.2⟩
  refine mee_x g5 (fun l y _ l15 hy => ?_) (fun z y e => edC_44 hx hb ((cE z y).mp e).2) (fun w2 o2 n2 g2 => k0 w2 (co w2 o2) (fun x a b q => n2 x a b ((eB x a b).mpr q)) g2) (fun w2 o2 n7 n8 n9 b2 m2 g2 => k1 w2 (co w2 o2) n7 n8 n9 ⟨(eB _ _ _).mp b2, fun x a b q => m2 x a b ((eB x a b).mpr q)⟩ g2)
  refine s44 l y l15 ((r.2.1 l y l15).mp ?_)
  unfold S43 at hy ⊢
  rw [← c2 l]
  exact hy
/-- what kind k passes in position p -/
def PSt (k p : Int) : Int32 := (stT 1001).getD (10 * k + p).toNat 0
def kC (w : MW) (t : Nat) : Int := (w.1 9 t).toInt
def qC (w : MW) (t : Nat) : Int := (w.1 16 t).toInt
/-- the least of the ports and 4 -/
def mpt (w : MW) (t : Nat) : Int := if 4 < (w.1 11 t).toInt then 4 else (w.1 11 t).toInt
def oth (w : MW) (t p : Nat) : Int32 := if 8 ≤ kC w t then 0 else if kC w t = 4 ∧ p = 1 then 0 else if (((PSt (kC w t) p) &&& ((PSt (kC w t) (qC w t)) ^^^ ((-1) : Int32))) &&& ((stT 1002).getD (mpt w t).toNat 0)).toInt = 0 then 0 else PSt (kC w t) p
theorem op_x {w : MW} {a b : Int32} {Q Q' : Int32 → MW → Prop} (hb : PB w) (a0 : 0 ≤ a.toInt) (a1 : a.toInt < tC w) (b0 : 0 ≤ b.toInt) (b1 : b.toInt < 10) (h : p_Sf_otherPasses w a b Q) (k : ∀ r, r = oth w a.toInt.toNat b.toInt.toNat → Q r w → Q' r w) : p_Sf_otherPasses w a b Q' := by
  have k9 := hb.2.2.1 a.toInt.toNat (by omega)
  have k16 := hb.2.2.2.1 a.toInt.toNat (by omega)
  have m1 := ti_mul2 (Eq.refl (w.1 9 a.toInt.toNat).toInt) (by decide : ((10 : Int32)).toInt = 10) (by omega) (by omega)
  have i1 := ti_add2 m1 (Eq.refl (w.1 16 a.toInt.toNat).toInt) (by omega) (by omega)
  have i2 := ti_add2 m1 (Eq.refl b.toInt) (by omega) (by omega)
  have t1 : (stT 1001).getD ((((w.1 9 a.toInt.toNat) * (10 : Int32)) + (w.1 16 a.toInt.toNat)).toInt.toNat) 0 = PSt (kC w a.toInt.toNat) (qC w a.toInt.toNat) := by
    unfold PSt kC qC
    rw [i1, Int.mul_comm]
  have t2 : (stT 1001).getD ((((w.1 9 a.toInt.toNat) * (10 : Int32)) + b).toInt.toNat) 0 = PSt (kC w a.toInt.toNat) (b.toInt.toNat : Nat) := by
    unfold PSt kC
    rw [i2, Int.mul_comm, show ((b.toInt.toNat : Nat) : Int) = b.toInt by omega]
  have body : ¬ 8 ≤ kC w a.toInt.toNat → ¬ (kC w a.toInt.toNat = 4 ∧ b.toInt.toNat = 1) → q_Sf_otherPasses_31 a b (w.1 9 a.toInt.toNat) w Q → q_Sf_otherPasses_31 a b (w.1 9 a.toInt.toNat) w Q' := fun n1 n2 g => by
    rw [q_Sf_otherPasses_31.eq_1, p_Ma_min.eq_1, t1, t2] at g ⊢
    have e4 : (4 : Int32).toInt = 4 := by decide
    have fin : ∀ r10 : Int32, r10.toInt = mpt w a.toInt.toNat → ((0 ≤ r10.toInt ∧ r10.toInt < 5) ∧ ((((PSt (kC w a.toInt.toNat) (b.toInt.toNat : Nat)) &&& ((PSt (kC w a.toInt.toNat) (qC w a.toInt.toNat)) ^^^ ((-1) : Int32))) &&& ((stT 1002).getD r10.toInt.toNat 0)).toInt = 0 → (Q 0 w)) ∧ (¬ (((PSt (kC w a.toInt.toNat) (b.toInt.toNat : Nat)) &&& ((PSt (kC w a.toInt.toNat) (qC w a.toInt.toNat)) ^^^ ((-1) : Int32))) &&& ((stT 1002).getD r10.toInt.toNat 0)).toInt = 0 → (Q (PSt (kC w a.toInt.toNat) (b.toInt.toNat : Nat)) w))) → ((0 ≤ r10.toInt ∧ r10.toInt < 5) ∧ ((((PSt (kC w a.toInt.toNat) (b.toInt.toNat : Nat)) &&& ((PSt (kC w a.toInt.toNat) (qC w a.toInt.toNat)) ^^^ ((-1) : Int32))) &&& ((stT 1002).getD r10.toInt.toNat 0)).toInt = 0 → (Q' 0 w)) ∧ (¬ (((PSt (kC w a.toInt.toNat) (b.toInt.toNat : Nat)) &&& ((PSt (kC w a.toInt.toNat) (qC w a.toInt.toNat)) ^^^ ((-1) : Int32))) &&& ((stT 1002).getD r10.toInt.toNat 0)).toInt = 0 → (Q' (PSt (kC w a.toInt.toNat) (b.toInt.toNat : Nat)) w))) := fun r10 hr g => by
      refine ⟨g.1, fun z => k 0 ?_ (g.2.1 z), fun z => k _ ?_ (g.2.2 z)⟩
      · unfold oth
        rw [if_neg n1, if_neg n2, ← hr, if_pos z]
      · unfold oth
        rw [if_neg n1, if_neg n2, ← hr, if_neg z]
    refine ⟨g.1, g.2.1, g.2.2.1, g.2.2.2.1, g.2.2.2.2.1, fun c => fin 4 ?_ (g.2.2.2.2.2.1 c), fun c => fin _ ?_ (g.2.2.2.2.2.2 c)⟩
    · unfold mpt
      rw [if_pos (by omega)]
      exact e4
    · unfold mpt
      rw [if_neg (by omega)]
  rw [p_Sf_otherPasses.eq_1] at h ⊢
  refine ⟨h.1, h.2.1, fun c => k 0 ?_ (h.2.2.1 c), fun c => ⟨fun d => body c (fun z => d z.1) ((h.2.2.2 c).1 d), fun d => ⟨fun e => body c (fun z => e (by have := z.2; omega)) (((h.2.2.2 c).2 d).1 e), fun e => k 0 ?_ (((h.2.2.2 c).2 d).2 e)⟩⟩⟩
  · unfold oth kC
    rw [if_pos c]
  · unfold oth
    rw [if_neg (show ¬ 8 ≤ kC w a.toInt.toNat from c), if_pos ⟨Classical.not_not.mp d, by omega⟩]
