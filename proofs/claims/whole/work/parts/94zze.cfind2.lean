/-! the class finds: rounds, the entry, the path -/
/-- the legs are low enough -/
def UPk (z : MW) (N : Nat) (AD : Nat → Nat → Prop) (y : Int) (w : MW) (r : Int) : Prop := ∀ LL LP, LxF N (szC z) AD (BsC z y) LL LP → UpB N LL LP (leg w) r
theorem up_s {z : MW} {N : Nat} {AD : Nat → Nat → Prop} {y : Int} {w w' : MW} {r : Int} (u : UPk z N AD y w r) (ch : Int32) (sw : SWp z N AD y (leg w) N ch w') : UPk z N AD y w' (r + 1) := by
  intro LL LP lx e he hn hr
  rcases (lx.2.2.2 e he hn).2.2 with ⟨b, l1, p1⟩ | ⟨g, hg, ad, gn, l1, p1⟩
  · have := sw.1.2.2.1 e he b
    omega
  · have a := sw.2.2.1 e g (by omega) he ad
    have b := u LL LP lx g hg gn (by omega)
    omega
theorem up_all {z : MW} {N : Nat} {AD : Nat → Nat → Prop} {y : Int} {w : MW} (ba : ∀ e, e < N → BsC z y e → leg w e ≤ 32 * szC z e + 1) (fx : ∀ e g, e < N → AD e g → leg w e ≤ 32 * szC z e + 1 + leg w g) (r : Int) : UPk z N AD y w r := by
  intro LL LP lx
  have q : ∀ (n : Nat) (e : Nat), e < N → ¬ LL e = -1 → LP e = (n : Int) → leg w e ≤ 32 * LL e + LP e := by
    intro n
    induction n with
    | zero =>
      intro e he hn hp
      have := (lx.2.2.2 e he hn).2.1
      omega
    | succ n ih =>
      intro e he hn hp
      rcases (lx.2.2.2 e he hn).2.2 with ⟨b, l1, p1⟩ | ⟨g, hg, ad, gn, l1, p1⟩
      · have := ba e he b
        omega
      · have a := fx e g he ad
        have b := ih g hg gn (by omega)
        omega
  intro e he hn _
  have p := (lx.2.2.2 e he hn).2.1
  exact q (LP e).toNat e he hn (by omega)
theorem cf_101 {z : MW} {N : Nat} {AD : Nat → Nat → Prop} {y : Int} {x1 x2 x4 : Int32} {E E' : MW → Prop} {Q Q' : Int32 → MW → Prop} (hz : FZf z N AD) (eN : x4.toInt = N) (k : ∀ w, LGk z N AD y w → UPk z N AD y w N → E w → E' w) : ∀ (m : Nat) (ch r : Int32) (w : MW), q_Wa_find_101 x1 x2 x4 E Q m ch r w → 0 ≤ r.toInt → r.toInt ≤ N + 1 → LGk z N AD y w → UPk z N AD y w (r.toInt + 1) → (ch.toInt = 0 → UPk z N AD y w N) → q_Wa_find_101 x1 x2 x4 E' Q' m ch r w := by
  have n48 := fz_48 hz
  intro m
  induction m with
  | zero => exact fun _ _ _ h _ _ _ _ _ => False.elim h
  | succ m ih =>
    intro ch r w h r0 rN hL up fx
    rw [q_Wa_find_101.eq_2] at h ⊢
    refine ⟨fun c => k w hL (fx c) (h.1 c), fun c => ⟨fun d => k w hL (fun LL LP lx e he hn hp => up LL LP lx e he hn (by omega)) ((h.2 c).1 d), fun d => ?_⟩⟩
    have er := ti_add2 (Eq.refl r.toInt) i_1 (by omega) (by omega)
    refine cf_119 hz eN (l0 := leg w) (fun ch' w' sw g => ih _ _ _ g (by omega) (by omega) sw.1 (by rw [er]; exact up_s up ch' sw) (fun c0 => ?_)) _ _ _ _ ((h.2 c).2 d) (by decide) (by rw [i_0]; omega) ⟨hL, fun e he => Int.le_refl _, fun e g he => by rw [i_0] at he; omega, fun _ e he => rfl⟩
    have ee := sw.2.2.2 c0
    refine up_all sw.1.2.2.1 (fun e g he ad => ?_) N
    have a := sw.2.2.1 e g (by omega) he ad
    obtain ⟨_, _, j, hj, ca⟩ := (fz_ad hz e g he).mp ad
    rw [ee g (fz_gN hz e j g he hj ca)]
    exact a
theorem cf_19 {z : MW} {N : Nat} {AD : Nat → Nat → Prop} {x1 x2 x4 : Int32} {E E' : MW → Prop} {Q Q' : Int32 → MW → Prop} (hz : FZf z N AD) (eN : x4.toInt = N) (k : ∀ w, oF z w → (∀ e, e < N → (BsC z x2.toInt e ∧ leg w e = 32 * szC z e + 1) ∨ (¬ BsC z x2.toInt e ∧ leg w e = 536870912)) → E w → E' w) : ∀ (m : Nat) (e : Int32) (w : MW), q_Wa_find_19 x1 x2 x4 E Q m e w → 0 ≤ e.toInt → e.toInt ≤ N → oF z w → (∀ e' : Nat, (e' : Int) < e.toInt → (BsC z x2.toInt e' ∧ leg w e' = 32 * szC z e' + 1) ∨ (¬ BsC z x2.toInt e' ∧ leg w e' = 536870912)) → q_Wa_find_19 x1 x2 x4 E' Q' m e w := by
  have n48 := fz_48 hz
  intro m
  induction m with
  | zero => exact fun _ _ h _ _ _ _ => False.elim h
  | succ m ih =>
    intro e w h e0 el o inv
    have sh := nb_shr e ((1 : Int32) &&& 31) 1 2 (by decide) (by decide)
    have shn : (e >>> ((1 : Int32) &&& 31)).toInt.toNat = e.toInt.toNat / 2 := by omega
    have x1' := xo_i e0
    have exn : (e ^^^ (1 : Int32)).toInt.toNat = xo e.toInt.toNat := by omega
    rw [q_Wa_find_19.eq_2] at h ⊢
    refine ⟨fun c => k w o (fun e' he' => inv e' (by omega)) (h.1 c), fun c => ?_⟩
    have H := h.2 c
    have ee := ti_add2 (Eq.refl e.toInt) i_1 (by omega) (by omega)
    have eN' : e.toInt.toNat < N := by omega
    have s := fz_sz hz _ eN'
    have t36 : w.1 36 ((e >>> ((1 : Int32) &&& 31)).toInt.toNat) = z.1 36 (e.toInt.toNat / 2) := by
      rw [shn, oF_1 o (by decide) (by decide) (by decide)]
    have t13 : w.1 13 ((e ^^^ (1 : Int32)).toInt.toNat) = z.1 13 (xo e.toInt.toNat) := by
      rw [exn, oF_1 o (by decide) (by decide) (by decide)]
    have fin : ∀ v : Int32, ((BsC z x2.toInt e.toInt.toNat ∧ v.toInt = 32 * szC z e.toInt.toNat + 1) ∨ (¬ BsC z x2.toInt e.toInt.toNat ∧ v.toInt = 536870912)) → q_Wa_find_19 x1 x2 x4 E Q m (e + (1 : Int32)) (sI w 38 e.toInt.toNat v) → q_Wa_find_19 x1 x2 x4 E' Q' m (e + (1 : Int32)) (sI w 38 e.toInt.toNat v) := fun v hv g => by
      refine ih _ _ g (by omega) (by omega) (oF_38 o _ _) (fun e' he' => ?_)
      rw [lg_i]
      by_cases q : e' = e.toInt.toNat
      · rw [if_pos q, q]
        exact hv
      · rw [if_neg q]
        exact inv e' (by omega)
    have noB : ¬ BsC z x2.toInt e.toInt.toNat → q_Wa_find_56 x1 x2 x4 e 0 w (fun (x19_5 : Int32) (w : MW) => q_Wa_find_19 x1 x2 x4 E Q m x19_5 w) E Q → q_Wa_find_56 x1 x2 x4 e 0 w (fun (x19_5 : Int32) (w : MW) => q_Wa_find_19 x1 x2 x4 E' Q' m x19_5 w) E' Q' := fun nb g => by
      rw [q_Wa_find_56.eq_1] at g ⊢
      exact ⟨fun _ => ⟨(g.1 i_0).1, fin _ (Or.inr ⟨nb, by decide⟩) (g.1 i_0).2⟩, fun z2 => absurd i_0 z2⟩
    rw [t36, t13] at H ⊢
    refine ⟨H.1, fun d => noB (fun b => d b.1) (H.2.1 d), fun d => ⟨(H.2.2 d).1, fun d2 => noB (fun b => d2 b.2) ((H.2.2 d).2.1 d2), fun d2 => ?_⟩⟩
    have G := (H.2.2 d).2.2 d2
    have n1 : ¬ (1 : Int32).toInt = 0 := by decide
    rw [q_Wa_find_56.eq_1] at G ⊢
    have G1 := G.2 n1
    have e12 : (w.1 12 ((e >>> ((1 : Int32) &&& 31)).toInt.toNat)).toInt = szC z e.toInt.toNat := by
      unfold szC
      rw [shn, oF_1 o (by decide) (by decide) (by decide)]
    have c1 := ti_mul2 e12 (by decide : ((32 : Int32)).toInt = 32) (by omega) (by omega)
    have c2 := ti_add2 c1 i_1 (by omega) (by omega)
    exact ⟨fun z2 => absurd z2 n1, fun _ => ⟨G1.1, G1.2.1, fin _ (Or.inl ⟨⟨Classical.not_not.mp d, Classical.not_not.mp d2⟩, by omega⟩) G1.2.2⟩⟩
/-- the cheapest entry -/
def CeS (w : MW) (N : Nat) (x : Int) (r : Int32) : Prop := (r = -1 ∧ ∀ e, e < N → atC w e = x → 536870912 ≤ leg w e) ∨ (0 ≤ r.toInt ∧ r.toInt < N ∧ atC w r.toInt.toNat = x ∧ leg w r.toInt.toNat < 536870912 ∧ ∀ e, e < N → atC w e = x → leg w r.toInt.toNat < leg w e ∨ (leg w r.toInt.toNat = leg w e ∧ r.toInt.toNat ≤ e))
theorem ce_8 {w : MW} {N : Nat} {x : Int32} {E E' : Int32 → MW → Prop} {Q Q' : Int32 → MW → Prop} (n2 : ((2 : Int32) * (w.1 8 1)).toInt = N) (n48 : N ≤ 48) (k : ∀ r, CeS w N x.toInt r → E r w → E' r w) : ∀ (m : Nat) (b l e : Int32), q_Wa_cheapestEntry_8 x E Q m b l e w → 0 ≤ e.toInt → e.toInt ≤ N → ((b = -1 ∧ l.toInt = 536870912 ∧ ∀ e' : Nat, (e' : Int) < e.toInt → atC w e' = x.toInt → 536870912 ≤ leg w e') ∨ (0 ≤ b.toInt ∧ b.toInt < e.toInt ∧ atC w b.toInt.toNat = x.toInt ∧ l.toInt = leg w b.toInt.toNat ∧ leg w b.toInt.toNat < 536870912 ∧ ∀ e' : Nat, (e' : Int) < e.toInt → atC w e' = x.toInt → leg w b.toInt.toNat < leg w e' ∨ (leg w b.toInt.toNat = leg w e' ∧ b.toInt.toNat ≤ e'))) → q_Wa_cheapestEntry_8 x E' Q' m b l e w := by
  intro m
  induction m with
  | zero => exact fun _ _ _ h _ _ _ => False.elim h
  | succ m ih =>
    intro b l e h e0 el st
    rw [q_Wa_cheapestEntry_8.eq_2] at h ⊢
    refine ⟨h.1, fun c => k b ?_ (h.2.1 c), fun c => ?_⟩
    · rcases st with ⟨s1, s2, s3⟩ | ⟨s1, s2, s3, s4, s5, s6⟩
      · exact Or.inl ⟨s1, fun e' he' => s3 e' (by omega)⟩
      · exact Or.inr ⟨s1, by omega, s3, s5, fun e' he' => s6 e' (by omega)⟩
    · have H := h.2.2 c
      have ee := ti_add2 (Eq.refl e.toInt) i_1 (by omega) (by omega)
      have skip : (¬ atC w e.toInt.toNat = x.toInt ∨ l.toInt ≤ leg w e.toInt.toNat) → q_Wa_cheapestEntry_8 x E Q m b l (e + (1 : Int32)) w → q_Wa_cheapestEntry_8 x E' Q' m b l (e + (1 : Int32)) w := fun nn g => by
        refine ih _ _ _ g (by omega) (by omega) ?_
        rcases st with ⟨s1, s2, s3⟩ | ⟨s1, s2, s3, s4, s5, s6⟩
        · refine Or.inl ⟨s1, s2, fun e' he' ea => ?_⟩
          by_cases q : (e' : Int) = e.toInt
          · rw [show e' = e.toInt.toNat by omega] at ea ⊢
            rcases nn with nn | nn
            · exact absurd ea nn
            · omega
          · exact s3 e' (by omega) ea
        · refine Or.inr ⟨s1, by omega, s3, s4, s5, fun e' he' ea => ?_⟩
          by_cases q : (e' : Int) = e.toInt
          · rw [show e' = e.toInt.toNat by omega] at ea ⊢
            rcases nn with nn | nn
            · exact absurd ea nn
            · omega
          · exact s6 e' (by omega) ea
      refine ⟨H.1, H.2.1, fun d => skip (Or.inl d) (H.2.2.1 d), fun d => ⟨(H.2.2.2 d).1, fun d2 => skip (Or.inr d2) ((H.2.2.2 d).2.1 d2), fun d2 => ⟨((H.2.2.2 d).2.2 d2).1, ih _ _ _ ((H.2.2.2 d).2.2 d2).2 (by omega) (by omega) ?_⟩⟩⟩
      have ea : atC w e.toInt.toNat = x.toInt := Classical.not_not.mp d
      have ll : leg w e.toInt.toNat < l.toInt := by
        unfold leg
        omega
      refine Or.inr ⟨e0, by omega, ea, rfl, ?_, fun e' he' ea' => ?_⟩
      · rcases st with s | s
        · have := s.2.1
          omega
        · have := s.2.2.2.1
          have := s.2.2.2.2.1
          omega
      · by_cases q : (e' : Int) = e.toInt
        · rw [show e' = e.toInt.toNat by omega]
          exact Or.inr ⟨rfl, Nat.le_refl _⟩
        · rcases st with s | s
          · have := s.2.2 e' (by omega) ea'
            have := s.2.1
            exact Or.inl (by omega)
          · have := s.2.2.2.2.2 e' (by omega) ea'
            have := s.2.2.2.1
            exact Or.inl (by omega)
theorem ce_x {w : MW} {N : Nat} {x : Int32} {Q Q' : Int32 → MW → Prop} (h : p_Wa_cheapestEntry w x Q) (n2 : ((2 : Int32) * (w.1 8 1)).toInt = N) (n48 : N ≤ 48) (k : ∀ r, CeS w N x.toInt r → Q r w → Q' r w) : p_Wa_cheapestEntry w x Q' := by
  rw [p_Wa_cheapestEntry.eq_1] at h ⊢
  exact ce_8 n2 n48 k _ _ _ _ h (by decide) (by rw [i_0]; omega) (Or.inl ⟨rfl, by decide, fun e' he' => by rw [i_0] at he'; omega⟩)
/-! the way that is due -/
/-- the ends that are entered, from e on -/
def Pth (N : Nat) (sz : Nat → Int) (AD : Nat → Nat → Prop) (LL LP : Nat → Int) : Nat → Nat → List Nat → Prop
  | 0, _, _ => False
  | n + 1, e, es => (LL e = sz e ∧ es = [e]) ∨ (¬ LL e = sz e ∧ ∃ g rest, g < N ∧ LL g = LL e - sz e ∧ LP g = LP e - 1 ∧ AD e g ∧ (∀ g', g' < g → LL g' = LL e - sz e → LP g' = LP e - 1 → ¬ AD e g') ∧ es = e :: rest ∧ Pth N sz AD LL LP n g rest)
/-- the end where it begins -/
def Pst (N : Nat) (at' : Nat → Int) (LL LP : Nat → Int) (x : Int) (e : Nat) : Prop := e < N ∧ at' e = x ∧ ¬ LL e = -1 ∧ ∀ g, g < N → at' g = x → ¬ LL g = -1 → LL e < LL g ∨ (LL e = LL g ∧ (LP e < LP g ∨ (LP e = LP g ∧ e ≤ g)))
/-- what is written of the path so far, and where it goes on -/
def PtI (z : MW) (N : Nat) (AD : Nat → Nat → Prop) (x y : Int) (en : Int32) (w : MW) : Prop := ∀ LL LP, LxF N (szC z) AD (BsC z y) LL LP → (∀ e, e < N → LL e ≤ 9600) → ∀ (e0 m0 : Nat) (es : List Nat), Pst N (atC z) LL LP x e0 → LP e0 ≤ 24 → Pth N (szC z) AD LL LP m0 e0 es → ∃ rest : List Nat, (es.length : Int) = (w.1 26 15).toInt + rest.length ∧ (∀ (i v : Nat), (i : Int) < (w.1 26 15).toInt → es[i]? = some v → w.1 39 i = nI (xo v)) ∧ (∀ i : Nat, es[(w.1 26 15).toInt.toNat + i]? = rest[i]?) ∧ ((rest = [] ∧ en.toInt < 0) ∨ (0 ≤ en.toInt ∧ en.toInt < N ∧ ¬ LL en.toInt.toNat = -1 ∧ LP en.toInt.toNat + (w.1 26 15).toInt ≤ 24 ∧ ∃ m, Pth N (szC z) AD LL LP m en.toInt.toNat rest))
/-- without a beginning there is no path -/
def PtN (z : MW) (N : Nat) (AD : Nat → Nat → Prop) (x y : Int) (en : Int32) (w : MW) : Prop := ∀ LL LP, LxF N (szC z) AD (BsC z y) LL LP → (∀ e, e < N → atC z e = x → LL e = -1) → (w.1 26 15).toInt = 0 ∧ en.toInt < 0
theorem lst_s {es rest : List Nat} {n : Nat} {e : Nat} (h : ∀ i : Nat, es[n + i]? = (e :: rest)[i]?) : es[n]? = some e ∧ ∀ i : Nat, es[n + 1 + i]? = rest[i]? := by
  refine ⟨h 0, fun i => ?_⟩
  have q := h (i + 1)
  rw [show n + (i + 1) = n + 1 + i by omega] at q
  rw [q]
  rfl
theorem cf_234 {z : MW} {N : Nat} {AD : Nat → Nat → Prop} {x : Int} {y : Int32} {E E' : MW → Prop} {Q Q' : Int32 → MW → Prop} (hz : FZf z N AD) (k : ∀ w, oF z w → (∀ en : Int32, en.toInt < 0 → PtI z N AD x y.toInt en w → PtN z N AD x y.toInt en w → E w → E' w)) : ∀ (m : Nat) (en : Int32) (w : MW), q_Wa_find_234 y E Q m en w → LGk z N AD y.toInt w → UPk z N AD y.toInt w N → (en.toInt < 0 ∨ en.toInt < N) → 0 ≤ (w.1 26 15).toInt → PtI z N AD x y.toInt en w → PtN z N AD x y.toInt en w → q_Wa_find_234 y E' Q' m en w := by
  have n48 := fz_48 hz
  intro m
  induction m with
  | zero => exact fun _ _ h _ _ _ _ _ _ => False.elim h
  | succ m ih =>
    intro en w h hL up eN n0 pi pn
    have o := hL.1
    rw [q_Wa_find_234.eq_2] at h ⊢
    refine ⟨fun c => k w o en c pi pn (h.1 c), fun c => ⟨fun d => ?_, fun d => ?_⟩⟩
    · refine k w o (-1) (by decide) (fun LL LP lx hl e0 m0 es ps l24 pth => ?_) (fun LL LP lx no => ?_) ((h.2 c).1 d)
      · obtain ⟨rest, r1, r2, r3, r4⟩ := pi LL LP lx hl e0 m0 es ps l24 pth
        rcases r4 with r4 | ⟨p0, pN, ln, l2, _⟩
        · exact absurd r4.2 c
        · have := (lx.2.2.2 en.toInt.toNat (by omega) ln).2.1
          omega
      · exact absurd (pn LL LP lx no).2 c
    · have H := (h.2 c).2 d
      have e0 : 0 ≤ en.toInt := by omega
      have enN : en.toInt.toNat < N := by omega
      have x1' := xo_i e0
      have exn : (en ^^^ (1 : Int32)).toInt.toNat = xo en.toInt.toNat := by omega
      have out : en ^^^ (1 : Int32) = nI (xo en.toInt.toNat) := by
        rw [← exn, nI_tn (by omega)]
      have sn := ti_add2 (Eq.refl (w.1 26 15).toInt) i_1 (by omega) (by omega)
      have xN : xo en.toInt.toNat < N := by
        have := fz_n2 hz
        have := xo_lt (e := en.toInt.toNat) (N := (pC z).toNat) (by omega)
        omega
      have o2 : oF z (sI (sI w 39 ((w.1 26 15).toInt.toNat) (en ^^^ (1 : Int32))) 26 15 ((w.1 26 15) + (1 : Int32))) := oF_26 (oF_39 o _ _) _
      have w26 : ((sI (sI w 39 ((w.1 26 15).toInt.toNat) (en ^^^ (1 : Int32))) 26 15 ((w.1 26 15) + (1 : Int32))).1 26 15).toInt = (w.1 26 15).toInt + 1 := by
        rw [sI_same]
        exact sn
      have w39 : ∀ i, (sI (sI w 39 ((w.1 26 15).toInt.toNat) (en ^^^ (1 : Int32))) 26 15 ((w.1 26 15) + (1 : Int32))).1 39 i = if i = (w.1 26 15).toInt.toNat then en ^^^ (1 : Int32) else w.1 39 i := fun i => by
        rw [sI_oth _ _ _ _ _ _ (by decide), sI_if]
      have wl : leg (sI (sI w 39 ((w.1 26 15).toInt.toNat) (en ^^^ (1 : Int32))) 26 15 ((w.1 26 15) + (1 : Int32))) = leg w := by
        funext j
        unfold leg
        rw [sI_oth _ _ _ _ _ _ (by decide), sI_oth _ _ _ _ _ _ (by decide)]
      have t13 : w.1 13 ((en ^^^ (1 : Int32)).toInt.toNat) = z.1 13 (xo en.toInt.toNat) := by
        rw [exn, oF_1 o (by decide) (by decide) (by decide)]
      rw [t13] at H ⊢
      generalize (sI (sI w 39 ((w.1 26 15).toInt.toNat) (en ^^^ (1 : Int32))) 26 15 ((w.1 26 15) + (1 : Int32))) = w2 at *
      have hL2 : LGk z N AD y.toInt w2 := by
        refine ⟨o2, ?_, ?_, ?_⟩
        · rw [wl]
          exact hL.2.1
        · rw [wl]
          exact hL.2.2.1
        · rw [wl]
          exact hL.2.2.2
      have up2 : UPk z N AD y.toInt w2 N := by
        unfold UPk
        rw [wl]
        exact up
      have none2 : ∀ en' : Int32, PtN z N AD x y.toInt en' w2 := fun en' LL LP lx no => absurd (pn LL LP lx no).2 c
      refine ⟨H.1, H.2.1, fun d2 => ?_, fun d2 => ih _ _ (H.2.2.2 d2) hL2 up2 (Or.inl (by decide)) (by omega) (fun LL LP lx hl e0' m0 es ps l24 pth => ?_) (none2 _)⟩
      · have a13 : atC w2 (xo en.toInt.toNat) = atC z (xo en.toInt.toNat) := by
          unfold atC
          rw [oF_1 o2 (by decide) (by decide) (by decide)]
        have akd : ∀ t, kC w2 t = kC z t := fun t => by
          unfold kC
          rw [oF_1 o2 (by decide) (by decide) (by decide)]
        refine ow_x (H.2.2.1 d2) (by omega) (by rw [exn, a13]; exact fz_at hz _ xN) (fun a0 => by rw [exn, a13, akd]; exact fz_kd hz _ xN (by rw [← a13, ← exn]; exact a0)) (by rw [exn, oF_1 o2 (by decide) (by decide) (by decide)]; exact fz_po hz _) (fun r os g => ?_)
        rw [exn] at os
        have rN : r.toInt < 0 ∨ r.toInt < N := by
          rcases os with os | ⟨r0, _, j, hj, ca, _⟩
          · exact Or.inl (by rw [os.1]; decide)
          · have := fz_gN hz _ j _ enN hj ((CAj_c o2 _ _ _).mp ca)
            exact Or.inr (by omega)
        refine ih _ _ g hL2 up2 rN (by omega) (fun LL LP lx hl e0' m0 es ps l24 pth => ?_) (none2 _)
        obtain ⟨rest, r1, r2, r3, r4⟩ := pi LL LP lx hl e0' m0 es ps l24 pth
        rcases r4 with r4 | ⟨p0, pN, ln, l2, mm, pr⟩
        · exact absurd r4.2 c
        have at1 := lx.2.2.2 en.toInt.toNat enN ln
        have lpN := lx_le lx enN ln
        have ul := up LL LP lx en.toInt.toNat enN ln lpN
        have fE := (hL.2.1 _ enN).2.2 (by have := hl _ enN; omega)
        have s1 := fz_sz hz _ enN
        cases mm with
        | zero => exact False.elim pr
        | succ mm =>
          rcases pr with ⟨q1, q2⟩ | ⟨q1, g', rest', gN, gl, gp, ad, gm, q2, q3⟩
          · rcases at1.2.2 with ⟨b, _⟩ | ⟨g2, hg2, _, gn2, gl2, _⟩
            · exact absurd b.1 d2
            · have := (lx.2.2.2 g2 hg2 gn2).1
              omega
          · have lge : 1 ≤ LL en.toInt.toNat - szC z en.toInt.toNat := by
              rcases at1.2.2 with ⟨_, b, _⟩ | ⟨g2, hg2, _, gn2, gl2, _⟩
              · exact absurd b q1
              · have := (lx.2.2.2 g2 hg2 gn2).1
                omega
            have gn : ¬ LL g' = -1 := by omega
            have leqg : leg w g' = 32 * LL g' + LP g' := lg_eq (hL.2.2.2 LL LP lx) (up LL LP lx) gN gn (lx_le lx gN gn) (by omega) (by have := hl g' gN; omega)
            obtain ⟨_, _, jg, hjg, cag⟩ := (fz_ad hz _ g' enN).mp ad
            have cag2 := (CAj_c o2 _ _ _).mpr cag
            have hg9 := hl g' gN
            rcases os with ⟨_, no⟩ | ⟨r0, lr, j, hj, ca, mn⟩
            · have := no jg g' hjg cag2
              rw [wl] at this
              omega
            · rw [wl] at lr mn
              have caz := (CAj_c o2 _ _ _).mp ca
              have rN' := fz_gN hz _ j _ enN hj caz
              have frR := (hL.2.1 _ rN').2.2 lr
              have adr : AD en.toInt.toNat r.toInt.toNat := (fz_ad hz _ _ enN).mpr ⟨fE, frR, j, hj, caz⟩
              have lm := lg_min lx (hL.2.2.2 LL LP lx) enN rN' adr lr (by omega)
              have mg := mn jg g' hjg cag2
              have eqv : leg w r.toInt.toNat = leg w g' ∧ j ≤ jg := by
                rcases mg with mg | mg
                · have := lm.1
                  omega
                · exact mg
              have lr2 := lm.2 (by omega)
              have r1' : r.toInt.toNat ≤ g' := fz_mo hz _ j _ jg _ enN hj hjg caz cag eqv.2
              have r2' : g' ≤ r.toInt.toNat := by
                by_cases z2 : r.toInt.toNat < g'
                · exact absurd adr (gm _ z2 lr2.1 lr2.2)
                · omega
              have re : r.toInt.toNat = g' := by omega
              rw [q2] at r1 r3
              have ls := lst_s r3
              refine ⟨rest', ?_, fun i v hi hv => ?_, fun i => ?_, Or.inr ⟨r0, by omega, by rw [re]; exact gn, by rw [re]; omega, mm, by rw [re]; exact q3⟩⟩
              · rw [w26]
                have : ((en.toInt.toNat :: rest').length : Int) = rest'.length + 1 := by simp
                omega
              · rw [w39]
                by_cases z2 : i = (w.1 26 15).toInt.toNat
                · rw [if_pos z2]
                  rw [z2, ls.1] at hv
                  have := Option.some.inj hv
                  rw [← this]
                  exact out
                · rw [if_neg z2]
                  exact r2 i v (by omega) hv
              · rw [show (w2.1 26 15).toInt.toNat = (w.1 26 15).toInt.toNat + 1 by omega]
                exact ls.2 i
      · obtain ⟨rest, r1, r2, r3, r4⟩ := pi LL LP lx hl e0' m0 es ps l24 pth
        have d2' := Classical.not_not.mp d2
        rcases r4 with r4 | ⟨p0, pN, ln, l2, mm, pr⟩
        · exact absurd r4.2 c
        have at1 := lx.2.2.2 en.toInt.toNat enN ln
        have lpN := lx_le lx enN ln
        have ul := up LL LP lx en.toInt.toNat enN ln lpN
        have fE := (hL.2.1 _ enN).2.2 (by have := hl _ enN; omega)
        have bs := (lx.2.1 en.toInt.toNat enN ⟨d2', fE⟩).2
        cases mm with
        | zero => exact False.elim pr
        | succ mm =>
          rcases pr with ⟨q1, q2⟩ | ⟨q1, _⟩
          · rw [q2] at r1 r3
            have ls := lst_s r3
            refine ⟨[], ?_, fun i v hi hv => ?_, fun i => ?_, Or.inl ⟨rfl, by decide⟩⟩
            · rw [w26]
              have : (([en.toInt.toNat] : List Nat).length : Int) = 1 := rfl
              have : (([] : List Nat).length : Int) = 0 := rfl
              omega
            · rw [w39]
              by_cases z2 : i = (w.1 26 15).toInt.toNat
              · rw [if_pos z2]
                rw [z2, ls.1] at hv
                have := Option.some.inj hv
                rw [← this]
                exact out
              · rw [if_neg z2]
                exact r2 i v (by omega) hv
            · rw [show (w2.1 26 15).toInt.toNat = (w.1 26 15).toInt.toNat + 1 by omega]
              exact ls.2 i
          · rcases at1.2.2 with ⟨_, b, _⟩ | ⟨g2, hg2, _, gn2, gl2, _⟩
            · exact absurd b q1
            · have := (lx.2.2.2 g2 hg2 gn2).1
              omega
/-- what find has found -/
def FnC (z : MW) (N : Nat) (AD : Nat → Nat → Prop) (x y : Int) (w : MW) : Prop := ∀ LL LP, LxF N (szC z) AD (BsC z y) LL LP → (∀ e, e < N → LL e ≤ 9600) → (∀ (e0 m0 : Nat) (es : List Nat), Pst N (atC z) LL LP x e0 → LP e0 ≤ 24 → Pth N (szC z) AD LL LP m0 e0 es → (es.length : Int) = (w.1 26 15).toInt ∧ ∀ (i v : Nat), es[i]? = some v → w.1 39 i = nI (xo v)) ∧ ((∀ e, e < N → atC z e = x → LL e = -1) → (w.1 26 15).toInt = 0)
theorem cfd_x {z : MW} {N : Nat} {AD : Nat → Nat → Prop} {x y : Int32} {Q Q' : Int32 → MW → Prop} (h : p_Wa_find z x y Q) (hz : FZf z N AD) (k : ∀ r w, oF z w → FnC z N AD x.toInt y.toInt w → (r = 0 ∧ (w.1 26 15).toInt ≤ 0 ∨ r = 1 ∧ 0 < (w.1 26 15).toInt) → Q r w → Q' r w) : p_Wa_find z x y Q' := by
  have n48 := fz_48 hz
  have n2 := fz_n2 hz
  have eN : ((2 : Int32) * (z.1 8 1)).toInt = N := by
    rw [n2]
    exact ti_mul2 (by decide) rfl (by omega) (by omega)
  rw [p_Wa_find.eq_1] at h ⊢
  refine ⟨h.1, cf_19 hz eN (fun w1 o1 ini g1 => ?_) _ _ _ h.2 (by decide) (by rw [i_0]; omega) (oF_r z) (fun e' he' => by rw [i_0] at he'; omega)⟩
  have L1 : LGk z N AD y.toInt w1 := by
    refine ⟨o1, fun e he => ?_, fun e he b => ?_, fun LL LP lx e he l => ?_⟩
    · have s := fz_sz hz e he
      rcases ini e he with q | q
      · exact ⟨by omega, by omega, fun _ => q.1.2⟩
      · exact ⟨by omega, by omega, fun _ => by omega⟩
    · rcases ini e he with q | q
      · omega
      · exact absurd b q.1
    · rcases ini e he with q | q
      · rw [q.2]
        exact lw_base lx he q.1
      · omega
  have U1 : UPk z N AD y.toInt w1 ((0 : Int32).toInt + 1) := by
    intro LL LP lx e he hn hp
    rw [i_0] at hp
    rcases (lx.2.2.2 e he hn).2.2 with ⟨b, l1, p1⟩ | ⟨g, hg, _, gn, _, p1⟩
    · rcases ini e he with q | q
      · omega
      · exact absurd b q.1
    · have := (lx.2.2.2 g hg gn).2.1
      omega
  refine cf_101 hz eN (fun w2 L2 U2 g2 => ?_) _ _ _ _ g1 (by decide) (by rw [i_0]; omega) L1 U1 (fun q => absurd q (by decide))
  have o2 := L2.1
  have e81 : w2.1 8 1 = z.1 8 1 := oF_1 o2 (by decide) (by decide) (by decide) 1
  refine ce_x g2 (by rw [e81]; exact eN) n48 (fun r cs g3 => ?_)
  have aw : ∀ e, atC w2 e = atC z e := fun e => by
    unfold atC
    rw [oF_1 o2 (by decide) (by decide) (by decide)]
  have o3 : oF z (sI w2 26 15 0) := oF_26 o2 _
  have wl : leg (sI w2 26 15 0) = leg w2 := by
    funext j
    unfold leg
    rw [sI_oth _ _ _ _ _ _ (by decide)]
  have w26 : ((sI w2 26 15 0).1 26 15).toInt = 0 := by
    rw [sI_same]
    exact i_0
  refine cf_234 (x := x.toInt) hz (fun w o en ec pi pn g4 => ?_) _ _ _ g3 ⟨o3, by rw [wl]; exact L2.2.1, by rw [wl]; exact L2.2.2.1, by rw [wl]; exact L2.2.2.2⟩ (by unfold UPk; rw [wl]; exact U2) ?_ (by omega) (fun LL LP lx hl e0 m0 es ps l24 pth => ?_) (fun LL LP lx no => ⟨w26, ?_⟩)
  · have fc : FnC z N AD x.toInt y.toInt w := fun LL LP lx hl => ⟨fun e0 m0 es ps l24 pth => by
      obtain ⟨rest, r1, r2, r3, r4⟩ := pi LL LP lx hl e0 m0 es ps l24 pth
      rcases r4 with r4 | r4
      · rw [r4.1] at r1
        have z0 : (([] : List Nat).length : Int) = 0 := rfl
        refine ⟨by omega, fun i v hv => r2 i v ?_ hv⟩
        have := (List.getElem?_eq_some_iff.mp hv).1
        omega
      · have := r4.1
        omega, fun no => (pn LL LP lx no).1⟩
    exact ⟨fun c => k 0 w o fc (Or.inl ⟨rfl, c⟩) (g4.1 c), fun c => k 1 w o fc (Or.inr ⟨rfl, by omega⟩) (g4.2 c)⟩
  · rcases cs with cs | cs
    · exact Or.inl (by rw [cs.1]; decide)
    · exact Or.inr cs.2.1
  · have lp := lx_le lx ps.1 ps.2.2.1
    have hl0 := hl e0 ps.1
    have lq : leg w2 e0 = 32 * LL e0 + LP e0 := lg_eq (L2.2.2.2 LL LP lx) (U2 LL LP lx) ps.1 ps.2.2.1 lp (by omega) (by omega)
    have re : 0 ≤ r.toInt ∧ r.toInt < N ∧ r.toInt.toNat = e0 := by
      rcases cs with ⟨_, no⟩ | ⟨r0, rN, ra, lr, mn⟩
      · have := no e0 ps.1 (by rw [aw]; exact ps.2.1)
        omega
      · rw [aw] at ra
        have m1 := mn e0 ps.1 (by rw [aw]; exact ps.2.1)
        obtain ⟨L, P, q1, q2, q3, q4⟩ := L2.2.2.2 LL LP lx r.toInt.toNat (by omega) lr
        have m2 := ps.2.2.2 r.toInt.toNat (by omega) ra q3
        refine ⟨r0, rN, ?_⟩
        rcases m1 with m1 | m1 <;> rcases m2 with m2 | ⟨m2, m3 | m3⟩ <;> rcases q4 with q4 | q4 <;> omega
    refine ⟨es, by rw [w26]; omega, fun i v hi => by rw [w26] at hi; omega, fun i => by rw [w26]; rw [show (0 : Int).toNat + i = i by omega], Or.inr ⟨re.1, re.2.1, by rw [re.2.2]; exact ps.2.2.1, by rw [re.2.2, w26]; omega, m0, by rw [re.2.2]; exact pth⟩⟩
  · rcases cs with cs | ⟨r0, rN, ra, lr, _⟩
    · rw [cs.1]
      decide
    · rw [aw] at ra
      obtain ⟨L, P, q1, q2, q3, q4⟩ := L2.2.2.2 LL LP lx r.toInt.toNat (by omega) lr
      exact absurd (no r.toInt.toNat (by omega) ra) q3
