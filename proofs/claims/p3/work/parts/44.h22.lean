def l_Wa_onward_132 : Pl := []
def l_Wa_onward_25 : Pl := []
def l_Wa_onward : Pl := []
theorem on_132 {w : MW} {o t b l p e nd f : Int32} {A : Int32 → Int32 → Int32 → MW → Prop} {E Q : Int32 → MW → Prop} (he : 0 ≤ e.toInt ∧ e.toInt < 48) (h0 : A b l (p + (1 : Int32)) w) (h1 : 0 ≤ nd.toInt → A e (w.1 38 e.toInt.toNat) (p + (1 : Int32)) w) : q_Wa_onward_132 o t b l p e nd f w A E Q := Eq.mpr (q_Wa_onward_132.eq_1 _ _ _ _ _ _ _ _ _ _ _ _) ⟨fun _ => h0, fun c => ⟨fun _ => h0, fun _ => ⟨he, h1 (by omega)⟩⟩⟩
theorem on_25 {w : MW} {o t : Int32} {E Q : Int32 → MW → Prop} (hI : BND w) (hPE : PE w) (hPJ : PJ w) (ho0 : 0 ≤ o.toInt) (ho1 : o.toInt < 48) (ht : t = w.1 13 o.toInt.toNat) (ht1 : t.toInt < (w.1 8 0).toInt) (hE : ∀ r : Int32, ON w o r → E r w) (n : Nat) : ∀ (b l p : Int32), ON w o b → l.toInt ≤ 536870912 → 0 ≤ p.toInt → p.toInt ≤ 4 → (4 - p.toInt).toNat < n → q_Wa_onward_25 o t E Q n b l p w := by
  induction n with
  | zero => intros; omega
  | succ n ih =>
    intro b l p hb hl p0 p1 hm
    rw [q_Wa_onward_25.eq_2]
    have b8 := bd_8_0 hI
    refine ⟨fun _ => hE b hb, fun c => ⟨fun _ => hE b hb, fun c1 => ?_⟩⟩
    have m1 := ti_mul2 (Eq.refl t.toInt) (by decide : ((4 : Int32)).toInt = 4) (by omega) (by omega)
    have m2 := ti_add2 m1 (Eq.refl p.toInt) (by omega) (by omega)
    have p2 := ti_add2 (Eq.refl p.toInt) (by decide : ((1 : Int32)).toInt = 1) (by omega) (by omega)
    have keep : q_Wa_onward_25 o t E Q n b l (p + (1 : Int32)) w := ih b l _ hb hl (by omega) (by omega) (by omega)
    have b15 := bd_15 hI ((t * (4 : Int32)) + p).toInt.toNat
    have hx : 0 ≤ ((t * (4 : Int32)) + p).toInt ∧ ((t * (4 : Int32)) + p).toInt < 80 := by omega
    have hpe := hPE ((t * (4 : Int32)) + p) hx.1 (by omega)
    have hpj := hPJ ((t * (4 : Int32)) + p) hx.1 (by omega)
    generalize hent : w.1 15 (((t * (4 : Int32)) + p).toInt.toNat) = e at *
    refine ⟨hx, fun _ => keep, fun c2 => ⟨⟨by omega, by omega⟩, fun _ => keep, fun c3 => ?_⟩⟩
    have b9 := bd_9 hI t.toInt.toNat
    have b14 := bd_14 hI o.toInt.toNat
    have n1 := ti_mul2 (Eq.refl (w.1 9 t.toInt.toNat).toInt) (by decide : ((16 : Int32)).toInt = 16) (by omega) (by omega)
    have n2 := ti_mul2 (Eq.refl (w.1 14 o.toInt.toNat).toInt) (by decide : ((4 : Int32)).toInt = 4) (by omega) (by omega)
    have n3 := ti_add2 n1 n2 (by omega) (by omega)
    have n4 := ti_add2 n3 (Eq.refl p.toInt) (by omega) (by omega)
    have hxt : 0 ≤ t.toInt ∧ t.toInt < 20 := by omega
    have he : 0 ≤ e.toInt ∧ e.toInt < 48 := by omega
    have go : ∀ f : Int32, q_Wa_onward_132 o t b l p e (w.1 41 (((((w.1 9 t.toInt.toNat) * (16 : Int32)) + ((w.1 14 o.toInt.toNat) * (4 : Int32))) + p).toInt.toNat)) f w (fun (x25_4 : Int32) (x25_5 : Int32) (x25_6 : Int32) (w : MW) => q_Wa_onward_25 o t E Q n x25_4 x25_5 x25_6 w) E Q := by
      intro f
      refine on_132 he keep (fun hn => ih e _ _ (Or.inr ⟨he.1, hpe, by omega, by rw [← ht]; omega, by rw [← ht]; exact ht1, ?_⟩) (by omega) (by omega) (by omega) (by omega))
      have q := hpj he.1
      unfold Nd KT
      rw [← ht, q]
      have e1 : ((w.1 9 t.toInt.toNat).toInt * 16 + (w.1 14 o.toInt.toNat).toInt * 4 + ((t * (4 : Int32)) + p).toInt % 4).toNat = ((((w.1 9 t.toInt.toNat) * (16 : Int32)) + ((w.1 14 o.toInt.toNat) * (4 : Int32))) + p).toInt.toNat := by omega
      rw [e1]
      exact hn
    refine ⟨hxt, ⟨ho0, ho1⟩, ⟨by omega, by omega⟩, hxt, fun _ => go 1, fun _ => ⟨hxt, fun _ => go 0, fun _ => ⟨hxt, fun _ => go 0, fun _ => go 1⟩⟩⟩
theorem g_onward {w : MW} {o : Int32} {Q : Int32 → MW → Prop} (hI : BND w) (hPE : PE w) (hPJ : PJ w) (hPL : PL w) (hr : w.2.2 7 0 = some 8) (ho0 : 0 ≤ o.toInt) (ho1 : o.toInt < 2 * (w.1 8 1).toInt) (hQ : ∀ r : Int32, ON w o r → Q r w) : p_Wa_onward w o Q := by
  have b8 := bd_8_1 hI
  refine Eq.mpr (p_Wa_onward.eq_1 _ _ _) ⟨hr, ⟨ho0, by omega⟩, ?_⟩
  exact on_25 hI hPE hPJ ho0 (by omega) rfl (hPL o ho0 ho1) hQ FU (-1) 536870912 0 (Or.inl (by decide)) (by decide) (by decide) (by decide) (fu_lt (by decide))
theorem h_Wa_onward {w : MW} {a0 : Int32} {Q : Int32 → MW → Prop} (hI : BND w) (hf_PE : PE w) (hf_PJ : PJ w) (hf_PL : PL w) (hr_7_0 : w.2.2 7 0 = some 8) (hp0 : 0 ≤ a0.toInt) (hp1 : a0.toInt ≤ 47) (hp2 : a0.toInt < 2 * (w.1 8 1).toInt) (hQ : ∀ (r : Int32) (w' : MW), BND w' → FR l_Wa_onward w w' → (-1) ≤ r.toInt → r.toInt ≤ 47 → r.toInt < 2 * (w.1 8 1).toInt → Q r w') : p_Wa_onward w a0 Q := by
  refine g_onward hI hf_PE hf_PJ hf_PL hr_7_0 hp0 hp2 (fun r hr => ?_)
  have b8 := bd_8_1 hI
  by_cases c : r.toInt = -1
  · exact hQ r w hI (FR.refl _ w) (by omega) (by omega) (by omega)
  · have h := hr.resolve_left c
    have h1 := h.1
    have h2 := h.2.1
    exact hQ r w hI (FR.refl _ w) (by omega) (by omega) h2
def l_Wa_find_56 : Pl := [(38, none)]
def l_Wa_find_19 : Pl := [(38, none)]
def l_Wa_find_184 : Pl := [(38, none)]
def l_Wa_find_150 : Pl := [(38, none)]
def l_Wa_find_119 : Pl := [(38, none)]
def l_Wa_find_101 : Pl := [(38, none)]
def l_Wa_find_234 : Pl := [(26, some 15), (39, none)]
def l_Wa_find : Pl := [(26, some 15), (38, none), (39, none)]
theorem ch_8 {w : MW} {x : Int32} {E Q : Int32 → MW → Prop} (hI : BND w) (hr : w.2.2 7 0 = some 8) (hE : ∀ e : Int32, (e.toInt = -1 ∨ (0 ≤ e.toInt ∧ e.toInt < 2 * (w.1 8 1).toInt ∧ (w.1 38 e.toInt.toNat).toInt < 536870912)) → E e w) (n : Nat) : ∀ (e l g : Int32), (e.toInt = -1 ∨ (0 ≤ e.toInt ∧ e.toInt < 2 * (w.1 8 1).toInt ∧ (w.1 38 e.toInt.toNat).toInt < 536870912)) → l.toInt ≤ 536870912 → 0 ≤ g.toInt → g.toInt ≤ 48 → (48 - g.toInt).toNat < n → q_Wa_cheapestEntry_8 x E Q n e l g w := by
  induction n with
  | zero => intros; omega
  | succ n ih =>
    intro e l g he hl g0 g1 hm
    rw [q_Wa_cheapestEntry_8.eq_2]
    have b8 := bd_8_1 hI
    have m := ti_mul2 (by decide : ((2 : Int32)).toInt = 2) (Eq.refl (w.1 8 1).toInt) (by omega) (by omega)
    have p2 := ti_add2 (Eq.refl g.toInt) (by decide : ((1 : Int32)).toInt = 1) (by omega) (by omega)
    refine ⟨hr, fun _ => hE e he, fun c => ?_⟩
    have hx : 0 ≤ g.toInt ∧ g.toInt < 48 := by omega
    have keep : q_Wa_cheapestEntry_8 x E Q n e l (g + (1 : Int32)) w := ih e l _ he hl (by omega) (by omega) (by omega)
    exact ⟨hr, hx, fun _ => keep, fun _ => ⟨hx, fun _ => keep, fun c2 => ⟨hx, ih g _ _ (Or.inr ⟨g0, by omega, by omega⟩) (by omega) (by omega) (by omega) (by omega)⟩⟩⟩
def lwf : Pl := [(38, none)]
theorem wf_19 {z : MW} {x y en : Int32} {E : MW → Prop} {Q : Int32 → MW → Prop} (hen : en.toInt = 2 * (z.1 8 1).toInt) (hz : BND z) (hE : ∀ w : MW, BND w → FR lwf z w → LG z en.toInt w → E w) (n : Nat) : ∀ (g : Int32) (w : MW), BND w → FR lwf z w → LG z g.toInt w → 0 ≤ g.toInt → g.toInt ≤ 48 → (48 - g.toInt).toNat < n → q_Wa_find_19 x y en E Q n g w := by
  induction n with
  | zero => intros; omega
  | succ n ih =>
    intro g w hI hF hL g0 g1 hm
    rw [q_Wa_find_19.eq_2]
    have b8 := bd_8_1 hz
    have hx1 := x1_eq g0
    have hs := shr1 (x := g)
    have p2 := ti_add2 (Eq.refl g.toInt) (by decide : ((1 : Int32)).toInt = 1) (by omega) (by omega)
    refine ⟨fun c => hE w hI hF (fun e e0 e1 => hL e e0 (by omega)), fun c => ?_⟩
    have h36 : ∀ j, w.1 36 j = z.1 36 j := fun j => (hF 36 j rfl).1
    have nx : ∀ v : Int32, v.toInt ≤ 536870912 → (v.toInt < 536870912 → (z.1 36 (g.toInt / 2).toNat).toInt = 0) → q_Wa_find_19 x y en E Q n (g + (1 : Int32)) (sI w 38 g.toInt.toNat v) := by
      intro v v1 v2
      refine ih _ _ (wbd_38 hI _) (FR.I hF rfl) (fun e e0 e1 => ?_) (by omega) (by omega) (by omega)
      by_cases ce : e.toInt = g.toInt
      · have q : e = g := Int32.toInt_inj.mp ce
        subst q
        rw [sI_same]
        exact ⟨v1, v2⟩
      · rw [sI_ne _ _ _ _ _ (by omega)]
        exact hL e e0 (by omega)
    have hg : 0 ≤ g.toInt ∧ g.toInt < 48 := by omega
    have b12 := bd_12 hI ((g >>> ((1 : Int32) &&& 31)).toInt.toNat)
    have m1 := ti_mul2 (Eq.refl (w.1 12 ((g >>> ((1 : Int32) &&& 31)).toInt.toNat)).toInt) (by decide : ((32 : Int32)).toInt = 32) (by omega) (by omega)
    have m2 := ti_add2 m1 (by decide : ((1 : Int32)).toInt = 1) (by omega) (by omega)
    have hf : (536870912 : Int32).toInt = 536870912 := by decide
    have go0 : q_Wa_find_56 x y en g 0 w (fun (x19_5 : Int32) (w : MW) => q_Wa_find_19 x y en E Q n x19_5 w) E Q := Eq.mpr (q_Wa_find_56.eq_1 _ _ _ _ _ _ _ _ _) ⟨fun _ => ⟨hg, nx _ (by omega) (fun q => by omega)⟩, fun q => absurd (by decide) q⟩
    refine ⟨⟨by omega, by omega⟩, fun _ => go0, fun _ => ⟨⟨by omega, by omega⟩, fun _ => go0, fun c3 => ?_⟩⟩
    refine Eq.mpr (q_Wa_find_56.eq_1 _ _ _ _ _ _ _ _ _) ⟨fun q => absurd q (by decide), fun _ => ⟨⟨by omega, by omega⟩, hg, nx _ (by omega) (fun _ => ?_)⟩⟩
    have c3 := Classical.not_not.mp c3
    rw [hs, h36] at c3
    exact c3
theorem wf_119 {z : MW} {x y en rd : Int32} {E Q : Int32 → MW → Prop} (hen : en.toInt = 2 * (z.1 8 1).toInt) (hz : BND z) (hPE : PE z) (hPJ : PJ z) (hPL : PL z) (hr : z.2.2 7 0 = some 8) (hE : ∀ (m : Int32) (w : MW), 0 ≤ m.toInt → m.toInt ≤ 1 → BND w → FR lwf z w → LG z en.toInt w → E m w) (n : Nat) : ∀ (m g : Int32) (w : MW), 0 ≤ m.toInt → m.toInt ≤ 1 → BND w → FR lwf z w → LG z en.toInt w → 0 ≤ g.toInt → g.toInt ≤ 48 → (48 - g.toInt).toNat < n → q_Wa_find_119 x y en rd E Q n m g w := by
  induction n with
  | zero => intros; omega
  | succ n ih =>
    intro m g w m0 m1 hI hF hL g0 g1 hm
    rw [q_Wa_find_119.eq_2]
    have b8 := bd_8_1 hz
    have hx1 := x1_eq g0
    have hs := shr1 (x := g)
    have p2 := ti_add2 (Eq.refl g.toInt) (by decide : ((1 : Int32)).toInt = 1) (by omega) (by omega)
    refine ⟨fun c => hE m w m0 m1 hI hF hL, fun c => ?_⟩
    have h36 : ∀ j, w.1 36 j = z.1 36 j := fun j => (hF 36 j rfl).1
    have hg : 0 ≤ g.toInt ∧ g.toInt < 48 := by omega
    have hf : (536870912 : Int32).toInt = 536870912 := by decide
    have keep : q_Wa_find_119 x y en rd E Q n m (g + (1 : Int32)) w := ih m _ w m0 m1 hI hF hL (by omega) (by omega) (by omega)
    have b12 := bd_12 hI ((g >>> ((1 : Int32) &&& 31)).toInt.toNat)
    have k1 := ti_mul2 (Eq.refl (w.1 12 ((g >>> ((1 : Int32) &&& 31)).toInt.toNat)).toInt) (by decide : ((32 : Int32)).toInt = 32) (by omega) (by omega)
    have k2 := ti_add2 k1 (by decide : ((1 : Int32)).toInt = 1) (by omega) (by omega)
    have put : ∀ v : Int32, (v.toInt < 536870912 → (z.1 36 (g.toInt / 2).toNat).toInt = 0) → q_Wa_find_184 x y en m rd g v w (fun (x119_5 : Int32) (x119_7 : Int32) (w : MW) => q_Wa_find_119 x y en rd E Q n x119_5 x119_7 w) E Q := by
      intro v hv
      refine Eq.mpr (q_Wa_find_184.eq_1 _ _ _ _ _ _ _ _ _ _ _) ⟨hg, fun _ => keep, fun c2 => ⟨hg, ?_⟩⟩
      refine ih 1 _ _ (by decide) (by decide) (wbd_38 hI _) (FR.I hF rfl) (fun e e0 e1 => ?_) (by omega) (by omega) (by omega)
      by_cases ce : e.toInt = g.toInt
      · have q : e = g := Int32.toInt_inj.mp ce
        subst q
        rw [sI_same]
        have := (hL e e0 e1).1
        exact ⟨by omega, hv⟩
      · rw [sI_ne _ _ _ _ _ (by omega)]
        exact hL e e0 e1
    have go1 : q_Wa_find_150 x y en m rd g (-1) w (fun (x119_5 : Int32) (x119_7 : Int32) (w : MW) => q_Wa_find_119 x y en rd E Q n x119_5 x119_7 w) E Q := Eq.mpr (q_Wa_find_150.eq_1 _ _ _ _ _ _ _ _ _ _ _) ⟨fun q => absurd q (by decide), fun _ => put _ (fun q => by omega)⟩
    refine ⟨⟨by omega, by omega⟩, fun c1 => ?_, fun _ => go1⟩
    rw [hs, h36] at c1
    have e8 : w.1 8 1 = z.1 8 1 := (hF 8 1 rfl).1
    refine g_onward hI (PE_fr hF rfl hPE) (PJ_fr hF rfl hPJ) (PL_fr hF rfl hPL) ((hF 7 0 rfl).2.2.trans hr) (by omega) (by rw [e8]; omega) (fun r hon => ?_)
    refine Eq.mpr (q_Wa_find_150.eq_1 _ _ _ _ _ _ _ _ _ _ _) ⟨fun c2 => ?_, fun _ => put _ (fun q => by omega)⟩
    have hon2 := hon.resolve_left (by omega)
    have o1 := hon2.2.1
    rw [e8] at o1
    exact ⟨⟨by omega, by omega⟩, ⟨by omega, by omega⟩, put _ (fun _ => c1)⟩
theorem wf_101 {z : MW} {x y en : Int32} {E : MW → Prop} {Q : Int32 → MW → Prop} (hen : en.toInt = 2 * (z.1 8 1).toInt) (hz : BND z) (hPE : PE z) (hPJ : PJ z) (hPL : PL z) (hr : z.2.2 7 0 = some 8) (hE : ∀ w : MW, BND w → FR lwf z w → LG z en.toInt w → E w) (n : Nat) : ∀ (m g : Int32) (w : MW), BND w → FR lwf z w → LG z en.toInt w → 0 ≤ g.toInt → g.toInt ≤ 49 → (49 - g.toInt).toNat < n → q_Wa_find_101 x y en E Q n m g w := by
  induction n with
  | zero => intros; omega
  | succ n ih =>
    intro m g w hI hF hL g0 g1 hm
    rw [q_Wa_find_101.eq_2]
    have b8 := bd_8_1 hz
    have p2 := ti_add2 (Eq.refl g.toInt) (by decide : ((1 : Int32)).toInt = 1) (by omega) (by omega)
    refine ⟨fun _ => hE w hI hF hL, fun _ => ⟨fun _ => hE w hI hF hL, fun c => ?_⟩⟩
    exact wf_119 hen hz hPE hPJ hPL hr (fun m' w' _ _ hI' hF' hL' => ih m' _ w' hI' hF' hL' (by omega) (by omega) (by omega)) FU 0 0 w (by decide) (by decide) hI hF hL (by decide) (by decide) (fu_lt (by decide))
def lwp : Pl := [(26, some 15), (39, none)]
theorem wf_234 {z m : MW} {y : Int32} {E : MW → Prop} {Q : Int32 → MW → Prop} (hm' : BND m) (hF0 : FR lwf z m) (hL : LG z (2 * (z.1 8 1).toInt) m) (hPE : PE m) (hPJ : PJ m) (hPL : PL m) (hr : m.2.2 7 0 = some 8) (hE : ∀ w : MW, BND w → FR lwp m w → PWy w → E w) (n : Nat) : ∀ (e : Int32) (w : MW), BND w → FR lwp m w → PWy w → (e.toInt = -1 ∨ (0 ≤ e.toInt ∧ e.toInt < 2 * (m.1 8 1).toInt ∧ (m.1 38 e.toInt.toNat).toInt < 536870912)) → (0 ≤ e.toInt → ∀ i : Int32, 0 ≤ i.toInt → i.toInt + 1 = (w.1 26 15).toInt → 0 ≤ (w.1 13 (w.1 39 i.toInt.toNat).toInt.toNat).toInt ∧ (w.1 13 (w.1 39 i.toInt.toNat).toInt.toNat).toInt < (w.1 8 0).toInt ∧ 0 ≤ Nd w (w.1 39 i.toInt.toNat) e) → (24 - (w.1 26 15).toInt).toNat < n → q_Wa_find_234 y E Q n e w := by
  induction n with
  | zero => intros; omega
  | succ n ih =>
    intro e w hI hF hP he hlast hm
    rw [q_Wa_find_234.eq_2]
    have b15 := bd_26_15 hI
    have b8 := bd_8_1 hm'
    refine ⟨fun _ => hE w hI hF hP, fun c => ⟨fun _ => hE w hI hF hP, fun c1 => ?_⟩⟩
    obtain ⟨e0, e1, e2⟩ := he.resolve_left (by omega)
    have hx1 := x1_eq e0
    have e15 := ti_add2 (Eq.refl (w.1 26 15).toInt) (by decide : ((1 : Int32)).toInt = 1) (by omega) (by omega)
    have z8 : m.1 8 1 = z.1 8 1 := (hF0 8 1 rfl).1
    have hfree := (hL e e0 (by rw [← z8]; exact e1)).2 e2
    have hI1 : BND (sI (sI w 39 ((w.1 26 15).toInt.toNat) (e ^^^ (1 : Int32))) 26 15 ((w.1 26 15) + (1 : Int32))) := wbd_26_15 (wbd_39 hI _ (by omega) (by omega)) (by omega) (by omega)
    have hF1 : FR lwp m (sI (sI w 39 ((w.1 26 15).toInt.toNat) (e ^^^ (1 : Int32))) 26 15 ((w.1 26 15) + (1 : Int32))) := FR.I (FR.I hF rfl) rfl
    have f15 : (sI (sI w 39 ((w.1 26 15).toInt.toNat) (e ^^^ (1 : Int32))) 26 15 ((w.1 26 15) + (1 : Int32))).1 26 15 = (w.1 26 15) + (1 : Int32) := rfl
    have f39 : ∀ j, (sI (sI w 39 ((w.1 26 15).toInt.toNat) (e ^^^ (1 : Int32))) 26 15 ((w.1 26 15) + (1 : Int32))).1 39 j = if j = (w.1 26 15).toInt.toNat then e ^^^ (1 : Int32) else w.1 39 j := by
      intro j
      rw [sI_at, if_neg (fun q => absurd q.1 (by decide)), sI_at]
      by_cases hj : j = (w.1 26 15).toInt.toNat
      · rw [if_pos ⟨rfl, hj⟩, if_pos hj]
      · rw [if_neg (fun q => hj q.2), if_neg hj]
    generalize (sI (sI w 39 ((w.1 26 15).toInt.toNat) (e ^^^ (1 : Int32))) 26 15 ((w.1 26 15) + (1 : Int32))) = w1 at *
    have same : ∀ k j, hit lwp k j = false → w1.1 k j = w.1 k j := fun k j hk => ((hF1 k j hk).1).trans (hF k j hk).1.symm
    have hNd : ∀ a b : Int32, Nd w1 a b = Nd w a b := by
      intro a b
      unfold Nd KT
      rw [same 41 _ rfl, same 9 _ rfl, same 13 _ rfl, same 14 _ rfl, same 14 _ rfl]
    have g8 : w1.1 8 1 = m.1 8 1 := (hF1 8 1 rfl).1
    have hP1 : PWy w1 := by
      intro i i0 i1
      rw [f15, e15] at i1
      rw [f15, e15, same 13 _ rfl, same 36 _ rfl, same 8 0 rfl, g8, hNd]
      by_cases ci : i.toInt = (w.1 26 15).toInt
      · have q : i.toInt.toNat = (w.1 26 15).toInt.toNat := by rw [ci]
        rw [f39, if_pos q]
        refine ⟨⟨by omega, by omega⟩, ?_, fun q2 => by omega⟩
        have q3 : ((e ^^^ (1 : Int32)).toInt / 2) = e.toInt / 2 := by omega
        rw [q3, (hF 36 _ rfl).1, (hF0 36 _ rfl).1]
        exact hfree
      · have q : i.toInt.toNat ≠ (w.1 26 15).toInt.toNat := by omega
        rw [f39 i.toInt.toNat, if_neg q]
        have h := hP i i0 (by omega)
        refine ⟨?_, h.2.1, fun q2 => ?_⟩
        · have := h.1
          rw [(hF 8 1 rfl).1] at this
          exact this
        · by_cases cl : i.toInt + 1 = (w.1 26 15).toInt
          · have h9 := hlast e0 i i0 cl
            refine ⟨h9.1, h9.2.1, ?_⟩
            rw [f39, if_pos (by rw [cl]), x1_x1 e0]
            exact h9.2.2
          · rw [f39, if_neg (by omega)]
            exact h.2.2 (by omega)
    refine ⟨⟨b15.1, by omega⟩, ⟨by omega, by omega⟩, fun c2 => ?_, fun c2 => ih (-1) w1 hI1 hF1 hP1 (Or.inl i_m1) (fun q => absurd q (by decide)) (by rw [f15, e15]; omega)⟩
    refine g_onward hI1 (PE_fr hF1 rfl hPE) (PJ_fr hF1 rfl hPJ) (PL_fr hF1 rfl hPL) ((hF1 7 0 rfl).2.2.trans hr) (by omega) (by rw [g8]; omega) (fun r hon => ?_)
    refine ih r w1 hI1 hF1 hP1 ?_ (fun r0 i i0 i1 => ?_) (by rw [f15, e15]; omega)
    · rcases hon with hon | hon
      · exact Or.inl hon
      · right
        have h1 := hon.1
        have h2 := hon.2.1
        have h3 := hon.2.2.1
        rw [g8] at h2
        rw [(hF1 38 _ rfl).1] at h3
        exact ⟨h1, h2, h3⟩
    · have hon2 := hon.resolve_left (by omega)
      rw [f15, e15] at i1
      have q : i.toInt.toNat = (w.1 26 15).toInt.toNat := by
        have : i.toInt = (w.1 26 15).toInt := by omega
        rw [this]
      rw [f39, if_pos q]
      exact ⟨hon2.2.2.2.1, hon2.2.2.2.2.1, hon2.2.2.2.2.2⟩
theorem h_Wa_find {w : MW} {a0 : Int32} {b0 : Int32} {Q : Int32 → MW → Prop} (hI : BND w) (hf_PE : PE w) (hf_PJ : PJ w) (hf_PL : PL w) (hr_7_0 : w.2.2 7 0 = some 8) (hp0 : 0 ≤ a0.toInt) (hp1 : a0.toInt ≤ 19) (hp2 : 0 ≤ b0.toInt) (hp3 : b0.toInt ≤ 19) (hQ : ∀ (r : Int32) (w' : MW), BND w' → FR l_Wa_find w w' → 0 ≤ r.toInt → r.toInt ≤ 1 → r.toInt = 0 ∨ 1 ≤ (w'.1 26 15).toInt → PWy w' → Q r w') : p_Wa_find w a0 b0 Q := by
  have b8 := bd_8_1 hI
  have m := ti_mul2 (by decide : ((2 : Int32)).toInt = 2) (Eq.refl (w.1 8 1).toInt) (by omega) (by omega)
  refine Eq.mpr (p_Wa_find.eq_1 _ _ _ _) ⟨hr_7_0, ?_⟩
  refine wf_19 (z := w) m hI (fun w11 hI11 hF11 hL11 => ?_) FU 0 w hI (FR.refl _ w) (fun e e0 e1 => by have := i_0; omega) (by decide) (by decide) (fu_lt (by decide))
  refine wf_101 (z := w) m hI hf_PE hf_PJ hf_PL hr_7_0 (fun w25 hI25 hF25 hL25 => ?_) FU 1 0 w11 hI11 hF11 hL11 (by decide) (by decide) (fu_lt (by decide))
  rw [m] at hL25
  refine Eq.mpr (p_Wa_cheapestEntry.eq_1 _ _ _) ?_
  have hr25 := (hF25 7 0 rfl).2.2.trans hr_7_0
  refine ch_8 hI25 hr25 (fun e he => ?_) FU (-1) 536870912 0 (Or.inl i_m1) (by decide) (by decide) (by decide) (fu_lt (by decide))
  have hI0 : BND (sI w25 26 15 0) := wbd_26_15 hI25 (by decide) (by decide)
  have a15 : (sI w25 26 15 0).1 26 15 = 0 := rfl
  have hF26 : FR lwp w25 (sI w25 26 15 0) := FR.I (FR.refl _ w25) rfl
  refine wf_234 (z := w) (m := w25) hI25 hF25 hL25 (PE_fr hF25 rfl hf_PE) (PJ_fr hF25 rfl hf_PJ) (PL_fr hF25 rfl hf_PL) hr25 (fun w33 hI33 hF33 hP33 => ?_) FU e (sI w25 26 15 0) hI0 hF26 (fun i i0 i1 => ?_) he (fun _ i i0 i1 => ?_) (fu_lt (by rw [a15]; decide))
  · have hFF : FR l_Wa_find w w33 := ((FR.refl _ w).tr hF25 rfl).tr hF33 rfl
    exact ⟨fun c => hQ 0 w33 hI33 hFF (by decide) (by decide) (Or.inl i_0) hP33, fun c => hQ 1 w33 hI33 hFF (by decide) (by decide) (Or.inr (by omega)) hP33⟩
  · rw [a15, i_0] at i1
    omega
  · rw [a15, i_0] at i1
    omega
def l_Wa_openFound_86 : Pl := [(16, none), (35, none), (37, none), (40, none)]
def l_Wa_openFound_12 : Pl := [(16, none), (34, none), (35, none), (36, none), (37, none), (40, none)]
def l_Wa_openFound : Pl := [(16, none), (26, some 1), (27, none), (28, none), (29, none), (30, none), (31, none), (32, none), (33, none), (34, none), (35, none), (36, none), (37, none), (40, none)]
/-- the pipes of the path so far -/
def PD (z : MW) (i : Int) (w : MW) : Prop := ∀ q : Int, 0 ≤ q → q < 24 → (∃ j : Int32, 0 ≤ j.toInt ∧ j.toInt < i ∧ (z.1 39 j.toInt.toNat).toInt / 2 = q ∧ (w.1 36 q.toNat).toInt = 1 ∧ w.1 34 q.toNat = z.1 39 j.toInt.toNat ∧ (j.toInt + 1 < (z.1 26 15).toInt → (w.1 35 q.toNat).toInt = (z.1 39 (j.toInt + 1).toNat).toInt / 2) ∧ (¬ j.toInt + 1 < (z.1 26 15).toInt → (w.1 35 q.toNat).toInt < 0)) ∨ ((∀ j : Int32, 0 ≤ j.toInt → j.toInt < i → ¬ (z.1 39 j.toInt.toNat).toInt / 2 = q) ∧ w.1 36 q.toNat = z.1 36 q.toNat ∧ w.1 34 q.toNat = z.1 34 q.toNat ∧ w.1 35 q.toNat = z.1 35 q.toNat)
def lop : Pl := [(16, none), (34, none), (35, none), (36, none), (37, none), (40, none)]
theorem pd_next {z w w' : MW} {i : Int32} (i0 : 0 ≤ i.toInt) (hD : PD z i.toInt w) (h36 : ∀ q : Nat, q ≠ ((z.1 39 i.toInt.toNat).toInt / 2).toNat → w'.1 36 q = w.1 36 q) (h34 : ∀ q : Nat, q ≠ ((z.1 39 i.toInt.toNat).toInt / 2).toNat → w'.1 34 q = w.1 34 q) (h35 : ∀ q : Nat, q ≠ ((z.1 39 i.toInt.toNat).toInt / 2).toNat → w'.1 35 q = w.1 35 q) (hp0 : 0 ≤ (z.1 39 i.toInt.toNat).toInt) (g36 : (w'.1 36 ((z.1 39 i.toInt.toNat).toInt / 2).toNat).toInt = 1) (g34 : w'.1 34 ((z.1 39 i.toInt.toNat).toInt / 2).toNat = z.1 39 i.toInt.toNat) (g1 : i.toInt + 1 < (z.1 26 15).toInt → (w'.1 35 ((z.1 39 i.toInt.toNat).toInt / 2).toNat).toInt = (z.1 39 (i.toInt + 1).toNat).toInt / 2) (g2 : ¬ i.toInt + 1 < (z.1 26 15).toInt → (w'.1 35 ((z.1 39 i.toInt.toNat).toInt / 2).toNat).toInt < 0) : PD z (i.toInt + 1) w' := by
  intro q q0 q1
  by_cases c : q = (z.1 39 i.toInt.toNat).toInt / 2
  · subst c
    exact Or.inl ⟨i, i0, by omega, rfl, g36, g34, g1, g2⟩
  · have ne : q.toNat ≠ ((z.1 39 i.toInt.toNat).toInt / 2).toNat := by omega
    rw [h36 _ ne, h34 _ ne, h35 _ ne]
    rcases hD q q0 q1 with ⟨j, a1, a2, a3, a4⟩ | ⟨a1, a2⟩
    · exact Or.inl ⟨j, a1, by omega, a3, a4⟩
    · refine Or.inr ⟨fun j j0 j1 => ?_, a2⟩
      by_cases cj : j.toInt = i.toInt
      · have e : j = i := Int32.toInt_inj.mp cj
        subst e
        exact fun e => c e.symm
      · exact a1 j j0 (by omega)
theorem op_12 {z : MW} {x y r : Int32} {E Q : MW → Prop} (hz : BND z) (hP : PWy z) (hE : ∀ w : MW, BND w → FR lop z w → PD z (z.1 26 15).toInt w → E w) (n : Nat) : ∀ (i : Int32) (w : MW), BND w → FR lop z w → PD z i.toInt w → 0 ≤ i.toInt → i.toInt ≤ (z.1 26 15).toInt → (24 - i.toInt).toNat < n → q_Wa_openFound_12 x y r E Q n i w := by
  induction n with
  | zero => intros; omega
  | succ n ih =>
    intro i w hI hF hD i0 i1 hm
    rw [q_Wa_openFound_12.eq_2]
    have b15 := bd_26_15 hz
    have b81 := bd_8_1 hz
    have b80 := bd_8_0 hz
    have e15 : w.1 26 15 = z.1 26 15 := (hF 26 15 rfl).1
    have e39 : ∀ j, w.1 39 j = z.1 39 j := fun j => (hF 39 j rfl).1
    rw [e15, e39]
    refine ⟨fun c => hE w hI hF ?_, fun c => ?_⟩
    · have e : i.toInt = (z.1 26 15).toInt := by omega
      rw [← e]
      exact hD
    have e3 := ti_add2 (Eq.refl i.toInt) (by decide : ((1 : Int32)).toInt = 1) (by omega) (by omega)
    have hi : 0 ≤ i.toInt ∧ i.toInt < 24 := by omega
    have hw := hP i i0 (by omega)
    have hs := shr1 (x := z.1 39 i.toInt.toNat)
    have p1 := hw.1.1
    have p2 := hw.1.2
    have hq : 0 ≤ ((z.1 39 i.toInt.toNat) >>> ((1 : Int32) &&& 31)).toInt ∧ ((z.1 39 i.toInt.toNat) >>> ((1 : Int32) &&& 31)).toInt < 24 := by omega
    have hqn : ((z.1 39 i.toInt.toNat) >>> ((1 : Int32) &&& 31)).toInt.toNat = ((z.1 39 i.toInt.toNat).toInt / 2).toNat := by rw [hs]
    have n1 : (vp_nar .boolean (1 : Int32)).toInt = 1 := by decide
    have hI2 : BND (sI (sI w 36 (((z.1 39 i.toInt.toNat) >>> ((1 : Int32) &&& 31)).toInt.toNat) (vp_nar .boolean (1 : Int32))) 34 (((z.1 39 i.toInt.toNat) >>> ((1 : Int32) &&& 31)).toInt.toNat) (z.1 39 i.toInt.toNat)) := wbd_34 (wbd_36 hI _ (by decide) (by decide)) _ p1 (by omega)
    have hF2 : FR lop z (sI (sI w 36 (((z.1 39 i.toInt.toNat) >>> ((1 : Int32) &&& 31)).toInt.toNat) (vp_nar .boolean (1 : Int32))) 34 (((z.1 39 i.toInt.toNat) >>> ((1 : Int32) &&& 31)).toInt.toNat) (z.1 39 i.toInt.toNat)) := FR.I (FR.I hF rfl) rfl
    have r36 : ∀ j, (sI (sI w 36 (((z.1 39 i.toInt.toNat) >>> ((1 : Int32) &&& 31)).toInt.toNat) (vp_nar .boolean (1 : Int32))) 34 (((z.1 39 i.toInt.toNat) >>> ((1 : Int32) &&& 31)).toInt.toNat) (z.1 39 i.toInt.toNat)).1 36 j = if j = ((z.1 39 i.toInt.toNat).toInt / 2).toNat then vp_nar .boolean (1 : Int32) else w.1 36 j := by
      intro j
      rw [sI_oth _ _ _ _ _ _ (by decide), sI_at, hqn]
      by_cases hj : j = ((z.1 39 i.toInt.toNat).toInt / 2).toNat
      · rw [if_pos ⟨rfl, hj⟩, if_pos hj]
      · rw [if_neg (fun q => hj q.2), if_neg hj]
    have r34 : ∀ j, (sI (sI w 36 (((z.1 39 i.toInt.toNat) >>> ((1 : Int32) &&& 31)).toInt.toNat) (vp_nar .boolean (1 : Int32))) 34 (((z.1 39 i.toInt.toNat) >>> ((1 : Int32) &&& 31)).toInt.toNat) (z.1 39 i.toInt.toNat)).1 34 j = if j = ((z.1 39 i.toInt.toNat).toInt / 2).toNat then z.1 39 i.toInt.toNat else w.1 34 j := by
      intro j
      rw [sI_at, hqn]
      by_cases hj : j = ((z.1 39 i.toInt.toNat).toInt / 2).toNat
      · rw [if_pos ⟨rfl, hj⟩, if_pos hj]
      · rw [if_neg (fun q => hj q.2), if_neg hj, sI_oth _ _ _ _ _ _ (by decide)]
    have r35 : ∀ j, (sI (sI w 36 (((z.1 39 i.toInt.toNat) >>> ((1 : Int32) &&& 31)).toInt.toNat) (vp_nar .boolean (1 : Int32))) 34 (((z.1 39 i.toInt.toNat) >>> ((1 : Int32) &&& 31)).toInt.toNat) (z.1 39 i.toInt.toNat)).1 35 j = w.1 35 j := fun j => by rw [sI_oth _ _ _ _ _ _ (by decide), sI_oth _ _ _ _ _ _ (by decide)]
    generalize (sI (sI w 36 (((z.1 39 i.toInt.toNat) >>> ((1 : Int32) &&& 31)).toInt.toNat) (vp_nar .boolean (1 : Int32))) 34 (((z.1 39 i.toInt.toNat) >>> ((1 : Int32) &&& 31)).toInt.toNat) (z.1 39 i.toInt.toNat)) = w2 at *
    -- what comes behind a round
    have nx : ∀ (v : Int32) (w' : MW), BND w' → FR lop z w' → (∀ j, w'.1 36 j = w2.1 36 j) → (∀ j, w'.1 34 j = w2.1 34 j) → (∀ j, w'.1 35 j = if j = ((z.1 39 i.toInt.toNat).toInt / 2).toNat then v else w2.1 35 j) → (i.toInt + 1 < (z.1 26 15).toInt → v.toInt = (z.1 39 (i.toInt + 1).toNat).toInt / 2) → (¬ i.toInt + 1 < (z.1 26 15).toInt → v.toInt < 0) → q_Wa_openFound_12 x y r E Q n (i + (1 : Int32)) w' := by
      intro v w' hI' hF' a36 a34 a35 v1 v2
      refine ih _ w' hI' hF' ?_ (by omega) (by omega) (by omega)
      rw [e3]
      refine pd_next i0 hD (fun q hq => ?_) (fun q hq => ?_) (fun q hq => ?_) p1 ?_ ?_ ?_ ?_
      · rw [a36, r36, if_neg hq]
      · rw [a34, r34, if_neg hq]
      · rw [a35, if_neg hq, r35]
      · rw [a36, r36, if_pos rfl]; exact n1
      · rw [a34, r34, if_pos rfl]
      · intro h; rw [a35, if_pos rfl]; exact v1 h
      · intro h; rw [a35, if_pos rfl]; exact v2 h
    have s35 : ∀ (v : Int32) (j : Nat), (sI w2 35 (((z.1 39 i.toInt.toNat) >>> ((1 : Int32) &&& 31)).toInt.toNat) v).1 35 j = if j = ((z.1 39 i.toInt.toNat).toInt / 2).toNat then v else w2.1 35 j := by
      intro v j
      rw [sI_at, hqn]
      by_cases hj : j = ((z.1 39 i.toInt.toNat).toInt / 2).toNat
      · rw [if_pos ⟨rfl, hj⟩, if_pos hj]
      · rw [if_neg (fun q => hj q.2), if_neg hj]
    have t15 : w2.1 26 15 = z.1 26 15 := (hF2 26 15 rfl).1
    have t39 : ∀ j, w2.1 39 j = z.1 39 j := fun j => (hF2 39 j rfl).1
    have t13 : ∀ j, w2.1 13 j = z.1 13 j := fun j => (hF2 13 j rfl).1
    refine ⟨hi, hq, hi, hq, fun c1 => ?_, fun c1 => ?_⟩
    · refine Eq.mpr (q_Wa_openFound_86.eq_1 _ _ _ _ _ _ _ _ _ _) ⟨hq, fun _ => ?_, fun c2 => absurd (by rw [t15]; exact c1) c2⟩
      exact nx (-1) _ (wbd_35 hI2 _ (by decide) (by decide)) (FR.I hF2 rfl) (fun j => sI_oth _ _ _ _ _ _ (by decide)) (fun j => sI_oth _ _ _ _ _ _ (by decide)) (s35 _) (fun h => by omega) (fun _ => by decide)
    · have hw2 := hP (i + (1 : Int32)) (by omega) (by omega)
      have e9 : (i + (1 : Int32)).toInt.toNat = (i.toInt + 1).toNat := by omega
      have hs2 := shr1 (x := z.1 39 ((i + (1 : Int32)).toInt.toNat))
      have u1 := hw2.1.1
      have u2 := hw2.1.2
      have ht := hw.2.2 (by omega)
      rw [e39]
      refine ⟨by omega, ?_⟩
      refine Eq.mpr (q_Wa_openFound_86.eq_1 _ _ _ _ _ _ _ _ _ _) ⟨hq, fun c2 => absurd (by rw [t15] at c2; exact c2) c1, fun _ => ?_⟩
      rw [t39, t39, t13]
      have hI3 : BND (sI w2 35 (((z.1 39 i.toInt.toNat) >>> ((1 : Int32) &&& 31)).toInt.toNat) ((z.1 39 ((i + (1 : Int32)).toInt.toNat)) >>> ((1 : Int32) &&& 31))) := wbd_35 hI2 _ (by omega) (by omega)
      have hF3 : FR lop z (sI w2 35 (((z.1 39 i.toInt.toNat) >>> ((1 : Int32) &&& 31)).toInt.toNat) ((z.1 39 ((i + (1 : Int32)).toInt.toNat)) >>> ((1 : Int32) &&& 31))) := FR.I hF2 rfl
      have T0 := ht.1
      have T1 := ht.2.1
      have T2 := ht.2.2
      have b13 : 0 ≤ (z.1 13 ((z.1 39 i.toInt.toNat).toInt.toNat)).toInt ∧ (z.1 13 ((z.1 39 i.toInt.toNat).toInt.toNat)).toInt < 20 := by omega
      have b16 := bd_16 hI2 ((z.1 13 ((z.1 39 i.toInt.toNat).toInt.toNat)).toInt.toNat)
      have g9 : w2.1 9 ((z.1 13 ((z.1 39 i.toInt.toNat).toInt.toNat)).toInt.toNat) = z.1 9 ((z.1 13 ((z.1 39 i.toInt.toNat).toInt.toNat)).toInt.toNat) := (hF2 9 _ rfl).1
      have v1 : i.toInt + 1 < (z.1 26 15).toInt → ((z.1 39 ((i + (1 : Int32)).toInt.toNat)) >>> ((1 : Int32) &&& 31)).toInt = (z.1 39 (i.toInt + 1).toNat).toInt / 2 := fun _ => by rw [hs2, e9]
      have v2 : ¬ i.toInt + 1 < (z.1 26 15).toInt → ((z.1 39 ((i + (1 : Int32)).toInt.toNat)) >>> ((1 : Int32) &&& 31)).toInt < 0 := fun h => by omega
      have hp48 : 0 ≤ (z.1 39 i.toInt.toNat).toInt ∧ (z.1 39 i.toInt.toNat).toInt < 48 := by omega
      have hx1 := x1_eq u1
      refine ⟨hi, hp48, b13, b13, b13, fun _ => ⟨b13, b13, ?_⟩, fun _ => ⟨hi, hp48, ⟨by omega, by omega⟩, ?_⟩⟩
      · exact nx _ _ (wbd_37 (wbd_40 hI3 _ b16.1 b16.2) _) (FR.I (FR.I hF3 rfl) rfl) (fun j => by rw [sI_oth _ _ _ _ _ _ (by decide), sI_oth _ _ _ _ _ _ (by decide), sI_oth _ _ _ _ _ _ (by decide)]) (fun j => by rw [sI_oth _ _ _ _ _ _ (by decide), sI_oth _ _ _ _ _ _ (by decide), sI_oth _ _ _ _ _ _ (by decide)]) (fun j => by rw [sI_oth _ _ _ _ _ _ (by decide), sI_oth _ _ _ _ _ _ (by decide)]; exact s35 _ j) v1 v2
      · rw [g9]
        have g14 : ∀ j, w2.1 14 j = z.1 14 j := fun j => (hF2 14 j rfl).1
        have g41 : ∀ j, w2.1 41 j = z.1 41 j := fun j => (hF2 41 j rfl).1
        rw [g14, g14, g41]
        have k9 := bd_9 hz ((z.1 13 ((z.1 39 i.toInt.toNat).toInt.toNat)).toInt.toNat)
        have k1 := bd_14 hz ((z.1 39 i.toInt.toNat).toInt.toNat)
        have k2 := bd_14 hz (((z.1 39 ((i + (1 : Int32)).toInt.toNat)) ^^^ (1 : Int32)).toInt.toNat)
        have m1 := ti_mul2 (Eq.refl (z.1 9 ((z.1 13 ((z.1 39 i.toInt.toNat).toInt.toNat)).toInt.toNat)).toInt) (by decide : ((16 : Int32)).toInt = 16) (by omega) (by omega)
        have m2 := ti_mul2 (Eq.refl (z.1 14 ((z.1 39 i.toInt.toNat).toInt.toNat)).toInt) (by decide : ((4 : Int32)).toInt = 4) (by omega) (by omega)
        have m3 := ti_add2 m2 (Eq.refl (z.1 14 (((z.1 39 ((i + (1 : Int32)).toInt.toNat)) ^^^ (1 : Int32)).toInt.toNat)).toInt) (by omega) (by omega)
        have m4 := ti_add2 m1 m3 (by omega) (by omega)
        have nd : 0 ≤ (z.1 41 ((((z.1 9 ((z.1 13 ((z.1 39 i.toInt.toNat).toInt.toNat)).toInt.toNat)) * (16 : Int32)) + (((z.1 14 ((z.1 39 i.toInt.toNat).toInt.toNat)) * (4 : Int32)) + (z.1 14 (((z.1 39 ((i + (1 : Int32)).toInt.toNat)) ^^^ (1 : Int32)).toInt.toNat)))).toInt.toNat)).toInt := by
          rw [m4]
          unfold Nd KT at T2
          rw [← e9] at T2
          have e : (z.1 9 ((z.1 13 ((z.1 39 i.toInt.toNat).toInt.toNat)).toInt.toNat)).toInt * 16 + ((z.1 14 ((z.1 39 i.toInt.toNat).toInt.toNat)).toInt * 4 + (z.1 14 (((z.1 39 ((i + (1 : Int32)).toInt.toNat)) ^^^ (1 : Int32)).toInt.toNat)).toInt) = (z.1 9 ((z.1 13 ((z.1 39 i.toInt.toNat).toInt.toNat)).toInt.toNat)).toInt * 16 + (z.1 14 ((z.1 39 i.toInt.toNat).toInt.toNat)).toInt * 4 + (z.1 14 (((z.1 39 ((i + (1 : Int32)).toInt.toNat)) ^^^ (1 : Int32)).toInt.toNat)).toInt := by omega
          rw [e]
          exact T2
        have bn := bd_41 hz ((((z.1 9 ((z.1 13 ((z.1 39 i.toInt.toNat).toInt.toNat)).toInt.toNat)) * (16 : Int32)) + (((z.1 14 ((z.1 39 i.toInt.toNat).toInt.toNat)) * (4 : Int32)) + (z.1 14 (((z.1 39 ((i + (1 : Int32)).toInt.toNat)) ^^^ (1 : Int32)).toInt.toNat)))).toInt.toNat)
        refine ⟨⟨by omega, by omega⟩, b13, ⟨by omega, by omega⟩, b13, b13, b13, ?_⟩
        exact nx _ _ (wbd_37 (wbd_16 (wbd_40 hI3 _ b16.1 b16.2) _ nd bn.2) _) (FR.I (FR.I (FR.I hF3 rfl) rfl) rfl) (fun j => by rw [sI_oth _ _ _ _ _ _ (by decide), sI_oth _ _ _ _ _ _ (by decide), sI_oth _ _ _ _ _ _ (by decide), sI_oth _ _ _ _ _ _ (by decide)]) (fun j => by rw [sI_oth _ _ _ _ _ _ (by decide), sI_oth _ _ _ _ _ _ (by decide), sI_oth _ _ _ _ _ _ (by decide), sI_oth _ _ _ _ _ _ (by decide)]) (fun j => by rw [sI_oth _ _ _ _ _ _ (by decide), sI_oth _ _ _ _ _ _ (by decide), sI_oth _ _ _ _ _ _ (by decide)]; exact s35 _ j) v1 v2
theorem h_Wa_openFound {w : MW} {a0 : Int32} {b0 : Int32} {c0 : Int32} {Q : MW → Prop} (hI : BND w) (hf_PL : PL w) (hf_WO : WO w) (hr_7_0 : w.2.2 7 0 = some 8) (hp0 : 0 ≤ a0.toInt) (hp1 : a0.toInt ≤ 19) (hp2 : 0 ≤ b0.toInt) (hp3 : b0.toInt ≤ 19) (hp4 : 1 ≤ c0.toInt) (hp5 : c0.toInt ≤ 100) (hp6 : 1 ≤ (w.1 26 15).toInt) (hp7 : PWy w) (hQ : ∀ (w' : MW), BND w' → FR l_Wa_openFound w w' → WO w' → (w'.1 26 1).toInt = (w.1 26 1).toInt + 1 → Q w') : p_Wa_openFound w a0 b0 c0 Q := by
  obtain ⟨own, hO⟩ := hf_WO
  have h23 := ways_23c hI hO hp7 hp6
  have b26 := bd_26_1 hI
  have b15 := bd_26_15 hI
  refine Eq.mpr (p_Wa_openFound.eq_1 _ _ _ _ _) ⟨hr_7_0, ?_⟩
  refine op_12 (z := w) hI hp7 (fun w28 hI28 hF28 hD => ?_) FU 0 w hI (FR.refl _ w) (fun q q0 q1 => Or.inr ⟨fun j j0 j1 => by have := i_0; omega, rfl, rfl, rfl⟩) (by decide) (by rw [i_0]; omega) (fu_lt (by decide))
  have e26 : w28.1 26 1 = w.1 26 1 := (hF28 26 1 rfl).1
  have e15 : w28.1 26 15 = w.1 26 15 := (hF28 26 15 rfl).1
  have e39 : ∀ j, w28.1 39 j = w.1 39 j := fun j => (hF28 39 j rfl).1
  have e32 : ∀ j, w28.1 32 j = w.1 32 j := fun j => (hF28 32 j rfl).1
  have e13 : ∀ j, w28.1 13 j = w.1 13 j := fun j => (hF28 13 j rfl).1
  have e80 : w28.1 8 0 = w.1 8 0 := (hF28 8 0 rfl).1
  have hc : 0 ≤ (w28.1 26 1).toInt ∧ (w28.1 26 1).toInt < 24 := by rw [e26]; omega
  have es := ti_sub2 (Eq.refl (w28.1 26 15).toInt) (by decide : ((1 : Int32)).toInt = 1) (by rw [e15]; omega) (by rw [e15]; omega)
  have ea := ti_add2 (Eq.refl (w28.1 26 1).toInt) (by decide : ((1 : Int32)).toInt = 1) (by omega) (by omega)
  have b17 := bd_17 hI28 a0.toInt.toNat
  have b39 := bd_39 hI28 0
  have b39b := bd_39 hI28 (((w28.1 26 15) - (1 : Int32)).toInt.toNat)
  have s0 := shr1 (x := w28.1 39 0)
  have s1 := shr1 (x := w28.1 39 (((w28.1 26 15) - (1 : Int32)).toInt.toNat))
  have h15 : (w28.1 26 15).toInt = (w.1 26 15).toInt := by rw [e15]
  refine ⟨hc, hc, hc, ⟨hp0, by omega⟩, hc, hc, hc, ⟨by omega, by omega⟩, hc, ?_⟩
  refine hQ _ (wbd_26_1 (wbd_33 (wbd_32 (wbd_31 (wbd_30 (wbd_29 (wbd_28 (wbd_27 hI28 _ hp0 hp1) _ hp2 hp3) _ (by omega) hp5) _ b17.1 b17.2) _ (by omega) (by omega)) _ (by omega) (by omega)) _ (by omega) (by omega)) (by omega) (by omega)) (FR.I (FR.I (FR.I (FR.I (FR.I (FR.I (FR.I (FR.I ((FR.refl _ w).tr hF28 rfl) rfl) rfl) rfl) rfl) rfl) rfl) rfl) rfl) ?_ ?_
  · have f26 : (sI (sI (sI (sI (sI (sI (sI (sI w28 27 ((w28.1 26 1).toInt.toNat) a0) 28 ((w28.1 26 1).toInt.toNat) b0) 29 ((w28.1 26 1).toInt.toNat) c0) 30 ((w28.1 26 1).toInt.toNat) (w28.1 17 a0.toInt.toNat)) 31 ((w28.1 26 1).toInt.toNat) (w28.1 26 15)) 32 ((w28.1 26 1).toInt.toNat) ((w28.1 39 0) >>> ((1 : Int32) &&& 31))) 33 ((w28.1 26 1).toInt.toNat) ((w28.1 39 (((w28.1 26 15) - (1 : Int32)).toInt.toNat)) >>> ((1 : Int32) &&& 31))) 26 1 ((w28.1 26 1) + (1 : Int32))).1 26 1 = (w28.1 26 1) + (1 : Int32) := rfl
    have f32 : ∀ j, (sI (sI (sI (sI (sI (sI (sI (sI w28 27 ((w28.1 26 1).toInt.toNat) a0) 28 ((w28.1 26 1).toInt.toNat) b0) 29 ((w28.1 26 1).toInt.toNat) c0) 30 ((w28.1 26 1).toInt.toNat) (w28.1 17 a0.toInt.toNat)) 31 ((w28.1 26 1).toInt.toNat) (w28.1 26 15)) 32 ((w28.1 26 1).toInt.toNat) ((w28.1 39 0) >>> ((1 : Int32) &&& 31))) 33 ((w28.1 26 1).toInt.toNat) ((w28.1 39 (((w28.1 26 15) - (1 : Int32)).toInt.toNat)) >>> ((1 : Int32) &&& 31))) 26 1 ((w28.1 26 1) + (1 : Int32))).1 32 j = if j = (w28.1 26 1).toInt.toNat then ((w28.1 39 0) >>> ((1 : Int32) &&& 31)) else w.1 32 j := by
      intro j
      rw [sI_oth _ _ _ _ _ _ (by decide), sI_oth _ _ _ _ _ _ (by decide), sI_at]
      by_cases hj : j = (w28.1 26 1).toInt.toNat
      · rw [if_pos ⟨rfl, hj⟩, if_pos hj]
      · rw [if_neg (fun q => hj q.2), if_neg hj, sI_oth _ _ _ _ _ _ (by decide), sI_oth _ _ _ _ _ _ (by decide), sI_oth _ _ _ _ _ _ (by decide), sI_oth _ _ _ _ _ _ (by decide), sI_oth _ _ _ _ _ _ (by decide), e32]
    have fo : ∀ k j, k ≠ 26 → k ≠ 27 → k ≠ 28 → k ≠ 29 → k ≠ 30 → k ≠ 31 → k ≠ 32 → k ≠ 33 → (sI (sI (sI (sI (sI (sI (sI (sI w28 27 ((w28.1 26 1).toInt.toNat) a0) 28 ((w28.1 26 1).toInt.toNat) b0) 29 ((w28.1 26 1).toInt.toNat) c0) 30 ((w28.1 26 1).toInt.toNat) (w28.1 17 a0.toInt.toNat)) 31 ((w28.1 26 1).toInt.toNat) (w28.1 26 15)) 32 ((w28.1 26 1).toInt.toNat) ((w28.1 39 0) >>> ((1 : Int32) &&& 31))) 33 ((w28.1 26 1).toInt.toNat) ((w28.1 39 (((w28.1 26 15) - (1 : Int32)).toInt.toNat)) >>> ((1 : Int32) &&& 31))) 26 1 ((w28.1 26 1) + (1 : Int32))).1 k j = w28.1 k j := fun k j h0 h1 h2 h3 h4 h5 h6 h7 => by rw [sI_oth _ _ _ _ _ _ h0, sI_oth _ _ _ _ _ _ h7, sI_oth _ _ _ _ _ _ h6, sI_oth _ _ _ _ _ _ h5, sI_oth _ _ _ _ _ _ h4, sI_oth _ _ _ _ _ _ h3, sI_oth _ _ _ _ _ _ h2, sI_oth _ _ _ _ _ _ h1]
    generalize (sI (sI (sI (sI (sI (sI (sI (sI w28 27 ((w28.1 26 1).toInt.toNat) a0) 28 ((w28.1 26 1).toInt.toNat) b0) 29 ((w28.1 26 1).toInt.toNat) c0) 30 ((w28.1 26 1).toInt.toNat) (w28.1 17 a0.toInt.toNat)) 31 ((w28.1 26 1).toInt.toNat) (w28.1 26 15)) 32 ((w28.1 26 1).toInt.toNat) ((w28.1 39 0) >>> ((1 : Int32) &&& 31))) 33 ((w28.1 26 1).toInt.toNat) ((w28.1 39 (((w28.1 26 15) - (1 : Int32)).toInt.toNat)) >>> ((1 : Int32) &&& 31))) 26 1 ((w28.1 26 1) + (1 : Int32))) = wf at *
    have g36 : ∀ j, wf.1 36 j = w28.1 36 j := fun j => fo 36 j (by decide) (by decide) (by decide) (by decide) (by decide) (by decide) (by decide) (by decide)
    have g35 : ∀ j, wf.1 35 j = w28.1 35 j := fun j => fo 35 j (by decide) (by decide) (by decide) (by decide) (by decide) (by decide) (by decide) (by decide)
    have g34 : ∀ j, wf.1 34 j = w28.1 34 j := fun j => fo 34 j (by decide) (by decide) (by decide) (by decide) (by decide) (by decide) (by decide) (by decide)
    have g13 : ∀ j, wf.1 13 j = w.1 13 j := fun j => (fo 13 j (by decide) (by decide) (by decide) (by decide) (by decide) (by decide) (by decide) (by decide)).trans (e13 j)
    have g80 : wf.1 8 0 = w.1 8 0 := (fo 8 0 (by decide) (by decide) (by decide) (by decide) (by decide) (by decide) (by decide) (by decide)).trans e80
    rw [e39] at s0
    have hInj : ∀ q : Int, InP w q → 0 ≤ q ∧ q < 24 ∧ (w.1 36 q.toNat).toInt = 0 := by
      intro q ⟨j, j0, j1, j2⟩
      have h := hp7 j j0 j1
      have h1 := h.1
      have h2 := h.2.1
      have b8 := bd_8_1 hI
      rw [j2] at h2
      exact ⟨by omega, by omega, h2⟩
    have nown : ∀ q : Int, 0 ≤ q → q < 24 → 0 ≤ own q → ¬ InP w q := by
      intro q q0 q1 qo hin
      have h1 := (hO.1 q q0 q1 qo).1
      have h2 := (hInj q hin).2.2
      omega
    have z39 : (0 : Int32).toInt.toNat = 0 := by decide
    have hin0 : InP w ((w.1 39 0).toInt / 2) := ⟨0, by decide, by rw [i_0]; omega, by rw [z39]⟩
    have hnew := hInj _ hin0
    refine ⟨fun q => ownF (InP w) ((w.1 39 0).toInt / 2) own q, fun q q0 q1 hq => ?_, fun k k0 k1 => ?_, fun k l k0 k1 l0 l1 kl => ?_⟩
    · rw [g36, g35, g34, g13, g80]
      rcases hD q q0 q1 with ⟨j, j0, j1, j2, j3, j4, j5, j6⟩ | ⟨a1, a2, a3, a4⟩
      · refine ⟨j3, ?_⟩
        by_cases cj : j.toInt + 1 < (w.1 26 15).toInt
        · right
          have h9 := (hp7 j j0 j1).2.2 cj
          rw [j4]
          refine ⟨?_, h9.1, h9.2.1⟩
          have e3 := ti_add2 (Eq.refl j.toInt) (by decide : ((1 : Int32)).toInt = 1) (by omega) (by omega)
          have e4 : (j + (1 : Int32)).toInt.toNat = (j.toInt + 1).toNat := by omega
          show ownF (InP w) ((w.1 39 0).toInt / 2) own (w28.1 35 q.toNat).toInt = ownF (InP w) ((w.1 39 0).toInt / 2) own q
          rw [ownF_pos ⟨j + (1 : Int32), by omega, by omega, by rw [e4]; exact (j5 cj).symm⟩, ownF_pos ⟨j, j0, j1, j2⟩]
        · exact Or.inl (j6 cj)
      · have nin : ¬ InP w q := fun ⟨j, j0, j1, j2⟩ => a1 j j0 j1 j2
        have hq : 0 ≤ ownF (InP w) ((w.1 39 0).toInt / 2) own q := hq
        rw [ownF_neg nin] at hq
        have h := hO.1 q q0 q1 hq
        rw [a2, a3, a4]
        refine ⟨h.1, ?_⟩
        rcases h.2 with h2 | h2
        · exact Or.inl h2
        · right
          refine ⟨?_, h2.2⟩
          have b35 := bd_35 hI q.toNat
          show ownF (InP w) ((w.1 39 0).toInt / 2) own (w.1 35 q.toNat).toInt = ownF (InP w) ((w.1 39 0).toInt / 2) own q
          rw [ownF_neg nin]
          by_cases cn : (w.1 35 q.toNat).toInt < 0
          · have nin2 : ¬ InP w (w.1 35 q.toNat).toInt := fun hh => by have := (hInj _ hh).1; omega
            rw [ownF_neg nin2]
            exact h2.1
          · rw [ownF_neg (nown _ (by omega) (by omega) (by rw [h2.1]; exact hq))]
            exact h2.1
    · rw [f26, ea, e26] at k1
      rw [f32]
      by_cases ck : k.toInt.toNat = (w28.1 26 1).toInt.toNat
      · rw [if_pos ck, e39, s0]
        show ownF (InP w) ((w.1 39 0).toInt / 2) own ((w.1 39 0).toInt / 2) = (w.1 39 0).toInt / 2
        rw [ownF_pos hin0]
      · rw [if_neg ck]
        rw [e26] at ck
        have h := hO.2.1 k k0 (by omega)
        have b := bd_32 hI k.toInt.toNat
        show ownF (InP w) ((w.1 39 0).toInt / 2) own (w.1 32 k.toInt.toNat).toInt = (w.1 32 k.toInt.toNat).toInt
        rw [ownF_neg (nown _ b.1 (by omega) (by omega))]
        exact h
    · rw [f26, ea, e26] at k1 l1
      have key : ∀ m : Int32, 0 ≤ m.toInt → m.toInt < (w.1 26 1).toInt → ¬ (w.1 32 m.toInt.toNat).toInt = (w.1 39 0).toInt / 2 := by
        intro m m0 m1 q
        have h := hO.2.1 m m0 m1
        have b := bd_32 hI m.toInt.toNat
        have h2 := (hO.1 _ b.1 (by omega) (by omega)).1
        rw [q] at h2
        omega
      rw [f32, f32]
      by_cases ck : k.toInt.toNat = (w28.1 26 1).toInt.toNat
      · by_cases cl : l.toInt.toNat = (w28.1 26 1).toInt.toNat
        · omega
        · rw [if_pos ck, if_neg cl, e39, s0]
          rw [e26] at ck cl
          intro q
          exact key l l0 (by omega) q.symm
      · by_cases cl : l.toInt.toNat = (w28.1 26 1).toInt.toNat
        · rw [if_neg ck, if_pos cl, e39, s0]
          rw [e26] at ck cl
          exact key k k0 (by omega)
        · rw [if_neg ck, if_neg cl]
          rw [e26] at ck cl
          exact hO.2.2 k l k0 (by omega) l0 (by omega) kl
  · have f26 : (sI (sI (sI (sI (sI (sI (sI (sI w28 27 ((w28.1 26 1).toInt.toNat) a0) 28 ((w28.1 26 1).toInt.toNat) b0) 29 ((w28.1 26 1).toInt.toNat) c0) 30 ((w28.1 26 1).toInt.toNat) (w28.1 17 a0.toInt.toNat)) 31 ((w28.1 26 1).toInt.toNat) (w28.1 26 15)) 32 ((w28.1 26 1).toInt.toNat) ((w28.1 39 0) >>> ((1 : Int32) &&& 31))) 33 ((w28.1 26 1).toInt.toNat) ((w28.1 39 (((w28.1 26 15) - (1 : Int32)).toInt.toNat)) >>> ((1 : Int32) &&& 31))) 26 1 ((w28.1 26 1) + (1 : Int32))).1 26 1 = (w28.1 26 1) + (1 : Int32) := rfl
    rw [f26, ea, e26]
def l_Ac_openWay_45 : Pl := []
def l_Ac_openWay : Pl := [(16, none), (26, some 1), (26, some 15), (27, none), (28, none), (29, none), (30, none), (31, none), (32, none), (33, none), (34, none), (35, none), (36, none), (37, none), (38, none), (39, none), (40, none), (42, some 6), (42, some 7), (42, some 8), (42, some 9), (43, none), (44, none), (45, none), (46, none)]
set_option maxRecDepth 20000 in
set_option maxHeartbeats 2000000 in
theorem hq_Ac_openWay_45 {x45_1 : Int32} {x45_2 : Int32} {x45_3 : Int32} {E : MW → Prop} {Q : Int32 → MW → Prop} (n : Nat) : ∀ (x45_4 : Int32) (w : MW), BND w → w.2.2 7 0 = some 8 → 0 ≤ x45_1.toInt → x45_1.toInt ≤ 19 → 0 ≤ x45_2.toInt → x45_2.toInt ≤ 19 → 1 ≤ x45_3.toInt → x45_3.toInt ≤ 100 → 0 ≤ x45_4.toInt → x45_4.toInt ≤ 24 → PWy w → (24 - x45_4.toInt).toNat < n → (∀ (w' : MW), BND w' → FR l_Ac_openWay_45 w w' → E w') → (∀ (r : Int32) (w' : MW), BND w' → FR l_Ac_openWay_45 w w' → 6 ≤ r.toInt → r.toInt ≤ 6 → Q r w') → q_Ac_openWay_45 x45_1 x45_2 x45_3 E Q n x45_4 w := by
  induction n with
  | zero => intros; omega
  | succ n ih =>
    intro x45_4 w hI hr_7_0 hp0 hp1 hp2 hp3 hp4 hp5 hp6 hp7 hp8 hm hE hQ
    rw [q_Ac_openWay_45.eq_2]
    refine ⟨fun h6022 => ?_, fun h6022 => ?_⟩
    · exact hE _ hI (FR.refl _ w)
    · refine ⟨hr_7_0, ?_⟩
      have o6023 : 0 ≤ x45_4.toInt ∧ x45_4.toInt < 24 := by have := bd_26_15 hI; omega
      refine ⟨o6023, ?_⟩
      have o6024 : 0 ≤ x45_1.toInt ∧ x45_1.toInt < 44 := by omega
      refine ⟨o6024, ?_⟩
      have o6025 : (0 ≤ ((w.1 8 0) + ((w.1 39 x45_4.toInt.toNat) >>> ((1 : Int32) &&& 31))).toInt) ∧ (((w.1 8 0) + ((w.1 39 x45_4.toInt.toNat) >>> ((1 : Int32) &&& 31))).toInt ≤ 43) ∧ (0 ≤ (w.1 17 x45_1.toInt.toNat).toInt) ∧ ((w.1 17 x45_1.toInt.toNat).toInt ≤ 14) := by have := bd_8_0 hI; have := bd_26_15 hI; have := bd_8_1 hI; have := bd_39 hI x45_4.toInt.toNat; have := bd_17 hI x45_1.toInt.toNat; (try have := pw_use (i := x45_4) hp8 (by omega) (by omega)); have := nb_shr (w.1 39 x45_4.toInt.toNat) ((1 : Int32) &&& 31) 1 2 rfl rfl; have := ti_add2 (Eq.refl (w.1 8 0).toInt) (Eq.refl ((w.1 39 x45_4.toInt.toNat) >>> ((1 : Int32) &&& 31)).toInt) (by omega) (by omega); exact ⟨by omega, by omega, by omega, by omega⟩
      refine h_St_mayCome hI  o6025.1 o6025.2.1 o6025.2.2.1 o6025.2.2.2 (fun r6029 w6026 hI6027 hL6028 p6030 p6031 => ?_)
      have hF6032 : FR l_Ac_openWay_45 w w6026 := (FR.refl _ w).tr hL6028 rfl
      refine ⟨fun h6033 => ?_, fun h6033 => ?_⟩
      · have o6034 : (0 ≤ x45_1.toInt) ∧ (x45_1.toInt ≤ 19) ∧ (0 ≤ x45_2.toInt) ∧ (x45_2.toInt ≤ 19) ∧ (1 ≤ x45_3.toInt) ∧ (x45_3.toInt ≤ 100) ∧ (0 ≤ (x45_4 + (1 : Int32)).toInt) ∧ ((x45_4 + (1 : Int32)).toInt ≤ 24) := by have := bd_26_15 hI; have := ti_add2 (Eq.refl x45_4.toInt) (by decide : ((1 : Int32)).toInt = 1) (by omega) (by omega); exact ⟨by omega, by omega, by omega, by omega, by omega, by omega, by omega, by omega⟩
        exact ih _ w6026 hI6027 ((hL6028 7 0 rfl).2.2.trans hr_7_0) o6034.1 o6034.2.1 o6034.2.2.1 o6034.2.2.2.1 o6034.2.2.2.2.1 o6034.2.2.2.2.2.1 o6034.2.2.2.2.2.2.1 o6034.2.2.2.2.2.2.2 (PWy_fr hL6028 rfl hp8) (by have := bd_26_15 hI; have := ti_add2 (Eq.refl x45_4.toInt) (by decide : ((1 : Int32)).toInt = 1) (by omega) (by omega); omega) (fun w9 hI9 hF9 => hE w9 hI9 (hF6032.tr hF9 rfl) ) (fun r w9 hI9 hF9 q0 q1 => hQ r w9 hI9 (hF6032.tr hF9 rfl) (by have := bd_26_15 hI; have := ti_add2 (Eq.refl x45_4.toInt) (by decide : ((1 : Int32)).toInt = 1) (by omega) (by omega); omega) (by have := bd_26_15 hI; have := ti_add2 (Eq.refl x45_4.toInt) (by decide : ((1 : Int32)).toInt = 1) (by omega) (by omega); omega))
      · have o6035 : (6 ≤ (6 : Int32).toInt) ∧ ((6 : Int32).toInt ≤ 6) := by have := (by decide : ((6 : Int32)).toInt = 6); exact ⟨by omega, by omega⟩
        exact hQ _ _ hI6027 hF6032  o6035.1 o6035.2
set_option maxRecDepth 20000 in
set_option maxHeartbeats 2000000 in
theorem h_Ac_openWay {w : MW} {a0 : Int32} {b0 : Int32} {c0 : Int32} {Q : Int32 → MW → Prop} (hI : BND w) (hf_PE : PE w) (hf_PJ : PJ w) (hf_PL : PL w) (hf_WO : WO w) (hr_7_0 : w.2.2 7 0 = some 8) (hp0 : 0 ≤ a0.toInt) (hp1 : a0.toInt ≤ 19) (hp2 : 0 ≤ b0.toInt) (hp3 : b0.toInt ≤ 19) (hp4 : 1 ≤ c0.toInt) (hp5 : c0.toInt ≤ 100) (hQ : ∀ (r : Int32) (w' : MW), BND w' → FR l_Ac_openWay w w' → WO w' → 0 ≤ r.toInt → r.toInt ≤ 7 → Q r w') : p_Ac_openWay w a0 b0 c0 Q := by
  refine Eq.mpr (p_Ac_openWay.eq_1 _ _ _ _ _) ?_
  refine h_Wa_indexOf hI   (fun r6039 w6036 hI6037 hL6038 p6040 p6041 p6042 => ?_)
  have hF6043 : FR l_Ac_openWay w w6036 := (FR.refl _ w).tr hL6038 rfl
  refine ⟨fun h6044 => ?_, fun h6044 => ?_⟩
  · have o6045 : 0 ≤ a0.toInt ∧ a0.toInt < 44 := by omega
    refine ⟨o6045, ?_⟩
    refine ⟨fun h6046 => ?_, fun h6046 => ?_⟩
    · have o6047 : (0 ≤ a0.toInt) ∧ (a0.toInt ≤ 19) ∧ (0 ≤ b0.toInt) ∧ (b0.toInt ≤ 19) := by exact ⟨by omega, by omega, by omega, by omega⟩
      refine h_Wa_find hI6037 (PE_fr hL6038 rfl hf_PE) (PJ_fr hL6038 rfl hf_PJ) (PL_fr hL6038 rfl hf_PL) ((hL6038 7 0 rfl).2.2.trans hr_7_0) o6047.1 o6047.2.1 o6047.2.2.1 o6047.2.2.2 (fun r6051 w6048 hI6049 hL6050 p6052 p6053 p6054 p6055 => ?_)
      have hF6056 : FR l_Ac_openWay w w6048 := hF6043.tr hL6050 rfl
      refine ⟨fun h6057 => ?_, fun h6057 => ?_⟩
      · have o6058 : (0 ≤ a0.toInt) ∧ (a0.toInt ≤ 19) ∧ (0 ≤ b0.toInt) ∧ (b0.toInt ≤ 19) ∧ (1 ≤ c0.toInt) ∧ (c0.toInt ≤ 100) ∧ (0 ≤ (0 : Int32).toInt) ∧ ((0 : Int32).toInt ≤ 24) := by have := (by decide : ((0 : Int32)).toInt = 0); exact ⟨by omega, by omega, by omega, by omega, by omega, by omega, by omega, by omega⟩
        have hW6062 : WO w6048 := (WO_fr hL6050 rfl (WO_fr hL6038 rfl hf_WO))
        refine hq_Ac_openWay_45 FU _ w6048 hI6049 ((hL6050 7 0 rfl).2.2.trans ((hL6038 7 0 rfl).2.2.trans hr_7_0)) o6058.1 o6058.2.1 o6058.2.2.1 o6058.2.2.2.1 o6058.2.2.2.2.1 o6058.2.2.2.2.2.1 o6058.2.2.2.2.2.2.1 o6058.2.2.2.2.2.2.2 p6055 (fu_lt (by have := (by decide : ((0 : Int32)).toInt = 0); omega)) (fun w6059 hI6060 hL6061  => ?_) (fun r w9 hI9 hF9 q0 q1 => hQ r w9 hI9 ((hF6056).tr hF9 rfl) (WO_fr hF9 rfl hW6062) (by have := (by decide : ((0 : Int32)).toInt = 0); omega) (by have := (by decide : ((0 : Int32)).toInt = 0); omega))
        have hF6063 : FR l_Ac_openWay w w6059 := hF6056.tr hL6061 rfl
        have o6064 : 0 ≤ a0.toInt ∧ a0.toInt < 44 := by omega
        refine ⟨o6064, ?_⟩
        have o6065 : (0 ≤ b0.toInt) ∧ (b0.toInt ≤ 43) ∧ (0 ≤ (w6059.1 17 a0.toInt.toNat).toInt) ∧ ((w6059.1 17 a0.toInt.toNat).toInt ≤ 14) := by have := bd_17 hI6060 a0.toInt.toNat; have := bd_17 hI6049 a0.toInt.toNat; have := bd_17 hI6037 a0.toInt.toNat; have := bd_17 hI a0.toInt.toNat; have := (congrArg Int32.toInt (hL6038 17 a0.toInt.toNat rfl).1); have := (congrArg Int32.toInt (hL6050 17 a0.toInt.toNat rfl).1); have := (congrArg Int32.toInt (hL6061 17 a0.toInt.toNat rfl).1); have := (by decide : ((0 : Int32)).toInt = 0); exact ⟨by omega, by omega, by omega, by omega⟩
        refine h_St_mayCome hI6060  o6065.1 o6065.2.1 o6065.2.2.1 o6065.2.2.2 (fun r6069 w6066 hI6067 hL6068 p6070 p6071 => ?_)
        have hF6072 : FR l_Ac_openWay w w6066 := hF6063.tr hL6068 rfl
        refine ⟨fun h6073 => ?_, fun h6073 => ?_⟩
        · have hW6074 : WO w6066 := (WO_fr hL6068 rfl (WO_fr hL6061 rfl hW6062))
          have o6075 : (0 ≤ a0.toInt) ∧ (a0.toInt ≤ 19) ∧ (0 ≤ b0.toInt) ∧ (b0.toInt ≤ 19) ∧ (1 ≤ c0.toInt) ∧ (c0.toInt ≤ 100) ∧ (1 ≤ (w6066.1 26 15).toInt) := by have := bd_26_15 hI6067; have := bd_26_15 hI6060; have := bd_26_15 hI6049; have := (congrArg Int32.toInt (hL6061 26 15 rfl).1); have := (congrArg Int32.toInt (hL6068 26 15 rfl).1); have := (by decide : ((0 : Int32)).toInt = 0); exact ⟨by omega, by omega, by omega, by omega, by omega, by omega, by omega⟩
          have hW6076 : PWy w6066 := (PWy_fr hL6068 rfl (PWy_fr hL6061 rfl p6055))
          refine h_Wa_openFound hI6067 (PL_fr hL6068 rfl (PL_fr hL6061 rfl (PL_fr hL6050 rfl (PL_fr hL6038 rfl hf_PL)))) hW6074 ((hL6068 7 0 rfl).2.2.trans ((hL6061 7 0 rfl).2.2.trans ((hL6050 7 0 rfl).2.2.trans ((hL6038 7 0 rfl).2.2.trans hr_7_0)))) o6075.1 o6075.2.1 o6075.2.2.1 o6075.2.2.2.1 o6075.2.2.2.2.1 o6075.2.2.2.2.2.1 o6075.2.2.2.2.2.2 hW6076 (fun w6077 hI6078 hL6079 hlw6077_WO p6081 => ?_)
          have hF6082 : FR l_Ac_openWay w w6077 := hF6072.tr hL6079 rfl
          refine h_Sf_isSafe hI6078 (PE_fr hL6079 rfl (PE_fr hL6068 rfl (PE_fr hL6061 rfl (PE_fr hL6050 rfl (PE_fr hL6038 rfl hf_PE))))) (PL_fr hL6079 rfl (PL_fr hL6068 rfl (PL_fr hL6061 rfl (PL_fr hL6050 rfl (PL_fr hL6038 rfl hf_PL))))) ((hL6079 7 0 rfl).2.2.trans ((hL6068 7 0 rfl).2.2.trans ((hL6061 7 0 rfl).2.2.trans ((hL6050 7 0 rfl).2.2.trans ((hL6038 7 0 rfl).2.2.trans hr_7_0)))))  (fun r6086 w6083 hI6084 hL6085 p6087 p6088 => ?_)
          have hF6089 : FR l_Ac_openWay w w6083 := hF6082.tr hL6085 rfl
          refine ⟨fun h6090 => ?_, fun h6090 => ?_⟩
          · refine Eq.mpr (p_Wa_undoOpening.eq_1 _ _) ?_
            have o6091 : (0 ≤ ((w6083.1 26 1) - (1 : Int32)).toInt) ∧ (((w6083.1 26 1) - (1 : Int32)).toInt ≤ 23) ∧ (0 ≤ (1 : Int32).toInt) ∧ ((1 : Int32).toInt ≤ 1) ∧ (((w6083.1 26 1) - (1 : Int32)).toInt < (w6083.1 26 1).toInt) := by have := bd_26_1 hI6084; have := bd_26_1 hI6078; have := (congrArg Int32.toInt (hL6085 26 1 rfl).1); have := (by decide : ((1 : Int32)).toInt = 1); have := bd_26_1 hI; have := (by decide : ((0 : Int32)).toInt = 0); have := bd_26_1 hI6067; have := bd_26_1 hI6060; have := bd_26_1 hI6049; have := bd_26_1 hI6037; have := (congrArg Int32.toInt (hL6038 26 1 rfl).1); have := (congrArg Int32.toInt (hL6050 26 1 rfl).1); have := (congrArg Int32.toInt (hL6061 26 1 rfl).1); have := (congrArg Int32.toInt (hL6068 26 1 rfl).1); have := ti_sub2 (Eq.refl (w6083.1 26 1).toInt) (by decide : ((1 : Int32)).toInt = 1) (by omega) (by omega); exact ⟨by omega, by omega, by omega, by omega, by omega⟩
            refine h_Wa_remove hI6084 (PL_fr hL6085 rfl (PL_fr hL6079 rfl (PL_fr hL6068 rfl (PL_fr hL6061 rfl (PL_fr hL6050 rfl (PL_fr hL6038 rfl hf_PL)))))) (WO_fr hL6085 rfl hlw6077_WO) ((hL6085 7 0 rfl).2.2.trans ((hL6079 7 0 rfl).2.2.trans ((hL6068 7 0 rfl).2.2.trans ((hL6061 7 0 rfl).2.2.trans ((hL6050 7 0 rfl).2.2.trans ((hL6038 7 0 rfl).2.2.trans hr_7_0)))))) o6091.1 o6091.2.1 o6091.2.2.1 o6091.2.2.2.1 o6091.2.2.2.2 (fun w6092 hI6093 hL6094 hlw6092_WO p6096 => ?_)
            have hF6097 : FR l_Ac_openWay w w6092 := hF6089.tr hL6094 rfl
            have o6098 : (0 ≤ (7 : Int32).toInt) ∧ ((7 : Int32).toInt ≤ 7) := by have := (by decide : ((7 : Int32)).toInt = 7); exact ⟨by omega, by omega⟩
            exact hQ _ _ hI6093 hF6097 hlw6092_WO  o6098.1 o6098.2
          · have o6099 : (0 ≤ (0 : Int32).toInt) ∧ ((0 : Int32).toInt ≤ 7) := by have := (by decide : ((0 : Int32)).toInt = 0); exact ⟨by omega, by omega⟩
            exact hQ _ _ hI6084 hF6089 (WO_fr hL6085 rfl hlw6077_WO)  o6099.1 o6099.2
        · have hW6100 : WO w6066 := (WO_fr hL6068 rfl (WO_fr hL6061 rfl hW6062))
          have o6101 : (0 ≤ (6 : Int32).toInt) ∧ ((6 : Int32).toInt ≤ 7) := by have := (by decide : ((6 : Int32)).toInt = 6); exact ⟨by omega, by omega⟩
          exact hQ _ _ hI6067 hF6072 hW6100  o6101.1 o6101.2
      · have hW6102 : WO w6048 := (WO_fr hL6050 rfl (WO_fr hL6038 rfl hf_WO))
        have o6103 : (0 ≤ (5 : Int32).toInt) ∧ ((5 : Int32).toInt ≤ 7) := by have := (by decide : ((5 : Int32)).toInt = 5); exact ⟨by omega, by omega⟩
        exact hQ _ _ hI6049 hF6056 hW6102  o6103.1 o6103.2
    · have o6104 : (0 ≤ (4 : Int32).toInt) ∧ ((4 : Int32).toInt ≤ 7) := by have := (by decide : ((4 : Int32)).toInt = 4); exact ⟨by omega, by omega⟩
      exact hQ _ _ hI6037 hF6043 (WO_fr hL6038 rfl hf_WO)  o6104.1 o6104.2
  · have o6105 : (0 ≤ (3 : Int32).toInt) ∧ ((3 : Int32).toInt ≤ 7) := by have := (by decide : ((3 : Int32)).toInt = 3); exact ⟨by omega, by omega⟩
    exact hQ _ _ hI6037 hF6043 (WO_fr hL6038 rfl hf_WO)  o6105.1 o6105.2
def l_Ac_setPosition : Pl := [(16, none), (42, some 6), (42, some 7), (42, some 8), (42, some 9), (43, none), (44, none), (45, none), (46, none)]
set_option maxRecDepth 20000 in
set_option maxHeartbeats 2000000 in
theorem h_Ac_setPosition {w : MW} {a0 : Int32} {b0 : Int32} {Q : Int32 → MW → Prop} (hI : BND w) (hf_PE : PE w) (hf_PL : PL w) (hr_7_0 : w.2.2 7 0 = some 8) (hp0 : 0 ≤ a0.toInt) (hp1 : a0.toInt ≤ 19) (hp2 : 0 ≤ b0.toInt) (hp3 : b0.toInt ≤ 9) (hQ : ∀ (r : Int32) (w' : MW), BND w' → FR l_Ac_setPosition w w' → 0 ≤ r.toInt → r.toInt ≤ 7 → Q r w') : p_Ac_setPosition w a0 b0 Q := by
  refine Eq.mpr (p_Ac_setPosition.eq_1 _ _ _ _) ?_
  refine Eq.mpr (p_Wa_goesOver.eq_1 _ _ _) ?_
  have o6106 : 0 ≤ a0.toInt ∧ a0.toInt < 20 := by omega
  refine ⟨o6106, ?_⟩
  refine ⟨fun h6107 => ?_, fun h6107 => ?_⟩
  · refine ⟨fun _ => ?_, fun h => absurd (by decide) h⟩
    have o6108 : 0 ≤ a0.toInt ∧ a0.toInt < 20 := by omega
    refine ⟨o6108, ?_⟩
    have o6109 : 0 ≤ a0.toInt ∧ a0.toInt < 20 := by omega
    refine ⟨o6109, ?_⟩
    have o6111 : 0 ≤ b0.toInt ∧ b0.toInt ≤ 9 := by omega
    have hI6110 : BND (sI w 16 a0.toInt.toNat b0) := wbd_16 hI a0.toInt.toNat o6111.1 o6111.2
    refine h_Sf_isSafe hI6110 (PE_fr (l := [(16, none)]) (FR.I (FR.refl _ w) (k := 16) (j := a0.toInt.toNat) (v := b0) rfl) rfl hf_PE) (PL_fr (l := [(16, none)]) (FR.I (FR.refl _ w) (k := 16) (j := a0.toInt.toNat) (v := b0) rfl) rfl hf_PL) hr_7_0  (fun r6115 w6112 hI6113 hL6114 p6116 p6117 => ?_)
    have hF6118 : FR l_Ac_setPosition w w6112 := (FR.I (FR.refl _ w) (k := 16) (j := a0.toInt.toNat) (v := b0) rfl).tr hL6114 rfl
    refine ⟨fun h6119 => ?_, fun h6119 => ?_⟩
    · have o6120 : 0 ≤ a0.toInt ∧ a0.toInt < 20 := by omega
      refine ⟨o6120, ?_⟩
      have o6122 : 0 ≤ (w.1 16 a0.toInt.toNat).toInt ∧ (w.1 16 a0.toInt.toNat).toInt ≤ 9 := by have := bd_16 hI a0.toInt.toNat; omega
      have hI6121 : BND (sI w6112 16 a0.toInt.toNat (w.1 16 a0.toInt.toNat)) := wbd_16 hI6113 a0.toInt.toNat o6122.1 o6122.2
      have o6123 : (0 ≤ (7 : Int32).toInt) ∧ ((7 : Int32).toInt ≤ 7) := by have := (by decide : ((7 : Int32)).toInt = 7); exact ⟨by omega, by omega⟩
      exact hQ _ _ hI6121 (FR.I hF6118 (k := 16) (j := a0.toInt.toNat) (v := (w.1 16 a0.toInt.toNat)) rfl)  o6123.1 o6123.2
    · have o6124 : (0 ≤ (0 : Int32).toInt) ∧ ((0 : Int32).toInt ≤ 7) := by have := (by decide : ((0 : Int32)).toInt = 0); exact ⟨by omega, by omega⟩
      exact hQ _ _ hI6113 hF6118  o6124.1 o6124.2
  · refine ⟨fun h => absurd h (by decide), fun _ => ?_⟩
    have o6125 : (0 ≤ (3 : Int32).toInt) ∧ ((3 : Int32).toInt ≤ 7) := by have := (by decide : ((3 : Int32)).toInt = 3); exact ⟨by omega, by omega⟩
    exact hQ _ _ hI (FR.refl _ w)  o6125.1 o6125.2
def l_Ro_isOn_10 : Pl := []
def l_Ro_isOn : Pl := []
set_option maxRecDepth 20000 in
set_option maxHeartbeats 2000000 in
theorem hq_Ro_isOn_10 {x10_1 : Int32} {E : Int64 → MW → Prop} {Q : Int32 → MW → Prop} (n : Nat) : ∀ (x10_2 : Int64) (x10_4 : Int32) (w : MW), BND w → 0 ≤ x10_1.toInt → x10_1.toInt ≤ 39 → 0 ≤ x10_4.toInt → x10_4.toInt ≤ 1400 → (1400 - x10_4.toInt).toNat < n → (∀ (e10_2 : Int64) (w' : MW), BND w' → FR l_Ro_isOn_10 w w' → E e10_2 w') → (∀ (r : Int32) (w' : MW), BND w' → FR l_Ro_isOn_10 w w' → False → Q r w') → q_Ro_isOn_10 x10_1 E Q n x10_2 x10_4 w := by
  induction n with
  | zero => intros; omega
  | succ n ih =>
    intro x10_2 x10_4 w hI  hp0 hp1 hp2 hp3 hm hE hQ
    rw [q_Ro_isOn_10.eq_2]
    have o6126 : 0 ≤ (x10_1 + (1 : Int32)).toInt ∧ (x10_1 + (1 : Int32)).toInt < 41 := by have := ti_add2 (Eq.refl x10_1.toInt) (by decide : ((1 : Int32)).toInt = 1) (by omega) (by omega); omega
    refine ⟨o6126, ?_⟩
    refine ⟨fun h6127 => ?_, fun h6127 => ?_⟩
    · exact hE _ _ hI (FR.refl _ w)
    · have o6128 : 0 ≤ x10_4.toInt ∧ x10_4.toInt < 1400 := by have := bd_55 hI ((x10_1 + (1 : Int32)).toInt.toNat); omega
      refine ⟨o6128, ?_⟩
      refine ⟨fun h6129 => ?_, fun h6129 => ?_⟩
      · have o6130 : 0 ≤ x10_4.toInt ∧ x10_4.toInt < 1400 := by have := bd_55 hI ((x10_1 + (1 : Int32)).toInt.toNat); omega
        refine ⟨o6130, ?_⟩
        refine ⟨fun h6131 => ?_, fun h6131 => ?_⟩
        · have o6132 : 0 ≤ x10_4.toInt ∧ x10_4.toInt < 1400 := by have := bd_55 hI ((x10_1 + (1 : Int32)).toInt.toNat); omega
          refine ⟨o6132, ?_⟩
          refine ⟨fun h6133 => ?_, fun h6133 => ?_⟩
          · have o6134 : (0 ≤ x10_1.toInt) ∧ (x10_1.toInt ≤ 39) ∧ (0 ≤ (x10_4 + (1 : Int32)).toInt) ∧ ((x10_4 + (1 : Int32)).toInt ≤ 1400) := by have := bd_55 hI ((x10_1 + (1 : Int32)).toInt.toNat); have := ti_add2 (Eq.refl x10_4.toInt) (by decide : ((1 : Int32)).toInt = 1) (by omega) (by omega); exact ⟨by omega, by omega, by omega, by omega⟩
            exact ih _ _ w hI  o6134.1 o6134.2.1 o6134.2.2.1 o6134.2.2.2 (by have := bd_55 hI ((x10_1 + (1 : Int32)).toInt.toNat); have := ti_add2 (Eq.refl x10_4.toInt) (by decide : ((1 : Int32)).toInt = 1) (by omega) (by omega); omega) (fun e0 w9 hI9 hF9 => hE e0 w9 hI9 ((FR.refl _ w).tr hF9 rfl) ) (fun r w9 hI9 hF9 q0 => q0.elim)
          · have o6135 : (0 ≤ x10_1.toInt) ∧ (x10_1.toInt ≤ 39) ∧ (0 ≤ (x10_4 + (1 : Int32)).toInt) ∧ ((x10_4 + (1 : Int32)).toInt ≤ 1400) := by have := bd_55 hI ((x10_1 + (1 : Int32)).toInt.toNat); have := ti_add2 (Eq.refl x10_4.toInt) (by decide : ((1 : Int32)).toInt = 1) (by omega) (by omega); exact ⟨by omega, by omega, by omega, by omega⟩
            exact ih _ _ w hI  o6135.1 o6135.2.1 o6135.2.2.1 o6135.2.2.2 (by have := bd_55 hI ((x10_1 + (1 : Int32)).toInt.toNat); have := ti_add2 (Eq.refl x10_4.toInt) (by decide : ((1 : Int32)).toInt = 1) (by omega) (by omega); omega) (fun e0 w9 hI9 hF9 => hE e0 w9 hI9 ((FR.refl _ w).tr hF9 rfl) ) (fun r w9 hI9 hF9 q0 => q0.elim)
        · have o6136 : (0 ≤ x10_1.toInt) ∧ (x10_1.toInt ≤ 39) ∧ (0 ≤ (x10_4 + (1 : Int32)).toInt) ∧ ((x10_4 + (1 : Int32)).toInt ≤ 1400) := by have := bd_55 hI ((x10_1 + (1 : Int32)).toInt.toNat); have := ti_add2 (Eq.refl x10_4.toInt) (by decide : ((1 : Int32)).toInt = 1) (by omega) (by omega); exact ⟨by omega, by omega, by omega, by omega⟩
          exact ih _ _ w hI  o6136.1 o6136.2.1 o6136.2.2.1 o6136.2.2.2 (by have := bd_55 hI ((x10_1 + (1 : Int32)).toInt.toNat); have := ti_add2 (Eq.refl x10_4.toInt) (by decide : ((1 : Int32)).toInt = 1) (by omega) (by omega); omega) (fun e0 w9 hI9 hF9 => hE e0 w9 hI9 ((FR.refl _ w).tr hF9 rfl) ) (fun r w9 hI9 hF9 q0 => q0.elim)
      · have o6137 : 0 ≤ x10_4.toInt ∧ x10_4.toInt < 1400 := by have := bd_55 hI ((x10_1 + (1 : Int32)).toInt.toNat); omega
        refine ⟨o6137, ?_⟩
        have o6138 : (0 ≤ x10_1.toInt) ∧ (x10_1.toInt ≤ 39) ∧ (0 ≤ (x10_4 + (1 : Int32)).toInt) ∧ ((x10_4 + (1 : Int32)).toInt ≤ 1400) := by have := bd_55 hI ((x10_1 + (1 : Int32)).toInt.toNat); have := bd_56 hI x10_4.toInt.toNat; have := (by decide : ((16 : Int32)).toInt = 16); have := ti_add2 (Eq.refl x10_4.toInt) (by decide : ((1 : Int32)).toInt = 1) (by omega) (by omega); exact ⟨by omega, by omega, by omega, by omega⟩
        exact ih _ _ w hI  o6138.1 o6138.2.1 o6138.2.2.1 o6138.2.2.2 (by have := bd_55 hI ((x10_1 + (1 : Int32)).toInt.toNat); have := bd_56 hI x10_4.toInt.toNat; have := (by decide : ((16 : Int32)).toInt = 16); have := ti_add2 (Eq.refl x10_4.toInt) (by decide : ((1 : Int32)).toInt = 1) (by omega) (by omega); omega) (fun e0 w9 hI9 hF9 => hE e0 w9 hI9 ((FR.refl _ w).tr hF9 rfl) ) (fun r w9 hI9 hF9 q0 => q0.elim)
set_option maxRecDepth 20000 in
set_option maxHeartbeats 2000000 in
theorem h_Ro_isOn {w : MW} {a0 : Int32} {Q : Int32 → MW → Prop} (hI : BND w) (hp0 : 0 ≤ a0.toInt) (hp1 : a0.toInt ≤ 39) (hQ : ∀ (r : Int32) (w' : MW), BND w' → FR l_Ro_isOn w w' → 0 ≤ r.toInt → r.toInt ≤ 1 → Q r w') : p_Ro_isOn w a0 Q := by
  refine Eq.mpr (p_Ro_isOn.eq_1 _ _ _) ?_
  have o6139 : 0 ≤ a0.toInt ∧ a0.toInt < 41 := by omega
  refine ⟨o6139, ?_⟩
  have o6140 : (0 ≤ a0.toInt) ∧ (a0.toInt ≤ 39) ∧ (0 ≤ (w.1 55 a0.toInt.toNat).toInt) ∧ ((w.1 55 a0.toInt.toNat).toInt ≤ 1400) := by have := (by decide : ((0 : Int64)).toInt = 0); have := bd_55 hI a0.toInt.toNat; exact ⟨by omega, by omega, by omega, by omega⟩
  refine hq_Ro_isOn_10 FU _ _ w hI  o6140.1 o6140.2.1 o6140.2.2.1 o6140.2.2.2 (fu_lt (by have := (by decide : ((0 : Int64)).toInt = 0); have := bd_55 hI a0.toInt.toNat; omega)) (fun e6144 w6141 hI6142 hL6143  => ?_) (fun r w9 hI9 hF9 q0 => q0.elim)
  have hF6145 : FR l_Ro_isOn w w6141 := (FR.refl _ w).tr hL6143 rfl
  refine ⟨fun h6146 => ?_, fun h6146 => ?_⟩
  · have o6147 : (0 ≤ (0 : Int32).toInt) ∧ ((0 : Int32).toInt ≤ 1) := by have := (by decide : ((0 : Int32)).toInt = 0); exact ⟨by omega, by omega⟩
    exact hQ _ _ hI6142 hF6145  o6147.1 o6147.2
  · have o6148 : (0 ≤ (1 : Int32).toInt) ∧ ((1 : Int32).toInt ≤ 1) := by have := (by decide : ((1 : Int32)).toInt = 1); exact ⟨by omega, by omega⟩
    exact hQ _ _ hI6142 hF6145  o6148.1 o6148.2
