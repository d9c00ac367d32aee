/-! the reference measures: litres and pipes left from each end -/
def LLw (w : MW) (e : Nat) : Int := (w.1 188 e).toInt
def LPw (w : MW) (e : Nat) : Int := (w.1 189 e).toInt
def szM (w : MW) (e : Nat) : Int := (w.1 169 (e / 2)).toInt
/-- the other end of a pipe -/
def xo (e : Nat) : Nat := if e % 2 = 0 then e + 1 else e - 1
theorem xo_i {e : Int32} (h : 0 ≤ e.toInt) : (e ^^^ (1 : Int32)).toInt = (xo e.toInt.toNat : Int) := by
  rw [nb_xor1 h]
  unfold xo
  split <;> omega
theorem xo_x (e : Nat) : xo (xo e) = e := by
  unfold xo
  split <;> split <;> omega
theorem xo_2 (e : Nat) : xo e / 2 = e / 2 := by
  unfold xo
  split <;> omega
theorem xo_lt {e N : Nat} (h : e < 2 * N) : xo e < 2 * N := by
  unfold xo
  split <;> omega
def ADm (z : MW) (e g : Nat) : Prop := frM z e ∧ ∃ n, AL z (xo e) g n
def BsM (z : MW) (t : Int) (e : Nat) : Prop := atM z (xo e) = t ∧ frM z e
def NNd (z : MW) : Nat := (2 * pM z).toNat
/-- the places that finding changes -/
def okM (k j : Nat) : Bool := !(k == 188 || k == 189 || k == 191 || k == 192 || (k == 127 && j == 39))
def oM (z w : MW) : Prop := w.2 = z.2 ∧ ∀ k j, okM k j = true → w.1 k j = z.1 k j
theorem oM_r (w : MW) : oM w w := ⟨rfl, fun _ _ _ => rfl⟩
theorem oM_I {z w : MW} (h : oM z w) {k j : Nat} (hk : okM k j = false) (v : Int32) : oM z (sI w k j v) := ⟨h.1, fun a b hab => by
  rw [sI_at, if_neg (fun e => by rw [e.1, e.2, hk] at hab; cases hab)]
  exact h.2 a b hab⟩
theorem oM_8 {z w : MW} (h : oM z w) (j : Nat) (v : Int32) : oM z (sI w 188 j v) := oM_I h rfl v
theorem oM_9 {z w : MW} (h : oM z w) (j : Nat) (v : Int32) : oM z (sI w 189 j v) := oM_I h rfl v
theorem AL_c {z w : MW} (h : oM z w) (a b : Nat) (n : Int32) : AL w a b n ↔ AL z a b n := by
  have e1 : atM w = atM z := by
    funext e
    unfold atM
    rw [h.2 170 e rfl]
  have e2 : tkM w = tkM z := by
    funext t
    unfold tkM
    rw [h.2 163 _ rfl]
  have e3 : frM w = frM z := by
    funext g
    unfold frM
    rw [h.1]
  have e4 : unH w = unH z := by
    funext t
    unfold unH
    rw [h.2 127 26 rfl]
    apply propext
    constructor
    · intro q k hk
      rw [← h.2 187 _ rfl]
      exact q k hk
    · intro q k hk
      rw [h.2 187 _ rfl]
      exact q k hk
  unfold AL ALf
  rw [e1, e2, e3, e4, h.2 163 _ rfl, h.2 171 _ rfl, h.2 171 _ rfl, h.2 167 _ rfl]
theorem HP_c {z w : MW} (h : oM z w) (hp : HP z) : HP w := by
  intro k t hk ht n1 k2
  have e : tM w = tM z := by
    unfold tM
    rw [h.2 127 4 rfl]
  rw [e] at ht
  rw [h.2 127 26 rfl] at hk
  rw [h.2 187 _ rfl] at n1 ⊢
  rw [h.2 163 _ rfl] at k2
  rw [h.2 167 _ rfl]
  exact hp k t hk ht n1 k2
/-- what is known of the world when it is measured -/
def MZb (z : MW) : Prop := (0 ≤ tM z ∧ tM z ≤ 20) ∧ (0 ≤ pM z ∧ pM z ≤ 24) ∧ (z.1 127 26).toInt ≤ 24 ∧ (∀ t : Nat, (t : Int) < tM z → 0 ≤ (z.1 163 t).toInt) ∧ (∀ e : Nat, (e : Int) < 2 * pM z → atM z e < tM z) ∧ HP z ∧ (∀ p : Nat, (p : Int) < pM z → 1 ≤ (z.1 169 p).toInt ∧ (z.1 169 p).toInt ≤ 200)
def nbr (LL LP : Nat → Int) (s : Int) (e g : Nat) : Prop := ¬ LL e = -1 ∧ (LL e < LL g + s ∨ (LL e = LL g + s ∧ LP e ≤ LP g + 1))
def NBt (z w : MW) (e g : Nat) : Prop := ADm z e g → ¬ LLw w g = -1 → nbr (LLw w) (LPw w) (szM z e) e g
def hasL (w : MW) (x : Nat) : Bool := decide (¬ LLw w x = -1)
def MIx (z : MW) (t : Int) (w : MW) : Prop := oM z w ∧ (∀ e, e < NNd z → BsM z t e → LLw w e = szM z e ∧ LPw w e = 1) ∧ (∀ e, e < NNd z → ¬ LLw w e = -1 → 1 ≤ LPw w e ∧ LPw w e ≤ LLw w e ∧ LLw w e ≤ 200 * ctb (hasL w) (NNd z) ∧ (BsM z t e ∨ ∃ g, g < NNd z ∧ ADm z e g ∧ ¬ LLw w g = -1 ∧ (LLw w g + szM z e < LLw w e ∨ (LLw w g + szM z e = LLw w e ∧ LPw w g + 1 ≤ LPw w e))))
/-- one end is made better -/
theorem mi_step {z : MW} {t : Int} {w : MW} {e g : Nat} {a b : Int32} (tk : ∀ y : Int, y = t → tkM z y) (hz : MZb z) (h : MIx z t w) (he : e < NNd z) (hg : g < NNd z) (ad : ADm z e g) (gn : ¬ LLw w g = -1) (ea : a.toInt = LLw w g + szM z e) (eb : b.toInt = LPw w g + 1) (bt : LLw w e = -1 ∨ a.toInt < LLw w e ∨ (a.toInt = LLw w e ∧ b.toInt < LPw w e)) : MIx z t (sI (sI w 188 e a) 189 e b) := by
  have s1 : 1 ≤ szM z e ∧ szM z e ≤ 200 := hz.2.2.2.2.2.2 (e / 2) (by unfold NNd at he; omega)
  have G := h.2.2 g hg gn
  have r8 : ∀ j, LLw (sI (sI w 188 e a) 189 e b) j = if j = e then a.toInt else LLw w j := fun j => by
    unfold LLw
    rw [sI_oth _ _ _ _ _ _ (by decide), sI_if]
    by_cases q : j = e
    · rw [if_pos q, if_pos q]
    · rw [if_neg q, if_neg q]
  have r9 : ∀ j, LPw (sI (sI w 188 e a) 189 e b) j = if j = e then b.toInt else LPw w j := fun j => by
    unfold LPw
    rw [sI_if]
    by_cases q : j = e
    · rw [if_pos q, if_pos q]
    · rw [if_neg q, if_neg q, sI_oth _ _ _ _ _ _ (by decide)]
  have ge : ¬ g = e := fun q => by
    rw [q] at ea eb gn
    omega
  have an : ¬ a.toInt = -1 := by omega
  have cm : ctb (hasL w) (NNd z) ≤ ctb (hasL (sI (sI w 188 e a) 189 e b)) (NNd z) := ctb_mono _ (fun x _ q => by
    unfold hasL at q ⊢
    have q' := of_decide_eq_true q
    refine decide_eq_true ?_
    rw [r8]
    by_cases c : x = e
    · rw [if_pos c]
      exact an
    · rw [if_neg c]
      exact q')
  have cn : LLw w e = -1 → ctb (hasL w) (NNd z) + 1 ≤ ctb (hasL (sI (sI w 188 e a) 189 e b)) (NNd z) := fun en => ctb_lt (k := e) (decide_eq_false (fun q => q en)) (decide_eq_true (by rw [r8, if_pos rfl]; exact an)) _ he (fun x _ q => by
    unfold hasL at q ⊢
    have q' := of_decide_eq_true q
    refine decide_eq_true ?_
    rw [r8]
    by_cases c : x = e
    · rw [if_pos c]
      exact an
    · rw [if_neg c]
      exact q')
  refine ⟨oM_9 (oM_8 h.1 _ _) _ _, fun x hx bx => ?_, fun x hx nx => ?_⟩
  · by_cases c : x = e
    · rw [c] at bx
      obtain ⟨_, n, al⟩ := ad
      exact absurd (tk _ bx.1) al.2.2.2.1
    · rw [r8, r9, if_neg c, if_neg c]
      exact h.2.1 x hx bx
  · rw [r8] at nx ⊢
    rw [r9]
    by_cases c : x = e
    · rw [if_pos c, if_pos c]
      refine ⟨by omega, by omega, ?_, Or.inr ⟨g, hg, by rw [c]; exact ad, ?_, ?_⟩⟩
      · have g3 := G.2.2.1
        rcases bt with bt | bt
        · have := cn bt
          omega
        · by_cases en : LLw w e = -1
          · have := cn en
            omega
          · have := (h.2.2 e he en).2.2.1
            omega
      · rw [r8, if_neg ge]
        exact gn
      · rw [r8, r9, if_neg ge, if_neg ge, c]
        exact Or.inr ⟨by omega, by omega⟩
    · rw [if_neg c] at nx ⊢
      rw [if_neg c]
      have X := h.2.2 x hx nx
      refine ⟨X.1, X.2.1, by have := X.2.2.1; omega, ?_⟩
      rcases X.2.2.2 with X4 | ⟨g', hg', ad', gn', lx⟩
      · exact Or.inl X4
      · refine Or.inr ⟨g', hg', ad', ?_, ?_⟩
        · rw [r8]
          by_cases c2 : g' = e
          · rw [if_pos c2]
            exact an
          · rw [if_neg c2]
            exact gn'
        · rw [r8, r9]
          by_cases c2 : g' = e
          · rw [if_pos c2, if_pos c2]
            rw [c2] at lx gn'
            rcases bt with bt | bt | bt
            · exact absurd bt gn'
            · omega
            · omega
          · rw [if_neg c2, if_neg c2]
            exact lx
theorem sI_e2 (w : MW) (e : Nat) : sI (sI w 188 e (w.1 188 e)) 189 e (w.1 189 e) = w := by
  rw [sI_eta, sI_eta]
/-- the end of a round for one pair: better -/
theorem mx_t {w : MW} {mo e g al ma : Int32} {A A' : Int32 → Int32 → MW → Prop} {E E' : Int32 → MW → Prop} {Q Q' : MW → Prop} (h : q_Mo_measure_238 mo e g al ma 1 w A E Q) (k1 : A 1 (g + (1 : Int32)) (sI (sI w 188 e.toInt.toNat al) 189 e.toInt.toNat ma) → A' 1 (g + (1 : Int32)) (sI (sI w 188 e.toInt.toNat al) 189 e.toInt.toNat ma)) : q_Mo_measure_238 mo e g al ma 1 w A' E' Q' := by
  rw [q_Mo_measure_238.eq_1, q_Mo_measure_261.eq_1, q_Mo_measure_283.eq_1] at h ⊢
  have n1 : ¬ (1 : Int32).toInt = 0 := by decide
  have H := h.2 n1
  have H2 := H.2.2 n1
  exact ⟨fun z => absurd z n1, fun _ => ⟨H.1, fun z => absurd z n1, fun _ => ⟨H2.1, fun z => k1 (H2.2.1 z), fun z => ⟨fun z2 => absurd z2 n1, fun z2 => k1 ((H2.2.2 z).2 z2)⟩⟩⟩⟩
/-- the end of a round for one pair: not better -/
theorem mx_f {w : MW} {mo e g al ma : Int32} {A A' : Int32 → Int32 → MW → Prop} {E E' : Int32 → MW → Prop} {Q Q' : MW → Prop} (hm : mo.toInt = 0 ∨ mo.toInt = 1) (h : q_Mo_measure_238 mo e g al ma 0 w A E Q) (k0 : ∀ mo' : Int32, mo'.toInt = mo.toInt → A mo' (g + (1 : Int32)) w → A' mo' (g + (1 : Int32)) w) : q_Mo_measure_238 mo e g al ma 0 w A' E' Q' := by
  rw [q_Mo_measure_238.eq_1, q_Mo_measure_261.eq_1, q_Mo_measure_283.eq_1] at h ⊢
  have H := h.1 i_0
  have H2 := H.2.2.1 i_0
  have H3 := H2.2
  rw [sI_e2] at H3 ⊢
  refine ⟨fun _ => ⟨H.1, H.2.1, fun _ => ⟨H2.1, H3.1, fun z => k0 1 ?_ (H3.2.1 z), fun z => ⟨fun z2 => k0 0 ?_ ((H3.2.2 z).1 z2), fun z2 => absurd i_0 z2⟩⟩, fun z => absurd i_0 z⟩, fun z => absurd i_0 z⟩
  · rw [i_1]
    omega
  · rw [i_0]
    exact (Classical.not_not.mp z).symm
theorem mx_pair {w : MW} {mo e g al ma : Int32} {A A' : Int32 → Int32 → MW → Prop} {E E' : Int32 → MW → Prop} {Q Q' : MW → Prop} {P1 P2 P3 P4 P5 P6 P7 : Prop} (hm : mo.toInt = 0 ∨ mo.toInt = 1) (kb : (LLw w e.toInt.toNat = -1 ∨ al.toInt < LLw w e.toInt.toNat ∨ (al.toInt = LLw w e.toInt.toNat ∧ ma.toInt < LPw w e.toInt.toNat)) → A 1 (g + (1 : Int32)) (sI (sI w 188 e.toInt.toNat al) 189 e.toInt.toNat ma) → A' 1 (g + (1 : Int32)) (sI (sI w 188 e.toInt.toNat al) 189 e.toInt.toNat ma)) (kn : (¬ LLw w e.toInt.toNat = -1 ∧ (LLw w e.toInt.toNat < al.toInt ∨ (LLw w e.toInt.toNat = al.toInt ∧ LPw w e.toInt.toNat ≤ ma.toInt))) → ∀ mo' : Int32, mo'.toInt = mo.toInt → A mo' (g + (1 : Int32)) w → A' mo' (g + (1 : Int32)) w) (S : P1 ∧ (P2 ∧ (P3 ∧ (P4 ∧ (((w.1 188 e.toInt.toNat).toInt = (-1) → q_Mo_measure_238 mo e g al ma 1 w A E Q) ∧ (¬ ((w.1 188 e.toInt.toNat).toInt = (-1)) → (P5 ∧ ((al.toInt < (w.1 188 e.toInt.toNat).toInt → q_Mo_measure_238 mo e g al ma 1 w A E Q) ∧ (¬ (al.toInt < (w.1 188 e.toInt.toNat).toInt) → (P6 ∧ ((¬ al.toInt = (w.1 188 e.toInt.toNat).toInt → q_Mo_measure_238 mo e g al ma 0 w A E Q) ∧ (¬ (¬ al.toInt = (w.1 188 e.toInt.toNat).toInt) → (P7 ∧ (((w.1 189 e.toInt.toNat).toInt ≤ ma.toInt → q_Mo_measure_238 mo e g al ma 0 w A E Q) ∧ (¬ ((w.1 189 e.toInt.toNat).toInt ≤ ma.toInt) → q_Mo_measure_238 mo e g al ma 1 w A E Q))))))))))))))) : P1 ∧ (P2 ∧ (P3 ∧ (P4 ∧ (((w.1 188 e.toInt.toNat).toInt = (-1) → q_Mo_measure_238 mo e g al ma 1 w A' E' Q') ∧ (¬ ((w.1 188 e.toInt.toNat).toInt = (-1)) → (P5 ∧ ((al.toInt < (w.1 188 e.toInt.toNat).toInt → q_Mo_measure_238 mo e g al ma 1 w A' E' Q') ∧ (¬ (al.toInt < (w.1 188 e.toInt.toNat).toInt) → (P6 ∧ ((¬ al.toInt = (w.1 188 e.toInt.toNat).toInt → q_Mo_measure_238 mo e g al ma 0 w A' E' Q') ∧ (¬ (¬ al.toInt = (w.1 188 e.toInt.toNat).toInt) → (P7 ∧ (((w.1 189 e.toInt.toNat).toInt ≤ ma.toInt → q_Mo_measure_238 mo e g al ma 0 w A' E' Q') ∧ (¬ ((w.1 189 e.toInt.toNat).toInt ≤ ma.toInt) → q_Mo_measure_238 mo e g al ma 1 w A' E' Q')))))))))))))) := by
  have eE : (w.1 188 e.toInt.toNat).toInt = LLw w e.toInt.toNat := rfl
  have eP : (w.1 189 e.toInt.toNat).toInt = LPw w e.toInt.toNat := rfl
  rw [eE, eP] at S ⊢
  refine ⟨S.1, S.2.1, S.2.2.1, S.2.2.2.1, fun d1 => mx_t (S.2.2.2.2.1 d1) (kb (Or.inl d1)), fun d1 => ?_⟩
  have S2 := S.2.2.2.2.2 d1
  exact ⟨S2.1, fun d2 => mx_t (S2.2.1 d2) (kb (Or.inr (Or.inl d2))), fun d2 => ⟨(S2.2.2 d2).1, fun d3 => mx_f hm ((S2.2.2 d2).2.1 d3) (kn ⟨d1, Or.inl (by omega)⟩), fun d3 => ⟨((S2.2.2 d2).2.2 d3).1, fun d4 => mx_f hm (((S2.2.2 d2).2.2 d3).2.1 d4) (kn ⟨d1, Or.inr ⟨by omega, d4⟩⟩), fun d4 => mx_t (((S2.2.2 d2).2.2 d3).2.2 d4) (kb (Or.inr (Or.inr ⟨by omega, by omega⟩)))⟩⟩⟩
