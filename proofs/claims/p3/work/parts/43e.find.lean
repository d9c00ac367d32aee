/-! the reference's ways: measure and find -/
theorem i_0 : (0 : Int32).toInt = 0 := by decide
theorem i_1 : (1 : Int32).toInt = 1 := by decide
theorem i_m1 : (-1 : Int32).toInt = -1 := by decide
theorem sI_self (w : MW) (k j : Nat) : sI w k j (w.1 k j) = w := by
  refine Prod.ext (funext fun a => funext fun b => ?_) rfl
  rw [sI_at]
  split
  · next h => rw [h.1, h.2]
  · rfl
def sumTo (f : Nat → Int) : Nat → Int
  | 0 => 0
  | n + 1 => sumTo f n + f n
theorem sum_same {f g : Nat → Int} : ∀ n : Nat, (∀ j, j < n → g j = f j) → sumTo g n = sumTo f n := by
  intro n
  induction n with
  | zero => intro _; rfl
  | succ n ih =>
    intro h
    have h1 := ih (fun j hj => h j (by omega))
    have h2 := h n (by omega)
    simp only [sumTo, h1, h2]
theorem sum_upd {f g : Nat → Int} {i : Nat} (h : ∀ j, j ≠ i → g j = f j) : ∀ n : Nat, i < n → sumTo g n + f i = sumTo f n + g i := by
  intro n
  induction n with
  | zero => intro hi; omega
  | succ n ih =>
    intro hi
    by_cases c : i = n
    · subst c
      have h1 := sum_same (f := f) (g := g) i (fun j hj => h j (by omega))
      simp only [sumTo, h1]
      omega
    · have h1 := ih (by omega)
      have h2 := h n (fun q => c q.symm)
      simp only [sumTo, h2]
      omega
theorem sum_nn {f : Nat → Int} : ∀ n : Nat, (∀ j, j < n → 0 ≤ f j) → 0 ≤ sumTo f n := by
  intro n
  induction n with
  | zero => intro _; exact Int.le_refl 0
  | succ n ih =>
    intro h
    have h1 := ih (fun j hj => h j (by omega))
    have h2 := h n (by omega)
    simp only [sumTo]
    omega
theorem sum_le1 {f : Nat → Int} : ∀ n : Nat, (∀ j, j < n → f j ≤ 1) → sumTo f n ≤ (n : Int) := by
  intro n
  induction n with
  | zero => intro _; exact Int.le_refl 0
  | succ n ih =>
    intro h
    have h1 := ih (fun j hj => h j (by omega))
    have h2 := h n (by omega)
    simp only [sumTo]
    omega
theorem sum_leB {f : Nat → Int} : ∀ n : Nat, (∀ j, j < n → f j ≤ 2000000000) → sumTo f n ≤ 2000000000 * (n : Int) := by
  intro n
  induction n with
  | zero => intro _; exact Int.le_refl 0
  | succ n ih =>
    intro h
    have h1 := ih (fun j hj => h j (by omega))
    have h2 := h n (by omega)
    simp only [sumTo]
    omega
theorem sum_mono {f g : Nat → Int} : ∀ n : Nat, (∀ j, j < n → f j ≤ g j) → sumTo f n ≤ sumTo g n := by
  intro n
  induction n with
  | zero => intro _; exact Int.le_refl 0
  | succ n ih =>
    intro h
    have h1 := ih (fun j hj => h j (by omega))
    have h2 := h n (by omega)
    simp only [sumTo]
    omega
theorem sum_lt {f g : Nat → Int} {i : Nat} (hi1 : f i + 1 ≤ g i) : ∀ n : Nat, i < n → (∀ j, j < n → f j ≤ g j) → sumTo f n + 1 ≤ sumTo g n := by
  intro n
  induction n with
  | zero => intro hi _; omega
  | succ n ih =>
    intro hi h
    by_cases c : i = n
    · subst c
      have h1 := sum_mono (f := f) (g := g) i (fun j hj => h j (by omega))
      simp only [sumTo]
      omega
    · have h1 := ih (by omega) (fun j hj => h j (by omega))
      have h2 := h n (by omega)
      simp only [sumTo]
      omega
theorem sum_ge1 {f : Nat → Int} {i : Nat} (hi1 : 1 ≤ f i) (n : Nat) (hi : i < n) (h : ∀ j, j < n → 0 ≤ f j) : 1 ≤ sumTo f n := by
  have h1 := sum_lt (f := fun _ => 0) (g := f) (i := i) (by show (0 : Int) + 1 ≤ f i; omega) n hi h
  have h2 : 0 ≤ sumTo (fun _ => 0) n := sum_nn n (fun _ _ => Int.le_refl 0)
  omega
def fre (w : MW) (g : Int32) : Prop := (lg_cmp (((w.2.1 127 40) >>> ((g / (2 : Int32)).toInt64 &&& 63)) &&& (1 : Int64)) (0 : Int64)).toInt = 0
def At (w : MW) (e : Int32) : Int := (w.1 170 e.toInt.toNat).toInt
def Kd (w : MW) (t : Int) : Int := (w.1 163 t.toNat).toInt
def Po (w : MW) (e : Int32) : Int := (w.1 171 e.toInt.toNat).toInt
def Sz (w : MW) (e : Int32) : Int := (w.1 169 ((e / (2 : Int32)).toInt.toNat)).toInt
def LF (w : MW) (e : Int32) : Int := (w.1 188 e.toInt.toNat).toInt
def LQ (w : MW) (e : Int32) : Int := (w.1 189 e.toInt.toNat).toInt
def P2 (w : MW) : Int := 2 * (w.1 127 11).toInt
def HN (w : MW) (t : Int) : Prop := ∀ k : Int32, 0 ≤ k.toInt → k.toInt < (w.1 127 26).toInt → (w.1 187 (20 * k.toInt + t).toNat).toInt = -1
def NY (w : MW) (a b : Int32) : Prop := 0 ≤ At w a ∧ At w b = At w a ∧ ¬ b.toInt = a.toInt ∧ ¬ Kd w (At w a) = 0 ∧ fre w b ∧ (Kd w (At w a) = 1 → Po w a = 0 ∧ HN w (At w a))
def NN (w : MW) (a b : Int32) : Prop := At w a < 0 ∨ ¬ At w b = At w a ∨ b.toInt = a.toInt ∨ Kd w (At w a) = 0 ∨ ¬ fre w b ∨ (Kd w (At w a) = 1 ∧ (¬ Po w a = 0 ∨ ¬ HN w (At w a))) ∨ (¬ Kd w (At w a) = 1 ∧ (¬ HN w (At w a) ∨ (¬ Kd w (At w a) = 4 ∧ ¬ Kd w (At w a) = 6 ∧ ¬ (Kd w (At w a) = 3 ∧ 0 ≤ Po w a ∧ Po w a ≤ 2 ∧ 0 ≤ Po w b ∧ Po w b ≤ 2 ∧ ¬ Po w a = Po w b))))
def RP (w : MW) : Prop := (∀ e g : Int32, 0 ≤ e.toInt → e.toInt < P2 w → 0 ≤ g.toInt → g.toInt < P2 w → ¬ e.toInt = g.toInt → At w e = At w g → 0 ≤ At w e → ¬ Po w e = Po w g) ∧ (∀ e : Int32, 0 ≤ e.toInt → e.toInt < P2 w → 0 ≤ At w e → ¬ Kd w (At w e) = 0 → 0 ≤ Po w e ∧ Po w e < 4 ∧ (Kd w (At w e) = 3 ∨ Kd w (At w e) = 4 → Po w e < 3) ∧ (¬ Kd w (At w e) = 3 → ¬ Kd w (At w e) = 4 → ¬ Kd w (At w e) = 6 → Po w e < 2))
def HB (w : MW) : Prop := ∀ t : Int, 0 ≤ t → t < 20 → ¬ HN w t → ∃ a b : Int32, 0 ≤ a.toInt ∧ a.toInt < P2 w ∧ 0 ≤ b.toInt ∧ b.toInt < P2 w ∧ ¬ a.toInt = b.toInt ∧ At w a = t ∧ At w b = t ∧ ¬ fre w a ∧ ¬ fre w b
theorem x1_eq {x : Int32} (h : 0 ≤ x.toInt) : (x ^^^ (1 : Int32)).toInt = x.toInt + 1 - 2 * (x.toInt % 2) := nb_xor1 h
theorem x1_x1 {x : Int32} (h : 0 ≤ x.toInt) : ((x ^^^ (1 : Int32)) ^^^ (1 : Int32)) = x := by
  have h1 := x1_eq h
  have h2 := x1_eq (x := x ^^^ (1 : Int32)) (by omega)
  exact Int32.toInt_inj.mp (by omega)
theorem x1_div {x : Int32} (h : 0 ≤ x.toInt) : (x ^^^ (1 : Int32)) / (2 : Int32) = x / (2 : Int32) := by
  have h1 := x1_eq h
  have h2 := nb_div (x := x ^^^ (1 : Int32)) (y := 2) (c := 2) (by omega) (by decide) (by decide)
  have h3 := nb_div (x := x) (y := 2) (c := 2) h (by decide) (by decide)
  exact Int32.toInt_inj.mp (by omega)
theorem fre_x1 {w : MW} {x : Int32} (h : 0 ≤ x.toInt) : fre w (x ^^^ (1 : Int32)) ↔ fre w x := by
  unfold fre
  rw [x1_div h]
theorem sz_x1 {w : MW} {x : Int32} (h : 0 ≤ x.toInt) : Sz w (x ^^^ (1 : Int32)) = Sz w x := by
  unfold Sz
  rw [x1_div h]
/-- a pair that could be gone through one behind the other can be gone through at once -/
theorem nn_no {w : MW} {x g h : Int32} (hR : RP w) (hH : HB w) (hx0 : 0 ≤ x.toInt) (hx1 : x.toInt < P2 w) (hg0 : 0 ≤ g.toInt) (hg1 : g.toInt < P2 w) (hh0 : 0 ≤ h.toInt) (hh1 : h.toInt < P2 w) (hfx : fre w x) (hlt : At w x < 20) (h1 : NY w x g) (h2 : NY w g h) (hne : ¬ h.toInt = x.toInt) : ¬ NN w x h := by
  obtain ⟨a1, a2, a3, a4, a5, a6⟩ := h1
  obtain ⟨b1, b2, b3, b4, b5, b6⟩ := h2
  rw [a2] at b2 b4 b6
  have pg := hR.2 g hg0 hg1 (by omega) (by rw [a2]; exact a4)
  have px := hR.2 x hx0 hx1 a1 a4
  have ph := hR.2 h hh0 hh1 (by omega) (by rw [b2]; exact a4)
  rw [a2] at pg
  rw [b2] at ph
  have d1 := hR.1 x g hx0 hx1 hg0 hg1 (fun q => a3 q.symm) a2.symm a1
  have d2 := hR.1 x h hx0 hx1 hh0 hh1 (fun q => hne q.symm) b2.symm a1
  have d3 := hR.1 g h hg0 hg1 hh0 hh1 (fun q => b3 q.symm) (by omega) (by omega)
  have held : HN w (At w x) := by
    by_cases c : HN w (At w x)
    · exact c
    · exfalso
      obtain ⟨a, b, ha0, ha1, hb0, hb1, hab, ta, tb, fa, fb⟩ := hH (At w x) a1 hlt c
      have pa := hR.2 a ha0 ha1 (by omega) (by rw [ta]; exact a4)
      have pb := hR.2 b hb0 hb1 (by omega) (by rw [tb]; exact a4)
      have ne : ∀ (u v : Int32), fre w u → ¬ fre w v → ¬ u.toInt = v.toInt := by
        intro u v fu fv q
        have e : u = v := Int32.toInt_inj.mp q
        subst e
        exact fv fu
      have c1 := hR.1 a b ha0 ha1 hb0 hb1 hab (by omega) (by omega)
      have c2 := hR.1 x a hx0 hx1 ha0 ha1 (ne x a hfx fa) (by omega) a1
      have c3 := hR.1 x b hx0 hx1 hb0 hb1 (ne x b hfx fb) (by omega) a1
      have c4 := hR.1 g a hg0 hg1 ha0 ha1 (ne g a a5 fa) (by omega) (by omega)
      have c5 := hR.1 g b hg0 hg1 hb0 hb1 (ne g b a5 fb) (by omega) (by omega)
      have c6 := hR.1 h a hh0 hh1 ha0 ha1 (ne h a b5 fa) (by omega) (by omega)
      have c7 := hR.1 h b hh0 hh1 hb0 hb1 (ne h b b5 fb) (by omega) (by omega)
      have g1 := px.1
      have g2 := px.2.1
      have g3 := pg.1
      have g4 := pg.2.1
      have g5 := ph.1
      have g6 := ph.2.1
      have g7 := pa.1
      have g8 := pa.2.1
      have g9 := pb.1
      have g0 := pb.2.1
      clear px pg ph pa pb ne a6 b6
      generalize Po w x = q1 at *
      generalize Po w g = q2 at *
      generalize Po w h = q3 at *
      generalize Po w a = q4 at *
      generalize Po w b = q5 at *
      clear hR hH hx0 hx1 hg0 hg1 hh0 hh1 hfx hlt a1 a2 a3 a4 a5 b1 b2 b3 b4 b5 hne c ha0 ha1 hb0 hb1 hab ta tb fa fb
      omega
  intro n
  rcases n with n | n | n | n | n | ⟨n, n2⟩ | ⟨n, n2⟩
  · omega
  · exact n b2
  · exact hne n
  · exact a4 n
  · exact n b5
  · rcases n2 with n2 | n2
    · exact n2 (a6 n).1
    · exact n2 (a6 n).2
  · rcases n2 with n2 | ⟨n4, n6, n3⟩
    · exact n2 held
    · by_cases c3 : Kd w (At w x) = 3
      · have := px.2.2.1 (Or.inl c3)
        have := ph.2.2.1 (Or.inl c3)
        exact n3 ⟨c3, px.1, by omega, ph.1, by omega, d2⟩
      · have t1 := px.2.2.2 c3 n4 n6
        have t2 := pg.2.2.2 c3 n4 n6
        have t3 := ph.2.2.2 c3 n4 n6
        have := px.1
        have := pg.1
        have := ph.1
        omega
/-- what does not move while ways are measured -/
def PQ (w w' : MW) : Prop := (∀ j, w'.1 170 j = w.1 170 j) ∧ (∀ j, w'.1 163 j = w.1 163 j) ∧ (∀ j, w'.1 171 j = w.1 171 j) ∧ (∀ j, w'.1 187 j = w.1 187 j) ∧ (∀ j, w'.1 169 j = w.1 169 j) ∧ w'.1 127 26 = w.1 127 26 ∧ w'.1 127 11 = w.1 127 11 ∧ w'.2.1 127 40 = w.2.1 127 40
theorem pq_refl (w : MW) : PQ w w := ⟨fun _ => rfl, fun _ => rfl, fun _ => rfl, fun _ => rfl, fun _ => rfl, rfl, rfl, rfl⟩
theorem pq_tr {w w1 w2 : MW} (h : PQ w w1) (h2 : PQ w1 w2) : PQ w w2 := ⟨fun j => (h2.1 j).trans (h.1 j), fun j => (h2.2.1 j).trans (h.2.1 j), fun j => (h2.2.2.1 j).trans (h.2.2.1 j), fun j => (h2.2.2.2.1 j).trans (h.2.2.2.1 j), fun j => (h2.2.2.2.2.1 j).trans (h.2.2.2.2.1 j), h2.2.2.2.2.2.1.trans h.2.2.2.2.2.1, h2.2.2.2.2.2.2.1.trans h.2.2.2.2.2.2.1, h2.2.2.2.2.2.2.2.trans h.2.2.2.2.2.2.2⟩
theorem pq_fre {w w' : MW} (h : PQ w w') {e : Int32} : fre w' e ↔ fre w e := by
  obtain ⟨h1, h2, h3, h4, h5, h6, h7, h8⟩ := h
  simp only [fre, h8]
theorem pq_sz {w w' : MW} (h : PQ w w') {e : Int32} : Sz w' e = Sz w e := by
  simp only [Sz, h.2.2.2.2.1]
theorem pq_at {w w' : MW} (h : PQ w w') {e : Int32} : At w' e = At w e := by
  simp only [At, h.1]
theorem pq_p2 {w w' : MW} (h : PQ w w') : P2 w' = P2 w := by
  simp only [P2, h.2.2.2.2.2.2.1]
theorem pq_ny {w w' : MW} (h : PQ w w') {a b : Int32} : NY w' a b ↔ NY w a b := by
  obtain ⟨h1, h2, h3, h4, h5, h6, h7, h8⟩ := h
  simp only [NY, fre, At, Kd, Po, HN, h1, h2, h3, h4, h6, h8]
theorem pq_nn {w w' : MW} (h : PQ w w') {a b : Int32} : NN w' a b ↔ NN w a b := by
  obtain ⟨h1, h2, h3, h4, h5, h6, h7, h8⟩ := h
  simp only [NN, fre, At, Kd, Po, HN, h1, h2, h3, h4, h6, h8]
def cF (n : Nat) (w : MW) : Int := sumTo (fun j => if (w.1 188 j).toInt = -1 then 0 else 1) n
def mF (n : Nat) (w : MW) : Int := sumTo (fun j => if (w.1 188 j).toInt = -1 then 2000000000 else (w.1 188 j).toInt * 100000 + (w.1 189 j).toInt) n
/-- what is known of the lengths while they are measured; z: the world before, t: where to -/
def MX (z : MW) (t : Int32) (w : MW) : Prop := ∀ e : Int32, 0 ≤ e.toInt → e.toInt < P2 z → LF w e = -1 ∨ (1 ≤ LQ w e ∧ LQ w e ≤ LF w e ∧ LF w e ≤ 200 * cF (P2 z).toNat w ∧ fre z e ∧ (At z (e ^^^ (1 : Int32)) = t.toInt ∨ ∃ g : Int32, 0 ≤ g.toInt ∧ g.toInt < P2 z ∧ NY z (e ^^^ (1 : Int32)) g ∧ ¬ LF w g = -1 ∧ LF w g + Sz z e ≤ LF w e))
def CK (z : MW) (w : MW) (e g : Int32) : Prop := ¬ fre z e ∨ LF w g = -1 ∨ NN z (e ^^^ (1 : Int32)) g ∨ (¬ LF w e = -1 ∧ LF w e ≤ LF w g + Sz z e)
theorem cf_le {n : Nat} {w : MW} : cF n w ≤ (n : Int) := by
  unfold cF
  refine sum_le1 n (fun j _ => ?_)
  show (if (w.1 188 j).toInt = -1 then (0 : Int) else 1) ≤ 1
  split <;> omega
theorem cf_nn {n : Nat} {w : MW} : 0 ≤ cF n w := by
  unfold cF
  refine sum_nn n (fun j _ => ?_)
  show 0 ≤ (if (w.1 188 j).toInt = -1 then (0 : Int) else 1)
  split <;> omega
theorem cf_ge1 {n : Nat} {w : MW} {i : Nat} (hi : i < n) (h : ¬ (w.1 188 i).toInt = -1) : 1 ≤ cF n w := by
  unfold cF
  refine sum_ge1 (i := i) ?_ n hi (fun j _ => ?_)
  · show 1 ≤ (if (w.1 188 i).toInt = -1 then (0 : Int) else 1)
    rw [if_neg h]; omega
  · show 0 ≤ (if (w.1 188 j).toInt = -1 then (0 : Int) else 1)
    split <;> omega
theorem mf_bd {z w : MW} {t : Int32} (hP : P2 z ≤ 48) (h : MX z t w) : 0 ≤ mF (P2 z).toNat w ∧ mF (P2 z).toNat w ≤ 100000000000 := by
  have key : ∀ j : Nat, j < (P2 z).toNat → 0 ≤ (if (w.1 188 j).toInt = -1 then 2000000000 else (w.1 188 j).toInt * 100000 + (w.1 189 j).toInt) ∧ (if (w.1 188 j).toInt = -1 then 2000000000 else (w.1 188 j).toInt * 100000 + (w.1 189 j).toInt) ≤ 2000000000 := by
    intro j hj
    have ej : (Int32.ofNat j).toInt = (j : Int) := by
      rw [Int32.toInt_ofNat_of_lt (by omega)]
    have h1 := h (Int32.ofNat j) (by omega) (by omega)
    have hc := cf_le (n := (P2 z).toNat) (w := w)
    unfold LF LQ at h1
    rw [ej] at h1
    have e2 : ((j : Int)).toNat = j := by omega
    rw [e2] at h1
    split
    · omega
    · next c =>
      rcases h1 with h1 | ⟨q1, q2, q3, _⟩
      · exact absurd h1 c
      · omega
  refine ⟨sum_nn _ (fun j hj => (key j hj).1), ?_⟩
  have := sum_leB (f := fun j => if (w.1 188 j).toInt = -1 then 2000000000 else (w.1 188 j).toInt * 100000 + (w.1 189 j).toInt) (P2 z).toNat (fun j hj => (key j hj).2)
  unfold mF
  omega
def bsW (w : MW) (e all many : Int32) : MW := sI (sI w 188 e.toInt.toNat all) 189 e.toInt.toNat many
theorem bs_188 {w : MW} {e all many : Int32} (j : Nat) : (bsW w e all many).1 188 j = if j = e.toInt.toNat then all else w.1 188 j := by
  unfold bsW
  rw [sI_at, if_neg (fun q => absurd q.1 (by decide)), sI_at]
  by_cases h : j = e.toInt.toNat
  · rw [if_pos ⟨rfl, h⟩, if_pos h]
  · rw [if_neg (fun q => h q.2), if_neg h]
theorem bs_189 {w : MW} {e all many : Int32} (j : Nat) : (bsW w e all many).1 189 j = if j = e.toInt.toNat then many else w.1 189 j := by
  unfold bsW
  rw [sI_at]
  by_cases h : j = e.toInt.toNat
  · rw [if_pos ⟨rfl, h⟩, if_pos h]
  · rw [if_neg (fun q => h q.2), if_neg h, sI_at, if_neg (fun q => absurd q.1 (by decide))]
theorem bs_lf_e {w : MW} {e all many : Int32} : LF (bsW w e all many) e = all.toInt := by
  unfold LF
  rw [bs_188, if_pos rfl]
theorem bs_lq_e {w : MW} {e all many : Int32} : LQ (bsW w e all many) e = many.toInt := by
  unfold LQ
  rw [bs_189, if_pos rfl]
theorem bs_lf {w : MW} {e all many x : Int32} (hx : 0 ≤ x.toInt) (h : ¬ x.toInt = e.toInt) (he : 0 ≤ e.toInt) : LF (bsW w e all many) x = LF w x := by
  unfold LF
  rw [bs_188, if_neg (by omega)]
theorem bs_lq {w : MW} {e all many x : Int32} (hx : 0 ≤ x.toInt) (h : ¬ x.toInt = e.toInt) (he : 0 ≤ e.toInt) : LQ (bsW w e all many) x = LQ w x := by
  unfold LQ
  rw [bs_189, if_neg (by omega)]
theorem bs_step {z w : MW} {t e g all many : Int32} (hP : P2 z ≤ 48) (hM : MX z t w) (he0 : 0 ≤ e.toInt) (he1 : e.toInt < P2 z) (hg0 : 0 ≤ g.toInt) (hg1 : g.toInt < P2 z) (hfe : fre z e) (hny : NY z (e ^^^ (1 : Int32)) g) (hg : ¬ LF w g = -1) (hs1 : 1 ≤ Sz z e) (hs2 : Sz z e ≤ 200) (hall : all.toInt = LF w g + Sz z e) (hmany : many.toInt = LQ w g + 1) (hb : LF w e = -1 ∨ all.toInt < LF w e ∨ (all.toInt = LF w e ∧ many.toInt < LQ w e)) : MX z t (bsW w e all many) ∧ mF (P2 z).toNat (bsW w e all many) < mF (P2 z).toNat w := by
  have hc := cf_le (n := (P2 z).toNat) (w := w)
  have hc0 := cf_nn (n := (P2 z).toNat) (w := w)
  have g1 := ((hM g hg0 hg1).resolve_left hg).1
  have g2 := ((hM g hg0 hg1).resolve_left hg).2.1
  have g3 := ((hM g hg0 hg1).resolve_left hg).2.2.1
  have hge : ¬ g.toInt = e.toInt := by
    intro q
    have q2 : g = e := Int32.toInt_inj.mp q
    subst q2
    omega
  have hei : e.toInt.toNat < (P2 z).toNat := by omega
  have hcu : cF (P2 z).toNat (bsW w e all many) + (if (w.1 188 e.toInt.toNat).toInt = -1 then 0 else 1) = cF (P2 z).toNat w + (if ((bsW w e all many).1 188 e.toInt.toNat).toInt = -1 then 0 else 1) := by
    unfold cF
    refine sum_upd (f := fun j => if (w.1 188 j).toInt = -1 then (0 : Int) else 1) (g := fun j => if ((bsW w e all many).1 188 j).toInt = -1 then (0 : Int) else 1) (i := e.toInt.toNat) (fun j hj => ?_) _ hei
    show (if ((bsW w e all many).1 188 j).toInt = -1 then (0 : Int) else 1) = (if (w.1 188 j).toInt = -1 then (0 : Int) else 1)
    rw [bs_188, if_neg hj]
  have hmu : mF (P2 z).toNat (bsW w e all many) + (if (w.1 188 e.toInt.toNat).toInt = -1 then 2000000000 else (w.1 188 e.toInt.toNat).toInt * 100000 + (w.1 189 e.toInt.toNat).toInt) = mF (P2 z).toNat w + (if ((bsW w e all many).1 188 e.toInt.toNat).toInt = -1 then 2000000000 else ((bsW w e all many).1 188 e.toInt.toNat).toInt * 100000 + ((bsW w e all many).1 189 e.toInt.toNat).toInt) := by
    unfold mF
    refine sum_upd (f := fun j => if (w.1 188 j).toInt = -1 then 2000000000 else (w.1 188 j).toInt * 100000 + (w.1 189 j).toInt) (g := fun j => if ((bsW w e all many).1 188 j).toInt = -1 then 2000000000 else ((bsW w e all many).1 188 j).toInt * 100000 + ((bsW w e all many).1 189 j).toInt) (i := e.toInt.toNat) (fun j hj => ?_) _ hei
    show (if ((bsW w e all many).1 188 j).toInt = -1 then 2000000000 else ((bsW w e all many).1 188 j).toInt * 100000 + ((bsW w e all many).1 189 j).toInt) = (if (w.1 188 j).toInt = -1 then 2000000000 else (w.1 188 j).toInt * 100000 + (w.1 189 j).toInt)
    rw [bs_188, bs_189, if_neg hj, if_neg hj]
  rw [bs_188, if_pos rfl] at hcu
  rw [bs_188, bs_189, if_pos rfl, if_pos rfl] at hmu
  have hl : (w.1 188 e.toInt.toNat).toInt = LF w e := rfl
  have hq : (w.1 189 e.toInt.toNat).toInt = LQ w e := rfl
  rw [hl] at hcu
  rw [hl, hq] at hmu
  have ha : ¬ all.toInt = -1 := by omega
  rw [if_neg ha] at hcu hmu
  have hle : ¬ LF w e = -1 → all.toInt ≤ LF w e := by omega
  have hcc : cF (P2 z).toNat w ≤ cF (P2 z).toNat (bsW w e all many) := by
    by_cases c : LF w e = -1
    · rw [if_pos c] at hcu; omega
    · rw [if_neg c] at hcu; omega
  refine ⟨?_, ?_⟩
  · intro x hx0 hx1
    by_cases cx : x.toInt = e.toInt
    · have q2 : x = e := Int32.toInt_inj.mp cx
      subst q2
      right
      rw [bs_lf_e, bs_lq_e]
      refine ⟨by omega, by omega, ?_, hfe, Or.inr ⟨g, hg0, hg1, hny, ?_, ?_⟩⟩
      · by_cases c : LF w x = -1
        · rw [if_pos c] at hcu; omega
        · have h1 := ((hM x hx0 hx1).resolve_left c).2.2.1
          have := hle c
          omega
      · rw [bs_lf hg0 hge he0]; exact hg
      · rw [bs_lf hg0 hge he0]; omega
    · rw [bs_lf hx0 cx he0, bs_lq hx0 cx he0]
      rcases hM x hx0 hx1 with h | ⟨h1, h2, h3, h4, h5⟩
      · exact Or.inl h
      · right
        refine ⟨h1, h2, Int.le_trans h3 (Int.mul_le_mul_of_nonneg_left hcc (by decide)), h4, ?_⟩
        rcases h5 with h5 | ⟨g', a1, a2, a3, a4, a5⟩
        · exact Or.inl h5
        · right
          refine ⟨g', a1, a2, a3, ?_⟩
          by_cases cg : g'.toInt = e.toInt
          · have q2 : g' = e := Int32.toInt_inj.mp cg
            subst q2
            rw [bs_lf_e]
            have := hle a4
            exact ⟨ha, by omega⟩
          · rw [bs_lf a1 cg he0]
            exact ⟨a4, a5⟩
  · by_cases c : LF w e = -1
    · rw [if_pos c] at hmu; omega
    · rw [if_neg c] at hmu
      have := ((hM e he0 he1).resolve_left c).1
      omega
def lms : Pl := [(188, none), (189, none)]
theorem pq_fr {z w : MW} (h : FR lms z w) : PQ z w := ⟨fun j => (h 170 j rfl).1, fun j => (h 163 j rfl).1, fun j => (h 171 j rfl).1, fun j => (h 187 j rfl).1, fun j => (h 169 j rfl).1, (h 127 26 rfl).1, (h 127 11 rfl).1, (h 127 40 rfl).2.1⟩
def INi (z : MW) (t : Int32) (x : Int) (w : MW) : Prop := ∀ e : Int32, 0 ≤ e.toInt → e.toInt < x → LF w e = -1 ∨ (LQ w e = 1 ∧ LF w e = Sz z e ∧ fre z e ∧ At z (e ^^^ (1 : Int32)) = t.toInt)
theorem sz_bd {z : MW} {e : Int32} (hz : BND z) (hS : SZ z) (h0 : 0 ≤ e.toInt) (h1 : e.toInt < P2 z) : 1 ≤ Sz z e ∧ Sz z e ≤ 200 := by
  have h3 := nb_div (x := e) (y := 2) (c := 2) h0 (by decide) (by decide)
  have h4 := hS (e / (2 : Int32)) (by omega) (by unfold P2 at h1; omega)
  have h5 := bd_169 hz ((e / (2 : Int32)).toInt.toNat)
  exact ⟨h4, h5.2⟩
theorem in_mx {z w : MW} {t : Int32} (hz : BND z) (hS : SZ z) (h : INi z t (P2 z) w) : MX z t w := by
  intro e h0 h1
  rcases h e h0 h1 with c | ⟨a, b, c, d⟩
  · exact Or.inl c
  · have s := sz_bd hz hS h0 h1
    have q := cf_ge1 (n := (P2 z).toNat) (w := w) (i := e.toInt.toNat) (by omega) (by
      have : (w.1 188 e.toInt.toNat).toInt = LF w e := rfl
      omega)
    exact Or.inr ⟨by omega, by omega, by omega, c, Or.inl d⟩
def ST (z : MW) (t : Int32) (m0 : Int) (eb : Int) (more : Int32) (w : MW) : Prop := BND w ∧ FR lms z w ∧ MX z t w ∧ (more.toInt = 0 ∨ more.toInt = 1) ∧ mF (P2 z).toNat w ≤ m0 ∧ (more.toInt = 1 → mF (P2 z).toNat w < m0) ∧ (more.toInt = 0 → ∀ e' g' : Int32, 0 ≤ e'.toInt → e'.toInt < eb → 0 ≤ g'.toInt → g'.toInt < P2 z → CK z w e' g')
theorem p2_mul {z w : MW} (hz : BND z) (hF : FR lms z w) : ((2 : Int32) * (w.1 127 11)).toInt = P2 z := by
  have e : w.1 127 11 = z.1 127 11 := (hF 127 11 rfl).1
  have b := bd_127_11 hz
  rw [e]
  exact ti_mul2 (by decide : ((2 : Int32)).toInt = 2) (Eq.refl (z.1 127 11).toInt) (by omega) (by omega)
theorem p2_le {z : MW} (hz : BND z) : P2 z ≤ 48 := by
  have b := bd_127_11 hz
  unfold P2
  omega
