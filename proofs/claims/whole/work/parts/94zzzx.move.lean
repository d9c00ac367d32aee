/-! a way moves its litres: the class -/
/-- where the pipes of a way begin in its line -/
def ofs (s : Nat → Nat) : Nat → Nat
  | 0 => 0
  | i + 1 => ofs s i + s i
theorem ofs_s (s : Nat → Nat) (i : Nat) : ofs s (i + 1) = ofs s i + s i := rfl
/-- the places of a pipe's litres in the line -/
def of' (z : MW) (pp : Nat → Nat) (i : Nat) : Nat := ofs (fun j => rmC z (pp j)) i
def xs (z : MW) (pp : Nat → Nat) (i : Nat) : Nat := (tC z).toNat + pp i
/-- way k, as the class has it: n pipes pp, entered forth (dd) or back -/
def WcS (v : MW) (k n : Nat) (pp : Nat → Nat) (dd : Nat → Bool) (fr to : Nat) (ca : Int32) : Prop := ((v.1 31 k).toInt = n ∧ (1 ≤ n ∧ n ≤ 24) ∧ v.1 32 k = nI (pp 0) ∧ v.1 33 k = nI (pp (n - 1))) ∧ (∀ i, i < n → pp i < 24 ∧ v.1 35 (pp i) = (if i + 1 < n then nI (pp (i + 1)) else -1) ∧ (((v.1 34 (pp i)) &&& (1 : Int32)).toInt = 1 ↔ dd i = true)) ∧ (∀ i j, i < n → j < n → pp i = pp j → i = j) ∧ (0 ≤ tC v ∧ tC v ≤ 20) ∧ ((v.1 27 k).toInt = fr ∧ (v.1 28 k).toInt = to ∧ (fr : Int) < tC v ∧ (to : Int) < tC v ∧ ¬ fr = to) ∧ v.1 30 k = ca ∧ 1 ≤ ca.toInt ∧ ca.toInt ≤ 14
theorem WcS_m {S Pp : Nat → Prop} {z v : MW} {k n : Nat} {pp : Nat → Nat} {dd : Nat → Bool} {fr to : Nat} {ca : Int32} (mo : MvO S Pp z v) (h : WcS z k n pp dd fr to ca) : WcS v k n pp dd fr to ca := by
  have e : ∀ c j, ¬ c = 17 → ¬ c = 18 → ¬ c = 19 → ¬ c = 21 → ¬ c = 23 → v.1 c j = z.1 c j := mo.2.1
  have et : tC v = tC z := by
    unfold tC
    rw [e 8 0 (by decide) (by decide) (by decide) (by decide) (by decide)]
  unfold WcS
  rw [et, e 31 k (by decide) (by decide) (by decide) (by decide) (by decide), e 32 k (by decide) (by decide) (by decide) (by decide) (by decide), e 33 k (by decide) (by decide) (by decide) (by decide) (by decide), e 27 k (by decide) (by decide) (by decide) (by decide) (by decide), e 28 k (by decide) (by decide) (by decide) (by decide) (by decide), e 30 k (by decide) (by decide) (by decide) (by decide) (by decide)]
  refine ⟨h.1, fun i hi => ?_, h.2.2⟩
  rw [e 35 _ (by decide) (by decide) (by decide) (by decide) (by decide), e 34 _ (by decide) (by decide) (by decide) (by decide) (by decide)]
  exact h.2.1 i hi
/-- the spaces of a way -/
def SpW (z : MW) (n : Nat) (pp : Nat → Nat) (fr to : Nat) (x : Nat) : Prop := x = fr ∨ x = to ∨ ∃ i, i < n ∧ x = xs z pp i
def PpW (n : Nat) (pp : Nat → Nat) (p : Nat) : Prop := ∃ i, i < n ∧ p = pp i
/-- the tank from which it goes, behind m litres -/
def FrS (z v : MW) (fr m : Nat) (ca : Int32) : Prop := (v.1 18 fr).toInt + m = (z.1 18 fr).toInt ∧ (m = 0 → v.1 17 fr = z.1 17 fr ∧ v.1 19 fr = z.1 19 fr) ∧ (0 < m → z.1 17 fr = ca ∧ (m : Int) ≤ (z.1 18 fr).toInt ∧ v.1 17 fr = (if (m : Int) < (z.1 18 fr).toInt then ca else 0) ∧ v.1 19 fr = (if (m : Int) < (z.1 18 fr).toInt then z.1 19 fr else ca)) ∧ ∀ i, 1 ≤ i → i ≤ 5 → v.1 23 (6 * fr + i) = z.1 23 (6 * fr + i)
/-- the tank to which it goes, behind c litres -/
def ToS (z v : MW) (to c : Nat) (ca : Int32) : Prop := (v.1 18 to).toInt = (z.1 18 to).toInt + c ∧ v.1 17 to = (if 0 < c then ca else z.1 17 to) ∧ v.1 19 to = z.1 19 to ∧ ∀ i, 1 ≤ i → i ≤ 5 → v.1 23 (6 * to + i) = (if 0 < c then -1 else z.1 23 (6 * to + i))
/-- the pipes: those before i have got the litre m + 1 -/
def PiS (z v : MW) (n : Nat) (pp : Nat → Nat) (dd : Nat → Bool) (ca : Int32) (X : Nat → Int32) (B : Nat → Bool) (m i : Nat) : Prop := (∀ j, j < n → j < i → CPi z v (xs z pp j) (pp j) (of' z pp j) (dd j) ca (X j) B (m + 1)) ∧ ∀ j, j < n → ¬ j < i → CPi z v (xs z pp j) (pp j) (of' z pp j) (dd j) ca (X j) B m
theorem gf_x {w : MW} {a : Int32} {d : Bool} {Q Q' : Int32 → MW → Prop} (h : p_Wa_goesForth w a Q) (e : ((w.1 34 a.toInt.toNat) &&& (1 : Int32)).toInt = 1 ↔ d = true) (k : ∀ r : Int32, bD r = d → Q r w → Q' r w) : p_Wa_goesForth w a Q' := by
  rw [p_Wa_goesForth.eq_1] at h ⊢
  refine ⟨h.1, fun c => k 0 ?_ (h.2.1 c), fun c => k 1 ?_ (h.2.2 c)⟩
  · cases d with
    | false => rfl
    | true => exact absurd (e.mpr rfl) c
  · have q := e.mp (Classical.not_not.mp c)
    rw [q]
    rfl
/-- what stays the same of a tank when pipes change -/
theorem fr_f {z v w : MW} {fr m : Nat} {ca : Int32} {S Pp : Nat → Prop} (nS : ¬ S fr) (mo : MvO S Pp v w) (h : FrS z v fr m ca) : FrS z w fr m ca := by
  unfold FrS at h ⊢
  rw [mo.2.2.1 17 fr (by omega) nS, mo.2.2.1 18 fr (by omega) nS, mo.2.2.1 19 fr (by omega) nS]
  refine ⟨h.1, h.2.1, h.2.2.1, fun i i1 i2 => ?_⟩
  rw [mo.2.2.2.2.1 fr i nS i1 i2]
  exact h.2.2.2 i i1 i2
theorem to_f {z v w : MW} {to c : Nat} {ca : Int32} {S Pp : Nat → Prop} (nS : ¬ S to) (mo : MvO S Pp v w) (h : ToS z v to c ca) : ToS z w to c ca := by
  unfold ToS at h ⊢
  rw [mo.2.2.1 17 to (by omega) nS, mo.2.2.1 18 to (by omega) nS, mo.2.2.1 19 to (by omega) nS]
  refine ⟨h.1, h.2.1, h.2.2.1, fun i i1 i2 => ?_⟩
  rw [mo.2.2.2.2.1 to i nS i1 i2]
  exact h.2.2.2 i i1 i2
/-- the litre goes through the pipes -/
theorem mvl_126 {z : MW} {k n : Nat} {pp : Nat → Nat} {dd : Nat → Bool} {fr to : Nat} {ca : Int32} {X : Nat → Int32} {B : Nat → Bool} {m c : Nat} {a1 a3 : Int32} {E E' Q Q' : Int32 → MW → Prop} (ka : a1.toInt.toNat = k) (W : WcS z k n pp dd fr to ca) (kE : ∀ (f : Int32) (w : MW), (f.toInt = 0 ∨ f.toInt = 1) → bD f = Bm B (m + 1) (of' z pp n) → MvO (SpW z n pp fr to) (PpW n pp) z w → PiS z w n pp dd ca X B m n → FrS z w fr (m + 1) ca → ToS z w to c ca → E f w → E' f w) : ∀ (u : Nat) (f p x : Int32) (i : Nat) (w : MW), q_Wa_movesLitre_126 a1 ca a3 E Q u f p x w → x.toInt = i → i ≤ n → (f.toInt = 0 ∨ f.toInt = 1) → bD f = Bm B (m + 1) (of' z pp i) → (i < n → p = nI (pp i)) → MvO (SpW z n pp fr to) (PpW n pp) z w → PiS z w n pp dd ca X B m i → FrS z w fr (m + 1) ca → ToS z w to c ca → q_Wa_movesLitre_126 a1 ca a3 E' Q' u f p x w := by
  have n24 := W.1.2.1
  intro u
  induction u with
  | zero => exact fun _ _ _ _ _ h _ _ _ _ _ _ _ _ _ => False.elim h
  | succ u ih =>
    intro f p x i w h ex iN f01 ef ep mo pi fs ts
    have Ww := WcS_m mo W
    have e31 : (w.1 31 a1.toInt.toNat).toInt = n := by rw [ka]; exact Ww.1.1
    have tw : tC w = tC z := by
      unfold tC
      rw [mo.2.1 8 0 (by decide) (by decide) (by decide) (by decide) (by decide)]
    rw [q_Wa_movesLitre_126.eq_2, e31] at h ⊢
    have last : ∀ (_ : n = i), E f w → E' f w := fun e g => by
      refine kE f w f01 ?_ mo ?_ fs ts g
      · rw [e]
        exact ef
      · rw [← e] at pi
        exact pi
    refine ⟨h.1, fun d => last (by omega) (h.2.1 d), fun d => ?_⟩
    have hi : i < n := by omega
    have H := h.2.2 d
    have W2 := Ww.2.1 i hi
    have ep' := ep hi
    have pI : p.toInt = (pp i : Int) := by
      rw [ep', nI_toInt (by have := W2.1; omega)]
    have pN : p.toInt.toNat = pp i := by omega
    have p24 := W2.1
    refine ⟨fun d2 => by omega, fun d2 => gf_x (d := dd i) (H.2 d2) (by rw [pN]; exact W2.2.2) (fun r17 e17 g => ?_)⟩
    have C := pi.2 i hi (by omega)
    obtain ⟨C1, C2, C3, C4, C5, C6, C7, C8, C9⟩ := C
    have ca0 : ¬ ca.toInt = 0 := by have := W.2.2.2.2.2.2.1; omega
    have er : rmC w (pp i) = rmC z (pp i) := by
      unfold rmC
      rw [C2]
    have r200 : rmC z (pp i) ≤ 200 := by
      have := C1.1.2
      rw [← er]
      unfold rmC
      omega
    have r1 : 1 ≤ rmC z (pp i) := by
      have := C1.1.1
      rw [← er]
      unfold rmC
      omega
    have lec := ctb_n (fun j => Bm B m (of' z pp i + j)) (rmC z (pp i))
    have n17 : ¬ (w.1 17 (xs z pp i)).toInt = 0 ↔ 0 < ctb (fun j => Bm B m (of' z pp i + j)) (rmC z (pp i)) := by
      rw [C5]
      by_cases q : 0 < ctb (fun j => Bm B m (of' z pp i + j)) (rmC z (pp i))
      · rw [if_pos q]
        exact ⟨fun _ => q, fun _ => ca0⟩
      · rw [if_neg q]
        exact ⟨fun y => absurd i_0 y, fun y => absurd y q⟩
    refine psh_x (x := xs z pp i) (n := ctb (fun j => Bm B m (of' z pp i + j)) (rmC z (pp i))) g (by omega) (by omega) (by rw [tw]; exact W.2.2.2.1) ?_ (by rw [pN]; exact C1) C4 (by omega) n17 C6 ca0 f01 (fun q => ?_) (fun r18 w18 r01 pu g2 => ⟨g2.1, ?_⟩)
    · unfold xs
      rw [tw, pN]
    · rw [pN, er, e17, C3 _ (by omega)] at q
      have t := ctb_lt (f := fun _ => false) (g := fun j => Bm B m (of' z pp i + j)) (k := rmC z (pp i) - 1) rfl q (rmC z (pp i)) (by omega) (fun y _ t => by cases t)
      omega
    · rw [pN, e17] at pu
      have cs := cp_s (z := z) (o := of' z pp i) ca0 ⟨C1, C2, C3, C4, C5, C6, C7, C8, C9⟩ rfl ef pu
      have moS : MvO (fun y => y = xs z pp i) (fun y => y = pp i) w w18 := mv_pu rfl rfl pu.1
      have moW : MvO (SpW z n pp fr to) (PpW n pp) w w18 := mv_pu (Or.inr (Or.inr ⟨i, hi, rfl⟩)) ⟨i, hi, rfl⟩ pu.1
      have x1 : (x + (1 : Int32)).toInt = ((i + 1 : Nat) : Int) := by
        have q := ti_add2 ex i_1 (by omega) (by omega)
        omega
      have frT := W.2.2.2.2.1
      have T := W.2.2.2.1
      have nfr : ¬ fr = xs z pp i := by
        unfold xs
        omega
      have nto : ¬ to = xs z pp i := by
        unfold xs
        omega
      refine ih _ _ _ (i + 1) _ g2.2 x1 hi r01 ?_ (fun hi2 => ?_) (mv_t mo moW) ⟨fun j hj hji => ?_, fun j hj hji => ?_⟩ (fr_f nfr moS fs) (to_f nto moS ts)
      · rw [cs.2]
        unfold of'
        rw [ofs_s]
      · rw [pN, moW.2.1 35 _ (by decide) (by decide) (by decide) (by decide) (by decide), W2.2.1, if_pos hi2]
      · by_cases q : j = i
        · rw [q]
          exact cs.1
        · have np : ¬ pp j = pp i := fun e => q (W.2.2.1 j i hj hi e)
          exact cp_f (S := fun y => y = xs z pp i) (Pp := fun y => y = pp i) (by unfold xs; omega) np moS (pi.1 j hj (by omega))
      · have np : ¬ pp j = pp i := fun e => by
          have := W.2.2.1 j i hj hi e
          omega
        exact cp_f (S := fun y => y = xs z pp i) (Pp := fun y => y = pp i) (by unfold xs; omega) np moS (pi.2 j hj (by omega))
/-- how many of the first m litres came out -/
def cOut (B : Nat → Bool) (L m : Nat) : Nat := ctb (fun j => Bm B (j + 1) L) m
/-- whether litre m + 1 goes -/
def decZ (z : MW) (L fr to : Nat) (ca : Int32) (B : Nat → Bool) (m : Nat) : Prop := (z.1 17 fr = ca ∧ (m : Int) < (z.1 18 fr).toInt) ∧ (Bm B (m + 1) L = false ∨ ((z.1 18 to).toInt + cOut B L m < (z.1 10 to).toInt ∧ (0 < cOut B L m ∨ McO z to ca)))
/-- the class behind m litres of way k -/
def CMv (z v : MW) (n : Nat) (pp : Nat → Nat) (dd : Nat → Bool) (fr to : Nat) (ca : Int32) (X : Nat → Int32) (B : Nat → Bool) (m : Nat) : Prop := MvO (SpW z n pp fr to) (PpW n pp) z v ∧ (∀ j, j < n → CPi z v (xs z pp j) (pp j) (of' z pp j) (dd j) ca (X j) B m) ∧ FrS z v fr m ca ∧ ToS z v to (cOut B (of' z pp n) m) ca
