/-! the class reads a plant: numbers -/
/-- how many digits, their number, and where it stands; d digits were read before, at most n more -/
def dgs (f : Int → Int) : Nat → Nat → Int → Int → Nat × Int × Int
  | 0, d, v, p => (d, v, p)
  | n + 1, d, v, p => if (48 ≤ f p ∧ f p ≤ 57) ∧ (d = 0 ∨ 0 < v) then dgs f n (d + 1) (v * 10 + f p - 48) (p + 1) else (d, v, p)
theorem w91 (w : MW) (a b c d : Int32) : sI (sI (sI (sI w 91 11 a) 91 10 b) 91 11 c) 91 10 d = sI (sI w 91 11 c) 91 10 d := by
  rw [sI_cm (sI w 91 11 a) 91 10 91 11 b c (by decide), sI_sI, sI_sI]
theorem tp_dig {w : MW} {a : Int32} {Q : Int32 → MW → Prop} (h1 : 48 ≤ a.toInt → a.toInt ≤ 57 → Q 1 w) (h0 : ¬ (48 ≤ a.toInt ∧ a.toInt ≤ 57) → Q 0 w) : p_Tp_isDigit w a Q :=
  Eq.mpr (p_Tp_isDigit.eq_1 _ _ _) ⟨fun _ => h0 (by omega), fun _ => ⟨fun _ => h0 (by omega), fun _ => h1 (by omega) (by omega)⟩⟩
theorem nl_91 {w0 : MW} {E : Int32 → MW → Prop} {Q : Int32 → MW → Prop} {P : Int} (hI : BND w0) (hr : w0.2.2 91 9 = some 1) (hE : ∀ (c : Nat) (v q : Int), dgs (cf w0) 7 0 0 P = (c, v, q) → c ≤ 7 → 0 ≤ v → v ≤ 9999999 → 0 ≤ q → q ≤ 4000 → E (nI c) (sI (sI w0 91 11 (tI v)) 91 10 (tI q))) (m : Nat) : ∀ (n d : Nat) (v p : Int), n + d = 7 → 0 ≤ v → v < 10 ^ d → 0 ≤ p → p ≤ 4000 → dgs (cf w0) 7 0 0 P = dgs (cf w0) n d v p → n < m → q_Pl_takesNumbers91_7 E Q m (nI d) (sI (sI w0 91 11 (tI v)) 91 10 (tI p)) := by
  induction m with
  | zero => intros; omega
  | succ m ih =>
    intro n d v p hn v0 v1 p0 p1 hd hm
    have td : (nI d).toInt = (d : Int) := nI_toInt (by omega)
    have be := bd_1_2 hI
    have v7 : v ≤ 9999999 := by
      have h10 : (10 : Int) ^ d ≤ 10 ^ 7 := by
        have : d = 0 ∨ d = 1 ∨ d = 2 ∨ d = 3 ∨ d = 4 ∨ d = 5 ∨ d = 6 ∨ d = 7 := by omega
        rcases this with rfl | rfl | rfl | rfl | rfl | rfl | rfl | rfl <;> decide
      have : (10 : Int) ^ 7 = 10000000 := by decide
      omega
    have tv : (tI v).toInt = v := tI_t (by omega) (by omega)
    have tp : (tI p).toInt = p := tI_t (by omega) (by omega)
    have e9 : (sI (sI w0 91 11 (tI v)) 91 10 (tI p)).2.2 91 9 = some 1 := hr
    have e10 : (sI (sI w0 91 11 (tI v)) 91 10 (tI p)).1 91 10 = tI p := sI_same _ _ _ _
    have e11 : (sI (sI w0 91 11 (tI v)) 91 10 (tI p)).1 91 11 = tI v := by
      rw [sI_ne _ _ _ _ _ (by decide), sI_same]
    have hB : BND (sI (sI w0 91 11 (tI v)) 91 10 (tI p)) := wbd_91_10 (wbd_91_11 hI (by omega) (by omega)) (by omega) (by omega)
    have ev : (cv (sI (sI w0 91 11 (tI v)) 91 10 (tI p)) (tI p)).toInt = cf w0 p := by
      rw [cv_cf, cf_sI rfl, cf_sI rfl, tp]
    rw [q_Pl_takesNumbers91_7.eq_2]
    refine ⟨fun c => ?_, fun c => ⟨e9, at_x hB ?_⟩⟩
    · obtain rfl : n = 0 := by omega
      exact hE d v p hd (by omega) v0 v7 p0 p1
    obtain ⟨n, rfl⟩ : ∃ k, n = k + 1 := ⟨n - 1, by omega⟩
    have un : dgs (cf w0) (n + 1) d v p = if (48 ≤ cf w0 p ∧ cf w0 p ≤ 57) ∧ (d = 0 ∨ 0 < v) then dgs (cf w0) n (d + 1) (v * 10 + cf w0 p - 48) (p + 1) else (d, v, p) := rfl
    rw [e10]
    have go : 48 ≤ cf w0 p → cf w0 p ≤ 57 → (d = 0 ∨ 0 < v) → q_Pl_takesNumbers91_41 (nI d) (sI (sI w0 91 11 (tI v)) 91 10 (tI p)) (fun (x7_1 : Int32) (w : MW) => q_Pl_takesNumbers91_7 E Q m x7_1 w) E Q := fun c1 c2 c3 => by
      have cp := cf_pos (w := w0) (p := p) (by omega)
      refine Eq.mpr (q_Pl_takesNumbers91_41.eq_1 _ _ _ _ _) ⟨e9, at_x hB ?_⟩
      rw [e10, e11, w91, nI_1]
      have hp : (10 : Int) ^ (d + 1) = 10 ^ d * 10 := Int.pow_succ 10 d
      have m10 : ((tI v) * (10 : Int32)).toInt = v * 10 := ti_mul2 tv (by decide) (by omega) (by
        have : d = 0 ∨ d = 1 ∨ d = 2 ∨ d = 3 ∨ d = 4 ∨ d = 5 ∨ d = 6 := by omega
        have h10 : (10 : Int) ^ d ≤ 1000000 := by
          rcases this with rfl | rfl | rfl | rfl | rfl | rfl | rfl <;> decide
        omega)
      have h10 : (10 : Int) ^ d ≤ 1000000 := by
        have : d = 0 ∨ d = 1 ∨ d = 2 ∨ d = 3 ∨ d = 4 ∨ d = 5 ∨ d = 6 := by omega
        rcases this with rfl | rfl | rfl | rfl | rfl | rfl | rfl <;> decide
      have a1 := ti_add2 m10 ev (by omega) (by omega)
      have a2 := ti_sub2 a1 (by decide : ((48 : Int32)).toInt = 48) (by omega) (by omega)
      have e1 : (((tI v) * (10 : Int32)) + cv (sI (sI w0 91 11 (tI v)) 91 10 (tI p)) (tI p)) - (48 : Int32) = tI (v * 10 + cf w0 p - 48) := ti_inj (by rw [a2, tI_t (by omega) (by omega)])
      have e2 : tI p + (1 : Int32) = tI (p + 1) := ti_inj (by rw [ti_add2 tp i_1 (by omega) (by omega), tI_t (by omega) (by omega)])
      rw [e1, e2]
      refine ih n (d + 1) _ _ (by omega) (by omega) (by omega) (by omega) (by omega) ?_ (by omega)
      rw [hd, un, if_pos ⟨⟨c1, c2⟩, c3⟩]
    have st : ¬ ((48 ≤ cf w0 p ∧ cf w0 p ≤ 57) ∧ (d = 0 ∨ 0 < v)) → E (nI d) (sI (sI w0 91 11 (tI v)) 91 10 (tI p)) := fun q => hE d v p (by rw [hd, un, if_neg q]) (by omega) v0 v7 p0 p1
    refine tp_dig (fun c1 c2 => ⟨fun z => absurd z (by decide), fun _ => ⟨fun z => ?_, fun z => ⟨fun y => ?_, fun y => ?_⟩⟩⟩) (fun c1 => ⟨fun _ => st (fun q => c1 (by rw [ev]; exact q.1)), fun z => absurd i_0 z⟩)
    · rw [ev] at c1 c2
      exact go c1 c2 (Or.inl (by omega))
    · rw [e11, tv] at y
      exact st (fun q => by have := q.2; omega)
    · rw [e11, tv] at y
      rw [ev] at c1 c2
      exact go c1 c2 (Or.inr (by omega))
theorem nx_91 {w : MW} {Q : Int32 → MW → Prop} (hI : BND w) (hr : w.2.2 91 9 = some 1) (hQ : ∀ (c : Nat) (v q : Int), dgs (cf w) 7 0 0 (w.1 91 10).toInt = (c, v, q) → 0 ≤ v → v ≤ 9999999 → 0 ≤ q → q ≤ 4000 → Q (if c = 0 then 0 else 1) (sI (sI w 91 11 (tI v)) 91 10 (tI q))) : p_Pl_takesNumbers91 w Q := by
  have b := bd_91_10 hI
  refine Eq.mpr (p_Pl_takesNumbers91.eq_1 _ _) ?_
  have k := nl_91 (w0 := w) (P := (w.1 91 10).toInt) (E := fun e w10 => ((e.toInt ≤ 0 → (Q 0 w10)) ∧ (¬ (e.toInt ≤ 0) → (Q 1 w10)))) (Q := Q) hI hr (fun c v q h1 h2 h3 h4 h5 h6 => by
    have tc : (nI c).toInt = (c : Int) := nI_toInt (by omega)
    have g := hQ c v q h1 h3 h4 h5 h6
    refine ⟨fun z => ?_, fun z => ?_⟩
    · rw [if_pos (by omega)] at g
      exact g
    · rw [if_neg (by omega)] at g
      exact g) FU 7 0 0 (w.1 91 10).toInt (by omega) (by omega) (by decide) b.1 b.2 rfl (fu_lt (by decide))
  have e : sI (sI w 91 11 (tI 0)) 91 10 (tI (w.1 91 10).toInt) = sI w 91 11 0 := by
    rw [tI_of]
    have e2 : (sI w 91 11 (tI 0)).1 91 10 = w.1 91 10 := sI_ne _ _ _ _ _ (by decide)
    rw [← e2, sI_eta]
    rfl
  rw [e] at k
  exact k
