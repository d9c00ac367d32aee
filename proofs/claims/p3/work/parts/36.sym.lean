theorem shf_big (k : Nat) (h : 221 ≤ k) : shf k = none := by
  have h1 : Nat.ble 221 k = true := Nat.ble_eq.mpr h
  unfold shf
  rw [h1]; rfl
def Ls (σ : Nat → Nat) (L : Lo) : Lo := L.map (Option.map (rv σ))
def sw (σ : Nat → Nat) (w : MW) : MW := (fun k => w.1 (σ k), fun k => w.2.1 (σ k), fun k j => (w.2.2 (σ k) j).map σ)
def ts (σ : Nat → Nat) (t : Nat) : Nat := if t < 3 then t else σ (t - 3) + 3
def Sy (σ : Nat → Nat) : Prop := (∀ k, σ (σ k) = k) ∧ (∀ k n m l, shf k = some (n, m, l) → shf (σ k) = some (n, m, l.map (ts σ))) ∧ ∀ k, shf k = none → σ k = k
def os (σ : Nat → Nat) : (Nat × Lo × List Value × MW) ⊕ ((Nat × List Value × List Value) ⊕ Option Value) → (Nat × Lo × List Value × MW) ⊕ ((Nat × List Value × List Value) ⊕ Option Value)
  | .inl (n, L, S, w) => .inl (n, Ls σ L, S.map (rv σ), sw σ w)
  | .inr (.inl (ν, as, S)) => .inr (.inl (ν, as.map (rv σ), S.map (rv σ)))
  | .inr (.inr v) => .inr (.inr (v.map (rv σ)))
def OpE (σ : Nat → Nat) (op : Op) : Prop := ∀ L S w o, op L S w = some o → op (Ls σ L) (S.map (rv σ)) (sw σ w) = some (os σ o)
section SYM
variable {σ : Nat → Nat}
theorem ls_get {L : Lo} {i : Nat} {v : Value} (h : L[i]? = some (some v)) : (Ls σ L)[i]? = some (some (rv σ v)) := by
  rw [Ls, List.getElem?_map, h]; rfl
theorem ksl_rv (x : Option Value) : ksl (x.map (rv σ)) = (ksl x).map (rv σ) := by
  cases x with
  | none => rfl
  | some v => cases v <;> rfl
theorem mdf_map (f : Option Value → Option Value) (hf : ∀ x, f (Option.map (rv σ) x) = (f x).map (rv σ)) : ∀ (n : Nat) (L : Lo), mdf f n (Ls σ L) = Ls σ (mdf f n L) := by
  intro n
  induction n with
  | zero => intro L; cases L with
    | nil => rfl
    | cons x t => simp [Ls, mdf, hf]
  | succ n ih => intro L; cases L with
    | nil => rfl
    | cons x t =>
      have h := ih t
      simp only [Ls, mdf, List.map_cons] at h ⊢
      rw [h]
theorem pre1_map (i : Nat) (L : Lo) : pre1 i (Ls σ L) = Ls σ (pre1 i L) := by
  cases i with
  | zero => rfl
  | succ i => exact mdf_map ksl ksl_rv i L
theorem st1_map (i : Nat) (v : Value) (L : Lo) : st1 i (rv σ v) (Ls σ L) = Ls σ (st1 i v L) := by
  rw [st1, st1, pre1_map, Ls, Ls, List.map_set]; rfl
theorem st2_map (i : Nat) (v : Value) (L : Lo) : st2 i (rv σ v) (Ls σ L) = Ls σ (st2 i v L) := by
  rw [st2, st2, pre1_map, Ls, Ls, List.map_set, List.map_set]; rfl
theorem fvm_sw (hσ : Sy σ) (w : MW) (k j t : Nat) : fvm (sw σ w) (σ k) j (ts σ t) = rv σ (fvm w k j t) := by
  match t with
  | 0 => show Value.int (w.1 (σ (σ k)) j) = _; rw [hσ.1]; rfl
  | 1 => show Value.long (w.2.1 (σ (σ k)) j) = _; rw [hσ.1]; rfl
  | 2 =>
    show (match (w.2.2 (σ (σ k)) j).map σ with | none => Value.null | some c => .ref c) = rv σ (match w.2.2 k j with | none => Value.null | some c => .ref c)
    rw [hσ.1]
    cases w.2.2 k j <;> rfl
  | t + 3 =>
    have e : ts σ (t + 3) = σ t + 3 := by
      unfold ts
      rw [if_neg (by omega), Nat.add_sub_cancel]
    rw [e]; rfl
theorem sI_sw (hσ : Sy σ) (w : MW) (k j : Nat) (x : Int32) : sI (sw σ w) (σ k) j x = sw σ (sI w k j x) := by
  show ((fun a => if a = σ k then upd (w.1 (σ a)) j x else w.1 (σ a)), (sw σ w).2) = ((fun a => if σ a = k then upd (w.1 (σ a)) j x else w.1 (σ a)), (sw σ w).2)
  congr 1
  funext a
  by_cases h : a = σ k
  · rw [if_pos h, if_pos (by rw [h, hσ.1])]
  · rw [if_neg h, if_neg (fun z => h (by rw [← z, hσ.1]))]
theorem sJ_sw (hσ : Sy σ) (w : MW) (k j : Nat) (x : Int64) : sJ (sw σ w) (σ k) j x = sw σ (sJ w k j x) := by
  show ((sw σ w).1, (fun a => if a = σ k then vp_updL (w.2.1 (σ a)) j x else w.2.1 (σ a)), (sw σ w).2.2) = ((sw σ w).1, (fun a => if σ a = k then vp_updL (w.2.1 (σ a)) j x else w.2.1 (σ a)), (sw σ w).2.2)
  congr 2
  funext a
  by_cases h : a = σ k
  · rw [if_pos h, if_pos (by rw [h, hσ.1])]
  · rw [if_neg h, if_neg (fun z => h (by rw [← z, hσ.1]))]
theorem sR_sw (hσ : Sy σ) (w : MW) (k j x : Nat) : sR (sw σ w) (σ k) j (some (σ x)) = sw σ (sR w k j (some x)) := by
  show ((sw σ w).1, (sw σ w).2.1, fun a b => if a = σ k ∧ b = j then some (σ x) else (w.2.2 (σ a) b).map σ) = ((sw σ w).1, (sw σ w).2.1, fun a b => (if σ a = k ∧ b = j then some x else w.2.2 (σ a) b).map σ)
  congr 2
  funext a b
  by_cases h : a = σ k ∧ b = j
  · rw [if_pos h, if_pos ⟨by rw [h.1, hσ.1], h.2⟩]; rfl
  · rw [if_neg h, if_neg (fun z => h ⟨by rw [← z.1, hσ.1], z.2⟩)]
theorem cat_rv (r : List Value) : ((r.map (rv σ)).map fun v => v.category) = r.map fun v => v.category := cat_sum σ r

theorem oe_bad : OpE σ oBad := fun L S w o h => by cases h
theorem oe_K {n : Nat} {v : Value} (hv : rv σ v = v) : OpE σ (oK n v) := by
  intro L S w o h
  unfold oK at h ⊢
  cases h
  show some (Sum.inl (n, Ls σ L, v :: S.map (rv σ), sw σ w)) = some (Sum.inl (n, Ls σ L, rv σ v :: S.map (rv σ), sw σ w))
  rw [hv]
theorem oe_Il {n i : Nat} : OpE σ (oIl n i) := by
  intro L S w o h
  unfold oIl at h ⊢
  split at h
  · next hk => cases h; rw [ls_get hk]; rfl
  · cases h
theorem oe_Ll {n i : Nat} : OpE σ (oLl n i) := by
  intro L S w o h
  unfold oLl at h ⊢
  split at h
  · next hk => cases h; rw [ls_get hk]; rfl
  · cases h
theorem oe_Al {n i : Nat} : OpE σ (oAl n i) := by
  intro L S w o h
  unfold oAl at h ⊢
  split at h
  · next hk => cases h; rw [ls_get hk]; rfl
  · cases h
theorem oe_Is {n i : Nat} : OpE σ (oIs n i) := by
  intro L S w o h
  unfold oIs at h ⊢
  split at h
  · cases h
    simp only [List.map_cons, rv, os]
    rw [← st1_map]; rfl
  · cases h
theorem oe_Ls {n i : Nat} : OpE σ (oLs n i) := by
  intro L S w o h
  unfold oLs at h ⊢
  split at h
  · cases h
    simp only [List.map_cons, rv, os]
    rw [← st2_map]; rfl
  · cases h
theorem oe_As {n i : Nat} : OpE σ (oAs n i) := by
  intro L S w o h
  unfold oAs at h ⊢
  split at h
  · cases h
    simp only [List.map_cons, rv, os]
    rw [← st1_map]; rfl
  · cases h
theorem oe_Ic {n i : Nat} {a : Int32} : OpE σ (oIc n i a) := by
  intro L S w o h
  unfold oIc at h ⊢
  split at h
  · next x hk =>
    cases h
    rw [ls_get hk]
    simp only [rv, os]
    rw [← st1_map]; rfl
  · cases h
theorem oe_II {f : Int32 → Int32 → Int32} {n : Nat} : OpE σ (oII f n) := by
  intro L S w o h
  unfold oII at h ⊢
  split at h
  · cases h; rfl
  · cases h
theorem oe_LL {f : Int64 → Int64 → Int64} {n : Nat} : OpE σ (oLL f n) := by
  intro L S w o h
  unfold oLL at h ⊢
  split at h
  · cases h; rfl
  · cases h
theorem oe_LI {f : Int64 → Int32 → Int64} {n : Nat} : OpE σ (oLI f n) := by
  intro L S w o h
  unfold oLI at h ⊢
  split at h
  · cases h; rfl
  · cases h
theorem oe_Lc {n : Nat} : OpE σ (oLc n) := by
  intro L S w o h
  unfold oLc at h ⊢
  split at h
  · cases h; rfl
  · cases h
theorem oe_Pp {n : Nat} : OpE σ (oPp n) := by
  intro L S w o h
  unfold oPp at h ⊢
  split at h
  · cases h; rfl
  · cases h
theorem oe_DI {f : Int32 → Int32 → Int32} {n : Nat} : OpE σ (oDI f n) := by
  intro L S w o h
  unfold oDI at h ⊢
  split at h
  · split at h
    · next hy => cases h; simp only [List.map_cons, rv]; rw [if_pos hy]; rfl
    · cases h
  · cases h
theorem oe_DL {f : Int64 → Int64 → Int64} {n : Nat} : OpE σ (oDL f n) := by
  intro L S w o h
  unfold oDL at h ⊢
  split at h
  · split at h
    · next hy => cases h; simp only [List.map_cons, rv]; rw [if_pos hy]; rfl
    · cases h
  · cases h
theorem oe_I1 {f : Int32 → Value} {n : Nat} (hf : ∀ x, rv σ (f x) = f x) : OpE σ (oI1 f n) := by
  intro L S w o h
  unfold oI1 at h ⊢
  split at h
  · next x r =>
    cases h
    show some (Sum.inl (n, Ls σ L, f x :: r.map (rv σ), sw σ w)) = some (Sum.inl (n, Ls σ L, rv σ (f x) :: r.map (rv σ), sw σ w))
    rw [hf]
  · cases h
theorem oe_L1 {f : Int64 → Value} {n : Nat} (hf : ∀ x, rv σ (f x) = f x) : OpE σ (oL1 f n) := by
  intro L S w o h
  unfold oL1 at h ⊢
  split at h
  · next x r =>
    cases h
    show some (Sum.inl (n, Ls σ L, f x :: r.map (rv σ), sw σ w)) = some (Sum.inl (n, Ls σ L, rv σ (f x) :: r.map (rv σ), sw σ w))
    rw [hf]
  · cases h
theorem oe_If {q : Int32 → Prop} [DecidablePred q] {t n : Nat} : OpE σ (oIf q t n) := by
  intro L S w o h
  unfold oIf at h ⊢
  split at h
  · simp only [List.map_cons, rv]
    split at h
    · next hq => cases h; rw [if_pos hq]; rfl
    · next hq => cases h; rw [if_neg hq]; rfl
  · cases h
theorem oe_Cm {q : Int32 → Int32 → Prop} [∀ x y, Decidable (q x y)] {t n : Nat} : OpE σ (oCm q t n) := by
  intro L S w o h
  unfold oCm at h ⊢
  split at h
  · simp only [List.map_cons, rv]
    split at h
    · next hq => cases h; rw [if_pos hq]; rfl
    · next hq => cases h; rw [if_neg hq]; rfl
  · cases h
theorem oe_Go {t : Nat} : OpE σ (oGo t) := by
  intro L S w o h
  unfold oGo at h ⊢
  cases h; rfl
theorem oe_Dp {n : Nat} : OpE σ (oDp n) := by
  intro L S w o h
  unfold oDp at h ⊢
  split at h
  · cases h; rfl
  · cases h; rfl
  · cases h
theorem oe_D2 {n : Nat} : OpE σ (oD2 n) := by
  intro L S w o h
  unfold oD2 at h ⊢
  split at h
  · cases h; rfl
  · cases h; rfl
  · cases h; rfl
  · cases h
theorem oe_Tb {d : Nat} {lo : Int} {ts : List Nat} : OpE σ (oTb d lo ts) := by
  intro L S w o h
  unfold oTb at h ⊢
  split at h
  · simp only [List.map_cons, rv]
    split at h
    · next hq => cases h; rw [if_pos hq]; rfl
    · next hq =>
      rw [if_neg hq]
      split at h
      · next t ht => cases h; rfl
      · cases h
  · cases h
theorem oe_Lk {d : Nat} {ps : List (Int × Nat)} : OpE σ (oLk d ps) := by
  intro L S w o h
  unfold oLk at h ⊢
  split at h
  · cases h; rfl
  · cases h
theorem oe_Gt (hσ : Sy σ) {n ci j : Nat} : OpE σ (oGt n ci j) := by
  intro L S w o h
  unfold oGt at h ⊢
  split at h
  · next k r =>
    split at h
    · next c0 fds hk =>
      split at h
      · next hci =>
        split at h
        · next t ht =>
          cases h
          simp only [List.map_cons, rv]
          rw [hσ.2.1 k _ _ _ hk]
          simp only [if_pos hci, List.getElem?_map, ht, Option.map_some, os, List.map_cons]
          rw [fvm_sw hσ]
        · cases h
      · cases h
    · cases h
  · cases h
theorem oe_PI (hσ : Sy σ) {n ci j : Nat} : OpE σ (oPI n ci j) := by
  intro L S w o h
  unfold oPI at h ⊢
  split at h
  · next x k r =>
    split at h
    · next c0 fds hk =>
      split at h
      · next hci =>
        cases h
        simp only [List.map_cons, rv]
        rw [hσ.2.1 k _ _ _ hk]
        simp only [os]
        rw [if_pos ⟨hci.1, by rw [List.getElem?_map, hci.2]; rfl⟩, sI_sw hσ]
      · cases h
    · cases h
  · cases h
theorem oe_PZ (hσ : Sy σ) {n ci j : Nat} : OpE σ (oPZ n ci j) := by
  intro L S w o h
  unfold oPZ at h ⊢
  split at h
  · next x k r =>
    split at h
    · next c0 fds hk =>
      split at h
      · next hci =>
        cases h
        simp only [List.map_cons, rv]
        rw [hσ.2.1 k _ _ _ hk]
        simp only [os]
        rw [if_pos ⟨hci.1, by rw [List.getElem?_map, hci.2.1]; rfl, hci.2.2⟩, sI_sw hσ]
      · cases h
    · cases h
  · cases h
theorem oe_PJ (hσ : Sy σ) {n ci j : Nat} : OpE σ (oPJ n ci j) := by
  intro L S w o h
  unfold oPJ at h ⊢
  split at h
  · next x k r =>
    split at h
    · next c0 fds hk =>
      split at h
      · next hci =>
        cases h
        simp only [List.map_cons, rv]
        rw [hσ.2.1 k _ _ _ hk]
        simp only [os]
        rw [if_pos ⟨hci.1, by rw [List.getElem?_map, hci.2]; rfl⟩, sJ_sw hσ]
      · cases h
    · cases h
  · cases h
theorem oe_PR (hσ : Sy σ) {n ci j : Nat} : OpE σ (oPR n ci j) := by
  intro L S w o h
  unfold oPR at h ⊢
  split at h
  · next x k r =>
    split at h
    · next c0 fds hk =>
      split at h
      · next hci =>
        cases h
        simp only [List.map_cons, rv]
        rw [hσ.2.1 k _ _ _ hk]
        simp only [os]
        rw [if_pos ⟨hci.1, by rw [List.getElem?_map, hci.2]; rfl⟩, sR_sw hσ]
      · cases h
    · cases h
  · cases h
theorem oe_Ia (hσ : Sy σ) {n : Nat} : OpE σ (oIa n) := by
  intro L S w o h
  unfold oIa at h ⊢
  split at h
  · next i k r =>
    split at h
    · next len fds hk =>
      split at h
      · next hb =>
        cases h
        simp only [List.map_cons, rv]
        rw [hσ.2.1 k _ _ _ hk]
        simp only [if_pos hb, os, List.map_cons, rv, sw, hσ.1]
      · cases h
    · next hk =>
      split at h
      · next hb =>
        cases h
        simp only [List.map_cons, rv]
        rw [hσ.2.2 k hk, hk]
        simp only [if_pos hb, os, List.map_cons, rv]
      · cases h
    · cases h
  · cases h
theorem oe_Ba (hσ : Sy σ) {n : Nat} : OpE σ (oBa n) := by
  intro L S w o h
  unfold oBa at h ⊢
  split at h
  · next i k r =>
    split at h
    · next len fds hk =>
      split at h
      · next hb =>
        cases h
        simp only [List.map_cons, rv]
        rw [hσ.2.1 k _ _ _ hk]
        simp only [if_pos hb, os, List.map_cons, rv, sw, hσ.1]
      · cases h
    · next len fds hk =>
      split at h
      · next hb =>
        cases h
        simp only [List.map_cons, rv]
        rw [hσ.2.1 k _ _ _ hk]
        simp only [if_pos hb, os, List.map_cons, rv, sw, hσ.1]
      · cases h
    · cases h
  · cases h
theorem oe_La (hσ : Sy σ) {n : Nat} : OpE σ (oLa n) := by
  intro L S w o h
  unfold oLa at h ⊢
  split at h
  · next i k r =>
    split at h
    · next len fds hk =>
      split at h
      · next hb =>
        cases h
        simp only [List.map_cons, rv]
        rw [hσ.2.1 k _ _ _ hk]
        simp only [if_pos hb, os, List.map_cons, rv, sw, hσ.1]
      · cases h
    · cases h
  · cases h
theorem oe_Ix (hσ : Sy σ) {n : Nat} : OpE σ (oIx n) := by
  intro L S w o h
  unfold oIx at h ⊢
  split at h
  · next x i k r =>
    split at h
    · next len fds hk =>
      split at h
      · next hb =>
        cases h
        simp only [List.map_cons, rv]
        rw [hσ.2.1 k _ _ _ hk]
        simp only [if_pos hb, os]
        rw [sI_sw hσ]
      · cases h
    · cases h
  · cases h
theorem oe_Bx (hσ : Sy σ) {n : Nat} : OpE σ (oBx n) := by
  intro L S w o h
  unfold oBx at h ⊢
  split at h
  · next x i k r =>
    split at h
    · next len fds hk =>
      split at h
      · next hb =>
        cases h
        simp only [List.map_cons, rv]
        rw [hσ.2.1 k _ _ _ hk]
        simp only [if_pos hb, os]
        rw [sI_sw hσ]
      · cases h
    · next len fds hk =>
      split at h
      · next hb =>
        cases h
        simp only [List.map_cons, rv]
        rw [hσ.2.1 k _ _ _ hk]
        simp only [if_pos hb, os]
        rw [sI_sw hσ]
      · cases h
    · cases h
  · cases h
theorem oe_Lx (hσ : Sy σ) {n : Nat} : OpE σ (oLx n) := by
  intro L S w o h
  unfold oLx at h ⊢
  split at h
  · next x i k r =>
    split at h
    · next len fds hk =>
      split at h
      · next hb =>
        cases h
        simp only [List.map_cons, rv]
        rw [hσ.2.1 k _ _ _ hk]
        simp only [if_pos hb, os]
        rw [sJ_sw hσ]
      · cases h
    · cases h
  · cases h
theorem oe_An (hσ : Sy σ) {n : Nat} : OpE σ (oAn n) := by
  intro L S w o h
  unfold oAn at h ⊢
  split at h
  · next k r =>
    split at h
    · cases h
    · next t len fds hne hk =>
      cases h
      simp only [List.map_cons, rv]
      rw [hσ.2.1 k _ _ _ hk]
      match t, hne with
      | 0, hne => exact (hne rfl).elim
      | t + 1, hne => rfl
    · cases h
  · cases h
theorem oe_Rv  : OpE σ (oRv) := by
  intro L S w o h
  unfold oRv at h ⊢
  split at h
  · cases h; rfl
  · cases h
theorem oe_Ri  : OpE σ (oRi) := by
  intro L S w o h
  unfold oRi at h ⊢
  split at h
  · cases h; rfl
  · cases h
theorem oe_Rl  : OpE σ (oRl) := by
  intro L S w o h
  unfold oRl at h ⊢
  split at h
  · cases h; rfl
  · cases h
theorem oe_Rz  : OpE σ (oRz) := by
  intro L S w o h
  unfold oRz at h ⊢
  split at h
  · split at h
    · next hz => cases h; simp only [List.map_cons, List.map_nil, rv]; rw [if_pos hz]; rfl
    · cases h
  · cases h
theorem oe_CV (hσ : Sy σ) {ν na ci : Nat} : OpE σ (oCV ν na ci) := by
  intro L S w o h
  unfold oCV at h ⊢
  split at h
  · next k r hS =>
    split at h
    · next c0 fds hk =>
      split at h
      · next hci =>
        cases h
        have e : (S.map (rv σ)).drop na = .ref (σ k) :: r.map (rv σ) := by rw [← List.map_drop, hS]; rfl
        rw [e]
        simp only
        rw [hσ.2.1 k _ _ _ hk]
        simp only [cat_rv, if_pos hci, os, List.map_cons, rv, List.map_reverse, List.map_take]
      · cases h
    · cases h
  · cases h
theorem oe_CS {ν na : Nat} : OpE σ (oCS ν na) := by
  intro L S w o h
  unfold oCS at h ⊢
  split at h
  · next hci =>
    cases h
    have e : (S.map (rv σ)).drop na = (S.drop na).map (rv σ) := (List.map_drop ..).symm
    rw [e, cat_rv, List.length_map, if_pos hci]
    simp only [os, List.map_reverse, List.map_take]
  · cases h
theorem oe_Sl (hσ : Sy σ) {n : Nat} : OpE σ (oSl n) := by
  intro L S w o h
  unfold oSl at h ⊢
  split at h
  · next k r =>
    split at h
    · next hk =>
      cases h
      have e : σ k = k := hσ.2.2 k (shf_big k (Nat.le_trans (by decide) hk.1))
      simp only [List.map_cons, rv, e, cat_rv, if_pos hk, os]
    · cases h
  · cases h
theorem oe_Sc (hσ : Sy σ) {n : Nat} : OpE σ (oSc n) := by
  intro L S w o h
  unfold oSc at h ⊢
  split at h
  · next z k r =>
    split at h
    · next hk =>
      cases h
      have e : σ k = k := hσ.2.2 k (shf_big k (Nat.le_trans (by decide) hk.1))
      simp only [List.map_cons, rv, e, cat_rv, if_pos hk, os]
    · cases h
  · cases h
theorem oe_n {b : Bool} {x y : Op} (hx : OpE σ x) (hy : OpE σ y) : OpE σ (bif b then x else y) := by
  cases b
  · exact hy
  · exact hx
theorem oe_l {b : Bool} {x : Op} (h : OpE σ x) : OpE σ (bif b then x else oBad) := oe_n h oe_bad
end SYM
