section HP
theorem mi_set {w w' : MW} {ad : Nat → Nat} {k j t : Nat} {fds : List Nat} {v : Value} (hj : fds[j]? = some t) (hv : rv ad (fvm w' k j t) = v) (ho : ∀ b t, b ≠ j → fvm w' k b t = fvm w k b t) : (fds.mapIdx fun b t => rv ad (fvm w' k b t)) = (fds.mapIdx fun b t => rv ad (fvm w k b t)).set j v := by
  apply List.ext_getElem?
  intro b
  by_cases hb : b = j
  · subst hb
    have hlt : b < (fds.mapIdx fun b t => rv ad (fvm w k b t)).length := by
      have := (List.getElem?_eq_some_iff.mp hj).1
      simpa using this
    rw [List.getElem?_set_self hlt, List.getElem?_mapIdx, hj]
    exact congrArg some hv
  · rw [List.getElem?_set_ne (Ne.symm hb), List.getElem?_mapIdx, List.getElem?_mapIdx]
    cases fds[b]? with
    | none => rfl
    | some t' => simp [ho b t' hb]
theorem oth_I {E : EV} {w : MW} {k j : Nat} {x : Int32} : ∀ a, a ≠ k → ∀ s', cE E (sI w k j x) a s' = cE E w a s' := by
  intro a h s'
  refine cE_other (w := w) (w' := sI w k j x) ?_ rfl (fun b t => fvm_I (fun z => h z.1)) s'
  show (if a = k then _ else _) = _
  rw [if_neg h]
theorem oth_J {E : EV} {w : MW} {k j : Nat} {x : Int64} : ∀ a, a ≠ k → ∀ s', cE E (sJ w k j x) a s' = cE E w a s' := by
  intro a h s'
  refine cE_other (w := w) (w' := sJ w k j x) rfl ?_ (fun b t => fvm_J (fun z => h z.1)) s'
  show (if a = k then _ else _) = _
  rw [if_neg h]
theorem oth_R {E : EV} {w : MW} {k j : Nat} {x : Option Nat} : ∀ a, a ≠ k → ∀ s', cE E (sR w k j x) a s' = cE E w a s' := by
  intro a h s'
  exact cE_other (w := w) (w' := sR w k j x) rfl rfl (fun b t => fvm_R (fun z => h z.1)) s'
theorem fz_of {x : Int32} (h : x.toInt = 0 ∨ x.toInt = 1) : fits .boolean (.int x) = true := by
  rcases h with h | h
  · have e : x = 0 := Int32.toInt_inj.mp (by rw [h]; decide)
    subst e; decide
  · have e : x = 1 := Int32.toInt_inj.mp (by rw [h]; decide)
    subst e; decide
theorem at_I {E : EV} {w : MW} {k j n : Nat} {x : Int32} {c : ClassId} : (Sum.inl (c, n, Sum.inl ((sI w k j x).1 k)) : va_E) = .inl (c, n, .inl (upd (w.1 k) j x)) := by
  show (Sum.inl (c, n, Sum.inl (if k = k then upd (w.1 k) j x else w.1 k)) : va_E) = _
  rw [if_pos rfl]
theorem at_J {E : EV} {w : MW} {k j n : Nat} {x : Int64} {c : ClassId} : (Sum.inl (c, n, Sum.inr (Sum.inl ((sJ w k j x).2.1 k))) : va_E) = .inl (c, n, .inr (.inl (vp_updL (w.2.1 k) j x))) := by
  show (Sum.inl (c, n, Sum.inr (Sum.inl (if k = k then vp_updL (w.2.1 k) j x else w.2.1 k))) : va_E) = _
  rw [if_pos rfl]
variable {mt : Nat → MI} {i : MI} {pc : Nat}
theorem so_get {C : String} {T : u_T} {N ci j idx : Nat} (hin : ∀ w ∈ u_ws C T N, w ∈ lw_gd) (hcl : classes[ci]? = some (C, T, N)) (hj : j < N) (hlink : Cond.fieldLink i.1.cls idx (T j).1 (T j).2.1 (T j).2.2.1 ∈ lw_gd) (hd : decode i.2.1 pc = .ok (.getfield idx, 3)) : OpS mt i pc (oGt (pc + 3) ci j) := by
  intro E l p e R s m args below meth c A vr wr d L S w o F hA hd1 hd2 ho hc
  obtain ⟨hx, hb, hr, hml, hown, hts, hlk, hK, hG, hAs, hAc, hi⟩ := F
  unfold oGt at ho
  split at ho
  · next k r =>
    split at ho
    · next c0 fds hk =>
      split at ho
      · next hci =>
        subst hci
        split at ho
        · next t ht =>
          cases ho
          intro H locs ls hH hl
          exact va_get (D := (E.dC, E.dI)) (v := rv E.ad (fvm w k j t)) hx hb hts (fun w h => List.mem_cons_of_mem _ (hin w h)) hown hK.1 hH.1 k (wO_get (shf_ok hk)) hcl j hj (hts _ (List.mem_cons_of_mem _ hlink)) (fun _ h9 => h9) (by rw [List.getElem?_mapIdx, ht]; rfl) hd (hc H locs ls hH hl)
        · cases ho
      · cases ho
    · cases ho
  · cases ho
theorem so_getN {C host : String} {T : u_T} {N ci j idx : Nat} (hin : ∀ w ∈ u_ws C T N, w ∈ lw_gd) (hcl : classes[ci]? = some (C, T, N)) (hj : j < N) (hlink : Cond.fieldLinkNest i.1.cls idx (T j).1 (T j).2.1 (T j).2.2.1 host ∈ lw_nest) (hd : decode i.2.1 pc = .ok (.getfield idx, 3)) : OpS mt i pc (oGt (pc + 3) ci j) := by
  intro E l p e R s m args below meth c A vr wr d L S w o F hA hd1 hd2 ho hc
  obtain ⟨hx, hb, hr, hml, hown, hts, hlk, hK, hG, hAs, hAc, hi⟩ := F
  unfold oGt at ho
  split at ho
  · next k r =>
    split at ho
    · next c0 fds hk =>
      split at ho
      · next hci =>
        subst hci
        split at ho
        · next t ht =>
          cases ho
          intro H locs ls hH hl
          exact va_getN (D := (E.dC, E.dI)) (v := rv E.ad (fvm w k j t)) hx hb hts (fun w h => List.mem_cons_of_mem _ (hin w h)) hown hK.1 hH.1 k (wO_get (shf_ok hk)) hcl j hj (va_Nw.use rfl (hK.2 _ hlink)) (fun _ h9 => h9) (by rw [List.getElem?_mapIdx, ht]; rfl) hd (hc H locs ls hH hl)
        · cases ho
      · cases ho
    · cases ho
  · cases ho
theorem so_putI {C : String} {T : u_T} {N ci j idx : Nat} (hin : ∀ w ∈ u_ws C T N, w ∈ lw_gd) {ty0 : Nat → FieldType} (hty : ∀ k, k < N → parseFieldDescriptor (T k).2.2.1 = some (ty0 k)) (hnm : ∀ a, a < N → ∀ b, b < N → a ≠ b → (T a).2.1 ≠ (T b).2.1) (hcl : classes[ci]? = some (C, T, N)) (hj : j < N) (hlink : Cond.fieldLink i.1.cls idx (T j).1 (T j).2.1 (T j).2.2.1 ∈ lw_gd) (hfin : (T j).2.2.2 = false) (hds : parseFieldDescriptor (T j).2.2.1 = some .int) (hd : decode i.2.1 pc = .ok (.putfield idx, 3)) : OpS mt i pc (oPI (pc + 3) ci j) := by
  intro E l p e R s m args below meth c A vr wr d L S w o F hA hd1 hd2 ho hc
  obtain ⟨hx, hb, hr, hml, hown, hts, hlk, hK, hG, hAs, hAc, hi⟩ := F
  unfold oPI at ho
  split at ho
  · next x k r =>
    split at ho
    · next c0 fds hk =>
      split at ho
      · next hci =>
        obtain rfl := hci.1
        cases ho
        intro H locs ls hH hl
        refine va_put (D := (E.dC, E.dI)) (v := .int x) (ty := .int) hx hb hts (fun w h => List.mem_cons_of_mem _ (hin w h)) ty0 hty hnm hown hK.1 hH.1 (wO_D hi hAc) hH.2 k (wO_get (shf_ok hk)) hcl j hj (hts _ (List.mem_cons_of_mem _ hlink)) (fun _ h9 => h9) hfin hds rfl rfl ?_ hd (fun H1 locs1 hP1 hD1 hS1 => hc H1 locs1 ls ⟨?_, hS1⟩ hl)
        · simpa using (List.getElem?_eq_some_iff.mp hci.2).1
        · rw [wO_set (w' := sI w k j x) (shf_ok hk) ?_ oth_I] at hP1
          · exact hP1
          · show (Sum.inr _ : va_E) = _
            rw [mi_set (w := w) (v := .int x) hci.2 (by show rv E.ad (Value.int ((sI w k j x).1 k j)) = _; rw [sI_at, if_pos ⟨rfl, rfl⟩]; rfl) (fun b t hb => fvm_I (fun z => hb z.2))]
      · cases ho
    · cases ho
  · cases ho
theorem so_putZ {C : String} {T : u_T} {N ci j idx : Nat} (hin : ∀ w ∈ u_ws C T N, w ∈ lw_gd) {ty0 : Nat → FieldType} (hty : ∀ k, k < N → parseFieldDescriptor (T k).2.2.1 = some (ty0 k)) (hnm : ∀ a, a < N → ∀ b, b < N → a ≠ b → (T a).2.1 ≠ (T b).2.1) (hcl : classes[ci]? = some (C, T, N)) (hj : j < N) (hlink : Cond.fieldLink i.1.cls idx (T j).1 (T j).2.1 (T j).2.2.1 ∈ lw_gd) (hfin : (T j).2.2.2 = false) (hds : parseFieldDescriptor (T j).2.2.1 = some .boolean) (hd : decode i.2.1 pc = .ok (.putfield idx, 3)) : OpS mt i pc (oPZ (pc + 3) ci j) := by
  intro E l p e R s m args below meth c A vr wr d L S w o F hA hd1 hd2 ho hc
  obtain ⟨hx, hb, hr, hml, hown, hts, hlk, hK, hG, hAs, hAc, hi⟩ := F
  unfold oPZ at ho
  split at ho
  · next x k r =>
    split at ho
    · next c0 fds hk =>
      split at ho
      · next hci =>
        obtain rfl := hci.1
        cases ho
        intro H locs ls hH hl
        refine va_put (D := (E.dC, E.dI)) (v := .int x) (ty := .boolean) hx hb hts (fun w h => List.mem_cons_of_mem _ (hin w h)) ty0 hty hnm hown hK.1 hH.1 (wO_D hi hAc) hH.2 k (wO_get (shf_ok hk)) hcl j hj (hts _ (List.mem_cons_of_mem _ hlink)) (fun _ h9 => h9) hfin hds (nz_of hci.2.2) (fz_of hci.2.2) ?_ hd (fun H1 locs1 hP1 hD1 hS1 => hc H1 locs1 ls ⟨?_, hS1⟩ hl)
        · simpa using (List.getElem?_eq_some_iff.mp hci.2.1).1
        · rw [wO_set (w' := sI w k j x) (shf_ok hk) ?_ oth_I] at hP1
          · exact hP1
          · show (Sum.inr _ : va_E) = _
            rw [mi_set (w := w) (v := .int x) hci.2.1 (by show rv E.ad (Value.int ((sI w k j x).1 k j)) = _; rw [sI_at, if_pos ⟨rfl, rfl⟩]; rfl) (fun b t hb => fvm_I (fun z => hb z.2))]
      · cases ho
    · cases ho
  · cases ho
theorem so_putJ {C : String} {T : u_T} {N ci j idx : Nat} (hin : ∀ w ∈ u_ws C T N, w ∈ lw_gd) {ty0 : Nat → FieldType} (hty : ∀ k, k < N → parseFieldDescriptor (T k).2.2.1 = some (ty0 k)) (hnm : ∀ a, a < N → ∀ b, b < N → a ≠ b → (T a).2.1 ≠ (T b).2.1) (hcl : classes[ci]? = some (C, T, N)) (hj : j < N) (hlink : Cond.fieldLink i.1.cls idx (T j).1 (T j).2.1 (T j).2.2.1 ∈ lw_gd) (hfin : (T j).2.2.2 = false) (hds : parseFieldDescriptor (T j).2.2.1 = some .long) (hd : decode i.2.1 pc = .ok (.putfield idx, 3)) : OpS mt i pc (oPJ (pc + 3) ci j) := by
  intro E l p e R s m args below meth c A vr wr d L S w o F hA hd1 hd2 ho hc
  obtain ⟨hx, hb, hr, hml, hown, hts, hlk, hK, hG, hAs, hAc, hi⟩ := F
  unfold oPJ at ho
  split at ho
  · next x k r =>
    split at ho
    · next c0 fds hk =>
      split at ho
      · next hci =>
        obtain rfl := hci.1
        cases ho
        intro H locs ls hH hl
        refine va_put (D := (E.dC, E.dI)) (v := .long x) (ty := .long) hx hb hts (fun w h => List.mem_cons_of_mem _ (hin w h)) ty0 hty hnm hown hK.1 hH.1 (wO_D hi hAc) hH.2 k (wO_get (shf_ok hk)) hcl j hj (hts _ (List.mem_cons_of_mem _ hlink)) (fun _ h9 => h9) hfin hds rfl rfl ?_ hd (fun H1 locs1 hP1 hD1 hS1 => hc H1 locs1 ls ⟨?_, hS1⟩ hl)
        · simpa using (List.getElem?_eq_some_iff.mp hci.2).1
        · rw [wO_set (w' := sJ w k j x) (shf_ok hk) ?_ oth_J] at hP1
          · exact hP1
          · show (Sum.inr _ : va_E) = _
            rw [mi_set (w := w) (v := .long x) hci.2 (by show rv E.ad (Value.long ((sJ w k j x).2.1 k j)) = _; rw [sJ_at, if_pos ⟨rfl, rfl⟩]; rfl) (fun b t hb => fvm_J (fun z => hb z.2))]
      · cases ho
    · cases ho
  · cases ho
theorem so_putR {C : String} {T : u_T} {N ci j idx : Nat} (hin : ∀ w ∈ u_ws C T N, w ∈ lw_gd) {ty0 : Nat → FieldType} (hty : ∀ k, k < N → parseFieldDescriptor (T k).2.2.1 = some (ty0 k)) (hnm : ∀ a, a < N → ∀ b, b < N → a ≠ b → (T a).2.1 ≠ (T b).2.1) (hcl : classes[ci]? = some (C, T, N)) (hj : j < N) (hlink : Cond.fieldLink i.1.cls idx (T j).1 (T j).2.1 (T j).2.2.1 ∈ lw_gd) (hfin : (T j).2.2.2 = false) {D : String} (hds : parseFieldDescriptor (T j).2.2.1 = some (.object D)) (hd : decode i.2.1 pc = .ok (.putfield idx, 3)) : OpS mt i pc (oPR (pc + 3) ci j) := by
  intro E l p e R s m args below meth c A vr wr d L S w o F hA hd1 hd2 ho hc
  obtain ⟨hx, hb, hr, hml, hown, hts, hlk, hK, hG, hAs, hAc, hi⟩ := F
  unfold oPR at ho
  split at ho
  · next x k r =>
    split at ho
    · next c0 fds hk =>
      split at ho
      · next hci =>
        obtain rfl := hci.1
        cases ho
        intro H locs ls hH hl
        refine va_put (D := (E.dC, E.dI)) (v := .ref (E.ad x)) (ty := (.object D)) hx hb hts (fun w h => List.mem_cons_of_mem _ (hin w h)) ty0 hty hnm hown hK.1 hH.1 (wO_D hi hAc) hH.2 k (wO_get (shf_ok hk)) hcl j hj (hts _ (List.mem_cons_of_mem _ hlink)) (fun _ h9 => h9) hfin hds rfl rfl ?_ hd (fun H1 locs1 hP1 hD1 hS1 => hc H1 locs1 ls ⟨?_, hS1⟩ hl)
        · simpa using (List.getElem?_eq_some_iff.mp hci.2).1
        · rw [wO_set (w' := sR w k j (some x)) (shf_ok hk) ?_ oth_R] at hP1
          · exact hP1
          · show (Sum.inr _ : va_E) = _
            rw [mi_set (w := w) (v := .ref (E.ad x)) hci.2 (by show rv E.ad (match (if k = k ∧ j = j then some x else w.2.2 k j) with | none => Value.null | some c => .ref c) = _; rw [if_pos ⟨rfl, rfl⟩]; rfl) (fun b t hb => fvm_R (fun z => hb z.2))]
      · cases ho
    · cases ho
  · cases ho
theorem so_putIN {C host : String} {T : u_T} {N ci j idx : Nat} (hin : ∀ w ∈ u_ws C T N, w ∈ lw_gd) {ty0 : Nat → FieldType} (hty : ∀ k, k < N → parseFieldDescriptor (T k).2.2.1 = some (ty0 k)) (hnm : ∀ a, a < N → ∀ b, b < N → a ≠ b → (T a).2.1 ≠ (T b).2.1) (hcl : classes[ci]? = some (C, T, N)) (hj : j < N) (hlink : Cond.fieldLinkNest i.1.cls idx (T j).1 (T j).2.1 (T j).2.2.1 host ∈ lw_nest) (hfin : (T j).2.2.2 = false) (hds : parseFieldDescriptor (T j).2.2.1 = some .int) (hd : decode i.2.1 pc = .ok (.putfield idx, 3)) : OpS mt i pc (oPI (pc + 3) ci j) := by
  intro E l p e R s m args below meth c A vr wr d L S w o F hA hd1 hd2 ho hc
  obtain ⟨hx, hb, hr, hml, hown, hts, hlk, hK, hG, hAs, hAc, hi⟩ := F
  unfold oPI at ho
  split at ho
  · next x k r =>
    split at ho
    · next c0 fds hk =>
      split at ho
      · next hci =>
        obtain rfl := hci.1
        cases ho
        intro H locs ls hH hl
        refine va_putN (D := (E.dC, E.dI)) (v := .int x) (ty := .int) hx hb hts (fun w h => List.mem_cons_of_mem _ (hin w h)) ty0 hty hnm hown hK.1 hH.1 (wO_D hi hAc) hH.2 k (wO_get (shf_ok hk)) hcl j hj (va_Nw.use rfl (hK.2 _ hlink)) (fun _ h9 => h9) hfin hds rfl rfl ?_ hd (fun H1 locs1 hP1 hD1 hS1 => hc H1 locs1 ls ⟨?_, hS1⟩ hl)
        · simpa using (List.getElem?_eq_some_iff.mp hci.2).1
        · rw [wO_set (w' := sI w k j x) (shf_ok hk) ?_ oth_I] at hP1
          · exact hP1
          · show (Sum.inr _ : va_E) = _
            rw [mi_set (w := w) (v := .int x) hci.2 (by show rv E.ad (Value.int ((sI w k j x).1 k j)) = _; rw [sI_at, if_pos ⟨rfl, rfl⟩]; rfl) (fun b t hb => fvm_I (fun z => hb z.2))]
      · cases ho
    · cases ho
  · cases ho
theorem so_putZN {C host : String} {T : u_T} {N ci j idx : Nat} (hin : ∀ w ∈ u_ws C T N, w ∈ lw_gd) {ty0 : Nat → FieldType} (hty : ∀ k, k < N → parseFieldDescriptor (T k).2.2.1 = some (ty0 k)) (hnm : ∀ a, a < N → ∀ b, b < N → a ≠ b → (T a).2.1 ≠ (T b).2.1) (hcl : classes[ci]? = some (C, T, N)) (hj : j < N) (hlink : Cond.fieldLinkNest i.1.cls idx (T j).1 (T j).2.1 (T j).2.2.1 host ∈ lw_nest) (hfin : (T j).2.2.2 = false) (hds : parseFieldDescriptor (T j).2.2.1 = some .boolean) (hd : decode i.2.1 pc = .ok (.putfield idx, 3)) : OpS mt i pc (oPZ (pc + 3) ci j) := by
  intro E l p e R s m args below meth c A vr wr d L S w o F hA hd1 hd2 ho hc
  obtain ⟨hx, hb, hr, hml, hown, hts, hlk, hK, hG, hAs, hAc, hi⟩ := F
  unfold oPZ at ho
  split at ho
  · next x k r =>
    split at ho
    · next c0 fds hk =>
      split at ho
      · next hci =>
        obtain rfl := hci.1
        cases ho
        intro H locs ls hH hl
        refine va_putN (D := (E.dC, E.dI)) (v := .int x) (ty := .boolean) hx hb hts (fun w h => List.mem_cons_of_mem _ (hin w h)) ty0 hty hnm hown hK.1 hH.1 (wO_D hi hAc) hH.2 k (wO_get (shf_ok hk)) hcl j hj (va_Nw.use rfl (hK.2 _ hlink)) (fun _ h9 => h9) hfin hds (nz_of hci.2.2) (fz_of hci.2.2) ?_ hd (fun H1 locs1 hP1 hD1 hS1 => hc H1 locs1 ls ⟨?_, hS1⟩ hl)
        · simpa using (List.getElem?_eq_some_iff.mp hci.2.1).1
        · rw [wO_set (w' := sI w k j x) (shf_ok hk) ?_ oth_I] at hP1
          · exact hP1
          · show (Sum.inr _ : va_E) = _
            rw [mi_set (w := w) (v := .int x) hci.2.1 (by show rv E.ad (Value.int ((sI w k j x).1 k j)) = _; rw [sI_at, if_pos ⟨rfl, rfl⟩]; rfl) (fun b t hb => fvm_I (fun z => hb z.2))]
      · cases ho
    · cases ho
  · cases ho
theorem so_putJN {C host : String} {T : u_T} {N ci j idx : Nat} (hin : ∀ w ∈ u_ws C T N, w ∈ lw_gd) {ty0 : Nat → FieldType} (hty : ∀ k, k < N → parseFieldDescriptor (T k).2.2.1 = some (ty0 k)) (hnm : ∀ a, a < N → ∀ b, b < N → a ≠ b → (T a).2.1 ≠ (T b).2.1) (hcl : classes[ci]? = some (C, T, N)) (hj : j < N) (hlink : Cond.fieldLinkNest i.1.cls idx (T j).1 (T j).2.1 (T j).2.2.1 host ∈ lw_nest) (hfin : (T j).2.2.2 = false) (hds : parseFieldDescriptor (T j).2.2.1 = some .long) (hd : decode i.2.1 pc = .ok (.putfield idx, 3)) : OpS mt i pc (oPJ (pc + 3) ci j) := by
  intro E l p e R s m args below meth c A vr wr d L S w o F hA hd1 hd2 ho hc
  obtain ⟨hx, hb, hr, hml, hown, hts, hlk, hK, hG, hAs, hAc, hi⟩ := F
  unfold oPJ at ho
  split at ho
  · next x k r =>
    split at ho
    · next c0 fds hk =>
      split at ho
      · next hci =>
        obtain rfl := hci.1
        cases ho
        intro H locs ls hH hl
        refine va_putN (D := (E.dC, E.dI)) (v := .long x) (ty := .long) hx hb hts (fun w h => List.mem_cons_of_mem _ (hin w h)) ty0 hty hnm hown hK.1 hH.1 (wO_D hi hAc) hH.2 k (wO_get (shf_ok hk)) hcl j hj (va_Nw.use rfl (hK.2 _ hlink)) (fun _ h9 => h9) hfin hds rfl rfl ?_ hd (fun H1 locs1 hP1 hD1 hS1 => hc H1 locs1 ls ⟨?_, hS1⟩ hl)
        · simpa using (List.getElem?_eq_some_iff.mp hci.2).1
        · rw [wO_set (w' := sJ w k j x) (shf_ok hk) ?_ oth_J] at hP1
          · exact hP1
          · show (Sum.inr _ : va_E) = _
            rw [mi_set (w := w) (v := .long x) hci.2 (by show rv E.ad (Value.long ((sJ w k j x).2.1 k j)) = _; rw [sJ_at, if_pos ⟨rfl, rfl⟩]; rfl) (fun b t hb => fvm_J (fun z => hb z.2))]
      · cases ho
    · cases ho
  · cases ho
theorem so_putRN {C host : String} {T : u_T} {N ci j idx : Nat} (hin : ∀ w ∈ u_ws C T N, w ∈ lw_gd) {ty0 : Nat → FieldType} (hty : ∀ k, k < N → parseFieldDescriptor (T k).2.2.1 = some (ty0 k)) (hnm : ∀ a, a < N → ∀ b, b < N → a ≠ b → (T a).2.1 ≠ (T b).2.1) (hcl : classes[ci]? = some (C, T, N)) (hj : j < N) (hlink : Cond.fieldLinkNest i.1.cls idx (T j).1 (T j).2.1 (T j).2.2.1 host ∈ lw_nest) (hfin : (T j).2.2.2 = false) {D : String} (hds : parseFieldDescriptor (T j).2.2.1 = some (.object D)) (hd : decode i.2.1 pc = .ok (.putfield idx, 3)) : OpS mt i pc (oPR (pc + 3) ci j) := by
  intro E l p e R s m args below meth c A vr wr d L S w o F hA hd1 hd2 ho hc
  obtain ⟨hx, hb, hr, hml, hown, hts, hlk, hK, hG, hAs, hAc, hi⟩ := F
  unfold oPR at ho
  split at ho
  · next x k r =>
    split at ho
    · next c0 fds hk =>
      split at ho
      · next hci =>
        obtain rfl := hci.1
        cases ho
        intro H locs ls hH hl
        refine va_putN (D := (E.dC, E.dI)) (v := .ref (E.ad x)) (ty := (.object D)) hx hb hts (fun w h => List.mem_cons_of_mem _ (hin w h)) ty0 hty hnm hown hK.1 hH.1 (wO_D hi hAc) hH.2 k (wO_get (shf_ok hk)) hcl j hj (va_Nw.use rfl (hK.2 _ hlink)) (fun _ h9 => h9) hfin hds rfl rfl ?_ hd (fun H1 locs1 hP1 hD1 hS1 => hc H1 locs1 ls ⟨?_, hS1⟩ hl)
        · simpa using (List.getElem?_eq_some_iff.mp hci.2).1
        · rw [wO_set (w' := sR w k j (some x)) (shf_ok hk) ?_ oth_R] at hP1
          · exact hP1
          · show (Sum.inr _ : va_E) = _
            rw [mi_set (w := w) (v := .ref (E.ad x)) hci.2 (by show rv E.ad (match (if k = k ∧ j = j then some x else w.2.2 k j) with | none => Value.null | some c => .ref c) = _; rw [if_pos ⟨rfl, rfl⟩]; rfl) (fun b t hb => fvm_R (fun z => hb z.2))]
      · cases ho
    · cases ho
  · cases ho
theorem so_iaload (hd : decode i.2.1 pc = .ok (.iaload, 1)) : OpS mt i pc (oIa (pc + 1)) := by
  intro E l p e R s m args below meth c A vr wr d L S w o F hA hd1 hd2 ho hc
  obtain ⟨hx, hb, hr, hml, hown, hts, hlk, hK, hG, hAs, hAc, hi⟩ := F
  unfold oIa at ho
  split at ho
  · next i2 k r =>
    split at ho
    · next len fds hk =>
      split at ho
      · next hb2 =>
        cases ho
        intro H locs ls hH hl
        exact va_iald hx hb hK.1 hH.1 k 0 (wO_get (shf_ok hk)) rfl (vp_in_iff.mpr hb2) hd (hc H locs ls hH hl)
      · cases ho
    · next hk =>
      split at ho
      · next hb2 =>
        cases ho
        intro H locs ls hH hl
        have hT := st_T (k := k) hG (fun z => by rw [z] at hb2; simp at hb2; omega)
        exact va_ti hx hb hT hH.2 (vp_in_iff.mpr hb2) rfl hd (hc H locs ls hH hl)
      · cases ho
    · cases ho
  · cases ho
theorem so_baload (hd : decode i.2.1 pc = .ok (.baload, 1)) : OpS mt i pc (oBa (pc + 1)) := by
  intro E l p e R s m args below meth c A vr wr d L S w o F hA hd1 hd2 ho hc
  obtain ⟨hx, hb, hr, hml, hown, hts, hlk, hK, hG, hAs, hAc, hi⟩ := F
  unfold oBa at ho
  split at ho
  · next i2 k r =>
    split at ho
    · next len fds hk =>
      split at ho
      · next hb2 =>
        cases ho
        intro H locs ls hH hl
        exact va_bald hx hb hK.1 hH.1 k 1 (wO_get (shf_ok hk)) rfl (vp_in_iff.mpr hb2) hd (hc H locs ls hH hl)
      · cases ho
    · next len fds hk =>
      split at ho
      · next hb2 =>
        cases ho
        intro H locs ls hH hl
        exact va_zald hx hb hK.1 hH.1 k 2 (wO_get (shf_ok hk)) rfl (vp_in_iff.mpr hb2) hd (hc H locs ls hH hl)
      · cases ho
    · cases ho
  · cases ho
theorem so_laload (hd : decode i.2.1 pc = .ok (.laload, 1)) : OpS mt i pc (oLa (pc + 1)) := by
  intro E l p e R s m args below meth c A vr wr d L S w o F hA hd1 hd2 ho hc
  obtain ⟨hx, hb, hr, hml, hown, hts, hlk, hK, hG, hAs, hAc, hi⟩ := F
  unfold oLa at ho
  split at ho
  · next i2 k r =>
    split at ho
    · next len fds hk =>
      split at ho
      · next hb2 =>
        cases ho
        intro H locs ls hH hl
        exact va_lald hx hb hK.1 hH.1 k 3 (wO_get (shf_ok hk)) rfl (vp_in_iff.mpr hb2) hd (hc H locs ls hH hl)
      · cases ho
    · cases ho
  · cases ho
theorem so_iastore (hd : decode i.2.1 pc = .ok (.iastore, 1)) : OpS mt i pc (oIx (pc + 1)) := by
  intro E l p e R s m args below meth c A vr wr d L S w o F hA hd1 hd2 ho hc
  obtain ⟨hx, hb, hr, hml, hown, hts, hlk, hK, hG, hAs, hAc, hi⟩ := F
  unfold oIx at ho
  split at ho
  · next x i2 k r =>
    split at ho
    · next len fds hk =>
      split at ho
      · next hb2 =>
        cases ho
        intro H locs ls hH hl
        refine va_iast hx hb hK.1 hH.1 (wO_D hi hAc) hH.2 k 0 (wO_get (shf_ok hk)) rfl (vp_in_iff.mpr hb2) hd (fun H1 locs1 hP1 hD1 hS1 => hc H1 locs1 ls ⟨?_, hS1⟩ hl)
        rw [← wO_set (E := E) (w := w) (w' := sI w k i2.toInt.toNat x) (shf_ok hk) (at_I (E := E)) oth_I]
        exact hP1
      · cases ho
    · cases ho
  · cases ho
theorem so_bastore (hd : decode i.2.1 pc = .ok (.bastore, 1)) : OpS mt i pc (oBx (pc + 1)) := by
  intro E l p e R s m args below meth c A vr wr d L S w o F hA hd1 hd2 ho hc
  obtain ⟨hx, hb, hr, hml, hown, hts, hlk, hK, hG, hAs, hAc, hi⟩ := F
  unfold oBx at ho
  split at ho
  · next x i2 k r =>
    split at ho
    · next len fds hk =>
      split at ho
      · next hb2 =>
        cases ho
        intro H locs ls hH hl
        refine va_bast hx hb hK.1 hH.1 (wO_D hi hAc) hH.2 k 1 (wO_get (shf_ok hk)) rfl (vp_in_iff.mpr hb2) hd (fun H1 locs1 hP1 hD1 hS1 => hc H1 locs1 ls ⟨?_, hS1⟩ hl)
        rw [← wO_set (E := E) (w := w) (w' := sI w k i2.toInt.toNat (vp_nar .byte x)) (shf_ok hk) (at_I (E := E)) oth_I]
        exact hP1
      · cases ho
    · next len fds hk =>
      split at ho
      · next hb2 =>
        cases ho
        intro H locs ls hH hl
        refine va_zast hx hb hK.1 hH.1 (wO_D hi hAc) hH.2 k 2 (wO_get (shf_ok hk)) rfl (vp_in_iff.mpr hb2) hd (fun H1 locs1 hP1 hD1 hS1 => hc H1 locs1 ls ⟨?_, hS1⟩ hl)
        rw [← wO_set (E := E) (w := w) (w' := sI w k i2.toInt.toNat (vp_nar .boolean x)) (shf_ok hk) (at_I (E := E)) oth_I]
        exact hP1
      · cases ho
    · cases ho
  · cases ho
theorem so_lastore (hd : decode i.2.1 pc = .ok (.lastore, 1)) : OpS mt i pc (oLx (pc + 1)) := by
  intro E l p e R s m args below meth c A vr wr d L S w o F hA hd1 hd2 ho hc
  obtain ⟨hx, hb, hr, hml, hown, hts, hlk, hK, hG, hAs, hAc, hi⟩ := F
  unfold oLx at ho
  split at ho
  · next x i2 k r =>
    split at ho
    · next len fds hk =>
      split at ho
      · next hb2 =>
        cases ho
        intro H locs ls hH hl
        refine va_last hx hb hK.1 hH.1 (wO_D hi hAc) hH.2 k 3 (wO_get (shf_ok hk)) rfl (vp_in_iff.mpr hb2) hd (fun H1 locs1 hP1 hD1 hS1 => hc H1 locs1 ls ⟨?_, hS1⟩ hl)
        rw [← wO_set (E := E) (w := w) (w' := sJ w k i2.toInt.toNat x) (shf_ok hk) (at_J (E := E)) oth_J]
        exact hP1
      · cases ho
    · cases ho
  · cases ho
theorem so_alen (hd : decode i.2.1 pc = .ok (.arraylength, 1)) : OpS mt i pc (oAn (pc + 1)) := by
  intro E l p e R s m args below meth c A vr wr d L S w o F hA hd1 hd2 ho hc
  obtain ⟨hx, hb, hr, hml, hown, hts, hlk, hK, hG, hAs, hAc, hi⟩ := F
  unfold oAn at ho
  split at ho
  · next k r =>
    split at ho
    · cases ho
    · next t len fds hne hk =>
      cases ho
      intro H locs ls hH hl
      match t, hk, hne with
      | 0, hk, hne => exact (hne rfl).elim
      | 1, hk, hne => exact va_alen hx hb hK.1 hH.1 k 0 (wO_get (shf_ok hk)) rfl rfl hd (hc H locs ls hH hl)
      | 2, hk, hne => exact va_alen hx hb hK.1 hH.1 k 1 (wO_get (shf_ok hk)) rfl rfl hd (hc H locs ls hH hl)
      | 3, hk, hne => exact va_alen hx hb hK.1 hH.1 k 2 (wO_get (shf_ok hk)) rfl rfl hd (hc H locs ls hH hl)
      | _ + 4, hk, hne => exact va_alen hx hb hK.1 hH.1 k 3 (wO_get (shf_ok hk)) rfl rfl hd (hc H locs ls hH hl)
    · cases ho
  · cases ho
/-! calls -/
theorem sp_stk {S r : List Value} {na k : Nat} {ad : Nat → Nat} (h : S.drop na = .ref k :: r) : S.map (rv ad) = (((S.take na).reverse).map (rv ad)).reverse ++ .ref (ad k) :: r.map (rv ad) := by
  conv => lhs; rw [← List.take_append_drop na S, h]
  rw [List.map_append, List.map_reverse, List.reverse_reverse]
  rfl
set_option maxRecDepth 100000 in
theorem so_callV {ν na ci idx : Nat} {iv : MI} {q : vw_C} (hmt : mt ν = iv) (hcl : classes[ci]? = some q) (hq : q.1 = iv.1.cls) (h1 : Cond.methodLink i.1.cls idx iv.1 ∈ lw_gd) (h2 : Cond.instanceMethod iv.1 ∈ lw_gd) (h3 : Cond.selects iv.1.cls iv.1 iv.1 ∈ lw_gd) (h4 : Cond.initialized iv.1.cls ∈ lw_gd) (h5 : Cond.code iv.1 iv.2.1 iv.2.2.1 iv.2.2.2 ∈ lw_gd) (h6 : iv.1.cls ≠ "java/lang/invoke/MethodHandle" ∧ iv.1.cls ≠ "java/lang/invoke/VarHandle" ∧ (parseMethodDescriptor iv.1.desc).map (fun d => d.parameters.length) = some na) (h7 : iv.2.2.1 ≤ 17) (hd : decode i.2.1 pc = .ok (.invokevirtual idx, 3)) : OpS mt i pc (oCV ν na ci) := by
  intro E l p e R s m args below meth c A vr wr d L S w o F hA hd1 hd2 ho hc
  obtain ⟨hx, hb, hr, hml, hown, hts, hlk, hK, hG, hAs, hAc, hi⟩ := F
  unfold oCV at ho
  split at ho
  · next k r hS =>
    split at ho
    · next c0 fds hk =>
      split at ho
      · next hci =>
        obtain ⟨rfl, hsum⟩ := hci
        cases ho
        obtain ⟨d', v, w', rfl, hlen, hM, hg⟩ := hc
        rw [hmt] at hM
        intro H locs ls hH hl
        have hF := am_in hAs hAc hH.2
        have hle : na ≤ S.length := by
          have h8 : (S.drop na).length = r.length + 1 := by rw [hS]; rfl
          rw [List.length_drop] at h8
          omega
        refine m_call (va_runV (C := iv.1.cls) (As := ((S.take na).reverse).map (rv E.ad)) (rest := r.map (rv E.ad)) ⟨hx, hb, hml, hown, hts⟩ (hM H.size) (cwV na hts (tb_V h1 h2 h3 h4 h5) rfl rfl rfl ⟨rfl, h6.1, h6.2.1, h6.2.2⟩ ⟨?_, ?_⟩) ⟨pm_blind, ?_, pm_pre hH.1 hK hG hH.2 hF hi⟩ rfl ?_ hl.1 (sp_stk hS) (lv_room (by rw [cat_sum]; exact hsum)) hd ⟨Nat.zero_le _, Nat.zero_le _⟩) hH.2 hF (fun H1 locs1 hP1 hS1 => ?_)
        · show d' + 8 + 1 ≤ R.frames
          omega
        · show 8 + (iv.2.2.1 + 11) + (36 * d' + 400) ≤ R.locals
          omega
        · have h9 := va_recv (q := q) hK.1 hH.1 hcl (q0 := k) (wO_get (shf_ok hk))
          rw [hq] at h9
          exact h9
        · rw [List.length_map, List.length_reverse, List.length_take]
          omega
        · have h9 := hg H1 locs1 ls ⟨hP1, hS1⟩ hl
          cases v <;> exact h9
      · cases ho
    · cases ho
  · cases ho
set_option maxRecDepth 100000 in
theorem so_callVN {host : String} {ν na ci idx : Nat} {iv : MI} {q : vw_C} (hmt : mt ν = iv) (hcl : classes[ci]? = some q) (hq : q.1 = iv.1.cls) (h1 : Cond.methodLinkNest i.1.cls idx iv.1 host ∈ lw_nest) (h2 : Cond.instanceMethod iv.1 ∈ lw_gd) (h3 : Cond.selects iv.1.cls iv.1 iv.1 ∈ lw_gd) (h4 : Cond.initialized iv.1.cls ∈ lw_gd) (h5 : Cond.code iv.1 iv.2.1 iv.2.2.1 iv.2.2.2 ∈ lw_gd) (h6 : iv.1.cls ≠ "java/lang/invoke/MethodHandle" ∧ iv.1.cls ≠ "java/lang/invoke/VarHandle" ∧ (parseMethodDescriptor iv.1.desc).map (fun d => d.parameters.length) = some na) (h7 : iv.2.2.1 ≤ 17) (hd : decode i.2.1 pc = .ok (.invokevirtual idx, 3)) : OpS mt i pc (oCV ν na ci) := by
  intro E l p e R s m args below meth c A vr wr d L S w o F hA hd1 hd2 ho hc
  obtain ⟨hx, hb, hr, hml, hown, hts, hlk, hK, hG, hAs, hAc, hi⟩ := F
  unfold oCV at ho
  split at ho
  · next k r hS =>
    split at ho
    · next c0 fds hk =>
      split at ho
      · next hci =>
        obtain ⟨rfl, hsum⟩ := hci
        cases ho
        obtain ⟨d', v, w', rfl, hlen, hM, hg⟩ := hc
        rw [hmt] at hM
        intro H locs ls hH hl
        have hF := am_in hAs hAc hH.2
        have hle : na ≤ S.length := by
          have h8 : (S.drop na).length = r.length + 1 := by rw [hS]; rfl
          rw [List.length_drop] at h8
          omega
        refine m_call (va_runVN (C := iv.1.cls) (As := ((S.take na).reverse).map (rv E.ad)) (rest := r.map (rv E.ad)) ⟨hx, hb, hml, hown, hts⟩ (hM H.size) ⟨va_cnB na hts (tb_in h5) rfl rfl rfl (hK.2 _ h1) (hts _ (List.mem_cons_of_mem _ h4)) h6 ⟨?_, ?_⟩, hts _ (List.mem_cons_of_mem _ h2), hts _ (List.mem_cons_of_mem _ h3)⟩ ⟨pm_blind, ?_, pm_pre hH.1 hK hG hH.2 hF hi⟩ rfl ?_ hl.1 (sp_stk hS) (lv_room (by rw [cat_sum]; exact hsum)) hd ⟨Nat.zero_le _, Nat.zero_le _⟩) hH.2 hF (fun H1 locs1 hP1 hS1 => ?_)
        · show d' + 8 + 1 ≤ R.frames
          omega
        · show 8 + (iv.2.2.1 + 11) + (36 * d' + 400) ≤ R.locals
          omega
        · have h9 := va_recv (q := q) hK.1 hH.1 hcl (q0 := k) (wO_get (shf_ok hk))
          rw [hq] at h9
          exact h9
        · rw [List.length_map, List.length_reverse, List.length_take]
          omega
        · have h9 := hg H1 locs1 ls ⟨hP1, hS1⟩ hl
          cases v <;> exact h9
      · cases ho
    · cases ho
  · cases ho
set_option maxRecDepth 100000 in
theorem so_callS {ν na idx : Nat} {iv : MI} (hmt : mt ν = iv) (h1 : Cond.methodLink i.1.cls idx iv.1 ∈ lw_gd) (h2 : Cond.static iv.1 ∈ lw_gd) (h4 : Cond.initialized iv.1.cls ∈ lw_gd) (h5 : Cond.code iv.1 iv.2.1 iv.2.2.1 iv.2.2.2 ∈ lw_gd) (h6 : iv.1.cls ≠ "java/lang/invoke/MethodHandle" ∧ iv.1.cls ≠ "java/lang/invoke/VarHandle" ∧ (parseMethodDescriptor iv.1.desc).map (fun d => d.parameters.length) = some na) (h7 : iv.2.2.1 ≤ 17) (hd : decode i.2.1 pc = .ok (.invokestatic idx, 3)) : OpS mt i pc (oCS ν na) := by
  intro E l p e R s m args below meth c A vr wr d L S w o F hA hd1 hd2 ho hc
  obtain ⟨hx, hb, hr, hml, hown, hts, hlk, hK, hG, hAs, hAc, hi⟩ := F
  unfold oCS at ho
  split at ho
  · next hci =>
    cases ho
    obtain ⟨d', v, w', rfl, hlen, hM, hg⟩ := hc
    rw [hmt] at hM
    intro H locs ls hH hl
    have hF := am_in hAs hAc hH.2
    refine m_call (va_runS (As := ((S.take na).reverse).map (rv E.ad)) (rest := (S.drop na).map (rv E.ad)) ⟨hx, hb, hml, hown, hts⟩ (hM H.size) (va_cwS na hts (tb_S2 h1 h2 h4 h5) rfl rfl rfl h6 ⟨?_, ?_⟩) ⟨pm_blind, pm_pre hH.1 hK hG hH.2 hF hi⟩ rfl ?_ hl.1 ?_ (lv_room (by rw [cat_sum]; exact hci.2)) hd ⟨Nat.zero_le _, Nat.zero_le _⟩) hH.2 hF (fun H1 locs1 hP1 hS1 => ?_)
    · show d' + 8 + 1 ≤ R.frames
      omega
    · show 8 + (iv.2.2.1 + 11) + (36 * d' + 400) ≤ R.locals
      omega
    · rw [List.length_map, List.length_reverse, List.length_take]
      omega
    · rw [List.map_reverse, List.reverse_reverse, ← List.map_append, List.take_append_drop]
    · have h9 := hg H1 locs1 ls ⟨hP1, hS1⟩ hl
      cases v <;> exact h9
  · cases ho
theorem so_bad : OpS mt i pc oBad := by
  intro E l p e R s m args below meth c A vr wr d L S w o F hA hd1 hd2 ho hc
  cases ho
theorem os_n {b : Bool} {x y : Op} (hx : OpS mt i pc x) (hy : OpS mt i pc y) : OpS mt i pc (bif b then x else y) := by
  cases b
  · exact hy
  · exact hx
theorem os_l {n : Nat} {x : Op} (h : OpS mt i n x) : OpS mt i pc (bif Nat.beq pc n then x else oBad) := by
  cases hb : Nat.beq pc n
  · exact so_bad
  · have e : pc = n := Nat.eq_of_beq_eq_true hb
    subst e; exact h
theorem so_lookup {dflt : Int} {qs : Array (Int × Int)} {len td : Nat} {ps : List (Int × Nat)} (hd : decode i.2.1 pc = .ok (.lookupswitch dflt qs, len)) (hp : (qs.toList.zip (qs.toList.drop 1)).all (fun (a, next) => a.1 < next.1) = true) (h1 : ∀ x : Int, (pc : Int) + Op.lookupswitch.offset qs.toList dflt x = (((ps.lookup x).getD td : Nat) : Int)) : OpS mt i pc (oLk td ps) := by
  intro E l p e R s m args below meth c A vr wr d L S w o F hA hd1 hd2 ho hc
  obtain ⟨hx, hb, hr, hml, hown, hts, hlk, hK, hG, hAs, hAc, hi⟩ := F
  unfold oLk at ho
  split at ho
  · next x r =>
    cases ho
    intro H locs ls hH hl
    exact lv_lookup hx hb hd hp rfl (h1 x.toInt) (hc H locs ls hH hl)
  · cases ho
theorem so_gs {C n d2 : String} {t idx : Nat} (hZ : ∀ (E : EV) (A : Nat → Prop) (U : State) (H : Heap), GM E A U H → va_Z C n d2 (.ref (E.ad t)) A U H) (hlink : Cond.fieldLink i.1.cls idx C n d2 ∈ lw_gd) (hd : decode i.2.1 pc = .ok (.getstatic idx, 3)) : OpS mt i pc (oK (pc + 3) (.ref t)) := by
  intro E l p e R s m args below meth c A vr wr d L S w o F hA hd1 hd2 ho hc
  obtain ⟨hx, hb, hr, hml, hown, hts, hlk, hK, hG, hAs, hAc, hi⟩ := F
  cases ho
  intro H locs ls hH hl
  exact va_gets hx hb (hZ E A s s.heap hG) hH.2 hown (hts _ (List.mem_cons_of_mem _ hlink)) (fun _ h9 => h9) hd (hc H locs ls hH hl)
theorem so_gsN {C n d2 host : String} {t idx : Nat} (hZ : ∀ (E : EV) (A : Nat → Prop) (U : State) (H : Heap), GM E A U H → va_Z C n d2 (.ref (E.ad t)) A U H) (hlink : Cond.fieldLinkNest i.1.cls idx C n d2 host ∈ lw_nest) (hd : decode i.2.1 pc = .ok (.getstatic idx, 3)) : OpS mt i pc (oK (pc + 3) (.ref t)) := by
  intro E l p e R s m args below meth c A vr wr d L S w o F hA hd1 hd2 ho hc
  obtain ⟨hx, hb, hr, hml, hown, hts, hlk, hK, hG, hAs, hAc, hi⟩ := F
  cases ho
  intro H locs ls hH hl
  exact va_getsN hx hb (hZ E A s s.heap hG) hH.2 hown (va_Nw.use rfl (hK.2 _ hlink)) (fun _ h9 => h9) hd (hc H locs ls hH hl)
theorem so_ldcS {k idx : Nat} {q : String × Nat × String} (hq : txR[k]? = some q) (ho0 : q.1 = i.1.cls) (hd : decode i.2.1 pc = .ok (.ldc q.2.1, 2)) : OpS mt i pc (oK (pc + 2) (.ref (2000 + k))) := by
  intro E l p e R s m args below meth c A vr wr d L S w o F hA hd1 hd2 ho hc
  obtain ⟨hx, hb, hr, hml, hown, hts, hlk, hK, hG, hAs, hAc, hi⟩ := F
  cases ho
  intro H locs ls hH hl
  exact va_ldcS hx hb hown (ho0 ▸ hG.2.2.2.2.2.1 k q hq) hd (hc H locs ls hH hl)
end HP
