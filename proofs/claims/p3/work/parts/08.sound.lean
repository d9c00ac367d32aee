theorem so_iconst {mt : Nat → MI} {i : MI} {pc : Nat} {n : Int} {v : Int32} (hd : decode i.2.1 pc = .ok (.iconst n, 1)) (hv : Int32.ofInt n = v) : OpS mt i pc (oK (pc + 1) (.int v)) := by
  intro E l p e R s m args below meth c A vr wr d L S w o F hA hd1 hd2 ho hc
  obtain ⟨hx, hb, hr, hml, hown, hts, hlk, hK, hG, hAs, hAc, hi⟩ := F
  cases ho
  intro H locs ls hH hl
  exact lv_iconst hx hb hd hv (hc H locs ls hH hl)
theorem so_bipush {mt : Nat → MI} {i : MI} {pc : Nat} {n : Int} {v : Int32} (hd : decode i.2.1 pc = .ok (.bipush n, 2)) (hv : (Int8.ofInt n).toInt32 = v) : OpS mt i pc (oK (pc + 2) (.int v)) := by
  intro E l p e R s m args below meth c A vr wr d L S w o F hA hd1 hd2 ho hc
  obtain ⟨hx, hb, hr, hml, hown, hts, hlk, hK, hG, hAs, hAc, hi⟩ := F
  cases ho
  intro H locs ls hH hl
  exact lv_bipush hx hb hd hv (hc H locs ls hH hl)
theorem so_sipush {mt : Nat → MI} {i : MI} {pc : Nat} {n : Int} {v : Int32} (hd : decode i.2.1 pc = .ok (.sipush n, 3)) (hv : (Int16.ofInt n).toInt32 = v) : OpS mt i pc (oK (pc + 3) (.int v)) := by
  intro E l p e R s m args below meth c A vr wr d L S w o F hA hd1 hd2 ho hc
  obtain ⟨hx, hb, hr, hml, hown, hts, hlk, hK, hG, hAs, hAc, hi⟩ := F
  cases ho
  intro H locs ls hH hl
  exact lv_sipush hx hb hd hv (hc H locs ls hH hl)
theorem so_lconst {mt : Nat → MI} {i : MI} {pc : Nat} {n : Fin 2} {v : Int64} (hd : decode i.2.1 pc = .ok (.lconst n, 1)) (hv : Int64.ofNat (n : Nat) = v) : OpS mt i pc (oK (pc + 1) (.long v)) := by
  intro E l p e R s m args below meth c A vr wr d L S w o F hA hd1 hd2 ho hc
  obtain ⟨hx, hb, hr, hml, hown, hts, hlk, hK, hG, hAs, hAc, hi⟩ := F
  cases ho
  intro H locs ls hH hl
  exact lv_lconst hx hb hd hv (hc H locs ls hH hl)
theorem so_ldc {mt : Nat → MI} {i : MI} {pc : Nat} {idx : Nat} {v : Int32} (hk : Cond.constant i.1.cls idx v ∈ lw_gd) (hd : decode i.2.1 pc = .ok (.ldc idx, 2)) : OpS mt i pc (oK (pc + 2) (.int v)) := by
  intro E l p e R s m args below meth c A vr wr d L S w o F hA hd1 hd2 ho hc
  obtain ⟨hx, hb, hr, hml, hown, hts, hlk, hK, hG, hAs, hAc, hi⟩ := F
  cases ho
  intro H locs ls hH hl
  exact lv_ldc hx hb hown (hts _ (List.mem_cons_of_mem _ hk)) hd (hc H locs ls hH hl)
theorem so_ldcw {mt : Nat → MI} {i : MI} {pc : Nat} {idx : Nat} {v : Int32} (hk : Cond.constant i.1.cls idx v ∈ lw_gd) (hd : decode i.2.1 pc = .ok (.ldc_w idx, 3)) : OpS mt i pc (oK (pc + 3) (.int v)) := by
  intro E l p e R s m args below meth c A vr wr d L S w o F hA hd1 hd2 ho hc
  obtain ⟨hx, hb, hr, hml, hown, hts, hlk, hK, hG, hAs, hAc, hi⟩ := F
  cases ho
  intro H locs ls hH hl
  exact lv_ldcw hx hb hown (hts _ (List.mem_cons_of_mem _ hk)) hd (hc H locs ls hH hl)
theorem so_ldc2 {mt : Nat → MI} {i : MI} {pc : Nat} {idx : Nat} {v : Int64} (hk : Cond.constantLong i.1.cls idx v ∈ lw_gd) (hd : decode i.2.1 pc = .ok (.ldc2_w idx, 3)) : OpS mt i pc (oK (pc + 3) (.long v)) := by
  intro E l p e R s m args below meth c A vr wr d L S w o F hA hd1 hd2 ho hc
  obtain ⟨hx, hb, hr, hml, hown, hts, hlk, hK, hG, hAs, hAc, hi⟩ := F
  cases ho
  intro H locs ls hH hl
  exact lv_ldc2 hx hb hown (hts _ (List.mem_cons_of_mem _ hk)) hd (hc H locs ls hH hl)
theorem so_iload {mt : Nat → MI} {i : MI} {pc : Nat} {j : Nat} (hd : decode i.2.1 pc = .ok (.iload j, 2)) : OpS mt i pc (oIl (pc + 2) j) := by
  intro E l p e R s m args below meth c A vr wr d L S w o F hA hd1 hd2 ho hc
  obtain ⟨hx, hb, hr, hml, hown, hts, hlk, hK, hG, hAs, hAc, hi⟩ := F
  unfold oIl at ho
  split at ho
  · next hk =>
    cases ho
    intro H locs ls hH hl
    exact lv_iload hx hb hd (lk_at hl hk) (hc H locs ls hH hl)
  · cases ho
theorem so_iload_n {mt : Nat → MI} {i : MI} {pc : Nat} {k : Fin 4} {j : Nat} (hd : decode i.2.1 pc = .ok (.iload_n k, 1)) (hj : (k : Nat) = j) : OpS mt i pc (oIl (pc + 1) j) := by
  intro E l p e R s m args below meth c A vr wr d L S w o F hA hd1 hd2 ho hc
  obtain ⟨hx, hb, hr, hml, hown, hts, hlk, hK, hG, hAs, hAc, hi⟩ := F
  unfold oIl at ho
  split at ho
  · next hk =>
    cases ho
    intro H locs ls hH hl
    exact lv_iload_n hx hb hd hj (lk_at hl hk) (hc H locs ls hH hl)
  · cases ho
theorem so_istore {mt : Nat → MI} {i : MI} {pc : Nat} {j : Nat} (hd : decode i.2.1 pc = .ok (.istore j, 2)) (hn : j < i.2.2.1) : OpS mt i pc (oIs (pc + 2) j) := by
  intro E l p e R s m args below meth c A vr wr d L S w o F hA hd1 hd2 ho hc
  obtain ⟨hx, hb, hr, hml, hown, hts, hlk, hK, hG, hAs, hAc, hi⟩ := F
  unfold oIs at ho
  split at ho
  · cases ho
    intro H locs ls hH hl
    exact lv_istore hx hb hd hl hn rfl (fun ls' hl' => hc H locs ls' hH (lv_mono hl' asc_st1))
  · cases ho
theorem so_istore_n {mt : Nat → MI} {i : MI} {pc : Nat} {k : Fin 4} {j : Nat} (hd : decode i.2.1 pc = .ok (.istore_n k, 1)) (hj : (k : Nat) = j) (hn : j < i.2.2.1) : OpS mt i pc (oIs (pc + 1) j) := by
  intro E l p e R s m args below meth c A vr wr d L S w o F hA hd1 hd2 ho hc
  obtain ⟨hx, hb, hr, hml, hown, hts, hlk, hK, hG, hAs, hAc, hi⟩ := F
  unfold oIs at ho
  split at ho
  · cases ho
    intro H locs ls hH hl
    exact lv_istore_n hx hb hd hj hl hn rfl (fun ls' hl' => hc H locs ls' hH (lv_mono hl' asc_st1))
  · cases ho
theorem so_lload {mt : Nat → MI} {i : MI} {pc : Nat} {j : Nat} (hd : decode i.2.1 pc = .ok (.lload j, 2)) : OpS mt i pc (oLl (pc + 2) j) := by
  intro E l p e R s m args below meth c A vr wr d L S w o F hA hd1 hd2 ho hc
  obtain ⟨hx, hb, hr, hml, hown, hts, hlk, hK, hG, hAs, hAc, hi⟩ := F
  unfold oLl at ho
  split at ho
  · next hk =>
    cases ho
    intro H locs ls hH hl
    exact lv_lload hx hb hd (lk_at hl hk) (hc H locs ls hH hl)
  · cases ho
theorem so_lload_n {mt : Nat → MI} {i : MI} {pc : Nat} {k : Fin 4} {j : Nat} (hd : decode i.2.1 pc = .ok (.lload_n k, 1)) (hj : (k : Nat) = j) : OpS mt i pc (oLl (pc + 1) j) := by
  intro E l p e R s m args below meth c A vr wr d L S w o F hA hd1 hd2 ho hc
  obtain ⟨hx, hb, hr, hml, hown, hts, hlk, hK, hG, hAs, hAc, hi⟩ := F
  unfold oLl at ho
  split at ho
  · next hk =>
    cases ho
    intro H locs ls hH hl
    exact lv_lload_n hx hb hd hj (lk_at hl hk) (hc H locs ls hH hl)
  · cases ho
theorem so_lstore {mt : Nat → MI} {i : MI} {pc : Nat} {j : Nat} (hd : decode i.2.1 pc = .ok (.lstore j, 2)) (hn : j + 1 < i.2.2.1) : OpS mt i pc (oLs (pc + 2) j) := by
  intro E l p e R s m args below meth c A vr wr d L S w o F hA hd1 hd2 ho hc
  obtain ⟨hx, hb, hr, hml, hown, hts, hlk, hK, hG, hAs, hAc, hi⟩ := F
  unfold oLs at ho
  split at ho
  · cases ho
    intro H locs ls hH hl
    exact lv_lstore hx hb hd hl hn rfl (fun ls' hl' => hc H locs ls' hH (lv_mono hl' asc_st2))
  · cases ho
theorem so_lstore_n {mt : Nat → MI} {i : MI} {pc : Nat} {k : Fin 4} {j : Nat} (hd : decode i.2.1 pc = .ok (.lstore_n k, 1)) (hj : (k : Nat) = j) (hn : j + 1 < i.2.2.1) : OpS mt i pc (oLs (pc + 1) j) := by
  intro E l p e R s m args below meth c A vr wr d L S w o F hA hd1 hd2 ho hc
  obtain ⟨hx, hb, hr, hml, hown, hts, hlk, hK, hG, hAs, hAc, hi⟩ := F
  unfold oLs at ho
  split at ho
  · cases ho
    intro H locs ls hH hl
    exact lv_lstore_n hx hb hd hj hl hn rfl (fun ls' hl' => hc H locs ls' hH (lv_mono hl' asc_st2))
  · cases ho
theorem so_aload {mt : Nat → MI} {i : MI} {pc : Nat} {j : Nat} (hd : decode i.2.1 pc = .ok (.aload j, 2)) : OpS mt i pc (oAl (pc + 2) j) := by
  intro E l p e R s m args below meth c A vr wr d L S w o F hA hd1 hd2 ho hc
  obtain ⟨hx, hb, hr, hml, hown, hts, hlk, hK, hG, hAs, hAc, hi⟩ := F
  unfold oAl at ho
  split at ho
  · next hk =>
    cases ho
    intro H locs ls hH hl
    exact lv_aload hx hb hd (lk_at hl hk) (hc H locs ls hH hl)
  · cases ho
theorem so_aload_n {mt : Nat → MI} {i : MI} {pc : Nat} {k : Fin 4} {j : Nat} (hd : decode i.2.1 pc = .ok (.aload_n k, 1)) (hj : (k : Nat) = j) : OpS mt i pc (oAl (pc + 1) j) := by
  intro E l p e R s m args below meth c A vr wr d L S w o F hA hd1 hd2 ho hc
  obtain ⟨hx, hb, hr, hml, hown, hts, hlk, hK, hG, hAs, hAc, hi⟩ := F
  unfold oAl at ho
  split at ho
  · next hk =>
    cases ho
    intro H locs ls hH hl
    exact lv_aload_n hx hb hd hj (lk_at hl hk) (hc H locs ls hH hl)
  · cases ho
theorem so_astore {mt : Nat → MI} {i : MI} {pc : Nat} {j : Nat} (hd : decode i.2.1 pc = .ok (.astore j, 2)) (hn : j < i.2.2.1) : OpS mt i pc (oAs (pc + 2) j) := by
  intro E l p e R s m args below meth c A vr wr d L S w o F hA hd1 hd2 ho hc
  obtain ⟨hx, hb, hr, hml, hown, hts, hlk, hK, hG, hAs, hAc, hi⟩ := F
  unfold oAs at ho
  split at ho
  · cases ho
    intro H locs ls hH hl
    exact lv_astore hx hb hd hl hn rfl (fun ls' hl' => hc H locs ls' hH (lv_mono hl' asc_st1))
  · cases ho
theorem so_astore_n {mt : Nat → MI} {i : MI} {pc : Nat} {k : Fin 4} {j : Nat} (hd : decode i.2.1 pc = .ok (.astore_n k, 1)) (hj : (k : Nat) = j) (hn : j < i.2.2.1) : OpS mt i pc (oAs (pc + 1) j) := by
  intro E l p e R s m args below meth c A vr wr d L S w o F hA hd1 hd2 ho hc
  obtain ⟨hx, hb, hr, hml, hown, hts, hlk, hK, hG, hAs, hAc, hi⟩ := F
  unfold oAs at ho
  split at ho
  · cases ho
    intro H locs ls hH hl
    exact lv_astore_n hx hb hd hj hl hn rfl (fun ls' hl' => hc H locs ls' hH (lv_mono hl' asc_st1))
  · cases ho
theorem so_iinc {mt : Nat → MI} {i : MI} {pc : Nat} {j : Nat} {n : Int} {a : Int32} (hd : decode i.2.1 pc = .ok (.iinc j n, 3)) (ha : Int32.ofInt n = a) (hn : j < i.2.2.1) : OpS mt i pc (oIc (pc + 3) j a) := by
  intro E l p e R s m args below meth c A vr wr d L S w o F hA hd1 hd2 ho hc
  obtain ⟨hx, hb, hr, hml, hown, hts, hlk, hK, hG, hAs, hAc, hi⟩ := F
  unfold oIc at ho
  split at ho
  · next x hk =>
    cases ho
    intro H locs ls hH hl
    obtain ⟨k, hk2⟩ := List.getElem?_of_mem (asc_mem.mpr ⟨j, .int x, by simp [rv], hk⟩ : (j, Value.int x) ∈ asc E.ad 0 L)
    exact lv_iinc hx hb hd hl hk2 (by rw [ha]) hn rfl (fun ls' hl' => hc H locs ls' hH (lv_mono hl' asc_st1))
  · cases ho
theorem so_iadd {mt : Nat → MI} {i : MI} {pc : Nat} (hd : decode i.2.1 pc = .ok (.iadd, 1)) : OpS mt i pc (oII (fun x y => x + y) (pc + 1)) := by
  intro E l p e R s m args below meth c A vr wr d L S w o F hA hd1 hd2 ho hc
  obtain ⟨hx, hb, hr, hml, hown, hts, hlk, hK, hG, hAs, hAc, hi⟩ := F
  unfold oII at ho
  split at ho
  · cases ho
    intro H locs ls hH hl
    exact lv_iadd hx hb hd (hc H locs ls hH hl)
  · cases ho
theorem so_isub {mt : Nat → MI} {i : MI} {pc : Nat} (hd : decode i.2.1 pc = .ok (.isub, 1)) : OpS mt i pc (oII (fun x y => x - y) (pc + 1)) := by
  intro E l p e R s m args below meth c A vr wr d L S w o F hA hd1 hd2 ho hc
  obtain ⟨hx, hb, hr, hml, hown, hts, hlk, hK, hG, hAs, hAc, hi⟩ := F
  unfold oII at ho
  split at ho
  · cases ho
    intro H locs ls hH hl
    exact lv_isub hx hb hd (hc H locs ls hH hl)
  · cases ho
theorem so_imul {mt : Nat → MI} {i : MI} {pc : Nat} (hd : decode i.2.1 pc = .ok (.imul, 1)) : OpS mt i pc (oII (fun x y => x * y) (pc + 1)) := by
  intro E l p e R s m args below meth c A vr wr d L S w o F hA hd1 hd2 ho hc
  obtain ⟨hx, hb, hr, hml, hown, hts, hlk, hK, hG, hAs, hAc, hi⟩ := F
  unfold oII at ho
  split at ho
  · cases ho
    intro H locs ls hH hl
    exact lv_imul hx hb hd (hc H locs ls hH hl)
  · cases ho
theorem so_iand {mt : Nat → MI} {i : MI} {pc : Nat} (hd : decode i.2.1 pc = .ok (.iand, 1)) : OpS mt i pc (oII (fun x y => x &&& y) (pc + 1)) := by
  intro E l p e R s m args below meth c A vr wr d L S w o F hA hd1 hd2 ho hc
  obtain ⟨hx, hb, hr, hml, hown, hts, hlk, hK, hG, hAs, hAc, hi⟩ := F
  unfold oII at ho
  split at ho
  · cases ho
    intro H locs ls hH hl
    exact lv_iand hx hb hd (hc H locs ls hH hl)
  · cases ho
theorem so_ior {mt : Nat → MI} {i : MI} {pc : Nat} (hd : decode i.2.1 pc = .ok (.ior, 1)) : OpS mt i pc (oII (fun x y => x ||| y) (pc + 1)) := by
  intro E l p e R s m args below meth c A vr wr d L S w o F hA hd1 hd2 ho hc
  obtain ⟨hx, hb, hr, hml, hown, hts, hlk, hK, hG, hAs, hAc, hi⟩ := F
  unfold oII at ho
  split at ho
  · cases ho
    intro H locs ls hH hl
    exact lv_ior hx hb hd (hc H locs ls hH hl)
  · cases ho
theorem so_ixor {mt : Nat → MI} {i : MI} {pc : Nat} (hd : decode i.2.1 pc = .ok (.ixor, 1)) : OpS mt i pc (oII (fun x y => x ^^^ y) (pc + 1)) := by
  intro E l p e R s m args below meth c A vr wr d L S w o F hA hd1 hd2 ho hc
  obtain ⟨hx, hb, hr, hml, hown, hts, hlk, hK, hG, hAs, hAc, hi⟩ := F
  unfold oII at ho
  split at ho
  · cases ho
    intro H locs ls hH hl
    exact lv_ixor hx hb hd (hc H locs ls hH hl)
  · cases ho
theorem so_ishl {mt : Nat → MI} {i : MI} {pc : Nat} (hd : decode i.2.1 pc = .ok (.ishl, 1)) : OpS mt i pc (oII (fun x y => x <<< (y &&& 31)) (pc + 1)) := by
  intro E l p e R s m args below meth c A vr wr d L S w o F hA hd1 hd2 ho hc
  obtain ⟨hx, hb, hr, hml, hown, hts, hlk, hK, hG, hAs, hAc, hi⟩ := F
  unfold oII at ho
  split at ho
  · cases ho
    intro H locs ls hH hl
    exact lv_ishl hx hb hd (hc H locs ls hH hl)
  · cases ho
theorem so_ishr {mt : Nat → MI} {i : MI} {pc : Nat} (hd : decode i.2.1 pc = .ok (.ishr, 1)) : OpS mt i pc (oII (fun x y => x >>> (y &&& 31)) (pc + 1)) := by
  intro E l p e R s m args below meth c A vr wr d L S w o F hA hd1 hd2 ho hc
  obtain ⟨hx, hb, hr, hml, hown, hts, hlk, hK, hG, hAs, hAc, hi⟩ := F
  unfold oII at ho
  split at ho
  · cases ho
    intro H locs ls hH hl
    exact lv_ishr hx hb hd (hc H locs ls hH hl)
  · cases ho
theorem so_iushr {mt : Nat → MI} {i : MI} {pc : Nat} (hd : decode i.2.1 pc = .ok (.iushr, 1)) : OpS mt i pc (oII (fun x y => (x.toUInt32 >>> (y.toUInt32 &&& Int32.toUInt32 31)).toInt32) (pc + 1)) := by
  intro E l p e R s m args below meth c A vr wr d L S w o F hA hd1 hd2 ho hc
  obtain ⟨hx, hb, hr, hml, hown, hts, hlk, hK, hG, hAs, hAc, hi⟩ := F
  unfold oII at ho
  split at ho
  · cases ho
    intro H locs ls hH hl
    exact lv_iushr hx hb hd rfl (hc H locs ls hH hl)
  · cases ho
theorem so_ladd {mt : Nat → MI} {i : MI} {pc : Nat} (hd : decode i.2.1 pc = .ok (.ladd, 1)) : OpS mt i pc (oLL (fun x y => x + y) (pc + 1)) := by
  intro E l p e R s m args below meth c A vr wr d L S w o F hA hd1 hd2 ho hc
  obtain ⟨hx, hb, hr, hml, hown, hts, hlk, hK, hG, hAs, hAc, hi⟩ := F
  unfold oLL at ho
  split at ho
  · cases ho
    intro H locs ls hH hl
    exact lv_ladd hx hb hd (hc H locs ls hH hl)
  · cases ho
theorem so_lsub {mt : Nat → MI} {i : MI} {pc : Nat} (hd : decode i.2.1 pc = .ok (.lsub, 1)) : OpS mt i pc (oLL (fun x y => x - y) (pc + 1)) := by
  intro E l p e R s m args below meth c A vr wr d L S w o F hA hd1 hd2 ho hc
  obtain ⟨hx, hb, hr, hml, hown, hts, hlk, hK, hG, hAs, hAc, hi⟩ := F
  unfold oLL at ho
  split at ho
  · cases ho
    intro H locs ls hH hl
    exact lv_lsub hx hb hd (hc H locs ls hH hl)
  · cases ho
theorem so_lmul {mt : Nat → MI} {i : MI} {pc : Nat} (hd : decode i.2.1 pc = .ok (.lmul, 1)) : OpS mt i pc (oLL (fun x y => x * y) (pc + 1)) := by
  intro E l p e R s m args below meth c A vr wr d L S w o F hA hd1 hd2 ho hc
  obtain ⟨hx, hb, hr, hml, hown, hts, hlk, hK, hG, hAs, hAc, hi⟩ := F
  unfold oLL at ho
  split at ho
  · cases ho
    intro H locs ls hH hl
    exact lv_lmul hx hb hd (hc H locs ls hH hl)
  · cases ho
theorem so_land {mt : Nat → MI} {i : MI} {pc : Nat} (hd : decode i.2.1 pc = .ok (.land, 1)) : OpS mt i pc (oLL (fun x y => x &&& y) (pc + 1)) := by
  intro E l p e R s m args below meth c A vr wr d L S w o F hA hd1 hd2 ho hc
  obtain ⟨hx, hb, hr, hml, hown, hts, hlk, hK, hG, hAs, hAc, hi⟩ := F
  unfold oLL at ho
  split at ho
  · cases ho
    intro H locs ls hH hl
    exact lv_land hx hb hd (hc H locs ls hH hl)
  · cases ho
theorem so_lor {mt : Nat → MI} {i : MI} {pc : Nat} (hd : decode i.2.1 pc = .ok (.lor, 1)) : OpS mt i pc (oLL (fun x y => x ||| y) (pc + 1)) := by
  intro E l p e R s m args below meth c A vr wr d L S w o F hA hd1 hd2 ho hc
  obtain ⟨hx, hb, hr, hml, hown, hts, hlk, hK, hG, hAs, hAc, hi⟩ := F
  unfold oLL at ho
  split at ho
  · cases ho
    intro H locs ls hH hl
    exact lv_lor hx hb hd (hc H locs ls hH hl)
  · cases ho
theorem so_lxor {mt : Nat → MI} {i : MI} {pc : Nat} (hd : decode i.2.1 pc = .ok (.lxor, 1)) : OpS mt i pc (oLL (fun x y => x ^^^ y) (pc + 1)) := by
  intro E l p e R s m args below meth c A vr wr d L S w o F hA hd1 hd2 ho hc
  obtain ⟨hx, hb, hr, hml, hown, hts, hlk, hK, hG, hAs, hAc, hi⟩ := F
  unfold oLL at ho
  split at ho
  · cases ho
    intro H locs ls hH hl
    exact lv_lxor hx hb hd (hc H locs ls hH hl)
  · cases ho
theorem so_lshl {mt : Nat → MI} {i : MI} {pc : Nat} (hd : decode i.2.1 pc = .ok (.lshl, 1)) : OpS mt i pc (oLI (fun x y => x <<< (y.toInt64 &&& 63)) (pc + 1)) := by
  intro E l p e R s m args below meth c A vr wr d L S w o F hA hd1 hd2 ho hc
  obtain ⟨hx, hb, hr, hml, hown, hts, hlk, hK, hG, hAs, hAc, hi⟩ := F
  unfold oLI at ho
  split at ho
  · cases ho
    intro H locs ls hH hl
    exact lv_lshl hx hb hd rfl (hc H locs ls hH hl)
  · cases ho
theorem so_lshr {mt : Nat → MI} {i : MI} {pc : Nat} (hd : decode i.2.1 pc = .ok (.lshr, 1)) : OpS mt i pc (oLI (fun x y => x >>> (y.toInt64 &&& 63)) (pc + 1)) := by
  intro E l p e R s m args below meth c A vr wr d L S w o F hA hd1 hd2 ho hc
  obtain ⟨hx, hb, hr, hml, hown, hts, hlk, hK, hG, hAs, hAc, hi⟩ := F
  unfold oLI at ho
  split at ho
  · cases ho
    intro H locs ls hH hl
    exact lv_lshr hx hb hd rfl (hc H locs ls hH hl)
  · cases ho
theorem so_lushr {mt : Nat → MI} {i : MI} {pc : Nat} (hd : decode i.2.1 pc = .ok (.lushr, 1)) : OpS mt i pc (oLI (fun x y => (x.toUInt64 >>> (y.toInt64.toUInt64 &&& Int64.toUInt64 63)).toInt64) (pc + 1)) := by
  intro E l p e R s m args below meth c A vr wr d L S w o F hA hd1 hd2 ho hc
  obtain ⟨hx, hb, hr, hml, hown, hts, hlk, hK, hG, hAs, hAc, hi⟩ := F
  unfold oLI at ho
  split at ho
  · cases ho
    intro H locs ls hH hl
    exact lv_lushr hx hb hd rfl (hc H locs ls hH hl)
  · cases ho
theorem so_idiv {mt : Nat → MI} {i : MI} {pc : Nat} (hd : decode i.2.1 pc = .ok (.idiv, 1)) : OpS mt i pc (oDI (fun x y => x / y) (pc + 1)) := by
  intro E l p e R s m args below meth c A vr wr d L S w o F hA hd1 hd2 ho hc
  obtain ⟨hx, hb, hr, hml, hown, hts, hlk, hK, hG, hAs, hAc, hi⟩ := F
  unfold oDI at ho
  split at ho
  · split at ho
    · next hy =>
      cases ho
      intro H locs ls hH hl
      exact lv_idiv hx hb hd (fun h => hy (by rw [h]; decide)) (hc H locs ls hH hl)
    · cases ho
  · cases ho
theorem so_irem {mt : Nat → MI} {i : MI} {pc : Nat} (hd : decode i.2.1 pc = .ok (.irem, 1)) : OpS mt i pc (oDI (fun x y => x - x / y * y) (pc + 1)) := by
  intro E l p e R s m args below meth c A vr wr d L S w o F hA hd1 hd2 ho hc
  obtain ⟨hx, hb, hr, hml, hown, hts, hlk, hK, hG, hAs, hAc, hi⟩ := F
  unfold oDI at ho
  split at ho
  · split at ho
    · next hy =>
      cases ho
      intro H locs ls hH hl
      exact lv_irem hx hb hd (fun h => hy (by rw [h]; decide)) (hc H locs ls hH hl)
    · cases ho
  · cases ho
theorem so_ldiv {mt : Nat → MI} {i : MI} {pc : Nat} (hd : decode i.2.1 pc = .ok (.ldiv, 1)) : OpS mt i pc (oDL (fun x y => x / y) (pc + 1)) := by
  intro E l p e R s m args below meth c A vr wr d L S w o F hA hd1 hd2 ho hc
  obtain ⟨hx, hb, hr, hml, hown, hts, hlk, hK, hG, hAs, hAc, hi⟩ := F
  unfold oDL at ho
  split at ho
  · split at ho
    · next hy =>
      cases ho
      intro H locs ls hH hl
      exact lv_ldiv hx hb hd (fun h => hy (by rw [h]; decide)) (hc H locs ls hH hl)
    · cases ho
  · cases ho
theorem so_lrem {mt : Nat → MI} {i : MI} {pc : Nat} (hd : decode i.2.1 pc = .ok (.lrem, 1)) : OpS mt i pc (oDL (fun x y => x - x / y * y) (pc + 1)) := by
  intro E l p e R s m args below meth c A vr wr d L S w o F hA hd1 hd2 ho hc
  obtain ⟨hx, hb, hr, hml, hown, hts, hlk, hK, hG, hAs, hAc, hi⟩ := F
  unfold oDL at ho
  split at ho
  · split at ho
    · next hy =>
      cases ho
      intro H locs ls hH hl
      exact lv_lrem hx hb hd (fun h => hy (by rw [h]; decide)) (hc H locs ls hH hl)
    · cases ho
  · cases ho
theorem so_i2l {mt : Nat → MI} {i : MI} {pc : Nat} (hd : decode i.2.1 pc = .ok (.i2l, 1)) : OpS mt i pc (oI1 (fun x => .long x.toInt64) (pc + 1)) := by
  intro E l p e R s m args below meth c A vr wr d L S w o F hA hd1 hd2 ho hc
  obtain ⟨hx, hb, hr, hml, hown, hts, hlk, hK, hG, hAs, hAc, hi⟩ := F
  unfold oI1 at ho
  split at ho
  · cases ho
    intro H locs ls hH hl
    exact lv_i2l hx hb hd rfl (hc H locs ls hH hl)
  · cases ho
theorem so_i2b {mt : Nat → MI} {i : MI} {pc : Nat} (hd : decode i.2.1 pc = .ok (.i2b, 1)) : OpS mt i pc (oI1 (fun x => .int x.toInt8.toInt32) (pc + 1)) := by
  intro E l p e R s m args below meth c A vr wr d L S w o F hA hd1 hd2 ho hc
  obtain ⟨hx, hb, hr, hml, hown, hts, hlk, hK, hG, hAs, hAc, hi⟩ := F
  unfold oI1 at ho
  split at ho
  · cases ho
    intro H locs ls hH hl
    exact lv_i2b hx hb hd rfl (hc H locs ls hH hl)
  · cases ho
theorem so_l2i {mt : Nat → MI} {i : MI} {pc : Nat} (hd : decode i.2.1 pc = .ok (.l2i, 1)) : OpS mt i pc (oL1 (fun x => .int x.toInt32) (pc + 1)) := by
  intro E l p e R s m args below meth c A vr wr d L S w o F hA hd1 hd2 ho hc
  obtain ⟨hx, hb, hr, hml, hown, hts, hlk, hK, hG, hAs, hAc, hi⟩ := F
  unfold oL1 at ho
  split at ho
  · cases ho
    intro H locs ls hH hl
    exact lv_l2i hx hb hd rfl (hc H locs ls hH hl)
  · cases ho
theorem so_lneg {mt : Nat → MI} {i : MI} {pc : Nat} (hd : decode i.2.1 pc = .ok (.lneg, 1)) : OpS mt i pc (oL1 (fun x => .long (-x)) (pc + 1)) := by
  intro E l p e R s m args below meth c A vr wr d L S w o F hA hd1 hd2 ho hc
  obtain ⟨hx, hb, hr, hml, hown, hts, hlk, hK, hG, hAs, hAc, hi⟩ := F
  unfold oL1 at ho
  split at ho
  · cases ho
    intro H locs ls hH hl
    exact lv_lneg hx hb hd (hc H locs ls hH hl)
  · cases ho
theorem so_lcmp {mt : Nat → MI} {i : MI} {pc : Nat} (hd : decode i.2.1 pc = .ok (.lcmp, 1)) : OpS mt i pc (oLc (pc + 1)) := by
  intro E l p e R s m args below meth c A vr wr d L S w o F hA hd1 hd2 ho hc
  obtain ⟨hx, hb, hr, hml, hown, hts, hlk, hK, hG, hAs, hAc, hi⟩ := F
  unfold oLc at ho
  split at ho
  · cases ho
    intro H locs ls hH hl
    exact W.lcmp hx hb hd (hc H locs ls hH hl)
  · cases ho
theorem ti_z : (0 : Int32).toInt = 0 := by decide
theorem tz_eq (x : Int32) : x = 0 ↔ x.toInt = 0 := by simp only [Int32.lt_iff_toInt_lt, Int32.le_iff_toInt_le, ← Int32.toInt_inj, ti_z]
theorem tz_lt (x : Int32) : x < 0 ↔ x.toInt < 0 := by simp only [Int32.lt_iff_toInt_lt, Int32.le_iff_toInt_le, ← Int32.toInt_inj, ti_z]
theorem tz_ge (x : Int32) : 0 ≤ x ↔ 0 ≤ x.toInt := by simp only [Int32.lt_iff_toInt_lt, Int32.le_iff_toInt_le, ← Int32.toInt_inj, ti_z]
theorem tz_gt (x : Int32) : 0 < x ↔ 0 < x.toInt := by simp only [Int32.lt_iff_toInt_lt, Int32.le_iff_toInt_le, ← Int32.toInt_inj, ti_z]
theorem tz_le (x : Int32) : x ≤ 0 ↔ x.toInt ≤ 0 := by simp only [Int32.lt_iff_toInt_lt, Int32.le_iff_toInt_le, ← Int32.toInt_inj, ti_z]
theorem tt_eq (x y : Int32) : x = y ↔ x.toInt = y.toInt := by simp only [Int32.lt_iff_toInt_lt, Int32.le_iff_toInt_le, ← Int32.toInt_inj]
theorem tt_lt (x y : Int32) : x < y ↔ x.toInt < y.toInt := by simp only [Int32.lt_iff_toInt_lt, Int32.le_iff_toInt_le, ← Int32.toInt_inj]
theorem tt_ge (x y : Int32) : y ≤ x ↔ y.toInt ≤ x.toInt := by simp only [Int32.lt_iff_toInt_lt, Int32.le_iff_toInt_le, ← Int32.toInt_inj]
theorem tt_gt (x y : Int32) : y < x ↔ y.toInt < x.toInt := by simp only [Int32.lt_iff_toInt_lt, Int32.le_iff_toInt_le, ← Int32.toInt_inj]
theorem tt_le (x y : Int32) : x ≤ y ↔ x.toInt ≤ y.toInt := by simp only [Int32.lt_iff_toInt_lt, Int32.le_iff_toInt_le, ← Int32.toInt_inj]
theorem so_ifeq {mt : Nat → MI} {i : MI} {pc : Nat} {off : Int} {t : Nat} (hd : decode i.2.1 pc = .ok (.ifCond .eq off, 3)) (ht : (pc : Int) + off = (t : Int)) : OpS mt i pc (oIf (fun x => x.toInt = 0) t (pc + 3)) := by
  intro E l p e R s m args below meth c A vr wr d L S w o F hA hd1 hd2 ho hc
  obtain ⟨hx, hb, hr, hml, hown, hts, hlk, hK, hG, hAs, hAc, hi⟩ := F
  unfold oIf at ho
  split at ho
  · split at ho
    · next hq =>
      cases ho
      intro H locs ls hH hl
      exact lv_if_eq hx hb hd ht (fun _ => hc H locs ls hH hl) (fun h => absurd ((tz_eq _).mpr hq) h)
    · next hq =>
      cases ho
      intro H locs ls hH hl
      exact lv_if_eq hx hb hd ht (fun h => absurd ((tz_eq _).mp h) hq) (fun _ => hc H locs ls hH hl)
  · cases ho
theorem so_ifne {mt : Nat → MI} {i : MI} {pc : Nat} {off : Int} {t : Nat} (hd : decode i.2.1 pc = .ok (.ifCond .ne off, 3)) (ht : (pc : Int) + off = (t : Int)) : OpS mt i pc (oIf (fun x => ¬ x.toInt = 0) t (pc + 3)) := by
  intro E l p e R s m args below meth c A vr wr d L S w o F hA hd1 hd2 ho hc
  obtain ⟨hx, hb, hr, hml, hown, hts, hlk, hK, hG, hAs, hAc, hi⟩ := F
  unfold oIf at ho
  split at ho
  · split at ho
    · next hq =>
      cases ho
      intro H locs ls hH hl
      exact lv_if_ne hx hb hd ht (fun _ => hc H locs ls hH hl) (fun h => absurd ((tz_eq _).mp h) hq)
    · next hq =>
      cases ho
      intro H locs ls hH hl
      exact lv_if_ne hx hb hd ht (fun h => absurd ((tz_eq _).mpr (Classical.not_not.mp hq)) h) (fun _ => hc H locs ls hH hl)
  · cases ho
theorem so_iflt {mt : Nat → MI} {i : MI} {pc : Nat} {off : Int} {t : Nat} (hd : decode i.2.1 pc = .ok (.ifCond .lt off, 3)) (ht : (pc : Int) + off = (t : Int)) : OpS mt i pc (oIf (fun x => x.toInt < 0) t (pc + 3)) := by
  intro E l p e R s m args below meth c A vr wr d L S w o F hA hd1 hd2 ho hc
  obtain ⟨hx, hb, hr, hml, hown, hts, hlk, hK, hG, hAs, hAc, hi⟩ := F
  unfold oIf at ho
  split at ho
  · split at ho
    · next hq =>
      cases ho
      intro H locs ls hH hl
      exact lv_if_lt hx hb hd ht (fun _ => hc H locs ls hH hl) (fun h => absurd ((tz_lt _).mpr hq) h)
    · next hq =>
      cases ho
      intro H locs ls hH hl
      exact lv_if_lt hx hb hd ht (fun h => absurd ((tz_lt _).mp h) hq) (fun _ => hc H locs ls hH hl)
  · cases ho
theorem so_ifge {mt : Nat → MI} {i : MI} {pc : Nat} {off : Int} {t : Nat} (hd : decode i.2.1 pc = .ok (.ifCond .ge off, 3)) (ht : (pc : Int) + off = (t : Int)) : OpS mt i pc (oIf (fun x => 0 ≤ x.toInt) t (pc + 3)) := by
  intro E l p e R s m args below meth c A vr wr d L S w o F hA hd1 hd2 ho hc
  obtain ⟨hx, hb, hr, hml, hown, hts, hlk, hK, hG, hAs, hAc, hi⟩ := F
  unfold oIf at ho
  split at ho
  · split at ho
    · next hq =>
      cases ho
      intro H locs ls hH hl
      exact lv_if_ge hx hb hd ht (fun _ => hc H locs ls hH hl) (fun h => absurd ((tz_ge _).mpr hq) h)
    · next hq =>
      cases ho
      intro H locs ls hH hl
      exact lv_if_ge hx hb hd ht (fun h => absurd ((tz_ge _).mp h) hq) (fun _ => hc H locs ls hH hl)
  · cases ho
theorem so_ifgt {mt : Nat → MI} {i : MI} {pc : Nat} {off : Int} {t : Nat} (hd : decode i.2.1 pc = .ok (.ifCond .gt off, 3)) (ht : (pc : Int) + off = (t : Int)) : OpS mt i pc (oIf (fun x => 0 < x.toInt) t (pc + 3)) := by
  intro E l p e R s m args below meth c A vr wr d L S w o F hA hd1 hd2 ho hc
  obtain ⟨hx, hb, hr, hml, hown, hts, hlk, hK, hG, hAs, hAc, hi⟩ := F
  unfold oIf at ho
  split at ho
  · split at ho
    · next hq =>
      cases ho
      intro H locs ls hH hl
      exact lv_if_gt hx hb hd ht (fun _ => hc H locs ls hH hl) (fun h => absurd ((tz_gt _).mpr hq) h)
    · next hq =>
      cases ho
      intro H locs ls hH hl
      exact lv_if_gt hx hb hd ht (fun h => absurd ((tz_gt _).mp h) hq) (fun _ => hc H locs ls hH hl)
  · cases ho
theorem so_ifle {mt : Nat → MI} {i : MI} {pc : Nat} {off : Int} {t : Nat} (hd : decode i.2.1 pc = .ok (.ifCond .le off, 3)) (ht : (pc : Int) + off = (t : Int)) : OpS mt i pc (oIf (fun x => x.toInt ≤ 0) t (pc + 3)) := by
  intro E l p e R s m args below meth c A vr wr d L S w o F hA hd1 hd2 ho hc
  obtain ⟨hx, hb, hr, hml, hown, hts, hlk, hK, hG, hAs, hAc, hi⟩ := F
  unfold oIf at ho
  split at ho
  · split at ho
    · next hq =>
      cases ho
      intro H locs ls hH hl
      exact lv_if_le hx hb hd ht (fun _ => hc H locs ls hH hl) (fun h => absurd ((tz_le _).mpr hq) h)
    · next hq =>
      cases ho
      intro H locs ls hH hl
      exact lv_if_le hx hb hd ht (fun h => absurd ((tz_le _).mp h) hq) (fun _ => hc H locs ls hH hl)
  · cases ho
theorem so_iceq {mt : Nat → MI} {i : MI} {pc : Nat} {off : Int} {t : Nat} (hd : decode i.2.1 pc = .ok (.if_icmp .eq off, 3)) (ht : (pc : Int) + off = (t : Int)) : OpS mt i pc (oCm (fun x y => x.toInt = y.toInt) t (pc + 3)) := by
  intro E l p e R s m args below meth c A vr wr d L S w o F hA hd1 hd2 ho hc
  obtain ⟨hx, hb, hr, hml, hown, hts, hlk, hK, hG, hAs, hAc, hi⟩ := F
  unfold oCm at ho
  split at ho
  · split at ho
    · next hq =>
      cases ho
      intro H locs ls hH hl
      exact lv_icmp_eq hx hb hd ht (fun _ => hc H locs ls hH hl) (fun h => absurd ((tt_eq _ _).mpr hq) h)
    · next hq =>
      cases ho
      intro H locs ls hH hl
      exact lv_icmp_eq hx hb hd ht (fun h => absurd ((tt_eq _ _).mp h) hq) (fun _ => hc H locs ls hH hl)
  · cases ho
theorem so_icne {mt : Nat → MI} {i : MI} {pc : Nat} {off : Int} {t : Nat} (hd : decode i.2.1 pc = .ok (.if_icmp .ne off, 3)) (ht : (pc : Int) + off = (t : Int)) : OpS mt i pc (oCm (fun x y => ¬ x.toInt = y.toInt) t (pc + 3)) := by
  intro E l p e R s m args below meth c A vr wr d L S w o F hA hd1 hd2 ho hc
  obtain ⟨hx, hb, hr, hml, hown, hts, hlk, hK, hG, hAs, hAc, hi⟩ := F
  unfold oCm at ho
  split at ho
  · split at ho
    · next hq =>
      cases ho
      intro H locs ls hH hl
      exact lv_icmp_ne hx hb hd ht (fun _ => hc H locs ls hH hl) (fun h => absurd ((tt_eq _ _).mp h) hq)
    · next hq =>
      cases ho
      intro H locs ls hH hl
      exact lv_icmp_ne hx hb hd ht (fun h => absurd ((tt_eq _ _).mpr (Classical.not_not.mp hq)) h) (fun _ => hc H locs ls hH hl)
  · cases ho
theorem so_iclt {mt : Nat → MI} {i : MI} {pc : Nat} {off : Int} {t : Nat} (hd : decode i.2.1 pc = .ok (.if_icmp .lt off, 3)) (ht : (pc : Int) + off = (t : Int)) : OpS mt i pc (oCm (fun x y => x.toInt < y.toInt) t (pc + 3)) := by
  intro E l p e R s m args below meth c A vr wr d L S w o F hA hd1 hd2 ho hc
  obtain ⟨hx, hb, hr, hml, hown, hts, hlk, hK, hG, hAs, hAc, hi⟩ := F
  unfold oCm at ho
  split at ho
  · split at ho
    · next hq =>
      cases ho
      intro H locs ls hH hl
      exact lv_icmp_lt hx hb hd ht (fun _ => hc H locs ls hH hl) (fun h => absurd ((tt_lt _ _).mpr hq) h)
    · next hq =>
      cases ho
      intro H locs ls hH hl
      exact lv_icmp_lt hx hb hd ht (fun h => absurd ((tt_lt _ _).mp h) hq) (fun _ => hc H locs ls hH hl)
  · cases ho
theorem so_icge {mt : Nat → MI} {i : MI} {pc : Nat} {off : Int} {t : Nat} (hd : decode i.2.1 pc = .ok (.if_icmp .ge off, 3)) (ht : (pc : Int) + off = (t : Int)) : OpS mt i pc (oCm (fun x y => y.toInt ≤ x.toInt) t (pc + 3)) := by
  intro E l p e R s m args below meth c A vr wr d L S w o F hA hd1 hd2 ho hc
  obtain ⟨hx, hb, hr, hml, hown, hts, hlk, hK, hG, hAs, hAc, hi⟩ := F
  unfold oCm at ho
  split at ho
  · split at ho
    · next hq =>
      cases ho
      intro H locs ls hH hl
      exact lv_icmp_ge hx hb hd ht (fun _ => hc H locs ls hH hl) (fun h => absurd ((tt_ge _ _).mpr hq) h)
    · next hq =>
      cases ho
      intro H locs ls hH hl
      exact lv_icmp_ge hx hb hd ht (fun h => absurd ((tt_ge _ _).mp h) hq) (fun _ => hc H locs ls hH hl)
  · cases ho
theorem so_icgt {mt : Nat → MI} {i : MI} {pc : Nat} {off : Int} {t : Nat} (hd : decode i.2.1 pc = .ok (.if_icmp .gt off, 3)) (ht : (pc : Int) + off = (t : Int)) : OpS mt i pc (oCm (fun x y => y.toInt < x.toInt) t (pc + 3)) := by
  intro E l p e R s m args below meth c A vr wr d L S w o F hA hd1 hd2 ho hc
  obtain ⟨hx, hb, hr, hml, hown, hts, hlk, hK, hG, hAs, hAc, hi⟩ := F
  unfold oCm at ho
  split at ho
  · split at ho
    · next hq =>
      cases ho
      intro H locs ls hH hl
      exact lv_icmp_gt hx hb hd ht (fun _ => hc H locs ls hH hl) (fun h => absurd ((tt_gt _ _).mpr hq) h)
    · next hq =>
      cases ho
      intro H locs ls hH hl
      exact lv_icmp_gt hx hb hd ht (fun h => absurd ((tt_gt _ _).mp h) hq) (fun _ => hc H locs ls hH hl)
  · cases ho
theorem so_icle {mt : Nat → MI} {i : MI} {pc : Nat} {off : Int} {t : Nat} (hd : decode i.2.1 pc = .ok (.if_icmp .le off, 3)) (ht : (pc : Int) + off = (t : Int)) : OpS mt i pc (oCm (fun x y => x.toInt ≤ y.toInt) t (pc + 3)) := by
  intro E l p e R s m args below meth c A vr wr d L S w o F hA hd1 hd2 ho hc
  obtain ⟨hx, hb, hr, hml, hown, hts, hlk, hK, hG, hAs, hAc, hi⟩ := F
  unfold oCm at ho
  split at ho
  · split at ho
    · next hq =>
      cases ho
      intro H locs ls hH hl
      exact lv_icmp_le hx hb hd ht (fun _ => hc H locs ls hH hl) (fun h => absurd ((tt_le _ _).mpr hq) h)
    · next hq =>
      cases ho
      intro H locs ls hH hl
      exact lv_icmp_le hx hb hd ht (fun h => absurd ((tt_le _ _).mp h) hq) (fun _ => hc H locs ls hH hl)
  · cases ho
theorem so_goto {mt : Nat → MI} {i : MI} {pc : Nat} {off : Int} {t : Nat} (hd : decode i.2.1 pc = .ok (.goto off, 3)) (ht : (pc : Int) + off = (t : Int)) : OpS mt i pc (oGo t) := by
  intro E l p e R s m args below meth c A vr wr d L S w o F hA hd1 hd2 ho hc
  obtain ⟨hx, hb, hr, hml, hown, hts, hlk, hK, hG, hAs, hAc, hi⟩ := F
  cases ho
  intro H locs ls hH hl
  exact lv_goto hx hb hd ht (hc H locs ls hH hl)
theorem so_dup {mt : Nat → MI} {i : MI} {pc : Nat} (hd : decode i.2.1 pc = .ok (.dup, 1)) : OpS mt i pc (oDp (pc + 1)) := by
  intro E l p e R s m args below meth c A vr wr d L S w o F hA hd1 hd2 ho hc
  obtain ⟨hx, hb, hr, hml, hown, hts, hlk, hK, hG, hAs, hAc, hi⟩ := F
  unfold oDp at ho
  split at ho
  · cases ho
    intro H locs ls hH hl
    exact lv_dup hx hb hd rfl (hc H locs ls hH hl)
  · cases ho
    intro H locs ls hH hl
    exact lv_dup hx hb hd rfl (hc H locs ls hH hl)
  · cases ho
theorem so_dup2 {mt : Nat → MI} {i : MI} {pc : Nat} (hd : decode i.2.1 pc = .ok (.dup2, 1)) : OpS mt i pc (oD2 (pc + 1)) := by
  intro E l p e R s m args below meth c A vr wr d L S w o F hA hd1 hd2 ho hc
  obtain ⟨hx, hb, hr, hml, hown, hts, hlk, hK, hG, hAs, hAc, hi⟩ := F
  unfold oD2 at ho
  split at ho
  · cases ho
    intro H locs ls hH hl
    exact lv_dup2_11 hx hb hd rfl rfl (hc H locs ls hH hl)
  · cases ho
    intro H locs ls hH hl
    exact lv_dup2_11 hx hb hd rfl rfl (hc H locs ls hH hl)
  · cases ho
    intro H locs ls hH hl
    exact lv_dup2_2 hx hb hd rfl (hc H locs ls hH hl)
  · cases ho
theorem so_pop {mt : Nat → MI} {i : MI} {pc : Nat} (hd : decode i.2.1 pc = .ok (.pop, 1)) : OpS mt i pc (oPp (pc + 1)) := by
  intro E l p e R s m args below meth c A vr wr d L S w o F hA hd1 hd2 ho hc
  obtain ⟨hx, hb, hr, hml, hown, hts, hlk, hK, hG, hAs, hAc, hi⟩ := F
  unfold oPp at ho
  split at ho
  · cases ho
    intro H locs ls hH hl
    exact lv_pop hx hb hd rfl (hc H locs ls hH hl)
  · cases ho
theorem so_tab {mt : Nat → MI} {i : MI} {pc : Nat} {dflt hi lo : Int} {offs : Array Int} {len : Nat} {td : Nat} {ts : List Nat} (hd : decode i.2.1 pc = .ok (.tableswitch dflt lo hi offs, len)) (h1 : (pc : Int) + dflt = (td : Int)) (h2 : lo + ts.length = hi + 1) (h3 : offs.toList.map (fun z => (pc : Int) + z) = ts.map (fun t : Nat => (t : Int))) : OpS mt i pc (oTb td lo ts) := by
  intro E l p e R s m args below meth c A vr wr d L S w o F hA hd1 hd2 ho hc
  obtain ⟨hx, hb, hr, hml, hown, hts, hlk, hK, hG, hAs, hAc, hi⟩ := F
  unfold oTb at ho
  split at ho
  · next x r =>
    split at ho
    · next hq =>
      cases ho
      intro H locs ls hH hl
      exact lv_tableOut hx hb hd (hq.imp id (fun h => by omega)) h1 (hc H locs ls hH hl)
    · next hq =>
      split at ho
      · next t ht =>
        cases ho
        intro H locs ls hH hl
        have h4 : (offs.toList.map (fun z => (pc : Int) + z))[(x.toInt - lo).toNat]? = some (t : Int) := by rw [h3, List.getElem?_map, ht]; rfl
        rw [List.getElem?_map] at h4
        cases ho2 : offs.toList[(x.toInt - lo).toNat]? with
        | none => rw [ho2] at h4; cases h4
        | some z =>
          rw [ho2] at h4
          exact lv_tableIn (off := z) hx hb hd (fun h => hq (Or.inl h)) (fun h => hq (Or.inr (by omega))) (by rw [← Array.getElem?_toList]; exact ho2) (Option.some.inj h4) (hc H locs ls hH hl)
      · cases ho
  · cases ho
theorem so_return {mt : Nat → MI} {i : MI} {pc : Nat} (hr0 : i.2.2.2 = none) (hd : decode i.2.1 pc = .ok (.return_, 1)) : OpS mt i pc (oRv) := by
  intro E l p e R s m args below meth c A vr wr d L S w o F hA hd1 hd2 ho hc
  obtain ⟨hx, hb, hr, hml, hown, hts, hlk, hK, hG, hAs, hAc, hi⟩ := F
  unfold oRv at ho
  subst hA
  split at ho
  · cases ho
    intro H locs ls hH hl
    exact W.vret hx hb (hr.trans hr0) (fun t ht hW => ⟨⟨by rw [← hc.1]; rfl, by rw [ht, ← hc.2]; exact hH.1⟩, hH.2.F ht⟩) hH.2.2.2 hd
  · cases ho
theorem so_ireturn {mt : Nat → MI} {i : MI} {pc : Nat} (hr0 : i.2.2.2 = some .int) (hd : decode i.2.1 pc = .ok (.ireturn, 1)) : OpS mt i pc (oRi) := by
  intro E l p e R s m args below meth c A vr wr d L S w o F hA hd1 hd2 ho hc
  obtain ⟨hx, hb, hr, hml, hown, hts, hlk, hK, hG, hAs, hAc, hi⟩ := F
  unfold oRi at ho
  subst hA
  split at ho
  · cases ho
    intro H locs ls hH hl
    exact W.iret hx hb (hr.trans hr0) (fun t ht hW => ⟨⟨by rw [← hc.1]; rfl, by rw [ht, ← hc.2]; exact hH.1⟩, hH.2.F ht⟩) hH.2.2.2 hd
  · cases ho
theorem so_lreturn {mt : Nat → MI} {i : MI} {pc : Nat} (hr0 : i.2.2.2 = some .long) (hd : decode i.2.1 pc = .ok (.lreturn, 1)) : OpS mt i pc (oRl) := by
  intro E l p e R s m args below meth c A vr wr d L S w o F hA hd1 hd2 ho hc
  obtain ⟨hx, hb, hr, hml, hown, hts, hlk, hK, hG, hAs, hAc, hi⟩ := F
  unfold oRl at ho
  subst hA
  split at ho
  · cases ho
    intro H locs ls hH hl
    exact W.lret hx hb (hr.trans hr0) (fun t ht hW => ⟨⟨by rw [← hc.1]; rfl, by rw [ht, ← hc.2]; exact hH.1⟩, hH.2.F ht⟩) hH.2.2.2 hd
  · cases ho
theorem nz_of {x : Int32} (h : x.toInt = 0 ∨ x.toInt = 1) : narrow .boolean (.int x) = .int x := by
  rcases h with h | h
  · have e : x = 0 := Int32.toInt_inj.mp (by rw [h]; decide)
    subst e; decide
  · have e : x = 1 := Int32.toInt_inj.mp (by rw [h]; decide)
    subst e; decide
theorem so_zreturn {mt : Nat → MI} {i : MI} {pc : Nat} (hr0 : i.2.2.2 = some .boolean) (hd : decode i.2.1 pc = .ok (.ireturn, 1)) : OpS mt i pc (oRz) := by
  intro E l p e R s m args below meth c A vr wr d L S w o F hA hd1 hd2 ho hc
  obtain ⟨hx, hb, hr, hml, hown, hts, hlk, hK, hG, hAs, hAc, hi⟩ := F
  unfold oRz at ho
  subst hA
  split at ho
  · split at ho
    · next hz =>
      cases ho
      intro H locs ls hH hl
      exact W.zret (ty := .boolean) hx hb (hr.trans hr0) (nz_of hz) (fun t ht hW => ⟨⟨by rw [← hc.1]; rfl, by rw [ht, ← hc.2]; exact hH.1⟩, hH.2.F ht⟩) hH.2.2.2 hd
    · cases ho
  · cases ho
