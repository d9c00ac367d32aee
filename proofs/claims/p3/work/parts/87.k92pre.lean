theorem mw_25 : (.instantiable "BreweryHouse" 16 : Cond) ∈ lw_gd := tb_mem (i := 25) (by decide +kernel) (by decide +kernel)
theorem mw_1568 : (.instantiable "BreweryHouseModel" 87 : Cond) ∈ lw_gd := tb_mem (i := 1568) (by decide +kernel) (by decide +kernel)
theorem df_Bh : ∀ j, j < 16 → defaultValue (t_Bh j) = vp_V [.null, .null, .null, .null, .null, .null, .null, .null, .null, .null, .null, .null, .int 0, .null, .null, .null] j := by decide +kernel
theorem df_Mo : ∀ j, j < 87 → defaultValue (t_Mo j) = vp_V [.null, .int 0, .null, .null, .int 0, .null, .null, .null, .null, .null, .null, .int 0, .null, .null, .null, .null, .null, .null, .null, .null, .null, .int 0, .int 0, .null, .null, .null, .int 0, .null, .null, .null, .null, .null, .null, .null, .null, .null, .null, .null, .null, .int 0, .long 0, .null, .null, .null, .null, .int 0, .int 0, .int 0, .int 0, .null, .null, .null, .null, .null, .null, .null, .null, .null, .null, .int 0, .int 0, .null, .null, .null, .null, .null, .null, .null, .null, .null, .null, .null, .int 0, .int 0, .int 0, .int 0, .int 0, .int 0, .int 0, .int 0, .null, .null, .null, .int 0, .int 0, .int 0, .int 0] j := by decide +kernel
theorem ka_of {s : State} {a : Array Value} {ty : FieldType} (h : (Cond.arrayClass ty).before a s = true) (hno : ∀ C, ty ≠ .object C) : ∃ cA : ClassId, ArrOfT s cA ty ∧ va_RA s cA ty := by
  obtain ⟨cA, kA, comp, hfind, hk, hkind⟩ := Cond.arrayClass_spec h
  refine ⟨cA, fun n z => ⟨(fun k h => by cases h), kA, hk, comp, hkind⟩, ?_⟩
  cases ty <;> first | exact absurd rfl (hno _) | exact hfind
theorem kk_start {s : State} {a : Array Value} (hts0 : ∀ w ∈ lw_tbl, w.before a s = true) : ∃ (dC : Nat → ClassId) (dI : Nat → Nat → Nat) (cI cB cZ cJ : ClassId), KK dC dI cI cB cZ cJ s := by
  have hgd : ∀ w ∈ lw_gd, w.before a s = true := fun w hw => hts0 w (List.mem_filter.mp hw).1
  obtain ⟨c0, i0, h0⟩ := u_known (C := R_Bh) (T := F_Bh) (N := 16) hgd in_Bh (hgd _ mw_25)
  obtain ⟨c1, i1, h1⟩ := u_known (C := R_Tp) (T := F_Tp) (N := 3) hgd in_Tp (hgd _ mw_33)
  obtain ⟨c2, i2, h2⟩ := u_known (C := R_Al) (T := F_Al) (N := 4) hgd in_Al (hgd _ mw_55)
  obtain ⟨c3, i3, h3⟩ := u_known (C := R_Pl) (T := F_Pl) (N := 12) hgd in_Pl (hgd _ mw_81)
  obtain ⟨c4, i4, h4⟩ := u_known (C := R_St) (T := F_St) (N := 12) hgd in_St (hgd _ mw_75)
  obtain ⟨c5, i5, h5⟩ := u_known (C := R_Wa) (T := F_Wa) (N := 18) hgd in_Wa (hgd _ mw_210)
  obtain ⟨c6, i6, h6⟩ := u_known (C := R_Sf) (T := F_Sf) (N := 10) hgd in_Sf (hgd _ mw_277)
  obtain ⟨c7, i7, h7⟩ := u_known (C := R_Ro) (T := F_Ro) (N := 18) hgd in_Ro (hgd _ mw_324)
  obtain ⟨c8, i8, h8⟩ := u_known (C := R_Pr) (T := F_Pr) (N := 18) hgd in_Pr (hgd _ mw_423)
  obtain ⟨c9, i9, h9⟩ := u_known (C := R_Rd) (T := F_Rd) (N := 13) hgd in_Rd (hgd _ mw_578)
  obtain ⟨c10, i10, h10⟩ := u_known (C := R_Ru) (T := F_Ru) (N := 21) hgd in_Ru (hgd _ mw_417)
  obtain ⟨c11, i11, h11⟩ := u_known (C := R_Ac) (T := F_Ac) (N := 8) hgd in_Ac (hgd _ mw_318)
  obtain ⟨c12, i12, h12⟩ := u_known (C := R_Mo) (T := F_Mo) (N := 87) hgd in_Mo (hgd _ mw_1568)
  obtain ⟨c13, i13, h13⟩ := u_known (C := R_Tx) (T := F_Tx) (N := 39) hgd in_Tx (hgd _ mw_1574)
  obtain ⟨c14, i14, h14⟩ := u_known (C := R_Mr) (T := F_Mr) (N := 25) hgd in_Mr (hgd _ mw_1707)
  obtain ⟨cI, aI, rI⟩ := ka_of (hgd _ mw_53) (fun C h => by cases h)
  obtain ⟨cB, aB, rB⟩ := ka_of (hgd _ mw_676) (fun C h => by cases h)
  obtain ⟨cZ, aZ, rZ⟩ := ka_of (hgd _ mw_275) (fun C h => by cases h)
  obtain ⟨cJ, aJ, rJ⟩ := ka_of (hgd _ mw_208) (fun C h => by cases h)
  refine ⟨fun k => [c0, c1, c2, c3, c4, c5, c6, c7, c8, c9, c10, c11, c12, c13, c14].getD k c0, fun k => [i0, i1, i2, i3, i4, i5, i6, i7, i8, i9, i10, i11, i12, i13, i14].getD k i0, cI, cB, cZ, cJ, ⟨fun c q hq => ?_, fun k q hq => ?_⟩, fun w hw => ?_⟩
  · match c, hq with
    | 0, hq => cases hq; exact h0
    | 1, hq => cases hq; exact h1
    | 2, hq => cases hq; exact h2
    | 3, hq => cases hq; exact h3
    | 4, hq => cases hq; exact h4
    | 5, hq => cases hq; exact h5
    | 6, hq => cases hq; exact h6
    | 7, hq => cases hq; exact h7
    | 8, hq => cases hq; exact h8
    | 9, hq => cases hq; exact h9
    | 10, hq => cases hq; exact h10
    | 11, hq => cases hq; exact h11
    | 12, hq => cases hq; exact h12
    | 13, hq => cases hq; exact h13
    | 14, hq => cases hq; exact h14
    | n + 15, hq => cases hq
  · match k, hq with
    | 0, hq => cases hq; exact ⟨aI, rI⟩
    | 1, hq => cases hq; exact ⟨aB, rB⟩
    | 2, hq => cases hq; exact ⟨aZ, rZ⟩
    | 3, hq => cases hq; exact ⟨aJ, rJ⟩
    | n + 4, hq => cases hq
  · have h2 : nw_is w = true := (List.mem_filter.mp hw).2
    have h1 := hts0 w (List.mem_append_right _ (List.mem_filter.mp hw).1)
    cases w <;> first | (cases h2; done) | exact va_Nw.of rfl h1
