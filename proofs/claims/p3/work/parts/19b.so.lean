section TS
variable {mt : Nat → MI} {i : MI} {pc : Nat}
theorem tx_small : ∀ j, j < 18 → txL.getD j 0 < 200 := by decide +kernel
theorem gt_of {E : EV} {A : Nat → Prop} {U : State} {H : Heap} {j : Nat} (hj : j < 18) (h : GM E A U H) : GT (txL.getD j 0) (txB.getD j []) (fun _ => E.ad (2000 + j)) (fun _ => E.av j) A U H :=
  ⟨h.2.2.2.1, ⟨fun k hk => by
    obtain rfl : k = 0 := by omega
    exact h.2.2.2.2.1.1 j hj, fun a b ha hb _ => by omega⟩, h.2.2.2.2.2.2⟩
theorem so_slen {idx : Nat} (h1 : Cond.methodLink i.1.cls idx y_Sg_length ∈ lw_gd) (h2 : Cond.instanceMethod y_Sg_length ∈ lw_gd) (h3 : Cond.selects "java/lang/String" y_Sg_length y_Sg_length ∈ lw_gd) (h4 : Cond.initialized "java/lang/String" ∈ lw_gd) (h5 : Cond.code y_Sg_length b_Sg_length 1 (some .int) ∈ lw_gd) (hd : decode i.2.1 pc = .ok (.invokevirtual idx, 3)) : OpS mt i pc (oSl (pc + 3)) := by
  intro E l p e R s m args below meth c A vr wr d L S w o F hA hd1 hd2 ho hc
  obtain ⟨hx, hb, hr, hml, hown, hts, hlk, hK, hG, hAs, hAc, hi⟩ := F
  unfold oSl at ho
  split at ho
  · next k r =>
    split at ho
    · next hk =>
      cases ho
      obtain ⟨k1, k2, k3⟩ := hk
      obtain ⟨j, rfl⟩ := Nat.exists_eq_add_of_le k1
      have hj : j < 18 := Nat.lt_of_add_lt_add_left (n := 2000) (show 2000 + j < 2000 + 18 from k2)
      rw [Nat.add_sub_cancel_left] at hc
      intro H locs ls hH hl
      have hFc := pu_free hH.2 hAs
      refine va_calli (va_runV (C := R_Sg) (As := []) (rest := r.map (rv E.ad)) ⟨hx, hb, hml, hown, hts⟩ (c_Sg_length l E.dC E.dI E.cI E.cB E.cZ E.cJ (txL.getD j 0) (txB.getD j []) (tx_small j hj) (fun _ => E.ad (2000 + j)) (fun _ => E.av j) H.size) (cwV 0 hts (tb_V h1 h2 h3 h4 h5) rfl rfl rfl ⟨rfl, by decide +kernel, by decide +kernel, by decide +kernel⟩ ⟨?_, ?_⟩) ⟨pwt_blind, vk_recv (gt_of hj hG).2.1 (i := 0) (by decide) hH.2, pwt_pre wn_P hK (wn_D (A := A)) (gt_of hj hG) hH.2 hFc⟩ rfl rfl hl.1 rfl (lv_room (by rw [cat_sum]; exact k3)) hd ⟨Nat.zero_le _, Nat.zero_le _⟩) hH.2 (fun q _ h => hFc q h) hFc (fun r1 u t H1 locs1 ht hvm hw hB hz1 hk1 hS1 => ?_)
      · show 1 + 1 ≤ R.frames
        omega
      · show 8 + (1 + 11) + 20 ≤ R.locals
        omega
      · subst hw
        exact hc H1 locs1 ls ⟨pu_kept hH.1 hk1, hS1⟩ hl
    · cases ho
  · cases ho
theorem so_schr {idx : Nat} (h1 : Cond.methodLink i.1.cls idx y_Sg_charAt ∈ lw_gd) (h2 : Cond.instanceMethod y_Sg_charAt ∈ lw_gd) (h3 : Cond.selects "java/lang/String" y_Sg_charAt y_Sg_charAt ∈ lw_gd) (h4 : Cond.initialized "java/lang/String" ∈ lw_gd) (h5 : Cond.code y_Sg_charAt b_Sg_charAt 2 (some .char) ∈ lw_gd) (hd : decode i.2.1 pc = .ok (.invokevirtual idx, 3)) : OpS mt i pc (oSc (pc + 3)) := by
  intro E l p e R s m args below meth c A vr wr d L S w o F hA hd1 hd2 ho hc
  obtain ⟨hx, hb, hr, hml, hown, hts, hlk, hK, hG, hAs, hAc, hi⟩ := F
  unfold oSc at ho
  split at ho
  · next z k r =>
    split at ho
    · next hk =>
      cases ho
      obtain ⟨k1, k2, k3, k4, k5⟩ := hk
      obtain ⟨j, rfl⟩ := Nat.exists_eq_add_of_le k1
      have hj : j < 18 := Nat.lt_of_add_lt_add_left (n := 2000) (show 2000 + j < 2000 + 18 from k2)
      rw [Nat.add_sub_cancel_left] at hc k5
      have hs := tx_small j hj
      have hz0 : ¬ z < 0 := fun h => by rw [Int32.lt_iff_toInt_lt, ti_z] at h; omega
      have hz1 : ¬ nI (txL.getD j 0) ≤ z := fun h => by rw [Int32.le_iff_toInt_le, nI_toInt (by omega)] at h; omega
      intro H locs ls hH hl
      have hFc := pu_free hH.2 hAs
      refine va_calli (va_runV (C := R_Sg) (As := [.int z]) (rest := r.map (rv E.ad)) ⟨hx, hb, hml, hown, hts⟩ (c_Sg_charAt l E.dC E.dI E.cI E.cB E.cZ E.cJ (txL.getD j 0) (txB.getD j []) hs (fun _ => E.ad (2000 + j)) (fun _ => E.av j) z hz0 hz1 H.size) (cwV 1 hts (tb_V h1 h2 h3 h4 h5) rfl rfl rfl ⟨rfl, by decide +kernel, by decide +kernel, by decide +kernel⟩ ⟨?_, ?_⟩) ⟨pwt_blind, vk_recv (gt_of hj hG).2.1 (i := 0) (by decide) hH.2, pwt_pre wn_P hK (wn_D (A := A)) (gt_of hj hG) hH.2 hFc⟩ rfl rfl hl.1 rfl (lv_room (by rw [cat_sum]; exact k3)) hd ⟨Nat.zero_le _, Nat.zero_le _⟩) hH.2 (fun q _ h => hFc q h) hFc (fun r1 u t H1 locs1 ht hvm hw hB hz1 hk1 hS1 => ?_)
      · show 3 + 1 ≤ R.frames
        omega
      · show 8 + (2 + 11) + 64 ≤ R.locals
        omega
      · subst hw
        exact hc H1 locs1 ls ⟨pu_kept hH.1 hk1, hS1⟩ hl
    · cases ho
  · cases ho
end TS
