/-! end on both sides: a program -/
theorem ca_h {x x' v1 y' : MW} (Bx : BND x) (Bx' : BND x') (hr : HRq (mx x x')) (e1 : p_Wa_closeAll x (fun y => y = v1)) (e2 : p_Mo_closeAll x' (fun z => z = y')) : HRq (mx v1 y') := by
  have T : 0 ≤ tM x' ∧ tM x' ≤ 20 := bd_127_4 Bx'
  have P : 0 ≤ pM x' ∧ pM x' ≤ 24 := bd_127_11 Bx'
  have b26 := bd_26_1 Bx
  have t := ca_u (Q' := fun v' => HRq (mx v' y') ∧ v' = v1) b26.1 b26.2 e1 (fun v' PP e => by
    have q := PP x' T P hr (fun z => z = y') (fun z => z = y' ∧ HRq (mx v' z)) e2 (fun w' z1 z2 => ⟨z2, z1⟩)
    obtain ⟨u, ⟨z1, z2⟩, _⟩ := ex_p_Mo_closeAll q
    rw [z1] at z2
    exact ⟨z2, e⟩)
  obtain ⟨v', ⟨z1, z2⟩, _⟩ := ex_p_Wa_closeAll t
  rw [z2] at z1
  exact z1
def lGc : Pl := lzg ++ l_Wa_closeAll
def lGm : Pl := lmG ++ l_Mo_closeAll ++ [(201, none), (206, none)]
/-- a program was taken on both sides -/
theorem ze_G {T : Int} {ns0 ns : List Nod} {nm0 nm : List Nm} {ks0 ks : List Nat} {v w v1 w' : MW} {f : Int → Int} {n m : Int} (h : ZRr T ns0 nm0 ks0 v w) (hv : CI v) (hu : CI (sw sN v1)) (hw : MdJ w') (hp : PGM f n (true, 0, m, ns, nm, ks)) (F : CzG v v1 ns nm ks) (G : MzG w w' ns nm ks) : ZRr T ns nm ks (sw sN v1) w' := by
  obtain ⟨x, F1, Bx, ex, Fx, r61, s4, q7, q5, ⟨kk, LL⟩, NC, op, PC, n5⟩ := F
  obtain ⟨x', y', G1, Bx', s59, SM, SN, RL, ⟨ts, TP⟩, ey, Gy, Gw, zz⟩ := G
  obtain ⟨hr, ha, rq, sc, sm, ss, wt, pg⟩ := h.1
  have FF : FR lGc v v1 := ((FR.refl lGc v).tr F1 (by decide +kernel)).tr Fx (by decide +kernel)
  have GG : FR lGm w w' := (((FR.refl lGm w).tr G1 (by decide +kernel)).tr Gy (by decide +kernel)).tr Gw (by decide +kernel)
  have S := fr_star (σ := sN) (lS := lNs) FF sN_s
  have S1 := fr_star (σ := sN) (lS := lNs) (FR.refl [] v1) sN_s
  have hr1 : HRq (mx v1 w') := hr_f (ca_h Bx Bx' (hr_f hr F1 G1 (by decide +kernel) (by decide +kernel)) ex ey) (FR.refl [] v1) Gw rfl rfl
  have hr2 := hr_f hr1 S1 (FR.refl [] w') (by decide +kernel) rfl
  have hr3 : HRq (mx ((sw sN v1).1, (sw sN v1).2.1, v.2.2) w') := HRq_ag (fun k j _ => rfl) (fun k j _ => rfl) (fun k j _ => rfl) (fun k j _ => rfl) (fun j => rfl) hr2
  -- cells of the program that stands
  have c62 : ∀ j, (sw sN v1).1 62 j = x.1 108 j := fun j => (Fx 108 j rfl).1
  have c63 : ∀ j, (sw sN v1).1 63 j = x.1 109 j := fun j => (Fx 109 j rfl).1
  have c64 : ∀ j, (sw sN v1).1 64 j = x.1 110 j := fun j => (Fx 110 j rfl).1
  have c65 : ∀ j, (sw sN v1).1 65 j = x.1 111 j := fun j => (Fx 111 j rfl).1
  have c66 : ∀ j, (sw sN v1).1 66 j = x.1 112 j := fun j => (Fx 112 j rfl).1
  have c69 : ∀ j, (sw sN v1).2.1 69 j = x.2.1 115 j := fun j => (Fx 115 j rfl).2.1
  have c71 : ∀ j, (sw sN v1).1 71 j = x.1 117 j := fun j => (Fx 117 j rfl).1
  have c74 : ∀ j, (sw sN v1).2.1 74 j = x.2.1 120 j := fun j => (Fx 120 j rfl).2.1
  have c75 : ∀ j, (sw sN v1).1 75 j = x.1 121 j := fun j => (Fx 121 j rfl).1
  have c61 : ∀ j, (sw sN v1).1 61 j = v1.1 61 j := fun j => rfl
  have c614 : (sw sN v1).1 61 4 = x.1 61 4 := (Fx 61 4 rfl).1
  have c615 : (sw sN v1).1 61 5 = x.1 61 5 := (Fx 61 5 rfl).1
  have c77 : ∀ j, (sw sN v1).1 77 j = x.1 77 j := fun j => (Fx 77 j rfl).1
  have c78 : ∀ j, (sw sN v1).1 78 j = x.1 78 j := fun j => (Fx 78 j rfl).1
  have c79 : ∀ j, (sw sN v1).1 79 j = x.1 79 j := fun j => (Fx 79 j rfl).1
  have pgs := pgs_of hp SM.1 PC
  have SM' : StM ns w' := stm_f (stm_f SM Gy rfl) Gw rfl
  have SN' : StN nm w' := stn_f (stn_f SN Gy rfl) Gw rfl
  have RL' : RlM w' nm := rlm_fr (rlm_fr RL Gy rfl) Gw rfl
  have TP' : TpW w' ts ks := tpw_fr (tpw_fr TP Gy rfl) Gw rfl
  have g59 : (w'.1 127 59).toInt = 4 := by rw [(Gw 127 59 rfl).1, (Gy 127 59 rfl).1]; exact s59
  have n10 : ((sw sN v1).1 62 10).toInt = (nm.length : Int) := by rw [c62]; exact NC.1
  have z4 : ((sw sN v1).1 61 4).toInt = 4 := by rw [c614]; exact s4
  have PQ : PgQ ns nm ks (sw sN v1) w' := by
    refine ⟨ci_61 hu, fun i d hd => ?_, SM', pgs.1, ⟨n10, NC.2.1⟩, pgs.2.2.1, pgs.2.1, fun i y hy => ?_, RL', ⟨ts, TP'⟩, SN', ?_, fun k0 => ⟨?_, ?_, ?_⟩⟩
    · rw [c63, c64, c69, c65, c66]
      have p := PC.1.2 i d hd
      exact ⟨p.1, p.2.1, fun z => by rw [← p.2.2 z, Int64.ofInt_toInt], fun z => pgs.2.2.2 i d hd z⟩
    · rw [c71]
      exact (NC.2.2 i y hy).2.1
    · rw [c62]
      exact op
    · rw [c77]
      exact q7
    · rw [c615]
      exact q5
    · rw [c615]
      refine ⟨kk, ?_⟩
      have e8 : fiC (sw sN v1) 0 = (x.1 78 0).toInt := by unfold fiC; rw [c78]
      rw [e8]
      refine LayA_g _ _ _ _ _ LL (fun j _ _ => ⟨?_, ?_, ?_⟩)
      · show ((sw sN v1).1 77 j).toInt = (x.1 77 j).toInt
        rw [c77]
      · show ((sw sN v1).1 78 j).toInt = (x.1 78 j).toInt
        rw [c78]
      · show ((sw sN v1).1 79 j).toInt = (x.1 79 j).toInt
        rw [c79]
  obtain ⟨_, BB, vl, al, st, bad, nw, wk, rn⟩ := h
  have al' := alr_f al S GG (by decide +kernel) (by decide +kernel)
  have al2 : AlR (sw sN v1) w' := al'
  have ha' := hac_f ha S GG (by decide +kernel) (by decide +kernel)
  have ha2 : HAc (mx (sw sN v1) w') := ha'
  have rq' := rwq_f rq S GG (by decide +kernel) (by decide +kernel)
  have rq2 : RwQ (sw sN v1) w' := by
    obtain ⟨g, rs, h1, h2, h3, h4, h5⟩ := rq'
    have h1' : RsC (sw sN v1) rs := h1
    exact ⟨g, rs, h1', h2, h3, h4, h5⟩
  have wt' := wtr_f wt S GG (by decide +kernel) (by decide +kernel)
  have wt2 : WtR (sw sN v1) w' := wt'
  have hr4 : HRq (mx (sw sN v1) w') := HRq_ag (fun k j _ => rfl) (fun k j _ => rfl) (fun k j _ => rfl) (fun k j _ => rfl) (fun j => rfl) hr3
  have e71 : (sw sN v1).1 7 1 = v.1 7 1 := (FF 7 1 rfl).1
  have e17 : (sw sN v1).2.1 61 17 = v.2.1 61 17 := (FF 61 17 rfl).2.1
  have ssn : SsR (sw sN v1) w' := by
    refine ⟨by rw [n10]; exact RL'.1.symm, by rw [n10]; have := NC.2.1; omega, fun i hi => ?_⟩
    have i5 := n5 i (by rw [← c62]; exact hi)
    have i40 : i < 40 := by
      rw [n10] at hi
      have := NC.2.1
      omega
    have no1 : ¬ SnsC (sw sN v1) i := fun q => by
      have q2 := q.2
      rw [c75] at q2
      omega
    have no2 : ¬ SnsM w' i := fun q => q.1 (zz i i40).1
    exact ⟨⟨fun q => absurd q no1, fun q => absurd q no2⟩, fun q => absurd q no1⟩
  have vln : VlR (sw sN v1) w' := fun i hi => by
    have i40 : i < 40 := by
      rw [n10] at hi
      have := NC.2.1
      omega
    rw [c74, (n5 i (by rw [← c62]; exact hi)).1]
    exact (zz i i40).2.symm
  refine ⟨⟨hr4, ha2, rq2, svc_ci hu, svm_mj hw, ssn, wt2, PQ⟩, ⟨hu.1, hw.1.1⟩, vln, al2, Int32.toInt_inj.mp (z4.trans g59.symm), ?_, ?_, ?_, fun z => ?_⟩
  · rw [(GG 127 76 rfl).1]; exact bad
  · rw [e71]; exact nw
  · rw [e71, e17]; exact wk
  · rw [z4] at z
    omega
