/-! the start of both sides -/
/-- the house of both sides with no plant -/
theorem hr_zero {u w : MW} (ht : HTb (mx u w)) (now : u.1 7 1 = w.1 127 78) (a0 : u.1 8 0 = 0) (a1 : u.1 8 1 = 0) (b0 : w.1 127 4 = 0) (b1 : w.1 127 11 = 0) (c0 : u.1 26 1 = 0) (c1 : w.1 127 26 = 0) : HRq (mx u w) := by
  have eT : tM (mx u w) = 0 := by show (w.1 127 4).toInt = 0; rw [b0]; exact i_0
  have eP : pM (mx u w) = 0 := by show (w.1 127 11).toInt = 0; rw [b1]; exact i_0
  have eTC : tC (mx u w) = 0 := by show (u.1 8 0).toInt = 0; rw [a0]; exact i_0
  have ePC : pC (mx u w) = 0 := by show (u.1 8 1).toInt = 0; rw [a1]; exact i_0
  have nw0 : nwy (mx u w) = 0 := by
    show (w.1 127 26).toInt.toNat = 0
    rw [c1]
    rfl
  have i0 : (w.1 127 26).toInt = 0 := by rw [c1]; exact i_0
  refine ⟨⟨⟨eTC.trans eT.symm, ePC.trans eP.symm, fun t hT => ?_, fun e he => ?_⟩, ⟨fun e he => ?_, fun t j hT => ?_⟩, fun e he => ?_, fun e g eg hg => ?_⟩, ht, ⟨⟨fun t hT => ?_, fun p hp => ?_⟩, ⟨fun x hx => ?_, fun x l hx => ?_, now⟩, fun t hT => ?_, fun p hp => ?_, fun x l hx => ?_⟩, ⟨c0.trans c1.symm, ?_, ?_, fun k hk => ?_⟩, fun k hk => ?_, ⟨fun p hp => ?_, fun k i k' i' hk => ?_⟩, fun k hk => ?_, ⟨fun k t hk => ?_, fun k t hk => ?_, fun t hT => ?_⟩, fun k i hk => ?_⟩
  · omega
  · omega
  · omega
  · omega
  · omega
  · omega
  · omega
  · omega
  · omega
  · omega
  · omega
  · omega
  · omega
  · show 0 ≤ (w.1 127 26).toInt
    omega
  · show (w.1 127 26).toInt ≤ 24
    omega
  · rw [nw0] at hk
    exact absurd hk (Nat.not_lt_zero k)
  · rw [nw0] at hk
    exact absurd hk (Nat.not_lt_zero k)
  · omega
  · rw [nw0] at hk
    exact absurd hk (Nat.not_lt_zero k)
  · rw [nw0] at hk
    exact absurd hk (Nat.not_lt_zero k)
  · rw [nw0] at hk
    exact absurd hk (Nat.not_lt_zero k)
  · have hk' : (k : Int) < (w.1 127 26).toInt := hk
    omega
  · omega
  · rw [nw0] at hk
    exact absurd hk (Nat.not_lt_zero k)
theorem mbz_0 (k : Nat) : mb 0 k = false := by
  unfold mb
  show (0#32).getLsbD k = false
  rw [BitVec.getLsbD_zero]
theorem w0_zq (g0 : Nat → Int32) (g1 : Nat → Int64) (hg : g0 = ndO 160) : Zq 0 (w0 g0 g1) := by
  have hb : ∀ k, -1 ≤ (g0 k).toInt ∧ (g0 k).toInt ≤ 9 := by rw [hg]; exact ndO_b 160
  have hc : CI (w0 g0 g1) := ci_w0 g1 hb
  have hm : MdJ (w0 g0 g1) := mdj_w0 g1 hb
  have r62 : ∀ j, (w0 g0 g1).1 62 j = bif Nat.beq j 2 then -1 else 0 := fun j => congrFun w0r_62 j
  have r127 : ∀ j, (w0 g0 g1).1 127 j = bif Nat.beq j 59 then 4 else bif Nat.beq j 76 then -1 else 0 := fun j => congrFun w0r_127 j
  have r61 : ∀ j, (w0 g0 g1).1 61 j = bif Nat.beq j 4 then 4 else 0 := fun j => congrFun w0r_61 j
  have n10 : ((w0 g0 g1).1 62 10).toInt = 0 := by rw [r62]; decide
  have z129 : ∀ j, (w0 g0 g1).1 129 j = 0 := fun j => rfl
  have ht : HTb (mx (w0 g0 g1) (w0 g0 g1)) := by
    refine ⟨fun i _ => ?_, fun i j _ _ _ _ => (mbz_0 j).trans (mbz_0 i).symm, fun i j _ _ _ _ => ⟨fun _ => ?_, fun _ => ?_⟩, fun i j _ _ _ _ => rfl, fun l _ _ => rfl⟩
    · show g0 i = ndO 160 i
      rw [hg]
    · show ((0 : Int32)).toInt = 0
      decide
    · show mb 0 j = false
      exact mbz_0 j
  have hr : HRq (mx (w0 g0 g1) (w0 g0 g1)) := hr_zero ht (by rw [r127]; rfl) rfl rfl (by rw [r127]; rfl) (by rw [r127]; rfl) rfl (by rw [r127]; rfl)
  have ha : HAc (mx (w0 g0 g1) (w0 g0 g1)) := fun k _ => ⟨rfl, rfl, rfl, rfl⟩
  have rq : RwQ (w0 g0 g1) (w0 g0 g1) := ⟨0, [], ⟨w0z (g0 := g0) (g1 := g1) (k := 48) rfl 0, fun j y h => (by cases h), fun r x h => (by cases h)⟩, gr_nil, ⟨by decide, w0z (g0 := g0) (g1 := g1) (k := 147) rfl 12, w0z (g0 := g0) (g1 := g1) (k := 147) rfl 20, by decide, fun r x h => (by cases h)⟩, fun r hr => absurd hr (Nat.not_lt_zero r), rfl⟩
  have ss : SsR (w0 g0 g1) (w0 g0 g1) := ⟨by rw [n10, z129]; rfl, by rw [n10]; decide, fun n hn => by rw [n10] at hn; omega⟩
  have wt : WtR (w0 g0 g1) (w0 g0 g1) := ⟨fun c _ => Or.inl ⟨by show ((-1 : Int32)).toInt = -1; decide, by show 5 ≤ ((5 : Int32)).toInt; decide, mbz_0 c⟩, fun c _ _ => mbz_0 c⟩
  have pg : PgQ [] [] [] (w0 g0 g1) (w0 g0 g1) := by
    refine ⟨ci_61 hc, fun i d h => (by cases h), ⟨by decide, ⟨by rw [z129]; decide, by rw [z129]; decide⟩, fun i d h => (by cases h)⟩, ⟨fun i d h => (by cases h), fun i d h => (by cases h), fun i x h => (by cases h), fun i d h => (by cases h), fun i d h => (by cases h), fun i x h => (by cases h), by decide, fun i d h => (by cases h)⟩, ⟨n10, by decide⟩, fun c h => (by cases h), fun c h => (by cases h), fun i x h => (by cases h), ⟨by rw [z129]; rfl, by decide, fun i x h => (by cases h)⟩, ⟨[], by rw [z129]; rfl, fun k c h => (by cases h), fun t h => (by cases h), fun t h => (by cases h)⟩, ⟨by decide, fun i x h => (by cases h)⟩, ⟨fun _ => rfl, fun _ => by rw [r62]; decide⟩, fun z => absurd rfl z⟩
  refine ⟨false, false, false, hc, hm, [], [], [], ⟨hr, ha, rq, svc_ci hc, svm_mj hm, ss, wt, pg⟩, ⟨hc.1, hm.1.1⟩, fun n hn => ?_, ⟨by rw [r127]; rfl, by rw [r127]; rfl, by show 0 ≤ ((0 : Int32)).toInt; decide, by show ((0 : Int32)).toInt ≤ 200; decide, fun j _ => ⟨rfl, rfl, rfl⟩⟩, by rw [r127]; rfl, by rw [r127]; decide, ⟨by show 0 ≤ ((0 : Int32)).toInt; decide, by show ((0 : Int32)).toInt ≤ 0; decide⟩, ⟨by show 0 ≤ ((0 : Int64)).toInt; decide, by show ((0 : Int64)).toInt ≤ ((0 : Int32)).toInt; decide⟩, fun z => ?_⟩
  · have hn' : (n : Int) < ((w0 g0 g1).1 62 10).toInt := hn
    rw [n10] at hn'
    omega
  · have z' : ((w0 g0 g1).1 61 4).toInt = 0 ∨ ((w0 g0 g1).1 61 4).toInt = 2 := z
    rw [r61] at z'
    exact absurd z' (by decide)
