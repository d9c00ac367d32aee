/-! which pipes are busy -/
def bz (b : Int64) (q : Int32) : Prop := ((b >>> (q.toInt64 &&& 63)) &&& (1 : Int64)) = 0
theorem lg0 {x : Int64} : (lg_cmp x (0 : Int64)).toInt = 0 ↔ x = 0 := by
  have h := nb_cmp x 0
  constructor
  · intro q
    exact Int64.toInt_inj.mp (by omega)
  · intro q
    subst q
    omega
theorem fre_bz {w : MW} {g : Int32} : fre w g ↔ bz (w.2.1 127 40) (g / (2 : Int32)) := by
  unfold fre bz
  exact lg0
theorem bz_or {b c : Int64} {q : Int32} (h : bz (b ||| c) q) : bz b q ∧ bz c q := by
  unfold bz at *
  have h1 := congrArg Int64.toBitVec h
  rw [Int64.toBitVec_and, Int64.toBitVec_shiftRight, Int64.toBitVec_or] at h1
  have h2 : ∀ (x y : BitVec 64) (n : BitVec 64), ((x ||| y).sshiftRight' n &&& 1#64) = 0#64 → (x.sshiftRight' n &&& 1#64) = 0#64 ∧ (y.sshiftRight' n &&& 1#64) = 0#64 := by
    intro x y n hh
    rw [BitVec.sshiftRight_eq', BitVec.sshiftRight_or_distrib] at hh
    rw [BitVec.sshiftRight_eq', BitVec.sshiftRight_eq']
    generalize x.sshiftRight n.toNat = u at *
    generalize y.sshiftRight n.toNat = v at *
    have k : ∀ i : Nat, ((u ||| v) &&& 1#64).getLsbD i = false := by
      intro i
      rw [hh]
      simp
    refine ⟨BitVec.eq_of_getLsbD_eq (fun i hi => ?_), BitVec.eq_of_getLsbD_eq (fun i hi => ?_)⟩
    · have := k i
      simp only [BitVec.getLsbD_and, BitVec.getLsbD_or] at this ⊢
      cases hu : u.getLsbD i <;> cases hv : v.getLsbD i <;> simp_all
    · have := k i
      simp only [BitVec.getLsbD_and, BitVec.getLsbD_or] at this ⊢
      cases hu : u.getLsbD i <;> cases hv : v.getLsbD i <;> simp_all
  have h3 := h2 _ _ _ h1
  refine ⟨?_, ?_⟩
  · apply Int64.toBitVec_inj.mp
    rw [Int64.toBitVec_and, Int64.toBitVec_shiftRight]
    exact h3.1
  · apply Int64.toBitVec_inj.mp
    rw [Int64.toBitVec_and, Int64.toBitVec_shiftRight]
    exact h3.2
theorem bz_set0 : ∀ n : Nat, n < 24 → ¬ ((((1 : Int64) <<< ((Int32.ofNat n).toInt64 &&& 63)) >>> ((Int32.ofNat n).toInt64 &&& 63)) &&& (1 : Int64)) = 0 := by decide
theorem bz_set {q : Int32} (h0 : 0 ≤ q.toInt) (h1 : q.toInt < 24) : ¬ bz ((1 : Int64) <<< (q.toInt64 &&& 63)) q := by
  have e : q = Int32.ofNat q.toInt.toNat := Int32.toInt_inj.mp (by rw [Int32.toInt_ofNat_of_lt (by omega)]; omega)
  have h := bz_set0 q.toInt.toNat (by omega)
  rw [← e] at h
  exact h
def RowH (w : MW) (k : Int32) : Prop := 1 ≤ (w.1 185 k.toInt.toNat).toInt ∧ ∀ t : Int32, 0 ≤ t.toInt → t.toInt < 20 → ¬ (w.1 187 (20 * k.toInt + t.toInt).toNat).toInt = -1 → ∃ a b i j : Int32, (0 ≤ a.toInt ∧ a.toInt < P2 w ∧ 0 ≤ b.toInt ∧ b.toInt < P2 w ∧ ¬ a.toInt = b.toInt ∧ At w a = t.toInt ∧ At w b = t.toInt) ∧ (0 ≤ i.toInt ∧ i.toInt < (w.1 185 k.toInt.toNat).toInt ∧ i.toInt < 24 ∧ 0 ≤ j.toInt ∧ j.toInt < (w.1 185 k.toInt.toNat).toInt ∧ j.toInt < 24) ∧ a / (2 : Int32) = (w.1 186 (24 * k.toInt + i.toInt).toNat) / (2 : Int32) ∧ b / (2 : Int32) = (w.1 186 (24 * k.toInt + j.toInt).toNat) / (2 : Int32)
def Fst (w : MW) (k : Int32) : Int32 := (w.1 186 (24 * k.toInt).toNat) / (2 : Int32)
def HW (w : MW) : Prop := (∀ k : Int32, 0 ≤ k.toInt → k.toInt < (w.1 127 26).toInt → RowH w k) ∧ (∀ k l : Int32, 0 ≤ k.toInt → k.toInt < (w.1 127 26).toInt → 0 ≤ l.toInt → l.toInt < (w.1 127 26).toInt → ¬ k.toInt = l.toInt → ¬ Fst w k = Fst w l)
/-- a row that is the same in another world -/
theorem row_mv {w w' : MW} {k k' : Int32} (h11 : w'.1 127 11 = w.1 127 11) (h170 : ∀ j, w'.1 170 j = w.1 170 j) (h185 : w'.1 185 k'.toInt.toNat = w.1 185 k.toInt.toNat) (h186 : ∀ i : Int, 0 ≤ i → i < 24 → w'.1 186 (24 * k'.toInt + i).toNat = w.1 186 (24 * k.toInt + i).toNat) (h187 : ∀ t : Int, 0 ≤ t → t < 20 → (w'.1 187 (20 * k'.toInt + t).toNat).toInt = -1 ∨ (w'.1 187 (20 * k'.toInt + t).toNat).toInt = (w.1 187 (20 * k.toInt + t).toNat).toInt) (h : RowH w k) : RowH w' k' := by
  refine ⟨by rw [h185]; exact h.1, fun t t0 t1 ht => ?_⟩
  have h9 := (h187 t.toInt t0 t1).resolve_left ht
  rw [h9] at ht
  obtain ⟨a, b, i, j, ⟨a1, a2, a3, a4, a5, a6, a7⟩, ⟨b1, b2, b3, b4, b5, b6⟩, c1, c2⟩ := h.2 t t0 t1 ht
  have hP : P2 w' = P2 w := by unfold P2; rw [h11]
  have hA : ∀ e : Int32, At w' e = At w e := fun e => by unfold At; rw [h170]
  refine ⟨a, b, i, j, ⟨a1, by rw [hP]; exact a2, a3, by rw [hP]; exact a4, a5, by rw [hA]; exact a6, by rw [hA]; exact a7⟩, ⟨b1, by rw [h185]; exact b2, b3, b4, by rw [h185]; exact b5, b6⟩, ?_, ?_⟩
  · rw [h186 _ b1 b3]; exact c1
  · rw [h186 _ b4 b6]; exact c2
def lfb : Pl := [(127, some 40)]
theorem HW_fr {l : Pl} {w w' : MW} (hF : FR l w w') (ho : off l [(127, some 11), (127, some 26), (170, none), (185, none), (186, none), (187, none)] = true) (h : HW w) : HW w' := by
  have hq : ∀ k j, hit [(127, some 11), (127, some 26), (170, none), (185, none), (186, none), (187, none)] k j = true → w'.1 k j = w.1 k j := fun k j hk => (hF k j (off_hit ho hk)).1
  refine ⟨fun k k0 k1 => ?_, fun k l k0 k1 l0 l1 kl => ?_⟩
  · rw [hq 127 26 rfl] at k1
    exact row_mv (hq 127 11 rfl) (fun j => hq 170 j rfl) (hq 185 _ rfl) (fun i _ _ => hq 186 _ rfl) (fun t _ _ => Or.inr (congrArg Int32.toInt (hq 187 _ rfl))) (h.1 k k0 k1)
  · rw [hq 127 26 rfl] at k1 l1
    unfold Fst
    rw [hq 186 _ rfl, hq 186 _ rfl]
    exact h.2 k l k0 k1 l0 l1 kl
theorem RP_fr {l : Pl} {w w' : MW} (hF : FR l w w') (ho : off l [(127, some 11), (163, none), (170, none), (171, none)] = true) (h : RP w) : RP w' := by
  have hq : ∀ k j, hit [(127, some 11), (163, none), (170, none), (171, none)] k j = true → w'.1 k j = w.1 k j := fun k j hk => (hF k j (off_hit ho hk)).1
  have h11 := hq 127 11 rfl
  have h170 : ∀ j, w'.1 170 j = w.1 170 j := fun j => hq 170 j rfl
  have h163 : ∀ j, w'.1 163 j = w.1 163 j := fun j => hq 163 j rfl
  have h171 : ∀ j, w'.1 171 j = w.1 171 j := fun j => hq 171 j rfl
  unfold RP P2 At Kd Po at *
  simp only [h11, h163, h170, h171]
  exact h
def BY (w : MW) (kb : Int) (i1 : Int) : Prop := ∀ k i : Int32, 0 ≤ k.toInt → 0 ≤ i.toInt → i.toInt < (w.1 185 k.toInt.toNat).toInt → (k.toInt < kb ∨ (k.toInt = kb ∧ i.toInt < i1)) → ¬ bz (w.2.1 127 40) ((w.1 186 (24 * k.toInt + i.toInt).toNat) / (2 : Int32))
theorem by_hb {w : MW} (hI : BND w) (hH : HW w) (hB : BY w (w.1 127 26).toInt 0) : HB w := by
  intro t t0 t1 hn
  have hb26 := bd_127_26 hI
  have : ∃ k : Int32, 0 ≤ k.toInt ∧ k.toInt < (w.1 127 26).toInt ∧ ¬ (w.1 187 (20 * k.toInt + t).toNat).toInt = -1 := by
    refine Classical.byContradiction (fun q => hn (fun k k0 k1 => Classical.byContradiction (fun q2 => q ⟨k, k0, k1, q2⟩)))
  obtain ⟨k, k0, k1, k2⟩ := this
  have et : (Int32.ofNat t.toNat).toInt = t := by
    rw [Int32.toInt_ofNat_of_lt (by omega)]
    omega
  obtain ⟨a, b, i, j, ⟨h1, h2, h3, h4, h5, h6, h7⟩, ⟨h8, h9, _, h10, h11, _⟩, h12, h13⟩ := (hH.1 k k0 k1).2 (Int32.ofNat t.toNat) (by omega) (by omega) (by rw [et]; exact k2)
  rw [et] at h6 h7
  refine ⟨a, b, h1, h2, h3, h4, h5, h6, h7, fun q => ?_, fun q => ?_⟩
  · have := fre_bz.mp q
    rw [h12] at this
    exact hB k i k0 h8 h9 (Or.inl k1) this
  · have := fre_bz.mp q
    rw [h13] at this
    exact hB k j k0 h10 h11 (Or.inl k1) this
def cP (w : MW) (P : Nat) (L : Int) : Int := sumTo (fun p => if (¬ (w.1 188 (2 * p)).toInt = -1 ∧ (w.1 188 (2 * p)).toInt ≤ L) ∨ (¬ (w.1 188 (2 * p + 1)).toInt = -1 ∧ (w.1 188 (2 * p + 1)).toInt ≤ L) then 1 else 0) P
theorem cp_nn {w : MW} {P : Nat} {L : Int} : 0 ≤ cP w P L := by
  unfold cP
  refine sum_nn P (fun j _ => ?_)
  show 0 ≤ (if (¬ (w.1 188 (2 * j)).toInt = -1 ∧ (w.1 188 (2 * j)).toInt ≤ L) ∨ (¬ (w.1 188 (2 * j + 1)).toInt = -1 ∧ (w.1 188 (2 * j + 1)).toInt ≤ L) then (1 : Int) else 0)
  split <;> omega
theorem cp_le {w : MW} {P : Nat} {L : Int} : cP w P L ≤ (P : Int) := by
  unfold cP
  refine sum_le1 P (fun j _ => ?_)
  show (if (¬ (w.1 188 (2 * j)).toInt = -1 ∧ (w.1 188 (2 * j)).toInt ≤ L) ∨ (¬ (w.1 188 (2 * j + 1)).toInt = -1 ∧ (w.1 188 (2 * j + 1)).toInt ≤ L) then (1 : Int) else 0) ≤ 1
  split <;> omega
theorem cp_step {w : MW} {P : Nat} {e : Int32} {L : Int} (he0 : 0 ≤ e.toInt) (he1 : e.toInt < 2 * (P : Int)) (hf : ¬ LF w e = -1) (hp : LF w (e ^^^ (1 : Int32)) = -1 ∨ LF w e ≤ LF w (e ^^^ (1 : Int32))) (hL : L < LF w e) : cP w P L + 1 ≤ cP w P (LF w e) := by
  have hx := x1_eq he0
  have key : (LF w e = (w.1 188 (2 * (e.toInt / 2).toNat)).toInt ∧ LF w (e ^^^ (1 : Int32)) = (w.1 188 (2 * (e.toInt / 2).toNat + 1)).toInt) ∨ (LF w e = (w.1 188 (2 * (e.toInt / 2).toNat + 1)).toInt ∧ LF w (e ^^^ (1 : Int32)) = (w.1 188 (2 * (e.toInt / 2).toNat)).toInt) := by
    unfold LF
    by_cases c : e.toInt % 2 = 0
    · left
      have q1 : e.toInt.toNat = 2 * (e.toInt / 2).toNat := by omega
      have q2 : (e ^^^ (1 : Int32)).toInt.toNat = 2 * (e.toInt / 2).toNat + 1 := by omega
      rw [q1, q2]
      exact ⟨rfl, rfl⟩
    · right
      have q1 : e.toInt.toNat = 2 * (e.toInt / 2).toNat + 1 := by omega
      have q2 : (e ^^^ (1 : Int32)).toInt.toNat = 2 * (e.toInt / 2).toNat := by omega
      rw [q1, q2]
      exact ⟨rfl, rfl⟩
  unfold cP
  refine sum_lt (i := (e.toInt / 2).toNat) ?_ P (by omega) (fun j _ => ?_)
  · show (if (¬ (w.1 188 (2 * (e.toInt / 2).toNat)).toInt = -1 ∧ (w.1 188 (2 * (e.toInt / 2).toNat)).toInt ≤ L) ∨ (¬ (w.1 188 (2 * (e.toInt / 2).toNat + 1)).toInt = -1 ∧ (w.1 188 (2 * (e.toInt / 2).toNat + 1)).toInt ≤ L) then (1 : Int) else 0) + 1 ≤ (if (¬ (w.1 188 (2 * (e.toInt / 2).toNat)).toInt = -1 ∧ (w.1 188 (2 * (e.toInt / 2).toNat)).toInt ≤ LF w e) ∨ (¬ (w.1 188 (2 * (e.toInt / 2).toNat + 1)).toInt = -1 ∧ (w.1 188 (2 * (e.toInt / 2).toNat + 1)).toInt ≤ LF w e) then (1 : Int) else 0)
    rw [if_neg (by omega), if_pos (by omega)]
    omega
  · show (if (¬ (w.1 188 (2 * j)).toInt = -1 ∧ (w.1 188 (2 * j)).toInt ≤ L) ∨ (¬ (w.1 188 (2 * j + 1)).toInt = -1 ∧ (w.1 188 (2 * j + 1)).toInt ≤ L) then (1 : Int) else 0) ≤ (if (¬ (w.1 188 (2 * j)).toInt = -1 ∧ (w.1 188 (2 * j)).toInt ≤ LF w e) ∨ (¬ (w.1 188 (2 * j + 1)).toInt = -1 ∧ (w.1 188 (2 * j + 1)).toInt ≤ LF w e) then (1 : Int) else 0)
    split
    · rw [if_pos (by omega)]; omega
    · split <;> omega
/-- no way turns back: z the world before measuring, m behind it -/
theorem pp_next {z m : MW} {t e g : Int32} (hz : BND z) (hR : RP z) (hH : HB z) (hS : SZ z) (hM : MX z t m) (hC : ∀ e g : Int32, 0 ≤ e.toInt → e.toInt < P2 z → 0 ≤ g.toInt → g.toInt < P2 z → CK z m e g) (hK : Kd z t.toInt = 0) (he0 : 0 ≤ e.toInt) (he1 : e.toInt < P2 z) (hf : ¬ LF m e = -1) (hp : LF m (e ^^^ (1 : Int32)) = -1 ∨ LF m e ≤ LF m (e ^^^ (1 : Int32))) (hg0 : 0 ≤ g.toInt) (hg1 : g.toInt < P2 z) (hl : LF m g = LF m e - Sz z e) (hgf : ¬ LF m g = -1) (hny : NY z (e ^^^ (1 : Int32)) g) : LF m (g ^^^ (1 : Int32)) = -1 ∨ LF m g ≤ LF m (g ^^^ (1 : Int32)) := by
  have hxe := x1_eq he0
  have hxg := x1_eq hg0
  have hP : P2 z = 2 * (z.1 127 11).toInt := rfl
  have hx0 : 0 ≤ (e ^^^ (1 : Int32)).toInt := by omega
  have hx1 : (e ^^^ (1 : Int32)).toInt < P2 z := by omega
  have hy0 : 0 ≤ (g ^^^ (1 : Int32)).toInt := by omega
  have hy1 : (g ^^^ (1 : Int32)).toInt < P2 z := by omega
  by_cases c1 : LF m (g ^^^ (1 : Int32)) = -1
  · exact Or.inl c1
  right
  apply Classical.byContradiction
  intro c2
  have hse := sz_bd hz hS he0 he1
  have hsg := sz_bd hz hS hy0 hy1
  obtain ⟨_, _, _, _, h5⟩ := (hM (g ^^^ (1 : Int32)) hy0 hy1).resolve_left c1
  rw [x1_x1 hg0] at h5
  have hat : At z g = At z (e ^^^ (1 : Int32)) := hny.2.1
  rcases h5 with h5 | ⟨h, a1, a2, a3, a4, a5⟩
  · apply hny.2.2.2.1
    rw [← hat, h5]
    exact hK
  · by_cases ch : h.toInt = (e ^^^ (1 : Int32)).toInt
    · have q : h = e ^^^ (1 : Int32) := Int32.toInt_inj.mp ch
      subst q
      rcases hp with hp | hp
      · exact a4 hp
      · omega
    · have hfe := ((hM e he0 he1).resolve_left hf).2.2.2.1
      have hfx : fre z (e ^^^ (1 : Int32)) := (fre_x1 he0).mpr hfe
      have hlt : At z (e ^^^ (1 : Int32)) < 20 := by
        have := bd_170 hz (e ^^^ (1 : Int32)).toInt.toNat
        unfold At
        omega
      have hno := nn_no hR hH hx0 hx1 hg0 hg1 a1 a2 hfx hlt hny a3 ch
      rcases hC e h he0 he1 a1 a2 with k | k | k | k
      · exact k hfe
      · exact a4 k
      · exact hno k
      · have := k.2
        clear hC hM hR hH hS
        omega
def BW (w : MW) : Prop := (∀ i : Int32, 0 ≤ i.toInt → i.toInt < (w.1 127 39).toInt → (0 ≤ (w.1 191 i.toInt.toNat).toInt ∧ (w.1 191 i.toInt.toNat).toInt < P2 w) ∧ ∀ k j : Int32, 0 ≤ k.toInt → k.toInt < (w.1 127 26).toInt → 0 ≤ j.toInt → j.toInt < (w.1 185 k.toInt.toNat).toInt → j.toInt < 24 → ¬ (w.1 191 i.toInt.toNat) / (2 : Int32) = (w.1 186 (24 * k.toInt + j.toInt).toNat) / (2 : Int32)) ∧ (∀ t : Int32, 0 ≤ t.toInt → t.toInt < 20 → ¬ (w.1 192 t.toInt.toNat).toInt = -1 → ∃ a b i j : Int32, (0 ≤ a.toInt ∧ a.toInt < P2 w ∧ 0 ≤ b.toInt ∧ b.toInt < P2 w ∧ ¬ a.toInt = b.toInt ∧ At w a = t.toInt ∧ At w b = t.toInt) ∧ (0 ≤ i.toInt ∧ i.toInt < (w.1 127 39).toInt ∧ 0 ≤ j.toInt ∧ j.toInt < (w.1 127 39).toInt) ∧ a / (2 : Int32) = (w.1 191 i.toInt.toNat) / (2 : Int32) ∧ b / (2 : Int32) = (w.1 191 j.toInt.toNat) / (2 : Int32))
def lfd : Pl := [(127, some 39), (191, none), (192, none)]
/-- an end whose pipe is on the way so far, e the end in hand -/
def OnP (w : MW) (e a : Int32) : Prop := (0 ≤ e.toInt ∧ a / (2 : Int32) = e / (2 : Int32)) ∨ ∃ i : Int32, 0 ≤ i.toInt ∧ i.toInt < (w.1 127 39).toInt ∧ a / (2 : Int32) = (w.1 191 i.toInt.toNat) / (2 : Int32)
def FS (z m : MW) (e : Int32) (w : MW) : Prop := BND w ∧ FR lfd m w ∧ (∀ i : Int32, 0 ≤ i.toInt → i.toInt < (w.1 127 39).toInt → 0 ≤ (w.1 191 i.toInt.toNat).toInt ∧ (w.1 191 i.toInt.toNat).toInt < P2 z ∧ fre z (w.1 191 i.toInt.toNat)) ∧ (∀ t : Int32, 0 ≤ t.toInt → t.toInt < 20 → ¬ (w.1 192 t.toInt.toNat).toInt = -1 → ∃ a b : Int32, (0 ≤ a.toInt ∧ a.toInt < P2 z ∧ 0 ≤ b.toInt ∧ b.toInt < P2 z ∧ ¬ a.toInt = b.toInt ∧ At z a = t.toInt ∧ At z b = t.toInt) ∧ OnP w e a ∧ OnP w e b)
def GD (z m : MW) (e : Int32) (w : MW) : Prop := 0 ≤ e.toInt ∧ e.toInt < P2 z ∧ ¬ LF m e = -1 ∧ (LF m (e ^^^ (1 : Int32)) = -1 ∨ LF m e ≤ LF m (e ^^^ (1 : Int32))) ∧ (w.1 127 39).toInt + cP m (z.1 127 11).toInt.toNat (LF m e) ≤ 24
/-! how many ways there can be -/
theorem pigeon (m : Nat) : ∀ (n : Nat) (f : Nat → Nat), (∀ i, i < n → f i < m) → (∀ i j, i < n → j < n → f i = f j → i = j) → n ≤ m := by
  induction m with
  | zero =>
    intro n f h _
    cases n with
    | zero => omega
    | succ n => have := h 0 (by omega); omega
  | succ m ih =>
    intro n f h hi
    by_cases c : ∃ i, i < n ∧ f i = m
    · obtain ⟨i0, h0, h1⟩ := c
      have := ih (n - 1) (fun i => if i < i0 then f i else f (i + 1)) (fun i hi' => ?_) (fun i j hi' hj' q => ?_)
      · omega
      · show (if i < i0 then f i else f (i + 1)) < m
        split
        · next c2 =>
          have h2 := h i (by omega)
          have h3 : f i ≠ m := fun q => by have := hi i i0 (by omega) h0 (by omega); omega
          omega
        · next c2 =>
          have h2 := h (i + 1) (by omega)
          have h3 : f (i + 1) ≠ m := fun q => by have := hi (i + 1) i0 (by omega) h0 (by omega); omega
          omega
      · have q : (if i < i0 then f i else f (i + 1)) = (if j < i0 then f j else f (j + 1)) := q
        split at q
        · next c2 =>
          split at q
          · exact hi i j (by omega) (by omega) q
          · have := hi i (j + 1) (by omega) (by omega) q; omega
        · next c2 =>
          split at q
          · have := hi (i + 1) j (by omega) (by omega) q; omega
          · have := hi (i + 1) (j + 1) (by omega) (by omega) q; omega
    · exact Nat.le_succ_of_le (ih n f (fun i hi' => by have := h i hi'; have : f i ≠ m := fun q => c ⟨i, hi', q⟩; omega) hi)
theorem ways_23 {w : MW} (hI : BND w) (hH : HW w) (hB : BW w) (h1 : 1 ≤ (w.1 127 39).toInt) : (w.1 127 26).toInt ≤ 23 := by
  have b26 := bd_127_26 hI
  have b0 := (hB.1 0 (by decide) (by rw [i_0]; omega)).1
  have bb := bd_191 hI (0 : Int32).toInt.toNat
  have d0 := nb_div (x := w.1 191 (0 : Int32).toInt.toNat) (y := 2) (c := 2) bb.1 (by decide) (by decide)
  have ofn : ∀ i : Nat, i < 24 → (Int32.ofNat i).toInt = (i : Int) := fun i hi => by rw [Int32.toInt_ofNat_of_lt (by omega)]
  have dk : ∀ k : Int32, 0 ≤ (Fst w k).toInt ∧ (Fst w k).toInt < 24 := by
    intro k
    have b := bd_186 hI (24 * k.toInt).toNat
    have := nb_div (x := w.1 186 (24 * k.toInt).toNat) (y := 2) (c := 2) b.1 (by decide) (by decide)
    unfold Fst
    omega
  have no : ∀ i : Nat, (i : Int) < (w.1 127 26).toInt → ¬ (Fst w (Int32.ofNat i)).toInt = ((w.1 191 (0 : Int32).toInt.toNat) / (2 : Int32)).toInt := by
    intro i hi q
    have ei := ofn i (by omega)
    have h2 := hB.1 0 (by decide) (by rw [i_0]; omega)
    have h3 := (hH.1 (Int32.ofNat i) (by omega) (by omega)).1
    refine h2.2 (Int32.ofNat i) 0 (by omega) (by omega) (by decide) (by rw [i_0]; omega) (by decide) ?_
    have e : (24 * (Int32.ofNat i).toInt + (0 : Int32).toInt) = 24 * (Int32.ofNat i).toInt := by rw [i_0]; omega
    rw [e]
    exact (Int32.toInt_inj.mp q).symm
  have := pigeon 24 ((w.1 127 26).toInt.toNat + 1) (fun i => if i < (w.1 127 26).toInt.toNat then (Fst w (Int32.ofNat i)).toInt.toNat else ((w.1 191 (0 : Int32).toInt.toNat) / (2 : Int32)).toInt.toNat) (fun i hi => ?_) (fun i j hi hj q => ?_)
  · omega
  · show (if i < (w.1 127 26).toInt.toNat then (Fst w (Int32.ofNat i)).toInt.toNat else ((w.1 191 (0 : Int32).toInt.toNat) / (2 : Int32)).toInt.toNat) < 24
    split
    · have := dk (Int32.ofNat i); omega
    · omega
  · have q : (if i < (w.1 127 26).toInt.toNat then (Fst w (Int32.ofNat i)).toInt.toNat else ((w.1 191 (0 : Int32).toInt.toNat) / (2 : Int32)).toInt.toNat) = (if j < (w.1 127 26).toInt.toNat then (Fst w (Int32.ofNat j)).toInt.toNat else ((w.1 191 (0 : Int32).toInt.toNat) / (2 : Int32)).toInt.toNat) := q
    split at q
    · next c1 =>
      split at q
      · next c2 =>
        apply Classical.byContradiction
        intro ne
        have ei := ofn i (by omega)
        have ej := ofn j (by omega)
        have d1 := dk (Int32.ofNat i)
        have d2 := dk (Int32.ofNat j)
        exact hH.2 (Int32.ofNat i) (Int32.ofNat j) (by omega) (by omega) (by omega) (by omega) (by omega) (Int32.toInt_inj.mp (by omega))
      · next c2 =>
        have d1 := dk (Int32.ofNat i)
        have := no i (by omega)
        omega
    · next c1 =>
      split at q
      · next c2 =>
        have d1 := dk (Int32.ofNat j)
        have := no j (by omega)
        omega
      · omega
