/-! the reference reads a word of a program -/
/-- the reference's text is f within n; f is -1 elsewhere -/
def TXm (w : MW) (f : Int → Int) (n : Int) : Prop := (w.1 129 1).toInt = n ∧ n ≤ 4000 ∧ (∀ p : Nat, (p : Int) < n → (w.1 130 p).toInt = f p) ∧ ∀ p : Int, ¬ (0 ≤ p ∧ p < n) → f p = -1
theorem txm_fr {l : Pl} {w w' : MW} {f : Int → Int} {n : Int} (h : TXm w f n) (hF : FR l w w') (ho : off l [(129, some 1), (130, none)] = true) : TXm w' f n :=
  ⟨by rw [(hF 129 1 (off_hit ho rfl)).1]; exact h.1, h.2.1, fun p hp => by rw [(hF 130 p (off_hit ho rfl)).1]; exact h.2.2.1 p hp, h.2.2.2⟩
def ag0 (y c : Int) : Prop := y = c ∨ (y = 0 ∧ c = -1)
theorem ta_x {w : MW} {f : Int → Int} {n p : Int} {P : Int32} {Q : Int32 → MW → Prop} (h : TXm w f n) (hP : P.toInt = p) (p0 : 0 ≤ p) (hQ : ∀ y : Int32, ag0 y.toInt (f p) → Q y w) : p_Tx_at w P Q := by
  have n4 := h.2.1
  have e1 := h.1
  refine Eq.mpr (p_Tx_at.eq_1 _ _ _) ⟨fun c => hQ 0 (Or.inr ⟨i_0, h.2.2.2 p (by omega)⟩), fun c => ⟨by omega, hQ _ (Or.inl ?_)⟩⟩
  have t := h.2.2.1 P.toInt.toNat (by omega)
  rw [show ((P.toInt.toNat : Nat) : Int) = p by omega] at t
  exact t
theorem ml_x {w : MW} {y : Int32} {c : Int} {Q : Int32 → MW → Prop} (a : ag0 y.toInt c) (h1 : lt1 c = true → Q 1 w) (h0 : lt1 c = false → Q 0 w) : p_Tx_isLetter w y Q := by
  have a' : y.toInt = c ∨ (y.toInt = 0 ∧ c = -1) := a
  exact Eq.mpr (p_Tx_isLetter.eq_1 _ _ _) ⟨fun d => h0 (lt1_f.mpr (by omega)), fun d => ⟨fun d2 => h0 (lt1_f.mpr (by omega)), fun d2 => h1 (lt1_t.mpr (by omega))⟩⟩
theorem md_x {w : MW} {y : Int32} {c : Int} {Q : Int32 → MW → Prop} (a : ag0 y.toInt c) (h1 : dg1 c = true → Q 1 w) (h0 : dg1 c = false → Q 0 w) : p_Tx_isDigit w y Q := by
  have a' : y.toInt = c ∨ (y.toInt = 0 ∧ c = -1) := a
  exact Eq.mpr (p_Tx_isDigit.eq_1 _ _ _) ⟨fun d => h0 (dg1_f.mpr (by omega)), fun d => ⟨fun d2 => h0 (dg1_f.mpr (by omega)), fun d2 => h1 (dg1_t.mpr (by omega))⟩⟩
/-- letters as bytes of a number, the first lowest -/
def pkl : List Int → Int
  | [] => 0
  | c :: l => c + 256 * pkl l
theorem pkl_0 : ∀ l : List Int, (∀ c ∈ l, 1 ≤ c ∧ c ≤ 127) → 0 ≤ pkl l := by
  intro l
  induction l with
  | nil => exact fun _ => Int.le_refl _
  | cons c l ih =>
    intro h
    have a := h c List.mem_cons_self
    have b := ih (fun d hd => h d (List.mem_cons_of_mem _ hd))
    show 0 ≤ c + 256 * pkl l
    omega
/-- the letters l stand from begin to end -/
def SgM (w : MW) (b : Nat) (l : List Int) : Prop := (w.1 129 5).toInt = (b : Int) ∧ (w.1 129 6).toInt = ((b + l.length : Nat) : Int) ∧ b + l.length ≤ 4000 ∧ ∀ (i : Nat) (c : Int), l[i]? = some c → (w.1 130 (b + i)).toInt = c
theorem isk_8 {w : MW} {b : Nat} {l : List Int} {Q : Int32 → MW → Prop} (hs : SgM w b l) (m : Nat) : ∀ (L : List Int) (j : Nat) (x : Int64), j ≤ l.length → x.toInt = pkl L → (∀ c ∈ L, 1 ≤ c ∧ c ≤ 127) → (l.drop j = L → Q 1 w) → (¬ l.drop j = L → Q 0 w) → L.length < m → q_Tx_is_8 (fun (e8_3_5 : Int32) (w5 : MW) => ((¬ e8_3_5.toInt = (w5.1 129 6).toInt → (Q 0 w5)) ∧ (¬ (¬ e8_3_5.toInt = (w5.1 129 6).toInt) → (Q 1 w5)))) Q m (nI (b + j)) x w := by
  induction m with
  | zero => intros; omega
  | succ m ih =>
    intro L j x hj hx hL h1 h0 hm
    have b4 := hs.2.2.1
    have e6 := hs.2.1
    have ti : (nI (b + j)).toInt = ((b + j : Nat) : Int) := nI_toInt (by omega)
    have tn : (nI (b + j)).toInt.toNat = b + j := by omega
    rw [q_Tx_is_8.eq_2, tn]
    cases L with
    | nil =>
      have x0 : x = 0 := Int64.toInt_inj.mp hx
      refine ⟨fun _ => ⟨fun z => h0 (fun e => ?_), fun z => h1 ?_⟩, fun z => absurd (lg0.mpr x0) z⟩
      · have el : l.length ≤ j := List.drop_eq_nil_iff.mp e
        omega
      · have z' := Classical.not_not.mp z
        exact List.drop_eq_nil_iff.mpr (by omega)
    | cons c L =>
      have c1 := hL c List.mem_cons_self
      have p0 := pkl_0 L (fun d hd => hL d (List.mem_cons_of_mem _ hd))
      have hx' : x.toInt = c + 256 * pkl L := hx
      have nz : ¬ (lg_cmp x (0 : Int64)).toInt = 0 := fun z => by
        have t := lg0.mp z
        rw [t] at hx'
        have : (0 : Int64).toInt = 0 := by decide
        omega
      refine ⟨fun z => absurd z nz, fun _ => ⟨fun z => h0 (fun e => ?_), fun z => ⟨by omega, ?_⟩⟩⟩
      · rw [List.drop_eq_nil_iff.mpr (by omega)] at e
        cases e
      · have jl : j < l.length := by omega
        have g := hs.2.2.2 j _ (List.getElem?_eq_getElem jl)
        have ed : l.drop j = l[j] :: l.drop (j + 1) := List.drop_eq_getElem_cons jl
        have em : (Int64.toInt32 (x &&& (255 : Int64))).toInt = c := by rw [nb_l255 x (by omega)]; omega
        have es : ((x.toUInt64 >>> ((8 : Int32).toInt64.toUInt64 &&& Int64.toUInt64 63)).toInt64).toInt = pkl L := by rw [nb_lushr8 x (by omega)]; omega
        rw [g, em]
        refine ⟨fun y => ?_, fun y => h0 (fun e => ?_)⟩
        · rw [nI_1]
          refine ih L (j + 1) _ (by omega) es (fun d hd => hL d (List.mem_cons_of_mem _ hd)) (fun e => h1 (by rw [ed, e, y])) (fun e => h0 (fun q => e ?_)) (by rw [List.length_cons] at hm; omega)
          rw [ed] at q
          injection q with _ q
        · rw [ed] at e
          injection e with e _
          exact y e
theorem ti_x {w : MW} {b : Nat} {l : List Int} {Q : Int32 → MW → Prop} (hs : SgM w b l) (K : Int64) (L : List Int) (hK : K.toInt = pkl L) (hL : ∀ c ∈ L, 1 ≤ c ∧ c ≤ 127) (hn : L.length < 100) (h1 : l = L → Q 1 w) (h0 : ¬ l = L → Q 0 w) : p_Tx_is w K Q := by
  have e5 : w.1 129 5 = nI (b + 0) := by
    have t := nI_tn (a := w.1 129 5) (by rw [hs.1]; omega)
    rw [hs.1] at t
    exact t.symm
  refine Eq.mpr (p_Tx_is.eq_1 _ _ _) ?_
  rw [e5]
  exact isk_8 hs FU L 0 K (Nat.zero_le _) hK hL (fun e => h1 e) (fun e => h0 e) (Nat.lt_of_lt_of_le hn (Nat.le_of_lt (fu_lt (by decide))))
def mfew (l : List Int) : Int := if l = [115, 101, 116] then 10 else if l = [119, 97, 105, 116] then 11 else if l = [117, 110, 116, 105, 108] then 12 else if l = [114, 97, 109, 112] then 13 else if l = [112, 97, 114] then 14 else if l = [105, 102] then 15 else if l = [114, 101, 112, 101, 97, 116] then 16 else if l = [108, 105, 109, 105, 116] then 17 else -1
def mmor (l : List Int) : Int := if l = [97, 115, 107] then 18 else if l = [100, 111] then 19 else if l = [115, 116, 111, 112] then 20 else if l = [104, 111, 108, 100] then 21 else if l = [97, 99, 116] then 22 else if l = [115, 116, 101, 112] then 24 else if l = [115, 105, 103, 110, 97, 108] then 30 else if l = [111, 117, 116, 112, 117, 116] then 31 else if l = [105, 110] then 32 else -1
def mres (l : List Int) : Int := if l = [101, 108, 115, 101] then 33 else if l = [116, 104, 101, 110] then 34 else if l = [108] then 40 else if l = [99] then 41 else if l = [115] then 42 else if l = [98, 97, 114] then 43 else if l = [112, 97, 114, 116] then 44 else if l = [109, 105, 110] then 45 else if l = [104] then 46 else -1
def mmn (l : List Int) : Int := if mfew l = -1 then (if mmor l = -1 then mres l else mmor l) else mfew l
/-- the reference's number of a word -/
def mng (k : Int) : Int := if k = 1 then 40 else if k = 2 then 41 else if k = 3 then 42 else if k = 4 then 43 else if k = 5 then 44 else if k = 6 then 45 else if k = 7 then 46 else if k = 8 then 30 else if k = 9 then 31 else if k = 10 then 24 else if k = 11 then 10 else if k = 12 then 11 else if k = 13 then 12 else if k = 14 then 13 else if k = 15 then 32 else if k = 16 then 14 else if k = 17 then 15 else if k = 18 then 33 else if k = 19 then 16 else if k = 20 then 17 else if k = 21 then 34 else if k = 22 then 18 else if k = 23 then 19 else if k = 24 then 20 else if k = 25 then 21 else if k = 26 then 22 else -1
theorem me_258 {w : MW} {b : Nat} {l : List Int} {x y : Int32} {Q : Int32 → MW → Prop} (hs : SgM w b l) (hQ : ∀ r : Int32, r.toInt = mres l → q_Tx_meaning_395 x y r w Q) : q_Tx_meaning_258 x y w Q :=
  Eq.mpr (q_Tx_meaning_258.eq_1 _ _ _ _) (ti_x hs 1702063205 [101, 108, 115, 101] (by decide) (by decide) (by decide) (fun e => ⟨fun z => absurd z i1n, fun _ => hQ 33 (by unfold mres; rw [if_pos e]; decide)⟩) (fun n0 => ⟨fun _ => ti_x hs 1852139636 [116, 104, 101, 110] (by decide) (by decide) (by decide) (fun e => ⟨fun z => absurd z i1n, fun _ => hQ 34 (by unfold mres; rw [if_neg n0, if_pos e]; decide)⟩) (fun n1 => ⟨fun _ => ti_x hs 108 [108] (by decide) (by decide) (by decide) (fun e => ⟨fun z => absurd z i1n, fun _ => hQ 40 (by unfold mres; rw [if_neg n0, if_neg n1, if_pos e]; decide)⟩) (fun n2 => ⟨fun _ => ti_x hs 99 [99] (by decide) (by decide) (by decide) (fun e => ⟨fun z => absurd z i1n, fun _ => hQ 41 (by unfold mres; rw [if_neg n0, if_neg n1, if_neg n2, if_pos e]; decide)⟩) (fun n3 => ⟨fun _ => ti_x hs 115 [115] (by decide) (by decide) (by decide) (fun e => ⟨fun z => absurd z i1n, fun _ => hQ 42 (by unfold mres; rw [if_neg n0, if_neg n1, if_neg n2, if_neg n3, if_pos e]; decide)⟩) (fun n4 => ⟨fun _ => ti_x hs 7496034 [98, 97, 114] (by decide) (by decide) (by decide) (fun e => ⟨fun z => absurd z i1n, fun _ => hQ 43 (by unfold mres; rw [if_neg n0, if_neg n1, if_neg n2, if_neg n3, if_neg n4, if_pos e]; decide)⟩) (fun n5 => ⟨fun _ => ti_x hs 1953653104 [112, 97, 114, 116] (by decide) (by decide) (by decide) (fun e => ⟨fun z => absurd z i1n, fun _ => hQ 44 (by unfold mres; rw [if_neg n0, if_neg n1, if_neg n2, if_neg n3, if_neg n4, if_neg n5, if_pos e]; decide)⟩) (fun n6 => ⟨fun _ => ti_x hs 7235949 [109, 105, 110] (by decide) (by decide) (by decide) (fun e => ⟨fun z => absurd z i1n, fun _ => hQ 45 (by unfold mres; rw [if_neg n0, if_neg n1, if_neg n2, if_neg n3, if_neg n4, if_neg n5, if_neg n6, if_pos e]; decide)⟩) (fun n7 => ⟨fun _ => ti_x hs 104 [104] (by decide) (by decide) (by decide) (fun e => ⟨fun z => absurd z i1n, fun _ => hQ 46 (by unfold mres; rw [if_neg n0, if_neg n1, if_neg n2, if_neg n3, if_neg n4, if_neg n5, if_neg n6, if_neg n7, if_pos e]; decide)⟩) (fun n8 => ⟨fun _ => hQ (-1) (by unfold mres; rw [if_neg n0, if_neg n1, if_neg n2, if_neg n3, if_neg n4, if_neg n5, if_neg n6, if_neg n7, if_neg n8]; decide), fun z => absurd i_0 z⟩), fun z => absurd i_0 z⟩), fun z => absurd i_0 z⟩), fun z => absurd i_0 z⟩), fun z => absurd i_0 z⟩), fun z => absurd i_0 z⟩), fun z => absurd i_0 z⟩), fun z => absurd i_0 z⟩), fun z => absurd i_0 z⟩))
theorem me_121 {w : MW} {b : Nat} {l : List Int} {x : Int32} {Q : Int32 → MW → Prop} (hs : SgM w b l) (hQ : ∀ r : Int32, r.toInt = mmor l → q_Tx_meaning_258 x r w Q) : q_Tx_meaning_121 x w Q :=
  Eq.mpr (q_Tx_meaning_121.eq_1 _ _ _) (ti_x hs 7041889 [97, 115, 107] (by decide) (by decide) (by decide) (fun e => ⟨fun z => absurd z i1n, fun _ => hQ 18 (by unfold mmor; rw [if_pos e]; decide)⟩) (fun n0 => ⟨fun _ => ti_x hs 28516 [100, 111] (by decide) (by decide) (by decide) (fun e => ⟨fun z => absurd z i1n, fun _ => hQ 19 (by unfold mmor; rw [if_neg n0, if_pos e]; decide)⟩) (fun n1 => ⟨fun _ => ti_x hs 1886352499 [115, 116, 111, 112] (by decide) (by decide) (by decide) (fun e => ⟨fun z => absurd z i1n, fun _ => hQ 20 (by unfold mmor; rw [if_neg n0, if_neg n1, if_pos e]; decide)⟩) (fun n2 => ⟨fun _ => ti_x hs 1684828008 [104, 111, 108, 100] (by decide) (by decide) (by decide) (fun e => ⟨fun z => absurd z i1n, fun _ => hQ 21 (by unfold mmor; rw [if_neg n0, if_neg n1, if_neg n2, if_pos e]; decide)⟩) (fun n3 => ⟨fun _ => ti_x hs 7627617 [97, 99, 116] (by decide) (by decide) (by decide) (fun e => ⟨fun z => absurd z i1n, fun _ => hQ 22 (by unfold mmor; rw [if_neg n0, if_neg n1, if_neg n2, if_neg n3, if_pos e]; decide)⟩) (fun n4 => ⟨fun _ => ti_x hs 1885697139 [115, 116, 101, 112] (by decide) (by decide) (by decide) (fun e => ⟨fun z => absurd z i1n, fun _ => hQ 24 (by unfold mmor; rw [if_neg n0, if_neg n1, if_neg n2, if_neg n3, if_neg n4, if_pos e]; decide)⟩) (fun n5 => ⟨fun _ => ti_x hs 119165719898483 [115, 105, 103, 110, 97, 108] (by decide) (by decide) (by decide) (fun e => ⟨fun z => absurd z i1n, fun _ => hQ 30 (by unfold mmor; rw [if_neg n0, if_neg n1, if_neg n2, if_neg n3, if_neg n4, if_neg n5, if_pos e]; decide)⟩) (fun n6 => ⟨fun _ => ti_x hs 128047746676079 [111, 117, 116, 112, 117, 116] (by decide) (by decide) (by decide) (fun e => ⟨fun z => absurd z i1n, fun _ => hQ 31 (by unfold mmor; rw [if_neg n0, if_neg n1, if_neg n2, if_neg n3, if_neg n4, if_neg n5, if_neg n6, if_pos e]; decide)⟩) (fun n7 => ⟨fun _ => ti_x hs 28265 [105, 110] (by decide) (by decide) (by decide) (fun e => ⟨fun z => absurd z i1n, fun _ => hQ 32 (by unfold mmor; rw [if_neg n0, if_neg n1, if_neg n2, if_neg n3, if_neg n4, if_neg n5, if_neg n6, if_neg n7, if_pos e]; decide)⟩) (fun n8 => ⟨fun _ => hQ (-1) (by unfold mmor; rw [if_neg n0, if_neg n1, if_neg n2, if_neg n3, if_neg n4, if_neg n5, if_neg n6, if_neg n7, if_neg n8]; decide), fun z => absurd i_0 z⟩), fun z => absurd i_0 z⟩), fun z => absurd i_0 z⟩), fun z => absurd i_0 z⟩), fun z => absurd i_0 z⟩), fun z => absurd i_0 z⟩), fun z => absurd i_0 z⟩), fun z => absurd i_0 z⟩), fun z => absurd i_0 z⟩))
theorem me_0 {w : MW} {b : Nat} {l : List Int} {Q : Int32 → MW → Prop} (hs : SgM w b l) (hQ : ∀ r : Int32, r.toInt = mfew l → q_Tx_meaning_121 r w Q) : p_Tx_meaning w Q :=
  Eq.mpr (p_Tx_meaning.eq_1 _ _) (ti_x hs 7628147 [115, 101, 116] (by decide) (by decide) (by decide) (fun e => ⟨fun z => absurd z i1n, fun _ => hQ 10 (by unfold mfew; rw [if_pos e]; decide)⟩) (fun n0 => ⟨fun _ => ti_x hs 1953063287 [119, 97, 105, 116] (by decide) (by decide) (by decide) (fun e => ⟨fun z => absurd z i1n, fun _ => hQ 11 (by unfold mfew; rw [if_neg n0, if_pos e]; decide)⟩) (fun n1 => ⟨fun _ => ti_x hs 465625706101 [117, 110, 116, 105, 108] (by decide) (by decide) (by decide) (fun e => ⟨fun z => absurd z i1n, fun _ => hQ 12 (by unfold mfew; rw [if_neg n0, if_neg n1, if_pos e]; decide)⟩) (fun n2 => ⟨fun _ => ti_x hs 1886216562 [114, 97, 109, 112] (by decide) (by decide) (by decide) (fun e => ⟨fun z => absurd z i1n, fun _ => hQ 13 (by unfold mfew; rw [if_neg n0, if_neg n1, if_neg n2, if_pos e]; decide)⟩) (fun n3 => ⟨fun _ => ti_x hs 7496048 [112, 97, 114] (by decide) (by decide) (by decide) (fun e => ⟨fun z => absurd z i1n, fun _ => hQ 14 (by unfold mfew; rw [if_neg n0, if_neg n1, if_neg n2, if_neg n3, if_pos e]; decide)⟩) (fun n4 => ⟨fun _ => ti_x hs 26217 [105, 102] (by decide) (by decide) (by decide) (fun e => ⟨fun z => absurd z i1n, fun _ => hQ 15 (by unfold mfew; rw [if_neg n0, if_neg n1, if_neg n2, if_neg n3, if_neg n4, if_pos e]; decide)⟩) (fun n5 => ⟨fun _ => ti_x hs 127961662514546 [114, 101, 112, 101, 97, 116] (by decide) (by decide) (by decide) (fun e => ⟨fun z => absurd z i1n, fun _ => hQ 16 (by unfold mfew; rw [if_neg n0, if_neg n1, if_neg n2, if_neg n3, if_neg n4, if_neg n5, if_pos e]; decide)⟩) (fun n6 => ⟨fun _ => ti_x hs 499984984428 [108, 105, 109, 105, 116] (by decide) (by decide) (by decide) (fun e => ⟨fun z => absurd z i1n, fun _ => hQ 17 (by unfold mfew; rw [if_neg n0, if_neg n1, if_neg n2, if_neg n3, if_neg n4, if_neg n5, if_neg n6, if_pos e]; decide)⟩) (fun n7 => ⟨fun _ => hQ (-1) (by unfold mfew; rw [if_neg n0, if_neg n1, if_neg n2, if_neg n3, if_neg n4, if_neg n5, if_neg n6, if_neg n7]; decide), fun z => absurd i_0 z⟩), fun z => absurd i_0 z⟩), fun z => absurd i_0 z⟩), fun z => absurd i_0 z⟩), fun z => absurd i_0 z⟩), fun z => absurd i_0 z⟩), fun z => absurd i_0 z⟩), fun z => absurd i_0 z⟩))
theorem mmn_k : ∀ l ∈ kwl, mmn l = mng (kwd l) := by decide
theorem mmn_n {l : List Int} (h : ¬ l ∈ kwl) : mmn l = mng (kwd l) := by
  have hk : ∀ (ks : List (List Int)) (i : Int), (∀ k ∈ ks, ¬ k = l) → kix l ks i = 30 := by
    intro ks
    induction ks with
    | nil => exact fun _ _ => rfl
    | cons k ks ih =>
      intro i hn
      rw [kix_u, if_neg (hn k List.mem_cons_self)]
      exact ih (i + 1) (fun d hd => hn d (List.mem_cons_of_mem _ hd))
  have e : kwd l = 30 := hk kwl 1 (fun k hk e => h (by rw [← e]; exact hk))
  have ne : ∀ k ∈ kwl, ¬ l = k := fun k hk e => h (by rw [e]; exact hk)
  have f1 : mfew l = -1 := by
    unfold mfew
    rw [if_neg (ne [115, 101, 116] (by decide)), if_neg (ne [119, 97, 105, 116] (by decide)), if_neg (ne [117, 110, 116, 105, 108] (by decide)), if_neg (ne [114, 97, 109, 112] (by decide)), if_neg (ne [112, 97, 114] (by decide)), if_neg (ne [105, 102] (by decide)), if_neg (ne [114, 101, 112, 101, 97, 116] (by decide)), if_neg (ne [108, 105, 109, 105, 116] (by decide))]
  have f2 : mmor l = -1 := by
    unfold mmor
    rw [if_neg (ne [97, 115, 107] (by decide)), if_neg (ne [100, 111] (by decide)), if_neg (ne [115, 116, 111, 112] (by decide)), if_neg (ne [104, 111, 108, 100] (by decide)), if_neg (ne [97, 99, 116] (by decide)), if_neg (ne [115, 116, 101, 112] (by decide)), if_neg (ne [115, 105, 103, 110, 97, 108] (by decide)), if_neg (ne [111, 117, 116, 112, 117, 116] (by decide)), if_neg (ne [105, 110] (by decide))]
  have f3 : mres l = -1 := by
    unfold mres
    rw [if_neg (ne [101, 108, 115, 101] (by decide)), if_neg (ne [116, 104, 101, 110] (by decide)), if_neg (ne [108] (by decide)), if_neg (ne [99] (by decide)), if_neg (ne [115] (by decide)), if_neg (ne [98, 97, 114] (by decide)), if_neg (ne [112, 97, 114, 116] (by decide)), if_neg (ne [109, 105, 110] (by decide)), if_neg (ne [104] (by decide))]
  rw [e]
  unfold mmn
  rw [if_pos f1, if_pos f2, f3]
  decide
theorem me_x {w : MW} {b : Nat} {l : List Int} {Q : Int32 → MW → Prop} (hs : SgM w b l) (hQ : ∀ r : Int32, r.toInt = mng (kwd l) → Q r w) : p_Tx_meaning w Q := by
  have em : mmn l = mng (kwd l) := by
    by_cases h : l ∈ kwl
    · exact mmn_k l h
    · exact mmn_n h
  have m1 : (-1 : Int32).toInt = -1 := by decide
  refine me_0 hs (fun r1 e1 => me_121 hs (fun r2 e2 => me_258 hs (fun r3 e3 => Eq.mpr (q_Tx_meaning_395.eq_1 _ _ _ _ _) ⟨fun a => ⟨fun b => hQ r3 ?_, fun b => hQ r2 ?_⟩, fun a => hQ r1 ?_⟩)))
  · rw [← em, e3]
    unfold mmn
    rw [if_pos (by omega), if_pos (by omega)]
  · rw [← em, e2]
    unfold mmn
    rw [if_pos (by omega), if_neg (by omega)]
  · rw [← em, e1]
    unfold mmn
    rw [if_neg (by omega)]
