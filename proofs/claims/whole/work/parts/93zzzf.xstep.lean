/-! the class's states while it reads sums: steps -/
theorem cf_o (w : MW) (p : Int) (h : ¬ (0 ≤ p ∧ p < (w.1 1 2).toInt)) : cf w p = -1 := if_neg h
theorem dgl_n {f : Int → Int} {n : Int} (hf : ∀ p : Int, ¬ (0 ≤ p ∧ p < n) → f p = -1) : ∀ (k : Nat) (p : Int), 0 ≤ p → p ≤ n → p + ((dgl f k p).length : Int) ≤ n := by
  intro k
  induction k with
  | zero => intro p _ h; show p + ((0 : Nat) : Int) ≤ n; omega
  | succ k ih =>
    intro p p0 pn
    rw [dgl_u]
    by_cases q : dg1 (f p) = true
    · rw [if_pos q, List.length_cons]
      have t := dg1_t.mp q
      have lt : p < n := by
        by_cases u : 0 ≤ p ∧ p < n
        · exact u.2
        · have := hf p u
          omega
      have := ih (p + 1) (by omega) (by omega)
      omega
    · rw [if_neg q]
      show p + ((0 : Nat) : Int) ≤ n
      omega
theorem dgn_n {f : Int → Int} {n q : Int} (hf : ∀ p : Int, ¬ (0 ≤ p ∧ p < n) → f p = -1) (q0 : 0 ≤ q) (qn : q ≤ n) : q ≤ dgn f q ∧ dgn f q ≤ n := by
  have a := dgl_n hf 9 q q0 qn
  have e : dge f q = q + ((dgl f 9 q).length : Int) := rfl
  unfold dgn
  by_cases c : dgp f q = true
  · rw [if_pos c]
    have d := (of_decide_eq_true c).1
    have lt : dge f q < n := by
      by_cases u : 0 ≤ dge f q ∧ dge f q < n
      · exact u.2
      · have := hf _ u
        omega
    have b := dgl_n hf 3 (dge f q + 1) (by omega) (by omega)
    omega
  · rw [if_neg c]
    omega
theorem wrq_n {f : Int → Int} {n q : Int} (hf : ∀ p : Int, ¬ (0 ≤ p ∧ p < n) → f p = -1) (q0 : 0 ≤ q) (qn : q ≤ n) : q ≤ (wrq f n q).2.2.1 ∧ (wrq f n q).2.2.1 ≤ n ∧ 0 ≤ (wrq f n q).2.1 ∧ (wrq f n q).2.1 ≤ n := by
  unfold wrq
  by_cases c : n ≤ q
  · rw [if_pos c]
    exact ⟨Int.le_refl _, qn, q0, qn⟩
  · rw [if_neg c]
    by_cases d : lt1 (f q) = true
    · rw [if_pos d]
      have a := lts_n hf 12 q q0 qn
      unfold wrL
      by_cases b : bd1 (f (q + ((lts f 12 q).length : Int))) = true
      · rw [if_pos b]
        refine ⟨?_, a, ?_, a⟩
        · show q ≤ q + ((lts f 12 q).length : Int)
          omega
        · show 0 ≤ q + ((lts f 12 q).length : Int)
          omega
      · rw [if_neg b]
        refine ⟨?_, a, q0, qn⟩
        show q ≤ q + ((lts f 12 q).length : Int)
        omega
    · rw [if_neg d]
      by_cases e : dg1 (f q) = true
      · rw [if_pos e]
        have a := dgn_n hf q0 qn
        unfold wrN
        by_cases b : bd1 (f (dgn f q)) = true
        · rw [if_pos b]
          refine ⟨a.1, a.2, ?_, a.2⟩
          show 0 ≤ dgn f q
          omega
        · rw [if_neg b]
          exact ⟨a.1, a.2, q0, qn⟩
      · rw [if_neg e]
        have lt : q + 1 ≤ n := by omega
        by_cases g : mk1 (f q) = true
        · rw [if_pos g]
          refine ⟨?_, lt, q0, qn⟩
          show q ≤ q + 1
          omega
        · rw [if_neg g]
          refine ⟨?_, lt, q0, qn⟩
          show q ≤ q + 1
          omega
theorem wrd_n {f : Int → Int} {n p : Int} (hf : ∀ p : Int, ¬ (0 ≤ p ∧ p < n) → f p = -1) (p0 : 0 ≤ p) (pn : p ≤ n) : p ≤ (wrd f n p).2.2.1 ∧ (wrd f n p).2.2.1 ≤ n ∧ 0 ≤ (wrd f n p).2.1 ∧ (wrd f n p).2.1 ≤ n := by
  have kb := skp_b f n 4001 p
  have t := wrq_n (q := skp f n 4001 p) hf (by omega) (kb.2 pn)
  have e : wrd f n p = wrq f n (skp f n 4001 p) := rfl
  rw [e]
  exact ⟨by omega, t.2.1, t.2.2.1, t.2.2.2⟩
/-- letters of a word of kind 30 at most -/
theorem wrd_l {f : Int → Int} {n p : Int} (h : (wrd f n p).1 ≤ 30) : (∀ c ∈ (wrd f n p).2.2.2.1, ldc c) ∧ (wrd f n p).2.2.2.1.length ≤ 12 := by
  have e : wrd f n p = wrq f n (skp f n 4001 p) := rfl
  rw [e] at h ⊢
  generalize skp f n 4001 p = q at *
  have a := lts_m f 12 q
  have nil : (∀ c ∈ ([] : List Int), ldc c) ∧ ([] : List Int).length ≤ 12 := ⟨fun c h => (by cases h), by decide⟩
  unfold wrq at h ⊢
  by_cases c : n ≤ q
  · rw [if_pos c]
    exact nil
  · rw [if_neg c] at h ⊢
    by_cases d : lt1 (f q) = true
    · rw [if_pos d]
      unfold wrL
      by_cases b : bd1 (f (q + ((lts f 12 q).length : Int))) = true
      · rw [if_pos b]
        exact ⟨a.2, a.1⟩
      · rw [if_neg b]
        exact ⟨a.2, a.1⟩
    · rw [if_neg d]
      by_cases e : dg1 (f q) = true
      · rw [if_pos e]
        unfold wrN
        by_cases b : bd1 (f (dgn f q)) = true
        · rw [if_pos b]
          exact nil
        · rw [if_neg b]
          exact nil
      · rw [if_neg e]
        by_cases g : mk1 (f q) = true
        · rw [if_pos g]
          exact nil
        · rw [if_neg g]
          exact nil
/-- what holds of the reader in all its states -/
def XB (w : MW) (f : Int → Int) (n : Int) (nm : List Nm) (op : Nat) : Prop := BND w ∧ w.2.2 87 0 = some 1 ∧ w.2.2 87 1 = some 108 ∧ KWc w ∧ cf w = f ∧ (w.1 1 2).toInt = n ∧ NmC w nm ∧ (w.1 87 8).toInt = (op : Int) ∧ (w.1 87 2).toInt ≤ n
/-- nothing is wrong yet: the word from p on is next -/
def XS (w : MW) (f : Int → Int) (n : Int) (nm : List Nm) (op : Nat) (p : Int) (ns : List Nod) : Prop := XB w f n nm op ∧ TkC w (wrd f n p) ∧ ¬ (wrd f n p).1 = 33 ∧ (w.1 87 9).toInt = -1 ∧ PNc w ns ∧ ns.length ≤ 300 ∧ 0 ≤ p ∧ p ≤ n
/-- it is wrong at e; at least N nodes were made -/
def XW (w : MW) (f : Int → Int) (n : Int) (nm : List Nm) (op : Nat) (e : Int) (N : Nat) : Prop := XB w f n nm op ∧ (w.1 87 9).toInt = e ∧ 0 ≤ e ∧ (N : Int) ≤ (w.1 108 1).toInt ∧ N ≤ 300
def lexp : Pl := [(87, some 2), (87, some 3), (87, some 4), (87, some 5), (87, some 6), (87, some 7), (87, some 8), (87, some 9), (88, none), (89, none), (108, some 1), (109, none), (110, none), (111, none), (112, none), (113, none), (114, none), (115, none)]
theorem nmc_fr {l : Pl} {w w' : MW} {nm : List Nm} (h : NmC w nm) (hF : FR l w w') (ho : off l [(108, some 10), (116, none), (117, none), (118, none), (119, none)] = true) : NmC w' nm := by
  refine ⟨by rw [(hF 108 10 (off_hit ho rfl)).1]; exact h.1, h.2.1, fun i x hx => ?_⟩
  have t := h.2.2 i x hx
  rw [(hF 116 i (off_hit ho rfl)).2.1, (hF 117 i (off_hit ho rfl)).1, (hF 118 i (off_hit ho rfl)).1, (hF 119 i (off_hit ho rfl)).1]
  exact t
/-- XB over a step that leaves tape, words, names and open alone -/
theorem xb_fr {l : Pl} {w w' : MW} {f : Int → Int} {n : Int} {nm : List Nm} {op : Nat} (h : XB w f n nm op) (hF : FR l w w') (hB : BND w') (h2 : (w'.1 87 2).toInt ≤ n) (ho : off l [(1, some 2), (2, none), (87, some 0), (87, some 1), (87, some 8), (90, none), (108, some 10), (116, none), (117, none), (118, none), (119, none)] = true) : XB w' f n nm op :=
  ⟨hB, ((hF 87 0 (off_hit ho rfl)).2.2).trans h.2.1, ((hF 87 1 (off_hit ho rfl)).2.2).trans h.2.2.1, fun i k hk => by rw [(hF 90 i (off_hit ho rfl)).2.1]; exact h.2.2.2.1 i k hk, (cf_fr hF (off_mono ho (by decide))).trans h.2.2.2.2.1, by rw [(hF 1 2 (off_hit ho rfl)).1]; exact h.2.2.2.2.2.1, nmc_fr h.2.2.2.2.2.2.1 hF (off_mono ho (by decide)), by rw [(hF 87 8 (off_hit ho rfl)).1]; exact h.2.2.2.2.2.2.2.1, h2⟩
theorem xb_f {w : MW} {f : Int → Int} {n : Int} {nm : List Nm} {op : Nat} (h : XB w f n nm op) : ∀ p : Int, ¬ (0 ≤ p ∧ p < n) → f p = -1 := fun p hp => by
  rw [← h.2.2.2.2.1]
  exact cf_o w p (by rw [h.2.2.2.2.2.1]; exact hp)
/-- the next word, nothing being wrong -/
theorem nx_g {w : MW} {f : Int → Int} {n : Int} {nm : List Nm} {op : Nat} {p : Int} {ns : List Nod} {Q : MW → Prop} (hB : XB w f n nm op) (hw : (w.1 87 9).toInt = -1) (hp : (w.1 87 2).toInt = p) (hN : PNc w ns) (n3 : ns.length ≤ 300) (h1 : ¬ (wrd f n p).1 = 33 → ∀ w', FR lpw w w' → XS w' f n nm op p ns → Q w') (h0 : (wrd f n p).1 = 33 → ∀ w', FR lpw w w' → XW w' f n nm op (wrd f n p).2.1 ns.length → Q w') : p_Rd_nextWord w Q := by
  have b2 := bd_87_2 hB.1
  have pn : p ≤ n := by have := hB.2.2.2.2.2.2.2.2; omega
  have hf := xb_f hB
  have wn := wrd_n (f := f) (n := n) (p := p) hf (by omega) pn
  refine pnw_x hB.1 hB.2.1 hB.2.2.2.1 hp (by rw [hB.2.2.2.2.2.1]; exact pn) (fun w' B' F' T' W' => ?_)
  rw [hB.2.2.2.2.1, hB.2.2.2.2.2.1] at T' W'
  have X' : XB w' f n nm op := xb_fr hB F' B' (by rw [T'.2.2.1]; exact wn.2.1) rfl
  unfold WrC at W'
  by_cases c : (wrd f n p).1 = 33
  · rw [if_pos ⟨c, by omega⟩] at W'
    exact h0 c w' F' ⟨X', W', wn.2.2.1, by rw [(F' 108 1 rfl).1, hN.1]; exact Int.le_refl _, n3⟩
  · rw [if_neg (fun z => c z.1)] at W'
    exact h1 c w' F' ⟨X', T', c, by rw [W']; exact hw, pnc_k hN (KNd.fr F' rfl) (F' 108 1 rfl).1, n3, by omega, pn⟩
/-- the next word where something is wrong -/
theorem nx_w {w : MW} {f : Int → Int} {n : Int} {nm : List Nm} {op N : Nat} {e : Int} {Q : MW → Prop} (h : XW w f n nm op e N) (hQ : ∀ w', FR lpw w w' → XW w' f n nm op e N → Q w') : p_Rd_nextWord w Q := by
  have hB := h.1
  have b2 := bd_87_2 hB.1
  have hf := xb_f hB
  have wn := wrd_n (f := f) (n := n) (p := (w.1 87 2).toInt) hf b2.1 hB.2.2.2.2.2.2.2.2
  refine pnw_x hB.1 hB.2.1 hB.2.2.2.1 rfl (by rw [hB.2.2.2.2.2.1]; exact hB.2.2.2.2.2.2.2.2) (fun w' B' F' T' W' => ?_)
  rw [hB.2.2.2.2.1, hB.2.2.2.2.2.1] at T' W'
  have X' : XB w' f n nm op := xb_fr hB F' B' (by rw [T'.2.2.1]; exact wn.2.1) rfl
  have e0 := h.2.2.1
  have ew := h.2.1
  unfold WrC at W'
  rw [if_neg (fun z => z.2 (by omega))] at W'
  exact hQ w' F' ⟨X', by rw [W']; exact ew, e0, by rw [(F' 108 1 rfl).1]; exact h.2.2.2.1, h.2.2.2.2⟩
theorem fl_w {w : MW} {f : Int → Int} {n : Int} {nm : List Nm} {op N : Nat} {e : Int} {Q : MW → Prop} (h : XW w f n nm op e N) (hQ : Q w) : p_Rd_fail w Q := by
  have e0 := h.2.2.1
  have ew := h.2.1
  exact Eq.mpr (p_Rd_fail.eq_1 _ _) ⟨fun _ => hQ, fun c => absurd (show 0 ≤ (w.1 87 9).toInt by omega) c⟩
/-- it is wrong at the word that is next -/
theorem fl_g {w : MW} {f : Int → Int} {n : Int} {nm : List Nm} {op : Nat} {p : Int} {ns : List Nod} {Q : MW → Prop} (h : XS w f n nm op p ns) (hQ : ∀ w', FR [(87, some 9)] w w' → XW w' f n nm op (wrd f n p).2.1 ns.length → Q w') : p_Rd_fail w Q := by
  have hw := h.2.2.2.1
  have F1 : FR [(87, some 9)] w (sI w 87 9 (w.1 87 4)) := FR.I (FR.refl _ w) rfl
  have wn := wrd_n (f := f) (n := n) (p := p) (xb_f h.1) h.2.2.2.2.2.2.1 h.2.2.2.2.2.2.2
  refine Eq.mpr (p_Rd_fail.eq_1 _ _) ⟨fun c => by omega, fun c => hQ _ F1 ⟨xb_fr h.1 F1 (wbd_87_9 h.1.1) (by rw [(F1 87 2 rfl).1]; exact h.1.2.2.2.2.2.2.2.2) rfl, by rw [sI_same]; exact h.2.1.2.1, wn.2.2.1, by rw [(F1 108 1 rfl).1, h.2.2.2.2.1.1]; exact Int.le_refl _, h.2.2.2.2.2.1⟩⟩
