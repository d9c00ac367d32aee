/-! the class reads statements: the pieces -/
/-! the class reads statements: links -/
/-- these nodes are linked, from h on -/
def CHc (w : MW) : List Nat → Int → Prop
  | [], h => h = -1
  | k :: r, h => h = (k : Int) ∧ CHc w r (w.1 114 k).toInt
theorem chc_k {w w' : MW} : ∀ (l : List Nat) (h : Int), CHc w l h → (∀ c ∈ l, w'.1 114 c = w.1 114 c) → CHc w' l h := by
  intro l
  induction l with
  | nil => exact fun h a _ => a
  | cons k r ih =>
    intro h a e
    refine ⟨a.1, ?_⟩
    rw [e k List.mem_cons_self]
    exact ih _ a.2 (fun c hc => e c (List.mem_cons_of_mem _ hc))
/-- one more behind the last -/
theorem chc_s {w w' : MW} {y r : Nat} : ∀ (l : List Nat) (h : Int), CHc w (l ++ [y]) h → (∀ c ∈ l, w'.1 114 c = w.1 114 c) → (w'.1 114 y).toInt = (r : Int) → (w'.1 114 r).toInt = -1 → CHc w' ((l ++ [y]) ++ [r]) h := by
  intro l
  induction l with
  | nil => exact fun h a _ e1 e2 => ⟨a.1, e1, e2⟩
  | cons k l ih =>
    intro h a e e1 e2
    refine ⟨a.1, ?_⟩
    rw [e k List.mem_cons_self]
    exact ih _ a.2 (fun c hc => e c (List.mem_cons_of_mem _ hc)) e1 e2
/-- what the range of a statement tells -/
def RGv (ns : List Nod) (i : Nat) (d : Nod) (fr to : Int) : Prop := (nxp d.1 = 0 ∧ ¬ fr < to) ∨ ∃ (e lo : Nat) (r : List Nat), d.2.2.2 = e :: r ∧ to = (e : Int) + 1 ∧ fr = (lo : Int) ∧ TX ns lo e 44 ∧ (d.1 = 14 → r = [i - 1] ∧ TX ns (e + 1) (i - 1) 44) ∧ ¬ nxp d.1 = 0
theorem rgv_m {ns ms : List Nod} {i : Nat} {d : Nod} {fr to : Int} (h : RGv ns i d fr to) (hp : PRE ns ms) : RGv ms i d fr to := by
  rcases h with h | ⟨e, lo, r, a, b, c, t, u, z⟩
  · exact Or.inl h
  · exact Or.inr ⟨e, lo, r, a, b, c, tx_m hp (Nat.le_refl _) t, fun q => ⟨(u q).1, tx_m hp (Nat.le_refl _) (u q).2⟩, z⟩
theorem rgv_1 {ns : List Nod} {i e lo : Nat} {k a b : Int} {l r : List Nat} {fr to : Int} (n1 : ¬ nxp k = 0) (n14 : ¬ k = 14) (hl : l = e :: r) (ht : to = (e : Int) + 1) (hf : fr = (lo : Int)) (T : TX ns lo e 44) : RGv ns i (k, a, b, l) fr to := Or.inr ⟨e, lo, r, hl, ht, hf, T, fun z => absurd z n14, n1⟩
/-- how a node is linked and what it reckons -/
def LkN (w : MW) (ns : List Nod) (i : Nat) (d : Nod) : Prop := (∀ c ∈ d.2.2.2, c < i) ∧ CHc w (d.2.2.2.drop (nxp d.1)) (w.1 113 i).toInt ∧ RGv ns i d (w.1 111 i).toInt (w.1 112 i).toInt
theorem mem_dr {n c : Nat} {l : List Nat} (h : c ∈ l.drop n) : c ∈ l := List.mem_of_mem_drop h
theorem lkn_k {w w' : MW} {ns ms : List Nod} {i : Nat} {d : Nod} (h : LkN w ns i d) (hp : PRE ns ms) (e1 : w'.1 111 i = w.1 111 i) (e2 : w'.1 112 i = w.1 112 i) (e3 : w'.1 113 i = w.1 113 i) (e4 : ∀ c ∈ d.2.2.2, w'.1 114 c = w.1 114 c) : LkN w' ms i d := by
  unfold LkN
  rw [e1, e2, e3]
  exact ⟨h.1, chc_k _ _ h.2.1 (fun c hc => e4 c (mem_dr hc)), rgv_m h.2.2 hp⟩
/-- nodes below N are as they were -/
def E6 (w w' : MW) (N : Nat) : Prop := ∀ i : Nat, i < N → w'.1 88 i = w.1 88 i ∧ w'.1 89 i = w.1 89 i ∧ w'.1 111 i = w.1 111 i ∧ w'.1 112 i = w.1 112 i ∧ w'.1 113 i = w.1 113 i ∧ w'.1 114 i = w.1 114 i
theorem e6_kn {w w' : MW} {N : Nat} (K : KNd N w w') : E6 w w' N := fun i hi => ⟨(K 88 i (Or.inl rfl) hi).1, (K 89 i (Or.inr (Or.inl rfl)) hi).1, (K 111 i (by unfold ndc; omega) hi).1, (K 112 i (by unfold ndc; omega) hi).1, (K 113 i (by unfold ndc; omega) hi).1, (K 114 i (by unfold ndc; omega) hi).1⟩
/-- what stands at 108 2, and the links below a node -/
abbrev OQ : Type := Int × Nat × (Nat → Int32)
def Fq (oq : OQ) (w : MW) (N : Nat) : Prop := (w.1 108 2).toInt = oq.1 ∧ oq.2.1 ≤ N ∧ ∀ i : Nat, i < oq.2.1 → w.1 114 i = oq.2.2 i
theorem fq_k {oq : OQ} {w w' : MW} {N M : Nat} (h : Fq oq w N) (e : w'.1 108 2 = w.1 108 2) (k : ∀ i : Nat, i < oq.2.1 → w'.1 114 i = w.1 114 i) (hM : N ≤ M) : Fq oq w' M := ⟨by rw [e]; exact h.1, by have := h.2.1; omega, fun i hi => (k i hi).trans (h.2.2 i hi)⟩
/-- how many statements and blocks a node makes, and how deep, as the class has it -/
def SzC (w : MW) (ns : List Nod) : Prop := ∀ (i : Nat) (d : Nod), ns[i]? = some d → ¬ own d.1 = 0 → (w.1 88 i).toInt = gC (csl ns []) i ∧ (w.1 89 i).toInt = gD (csl ns []) i ∧ LkN w ns i d
/-- the block of a step is a block -/
def DBk (lk : List Int → Int × Int × Int × Int) (ns : List Nod) : Prop := ∀ l : List Int, 0 ≤ (lk l).1 → (lk l).2.1 = 10 → ∃ d, ns[(lk l).2.2.2.toNat]? = some d ∧ d.1 = 35
/-- nothing is wrong; j statements are begun -/
def ZG (w : MW) (f : Int → Int) (n : Int) (oq : OQ) (nm : List Nm) (op j : Nat) (s : ZS) : Prop := XS w f n nm op s.1 s.2.1 ∧ ((w.1 108 0).toInt = s.2.2.1 + (j : Int) ∧ Fq oq w s.2.1.length) ∧ 0 ≤ s.2.2.1 ∧ s.2.2.1 ≤ (s.2.1.length : Int) ∧ SzC w s.2.1 ∧ NWf (lkn nm) s.2.1 ∧ LkB (lkn nm) s.2.1 ∧ DBk (lkn nm) s.2.1 ∧ KLt s
/-- it is wrong at e -/
def ZW (w : MW) (f : Int → Int) (n : Int) (nm : List Nm) (op : Nat) (e : Int) : Prop := XW w f n nm op e 0
def S0 (w w' : MW) : Prop := w'.1 108 0 = w.1 108 0 ∧ w'.1 108 2 = w.1 108 2
theorem s0_fr {l : Pl} {w w' : MW} (F : FR l w w') (ho : off l [(108, some 0), (108, some 2)] = true) : S0 w w' := ⟨(F 108 0 (off_hit ho rfl)).1, (F 108 2 (off_hit ho rfl)).1⟩
theorem szc_k {w w' : MW} {ns : List Nod} (h : SzC w ns) (e : E6 w w' ns.length) : SzC w' ns := fun i d hd ho => by
  have il := (List.getElem?_eq_some_iff.mp hd).1
  have t := e i il
  have k := h i d hd ho
  rw [t.1, t.2.1]
  exact ⟨k.1, k.2.1, lkn_k k.2.2 (PRE.refl _) t.2.2.1 t.2.2.2.1 t.2.2.2.2.1 (fun c hc => (e c (by have := k.2.2.1 c hc; omega)).2.2.2.2.2)⟩
theorem szc_pre {w w' : MW} {ns ms : List Nod} (h : SzC w ns) (e : E6 w w' ns.length) (hp : PRE ns ms) (ho : NOw ns ms) : SzC w' ms := fun i d hd hn => by
  by_cases q : i < ns.length
  · obtain ⟨t, et⟩ := id hp
    have hd' : ns[i]? = some d := by
      rw [et, List.getElem?_append_left q] at hd
      exact hd
    have g := gc_pre hp q
    have k := e i q
    have z := h i d hd' hn
    rw [g.1, g.2, k.1, k.2.1]
    exact ⟨z.1, z.2.1, lkn_k z.2.2 hp k.2.2.1 k.2.2.2.1 k.2.2.2.2.1 (fun c hc => (e c (by have := z.2.2.1 c hc; omega)).2.2.2.2.2)⟩
  · exact absurd (ho i d (by omega) hd) hn
/-- a link is given to a node that is no kid -/
theorem szc_n {w : MW} {ns : List Nod} {y : Nat} {v : Int32} (h : SzC w ns) (hn : ∀ (i : Nat) (d : Nod), ns[i]? = some d → ¬ own d.1 = 0 → ¬ y ∈ d.2.2.2) : SzC (sI w 114 y v) ns := fun i d hd ho => by
  have k := h i d hd ho
  rw [sI_oth _ _ _ _ _ _ (by decide), sI_oth _ _ _ _ _ _ (by decide)]
  exact ⟨k.1, k.2.1, lkn_k k.2.2 (PRE.refl _) (sI_oth _ _ _ _ _ _ (by decide)) (sI_oth _ _ _ _ _ _ (by decide)) (sI_oth _ _ _ _ _ _ (by decide)) (fun c hc => sI_ne _ _ _ _ _ (fun z => hn i d hd ho (by rw [← z]; exact hc)))⟩
theorem dbk_m {lk : List Int → Int × Int × Int × Int} {a b : List Nod} (h : DBk lk a) (hp : PRE a b) : DBk lk b := fun l h0 h1 => by
  obtain ⟨d, hd, e⟩ := h l h0 h1
  exact ⟨d, hp.get hd, e⟩
/-- a step that leaves nodes, sizes and the count alone -/
theorem zg_x {oq : OQ} {w w' : MW} {f : Int → Int} {n : Int} {nm : List Nm} {op op' j : Nat} {q : Int} {s : ZS} (h : ZG w f n oq nm op j s) (X' : XS w' f n nm op' q s.2.1) (e : E6 w w' s.2.1.length) (e0 : S0 w w') (A : Int × Int × Int) : ZG w' f n oq nm op' j (q, s.2.1, s.2.2.1, s.2.2.2.1, A) :=
  ⟨X', ⟨by rw [e0.1]; exact h.2.1.1, fq_k h.2.1.2 e0.2 (fun i hi => (e i (by have := h.2.1.2.2.1; omega)).2.2.2.2.2) (Nat.le_refl _)⟩, h.2.2.1, h.2.2.2.1, szc_k h.2.2.2.2.1 e, h.2.2.2.2.2⟩
theorem zw_of {w : MW} {f : Int → Int} {n : Int} {nm : List Nm} {op N : Nat} {e : Int} (h : XW w f n nm op e N) : ZW w f n nm op e := w_mono h (Nat.zero_le _)
theorem fr_89 {l : Pl} {w w' : MW} (F : FR l w w') (ho : off l [(88, none), (89, none), (111, none), (112, none), (113, none), (114, none)] = true) (N : Nat) : E6 w w' N := fun i _ => ⟨(F 88 i (off_hit ho rfl)).1, (F 89 i (off_hit ho rfl)).1, (F 111 i (off_hit ho rfl)).1, (F 112 i (off_hit ho rfl)).1, (F 113 i (off_hit ho rfl)).1, (F 114 i (off_hit ho rfl)).1⟩
/-- another frame -/
theorem zg_oq {oq oq' : OQ} {w : MW} {f : Int → Int} {n : Int} {nm : List Nm} {op j : Nat} {s : ZS} (h : ZG w f n oq nm op j s) (h' : Fq oq' w s.2.1.length) : ZG w f n oq' nm op j s := ⟨h.1, ⟨h.2.1.1, h'⟩, h.2.2⟩
/-- the frame of all that is read so far -/
def oqf (oq : OQ) (w : MW) (N : Nat) : OQ := (oq.1, N, fun i => w.1 114 i)
theorem zg_f {oq : OQ} {w : MW} {f : Int → Int} {n : Int} {nm : List Nm} {op j : Nat} {s : ZS} (h : ZG w f n oq nm op j s) : ZG w f n (oqf oq w s.2.1.length) nm op j s := zg_oq h ⟨h.2.1.2.1, Nat.le_refl _, fun _ _ => rfl⟩
theorem zg_b {oq : OQ} {w w' : MW} {f : Int → Int} {n : Int} {nm : List Nm} {op op' j j' : Nat} {s s' : ZS} (h : ZG w f n oq nm op j s) (h' : ZG w' f n (oqf oq w s.2.1.length) nm op' j' s') : ZG w' f n oq nm op' j' s' ∧ ∀ i : Nat, i < s.2.1.length → w'.1 114 i = w.1 114 i := by
  have t := h'.2.1.2
  have u := h.2.1.2
  refine ⟨zg_oq h' ⟨t.1, ?_, fun i hi => ?_⟩, t.2.2⟩
  · have a : s.2.1.length ≤ s'.2.1.length := t.2.1
    have b := u.2.1
    omega
  · have e : w'.1 114 i = w.1 114 i := t.2.2 i (by have := u.2.1; show i < s.2.1.length; omega)
    rw [e]
    exact u.2.2 i hi
/-- what a sum leaves: it costs nothing, it lies in one piece -/
def ZCx (L : Nat) (ns : List Nod) : Prop := ZC ns (ns.length - 1) ∧ TX ns L (ns.length - 1) 44 ∧ L < ns.length
/-- the word that stands here -/
theorem ct_go {oq : OQ} {w : MW} {f : Int → Int} {n : Int} {nm : List Nm} {op j : Nat} {c : Int} {s : ZS} {Q : MW → Prop} (h : ZG w f n oq nm op j s) (k : (wrd f n s.1).1 = c) (hb : ∀ (w' : MW) (r : ZR), ZI f n (lkn nm) op 0 c s r → r.1 = false → ZW w' f n nm op r.2.1 → Q w') (hg : ∀ (w' : MW) (s' : ZS), ZI f n (lkn nm) op 0 c s (zok s') → s' = ((wrd f n s.1).2.2.1, s.2) → FR lpw w w' → ZG w' f n oq nm op j s' → Q w') : p_Rd_nextWord w Q := by
  have X := h.1
  exact nx_g X.1 X.2.2.2.1 X.2.1.2.2.1 X.2.2.2.2.1 X.2.2.2.2.2.1 (fun ok w' F' X' => hg w' ((wrd f n s.1).2.2.1, s.2) (ZI_0 (by unfold ztk zgo; rw [if_pos k, if_neg ok])) rfl F' (zg_x h X' (fr_89 F' rfl _) (s0_fr F' rfl) s.2.2.2.2)) (fun bad w' F' X' => hb w' (zer (wrd f n (wrd f n s.1).2.2.1).2.1) (ZI_0 (by unfold ztk zgo; rw [if_pos k, if_pos bad])) rfl (zw_of X'))
/-- a word that must stand here -/
theorem ct_tk {oq : OQ} {w : MW} {f : Int → Int} {n : Int} {nm : List Nm} {op j : Nat} {c : Int} {s : ZS} {a : Int32} {Q : MW → Prop} (h : ZG w f n oq nm op j s) (ha : a.toInt = c) (hb : ∀ (w' : MW) (r : ZR), ZI f n (lkn nm) op 0 c s r → r.1 = false → ZW w' f n nm op r.2.1 → Q w') (hg : ∀ (w' : MW) (s' : ZS), ZI f n (lkn nm) op 0 c s (zok s') → s' = ((wrd f n s.1).2.2.1, s.2) → FR lpw w w' → ZG w' f n oq nm op j s' → Q w') : p_Rd_take w a Q := by
  have X := h.1
  have hw := X.2.2.2.1
  have c3 : (w.1 87 3).toInt = (wrd f n s.1).1 := X.2.1.1
  refine Eq.mpr (p_Rd_take.eq_1 _ _ _) ⟨fun z => absurd z (by omega), fun _ => ⟨fun e => ct_go h (by omega) hb hg, fun e => fl_g X (fun w' F' X' => hb w' (zer (wrd f n s.1).2.1) (ZI_0 (by unfold ztk; rw [if_neg (by omega)])) rfl (zw_of X'))⟩⟩
theorem cw_tk {w : MW} {f : Int → Int} {n : Int} {nm : List Nm} {op : Nat} {e : Int} {a : Int32} {Q : MW → Prop} (h : ZW w f n nm op e) (hQ : Q w) : p_Rd_take w a Q := by
  have e0 := h.2.2.1
  have ew := h.2.1
  exact Eq.mpr (p_Rd_take.eq_1 _ _ _) ⟨fun _ => fl_w h hQ, fun z => absurd (show 0 ≤ (w.1 87 9).toInt by omega) z⟩
theorem cw_de {w : MW} {f : Int → Int} {n : Int} {nm : List Nm} {op : Nat} {e : Int} {a b : Int32} {Q : MW → Prop} (h : ZW w f n nm op e) (hQ : Q w) : p_Rd_demand w a b Q :=
  Eq.mpr (p_Rd_demand.eq_1 _ _ _ _) ⟨fun _ => hQ, fun _ => fl_w h hQ⟩
/-- a name of a kind -/
theorem ct_nm {oq : OQ} {w : MW} {f : Int → Int} {n : Int} {nm : List Nm} {op j : Nat} {c : Int} {s : ZS} {a : Int32} {Q : Int32 → MW → Prop} (h : ZG w f n oq nm op j s) (ha : a.toInt = c) (hb : ∀ (w' : MW) (r : ZR), ZI f n (lkn nm) op 1 c s r → r.1 = false → ZW w' f n nm op r.2.1 → Q (-1) w') (hb2 : ∀ (w' : MW) (r : ZR) (i : Nat) (x : Nm), nm[i]? = some x → x.2.1 = c → lkn nm (wrd f n s.1).2.2.2.1 = ((i : Int), x.2.1, x.2.2.1, x.2.2.2) → ZI f n (lkn nm) op 1 c s r → r.1 = false → i < 40 → ZW w' f n nm op r.2.1 → Q (nI i) w') (hg : ∀ (w' : MW) (s' : ZS) (i : Nat) (x : Nm), nm[i]? = some x → ZI f n (lkn nm) op 1 c s (zok s') → s' = ((wrd f n s.1).2.2.1, s.2.1, s.2.2.1, s.2.2.2.1, (i : Int), x.2.2.1, x.2.2.2) → x.2.1 = c → lkn nm (wrd f n s.1).2.2.2.1 = ((i : Int), x.2.1, x.2.2.1, x.2.2.2) → ZG w' f n oq nm op j s' → Q (nI i) w') : p_Rd_takeName w a Q := by
  have X := h.1
  have hw := X.2.2.2.1
  have c3 : (w.1 87 3).toInt = (wrd f n s.1).1 := X.2.1.1
  have NM := X.1.2.2.2.2.2.2.1
  have bad : ¬ ((wrd f n s.1).1 = 30 ∧ 0 ≤ (lkn nm (wrd f n s.1).2.2.2.1).1 ∧ (lkn nm (wrd f n s.1).2.2.2.1).2.1 = c) → p_Rd_fail w (fun w3 => (Q (-1) w3)) := fun no => fl_g X (fun w' F' X' => hb w' (zer (wrd f n s.1).2.1) (ZI_1 (by unfold znm; rw [if_neg no])) rfl (zw_of X'))
  have neg : ¬ ((wrd f n s.1).1 = 30 ∧ 0 ≤ (lkn nm (wrd f n s.1).2.2.2.1).1 ∧ (lkn nm (wrd f n s.1).2.2.2.1).2.1 = c) → q_Rd_takeName_31 a (-1) w Q := fun no => Eq.mpr (q_Rd_takeName_31.eq_1 _ _ _ _) ⟨fun _ => bad no, fun z => absurd (show (-1 : Int32).toInt < 0 by decide) z⟩
  refine Eq.mpr (p_Rd_takeName.eq_1 _ _ _) ⟨fun z => absurd z (by omega), fun _ => ⟨fun n30 => neg (fun z => n30 (by omega)), fun y30 => ⟨X.1.2.2.1, ?_⟩⟩⟩
  have k30 : (wrd f n s.1).1 = 30 := by
    have := Classical.not_not.mp y30
    omega
  have wl := wrd_l (f := f) (n := n) (p := s.1) (by omega)
  refine fd_x NM (X.2.1.2.2.2.1 (by omega)) wl.1 wl.2 (fun z => neg (fun q => by have := q.2.1; omega)) (fun i x hx el => ?_)
  have n4 := NM.2.1
  have il : i < nm.length := (List.getElem?_eq_some_iff.mp hx).1
  have ti : (nI i).toInt = (i : Int) := nI_toInt (by omega)
  have tn : (nI i).toInt.toNat = i := by omega
  have t := NM.2.2 i x hx
  refine Eq.mpr (q_Rd_takeName_31.eq_1 _ _ _ _) ⟨fun z => absurd z (by omega), fun _ => ⟨X.1.2.2.1, ⟨by omega, by omega⟩, ?_⟩⟩
  rw [tn, t.2.1, ha]
  refine ⟨fun ec => ?_, fun ne => bad (fun z => ne ?_)⟩
  · have yes : (wrd f n s.1).1 = 30 ∧ 0 ≤ (lkn nm (wrd f n s.1).2.2.2.1).1 ∧ (lkn nm (wrd f n s.1).2.2.2.1).2.1 = c := ⟨k30, by rw [el]; show (0 : Int) ≤ (i : Int); omega, by rw [el]; exact ec⟩
    refine nx_g X.1 hw X.2.1.2.2.1 X.2.2.2.2.1 X.2.2.2.2.2.1 (fun ok w' F' X' => ?_) (fun bd w' F' X' => hb2 w' (zer (wrd f n (wrd f n s.1).2.2.1).2.1) i x hx ec el (ZI_1 (by unfold znm zgo; rw [if_pos yes, if_pos bd])) rfl (by omega) (zw_of X'))
    exact hg w' ((wrd f n s.1).2.2.1, s.2.1, s.2.2.1, s.2.2.2.1, (i : Int), x.2.2.1, x.2.2.2) i x hx (ZI_1 (by unfold znm zgo; rw [if_pos yes, if_neg ok, el])) rfl ec el (zg_x h X' (fr_89 F' rfl _) (s0_fr F' rfl) ((i : Int), x.2.2.1, x.2.2.2))
  · have z2 := z.2.2
    rw [el] at z2
    exact z2
theorem cw_nm {w : MW} {f : Int → Int} {n : Int} {nm : List Nm} {op : Nat} {e : Int} {a : Int32} {Q : Int32 → MW → Prop} (h : ZW w f n nm op e) (hQ : Q (-1) w) : p_Rd_takeName w a Q := by
  have e0 := h.2.2.1
  have ew := h.2.1
  exact Eq.mpr (p_Rd_takeName.eq_1 _ _ _) ⟨fun _ => Eq.mpr (q_Rd_takeName_31.eq_1 _ _ _ _) ⟨fun _ => fl_w h hQ, fun z => absurd (show (-1 : Int32).toInt < 0 by decide) z⟩, fun z => absurd (show 0 ≤ (w.1 87 9).toInt by omega) z⟩
/-- a sum (m = 1) or a test (m = 0) -/
theorem ct_lev {oq : OQ} {w : MW} {f : Int → Int} {n : Int} {nm : List Nm} {op j m : Nat} {s : ZS} {a : Int32} {Q : Int32 → MW → Prop} (h : ZG w f n oq nm op j s) (ho : op ≤ 20) (ha : a = nI m) (hm : m ≤ 1) (hb : ∀ (y : Int32) (w' : MW) (x : XR), (∃ k, XP f n (lkn nm) k m op 0 s.1 s.2.1 x) → x.1 = false → ZW w' f n nm op x.2.1 → Q y w') (hg : ∀ (y : Int32) (w' : MW) (x : XR), (∃ k, XP f n (lkn nm) k m op 0 s.1 s.2.1 x) → x.1 = true → y.toInt = x.2.2.1 → 0 ≤ x.2.2.1 → FR lexp w w' → ZG w' f n oq nm op j (x.2.2.2.1, x.2.2.2.2, s.2.2.1, s.2.2.2.1 ++ [x.2.2.2.2.length - 1], s.2.2.2.2) → ZCx s.2.1.length x.2.2.2.2 → Q y w') : p_Rd_readLevel w a Q := by
  rw [ha]
  refine (exp_c f n nm 400).2 m op s.1 s.2.1 w Q (by omega) ho (by omega) h.1 (fun y w' x hx o => ?_)
  obtain ⟨K, F, o⟩ := o
  obtain ⟨k, hx'⟩ := id hx
  rcases o with ⟨g, X', ey, e0, pp, nn⟩ | ⟨g, X'⟩
  · have wf := XP_wf f n (lkn nm) k m op 0 s.1 s.2.1 x (by omega) hx' g h.2.2.2.2.2.1 (by omega)
    have ow := XP_own f n (lkn nm) k m op 0 s.1 s.2.1 x (by omega) hx' g
    have zc := XP_z f n (lkn nm) k m op 0 s.1 s.2.1 x (by omega) hx' g h.2.2.2.2.2.1 (by omega)
    refine hg y w' x hx g ey e0 F ⟨X', ⟨by rw [(F 108 0 rfl).1]; exact h.2.1.1, fq_k h.2.1.2 (F 108 2 rfl).1 (fun i hi => (e6_kn K i (by have := h.2.1.2.2.1; omega)).2.2.2.2.2) wf.2.1.len⟩, h.2.2.1, by have := h.2.2.2.1; show s.2.2.1 ≤ (x.2.2.2.2.length : Int); omega, szc_pre h.2.2.2.2.1 (e6_kn K) ow.2 ow.1, wf.1, lkb_m h.2.2.2.2.2.2.1 wf.2.1.len, dbk_m h.2.2.2.2.2.2.2.1 wf.2.1, fun c hc => ?_⟩ ⟨zc, xp_tx hm hx' g h.2.2.2.2.2.1, wf.2.2 (by omega)⟩
    have hc' : c ∈ s.2.2.2.1 ++ [x.2.2.2.2.length - 1] := hc
    show c < x.2.2.2.2.length
    rcases List.mem_append.mp hc' with q | q
    · have := h.2.2.2.2.2.2.2.2 c q
      omega
    · rw [List.mem_singleton.mp q]
      omega
  · exact hb y w' x hx g (zw_of X')
theorem cw_lev {w : MW} {f : Int → Int} {n : Int} {nm : List Nm} {op m : Nat} {e : Int} {a : Int32} {Q : Int32 → MW → Prop} (h : ZW w f n nm op e) (ha : a = nI m) (hm : m ≤ 1) (hQ : ∀ y : Int32, Q y w) : p_Rd_readLevel w a Q := by
  rw [ha]
  have t := w_lev h (2 - m) m (398 - (2 - m)) Q (by omega) hQ
  rw [show 398 - (2 - m) + (2 - m) + 2 = 400 by omega] at t
  exact t
/-- a sum of a unit -/
theorem ct_sum {oq : OQ} {w : MW} {f : Int → Int} {n : Int} {nm : List Nm} {op j : Nat} {c : Int} {s : ZS} {a b : Int32} {Q : MW → Prop} (h : ZG w f n oq nm op j s) (ho : op ≤ 20) (ha : a = nI 1) (hc : b.toInt = (if c < 0 then s.2.2.2.2.2.1 else c)) (hb : ∀ (w' : MW) (r : ZR), ZI f n (lkn nm) op 2 c s r → r.1 = false → ZW w' f n nm op r.2.1 → Q w') (hg : ∀ (w' : MW) (s' : ZS), ZI f n (lkn nm) op 2 c s (zok s') → s'.2.2.2.2 = s.2.2.2.2 → s'.2.2.2.1 = s.2.2.2.1 ++ [s'.2.1.length - 1] → ZCx s.2.1.length s'.2.1 → FR lexp w w' → ZG w' f n oq nm op j s' → Q w') : p_Rd_readLevel w a (fun r8 w8 => (p_Rd_demand w8 r8 b (fun w9 => Q w9))) := by
  refine ct_lev (m := 1) h ho ha (by decide) (fun y w' x hx g W => cw_de W (hb w' (zer x.2.1) (ZI_2 ⟨x, hx, by rw [if_neg (by rw [g]; decide)]⟩) rfl W)) (fun y w' x hx g ey e0 F Z zc => ?_)
  refine Eq.mpr (p_Rd_demand.eq_1 _ _ _ _) ⟨fun eq => ?_, fun ne => fl_g Z.1 (fun w2 F2 X2 => hb w2 (zer (wrd f n x.2.2.2.1).2.1) (ZI_2 ⟨x, hx, ?_⟩) rfl (zw_of X2))⟩
  · refine hg w' (x.2.2.2.1, x.2.2.2.2, s.2.2.1, s.2.2.2.1 ++ [x.2.2.2.2.length - 1], s.2.2.2.2) (ZI_2 ⟨x, hx, ?_⟩) rfl rfl zc F Z
    rw [if_pos g, if_pos (by rw [← hc, ← eq, ey])]
  · rw [if_pos g, if_neg (fun q => ne (by rw [ey, q, hc]))]
theorem cw_sum {w : MW} {f : Int → Int} {n : Int} {nm : List Nm} {op : Nat} {e : Int} {a b : Int32} {Q : MW → Prop} (h : ZW w f n nm op e) (ha : a = nI 1) (hQ : Q w) : p_Rd_readLevel w a (fun r8 w8 => (p_Rd_demand w8 r8 b (fun w9 => Q w9))) :=
  cw_lev (m := 1) h ha (by decide) (fun y => cw_de h hQ)
/-- a test -/
theorem ct_tst {oq : OQ} {w : MW} {f : Int → Int} {n : Int} {nm : List Nm} {op j : Nat} {s : ZS} {a : Int32} {Q : MW → Prop} (h : ZG w f n oq nm op j s) (ho : op ≤ 20) (ha : a = nI 0) (hb : ∀ (w' : MW) (r : ZR), ZI f n (lkn nm) op 3 0 s r → r.1 = false → ZW w' f n nm op r.2.1 → Q w') (hg : ∀ (w' : MW) (s' : ZS), ZI f n (lkn nm) op 3 0 s (zok s') → s'.2.2.2.2 = s.2.2.2.2 → s'.2.2.2.1 = s.2.2.2.1 ++ [s'.2.1.length - 1] → ZCx s.2.1.length s'.2.1 → FR lexp w w' → ZG w' f n oq nm op j s' → Q w') : p_Rd_readLevel w a (fun r3 w3 => Q w3) := by
  refine ct_lev (m := 0) h ho ha (by decide) (fun y w' x hx g W => hb w' (zer x.2.1) (ZI_3 ⟨x, hx, by rw [if_neg (by rw [g]; decide)]⟩) rfl W) (fun y w' x hx g ey e0 F Z zc => hg w' (x.2.2.2.1, x.2.2.2.2, s.2.2.1, s.2.2.2.1 ++ [x.2.2.2.2.length - 1], s.2.2.2.2) (ZI_3 ⟨x, hx, by rw [if_pos g]⟩) rfl rfl zc F Z)
