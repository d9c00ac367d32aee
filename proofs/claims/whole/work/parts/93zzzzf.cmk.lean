/-! the class reads statements: making their nodes -/
def lsto : Pl := [(88, none), (89, none), (111, none), (112, none), (113, none), (114, none)]
/-- stores of ranges, links and sizes -/
theorem xs_st {l : Pl} {w w' : MW} {f : Int → Int} {n : Int} {nm : List Nm} {op : Nat} {p : Int} {ns : List Nod} (h : XS w f n nm op p ns) (F : FR l w w') (B' : BND w') (hl : sub l lsto = true) : XS w' f n nm op p ns := by
  have F : FR lsto w w' := (FR.refl lsto w).tr F hl
  refine ⟨xb_fr h.1 F B' (by rw [(F 87 2 rfl).1]; exact h.1.2.2.2.2.2.2.2.2) rfl, tkc_fr h.2.1 F rfl, h.2.2.1, by rw [(F 87 9 rfl).1]; exact h.2.2.2.1, ⟨by rw [(F 108 1 rfl).1]; exact h.2.2.2.2.1.1, fun i d hd => ?_⟩, h.2.2.2.2.2⟩
  have t := h.2.2.2.2.1.2 i d hd
  rw [(F 109 i rfl).1, (F 110 i rfl).1, (F 115 i rfl).2.1]
  exact t
theorem zw_st {l : Pl} {w w' : MW} {f : Int → Int} {n : Int} {nm : List Nm} {op : Nat} {e : Int} (h : ZW w f n nm op e) (F : FR l w w') (B' : BND w') (hl : sub l lsto = true) : ZW w' f n nm op e := by
  have F : FR lsto w w' := (FR.refl lsto w).tr F hl
  exact ⟨xb_fr h.1 F B' (by rw [(F 87 2 rfl).1]; exact h.1.2.2.2.2.2.2.2.2) rfl, by rw [(F 87 9 rfl).1]; exact h.2.1, h.2.2.1, by rw [(F 108 1 rfl).1]; exact h.2.2.2.1, h.2.2.2.2⟩
/-- what making the node d behind the state t leaves -/
def MKo (w w' : MW) (f : Int → Int) (n : Int) (nm : List Nm) (op : Nat) (t : ZS) (d : Nod) (y : Int32) : Prop := (t.2.1.length = 300 ∧ ZW w' f n nm op (wrd f n t.1).2.1 ∧ 0 ≤ y.toInt ∧ y.toInt < 301) ∨ (¬ t.2.1.length = 300 ∧ y.toInt = (t.2.1.length : Int) ∧ XS w' f n nm op t.1 (t.2.1 ++ [d]) ∧ (SzC w' t.2.1 ∧ ∀ oq : OQ, Fq oq w t.2.1.length → (∀ c ∈ d.2.2.2, oq.2.1 ≤ c) → Fq oq w' t.2.1.length) ∧ S0 w w' ∧ (w'.1 88 t.2.1.length).toInt = (cs1 (csl t.2.1 []) d).1 ∧ (w'.1 89 t.2.1.length).toInt = (cs1 (csl t.2.1 []) d).2 ∧ LkN w' (t.2.1 ++ [d]) t.2.1.length d ∧ (w'.1 114 t.2.1.length).toInt = -1)
/-- nodes below kept, frames kept -/
theorem mko_f {w w' : MW} {ns : List Nod} {d : Nod} (h : SzC w ns) (e : E6 w w' ns.length) (e0 : S0 w w') : SzC w' ns ∧ ∀ oq : OQ, Fq oq w ns.length → (∀ c ∈ d.2.2.2, oq.2.1 ≤ c) → Fq oq w' ns.length := ⟨szc_k h e, fun oq q _ => fq_k q e0.2 (fun i hi => (e i (by have := q.2.1; omega)).2.2.2.2.2) (Nat.le_refl _)⟩
theorem cm_mk {oq : OQ} {w : MW} {f : Int → Int} {n : Int} {nm : List Nm} {op j : Nat} {t : ZS} {a b : Int32} {d : Nod} {Q : Int32 → MW → Prop} (h : ZG w f n oq nm op j t) (ha : a.toInt = d.1) (hb : b.toInt = d.2.1) (hd : ¬ d.1 = 31) (h0 : t.2.1.length = 300 → ∀ w', ZW w' f n nm op (wrd f n t.1).2.1 → Q (nI 300) w') (h1 : ¬ t.2.1.length = 300 → ∀ w', XS w' f n nm op t.1 (t.2.1 ++ [d]) → E6 w w' t.2.1.length → S0 w w' → (w'.1 88 t.2.1.length).toInt = 1 → (w'.1 89 t.2.1.length).toInt = 0 → ((w'.1 111 t.2.1.length).toInt = (t.2.1.length : Int) ∧ (w'.1 112 t.2.1.length).toInt = (t.2.1.length : Int) ∧ (w'.1 113 t.2.1.length).toInt = -1 ∧ (w'.1 114 t.2.1.length).toInt = -1) → Q (nI t.2.1.length) w') : p_Rd_makeNode w a b Q := by
  refine mk_g (d := d) h.1 ha hb hd (fun n3 w' F' K' X' v1 v2 v3 v4 e88 e89 => h1 n3 w' X' (e6_kn K') (s0_fr F' rfl) e88 e89 ⟨v1, v2, v3, v4⟩) (fun n3 w' F' K' X' => ?_)
  have t := h0 n3 w' (zw_of X')
  rw [n3]
  exact t
theorem cw_mk {w : MW} {f : Int → Int} {n : Int} {nm : List Nm} {op : Nat} {e : Int} {a b : Int32} {Q : Int32 → MW → Prop} (h : ZW w f n nm op e) (hQ : ∀ (r : Int32) (w' : MW), 0 ≤ r.toInt → r.toInt < 301 → ZW w' f n nm op e → Q r w') : p_Rd_makeNode w a b Q :=
  mk_w h (fun r w' _ _ r0 r1 _ X' => hQ r w' r0 r1 X')
theorem cw_gr {w : MW} {f : Int → Int} {n : Int} {nm : List Nm} {op : Nat} {e : Int} {a b c : Int32} {Q : Int32 → MW → Prop} (h : ZW w f n nm op e) (a0 : 0 ≤ a.toInt) (a1 : a.toInt < 301) (b0 : 0 ≤ b.toInt ∧ b.toInt ≤ 301) (c0 : 0 ≤ c.toInt ∧ c.toInt ≤ 301) (hQ : ∀ w', ZW w' f n nm op e → Q a w') : p_Rd_giveRange w a b c Q := by
  have F : FR [(111, none), (112, none)] w (sI (sI w 111 a.toInt.toNat b) 112 a.toInt.toNat c) := FR.I (FR.I (FR.refl _ w) rfl) rfl
  have hB : BND (sI (sI w 111 a.toInt.toNat b) 112 a.toInt.toNat c) := wbd_112 (wbd_111 h.1.1 _ b0.1 b0.2) _ c0.1 c0.2
  exact Eq.mpr (p_Rd_giveRange.eq_1 _ _ _ _ _) ⟨h.1.2.2.1, ⟨a0, a1⟩, h.1.2.2.1, ⟨a0, a1⟩, hQ _ (zw_st h F hB rfl)⟩
/-- a node with a range, of size 1 -/
theorem cm_gr {oq : OQ} {w : MW} {f : Int → Int} {n : Int} {nm : List Nm} {op j : Nat} {t : ZS} {a b fr to : Int32} {d : Nod} {Q : Int32 → MW → Prop} (h : ZG w f n oq nm op j t) (ha : a.toInt = d.1) (hb : b.toInt = d.2.1) (hd : ¬ d.1 = 31) (hc : cs1 (csl t.2.1 []) d = (1, 0)) (hl : d.2.2.2.drop (nxp d.1) = []) (hkk : ∀ c ∈ d.2.2.2, c < t.2.1.length) (hrg : RGv t.2.1 t.2.1.length d fr.toInt to.toInt) (f0 : 0 ≤ fr.toInt ∧ fr.toInt ≤ 301) (t0 : 0 ≤ to.toInt ∧ to.toInt ≤ 301) (hQ : ∀ (y : Int32) (w' : MW), MKo w w' f n nm op t d y → Q y w') : p_Rd_makeNode w a b (fun r6 w6 => (p_Rd_giveRange w6 r6 fr to (fun r7 w7 => (Q r7 w7)))) := by
  have l3 := h.1.2.2.2.2.2.1
  refine cm_mk h ha hb hd (fun n3 w' W' => cw_gr W' (by decide) (by decide) f0 t0 (fun w2 W2 => hQ _ w2 (Or.inl ⟨n3, W2, by decide, by decide⟩))) (fun n3 w' X' e8 e0 e88 e89 ev => ?_)
  have tn : (nI t.2.1.length).toInt = (t.2.1.length : Int) := nI_toInt (by omega)
  have tt : (nI t.2.1.length).toInt.toNat = t.2.1.length := by omega
  have F : FR [(111, none), (112, none)] w' (sI (sI w' 111 (nI t.2.1.length).toInt.toNat fr) 112 (nI t.2.1.length).toInt.toNat to) := FR.I (FR.I (FR.refl _ w') rfl) rfl
  have hB : BND (sI (sI w' 111 (nI t.2.1.length).toInt.toNat fr) 112 (nI t.2.1.length).toInt.toNat to) := wbd_112 (wbd_111 X'.1.1 _ f0.1 f0.2) _ t0.1 t0.2
  rw [tt] at F hB
  refine Eq.mpr (p_Rd_giveRange.eq_1 _ _ _ _ _) ⟨X'.1.2.2.1, ⟨by omega, by omega⟩, X'.1.2.2.1, ⟨by omega, by omega⟩, ?_⟩
  rw [tt]
  have S1 : S0 w (sI (sI w' 111 t.2.1.length fr) 112 t.2.1.length to) := ⟨(F 108 0 rfl).1.trans e0.1, (F 108 2 rfl).1.trans e0.2⟩
  have e9 : E6 w (sI (sI w' 111 t.2.1.length fr) 112 t.2.1.length to) t.2.1.length := fun i hi => by
    have k := e8 i hi
    refine ⟨(F 88 i rfl).1.trans k.1, (F 89 i rfl).1.trans k.2.1, ?_, ?_, (F 113 i rfl).1.trans k.2.2.2.2.1, (F 114 i rfl).1.trans k.2.2.2.2.2⟩
    · rw [sI_oth _ _ _ _ _ _ (by decide), sI_ne _ _ _ _ _ (by omega)]
      exact k.2.2.1
    · rw [sI_ne _ _ _ _ _ (by omega), sI_oth _ _ _ _ _ _ (by decide)]
      exact k.2.2.2.1
  refine hQ _ _ (Or.inr ⟨n3, tn, xs_st X' F hB rfl, mko_f h.2.2.2.2.1 e9 S1, S1, ?_, ?_, ⟨hkk, ?_, ?_⟩, ?_⟩)
  · rw [(F 88 _ rfl).1, hc]
    exact e88
  · rw [(F 89 _ rfl).1, hc]
    exact e89
  · rw [hl, (F 113 _ rfl).1]
    exact ev.2.2.1
  · rw [sI_oth _ _ _ _ _ _ (by decide), sI_same, sI_same]
    exact rgv_m hrg (PRE.one _ _)
  · rw [(F 114 _ rfl).1]
    exact ev.2.2.2
/-- a new node among the others -/
theorem zg_new {oq : OQ} {w w2 : MW} {f : Int → Int} {n m : Int} {nm : List Nm} {op j jj : Nat} {s t : ZS} {d : Nod} (h : ZG w f n oq nm op jj t) (hjj : (jj : Int) = m + (j : Int)) (m0 : 0 ≤ m) (m1 : m ≤ 1) (X2 : XS w2 f n nm op t.1 (t.2.1 ++ [d])) (e8 : SzC w2 t.2.1 ∧ ∀ oq : OQ, Fq oq w t.2.1.length → (∀ c ∈ d.2.2.2, oq.2.1 ≤ c) → Fq oq w2 t.2.1.length) (e0 : S0 w w2) (e88 : (w2.1 88 t.2.1.length).toInt = (cs1 (csl t.2.1 []) d).1) (e89 : (w2.1 89 t.2.1.length).toInt = (cs1 (csl t.2.1 []) d).2) (eL : LkN w2 (t.2.1 ++ [d]) t.2.1.length d) (ho : ∀ c ∈ d.2.2.2, oq.2.1 ≤ c) (hk : ∀ c ∈ d.2.2.2, c < t.2.1.length) (hd : DOk (lkn nm) t.2.1.length d) (hs : KLt s) (hp : PRE s.2.1 t.2.1) : ZG w2 f n oq nm op j (t.1, t.2.1 ++ [d], t.2.2.1 + m, s.2.2.2.1 ++ [t.2.1.length], s.2.2.2.2) := by
  have p1 := PRE.one t.2.1 d
  have len : (t.2.1 ++ [d]).length = t.2.1.length + 1 := by rw [List.length_append, List.length_singleton]
  refine ⟨X2, ?_, ?_, ?_, fun i x hx hn => ?_, nwf_s h.2.2.2.2.2.1 hk hd, lkb_m h.2.2.2.2.2.2.1 p1.len, dbk_m h.2.2.2.2.2.2.2.1 p1, fun c hc => ?_⟩
  · refine ⟨?_, fq_k (e8.2 oq h.2.1.2 ho) rfl (fun _ _ => rfl) (by rw [len]; omega)⟩
    rw [e0.1, h.2.1.1]
    show t.2.2.1 + (jj : Int) = t.2.2.1 + m + (j : Int)
    omega
  · show 0 ≤ t.2.2.1 + m
    have := h.2.2.1
    omega
  · show t.2.2.1 + m ≤ ((t.2.1 ++ [d]).length : Int)
    have := h.2.2.2.1
    rw [len]
    omega
  · show (w2.1 88 i).toInt = gC (csl (t.2.1 ++ [d]) []) i ∧ (w2.1 89 i).toInt = gD (csl (t.2.1 ++ [d]) []) i ∧ LkN w2 (t.2.1 ++ [d]) i x
    rcases app_get hx with q | ⟨q, q2⟩
    · have il := (List.getElem?_eq_some_iff.mp q).1
      have g := gc_pre p1 il
      have k := e8.1 i x q hn
      rw [g.1, g.2]
      exact ⟨k.1, k.2.1, lkn_k k.2.2 p1 rfl rfl rfl (fun _ _ => rfl)⟩
    · have g := gc_new t.2.1 d
      rw [q, g.1, g.2, q2]
      exact ⟨e88, e89, eL⟩
  · have hc' : c ∈ s.2.2.2.1 ++ [t.2.1.length] := hc
    show c < (t.2.1 ++ [d]).length
    rw [len]
    have l := hp.len
    rcases List.mem_append.mp hc' with q | q
    · have := hs c q
      omega
    · rw [List.mem_singleton.mp q]
      omega
/-- what a block or a statement leaves -/
def CR (w' : MW) (f : Int → Int) (n : Int) (oq : OQ) (nm : List Nm) (op j : Nat) (s : ZS) (r : ZR) (y : Int32) : Prop := (∃ s' : ZS, r = zok s' ∧ ZG w' f n oq nm op j s' ∧ y.toInt + 1 = (s'.2.1.length : Int) ∧ s'.2.2.2 = (s.2.2.2.1 ++ [s'.2.1.length - 1], s.2.2.2.2) ∧ (w'.1 88 y.toInt.toNat).toInt = gC (csl s'.2.1 []) (s'.2.1.length - 1) ∧ (w'.1 89 y.toInt.toNat).toInt = gD (csl s'.2.1 []) (s'.2.1.length - 1) ∧ s.2.1.length < s'.2.1.length ∧ (w'.1 114 y.toInt.toNat).toInt = -1) ∨ (r.1 = false ∧ ZW w' f n nm op r.2.1 ∧ 0 ≤ y.toInt ∧ y.toInt < 301)
def HCm (F : MW → (Int32 → MW → Prop) → Prop) (c : Int) (op j : Nat) (f : Int → Int) (n : Int) (oq : OQ) (nm : List Nm) : Prop := ∀ (s : ZS) (w : MW) (Q : Int32 → MW → Prop), ZG w f n oq nm op j s → (∀ (y : Int32) (w' : MW) (r : ZR), ZI f n (lkn nm) op c 0 s r → CR w' f n oq nm op j s r y → Q y w') → F w Q
/-- the node of a statement or a block, told -/
theorem mko_cr {oq : OQ} {w w' : MW} {f : Int → Int} {n m c : Int} {nm : List Nm} {op op' j jj : Nat} {s t : ZS} {d : Nod} {y : Int32} {Q : Int32 → MW → Prop} (h : ZG w f n oq nm op jj t) (hjj : (jj : Int) = m + (j : Int)) (m0 : 0 ≤ m) (m1 : m ≤ 1) (o : MKo w w' f n nm op t d y) (hk : ∀ c ∈ d.2.2.2, c < t.2.1.length) (ho : ∀ c ∈ d.2.2.2, oq.2.1 ≤ c) (hd : DOk (lkn nm) t.2.1.length d) (hs : KLt s) (hp : PRE s.2.1 t.2.1) (all : ∀ r, r = znd f n s t m d → ZI f n (lkn nm) op' c 0 s r) (hQ : ∀ (y : Int32) (w' : MW) (r : ZR), ZI f n (lkn nm) op' c 0 s r → CR w' f n oq nm op j s r y → Q y w') : Q y w' := by
  rcases o with ⟨n3, W, y0, y1⟩ | ⟨n3, ey, X, e8, e0, e88, e89, eL, eN⟩
  · refine hQ y w' (zer (wrd f n t.1).2.1) (all _ ?_) (Or.inr ⟨rfl, W, y0, y1⟩)
    unfold znd
    rw [if_pos n3]
  · have len : (t.2.1 ++ [d]).length = t.2.1.length + 1 := by rw [List.length_append, List.length_singleton]
    have g := gc_new t.2.1 d
    have yt : y.toInt.toNat = t.2.1.length := by omega
    refine hQ y w' (zok (t.1, t.2.1 ++ [d], t.2.2.1 + m, s.2.2.2.1 ++ [t.2.1.length], s.2.2.2.2)) (all _ ?_) (Or.inl ⟨_, rfl, zg_new h hjj m0 m1 X e8 e0 e88 e89 eL ho hk hd hs hp, ?_, ?_, ?_, ?_, ?_, ?_⟩)
    · unfold znd
      rw [if_neg n3]
    · show y.toInt + 1 = ((t.2.1 ++ [d]).length : Int)
      rw [len]
      omega
    · show (s.2.2.2.1 ++ [t.2.1.length], s.2.2.2.2) = (s.2.2.2.1 ++ [(t.2.1 ++ [d]).length - 1], s.2.2.2.2)
      rw [len, Nat.add_sub_cancel]
    · show (w'.1 88 y.toInt.toNat).toInt = gC (csl (t.2.1 ++ [d]) []) ((t.2.1 ++ [d]).length - 1)
      rw [len, Nat.add_sub_cancel, yt, g.1]
      exact e88
    · show (w'.1 89 y.toInt.toNat).toInt = gD (csl (t.2.1 ++ [d]) []) ((t.2.1 ++ [d]).length - 1)
      rw [len, Nat.add_sub_cancel, yt, g.2]
      exact e89
    · show s.2.1.length < (t.2.1 ++ [d]).length
      have := hp.len
      rw [len]
      omega
    · rw [yt]
      exact eN
