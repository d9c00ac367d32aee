/-! the class reads a program: its statements, and whether it is small -/
theorem xs_c2 {w : MW} {f : Int → Int} {n : Int} {nm : List Nm} {op : Nat} {p : Int} {ns : List Nod} {v : Int32} (h : XS w f n nm op p ns) (v0 : -1 ≤ v.toInt) (v1 : v.toInt ≤ 300) : XS (sI w 108 2 v) f n nm op p ns := by
  have F : FR [(108, some 2)] w (sI w 108 2 v) := FR.I (FR.refl _ w) rfl
  refine ⟨xb_fr h.1 F (wbd_108_2 h.1.1 v0 v1) (by rw [(F 87 2 rfl).1]; exact h.1.2.2.2.2.2.2.2.2) rfl, tkc_fr h.2.1 F rfl, h.2.2.1, by rw [(F 87 9 rfl).1]; exact h.2.2.2.1, ⟨by rw [(F 108 1 rfl).1]; exact h.2.2.2.2.1.1, fun i d hd => ?_⟩, h.2.2.2.2.2⟩
  have t := h.2.2.2.2.1.2 i d hd
  rw [(F 109 i rfl).1, (F 110 i rfl).1, (F 115 i rfl).2.1]
  exact t
theorem wrd_32 {f : Int → Int} {n p : Int} (h : (wrd f n p).1 = 32) (p0 : 0 ≤ p) (pn : p ≤ n) : (wrd f n p).2.1 = n := by
  have kb := skp_b f n 4001 p
  have e : wrd f n p = wrq f n (skp f n 4001 p) := rfl
  have hq := kb.2 pn
  rw [e] at h ⊢
  generalize skp f n 4001 p = q at *
  unfold wrq at h ⊢
  by_cases c : n ≤ q
  · rw [if_pos c]
    show q = n
    omega
  · rw [if_neg c] at h
    by_cases d : lt1 (f q) = true
    · rw [if_pos d] at h
      unfold wrL at h
      by_cases b : bd1 (f (q + ((lts f 12 q).length : Int))) = true
      · rw [if_pos b] at h
        exact absurd (show (33 : Int) = 32 from h) (by decide)
      · rw [if_neg b] at h
        have h' : kwd (lts f 12 q) = 32 := h
        have := kwd_b (lts f 12 q)
        omega
    · rw [if_neg d] at h
      by_cases g : dg1 (f q) = true
      · rw [if_pos g] at h
        unfold wrN at h
        by_cases b : bd1 (f (dgn f q)) = true
        · rw [if_pos b] at h
          exact absurd (show (33 : Int) = 32 from h) (by decide)
        · rw [if_neg b] at h
          exact absurd (show (31 : Int) = 32 from h) (by decide)
      · rw [if_neg g] at h
        by_cases k : mk1 (f q) = true
        · rw [if_pos k] at h
          have t := mk1_t.mp k
          have h' : f q = 32 := h
          omega
        · rw [if_neg k] at h
          exact absurd (show (33 : Int) = 32 from h) (by decide)
theorem mxD_40 {acc : List (Int × Int)} : ∀ (l : List Nat) (a : Int), a ≤ 40 → (40 < mxD acc a l ↔ ∃ k ∈ l, 40 < gD acc k) := by
  intro l
  induction l with
  | nil =>
    intro a ha
    refine ⟨fun h => ?_, fun ⟨k, h, _⟩ => (by cases h)⟩
    have h' : 40 < a := h
    omega
  | cons k l ih =>
    intro a ha
    rw [mxD_c]
    by_cases q : gD acc k ≤ 40
    · have b : (if gD acc k ≤ a then a else gD acc k) ≤ 40 := by
        by_cases c : gD acc k ≤ a
        · rw [if_pos c]
          exact ha
        · rw [if_neg c]
          exact q
      rw [ih _ b]
      refine ⟨fun ⟨j, hj, e⟩ => ⟨j, List.mem_cons_of_mem _ hj, e⟩, fun ⟨j, hj, e⟩ => ?_⟩
      rcases List.mem_cons.mp hj with p | p
      · rw [p] at e
        omega
      · exact ⟨j, p, e⟩
    · rw [if_neg (by omega)]
      refine ⟨fun _ => ⟨k, List.mem_cons_self, by omega⟩, fun _ => ?_⟩
      have g : ∀ (l : List Nat) (b : Int), 40 < b → 40 < mxD acc b l := by
        intro l
        induction l with
        | nil => exact fun b hb => hb
        | cons j l ih2 =>
          intro b hb
          rw [mxD_c]
          by_cases c : gD acc j ≤ b
          · rw [if_pos c]
            exact ih2 b hb
          · rw [if_neg c]
            exact ih2 _ (by omega)
      exact g l _ (by omega)
/-- the statements outside -/
theorem cq_172 {o2 : Nat × (Nat → Int32)} {f : Int → Int} {n : Int} {nm : List Nm} {E : Int32 → Int32 → MW → Prop} {Q : Int32 → MW → Prop} {R : ZR → Prop} (hb : ∀ (z u : Int32) (w' : MW) (r : ZR), R r → r.1 = false → ZW w' f n nm 0 r.2.1 → E z u w') (hE : ∀ (z u : Int32) (w' : MW) (s' : ZS) (o : OQ), R (zok s') → (wrd f n s'.1).1 = 32 → ZG w' f n o nm 0 0 s' → o.2 = o2 → CHc w' s'.2.2.2.1 o.1 → (o.1 < 0 ↔ s'.2.2.2.1 = []) → z.toInt = cap (smC (csl s'.2.1 []) 0 s'.2.2.2.1) → u.toInt = mxD (csl s'.2.1 []) 0 s'.2.2.2.1 → E z u w') (m : Nat) : ∀ (z u y i : Int32) (w : MW) (s : ZS) (o : OQ), ZG w f n o nm 0 0 s → o.2 = o2 → KCh w o.2.1 s o.1 y.toInt → (o.1 < 0 ↔ s.2.2.2.1 = []) → -1 ≤ o.1 → -1 ≤ y.toInt → y.toInt ≤ 300 → (y.toInt < 0 ↔ s.2.2.2.1 = []) → z.toInt = cap (smC (csl s.2.1 []) 0 s.2.2.2.1) → u.toInt = mxD (csl s.2.1 []) 0 s.2.2.2.1 → 0 ≤ i.toInt → i.toInt ≤ (s.2.1.length : Int) → (∀ r, ZI f n (lkn nm) 0 10 0 s r → (r.1 = false ∨ ∃ s', r = zok s') → R r) → 302 - s.2.1.length < m → q_Rd_read_1_108_172 E Q m z u y i w := by
  induction m with
  | zero => intros; omega
  | succ m ih =>
    intro z u y i w s o hZ hF hC ho o1 y0 y1 hy hz hu i0 i1 hR hm
    have X := hZ.1
    have l3 := X.2.2.2.2.2.1
    have hw := X.2.2.2.1
    have c3 : (w.1 87 3).toInt = (wrd f n s.1).1 := X.2.1.1
    rw [q_Rd_read_1_108_172.eq_2, c3]
    refine ⟨fun q => by omega, fun _ => ⟨fun q => by omega, fun _ => ⟨fun k => hE z u w s o (hR _ (ZI_10n k) (Or.inr ⟨s, rfl⟩)) k hZ hF (kch_c hC) ho hz hu, fun k => ?_⟩⟩⟩
    refine c_statement (Nat.zero_le _) (Nat.zero_le _) s w _ (zg_f hZ) (fun r10 w10 r hr oo => ?_)
    rcases oo with ⟨s', er, Z', ey, et, e88, e89, nn, eN⟩ | ⟨g, W, r0, r1⟩
    · rw [er] at hr
      obtain ⟨Z', K4⟩ := zg_b hZ Z'
      rw [show r10.toInt.toNat = s'.2.1.length - 1 by omega] at eN
      have l4 := Z'.1.2.2.2.2.2.1
      have pre := zg_pre hZ hr
      have kk : s'.2.2.2.1 = s.2.2.2.1 ++ [s'.2.1.length - 1] := by rw [et]
      have kn : ¬ s'.2.2.2.1 = [] := by
        rw [kk]
        exact List.append_ne_nil_of_right_ne_nil _ (by simp)
      have kp := kid_pre pre (l := s.2.2.2.1) hZ.2.2.2.2.2.2.2.2
      have gb := gC_cap (ns := s'.2.1) (s'.2.1.length - 1)
      have s0 := smC_0 (acc := csl s.2.1 []) (fun i => (gC_cap i).1) s.2.2.2.1 0 (by decide)
      have cb := cap_b s0
      have sa := ti_add2 hz e88 (by omega) (by omega)
      have ii := ti_add2 (Eq.refl i.toInt) i_1 (by omega) (by omega)
      refine ⟨⟨by omega, by omega⟩, min_x (B := cap (smC (csl s'.2.1 []) 0 s'.2.2.2.1)) sa ?_ (fun r12 e12 => ⟨⟨by omega, by omega⟩, max_x hu e89 (fun r14 e14 => ?_)⟩)⟩
      · rw [kk, smC_1, (kp 0).1, cap_i gb.1]
      · have u2 : r14.toInt = mxD (csl s'.2.1 []) 0 s'.2.2.2.1 := by
          rw [kk, mxD_a, (kp 0).2]
          exact e14
        have RR : ∀ r, ZI f n (lkn nm) 0 10 0 s' r → (r.1 = false ∨ ∃ s2, r = zok s2) → R r := fun r h8 ho => hR r (ZI_10 k (by
          rcases ho with hf | ⟨s2, e2⟩
          · exact ZE_g hr rfl (ZE_b h8 hf)
          · rw [e2] at h8 ⊢
            exact ZE_g hr rfl (ZE_g h8 rfl (ZE_n _ _ _ _ _)))) ho
        have yn : r10.toInt < 0 ↔ s'.2.2.2.1 = [] := ⟨fun q => by omega, fun q => absurd q kn⟩
        refine ⟨fun b0 => ⟨Z'.1.1.2.2.1, ⟨b0, by omega⟩, ?_⟩, fun b0 => ⟨Z'.1.1.2.2.1, ?_⟩⟩
        · have on : o.1 < 0 ↔ s'.2.2.2.1 = [] := ⟨fun q => by have := hy.mpr (ho.mp q); omega, fun q => absurd q kn⟩
          have Z2 := zg_n (v := r10) Z' (by omega) (by omega) (kch_b hC b0) (kch_n hC b0 hZ.2.2.2.2.2.1 hZ.2.2.2.2.2.2.1 hZ.2.2.2.2.2.2.2.2 hr (Or.inr rfl))
          have C2 : KCh (sI w10 114 y.toInt.toNat r10) o.2.1 s' o.1 r10.toInt := kch_2 hC b0 nn kk ey (fun c hc hn => by
            rw [sI_ne _ _ _ _ _ (by omega)]
            exact K4 c hc) (by rw [sI_same]) (by
            have : y.toInt.toNat < s.2.1.length := by
              rcases hC with ⟨_, _, _⟩ | ⟨_, _, _, _, _, _, _, _⟩ <;> omega
            rw [sI_ne _ _ _ _ _ (by omega)]
            exact eN)
          exact ih r12 r14 r10 _ _ s' o Z2 hF C2 on o1 (by omega) (by omega) yn e12 u2 (by omega) (by omega) RR (by omega)
        · have on : r10.toInt < 0 ↔ s'.2.2.2.1 = [] := yn
          have F : FR [(108, some 2)] w10 (sI w10 108 2 r10) := FR.I (FR.refl _ w10) rfl
          have Z2 : ZG (sI w10 108 2 r10) f n (r10.toInt, o.2) nm 0 0 s' := ⟨xs_c2 Z'.1 (by omega) (by omega), ⟨by rw [(F 108 0 rfl).1]; exact Z'.2.1.1, by rw [sI_same], Z'.2.1.2.2.1, fun i hi => (F 114 i rfl).1.trans (Z'.2.1.2.2.2 i hi)⟩, Z'.2.2.1, Z'.2.2.2.1, szc_k Z'.2.2.2.2.1 (fr_89 F rfl _), Z'.2.2.2.2.2⟩
          have qb := hZ.2.1.2.2.1
          have C2 : KCh (sI w10 108 2 r10) o.2.1 s' r10.toInt r10.toInt := kch_1 hC (by omega) kk ey (by omega) (by rw [(F 114 _ rfl).1]; exact eN)
          exact ih r12 r14 r10 _ _ s' (r10.toInt, o.2) Z2 hF C2 on (by omega) (by omega) (by omega) yn e12 u2 (by omega) (by omega) RR (by omega)
    · have hf := hR r (ZI_10 k (ZE_b hr g)) (Or.inl g)
      have e0 := W.2.2.1
      have out : ∀ (z' u' y' i' : Int32) (w' : MW), ZW w' f n nm 0 r.2.1 → q_Rd_read_1_108_172 E Q m z' u' y' i' w' := fun z' u' y' i' w' W' => by
        have ew := W'.2.1
        cases m with
        | zero => omega
        | succ m =>
          rw [q_Rd_read_1_108_172.eq_2]
          exact ⟨fun _ => hb z' u' w' r hf g W', fun _ => ⟨fun _ => hb z' u' w' r hf g W', fun q => absurd (show 0 ≤ (w'.1 87 9).toInt by omega) q⟩⟩
      refine ⟨⟨r0, r1⟩, min_w (fun r12 => ⟨⟨r0, r1⟩, max_w (fun r14 => ⟨fun b0 => ⟨W.1.2.2.1, ⟨b0, by omega⟩, ?_⟩, fun b0 => ⟨W.1.2.2.1, ?_⟩⟩)⟩)⟩
      · have F : FR [(114, none)] w10 (sI w10 114 y.toInt.toNat r10) := FR.I (FR.refl _ w10) rfl
        exact out _ _ _ _ _ (zw_st W F (wbd_114 W.1.1 _ (by omega) (by omega)) rfl)
      · have F : FR [(108, some 2)] w10 (sI w10 108 2 r10) := FR.I (FR.refl _ w10) rfl
        exact out _ _ _ _ _ ⟨xb_fr W.1 F (wbd_108_2 W.1.1 (by omega) (by omega)) (by rw [(F 87 2 rfl).1]; exact W.1.2.2.2.2.2.2.2.2) rfl, by rw [(F 87 9 rfl).1]; exact W.2.1, W.2.2.1, by rw [(F 108 1 rfl).1]; exact W.2.2.2.1, W.2.2.2.2⟩
/-- how a program lies that was read -/
def PGc (w : MW) (ns : List Nod) (nm : List Nm) (ks : List Nat) : Prop := PNc w ns ∧ SzC w ns ∧ CHc w ks (w.1 108 2).toInt ∧ (∀ (i : Nat) (x : Nm), nm[i]? = some x → 0 ≤ x.2.2.2 → (∃ d, ns[x.2.2.2.toNat]? = some d ∧ d.1 = 35) ∧ (w.1 114 x.2.2.2.toNat).toInt = -1) ∧ NWf (lkn nm) ns ∧ ∀ c ∈ ks, c < ns.length
/-- THE CLASS READS A PROGRAM exactly -/
theorem c_read2 {w : MW} {f : Int → Int} {n : Int} {Q : Int32 → MW → Prop} (hI : BND w) (hK : KWc w) (hf : cf w = f) (hn : (w.1 1 2).toInt = n) (n0 : 0 ≤ n) (hb : ∀ (y : Int32) (w' : MW) (e : Int), PGM f n (false, e, 0, [], [], []) → y.toInt = e → 0 ≤ e → Q y w') (hg : ∀ (y : Int32) (w' : MW) (m : Int) (ns : List Nod) (nm : List Nm) (ks : List Nat), PGM f n (true, 0, m, ns, nm, ks) → y.toInt = -1 → (w'.1 108 0).toInt = m → 0 ≤ m → NmC w' nm → ((w'.1 108 2).toInt < 0 ↔ ks = []) → PGc w' ns nm ks → Q y w') : p_Rd_read_1_108 w Q := by
  have fu : (1000 : Nat) < FU := fu_lt (by decide)
  refine Eq.mpr (p_Rd_read_1_108.eq_1 _ _) (Eq.mpr (p_Pr_clears108.eq_1 _ _) ?_)
  have F : FR [(87, some 0), (87, some 1), (87, some 2), (87, some 8), (87, some 9), (108, some 0), (108, some 1), (108, some 2), (108, some 10)] w (sI (sI (sI (sI (sI (sI (sI (sR (sR w 87 0 (some 1)) 87 1 (some 108)) 108 0 0) 108 1 0) 108 2 (-1)) 108 10 0) 87 2 0) 87 8 0) 87 9 (-1)) := FR.I (FR.I (FR.I (FR.I (FR.I (FR.I (FR.I (FR.R (FR.R (FR.refl _ w) rfl) rfl) rfl) rfl) rfl) rfl) rfl) rfl) rfl
  have hB : BND (sI (sI (sI (sI (sI (sI (sI (sR (sR w 87 0 (some 1)) 87 1 (some 108)) 108 0 0) 108 1 0) 108 2 (-1)) 108 10 0) 87 2 0) 87 8 0) 87 9 (-1)) := wbd_87_9 (wbd_87_8 (wbd_87_2 (wbd_108_10 (wbd_108_2 (wbd_108_1 (wbd_108_0 (bnd_R (bnd_R hI))) (by decide) (by decide)) (by decide) (by decide)) (by decide) (by decide)) (by decide) (by decide)) (by decide) (by decide))
  have a0 : (sI (sI (sI (sI (sI (sI (sI (sR (sR w 87 0 (some 1)) 87 1 (some 108)) 108 0 0) 108 1 0) 108 2 (-1)) 108 10 0) 87 2 0) 87 8 0) 87 9 (-1)).2.2 87 0 = some 1 := rfl
  have a1 : (sI (sI (sI (sI (sI (sI (sI (sR (sR w 87 0 (some 1)) 87 1 (some 108)) 108 0 0) 108 1 0) 108 2 (-1)) 108 10 0) 87 2 0) 87 8 0) 87 9 (-1)).2.2 87 1 = some 108 := rfl
  have b0 : (sI (sI (sI (sI (sI (sI (sI (sR (sR w 87 0 (some 1)) 87 1 (some 108)) 108 0 0) 108 1 0) 108 2 (-1)) 108 10 0) 87 2 0) 87 8 0) 87 9 (-1)).1 108 0 = 0 := rfl
  have b1 : (sI (sI (sI (sI (sI (sI (sI (sR (sR w 87 0 (some 1)) 87 1 (some 108)) 108 0 0) 108 1 0) 108 2 (-1)) 108 10 0) 87 2 0) 87 8 0) 87 9 (-1)).1 108 1 = 0 := rfl
  have b2 : (sI (sI (sI (sI (sI (sI (sI (sR (sR w 87 0 (some 1)) 87 1 (some 108)) 108 0 0) 108 1 0) 108 2 (-1)) 108 10 0) 87 2 0) 87 8 0) 87 9 (-1)).1 108 2 = -1 := rfl
  have b10 : (sI (sI (sI (sI (sI (sI (sI (sR (sR w 87 0 (some 1)) 87 1 (some 108)) 108 0 0) 108 1 0) 108 2 (-1)) 108 10 0) 87 2 0) 87 8 0) 87 9 (-1)).1 108 10 = 0 := rfl
  have c2 : (sI (sI (sI (sI (sI (sI (sI (sR (sR w 87 0 (some 1)) 87 1 (some 108)) 108 0 0) 108 1 0) 108 2 (-1)) 108 10 0) 87 2 0) 87 8 0) 87 9 (-1)).1 87 2 = 0 := rfl
  have c8 : (sI (sI (sI (sI (sI (sI (sI (sR (sR w 87 0 (some 1)) 87 1 (some 108)) 108 0 0) 108 1 0) 108 2 (-1)) 108 10 0) 87 2 0) 87 8 0) 87 9 (-1)).1 87 8 = 0 := rfl
  have c9 : (sI (sI (sI (sI (sI (sI (sI (sR (sR w 87 0 (some 1)) 87 1 (some 108)) 108 0 0) 108 1 0) 108 2 (-1)) 108 10 0) 87 2 0) 87 8 0) 87 9 (-1)).1 87 9 = -1 := rfl
  generalize (sI (sI (sI (sI (sI (sI (sI (sR (sR w 87 0 (some 1)) 87 1 (some 108)) 108 0 0) 108 1 0) 108 2 (-1)) 108 10 0) 87 2 0) 87 8 0) 87 9 (-1)) = w0 at *
  have XB0 : XB w0 f n [] 0 := ⟨hB, a0, a1, fun i k hk => by rw [(F 90 i rfl).2.1]; exact hK i k hk, (cf_fr F rfl).trans hf, by rw [(F 1 2 rfl).1]; exact hn, ⟨by rw [b10]; rfl, by decide, fun i x hx => (by cases hx)⟩, by rw [c8]; rfl, by rw [c2, i_0]; exact n0⟩
  have P0 : PNc w0 [] := ⟨by rw [b1]; rfl, fun i d hd => (by cases hd)⟩
  have fin : ∀ (w' : MW) (e : Int), PGM f n (false, e, 0, [], [], []) → (w'.1 87 9).toInt = e → 0 ≤ e → Q (w'.1 87 9) w' := fun w' e h1 h2 h3 => hb _ w' e h1 h2 h3
  have end172 : ∀ (z u : Int32) (w33 : MW) (e : Int), PGM f n (false, e, 0, [], [], []) → (w33.1 87 9).toInt = e → 0 ≤ e → ((0 ≤ (w33.1 87 9).toInt → (Q (w33.1 87 9) w33)) ∧ (¬ (0 ≤ (w33.1 87 9).toInt) → ((500 < z.toInt → (p_Rd_fail w33  (fun w36 => (Q (w36.1 87 9) w36)))) ∧ (¬ (500 < z.toInt) → ((u.toInt ≤ 40 → (Q (w33.1 87 9) w33)) ∧ (¬ (u.toInt ≤ 40) → (p_Rd_fail w33  (fun w38 => (Q (w38.1 87 9) w38)))))))) ) := fun z u w33 e h1 h2 h3 => ⟨fun _ => fin w33 e h1 h2 h3, fun q => absurd (show 0 ≤ (w33.1 87 9).toInt by omega) q⟩
  have w172 : ∀ (w20 : MW) (e : Int) (m : Nat), PGM f n (false, e, 0, [], [], []) → (w20.1 87 9).toInt = e → 0 ≤ e → 0 < m → ∀ E : Int32 → Int32 → MW → Prop, E 0 0 w20 → q_Rd_read_1_108_172 E Q m 0 0 (-1) 0 w20 := fun w20 e m h1 h2 h3 hm E hE => by
    cases m with
    | zero => omega
    | succ m =>
      rw [q_Rd_read_1_108_172.eq_2]
      exact ⟨fun _ => hE, fun _ => ⟨fun _ => hE, fun q => absurd (show 0 ≤ (w20.1 87 9).toInt by omega) q⟩⟩
  refine nx_g (p := 0) XB0 (by rw [c9]; decide) (by rw [c2]; exact i_0) P0 (Nat.zero_le _) (fun ok w2 F2 X2 => ?_) (fun bd w2 F2 X2 => ?_)
  · have C2 : CD w2 f n (0, [], 0, []) := cd_mk (s := (0, [], 0, [])) X2 (by rw [(F2 108 0 rfl).1, b0]; exact i_0) (Int.le_refl _) (by show (0 : Int) ≤ ((0 : Nat) : Int); omega) (fun i d hd => (by cases hd)) ⟨fun i d hd => (by cases hd), fun i x hx => (by cases hx)⟩ (fun i x hx => (by cases hx)) (by rw [(F2 108 2 rfl).1, b2]; decide) (fun i x hx => (by cases hx))
    refine cq_38 (s0 := (0, [], 0, [])) (fun w20 r hr hf' e0 ew => ?_) (fun w20 s' hr h' => ?_) FU 0 w2 (0, [], 0, []) C2 (fun r hr => hr) (by decide) (by rw [i_0]; show (0 : Int) ≤ ((0 : Nat) : Int); omega) (by show 42 - 0 < FU; omega)
    · have pg : PGM f n (false, r.2.1, 0, [], [], []) := by
        unfold PGM
        rw [if_neg ok]
        obtain ⟨k, hr⟩ := hr
        exact ⟨k, r, hr, by rw [if_neg (by rw [hf']; decide)]⟩
      exact w172 w20 r.2.1 FU pg ew e0 (by omega) _ (end172 0 0 w20 r.2.1 pg ew e0)
    · obtain ⟨k, hr⟩ := hr
      have up : ∀ (r : Bool × Int × Int × List Nod × List Nm × List Nat) (z : ZR), ZI f n (lkn s'.2.2.2) 0 10 0 (dbl s') z → (if z.1 = true then (tooM z.2.2.2.1 z.2.2.2.2.2.1 ∧ r = (false, n, 0, [], [], [])) ∨ (¬ tooM z.2.2.2.1 z.2.2.2.2.2.1 ∧ r = (true, 0, z.2.2.2.2.1, z.2.2.2.1, s'.2.2.2, z.2.2.2.2.2.1)) else r = (false, z.2.1, 0, [], [], [])) → PGM f n r := fun r z a b => by
        unfold PGM
        rw [if_neg ok]
        refine ⟨k, dok s', hr, ?_⟩
        show (if true = true then _ else _)
        rw [if_pos rfl]
        exact ⟨z, a, b⟩
      refine cq_172 (nm := s'.2.2.2) (R := fun z => ZI f n (lkn s'.2.2.2) 0 10 0 (dbl s') z) (fun z u w' r hz hf' W => ?_) (fun z u w' t o hz k32 Zt hF hch ho ez eu => ?_) FU 0 0 (-1) 0 w20 (dbl s') (oqf oq0 w20 (dbl s').2.1.length) (zg_f h'.1) rfl (Or.inl ⟨rfl, rfl, by decide⟩) ⟨fun _ => rfl, fun _ => (show (-1 : Int) < 0 by decide)⟩ (show (-1 : Int) ≤ -1 by decide) (by decide) (by decide) ⟨fun _ => rfl, fun _ => by decide⟩ (show (0 : Int32).toInt = cap 0 by decide) (show (0 : Int32).toInt = 0 by decide) (by decide) (by rw [i_0]; omega) (fun r hr _ => hr) (by omega)
      · exact end172 z u w' r.2.1 (up _ r hz (by rw [if_neg (by rw [hf']; decide)])) W.2.1 W.2.2.1
      · have hw := Zt.1.2.2.2.1
        have p0 := Zt.1.2.2.2.2.2.2.1
        have pn := Zt.1.2.2.2.2.2.2.2
        have e32 := wrd_32 k32 p0 pn
        have s0 := smC_0 (acc := csl t.2.1 []) (fun i => (gC_cap i).1) t.2.2.2.1 0 (by decide)
        have m40 := mxD_40 (acc := csl t.2.1 []) t.2.2.2.1 0 (by decide)
        have big : 500 < z.toInt ↔ 500 < smC (csl t.2.1 []) 0 t.2.2.2.1 := by
          rw [ez]
          unfold cap
          by_cases q : smC (csl t.2.1 []) 0 t.2.2.2.1 ≤ 500
          · rw [if_pos q]
          · rw [if_neg q]
            omega
        have bad : tooM t.2.1 t.2.2.2.1 → p_Rd_fail w' (fun w36 => (Q (w36.1 87 9) w36)) := fun tm => fl_g Zt.1 (fun w36 F36 X36 => fin w36 n (up _ (zok t) hz (by
          show (if true = true then _ else _)
          rw [if_pos rfl]
          exact Or.inl ⟨tm, rfl⟩)) (by rw [X36.2.1]; exact e32) n0)
        refine ⟨fun q => by omega, fun _ => ⟨fun q => bad (Or.inl (big.mp q)), fun nb => ⟨fun le => ?_, fun gt => bad (Or.inr (m40.mp (by rw [← eu]; omega)))⟩⟩⟩
        have nt : ¬ tooM t.2.1 t.2.2.2.1 := fun tm => by
          rcases tm with q | q
          · exact nb (big.mpr q)
          · have := m40.mpr q
            omega
        refine hg _ w' t.2.2.1 t.2.1 s'.2.2.2 t.2.2.2.1 (up _ (zok t) hz (by
          show (if true = true then _ else _)
          rw [if_pos rfl]
          exact Or.inr ⟨nt, rfl⟩)) hw ?_ Zt.2.2.1 Zt.1.1.2.2.2.2.2.2.1 (by rw [Zt.2.1.2.1]; exact ho) ⟨Zt.1.2.2.2.2.1, Zt.2.2.2.2.1, by rw [Zt.2.1.2.1]; exact hch, fun i x hx x0 => ?_, Zt.2.2.2.2.2.1, Zt.2.2.2.2.2.2.2.2⟩
        · have t0 : (w'.1 108 0).toInt = t.2.2.1 + ((0 : Nat) : Int) := Zt.2.1.1
          omega
        · obtain ⟨⟨d, hd, e⟩, e1⟩ := h'.2.2.2 i x hx x0
          have il : x.2.2.2.toNat < s'.2.1.length := (List.getElem?_eq_some_iff.mp hd).1
          have fq := Zt.2.1.2.2.2
          rw [hF] at fq
          have k4 : w'.1 114 x.2.2.2.toNat = w20.1 114 x.2.2.2.toNat := fq _ il
          have pre := zg_pre (zg_f h'.1) hz
          rw [k4]
          exact ⟨⟨d, pre.get hd, e⟩, e1⟩
  · have pg : PGM f n (false, (wrd f n 0).2.1, 0, [], [], []) := by
      unfold PGM
      rw [if_pos bd]
    have W := zw_of X2
    have ew := W.2.1
    have e0 := W.2.2.1
    have h172 := w172 w2 _ FU pg ew e0 (by omega) (fun (e172_3_33 : Int32) (e172_4_33 : Int32) (w33 : MW) => ((0 ≤ (w33.1 87 9).toInt → (Q (w33.1 87 9) w33)) ∧ (¬ (0 ≤ (w33.1 87 9).toInt) → ((500 < e172_3_33.toInt → (p_Rd_fail w33  (fun w36 => (Q (w36.1 87 9) w36)))) ∧ (¬ (500 < e172_3_33.toInt) → ((e172_4_33.toInt ≤ 40 → (Q (w33.1 87 9) w33)) ∧ (¬ (e172_4_33.toInt ≤ 40) → (p_Rd_fail w33  (fun w38 => (Q (w38.1 87 9) w38)))))))))) (end172 0 0 w2 _ pg ew e0)
    generalize hFU : FU = F0 at *
    cases F0 with
    | zero => omega
    | succ F0 =>
      rw [q_Rd_read_1_108_38.eq_2]
      exact ⟨fun q => absurd q (by decide), fun _ => ⟨fun _ => h172, fun q => absurd (show 0 ≤ (w2.1 87 9).toInt by omega) q⟩⟩
theorem c_read {w : MW} {f : Int → Int} {n : Int} {Q : Int32 → MW → Prop} (hI : BND w) (hK : KWc w) (hf : cf w = f) (hn : (w.1 1 2).toInt = n) (n0 : 0 ≤ n) (hb : ∀ (y : Int32) (w' : MW) (e : Int), PGM f n (false, e, 0, [], [], []) → y.toInt = e → 0 ≤ e → Q y w') (hg : ∀ (y : Int32) (w' : MW) (m : Int) (ns : List Nod) (nm : List Nm) (ks : List Nat), PGM f n (true, 0, m, ns, nm, ks) → y.toInt = -1 → (w'.1 108 0).toInt = m → 0 ≤ m → NmC w' nm → ((w'.1 108 2).toInt < 0 ↔ ks = []) → Q y w') : p_Rd_read_1_108 w Q := c_read2 hI hK hf hn n0 hb (fun y w' m ns nm ks a b c d e g _ => hg y w' m ns nm ks a b c d e g)
