/-! the class reads ask, do, stop, hold, act -/
theorem wrd_t {f : Int → Int} {n p : Int} (h : (wrd f n p).1 = 31) (hp : (wrd f n p).2.2.2.2.2 = false) : ∃ v : Int, (wrd f n p).2.2.2.2.1 = v * 1000 := by
  have e : wrd f n p = wrq f n (skp f n 4001 p) := rfl
  rw [e] at h hp ⊢
  generalize skp f n 4001 p = q at *
  unfold wrq at h hp ⊢
  by_cases c : n ≤ q
  · rw [if_pos c] at h
    exact absurd (show (32 : Int) = 31 from h) (by decide)
  · rw [if_neg c] at h hp ⊢
    by_cases d : lt1 (f q) = true
    · rw [if_pos d] at h
      unfold wrL at h
      by_cases b : bd1 (f (q + ((lts f 12 q).length : Int))) = true
      · rw [if_pos b] at h
        exact absurd (show (33 : Int) = 31 from h) (by decide)
      · rw [if_neg b] at h
        have h' : kwd (lts f 12 q) = 31 := h
        have := kwd_b (lts f 12 q)
        omega
    · rw [if_neg d] at h hp ⊢
      by_cases g : dg1 (f q) = true
      · rw [if_pos g] at h hp ⊢
        unfold wrN at h hp ⊢
        by_cases b : bd1 (f (dgn f q)) = true
        · rw [if_pos b] at h
          exact absurd (show (33 : Int) = 31 from h) (by decide)
        · rw [if_neg b] at hp ⊢
          have hp' : dgp f q = false := hp
          refine ⟨vlu 0 (dgl f 9 q), ?_⟩
          show dgz f q = vlu 0 (dgl f 9 q) * 1000
          unfold dgz dgf
          rw [hp', if_neg (by decide)]
          rfl
      · rw [if_neg g] at h
        by_cases k : mk1 (f q) = true
        · rw [if_pos k] at h
          have t := mk1_t.mp k
          have h' : f q = 31 := h
          omega
        · rw [if_neg k] at h
          exact absurd (show (33 : Int) = 31 from h) (by decide)
theorem cw_87 {w : MW} {f : Int → Int} {n : Int} {nm : List Nm} {op : Nat} {e : Int} {a b : Int32} {Q : Int32 → MW → Prop} (h : ZW w f n nm op e) (hb : a.toInt = 23 → b.toInt < 0 ∨ ∃ (i : Nat) (x : Nm), b = nI i ∧ nm[i]? = some x ∧ x.2.1 = 10) (hQ : ∀ (y : Int32) (w' : MW), ZW w' f n nm op e → 0 ≤ y.toInt → y.toInt < 301 → Q y w') : q_Rd_readShort_87 a b w Q := by
  refine Eq.mpr (q_Rd_readShort_87.eq_1 _ _ _ _) (cw_tk h (cw_mk h (fun r5 w5 r0 r1 W5 => ⟨fun _ => hQ r5 w5 W5 r0 r1, fun y23 => ⟨fun _ => hQ r5 w5 W5 r0 r1, fun b0 => ?_⟩⟩)))
  rcases hb (Classical.not_not.mp y23) with q | ⟨i, x, eb, hx, x10⟩
  · exact absurd q b0
  · have NM := W5.1.2.2.2.2.2.2.1
    have n4 := NM.2.1
    have il := (List.getElem?_eq_some_iff.mp hx).1
    have ti : (nI i).toInt = (i : Int) := nI_toInt (by omega)
    have tn : (nI i).toInt.toNat = i := by omega
    have t := NM.2.2 i x hx
    have t1 := t.2.2.2.1
    have t2 := t.2.2.2.2.2.1 x10
    have b9 := bd_119 W5.1.1 i
    rw [eb, tn]
    have go : ∀ r11 : Int32, ((0 ≤ r5.toInt ∧ r5.toInt < 301) ∧ ((w5.2.2 87 1 = some 108) ∧ ((0 ≤ (nI i).toInt ∧ (nI i).toInt < 40) ∧ ((0 ≤ (w5.1 119 i).toInt ∧ (w5.1 119 i).toInt < 301) ∧ ((0 ≤ r5.toInt ∧ r5.toInt < 301) ∧ (Q r5 (sI (sI w5 88 r5.toInt.toNat r11) 89 r5.toInt.toNat (w5.1 89 ((w5.1 119 i).toInt.toNat))))))))) := fun r11 => by
      have F : FR [(88, none), (89, none)] w5 (sI (sI w5 88 r5.toInt.toNat r11) 89 r5.toInt.toNat (w5.1 89 ((w5.1 119 i).toInt.toNat))) := FR.I (FR.I (FR.refl _ w5) rfl) rfl
      exact ⟨⟨r0, r1⟩, W5.1.2.2.1, ⟨by omega, by omega⟩, ⟨by omega, by omega⟩, ⟨r0, r1⟩, hQ r5 _ (zw_st W5 F (wbd_89 (wbd_88 W5.1.1 _) _) rfl) r0 r1⟩
    exact ⟨W5.1.2.2.1, ⟨by omega, by omega⟩, ⟨by omega, by omega⟩, Eq.mpr (p_Ma_min.eq_1 _ _ _ _) ⟨fun _ => go _, fun _ => go _⟩⟩
theorem lk0_n {w : MW} {ns : List Nod} {i : Nat} {k a b : Int} {l : List Nat} (hl : l = []) (hk : nxp k = 0) (e1 : (w.1 111 i).toInt = (i : Int)) (e2 : (w.1 112 i).toInt = (i : Int)) (e3 : (w.1 113 i).toInt = -1) : LkN w ns i (k, a, b, l) := by
  rw [hl]
  refine ⟨fun c hc => (by cases hc), ?_, Or.inl ⟨hk, by omega⟩⟩
  show CHc w (List.drop (nxp k) []) _
  rw [hk]
  exact e3
/-- behind the word, a semicolon and the node: not for do -/
theorem ck_87 {oq : OQ} {w : MW} {f : Int → Int} {n k : Int} {nm : List Nm} {op jj : Nat} {L : List (Int × Int)} {s1 s : ZS} {a b : Int32} {Q : Int32 → MW → Prop} (hZ : ZG w f n oq nm op jj s) (hk : isS k = true) (k23 : ¬ k = 23) (kne : nxp k = 0) (ha : a.toInt = k) (hb : b.toInt = s.2.2.2.2.1) (h0 : s.2.2.2.1 = []) (H : ∀ r, ZE f n (lkn nm) op [(0, 59)] s r → ZE f n (lkn nm) op L s1 r) (bad : CBd f n nm op L s1 Q) (good : CGd f n oq nm op jj k L s1 Q) : q_Rd_readShort_87 a b w Q := by
  have q := isS_t.mp hk
  have n23 : ¬ a.toInt = 23 := by omega
  refine Eq.mpr (q_Rd_readShort_87.eq_1 _ _ _ _) (ct_tk (c := 59) hZ (by decide) (fun w' r hz hf W => cw_mk W (fun r6 w6 r0 r1 W6 => ⟨fun _ => bad _ w6 r (H r (ZE_b hz hf)) hf W6 r0 r1, fun z => absurd n23 z⟩)) (fun w' s' hz es F Z => ?_))
  have l3 := Z.1.2.2.2.2.2.1
  have hE := H _ (ZE_g hz rfl (ZE_n _ _ _ _ _))
  have hc : cs1 (csl s'.2.1 []) (k, s'.2.2.2.2.1, s'.2.2.2.2.2.2, s'.2.2.2.1) = (1, 0) := cs_1 hk k23 (fun c hc => by
    rw [es] at hc
    have hc' : c ∈ s.2.2.2.1 := hc
    rw [h0] at hc'
    cases hc')
  have hk0 : s'.2.2.2.1 = [] := by
    rw [es]
    exact h0
  refine cm_mk (d := (k, s'.2.2.2.2.1, s'.2.2.2.2.2.2, s'.2.2.2.1)) Z ha ?_ (show ¬ k = 31 by omega) (fun n3 w2 W2 => ⟨fun _ => good _ w' w2 s' hE Z (Or.inl ⟨n3, W2, by decide, by decide⟩), fun z => absurd n23 z⟩) (fun n3 w2 X2 e8 e0 e88 e89 ev => ⟨fun _ => good _ w' w2 s' hE Z (Or.inr ⟨n3, nI_toInt (by omega), X2, mko_f Z.2.2.2.2.1 e8 e0, e0, by rw [hc]; exact e88, by rw [hc]; exact e89, lk0_n hk0 kne ev.1 ev.2.1 ev.2.2.1, ev.2.2.2⟩), fun z => absurd n23 z⟩)
  rw [es]
  exact hb
/-- do -/
theorem ck_do {oq : OQ} {w : MW} {f : Int → Int} {n : Int} {nm : List Nm} {op jj : Nat} {s1 : ZS} {a : Int32} {Q : Int32 → MW → Prop} (hZ : ZG w f n oq nm op jj s1) (ha : a.toInt = 23) (h0 : s1.2.2.2.1 = []) (bad : CBd f n nm op [(1, 10), (0, 59)] s1 Q) (good : CGd f n oq nm op jj 23 [(1, 10), (0, 59)] s1 Q) : p_Rd_takeName w 10 (fun r27 w27 => (q_Rd_readShort_87 a r27 w27 Q)) := by
  refine ct_nm (c := 10) hZ (by decide) (fun w1 r hz hf W => cw_87 W (fun _ => Or.inl (by decide)) (fun y w2 W2 y0 y1 => bad y w2 r (ZE_b hz hf) hf W2 y0 y1)) (fun w1 r i x hx xc el hz hf il W => cw_87 W (fun _ => Or.inr ⟨i, x, rfl, hx, xc⟩) (fun y w2 W2 y0 y1 => bad y w2 r (ZE_b hz hf) hf W2 y0 y1)) (fun w1 s2 i x hx hz es xc el Z1 => ?_)
  refine Eq.mpr (q_Rd_readShort_87.eq_1 _ _ _ _) (ct_tk (c := 59) Z1 (by decide) (fun w2 r hz2 hf W2 => ?_) (fun w2 s3 hz2 es3 F2 Z2 => ?_))
  · have t := cw_87 (a := a) (b := nI i) (Q := Q) W2 (fun _ => Or.inr ⟨i, x, rfl, hx, xc⟩) (fun y w3 W3 y0 y1 => bad y w3 r (ZE_g hz rfl (ZE_b hz2 hf)) hf W3 y0 y1)
    rw [q_Rd_readShort_87.eq_1, p_Rd_take.eq_1] at t
    have e0 := W2.2.2.1
    have ew := W2.2.1
    have u := t.1 (by omega)
    rw [p_Rd_fail.eq_1] at u
    exact u.1 (by omega)
  · have l3 := Z2.1.2.2.2.2.2.1
    have hE : ZE f n (lkn nm) op [(1, 10), (0, 59)] s1 (zok s3) := ZE_g hz rfl (ZE_g hz2 rfl (ZE_n _ _ _ _ _))
    have NM := Z2.1.1.2.2.2.2.2.2.1
    have n4 := NM.2.1
    have il := (List.getElem?_eq_some_iff.mp hx).1
    have ti : (nI i).toInt = (i : Int) := nI_toInt (by omega)
    have tn : (nI i).toInt.toNat = i := by omega
    have arg : s3.2.2.2.2.1 = (i : Int) := by rw [es3, es]
    have blk : s3.2.2.2.2.2.2 = x.2.2.2 := by rw [es3, es]
    have LB := Z2.2.2.2.2.2.2.1 (wrd f n s1.1).2.2.2.1 (by rw [el]; show (0 : Int) ≤ (i : Int); omega) (by rw [el]; exact xc)
    have DB := Z2.2.2.2.2.2.2.2.1 (wrd f n s1.1).2.2.2.1 (by rw [el]; show (0 : Int) ≤ (i : Int); omega) (by rw [el]; exact xc)
    rw [el] at LB DB
    have LB' : 0 ≤ x.2.2.2 ∧ x.2.2.2 + 1 < (s3.2.1.length : Int) := LB
    obtain ⟨db, hdb, edb⟩ := DB
    have hdb' : s3.2.1[x.2.2.2.toNat]? = some db := hdb
    have sz := Z2.2.2.2.2.1 x.2.2.2.toNat db hdb' (by rw [edb]; decide)
    have cs : cs1 (csl s3.2.1 []) (23, s3.2.2.2.2.1, s3.2.2.2.2.2.2, s3.2.2.2.1) = (cap (1 + gC (csl s3.2.1 []) x.2.2.2.toNat), gD (csl s3.2.1 []) x.2.2.2.toNat) := by
      unfold cs1
      rw [if_pos rfl]
      show (cap (1 + gC (csl s3.2.1 []) s3.2.2.2.2.2.2.toNat), gD (csl s3.2.1 []) s3.2.2.2.2.2.2.toNat) = _
      rw [blk]
    refine cm_mk (d := (23, s3.2.2.2.2.1, s3.2.2.2.2.2.2, s3.2.2.2.1)) Z2 ha (by rw [ti, arg]) (show ¬ (23 : Int) = 31 by decide) (fun n3 w5 W5 => ⟨fun z => absurd ha z, fun _ => ⟨fun _ => good _ w2 w5 s3 hE Z2 (Or.inl ⟨n3, W5, by decide, by decide⟩), fun _ => ?_⟩⟩) (fun n3 w5 X5 e8 e0 e88 e89 ev => ⟨fun z => absurd ha z, fun _ => ⟨fun z => absurd z (by omega), fun _ => ?_⟩⟩)
    · have t := W5.1.2.2.2.2.2.2.1.2.2 i x hx
      have t1 := t.2.2.2.1
      have b9 := bd_119 W5.1.1 i
      have r3 : (nI 300).toInt = 300 := by decide
      rw [tn]
      have go : ∀ r11 : Int32, ((0 ≤ (nI 300).toInt ∧ (nI 300).toInt < 301) ∧ ((w5.2.2 87 1 = some 108) ∧ ((0 ≤ (nI i).toInt ∧ (nI i).toInt < 40) ∧ ((0 ≤ (w5.1 119 i).toInt ∧ (w5.1 119 i).toInt < 301) ∧ ((0 ≤ (nI 300).toInt ∧ (nI 300).toInt < 301) ∧ (Q (nI 300) (sI (sI w5 88 (nI 300).toInt.toNat r11) 89 (nI 300).toInt.toNat (w5.1 89 ((w5.1 119 i).toInt.toNat))))))))) := fun r11 => by
        have F : FR [(88, none), (89, none)] w5 (sI (sI w5 88 (nI 300).toInt.toNat r11) 89 (nI 300).toInt.toNat (w5.1 89 ((w5.1 119 i).toInt.toNat))) := FR.I (FR.I (FR.refl _ w5) rfl) rfl
        exact ⟨⟨by omega, by omega⟩, W5.1.2.2.1, ⟨by omega, by omega⟩, ⟨by omega, by omega⟩, ⟨by omega, by omega⟩, good _ w2 _ s3 hE Z2 (Or.inl ⟨n3, zw_st W5 F (wbd_89 (wbd_88 W5.1.1 _) _) rfl, by omega, by omega⟩)⟩
      exact ⟨W5.1.2.2.1, ⟨by omega, by omega⟩, ⟨by omega, by omega⟩, Eq.mpr (p_Ma_min.eq_1 _ _ _ _) ⟨fun _ => go _, fun _ => go _⟩⟩
    · have t := X5.1.2.2.2.2.2.2.1.2.2 i x hx
      have t1 := t.2.2.2.1
      have tl : (nI s3.2.1.length).toInt = (s3.2.1.length : Int) := nI_toInt (by omega)
      have tt : (nI s3.2.1.length).toInt.toNat = s3.2.1.length := by omega
      have bx : (w5.1 119 i).toInt.toNat = x.2.2.2.toNat := by omega
      have o8 := e8 x.2.2.2.toNat (by omega)
      have g8 : (w5.1 88 x.2.2.2.toNat).toInt = gC (csl s3.2.1 []) x.2.2.2.toNat := by rw [o8.1]; exact sz.1
      have g9 : (w5.1 89 x.2.2.2.toNat).toInt = gD (csl s3.2.1 []) x.2.2.2.toNat := by rw [o8.2.1]; exact sz.2.1
      rw [tn, tt, bx]
      have cb := gC_cap (ns := s3.2.1) x.2.2.2.toNat
      have sa := ti_add2 i_1 g8 (by omega) (by omega)
      have go : ∀ r11 : Int32, r11.toInt = cap (1 + gC (csl s3.2.1 []) x.2.2.2.toNat) → ((0 ≤ (nI s3.2.1.length).toInt ∧ (nI s3.2.1.length).toInt < 301) ∧ ((w5.2.2 87 1 = some 108) ∧ ((0 ≤ (nI i).toInt ∧ (nI i).toInt < 40) ∧ ((0 ≤ (w5.1 119 i).toInt ∧ (w5.1 119 i).toInt < 301) ∧ ((0 ≤ (nI s3.2.1.length).toInt ∧ (nI s3.2.1.length).toInt < 301) ∧ (Q (nI s3.2.1.length) (sI (sI w5 88 s3.2.1.length r11) 89 s3.2.1.length (w5.1 89 ((w5.1 119 i).toInt.toNat))))))))) := fun r11 er => by
        rw [bx]
        have F : FR [(88, none), (89, none)] w5 (sI (sI w5 88 s3.2.1.length r11) 89 s3.2.1.length (w5.1 89 x.2.2.2.toNat)) := FR.I (FR.I (FR.refl _ w5) rfl) rfl
        have hk0 : s3.2.2.2.1 = [] := by
          rw [es3, es]
          exact h0
        have S1 : S0 w2 (sI (sI w5 88 s3.2.1.length r11) 89 s3.2.1.length (w5.1 89 x.2.2.2.toNat)) := ⟨(F 108 0 rfl).1.trans e0.1, (F 108 2 rfl).1.trans e0.2⟩
        have e9 : E6 w2 (sI (sI w5 88 s3.2.1.length r11) 89 s3.2.1.length (w5.1 89 x.2.2.2.toNat)) s3.2.1.length := fun k hk => by
          have q := e8 k hk
          refine ⟨?_, ?_, (F 111 k rfl).1.trans q.2.2.1, (F 112 k rfl).1.trans q.2.2.2.1, (F 113 k rfl).1.trans q.2.2.2.2.1, (F 114 k rfl).1.trans q.2.2.2.2.2⟩
          · rw [sI_oth _ _ _ _ _ _ (by decide), sI_ne _ _ _ _ _ (by omega)]
            exact q.1
          · rw [sI_ne _ _ _ _ _ (by omega), sI_oth _ _ _ _ _ _ (by decide)]
            exact q.2.1
        refine ⟨⟨by omega, by omega⟩, X5.1.2.2.1, ⟨by omega, by omega⟩, ⟨by omega, by omega⟩, ⟨by omega, by omega⟩, good _ w2 _ s3 hE Z2 (Or.inr ⟨n3, tl, xs_st X5 F (wbd_89 (wbd_88 X5.1.1 _) _) rfl, mko_f Z2.2.2.2.2.1 e9 S1, S1, ?_, ?_, lk0_n hk0 (by decide) (by rw [(F 111 _ rfl).1]; exact ev.1) (by rw [(F 112 _ rfl).1]; exact ev.2.1) (by rw [(F 113 _ rfl).1]; exact ev.2.2.1), by rw [(F 114 _ rfl).1]; exact ev.2.2.2⟩)⟩
        · rw [sI_oth _ _ _ _ _ _ (by decide), sI_same, cs]
          exact er
        · rw [sI_same, cs]
          exact g9
      refine ⟨X5.1.2.2.1, ⟨by omega, by omega⟩, ⟨by omega, by omega⟩, Eq.mpr (p_Ma_min.eq_1 _ _ _ _) ⟨fun gt => go _ ?_, fun le => go _ ?_⟩⟩
      · rw [show (501 : Int32).toInt = 501 by decide, sa] at gt
        unfold cap
        rw [if_neg (by omega)]
        decide
      · rw [show (501 : Int32).toInt = 501 by decide, sa] at le
        rw [sa]
        unfold cap
        by_cases q : 1 + gC (csl s3.2.1 []) x.2.2.2.toNat ≤ 500
        · rw [if_pos q]
        · rw [if_neg q]
          omega
