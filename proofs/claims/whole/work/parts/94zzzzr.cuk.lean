/-! blocks: where they stand, and how they go on -/
theorem mxd_m {acc : List (Int × Int)} : ∀ (l : List Nat) (a : Int), a ≤ mxD acc a l ∧ ∀ x ∈ l, gD acc x ≤ mxD acc a l := by
  intro l
  induction l with
  | nil => exact fun a => ⟨Int.le_refl _, fun x hx => (by cases hx)⟩
  | cons k l ih =>
    intro a
    rw [mxD_c]
    have t := ih (if gD acc k ≤ a then a else gD acc k)
    by_cases c : gD acc k ≤ a
    · rw [if_pos c] at t ⊢
      refine ⟨t.1, fun x hx => ?_⟩
      rcases List.mem_cons.mp hx with e | e
      · rw [e]
        have := t.1
        omega
      · exact t.2 x e
    · rw [if_neg c] at t ⊢
      refine ⟨by have := t.1; omega, fun x hx => ?_⟩
      rcases List.mem_cons.mp hx with e | e
      · rw [e]
        exact t.1
      · exact t.2 x e
/-- what is inside is less deep -/
theorem gd_k {lk : List Int → Int × Int × Int × Int} {ns : List Nod} {c x : Nat} {d : Nod} (hW : NWf lk ns) (hd : ns[c]? = some d) (hx : x ∈ kdl ns c) : gD (csl ns []) x + (if d.1 = 35 then 1 else 0) ≤ gD (csl ns []) c := by
  have wf := hW c d hd
  have t := (cs_at hd wf.1 (fun z => by
    have q := (wf.2 z).2.2
    omega)).2
  rw [t]
  unfold cs1
  by_cases k : d.1 = 23
  · rw [if_pos k]
    rw [kdl_23 hd k] at hx
    rw [List.mem_singleton.mp hx, if_neg (by omega)]
    show gD (csl ns []) d.2.2.1.toNat + 0 ≤ gD (csl ns []) d.2.2.1.toNat
    omega
  · rw [if_neg k]
    rw [kdl_o hd k] at hx
    have m := (mxd_m (acc := csl ns []) d.2.2.2 0).2 x (mem_dr hx)
    show gD (csl ns []) x + (if d.1 = 35 then 1 else 0) ≤ mxD (csl ns []) 0 d.2.2.2 + (if d.1 = 35 then 1 else 0)
    omega
/-- how deep the statements of a block may go -/
def DpL (ns : List Nod) (l : List Nat) (dep : Int) : Prop := ∀ c ∈ l, dep + gD (csl ns []) c ≤ 40
theorem dpl_k {lk : List Int → Int × Int × Int × Int} {ns : List Nod} {c b : Nat} {d db : Nod} {dep : Int} (hW : NWf lk ns) (hd : ns[c]? = some d) (h : dep + gD (csl ns []) c ≤ 40) (hb : b ∈ kdl ns c) (hdb : ns[b]? = some db) (h35 : db.1 = 35) : DpL ns (kdl ns b) (dep + 1) := fun x hx => by
  have a := gd_k hW hd hb
  have e := gd_k hW hdb hx
  rw [if_pos h35] at e
  by_cases z : d.1 = 35
  · rw [if_pos z] at a
    omega
  · rw [if_neg z] at a
    omega
theorem gd_0 {lk : List Int → Int × Int × Int × Int} {ns : List Nod} {c : Nat} {d : Nod} (hW : NWf lk ns) (hd : ns[c]? = some d) : 0 ≤ gD (csl ns []) c := (gD_b hW c (List.getElem?_eq_some_iff.mp hd).1).1
/-- a block lies at p, its statements l behind -/
def BlkR (ns : List Nod) (off : Int) (k : Nat) (v w : MW) (l : List Nat) (p : Nat) : Prop := (stg v p = 0 ∧ bgM w p = 0) ∨ (stg v p = 1 ∧ bgM w p = 1 ∧ cuC v p = crM w p ∧ CuK (Dy ns off v w k) v w l (fiC v p) (cuC v p))
/-- the reference takes p for a block -/
def RtB (ns : List Nod) (v : MW) (p : Nat) : Prop := (v.1 77 p).toInt = -1 ∨ ∃ (c : Nat) (d : Nod), (v.1 77 p).toInt = (c : Int) ∧ ns[c]? = some d ∧ d.1 = 35
theorem rt_x {GoW : MW → MW → Prop} {ns : List Nod} {nm : List Nm} {ks : List Nat} {off : Int} {v w : MW} {p : Nat} {a : Int32} {Q : Int32 → MW → Prop} (h : WS GoW ns nm ks off v w) (hp : (p : Int) < (v.1 61 5).toInt) (ha : a.toInt = (p : Int)) (hB : RtB ns v p) (q : p_Mo_kind w a Q) : ∃ r : Int32, r.toInt = 23 ∧ Q r w := by
  have e : (w.1 207 a.toInt.toNat).toInt = (v.1 77 p).toInt := by
    rw [ha, show ((p : Int)).toNat = p by omega, (h.2.2.1.2.2.2.2.2.1.2.2 p hp).1]
  rcases hB with z | ⟨c, d, z1, z2, z3⟩
  · rw [p_Mo_kind.eq_1] at q
    exact ⟨23, by decide, q.2.2 (by omega)⟩
  · obtain ⟨r, e1, e2⟩ := kn_x h.2.2.1.2.2.1 (e.trans z1) z2 q
    refine ⟨r, ?_, e2⟩
    rw [e1, z3]
    decide
/-- the statement that a block stands at -/
theorem cuk_x {ns : List Nod} {v w : MW} {D : Nat → Nat → Prop} {cu : Int} : ∀ (l : List Nat) (s : Nat) (h : Int) (q : Nat), Lz ns v l s h q → CuK D v w l h cu → cu = -1 ∨ ∃ (c m : Nat) (cs : List Nat), c ∈ l ∧ (∀ x ∈ cs, x ∈ l) ∧ (s : Int) ≤ cu ∧ cu < (m : Int) ∧ m ≤ q ∧ (v.1 77 cu.toNat).toInt = (c : Int) ∧ Lz ns v (kdl ns c) (cu.toNat + 1) (fiC v cu.toNat) m ∧ Lz ns v cs m (nxC v cu.toNat) q ∧ D c cu.toNat ∧ AB0 v w cs (nxC v cu.toNat) ∧ (∀ (D' : Nat → Nat → Prop) (v' w' : MW), (∀ j, nxC v' j = nxC v j) → AB0 v' w' cs (nxC v cu.toNat) → D' c cu.toNat → CuK D' v' w' l h cu) ∧ (∀ (D' : Nat → Nat → Prop) (v' w' : MW), (∀ j, nxC v' j = nxC v j) → CuK D' v' w' cs (nxC v cu.toNat) (nxC v cu.toNat) → CuK D' v' w' l h (nxC v cu.toNat)) := by
  intro l
  induction l with
  | nil => exact fun _ _ _ _ a => Or.inl a
  | cons c cs ih =>
    intro s h q hL a
    obtain ⟨e1, e2, m, sm, mq, L1, L2⟩ := lz_c hL
    have hs : h.toNat = s := by omega
    rcases a with ⟨a1, a2, a3⟩ | ⟨a1, a2⟩
    · have cs' : cu.toNat = s := by omega
      rw [hs] at a2 a3
      refine Or.inr ⟨c, m, cs, List.mem_cons_self, fun x hx => List.mem_cons_of_mem _ hx, by omega, by omega, mq, by rw [cs']; exact e2, by rw [cs']; exact L1, by rw [cs']; exact L2, by rw [cs']; exact a2, by rw [cs']; exact a3, fun D' v' w' hn hb hd => ?_, fun D' v' w' hn hc => ?_⟩
      · rw [cs'] at hb hd
        refine Or.inl ⟨a1, by rw [hs]; exact hd, ?_⟩
        rw [hs, hn]
        exact hb
      · rw [cs'] at hc ⊢
        refine Or.inr ⟨?_, ?_⟩
        · cases cs with
          | nil =>
            have z := (lz_n L2).1
            omega
          | cons y ys =>
            have z := (lz_c L2).1
            omega
        · rw [hs, hn]
          exact hc
    · rw [hs] at a2
      rcases ih m _ q L2 a2 with z | ⟨c2, m2, cs2, b1, b2, b3, b4, b5, b6, b7, b8, b9, b10, b11, b12⟩
      · exact Or.inl z
      · refine Or.inr ⟨c2, m2, cs2, List.mem_cons_of_mem _ b1, fun x hx => List.mem_cons_of_mem _ (b2 x hx), by omega, b4, b5, b6, b7, b8, b9, b10, fun D' v' w' hn hb hd => Or.inr ⟨a1, ?_⟩, fun D' v' w' hn hc => Or.inr ⟨?_, ?_⟩⟩
        · rw [hs, hn]
          exact b11 D' v' w' hn hb hd
        · cases cs2 with
          | nil =>
            have z := (lz_n b8).1
            omega
          | cons y ys =>
            have z := (lz_c b8).1
            omega
        · rw [hs, hn]
          exact b12 D' v' w' hn hc
/-- the block that a statement is inside of -/
theorem cui_x {ns : List Nod} {v : MW} {D : Nat → Nat → Prop} {cu : Int} : ∀ (l : List Nat) (s : Nat) (h : Int) (q : Nat), Lz ns v l s h q → CuI D v l h cu → cu = -1 ∨ ∃ (c m : Nat), c ∈ l ∧ (s : Int) ≤ cu ∧ cu < (m : Int) ∧ m ≤ q ∧ (v.1 77 cu.toNat).toInt = (c : Int) ∧ Lz ns v (kdl ns c) (cu.toNat + 1) (fiC v cu.toNat) m ∧ D c cu.toNat ∧ (∀ (D' : Nat → Nat → Prop) (v' : MW), (∀ j, nxC v' j = nxC v j) → D' c cu.toNat → CuI D' v' l h cu) := by
  intro l
  induction l with
  | nil => exact fun _ _ _ _ a => False.elim a
  | cons c cs ih =>
    intro s h q hL a
    obtain ⟨e1, e2, m, sm, mq, L1, L2⟩ := lz_c hL
    have hs : h.toNat = s := by omega
    rcases a with ⟨a1, a2⟩ | ⟨a1, a2⟩
    · have cs' : cu.toNat = s := by omega
      rw [hs] at a2
      refine Or.inr ⟨c, m, List.mem_cons_self, by omega, by omega, mq, by rw [cs']; exact e2, by rw [cs']; exact L1, by rw [cs']; exact a2, fun D' v' hn hd => Or.inl ⟨a1, ?_⟩⟩
      rw [cs'] at hd
      rw [hs]
      exact hd
    · rw [hs] at a2
      rcases ih m _ q L2 a2 with z | ⟨c2, m2, b1, b3, b4, b5, b6, b7, b9, b11⟩
      · exact Or.inl z
      · refine Or.inr ⟨c2, m2, List.mem_cons_of_mem _ b1, by omega, b4, b5, b6, b7, b9, fun D' v' hn hd => Or.inr ⟨a1, ?_⟩⟩
        rw [hs, hn]
        exact b11 D' v' hn hd
/-- what has begun has begun before, or (where t is false) now -/
def SgR (t : Bool) (w w' : MW) : Prop := w'.1 127 74 = w.1 127 74 ∧ ∀ j : Nat, bgM w' j = 1 → (bgM w j = 1 ∧ siM w' j = siM w j) ∨ (t = false ∧ siM w' j = (w.1 127 74).toInt)
theorem sgr_0 {t : Bool} (w : MW) : SgR t w w := ⟨rfl, fun _ h => Or.inl ⟨h, rfl⟩⟩
theorem sgr_t {t : Bool} {w w1 w2 : MW} (a : SgR t w w1) (b : SgR t w1 w2) : SgR t w w2 := ⟨b.1.trans a.1, fun j h => by
  rcases b.2 j h with ⟨h1, h2⟩ | ⟨h0, h1⟩
  · rcases a.2 j h1 with ⟨h3, h4⟩ | ⟨h0, h3⟩
    · exact Or.inl ⟨h3, h2.trans h4⟩
    · exact Or.inr ⟨h0, h2.trans h3⟩
  · exact Or.inr ⟨h0, by rw [h1, a.1]⟩⟩
theorem sgr_f {t : Bool} {l : Pl} {w w' : MW} (F : FR l w w') (ho : off l [(127, some 74), (210, none), (214, none)] = true) : SgR t w w' := ⟨(F 127 74 (off_hit ho rfl)).1, fun j h => Or.inl ⟨by
  unfold bgM at h ⊢
  rw [(F 210 j (off_hit ho rfl)).1] at h
  exact h, by
  unfold siM
  rw [(F 214 j (off_hit ho rfl)).1]⟩⟩
/-- as many have begun, or more -/
def MnR (t : Bool) (v w v' w' : MW) : Prop := (v.1 61 19).toInt ≤ (v'.1 61 19).toInt ∧ SgR t w w'
theorem mnr_f {t : Bool} {l l' : Pl} {v w v' w' : MW} (F : FR l v v') (G : FR l' w w') (ho : off l [(61, some 19)] = true) (ho' : off l' [(127, some 74), (210, none), (214, none)] = true) : MnR t v w v' w' := ⟨by rw [(F 61 19 (off_hit ho rfl)).1]; exact Int.le_refl _, sgr_f G ho'⟩
/-- both sides after a piece: outside of p .. m - 1 no place has changed -/
def PoL (t : Bool) (GoW : MW → MW → Prop) (ns : List Nod) (nm : List Nm) (ks : List Nat) (off : Int) (v w v' w' : MW) (p m : Nat) : Prop := WS GoW ns nm ks off v' w' ∧ (AgR 0 p v v' w w' ∧ AgR m 501 v v' w w') ∧ (∀ j, v'.1 77 j = v.1 77 j ∧ v'.1 78 j = v.1 78 j ∧ v'.1 79 j = v.1 79 j) ∧ v'.1 61 5 = v.1 61 5 ∧ v'.1 7 1 = v.1 7 1 ∧ MnR t v w v' w'
theorem pol_0 {t : Bool} {GoW : MW → MW → Prop} {ns : List Nod} {nm : List Nm} {ks : List Nat} {off : Int} {v w : MW} (h : WS GoW ns nm ks off v w) (p m : Nat) : PoL t GoW ns nm ks off v w v w p m := ⟨h, ⟨fun j _ _ => ⟨⟨rfl, rfl, rfl, rfl, rfl, rfl, rfl, rfl⟩, rfl, rfl, rfl, rfl, rfl, rfl, rfl, rfl⟩, fun j _ _ => ⟨⟨rfl, rfl, rfl, rfl, rfl, rfl, rfl, rfl⟩, rfl, rfl, rfl, rfl, rfl, rfl, rfl, rfl⟩⟩, fun j => ⟨rfl, rfl, rfl⟩, rfl, rfl, Int.le_refl _, sgr_0 w⟩
theorem pol_m {t : Bool} {GoW : MW → MW → Prop} {ns : List Nod} {nm : List Nm} {ks : List Nat} {off : Int} {v w v' w' : MW} {p m p' m' : Nat} (h : PoL t GoW ns nm ks off v w v' w' p m) (a : p' ≤ p) (b : m ≤ m') : PoL t GoW ns nm ks off v w v' w' p' m' := ⟨h.1, ⟨agr_m h.2.1.1 (Nat.le_refl _) a, agr_m h.2.1.2 b (Nat.le_refl _)⟩, h.2.2⟩
theorem pol_t {t : Bool} {GoW : MW → MW → Prop} {ns : List Nod} {nm : List Nm} {ks : List Nat} {off : Int} {v w v1 w1 v2 w2 : MW} {p m : Nat} (h : PoL t GoW ns nm ks off v w v1 w1 p m) (h2 : PoL t GoW ns nm ks off v1 w1 v2 w2 p m) : PoL t GoW ns nm ks off v w v2 w2 p m := ⟨h2.1, ⟨agr_t h.2.1.1 h2.2.1.1, agr_t h.2.1.2 h2.2.1.2⟩, fun j => ⟨(h2.2.2.1 j).1.trans (h.2.2.1 j).1, (h2.2.2.1 j).2.1.trans (h.2.2.1 j).2.1, (h2.2.2.1 j).2.2.trans (h.2.2.1 j).2.2⟩, h2.2.2.2.1.trans h.2.2.2.1, h2.2.2.2.2.1.trans h.2.2.2.2.1, Int.le_trans h.2.2.2.2.2.1 h2.2.2.2.2.2.1, sgr_t h.2.2.2.2.2.2 h2.2.2.2.2.2.2⟩
theorem pol_l {t : Bool} {GoW : MW → MW → Prop} {ns : List Nod} {nm : List Nm} {ks : List Nat} {off : Int} {v w v' w' : MW} {p m : Nat} (h : PoL t GoW ns nm ks off v w v' w' p m) {l : List Nat} {s : Nat} {i : Int} {q : Nat} (a : Lz ns v l s i q) : Lz ns v' l s i q := lz_g a (fun j => (h.2.2.1 j).1) (fun j => (h.2.2.1 j).2.1) (fun j => (h.2.2.1 j).2.2)
theorem pol_fi {t : Bool} {GoW : MW → MW → Prop} {ns : List Nod} {nm : List Nm} {ks : List Nat} {off : Int} {v w v' w' : MW} {p m : Nat} (h : PoL t GoW ns nm ks off v w v' w' p m) (j : Nat) : fiC v' j = fiC v j ∧ nxC v' j = nxC v j := by
  unfold fiC nxC
  rw [(h.2.2.1 j).2.1, (h.2.2.1 j).2.2]
  exact ⟨rfl, rfl⟩
