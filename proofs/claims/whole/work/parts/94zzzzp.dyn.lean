/-! how a run stands on both sides -/
def stg (v : MW) (i : Nat) : Int := (v.1 80 i).toInt
def cuC (v : MW) (i : Nat) : Int := (v.1 81 i).toInt
def fiC (v : MW) (i : Nat) : Int := (v.1 78 i).toInt
def nxC (v : MW) (i : Nat) : Int := (v.1 79 i).toInt
def bgM (w : MW) (i : Nat) : Int := (w.1 210 i).toInt
def dnM (w : MW) (i : Nat) : Int := (w.1 211 i).toInt
def ovM (w : MW) (i : Nat) : Int := (w.1 212 i).toInt
def crM (w : MW) (i : Nat) : Int := (w.1 213 i).toInt
def siM (w : MW) (i : Nat) : Int := (w.1 214 i).toInt
/-- none of these has begun -/
def AB0 (v w : MW) : List Nat → Int → Prop
  | [], _ => True
  | _ :: cs, h => bgM w h.toNat = 0 ∧ AB0 v w cs (nxC v h.toNat)
/-- a block stands at cu: what is behind it has not begun -/
def CuK (D : Nat → Nat → Prop) (v w : MW) : List Nat → Int → Int → Prop
  | [], _, cu => cu = -1
  | c :: cs, h, cu => (cu = h ∧ D c h.toNat ∧ AB0 v w cs (nxC v h.toNat)) ∨ (¬ cu = h ∧ CuK D v w cs (nxC v h.toNat) cu)
/-- a statement is inside the block at cu -/
def CuI (D : Nat → Nat → Prop) (v : MW) : List Nat → Int → Int → Prop
  | [], _, _ => False
  | c :: cs, h, cu => (cu = h ∧ D c h.toNat) ∨ (¬ cu = h ∧ CuI D v cs (nxC v h.toNat) cu)
/-- the sides of a par -/
def SiK (D : Nat → Nat → Prop) (v w : MW) : List Nat → Int → Prop
  | [], _ => True
  | c :: cs, h => ((stg v h.toNat = 2 ∧ ovM w h.toNat = 1) ∨ (¬ stg v h.toNat = 2 ∧ ovM w h.toNat = 0 ∧ D c h.toNat)) ∧ SiK D v w cs (nxC v h.toNat)
/-- what has begun, by its kind -/
def BdY (D : Nat → Nat → Prop) (ns : List Nod) (off : Int) (v w : MW) (c p : Nat) (k : Int) : Prop :=
  (k = 35 → cuC v p = crM w p ∧ CuK D v w (kdl ns c) (fiC v p) (cuC v p)) ∧
  ((k = 12 ∨ k = 13 ∨ k = 14 ∨ k = 22) → cuC v p = -1) ∧
  (k = 12 → (v.2.1 82 p).toInt = siM w p + (w.2.1 215 p).toInt + off + 1) ∧
  (k = 13 → dnM w p = 0) ∧
  (k = 14 → dnM w p = 0 ∧ 1 ≤ (w.2.1 215 p).toInt ∧ (v.2.1 82 p).toInt = siM w p + off + 1 ∧ v.2.1 83 p = w.2.1 215 p ∧ v.2.1 84 p = w.2.1 217 p ∧ v.2.1 85 p = w.2.1 216 p) ∧
  (k = 22 → ((v.2.1 82 p).toInt = 0 ↔ dnM w p = 0)) ∧
  (k = 16 → cuC v p = -1 ∧ SiK D v w (kdl ns c) (fiC v p)) ∧
  (k = 19 → cuC v p = fiC v p ∧ v.2.1 82 p = w.2.1 215 p ∧ ∃ b, kdl ns c = [b] ∧ D b (fiC v p).toNat) ∧
  ((k = 17 ∨ k = 20 ∨ k = 23) → cuC v p = crM w p ∧ CuI D v (kdl ns c) (fiC v p) (cuC v p)) ∧
  (¬ k = 11 ∧ ¬ k = 24 ∧ ¬ k = 25 ∧ ¬ k = 26)
/-- node c, that lies at p, stands alike on both sides -/
def Dy (ns : List Nod) (off : Int) (v w : MW) : Nat → Nat → Nat → Prop
  | 0 => fun _ _ => False
  | k + 1 => fun c p => ∃ d, ns[c]? = some d ∧ ((stg v p = 0 ∧ bgM w p = 0) ∨ (stg v p = 1 ∧ bgM w p = 1 ∧ BdY (Dy ns off v w k) ns off v w c p d.1))
theorem Dy_u (ns : List Nod) (off : Int) (v w : MW) (k c p : Nat) : Dy ns off v w (k + 1) c p = (∃ d, ns[c]? = some d ∧ ((stg v p = 0 ∧ bgM w p = 0) ∨ (stg v p = 1 ∧ bgM w p = 1 ∧ BdY (Dy ns off v w k) ns off v w c p d.1))) := rfl
/-- the cells of the places from s to q are alike -/
def AgR (s q : Nat) (v v' w w' : MW) : Prop := ∀ j : Nat, s ≤ j → j < q → (v'.1 78 j = v.1 78 j ∧ v'.1 79 j = v.1 79 j ∧ v'.1 80 j = v.1 80 j ∧ v'.1 81 j = v.1 81 j ∧ v'.2.1 82 j = v.2.1 82 j ∧ v'.2.1 83 j = v.2.1 83 j ∧ v'.2.1 84 j = v.2.1 84 j ∧ v'.2.1 85 j = v.2.1 85 j) ∧ (w'.1 210 j = w.1 210 j ∧ w'.1 211 j = w.1 211 j ∧ w'.1 212 j = w.1 212 j ∧ w'.1 213 j = w.1 213 j ∧ w'.1 214 j = w.1 214 j ∧ w'.2.1 215 j = w.2.1 215 j ∧ w'.2.1 216 j = w.2.1 216 j ∧ w'.2.1 217 j = w.2.1 217 j)
theorem agr_m {s q s' q' : Nat} {v v' w w' : MW} (h : AgR s q v v' w w') (a : s ≤ s') (b : q' ≤ q) : AgR s' q' v v' w w' := fun j ja jb => h j (by omega) (by omega)
theorem agr_t {s q : Nat} {v v1 v2 w w1 w2 : MW} (h : AgR s q v v1 w w1) (h2 : AgR s q v1 v2 w1 w2) : AgR s q v v2 w w2 := fun j ja jb => by
  have x := h j ja jb
  have y := h2 j ja jb
  exact ⟨⟨y.1.1.trans x.1.1, y.1.2.1.trans x.1.2.1, y.1.2.2.1.trans x.1.2.2.1, y.1.2.2.2.1.trans x.1.2.2.2.1, y.1.2.2.2.2.1.trans x.1.2.2.2.2.1, y.1.2.2.2.2.2.1.trans x.1.2.2.2.2.2.1, y.1.2.2.2.2.2.2.1.trans x.1.2.2.2.2.2.2.1, y.1.2.2.2.2.2.2.2.trans x.1.2.2.2.2.2.2.2⟩, ⟨y.2.1.trans x.2.1, y.2.2.1.trans x.2.2.1, y.2.2.2.1.trans x.2.2.2.1, y.2.2.2.2.1.trans x.2.2.2.2.1, y.2.2.2.2.2.1.trans x.2.2.2.2.2.1, y.2.2.2.2.2.2.1.trans x.2.2.2.2.2.2.1, y.2.2.2.2.2.2.2.1.trans x.2.2.2.2.2.2.2.1, y.2.2.2.2.2.2.2.2.trans x.2.2.2.2.2.2.2.2⟩⟩
/-- the list l lies from s to q, h its first -/
def Lz (ns : List Nod) (v : MW) (l : List Nat) (s : Nat) (h : Int) (q : Nat) : Prop := ∃ k, LayA ns (fun j => (v.1 77 j).toInt) (fiC v) (nxC v) k l s h q
theorem lz_c {ns : List Nod} {v : MW} {c : Nat} {cs : List Nat} {s : Nat} {h : Int} {q : Nat} (a : Lz ns v (c :: cs) s h q) : h = (s : Int) ∧ (v.1 77 s).toInt = (c : Int) ∧ ∃ m, s < m ∧ m ≤ q ∧ Lz ns v (kdl ns c) (s + 1) (fiC v s) m ∧ Lz ns v cs m (nxC v s) q := by
  obtain ⟨k, a⟩ := a
  cases k with
  | zero => exact False.elim a
  | succ k =>
    rw [LayA_c] at a
    obtain ⟨a1, a2, m, a3, a4⟩ := a
    have t1 := (LayA_le _ _ _ _ _ a3).1
    have t2 := (LayA_le _ _ _ _ _ a4).1
    exact ⟨a1, a2, m, by omega, t2, ⟨k, a3⟩, ⟨k, a4⟩⟩
theorem lz_n {ns : List Nod} {v : MW} {s : Nat} {h : Int} {q : Nat} (a : Lz ns v [] s h q) : h = -1 ∧ q = s := by
  obtain ⟨k, a⟩ := a
  cases k with
  | zero => exact False.elim a
  | succ k => exact a
theorem ab0_f {ns : List Nod} {v v' w w' : MW} : ∀ (l : List Nat) (s : Nat) (h : Int) (q : Nat), Lz ns v l s h q → AgR s q v v' w w' → AB0 v w l h → AB0 v' w' l h := by
  intro l
  induction l with
  | nil => exact fun _ _ _ _ _ _ => trivial
  | cons c cs ih =>
    intro s h q hL hA a
    obtain ⟨e1, _, m, sm, mq, _, L2⟩ := lz_c hL
    have hs : h.toNat = s := by omega
    have A := hA s (Nat.le_refl _) (by omega)
    refine ⟨?_, ?_⟩
    · have a1 := a.1
      rw [hs] at a1 ⊢
      unfold bgM at a1 ⊢
      rw [A.2.1]
      exact a1
    · have a2 := a.2
      rw [hs] at a2 ⊢
      have e : nxC v' s = nxC v s := by
        unfold nxC
        rw [A.1.2.1]
      rw [e]
      exact ih m _ q L2 (agr_m hA (by omega) (Nat.le_refl _)) a2
/-- what holds of each piece -/
def PcF (ns : List Nod) (v : MW) (D D' : Nat → Nat → Prop) (s q : Nat) : Prop := ∀ c p m : Nat, s ≤ p → p < m → m ≤ q → Lz ns v (kdl ns c) (p + 1) (fiC v p) m → D c p → D' c p
theorem pcf_m {ns : List Nod} {v : MW} {D D' : Nat → Nat → Prop} {s q s' q' : Nat} (h : PcF ns v D D' s q) (a : s ≤ s') (b : q' ≤ q) : PcF ns v D D' s' q' := fun c p m h1 h2 h3 h4 => h c p m (by omega) h2 (by omega) h4
theorem cuk_f {ns : List Nod} {v v' w w' : MW} {D D' : Nat → Nat → Prop} {cu : Int} : ∀ (l : List Nat) (s : Nat) (h : Int) (q : Nat), Lz ns v l s h q → AgR s q v v' w w' → PcF ns v D D' s q → CuK D v w l h cu → CuK D' v' w' l h cu := by
  intro l
  induction l with
  | nil => exact fun _ _ _ _ _ _ a => a
  | cons c cs ih =>
    intro s h q hL hA hP a
    obtain ⟨e1, _, m, sm, mq, L1, L2⟩ := lz_c hL
    have hs : h.toNat = s := by omega
    have A := hA s (Nat.le_refl _) (by omega)
    have e : nxC v' s = nxC v s := by
      unfold nxC
      rw [A.1.2.1]
    rcases a with ⟨a1, a2, a3⟩ | ⟨a1, a2⟩
    · refine Or.inl ⟨a1, ?_, ?_⟩
      · rw [hs] at a2 ⊢
        exact hP c s m (Nat.le_refl _) sm mq L1 a2
      · rw [hs] at a3 ⊢
        rw [e]
        exact ab0_f cs m _ q L2 (agr_m hA (by omega) (Nat.le_refl _)) a3
    · refine Or.inr ⟨a1, ?_⟩
      rw [hs] at a2 ⊢
      rw [e]
      exact ih m _ q L2 (agr_m hA (by omega) (Nat.le_refl _)) (pcf_m hP (by omega) (Nat.le_refl _)) a2
theorem cui_f {ns : List Nod} {v v' w w' : MW} {D D' : Nat → Nat → Prop} {cu : Int} : ∀ (l : List Nat) (s : Nat) (h : Int) (q : Nat), Lz ns v l s h q → AgR s q v v' w w' → PcF ns v D D' s q → CuI D v l h cu → CuI D' v' l h cu := by
  intro l
  induction l with
  | nil => exact fun _ _ _ _ _ _ a => a
  | cons c cs ih =>
    intro s h q hL hA hP a
    obtain ⟨e1, _, m, sm, mq, L1, L2⟩ := lz_c hL
    have hs : h.toNat = s := by omega
    have A := hA s (Nat.le_refl _) (by omega)
    have e : nxC v' s = nxC v s := by
      unfold nxC
      rw [A.1.2.1]
    rcases a with ⟨a1, a2⟩ | ⟨a1, a2⟩
    · refine Or.inl ⟨a1, ?_⟩
      rw [hs] at a2 ⊢
      exact hP c s m (Nat.le_refl _) sm mq L1 a2
    · refine Or.inr ⟨a1, ?_⟩
      rw [hs] at a2 ⊢
      rw [e]
      exact ih m _ q L2 (agr_m hA (by omega) (Nat.le_refl _)) (pcf_m hP (by omega) (Nat.le_refl _)) a2
theorem sik_f {ns : List Nod} {v v' w w' : MW} {D D' : Nat → Nat → Prop} : ∀ (l : List Nat) (s : Nat) (h : Int) (q : Nat), Lz ns v l s h q → AgR s q v v' w w' → PcF ns v D D' s q → SiK D v w l h → SiK D' v' w' l h := by
  intro l
  induction l with
  | nil => exact fun _ _ _ _ _ _ _ => trivial
  | cons c cs ih =>
    intro s h q hL hA hP a
    obtain ⟨e1, _, m, sm, mq, L1, L2⟩ := lz_c hL
    have hs : h.toNat = s := by omega
    have A := hA s (Nat.le_refl _) (by omega)
    have e : nxC v' s = nxC v s := by
      unfold nxC
      rw [A.1.2.1]
    have e2 : stg v' s = stg v s := by
      unfold stg
      rw [A.1.2.2.1]
    have e3 : ovM w' s = ovM w s := by
      unfold ovM
      rw [A.2.2.2.1]
    obtain ⟨a1, a2⟩ := a
    rw [hs] at a1 a2
    refine ⟨?_, ?_⟩
    · rw [hs, e2, e3]
      rcases a1 with z | ⟨z1, z2, z3⟩
      · exact Or.inl z
      · exact Or.inr ⟨z1, z2, hP c s m (Nat.le_refl _) sm mq L1 z3⟩
    · rw [hs, e]
      exact ih m _ q L2 (agr_m hA (by omega) (Nat.le_refl _)) (pcf_m hP (by omega) (Nat.le_refl _)) a2
/-- a node stands as it stood where its places are as they were -/
theorem dy_f {ns : List Nod} {off : Int} {v v' w w' : MW} : ∀ (k c p m : Nat), p < m → Lz ns v (kdl ns c) (p + 1) (fiC v p) m → AgR p m v v' w w' → Dy ns off v w k c p → Dy ns off v' w' k c p := by
  intro k
  induction k with
  | zero => exact fun _ _ _ _ _ _ h => False.elim h
  | succ k ih =>
    intro c p m pm hL hA h
    rw [Dy_u] at h ⊢
    obtain ⟨d, hd, o⟩ := h
    refine ⟨d, hd, ?_⟩
    have A := hA p (Nat.le_refl _) pm
    have e8 : fiC v' p = fiC v p := by unfold fiC; rw [A.1.1]
    have e0 : stg v' p = stg v p := by unfold stg; rw [A.1.2.2.1]
    have e1 : cuC v' p = cuC v p := by unfold cuC; rw [A.1.2.2.2.1]
    have b0 : bgM w' p = bgM w p := by unfold bgM; rw [A.2.1]
    have b1 : dnM w' p = dnM w p := by unfold dnM; rw [A.2.2.1]
    have b3 : crM w' p = crM w p := by unfold crM; rw [A.2.2.2.2.1]
    have b4 : siM w' p = siM w p := by unfold siM; rw [A.2.2.2.2.2.1]
    rw [e0, b0]
    rcases o with o | ⟨o1, o2, o3⟩
    · exact Or.inl o
    · refine Or.inr ⟨o1, o2, ?_⟩
      have hA2 := agr_m hA (show p ≤ p + 1 by omega) (Nat.le_refl m)
      have hP : PcF ns v (Dy ns off v w k) (Dy ns off v' w' k) (p + 1) m := fun c p' m' h1 h2 h3 h4 h5 => ih c p' m' h2 h4 (agr_m hA (by omega) h3) h5
      obtain ⟨x1, x2, x3, x4, x5, x6, x7, x8, x9, x10⟩ := o3
      refine ⟨fun q => ?_, fun q => ?_, fun q => ?_, fun q => ?_, fun q => ?_, fun q => ?_, fun q => ?_, fun q => ?_, fun q => ?_, x10⟩
      · rw [e1, b3, e8]
        exact ⟨(x1 q).1, cuk_f _ _ _ _ hL hA2 hP (x1 q).2⟩
      · rw [e1]
        exact x2 q
      · rw [A.1.2.2.2.2.1, b4, A.2.2.2.2.2.2.1]
        exact x3 q
      · rw [b1]
        exact x4 q
      · rw [b1, A.1.2.2.2.2.1, b4, A.2.2.2.2.2.2.1, A.1.2.2.2.2.2.1, A.1.2.2.2.2.2.2.1, A.1.2.2.2.2.2.2.2, A.2.2.2.2.2.2.2.1, A.2.2.2.2.2.2.2.2]
        exact x5 q
      · rw [A.1.2.2.2.2.1, b1]
        exact x6 q
      · rw [e1, e8]
        exact ⟨(x7 q).1, sik_f _ _ _ _ hL hA2 hP (x7 q).2⟩
      · rw [e1, e8, A.1.2.2.2.2.1, A.2.2.2.2.2.2.1]
        obtain ⟨y1, y2, b, y3, y4⟩ := x8 q
        refine ⟨y1, y2, b, y3, ?_⟩
        rw [y3] at hL
        obtain ⟨z1, _, mm, z2, z3, z4, _⟩ := lz_c hL
        have zs : (fiC v p).toNat = p + 1 := by omega
        rw [zs] at y4 ⊢
        exact hP b (p + 1) mm (Nat.le_refl _) z2 z3 z4 y4
      · rw [e1, b3, e8]
        exact ⟨(x9 q).1, cui_f _ _ _ _ hL hA2 hP (x9 q).2⟩
