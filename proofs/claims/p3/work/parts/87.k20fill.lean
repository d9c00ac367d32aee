abbrev b_Ar_fillI : ByteArray := prog_23_method_103_code
def y_Ar_fillI : MethodName := ⟨R_Ar, "fill", "([II)V"⟩
abbrev w_Ar_fillI : List Cond := .code y_Ar_fillI b_Ar_fillI 4 none :: lw_gd
abbrev t_Ar_fillI_20 : List UInt8 := 177 :: []
abbrev t_Ar_fillI_17 : List UInt8 := 167 :: 255 :: 244 :: t_Ar_fillI_20
abbrev t_Ar_fillI_14 : List UInt8 := 132 :: 2 :: 1 :: t_Ar_fillI_17
abbrev t_Ar_fillI_13 : List UInt8 := 79 :: t_Ar_fillI_14
abbrev t_Ar_fillI_12 : List UInt8 := 27 :: t_Ar_fillI_13
abbrev t_Ar_fillI_11 : List UInt8 := 28 :: t_Ar_fillI_12
abbrev t_Ar_fillI_10 : List UInt8 := 42 :: t_Ar_fillI_11
abbrev t_Ar_fillI_7 : List UInt8 := 162 :: 0 :: 13 :: t_Ar_fillI_10
abbrev t_Ar_fillI_6 : List UInt8 := 29 :: t_Ar_fillI_7
abbrev t_Ar_fillI_5 : List UInt8 := 28 :: t_Ar_fillI_6
abbrev t_Ar_fillI_4 : List UInt8 := 62 :: t_Ar_fillI_5
abbrev t_Ar_fillI_3 : List UInt8 := 190 :: t_Ar_fillI_4
abbrev t_Ar_fillI_2 : List UInt8 := 42 :: t_Ar_fillI_3
abbrev t_Ar_fillI_1 : List UInt8 := 61 :: t_Ar_fillI_2
abbrev t_Ar_fillI_0 : List UInt8 := 3 :: t_Ar_fillI_1
theorem a_Ar_fillI_0 : dk_at b_Ar_fillI 0 t_Ar_fillI_0 := dk_start (by decide +kernel)
theorem a_Ar_fillI_1 : dk_at b_Ar_fillI 1 t_Ar_fillI_1 := dk_go 1 a_Ar_fillI_0 rfl
theorem a_Ar_fillI_2 : dk_at b_Ar_fillI 2 t_Ar_fillI_2 := dk_go 1 a_Ar_fillI_1 rfl
theorem a_Ar_fillI_3 : dk_at b_Ar_fillI 3 t_Ar_fillI_3 := dk_go 1 a_Ar_fillI_2 rfl
theorem a_Ar_fillI_4 : dk_at b_Ar_fillI 4 t_Ar_fillI_4 := dk_go 1 a_Ar_fillI_3 rfl
theorem a_Ar_fillI_5 : dk_at b_Ar_fillI 5 t_Ar_fillI_5 := dk_go 1 a_Ar_fillI_4 rfl
theorem a_Ar_fillI_6 : dk_at b_Ar_fillI 6 t_Ar_fillI_6 := dk_go 1 a_Ar_fillI_5 rfl
theorem a_Ar_fillI_7 : dk_at b_Ar_fillI 7 t_Ar_fillI_7 := dk_go 1 a_Ar_fillI_6 rfl
theorem a_Ar_fillI_10 : dk_at b_Ar_fillI 10 t_Ar_fillI_10 := dk_go 3 a_Ar_fillI_7 rfl
theorem a_Ar_fillI_11 : dk_at b_Ar_fillI 11 t_Ar_fillI_11 := dk_go 1 a_Ar_fillI_10 rfl
theorem a_Ar_fillI_12 : dk_at b_Ar_fillI 12 t_Ar_fillI_12 := dk_go 1 a_Ar_fillI_11 rfl
theorem a_Ar_fillI_13 : dk_at b_Ar_fillI 13 t_Ar_fillI_13 := dk_go 1 a_Ar_fillI_12 rfl
theorem a_Ar_fillI_14 : dk_at b_Ar_fillI 14 t_Ar_fillI_14 := dk_go 1 a_Ar_fillI_13 rfl
theorem a_Ar_fillI_17 : dk_at b_Ar_fillI 17 t_Ar_fillI_17 := dk_go 3 a_Ar_fillI_14 rfl
theorem a_Ar_fillI_20 : dk_at b_Ar_fillI 20 t_Ar_fillI_20 := dk_go 3 a_Ar_fillI_17 rfl
theorem d_Ar_fillI_0 : decode b_Ar_fillI 0 = .ok (.iconst 0, 1) := dk_0 a_Ar_fillI_0 (dko_3 _)
theorem d_Ar_fillI_1 : decode b_Ar_fillI 1 = .ok (.istore_n 2, 1) := dk_0 a_Ar_fillI_1 (dko_61 _)
theorem d_Ar_fillI_2 : decode b_Ar_fillI 2 = .ok (.aload_n 0, 1) := dk_0 a_Ar_fillI_2 (dko_42 _)
theorem d_Ar_fillI_3 : decode b_Ar_fillI 3 = .ok (.arraylength, 1) := dk_0 a_Ar_fillI_3 (dko_190 _)
theorem d_Ar_fillI_4 : decode b_Ar_fillI 4 = .ok (.istore_n 3, 1) := dk_0 a_Ar_fillI_4 (dko_62 _)
theorem d_Ar_fillI_5 : decode b_Ar_fillI 5 = .ok (.iload_n 2, 1) := dk_0 a_Ar_fillI_5 (dko_28 _)
theorem d_Ar_fillI_6 : decode b_Ar_fillI 6 = .ok (.iload_n 3, 1) := dk_0 a_Ar_fillI_6 (dko_29 _)
theorem d_Ar_fillI_7 : decode b_Ar_fillI 7 = .ok (.if_icmp .ge 13, 3) := dk_S2 a_Ar_fillI_7 (dko_162 _) (by decide +kernel)
theorem d_Ar_fillI_10 : decode b_Ar_fillI 10 = .ok (.aload_n 0, 1) := dk_0 a_Ar_fillI_10 (dko_42 _)
theorem d_Ar_fillI_11 : decode b_Ar_fillI 11 = .ok (.iload_n 2, 1) := dk_0 a_Ar_fillI_11 (dko_28 _)
theorem d_Ar_fillI_12 : decode b_Ar_fillI 12 = .ok (.iload_n 1, 1) := dk_0 a_Ar_fillI_12 (dko_27 _)
theorem d_Ar_fillI_13 : decode b_Ar_fillI 13 = .ok (.iastore, 1) := dk_0 a_Ar_fillI_13 (dko_79 _)
theorem d_Ar_fillI_14 : decode b_Ar_fillI 14 = .ok (.iinc 2 1, 3) := dk_US a_Ar_fillI_14 (dko_132 _) (by decide +kernel)
theorem d_Ar_fillI_17 : decode b_Ar_fillI 17 = .ok (.goto (-12), 3) := dk_S2 a_Ar_fillI_17 (dko_167 _) (by decide +kernel)
theorem d_Ar_fillI_20 : decode b_Ar_fillI 20 = .ok (.return_, 1) := dk_0 a_Ar_fillI_20 (dko_177 _)
set_option maxHeartbeats 4000000 in
set_option maxRecDepth 100000 in
theorem c_Ar_fillI (l : Launch) (dC : Nat → ClassId) (dI : Nat → Nat → Nat) (cI cB cZ cJ : ClassId) (v : Int32) (qa : Nat) (n : Nat) (zf : Nat → Int32) (hn : n < 2147483648) (sz : Nat) : Met l y_Ar_fillI w_Ar_fillI ({ frames := 0, cells := 0, slots := 0, locals := 0 }) (va_Pc [.ref qa, .int v] (PW dC dI cI cB cZ cJ [(qa, .inl (cI, n, .inl zf))] sz)) (va_Qv (fun _ : Unit => True) (fun (_ : Unit) (t : State) => va_P (dC, dI) classes [(qa, .inl (cI, n, .inl (fun _ => v)))] t.heap ∧ va_D (va_A [(qa, .inl (cI, n, .inl zf))] sz) [(qa, .inl (cI, n, .inl (fun _ => v)))]) (va_A [(qa, .inl (cI, n, .inl zf))] sz)) 0 0 (va_A [(qa, .inl (cI, n, .inl zf))] sz) := by
  refine Met.ofW (cc := b_Ar_fillI) (maxL := 4) (ret := none) (by decide) rfl ?_
  intro p e s m args below meth c s₁ B hml hv
  obtain ⟨rfl, hsz, hP, hK, hD⟩ := hv
  have hx := B.exec
  have hb := B.bytes
  have hr := B.returns
  have hts := atoms_spec (ws := w_Ar_fillI) B.pre
  have hown : s.vm.findClass R_Ar = some m.cls := findClass_of_methodNamed B.named
  have hlocks := B.notSynchronized
  subst hsz
  have hD := hD.self (sz := s.heap.size)
  generalize hAe : va_A [(qa, .inl (cI, n, .inl zf))] s.heap.size = A at hD ⊢
  have hA : ∀ q : Nat, s.heap.size ≤ q → A q := fun q h => by rw [← hAe]; exact Or.inr h
  have hS : va_S A s.heap s.heap [] := va_S.rf
  have hP : va_P (dC, dI) classes [(qa, .inl (cI, n, .inl zf))] s.heap := hP
  have hl := lv_entry ([.ref qa, .int v]) (n := 4) (Nat.le_of_ble_eq_true rfl)
  rw [lg_entry_eq]
  generalize (lg_sl ([.ref qa, .int v]) ++ List.replicate (4 - (lg_sl ([.ref qa, .int v])).length) Slot.unset).toArray = ls at hl ⊢
  have hl : lv_has ls 4 [(0, .ref qa), (1, .int v)] := hl
  refine lv_iconst (v := 0) hx hb d_Ar_fillI_0 (by decide) ?_
  refine lv_istore_n hx hb d_Ar_fillI_1 rfl hl (by decide) rfl (fun ls hl => ?_)
  have hl : lv_has ls 4 [(2, .int 0), (0, .ref qa), (1, .int v)] := hl
  refine lv_aload_n hx hb d_Ar_fillI_2 rfl (lv_at hl 1 rfl) ?_
  refine va_alen hx hb hK.1 hP 0 0 rfl rfl (v := (nI n)) rfl d_Ar_fillI_3 ?_
  refine lv_istore_n hx hb d_Ar_fillI_4 rfl hl (by decide) rfl (fun ls hl => ?_)
  have hl : lv_has ls 4 [(3, .int (nI n)), (2, .int 0), (0, .ref qa), (1, .int v)] := hl
  have hl : lv_has ls 4 [(2, .int (nI 0)), (3, .int (nI n)), (0, .ref qa), (1, .int v)] := lv_sub hl [1, 0, 2, 3] rfl
  refine lp_ind (σ := (Nat → Int32)) (fun i xs H locs ls => (∀ j, j < i → xs j = v) ∧ va_P (dC, dI) classes [(qa, .inl (cI, n, .inl xs))] H ∧ va_D A [(qa, .inl (cI, n, .inl xs))] ∧ va_S A s.heap H locs ∧ lv_has ls 4 [(2, .int (nI i)), (3, .int (nI n)), (0, .ref qa), (1, .int v)]) 5 n ?_ ?_ 0 zf _ _ _ (Nat.zero_le _) ⟨lt_0, hP, hD, hS, hl⟩
  · intro i xs H locs ls hi hI hk
    obtain ⟨hfill, hP, hD, hS, hl⟩ := hI
    refine lv_iload_n hx hb d_Ar_fillI_5 rfl (lv_at hl 0 rfl) ?_
    refine lv_iload_n hx hb d_Ar_fillI_6 rfl (lv_at hl 1 rfl) ?_
    refine lv_icmp_ge (tgt := 20) hx hb d_Ar_fillI_7 (by decide) (fun h => absurd h (nI_ge hi hn)) (fun _ => ?_)
    refine lv_aload_n hx hb d_Ar_fillI_10 rfl (lv_at hl 2 rfl) ?_
    refine lv_iload_n hx hb d_Ar_fillI_11 rfl (lv_at hl 0 rfl) ?_
    refine lv_iload_n hx hb d_Ar_fillI_12 rfl (lv_at hl 3 rfl) ?_
    refine va_iast hx hb hK.1 hP hD hS 0 0 rfl rfl (vp_in_nI hi hn) d_Ar_fillI_13 (fun H locs hP hD hS => ?_)
    have hP : va_P (dC, dI) classes [(qa, .inl (cI, n, .inl ((upd xs ((nI i) : Int32).toNatClampNeg v))))] H := hP
    have hD : va_D A [(qa, .inl (cI, n, .inl ((upd xs ((nI i) : Int32).toNatClampNeg v))))] := hD
    refine lv_iinc (k := 0) (v := (nI (i + 1))) hx hb d_Ar_fillI_14 hl rfl (by first | rfl | decide | exact nI_1 i | exact pv_1 j hj) (by decide) rfl (fun ls hl => ?_)
    have hl : lv_has ls 4 [(2, .int (nI (i + 1))), (3, .int (nI n)), (0, .ref qa), (1, .int v)] := hl
    refine lv_goto (tgt := 5) hx hb d_Ar_fillI_17 (by decide) ?_
    have hl : lv_has ls 4 [(2, .int (nI (i + 1))), (3, .int (nI n)), (0, .ref qa), (1, .int v)] := lv_sub hl [0, 1, 2, 3] rfl
    exact hk (upd xs ((nI i) : Int32).toNatClampNeg v) H locs ls ⟨lp_fill hfill (Nat.lt_trans hi hn), hP, hD, hS, hl⟩
  · intro xs H locs ls hI
    obtain ⟨hfill, hP, hD, hS, hl⟩ := hI
    have hP := wx_fun hP (k := 0) (g := fun _ => v) rfl hfill
    have hD := wx_D hD (k := 0) (g := fun _ => v) rfl
    have hP : va_P (dC, dI) classes [(qa, .inl (cI, n, .inl (fun _ => v)))] H := hP
    have hD : va_D A [(qa, .inl (cI, n, .inl (fun _ => v)))] := hD
    refine lv_iload_n hx hb d_Ar_fillI_5 rfl (lv_at hl 0 rfl) ?_
    refine lv_iload_n hx hb d_Ar_fillI_6 rfl (lv_at hl 1 rfl) ?_
    refine lv_icmp_ge (tgt := 20) hx hb d_Ar_fillI_7 (by decide) (fun _ => ?_) (fun h => absurd (nI_le (Nat.le_refl _) hn) h)
    exact W.vret hx hb hr (fun t ht hW => ⟨⟨(), rfl, trivial, ⟨by rw [ht]; exact hP, hD⟩⟩, hS.F ht⟩) hS.2.2 d_Ar_fillI_20
