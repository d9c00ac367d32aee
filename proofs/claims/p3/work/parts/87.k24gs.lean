def kwT : String := "l c s bar part min h signal output step set wait until ramp in par if else repeat limit then ask do stop hold act "
def kwB : List Int32 := [108, 32, 99, 32, 115, 32, 98, 97, 114, 32, 112, 97, 114, 116, 32, 109, 105, 110, 32, 104, 32, 115, 105, 103, 110, 97, 108, 32, 111, 117, 116, 112, 117, 116, 32, 115, 116, 101, 112, 32, 115, 101, 116, 32, 119, 97, 105, 116, 32, 117, 110, 116, 105, 108, 32, 114, 97, 109, 112, 32, 105, 110, 32, 112, 97, 114, 32, 105, 102, 32, 101, 108, 115, 101, 32, 114, 101, 112, 101, 97, 116, 32, 108, 105, 109, 105, 116, 32, 116, 104, 101, 110, 32, 97, 115, 107, 32, 100, 111, 32, 115, 116, 111, 112, 32, 104, 111, 108, 100, 32, 97, 99, 116, 32]
def kwb (k : Int32) : Int32 := kwB.getD k.toNatClampNeg 0
def psB : List Int32 := [0, 18, 0, 0, 0, 0, 0, 0, 0, 0, 18, 260, 0, 576, 0, 0, 0, 0, 0, 0, 0, 18, 260, 576, 854, 0, 0, 0, 0, 0, 2, 2, 2, 2, 2, 2, 2, 2, 2, 2, 18450, 31710, 0, 0, 0, 0, 0, 0, 0, 0, 0, 0, 0, 0, 0, 0, 0, 0, 0, 0, 0, 18, 18, 18, 18, 18, 18, 18, 18, 18, 0, 2, 0, 0, 0, 0, 0, 0, 0, 0, 2, 2, 2, 2, 2, 2, 2, 2, 2, 2, 0, 0, 0, 0, 0, 0, 0, 0, 0, 0]
def psT (k : Int32) : Int32 := psB.getD k.toNatClampNeg 0
/-- the class's table, and the constant text, where the heap has them; nobody writes there -/
def GG (t : Nat) (adK adV : Nat → Nat) (A : Nat → Prop) (U : State) (H : Heap) : Prop := va_Z "BreweryHouse" "PASSES" "[I" (.ref t) A U H ∧ va_T .int t 100 (fun j => .int (psB.getD j 0)) A U H ∧ va_Z "java/lang/String" "COMPACT_STRINGS" "Z" (.int 1) A U H ∧ vk_S 1 [114] [kwB] adK adV A U H ∧ vk_R "BreweryHouse$ProgramReader" 22 kwT (adK 0) U ∧ va_Zq "jdk/internal/util/Preconditions" "SIOOBE_FORMATTER" "Ljava/util/function/BiFunction;" A U H
theorem GG.same {t : Nat} {adK adV : Nat → Nat} {A : Nat → Prop} {U V : State} {H : Heap} (hv : U.vm = V.vm) (h : GG t adK adV A U H) : GG t adK adV A V H :=
  ⟨va_Z.moved (hv ▸ Vm.Alike.refl U.vm) h.1, va_T.moved (hv ▸ Vm.Alike.refl U.vm) h.2.1, va_Z.moved (hv ▸ Vm.Alike.refl U.vm) h.2.2.1, vk_S.moved (hv ▸ Vm.Alike.refl U.vm) h.2.2.2.1, vk_R.same hv.symm h.2.2.2.2.1, va_Zq.moved (hv ▸ Vm.Alike.refl U.vm) h.2.2.2.2.2⟩
theorem GG.go {t : Nat} {adK adV : Nat → Nat} {A B : Nat → Prop} {s U : State} {H : Heap} {locs : List Loc} (h : GG t adK adV A s s.heap) (hS : va_S A s.heap H locs) (hF : ∀ q, B q → A q) (hW : s.WarmedH U.vm) : GG t adK adV B U H :=
  ⟨va_Z.moved hW.alike ((h.1.kept hS.2.1).narrow hF), va_T.moved hW.alike ((h.2.1.kept hS.2.1).narrow hF), va_Z.moved hW.alike ((h.2.2.1.kept hS.2.1).narrow hF), vk_S.moved hW.alike ((h.2.2.2.1.kept hS.2.1).narrow hF), vk_R.warm hW h.2.2.2.2.1, va_Zq.moved hW.alike ((h.2.2.2.2.2.kept hS.2.1).narrow hF)⟩
def PWG (dC : Nat → ClassId) (dI : Nat → Nat → Nat) (cI cB cZ cJ : ClassId) (t : Nat) (adK adV : Nat → Nat) (ws wa : va_W) (sz : Nat) : State → Prop := fun U => PW dC dI cI cB cZ cJ ws sz U ∧ GG t adK adV (va_A wa sz) U U.heap
theorem pwg_blind {dC : Nat → ClassId} {dI : Nat → Nat → Nat} {cI cB cZ cJ : ClassId} {t : Nat} {adK adV : Nat → Nat} {ws wa : va_W} {sz : Nat} {av : List Value} : FrameBlind (va_Pc av (PWG dC dI cI cB cZ cJ t adK adV ws wa sz)) := fun a U g mk q => by
  obtain ⟨q0, ⟨q1, qP, qK, qD⟩, qG⟩ := q
  exact ⟨q0, ⟨q1, qP, KK.same (u := U) (U := U.calling g mk a) rfl qK, qD⟩, GG.same (U := U) (V := U.calling g mk a) rfl qG⟩
theorem pwg_pre {dC : Nat → ClassId} {dI : Nat → Nat → Nat} {cI cB cZ cJ : ClassId} {t : Nat} {adK adV : Nat → Nat} {ws wa : va_W} {av : List Value} {s : State} {H : Heap} {A A1 : Nat → Prop} {locs : List Loc} (hP : va_P (dC, dI) classes ws H) (hK : KK dC dI cI cB cZ cJ s) (hD : va_D A1 ws) (hG : GG t adK adV A s s.heap) (hS : va_S A s.heap H locs) (hF : ∀ q, va_A wa H.size q → A q) : ∀ U : State, U.heap = H → s.WarmedH U.vm → va_Pc av (PWG dC dI cI cB cZ cJ t adK adV ws wa H.size) av.toArray U := fun U hU hW => ⟨rfl, ⟨by rw [hU], by rw [hU]; exact hP, hK.warm hW, hD.weaken (fun _ _ _ _ => trivial)⟩, by rw [hU]; exact hG.go hS hF hW⟩
def pv : Nat → Int32
  | 0 => 9 | 1 => 8 | 2 => 7 | 3 => 6 | 4 => 5 | 5 => 4 | 6 => 3 | 7 => 2 | 8 => 1 | 9 => 0 | _ => -1
theorem pv_1 : ∀ j, j < 10 → pv j + Int32.ofInt (-1) = pv (j + 1) := by decide +kernel
theorem pv_0 : ∀ j, j < 10 → ¬ pv j < 0 := by decide +kernel
def sh4 (i : Nat) : Int32 := (nI i) >>> ((4 : Int32) &&& 31)
theorem ir_pass0 : ∀ i, i < 160 → ∀ j, j < 10 → 0 ≤ ((sh4 i) * 10 + pv j).toInt ∧ ((sh4 i) * 10 + pv j).toInt < 100 := by decide +kernel
theorem ir_pass {i j : Nat} (hi : i < 160) (hj : j < 10) : vp_in (((sh4 i) * 10) + (pv j)) 100 := vp_in_iff.mpr (ir_pass0 i hi j hj)
theorem in_26 {x : Int32} (h : ¬ x < 0) (h2 : ¬ 26 ≤ x) : ¬ x + 1 < 0 := by
  obtain ⟨i, hi, rfl⟩ := nI_of2 (M := 25) (n := 25) (by decide) h (by simp only [Int32.le_iff_toInt_le] at *; simp at *; omega)
  rw [nI_1]
  exact nI_pos (by omega)
