section LP
variable {p : Program} {l : Launch} {e : Env} {R : Room} {s : State} {m : MethodId} {args : Array Value} {below : List Frame} {meth : Method} {c : Code} {cells slots : Nat} {Q : State → Prop}
/-- a loop: from i up to n, with what is so at its head -/
theorem lp_ind {σ : Type} (I : Nat → σ → Heap → List Loc → Array Slot → Prop) (pc n : Nat)
    (hs : ∀ (i : Nat) (x : σ) (H : Heap) (locs : List Loc) (ls : Array Slot), i < n → I i x H locs ls → (∀ (x' : σ) (H' : Heap) (locs' : List Loc) (ls' : Array Slot), I (i + 1) x' H' locs' ls' → W p l e R s m args below meth c H' locs' cells slots Q (F0 m pc ls' [])) → W p l e R s m args below meth c H locs cells slots Q (F0 m pc ls []))
    (hx : ∀ (x : σ) (H : Heap) (locs : List Loc) (ls : Array Slot), I n x H locs ls → W p l e R s m args below meth c H locs cells slots Q (F0 m pc ls [])) :
    ∀ (i : Nat) (x : σ) (H : Heap) (locs : List Loc) (ls : Array Slot), i ≤ n → I i x H locs ls → W p l e R s m args below meth c H locs cells slots Q (F0 m pc ls []) := by
  have key : ∀ (d i : Nat) (x : σ) (H : Heap) (locs : List Loc) (ls : Array Slot), i + d = n → I i x H locs ls → W p l e R s m args below meth c H locs cells slots Q (F0 m pc ls []) := by
    intro d
    induction d with
    | zero =>
      intro i x H locs ls h hI
      have : i = n := by omega
      subst this
      exact hx x H locs ls hI
    | succ d ih =>
      intro i x H locs ls h hI
      exact hs i x H locs ls (by omega) hI (fun x' H' locs' ls' hI' => ih (i + 1) x' H' locs' ls' (by omega) hI')
  intro i x H locs ls h hI
  exact key (n - i) i x H locs ls (by omega) hI
end LP
theorem ir_6 {x : Int32} (h0 : ¬ x < 0) (h1 : ¬ 43 < x) (k : Nat) (hk : k < 6) : vp_in (6 * x + nI k) 264 := by
  obtain ⟨i, hi, rfl⟩ := nI_of2 (M := 43) (n := 43) (by decide) h0 (Int32.not_lt.mp h1)
  have e : (6 : Int32) * nI i + nI k = nI (6 * i + k) := by
    rw [show (6 : Int32) = nI 6 from rfl, pk_mul, nI_add]
  rw [e]
  exact vp_in_nI (by omega) (by omega)
