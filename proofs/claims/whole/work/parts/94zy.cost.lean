/-! least costs: litres first, then pipes -/
/-- LL, LP are the least costs over the steps AD from the ends Bs on -/
def LxF (N : Nat) (sz : Nat → Int) (AD : Nat → Nat → Prop) (Bs : Nat → Prop) (LL LP : Nat → Int) : Prop := (∀ e, e < N → 1 ≤ sz e) ∧ (∀ e, e < N → Bs e → ¬ LL e = -1 ∧ (LL e < sz e ∨ (LL e = sz e ∧ LP e ≤ 1))) ∧ (∀ e g, e < N → g < N → AD e g → ¬ LL g = -1 → ¬ LL e = -1 ∧ (LL e < LL g + sz e ∨ (LL e = LL g + sz e ∧ LP e ≤ LP g + 1))) ∧ (∀ e, e < N → ¬ LL e = -1 → 1 ≤ LL e ∧ 1 ≤ LP e ∧ ((Bs e ∧ LL e = sz e ∧ LP e = 1) ∨ ∃ g, g < N ∧ AD e g ∧ ¬ LL g = -1 ∧ LL e = LL g + sz e ∧ LP e = LP g + 1))
def cle (LL : Nat → Int) (L : Int) (x : Nat) : Bool := decide (¬ LL x = -1 ∧ LL x ≤ L)
theorem ctb_mono {f g : Nat → Bool} : ∀ n, (∀ x, x < n → f x = true → g x = true) → ctb f n ≤ ctb g n := by
  intro n
  induction n with
  | zero => exact fun _ => Nat.le_refl _
  | succ n ih =>
    intro h
    have i := ih (fun x hx => h x (by omega))
    show ctb f n + (if f n = true then 1 else 0) ≤ ctb g n + (if g n = true then 1 else 0)
    by_cases q : f n = true
    · rw [if_pos q, if_pos (h n (by omega) q)]
      omega
    · rw [if_neg q]
      omega
theorem ctb_lt {f g : Nat → Bool} {k : Nat} (hf : f k = false) (hg : g k = true) : ∀ n, k < n → (∀ x, x < n → f x = true → g x = true) → ctb f n + 1 ≤ ctb g n := by
  intro n
  induction n with
  | zero => exact fun h => absurd h (Nat.not_lt_zero k)
  | succ n ih =>
    intro hk h
    show ctb f n + (if f n = true then 1 else 0) + 1 ≤ ctb g n + (if g n = true then 1 else 0)
    by_cases q : k = n
    · rw [← q, if_neg (by rw [hf]; decide), if_pos hg]
      have := ctb_mono (f := f) (g := g) k (fun x hx => h x (by omega))
      omega
    · have i := ih (by omega) (fun x hx => h x (by omega))
      by_cases q2 : f n = true
      · rw [if_pos q2, if_pos (h n (by omega) q2)]
        omega
      · rw [if_neg q2]
        omega
/-- no more pipes than ends -/
theorem lx_N {N : Nat} {sz : Nat → Int} {AD : Nat → Nat → Prop} {Bs : Nat → Prop} {LL LP : Nat → Int} (h : LxF N sz AD Bs LL LP) : ∀ (n : Nat) (e : Nat), e < N → ¬ LL e = -1 → LP e = (n : Int) → LP e ≤ ctb (cle LL (LL e)) N := by
  intro n
  induction n with
  | zero =>
    intro e he hn hp
    have := (h.2.2.2 e he hn).2.1
    omega
  | succ n ih =>
    intro e he hn hp
    have q := h.2.2.2 e he hn
    have me : cle LL (LL e) e = true := decide_eq_true ⟨hn, Int.le_refl _⟩
    rcases q.2.2 with ⟨_, _, p1⟩ | ⟨g, hg, _, gn, gl, gp⟩
    · have m := ctb_lt (f := fun _ => false) (g := cle LL (LL e)) (k := e) rfl me N he (fun x _ z => by cases z)
      omega
    · have s1 := h.1 e he
      have i := ih g hg gn (by omega)
      have nm : cle LL (LL g) e = false := decide_eq_false (fun z => by have := z.2; omega)
      have m := ctb_lt (f := cle LL (LL g)) (g := cle LL (LL e)) (k := e) nm me N he (fun x _ z => by
        have z' := of_decide_eq_true z
        exact decide_eq_true ⟨z'.1, by have := z'.2; omega⟩)
      omega
theorem lx_le {N : Nat} {sz : Nat → Int} {AD : Nat → Nat → Prop} {Bs : Nat → Prop} {LL LP : Nat → Int} (h : LxF N sz AD Bs LL LP) {e : Nat} (he : e < N) (hn : ¬ LL e = -1) : LP e ≤ N := by
  have p := (h.2.2.2 e he hn).2.1
  have q := lx_N h (LP e).toNat e he hn (by omega)
  have r := ctb_le (cle LL (LL e)) N
  omega
/-- never too low: a way's litres and pipes -/
def LwB (N : Nat) (LL LP leg : Nat → Int) : Prop := ∀ e, e < N → leg e < 536870912 → ∃ L P : Int, leg e = 32 * L + P ∧ 1 ≤ P ∧ ¬ LL e = -1 ∧ (LL e < L ∨ (LL e = L ∧ LP e ≤ P))
/-- low enough for ways of at most r pipes -/
def UpB (N : Nat) (LL LP leg : Nat → Int) (r : Int) : Prop := ∀ e, e < N → ¬ LL e = -1 → LP e ≤ r → leg e ≤ 32 * LL e + LP e
theorem lw_step {N : Nat} {sz : Nat → Int} {AD : Nat → Nat → Prop} {Bs : Nat → Prop} {LL LP leg : Nat → Int} (h : LxF N sz AD Bs LL LP) (lw : LwB N LL LP leg) {e g : Nat} (he : e < N) (hg : g < N) (ad : AD e g) (lg : leg g < 536870912) : ∃ L P : Int, 32 * sz e + 1 + leg g = 32 * L + P ∧ 1 ≤ P ∧ ¬ LL e = -1 ∧ (LL e < L ∨ (LL e = L ∧ LP e ≤ P)) := by
  obtain ⟨L, P, e1, p1, gn, lx⟩ := lw g hg lg
  have q := h.2.2.1 e g he hg ad gn
  refine ⟨L + sz e, P + 1, by omega, by omega, q.1, ?_⟩
  rcases q.2 with q | q <;> rcases lx with lx | lx <;> omega
theorem lw_base {N : Nat} {sz : Nat → Int} {AD : Nat → Nat → Prop} {Bs : Nat → Prop} {LL LP : Nat → Int} (h : LxF N sz AD Bs LL LP) {e : Nat} (he : e < N) (b : Bs e) : ∃ L P : Int, 32 * sz e + 1 = 32 * L + P ∧ 1 ≤ P ∧ ¬ LL e = -1 ∧ (LL e < L ∨ (LL e = L ∧ LP e ≤ P)) := by
  have q := h.2.1 e he b
  refine ⟨sz e, 1, rfl, by omega, q.1, ?_⟩
  rcases q.2 with q | q
  · exact Or.inl q
  · exact Or.inr ⟨q.1, q.2⟩
/-- both bounds: what the class reckons is what the reference reckons -/
theorem lg_eq {N : Nat} {LL LP leg : Nat → Int} (lw : LwB N LL LP leg) {r : Int} (up : UpB N LL LP leg r) {e : Nat} (he : e < N) (hn : ¬ LL e = -1) (hr : LP e ≤ r) (h31 : LP e ≤ 31) (hL : LL e ≤ 1000000) : leg e = 32 * LL e + LP e := by
  have u := up e he hn hr
  obtain ⟨L, P, e1, p1, _, lx⟩ := lw e he (by omega)
  rcases lx with lx | lx <;> omega
/-- no step is better than the one that is due -/
theorem lg_min {N : Nat} {sz : Nat → Int} {AD : Nat → Nat → Prop} {Bs : Nat → Prop} {LL LP leg : Nat → Int} (h : LxF N sz AD Bs LL LP) (lw : LwB N LL LP leg) {e g : Nat} (he : e < N) (hg : g < N) (ad : AD e g) (lg : leg g < 536870912) (h31 : LP e ≤ 31) : 32 * LL e + LP e ≤ 32 * sz e + 1 + leg g ∧ (32 * LL e + LP e = 32 * sz e + 1 + leg g → LL g = LL e - sz e ∧ LP g = LP e - 1) := by
  obtain ⟨L, P, e1, p1, gn, lx⟩ := lw g hg lg
  have q := h.2.2.1 e g he hg ad gn
  refine ⟨?_, fun z => ?_⟩
  · rcases q.2 with q | q <;> rcases lx with lx | lx <;> omega
  · rcases q.2 with q | q <;> rcases lx with lx | lx <;> omega
