theorem shf_some : ∀ k, k < 221 → (shf k).isSome = true := by decide +kernel
def sP (k : Nat) : Nat := if 8 ≤ k ∧ k ≤ 15 then k + 83 else if 91 ≤ k ∧ k ≤ 98 then k - 83 else k
theorem sP_all : ∀ k, k < 221 → shf (sP k) = (shf k).map (fun s => (s.1, s.2.1, s.2.2.map (ts sP))) := by decide +kernel
theorem sP_sy : Sy sP := by
  have big : ∀ k, 221 ≤ k → sP k = k := fun k h => by
    unfold sP
    rw [if_neg (by omega), if_neg (by omega)]
  refine ⟨fun k => ?_, fun k n m l h => ?_, fun k h => ?_⟩
  · by_cases h1 : 8 ≤ k ∧ k ≤ 15
    · have e : sP k = k + 83 := if_pos h1
      rw [e]
      unfold sP
      rw [if_neg (by omega), if_pos (by omega)]
      omega
    · by_cases h2 : 91 ≤ k ∧ k ≤ 98
      · have e : sP k = k - 83 := by unfold sP; rw [if_neg h1, if_pos h2]
        rw [e]
        unfold sP
        rw [if_pos (by omega)]
        omega
      · have e : sP k = k := by unfold sP; rw [if_neg h1, if_neg h2]
        rw [e, e]
  · by_cases hk : k < 221
    · rw [sP_all k hk, h]; rfl
    · rw [shf_big k (by omega)] at h; cases h
  · by_cases hk : k < 221
    · have := shf_some k hk
      rw [h] at this; cases this
    · exact big k (by omega)
def sQ (k : Nat) : Nat := if 48 ≤ k ∧ k ≤ 56 then k + 51 else if 99 ≤ k ∧ k ≤ 107 then k - 51 else k
theorem sQ_all : ∀ k, k < 221 → shf (sQ k) = (shf k).map (fun s => (s.1, s.2.1, s.2.2.map (ts sQ))) := by decide +kernel
theorem sQ_sy : Sy sQ := by
  have big : ∀ k, 221 ≤ k → sQ k = k := fun k h => by
    unfold sQ
    rw [if_neg (by omega), if_neg (by omega)]
  refine ⟨fun k => ?_, fun k n m l h => ?_, fun k h => ?_⟩
  · by_cases h1 : 48 ≤ k ∧ k ≤ 56
    · have e : sQ k = k + 51 := if_pos h1
      rw [e]
      unfold sQ
      rw [if_neg (by omega), if_pos (by omega)]
      omega
    · by_cases h2 : 99 ≤ k ∧ k ≤ 107
      · have e : sQ k = k - 51 := by unfold sQ; rw [if_neg h1, if_pos h2]
        rw [e]
        unfold sQ
        rw [if_pos (by omega)]
        omega
      · have e : sQ k = k := by unfold sQ; rw [if_neg h1, if_neg h2]
        rw [e, e]
  · by_cases hk : k < 221
    · rw [sQ_all k hk, h]; rfl
    · rw [shf_big k (by omega)] at h; cases h
  · by_cases hk : k < 221
    · have := shf_some k hk
      rw [h] at this; cases this
    · exact big k (by omega)
def sN (k : Nat) : Nat := if 62 ≤ k ∧ k ≤ 76 then k + 46 else if 108 ≤ k ∧ k ≤ 122 then k - 46 else k
theorem sN_all : ∀ k, k < 221 → shf (sN k) = (shf k).map (fun s => (s.1, s.2.1, s.2.2.map (ts sN))) := by decide +kernel
theorem sN_sy : Sy sN := by
  have big : ∀ k, 221 ≤ k → sN k = k := fun k h => by
    unfold sN
    rw [if_neg (by omega), if_neg (by omega)]
  refine ⟨fun k => ?_, fun k n m l h => ?_, fun k h => ?_⟩
  · by_cases h1 : 62 ≤ k ∧ k ≤ 76
    · have e : sN k = k + 46 := if_pos h1
      rw [e]
      unfold sN
      rw [if_neg (by omega), if_pos (by omega)]
      omega
    · by_cases h2 : 108 ≤ k ∧ k ≤ 122
      · have e : sN k = k - 46 := by unfold sN; rw [if_neg h1, if_pos h2]
        rw [e]
        unfold sN
        rw [if_pos (by omega)]
        omega
      · have e : sN k = k := by unfold sN; rw [if_neg h1, if_neg h2]
        rw [e, e]
  · by_cases hk : k < 221
    · rw [sN_all k hk, h]; rfl
    · rw [shf_big k (by omega)] at h; cases h
  · by_cases hk : k < 221
    · have := shf_some k hk
      rw [h] at this; cases this
    · exact big k (by omega)
