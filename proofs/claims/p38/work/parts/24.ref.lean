/-! THE REFERENCE: leaves, one step -/
theorem zne0 {a : Nat} (ha : a < 2 ^ 31) (h : a ≠ 0) : ¬ nI a = 0 := zne (b := 0) ha (by decide) h
theorem zds_z {q : Nat → Nat} {a : Nat} : ∀ {k : Nat}, (∀ i, a ≤ i → i < a + k → q i = 0) → zds q (a + k) = zds q a
  | 0, _ => rfl
  | k + 1, h => by
    have e : zds q (a + (k + 1)) = zds q (a + k) + 3 ^ (a + k) * q (a + k) := rfl
    rw [e, h (a + k) (by omega) (by omega), zds_z (fun i h1 h2 => h i h1 (by omega))]
    simp
theorem zpm_4 {a : Nat} {A : Nat → Nat} {m : Nat} (ha : a ≤ 4) (hm : m < 81) : zpm a A m = true ↔ ∀ j, j < 4 → if j < a then zdg m j < A j else zdg m j = 0 := by
  rw [zpm_t]
  constructor
  · rintro ⟨h1, h2⟩ j hj
    split
    · exact h2 j ‹_›
    · exact zdg_0 h1 (by omega)
  · intro h
    refine ⟨?_, fun i hi => ?_⟩
    · obtain ⟨k, hk⟩ := Nat.le.dest ha
      have e : zds (zdg m) 4 = m := zds_id hm
      rw [← hk, zds_z (fun i h1 h2 => by have := h i (by omega); rw [if_neg (by omega)] at this; exact this)] at e
      rw [← e]
      exact zds_lt (fun i _ => by have := zdg_lt m i; omega)
    · have := h i (by omega)
      rw [if_pos hi] at this
      exact this
theorem zrtB {α : Type} (b : Bool) (f : Bool → Option α) : rtB (bI b) f = f b := by
  unfold rtB
  cases b
  · rw [if_pos zbIf]
  · rw [if_neg zbIt, if_pos (show bI true = 1 from rfl)]
section ZR
variable {a n : Nat} {v : Nat → Int32} {σ : St}
theorem z100 (s k i : Nat) : 100 * nI s + nI k + nI i = nI (100 * s + k + i) := by
  rw [show (100 : Int32) = nI 100 from rfl, pk_mul, nI_add, nI_add]
theorem z100_0 (s : Nat) : 100 * nI s + 0 = nI (100 * s) := by
  rw [show (100 : Int32) = nI 100 from rfl, pk_mul]
  exact nI_add (100 * s) 0
/-- how far the outcomes are put together -/
def zQM (s0 m0 c0 s c : Nat) : Nat := if s < s0 then 81 else if s = s0 then (if c < c0 then m0 + 1 else m0) else 0
def zQ (a n : Nat) (v : Nat → Int32) (s0 m0 c0 : Nat) (τ : St) : Prop := ∀ s c j, s < n → c < 2 ^ a → j < 81 → τ 90 (81 * (16 * s + c) + j) = zoF a (zac v s) (nI c) j (fun m => zbit (znx v s m)) (zQM s0 m0 c0 s c)
theorem zQM_lt {s0 m0 c0 s c : Nat} (h : s < s0) : zQM s0 m0 c0 s c = 81 := if_pos h
theorem zQM_gt {s0 m0 c0 s c : Nat} (h : s0 < s) : zQM s0 m0 c0 s c = 0 := by unfold zQM; rw [if_neg (by omega), if_neg (by omega)]
theorem zQM_y {s m0 c0 c : Nat} (h : c < c0) : zQM s m0 c0 s c = m0 + 1 := by unfold zQM; rw [if_neg (by omega), if_pos rfl, if_pos h]
theorem zQM_n {s m0 c0 c : Nat} (h : c0 ≤ c) : zQM s m0 c0 s c = m0 := by unfold zQM; rw [if_neg (by omega), if_pos rfl, if_neg (by omega)]
end ZR
