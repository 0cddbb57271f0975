/-! EDITS -/
theorem zh1_le {h : Nat} (hh : h ≤ 4) : zh1 h ≤ 4 := by unfold zh1; split <;> omega
section SE
variable {a : Nat} {σ : St}
theorem e_hc {σ τ σ1 : St} (hg : zag zkc σ τ) (hg1 : zag [0, 1, 2, 3, 4] τ σ1) {k : Nat} (h : 25 ≤ k) (h2 : k ≠ 67) : σ1 k = σ k := by
  rw [hg1 k (fun q => by simp at q; omega)]
  exact hg k (zkc_out (Or.inr ⟨h, h2⟩))
end SE
