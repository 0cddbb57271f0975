/-! QUESTIONS of one step, of formulas -/
theorem zWF.n_eq {a n m : Nat} {v : Nat → Int32} (h : zWF a n v) (h2 : zWF a m v) : n = m := by
  have e := h.2.1.symm.trans h2.2.1
  have := h.1
  have := h2.1
  exact (nI_eq (by omega) (by omega)).mp e
theorem zpt_eq {a : Nat} {A : Nat → Nat} {c : Int32} {m j : Nat} (hj : zjt a A c j = true) : zpt a c m = j ↔ ∀ i, i < a → bt c i = true → zdg m i = zdg j i := by
  obtain ⟨h1, h2⟩ := of_decide_eq_true hj
  constructor
  · rintro e i hi hb
    have := zpt_dg (c := c) (m := m) hi
    rw [e, hb, if_pos rfl] at this
    exact this.symm
  · intro h
    refine zdg_inj zpt_lt (zpm_lt h1) fun i hi => ?_
    rw [zpt_dg hi]
    cases hb : bt c i
    · rw [h2 i hi hb]; rfl
    · rw [if_pos rfl]; exact h i hi hb
section SA
variable {a : Nat} {σ : St}
theorem z_isQuestion {n : Nat} (hK : zK a σ) (h7 : σ 0 7 = nI n) (x y : Int32) : m_X9_isQuestion σ x y = (zin x (2 ^ a) && zin y n) := by
  unfold m_X9_isQuestion
  rw [z_hasCoalition hK.2.2.2.1, z_hasState h7]
  cases zin x (2 ^ a)
  · rw [if_pos zbIf]; rfl
  · rw [if_neg zbIt]
    cases zin y n
    · rw [if_pos zbIf]; rfl
    · rw [if_neg zbIt]; rfl
/-! formulas -/
def zwh (v : Nat → Int32) (a n : Nat) (f : zFd) (len : Nat) : Int32 := zev v a n f len (len - 1)
theorem z_top {len : Nat} (h : 1 ≤ len) (h2 : len ≤ 60) : nI len - 1 = nI (len - 1) := pk_sub (b := 1) h
theorem z_whole {n : Nat} {v : Nat → Int32} (hK : zK a σ) (hW : zWF a n v) (hR : zRS a n v σ 0) {t len : Nat} {f : zFd} (ht : isF t = true) (hf : zFok a len f) (hc : zFc σ t len f) :
    zP (fun u => u.1 = zwh v a n f len ∧ zag [72, 79, 80] σ u.2) (m_X3_whole σ t) := by
  have hnL : ∀ k, 25 ≤ k → k < 65 → k ∉ [72, 79, 80] := fun k h1 h2 h => by simp at h; omega
  have h1 := hf.1
  have h2 := hf.2.1
  unfold m_X3_whole
  refine zbind (z_look hK hW hR ht hf hc) ?_
  rintro τ ⟨hg, hd⟩
  refine zP_some ⟨?_, hg⟩
  unfold m_X3_setOf
  dsimp only
  rw [(hc.g ht hg hnL).1, z_top h1 h2, zrA (by decide) (by omega)]
  exact hd _ (by omega)
end SA
