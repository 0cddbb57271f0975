/-! WHAT BOTH SYSTEMS SHARE between calls -/
/-- the ring holds h rows -/
def zHc (a : Nat) (σ : St) (P : Nat → Nat → Int32) (h : Nat) : Prop := ∃ o, o < 4 ∧ σ 67 2 = nI h ∧ σ 67 1 = nI o ∧ ∀ k, k < h → ∃ n, zWF a n (P k) ∧ zRS a n (P k) σ (5 + 5 * ((o + k) % 4))
def zT (σ : St) : Prop := ∃ l, l ≤ 60 ∧ σ 73 5 = nI l ∧ σ 87 8 = nI l ∧ ∀ i, i < l → ∃ c, 32 ≤ c ∧ c ≤ 126 ∧ σ 74 i = nI c ∧ σ 92 i = nI c
theorem zHc.ag {a : Nat} {σ τ : St} {P : Nat → Nat → Int32} {h : Nat} (H : zHc a σ P h) (e : ∀ k, (5 ≤ k ∧ k < 25) ∨ k = 67 → τ k = σ k) : zHc a τ P h := by
  obtain ⟨o, ho, h1, h2, h3⟩ := H
  refine ⟨o, ho, by rw [e 67 (Or.inr rfl)]; exact h1, by rw [e 67 (Or.inr rfl)]; exact h2, fun k hk => ?_⟩
  obtain ⟨n, hw, hr⟩ := h3 k hk
  have : (o + k) % 4 < 4 := Nat.mod_lt _ (by decide)
  refine ⟨n, hw, hr.ag (by rw [e _ (by omega)]) (e _ (by omega)) (e _ (by omega)) (e _ (by omega)) (e _ (by omega))⟩
theorem zT.ag {σ τ : St} (H : zT σ) (e73 : τ 73 5 = σ 73 5) (e74 : τ 74 = σ 74) (e92 : τ 92 = σ 92) (e8 : τ 87 8 = σ 87 8) : zT τ := by
  unfold zT at H ⊢
  rw [e73, e74, e92, e8]
  exact H
/-- the first system's own working cells -/
def zwc : List Nat := [72, 79, 80, 81, 83, 84, 85, 86]
/-! how many moves -/
def zpr (B : Nat → Nat) : Nat → Nat
  | 0 => 1
  | i + 1 => zpr B i * B i
theorem zpm_hi {a : Nat} {B : Nat → Nat} {D k : Nat} (hD : D < 3) (hk : k < 3 ^ a) : zpm (a + 1) B (3 ^ a * D + k) = (zpm a B k && decide (D < B a)) := by
  have hdg : ∀ i, i < a → zdg (3 ^ a * D + k) i = zdg k i := fun i hi => by
    unfold zdg
    obtain ⟨d, rfl⟩ : ∃ d, a = i + 1 + d := ⟨a - (i + 1), by omega⟩
    rw [Nat.add_comm, show 3 ^ (i + 1 + d) * D = 3 ^ i * (3 * (3 ^ d * D)) by rw [Nat.pow_add, Nat.pow_succ]; simp only [Nat.mul_assoc]]
    rw [Nat.add_mul_div_left _ _ (Nat.pow_pos (by decide)), Nat.add_mul_mod_self_left]
  have hda : zdg (3 ^ a * D + k) a = D := by
    unfold zdg
    rw [Nat.add_comm, Nat.add_mul_div_left _ _ (Nat.pow_pos (by decide)), Nat.div_eq_of_lt hk, Nat.zero_add, Nat.mod_eq_of_lt hD]
  have hlt : 3 ^ a * D + k < 3 ^ (a + 1) := by
    have : 3 ^ a * D ≤ 3 ^ a * 2 := Nat.mul_le_mul_left _ (by omega)
    rw [Nat.pow_succ]
    omega
  apply Bool.eq_iff_iff.mpr
  rw [zpm_t, Bool.and_eq_true, zpm_t, decide_eq_true_iff]
  constructor
  · rintro ⟨-, h⟩
    refine ⟨⟨hk, fun i hi => ?_⟩, ?_⟩
    · rw [← hdg i hi]; exact h i (by omega)
    · have := h a (by omega)
      rw [hda] at this
      exact this
  · rintro ⟨⟨-, h⟩, h2⟩
    refine ⟨hlt, fun i hi => ?_⟩
    rcases Nat.lt_or_ge i a with q | q
    · rw [hdg i q]; exact h i q
    · have : i = a := by omega
      subst this
      rw [hda]
      exact h2
theorem zpm_cnt1 {a : Nat} {B : Nat → Nat} : ∀ {D : Nat}, D ≤ 3 → fb_ct (zpm (a + 1) B) (3 ^ a * D) = fb_ct (zpm a B) (3 ^ a) * (if D ≤ B a then D else B a)
  | 0, _ => by simp [fb_ct]
  | D + 1, h => by
    have ih := zpm_cnt1 (a := a) (B := B) (D := D) (by omega)
    rw [Nat.mul_succ, fb_ct_split, ih]
    rcases Nat.lt_or_ge D (B a) with q | q
    · rw [fb_ct_cong (fun k hk => by rw [zpm_hi (by omega) hk, decide_eq_true q, Bool.and_true]; : ∀ k, k < 3 ^ a → zpm (a + 1) B (3 ^ a * D + k) = zpm a B k), if_pos (by omega), if_pos (by omega), Nat.mul_succ]
    · rw [(fb_ct_zero (p := fun k => zpm (a + 1) B (3 ^ a * D + k))).mpr (fun k hk => by rw [zpm_hi (by omega) hk, decide_eq_false (by omega), Bool.and_false]), Nat.add_zero]
      by_cases e : D = B a
      · rw [if_pos (by omega), if_neg (by omega), e]
      · rw [if_neg (by omega), if_neg (by omega)]
theorem zpm_cnt {B : Nat → Nat} : ∀ {a : Nat}, (∀ i, i < a → B i ≤ 3) → fb_ct (zpm a B) (3 ^ a) = zpr B a
  | 0, _ => by
    show fb_ct (zpm 0 B) (0 + 1) = 1
    rw [fb_ct_succ, zpm_t.mpr ⟨by decide, fun i hi => absurd hi (Nat.not_lt_zero i)⟩]
    rfl
  | a + 1, h => by
    have ih := zpm_cnt (B := B) (a := a) (fun i hi => h i (by omega))
    have h3 := h a (by omega)
    rw [Nat.pow_succ, zpm_cnt1 (Nat.le_refl 3), ih]
    show _ = zpr B a * B a
    congr 1
    split <;> omega
theorem zpr_le {B : Nat → Nat} : ∀ {a : Nat}, (∀ i, i < a → B i ≤ 3) → zpr B a ≤ 3 ^ a
  | 0, _ => Nat.le_refl _
  | a + 1, h => by
    unfold zpr
    rw [Nat.pow_succ]
    exact Nat.mul_le_mul (zpr_le (fun i hi => h i (by omega))) (h a (by omega))
theorem zpr_pos {B : Nat → Nat} : ∀ {a : Nat}, (∀ i, i < a → 1 ≤ B i) → 1 ≤ zpr B a
  | 0, _ => Nat.le_refl _
  | a + 1, h => by
    unfold zpr
    exact Nat.mul_pos (zpr_pos (fun i hi => h i (by omega))) (h a (by omega))
theorem zpr_ext {B C : Nat → Nat} : ∀ {a : Nat}, (∀ i, i < a → B i = C i) → zpr B a = zpr C a
  | 0, _ => rfl
  | a + 1, h => by
    unfold zpr
    rw [zpr_ext (fun i hi => h i (by omega)), h a (by omega)]
section SQ
variable {a : Nat} {σ : St}
theorem z_possible {n : Nat} {v : Nat → Int32} (hK : zK a σ) (hW : zWF a n v) (hR : zRS a n v σ 0) {s : Nat} (hs : s < n) : m_X7_possibleMoves σ (nI s) = some (nI (fb_ct (zpm a (zac v s)) (3 ^ a))) := by
  have h81 := za_81 hK.2.1
  have hn := hW.1
  unfold m_X7_possibleMoves
  refine zl_e (fun i => (nI (fb_ct (zpm a (zac v s)) i), nI i)) (3 ^ a) (by omega) rfl ?_
  intro k i hi hk
  unfold m_X7_possibleMoves_b4
  rw [hK.2.2.2.2.1]
  dsimp only
  rcases Nat.lt_or_ge i (3 ^ a) with q | q
  · have hk := hk q
    rw [fb_ct_succ] at hk
    rw [if_neg (znle (by omega) (by omega) q), z_target hK.2.1 hn hK.2.2.2.2.1 hR hs q, nI_1, nI_1, ← hk]
    cases e : zpm a (zac v s) i
    · rw [if_neg Bool.false_ne_true, if_pos rfl]; rfl
    · rw [if_pos rfl, (hW.nx hs (show i < 81 by omega)).1, if_neg (znm1 (by have := (hW.nx hs (show i < 81 by omega)).2; omega))]; rfl
  · have : i = 3 ^ a := by omega
    subst this
    rw [if_pos (zle (by omega) (by omega) q)]
theorem zoFm {α : Type} {t : Nat} (ht : isF t = true) (b : Option α) (g : Nat → Option α) : oF (some t) b g = g t := by
  show (if isF t then g t else none) = _
  rw [if_pos ht]
end SQ
