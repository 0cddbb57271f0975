/-! THE REFERENCE: leaves, one step -/
theorem zne0 {a : Nat} (ha : a < 2 ^ 31) (h : a ≠ 0) : ¬ nI a = 0 := zne (b := 0) ha (by decide) h
theorem zds_z {q : Nat → Nat} {a : Nat} : ∀ {k : Nat}, (∀ i, a ≤ i → i < a + k → q i = 0) → zds q (a + k) = zds q a
  | 0, _ => rfl
  | k + 1, h => by
    have e : zds q (a + (k + 1)) = zds q (a + k) + 3 ^ (a + k) * q (a + k) := rfl
    rw [e, h (a + k) (by omega) (by omega), zds_z (fun i h1 h2 => h i h1 (by omega))]
    simp
theorem zpm_4 {a : Nat} {A : Nat → Nat} {m : Nat} (ha : a ≤ 4) (hm : m < 81) : zpm a A m = true ↔ ∀ j, j < 4 → if j < a then zdg m j < A j else zdg m j = 0 := by
  rw [zpm_t]
  constructor
  · rintro ⟨h1, h2⟩ j hj
    split
    · exact h2 j ‹_›
    · exact zdg_0 h1 (by omega)
  · intro h
    refine ⟨?_, fun i hi => ?_⟩
    · obtain ⟨k, hk⟩ := Nat.le.dest ha
      have e : zds (zdg m) 4 = m := zds_id hm
      rw [← hk, zds_z (fun i h1 h2 => by have := h i (by omega); rw [if_neg (by omega)] at this; exact this)] at e
      rw [← e]
      exact zds_lt (fun i _ => by have := zdg_lt m i; omega)
    · have := h i (by omega)
      rw [if_pos hi] at this
      exact this
theorem zrtB {α : Type} (b : Bool) (f : Bool → Option α) : rtB (bI b) f = f b := by
  unfold rtB
  cases b
  · rw [if_pos zbIf]
  · rw [if_neg zbIt, if_pos (show bI true = 1 from rfl)]
/-- the reference's cells: what may have changed: the cells L, and of its object the fields J -/
def zah (L J : List Nat) (σ τ : St) : Prop := (∀ k, k ∉ L → k ≠ 87 → τ k = σ k) ∧ ∀ j, j ∉ J → τ 87 j = σ 87 j
theorem zah.rf {L J : List Nat} {σ : St} : zah L J σ σ := ⟨fun _ _ _ => rfl, fun _ _ => rfl⟩
theorem zah.tr {L J : List Nat} {σ τ ρ : St} (h : zah L J σ τ) (h2 : zah L J τ ρ) : zah L J σ ρ := ⟨fun k hk h8 => (h2.1 k hk h8).trans (h.1 k hk h8), fun j hj => (h2.2 j hj).trans (h.2 j hj)⟩
theorem zah.sub {L J L' J' : List Nat} {σ τ : St} (h : zah L J σ τ) (hL : ∀ k, k ∈ L → k ∈ L') (hJ : ∀ k, k ∈ J → k ∈ J') : zah L' J' σ τ := ⟨fun k hk h8 => h.1 k (fun q => hk (hL k q)) h8, fun j hj => h.2 j (fun q => hj (hJ j q))⟩
theorem zah.st {L J : List Nat} {σ τ : St} {k j : Nat} {v : Int32} (h : zah L J σ τ) (hk : k ∈ L) (h87 : 87 ∉ L) : zah L J σ (up τ k j v) := ⟨fun c hc h8 => by
  rw [zup_n (fun q => hc (by rw [q]; exact hk))]
  exact h.1 c hc h8, fun i hi => by
  rw [zup_n (fun q => h87 (by rw [q]; exact hk))]
  exact h.2 i hi⟩
theorem zah.u7 {L J : List Nat} {σ τ : St} {j : Nat} {v : Int32} (h : zah L J σ τ) (hj : j ∈ J) : zah L J σ (up τ 87 j v) := ⟨fun c hc h8 => by
  rw [zup_n h8]
  exact h.1 c hc h8, fun i hi => by
  rw [zup_sn (fun q => hi (by rw [q]; exact hj))]
  exact h.2 i hi⟩
def zR (a n : Nat) (v : Nat → Int32) (σ : St) : Prop := 1 ≤ a ∧ a ≤ 4 ∧ σ 87 0 = nI a ∧ σ 88 = v ∧ zWF a n v
theorem zR.g {a n : Nat} {v : Nat → Int32} {σ τ : St} {L J : List Nat} (h : zR a n v σ) (hg : zah L J σ τ) (hL : 88 ∉ L ∧ 0 ∉ J) : zR a n v τ :=
  ⟨h.1, h.2.1, (hg.2 0 hL.2).trans h.2.2.1, (hg.1 88 hL.1 (by decide)).trans h.2.2.2.1, h.2.2.2.2⟩
theorem zR.ag {a n : Nat} {v : Nat → Int32} {σ τ : St} {L : List Nat} (h : zR a n v σ) (hg : zag L σ τ) (hL : 88 ∉ L ∧ 87 ∉ L) : zR a n v τ :=
  ⟨h.1, h.2.1, by rw [hg 87 hL.2]; exact h.2.2.1, (hg 88 hL.1).trans h.2.2.2.1, h.2.2.2.2⟩
/-- what is remembered of all outcomes is right, or not to be used -/
def zC (a n : Nat) (v : Nat → Int32) (σ : St) : Prop := σ 87 5 = 0 ∨ (σ 87 5 = 1 ∧ ∀ s c j, s < n → c < 2 ^ a → j < 81 → σ 90 (81 * (16 * s + c) + j) = zoc v a (nI c) s j)
theorem zC.g {a n : Nat} {v : Nat → Int32} {σ τ : St} {L J : List Nat} (h : zC a n v σ) (hg : zah L J σ τ) (hL : 90 ∉ L ∧ 5 ∉ J) : zC a n v τ := by
  unfold zC at h ⊢
  rw [hg.2 5 hL.2, hg.1 90 hL.1 (by decide)]
  exact h
theorem zC.ag {a n : Nat} {v : Nat → Int32} {σ τ : St} {L : List Nat} (h : zC a n v σ) (hg : zag L σ τ) (hL : 90 ∉ L ∧ 87 ∉ L) : zC a n v τ := by
  unfold zC at h ⊢
  rw [hg 87 hL.2, hg 90 hL.1]
  exact h
section ZR
variable {a n : Nat} {v : Nat → Int32} {σ : St}
theorem r_isState (h : zR a n v σ) {x : Int32} : m_X10_isState σ x = some (zin x n) := by
  have hn := h.2.2.2.2.1
  unfold m_X10_isState
  rw [show (1200 : Int32) = nI 1200 from rfl, zck (by decide) (by decide), h.2.2.2.1, h.2.2.2.2.2.1, zin_in (by omega)]
theorem r_isAgent (h : zR a n v σ) {x : Int32} : m_X10_isAgent σ x = zin x a := by
  have ha := h.2.1
  unfold m_X10_isAgent
  rw [h.2.2.1, zin_in (by omega)]
theorem r_isSet (h : zR a n v σ) {x : Int32} : m_X10_isSet σ x = some (zin x (2 ^ n)) := by
  have hn := h.2.2.2.2.1
  have h2 := z_2n hn
  unfold m_X10_isSet
  rw [show (1200 : Int32) = nI 1200 from rfl, zck (by decide) (by decide), h.2.2.2.1, h.2.2.2.2.2.1, show (1 : Int32) <<< (nI n &&& 31) = nI (2 ^ n) from zbit_n hn, zin_in (by omega)]
theorem r_isCoalition (h : zR a n v σ) {x : Int32} : m_X10_isCoalition σ x = zin x (2 ^ a) := by
  have ha := h.2.1
  have h2 := za_81 ha
  unfold m_X10_isCoalition
  rw [h.2.2.1, show (1 : Int32) <<< (nI a &&& 31) = nI (2 ^ a) from zbit_n (by omega), zin_in (by omega)]
theorem r_all (h : zR a n v σ) : m_X10_all σ = some (zall n) := by
  unfold m_X10_all
  rw [show (1200 : Int32) = nI 1200 from rfl, zck (by decide) (by decide), h.2.2.2.1, h.2.2.2.2.2.1]
  rfl
theorem r_power {i : Nat} (h : i < 4) : m_X10_power (nI i) = nI (3 ^ i) := (by decide +kernel : ∀ i, i < 4 → m_X10_power (nI i) = nI (3 ^ i)) i h
theorem r_digit {m i : Nat} (hm : m < 2 ^ 31) (hi : i < 4) : m_X10_digit (nI m) (nI i) = some (nI (zdg m i)) := by
  have h3 := za_81 (show i ≤ 4 by omega)
  unfold m_X10_digit dvz
  rw [r_power hi, if_neg (zne0 (a := 3 ^ i) (by omega) (by omega)), pk_div hm (by omega) (by omega), zm3 (Nat.lt_of_le_of_lt (Nat.div_le_self _ _) hm)]
  rfl
theorem z100 (s k i : Nat) : 100 * nI s + nI k + nI i = nI (100 * s + k + i) := by
  rw [show (100 : Int32) = nI 100 from rfl, pk_mul, nI_add, nI_add]
theorem z100_0 (s : Nat) : 100 * nI s + 0 = nI (100 * s) := by
  rw [show (100 : Int32) = nI 100 from rfl, pk_mul]
  exact nI_add (100 * s) 0
theorem r_isMove (h : zR a n v σ) {s m : Nat} (hs : s < n) (hm : m < 81) : m_X10_isMove σ (nI s) (nI m) = some (zpm a (zac v s) m) := by
  have hn := h.2.2.2.2.1
  have ha := h.2.1
  unfold m_X10_isMove
  rw [show m_X10_in (nI m) 0 80 = zin (nI m) 81 from zin_in (n := 81) (by decide), zin_nI (by decide) hm]
  refine zl (P := fun r => r = some (zpm a (zac v s) m)) (fun i z => z.2 = nI i ∧ ∃ b, z.1 = bI b ∧ (b = true ↔ ∀ j, j < i → if j < a then zdg m j < zac v s j else zdg m j = 0)) 4 (by decide) ⟨nI_0.symm, true, rfl, by simp⟩ ?_
  rintro k i ⟨x, y⟩ hi ⟨hy, b, hx, hb⟩ hk
  dsimp only at hx hy ⊢
  subst hx hy
  unfold m_X10_isMove_b11
  rcases Nat.lt_or_ge i 4 with q | q
  · rw [if_neg (show ¬ (4 : Int32) ≤ nI i from znle (a := 4) (by decide) (by omega) q)]
    have nx : ∀ d : Bool, (d = true ↔ if i < a then zdg m i < zac v s i else zdg m i = 0) → b = true → k (bI d, nI i + 1) = some (zpm a (zac v s) m) := by
      intro d hd hbt
      rw [nI_1]
      refine hk q _ ⟨rfl, d, rfl, ?_⟩
      constructor
      · intro e j hj
        rcases Nat.lt_or_ge j i with w | w
        · exact hb.mp hbt j w
        · have : j = i := by omega
          subst this
          exact hd.mp e
      · intro e
        exact hd.mpr (e i (by omega))
    cases b
    · rw [if_pos zbIf, zrtB]
      congr 1
      cases e : zpm a (zac v s) m
      · rfl
      · exact absurd (hb.mpr (fun j hj => (zpm_4 ha hm).mp e j (by omega))) (by decide)
    · rw [if_neg zbIt, h.2.2.1]
      have hd3 := zdg_lt m i
      rcases Nat.lt_or_ge i a with w | w
      · rw [if_neg (znle (by omega) (by omega) w), r_digit (by omega) q]
        obtain ⟨h1, h2, h3⟩ := h.2.2.2.2.ac hs w
        rw [Option.bind_some, show (1 : Int32) = nI 1 from rfl, z100, zck (by decide) (by omega), nI_clamp (by omega), h.2.2.2.1, h1]
        rcases Nat.lt_or_ge (zdg m i) (zac v s i) with e | e
        · rw [if_neg (znle (by omega) (by omega) e)]
          exact nx true (by rw [if_pos w]; simp [e]) rfl
        · rw [if_pos (zle (by omega) (by omega) e)]
          exact nx false (by rw [if_pos w]; simp; omega) rfl
      · rw [if_pos (zle (by omega) (by omega) w), r_digit (by omega) q, Option.bind_some]
        by_cases e : zdg m i = 0
        · rw [if_pos (by rw [e]; rfl)]
          exact nx true (by rw [if_neg (by omega)]; simp [e]) rfl
        · rw [if_neg (zne0 (by omega) e)]
          exact nx false (by rw [if_neg (by omega)]; simp [e]) rfl
  · have : i = 4 := by omega
    subst this
    rw [if_pos (show (4 : Int32) ≤ nI 4 by decide), zrtB]
    congr 1
    cases e : zpm a (zac v s) m
    · cases b
      · rfl
      · rw [(zpm_4 ha hm).mpr (hb.mp rfl)] at e; cases e
    · exact hb.mpr ((zpm_4 ha hm).mp e)
theorem r_isMove_no {x y : Int32} (h : zin y 81 = false) : m_X10_isMove σ x y = some false := by
  unfold m_X10_isMove
  rw [show m_X10_in y 0 80 = zin y 81 from zin_in (n := 81) (by decide), h]
  show m_X10_isMove_b11 σ x y (bI false) 0 _ = _
  unfold m_X10_isMove_b11
  rw [if_neg (by decide), if_pos zbIf, zrtB]
theorem r_projected (h : zR a n v σ) {m : Nat} (hm : m < 81) (c : Int32) : m_X10_projected σ c (nI m) = some (nI (zpt a c m)) := by
  have ha := h.2.1
  unfold m_X10_projected
  refine zl_e (fun i => (nI (zpt i c m), nI i)) a (by omega) rfl ?_
  intro k i hi hk
  unfold m_X10_projected_b5
  rw [h.2.2.1]
  dsimp only
  rcases Nat.lt_or_ge i a with q | q
  · have hk := hk q
    have ez : zpt (i + 1) c m = zpt i c m + (if bt c i then 3 ^ i * zdg m i else 0) := rfl
    rw [ez] at hk
    rw [if_neg (znle (by omega) (by omega) q), zsh1 _ (by omega), nI_1]
    cases hb : bt c i
    · rw [if_neg (by decide), ← hk, hb, if_neg (by decide), Int32.add_zero]
      rfl
    · rw [if_pos (by decide), r_digit (by omega) (by omega), Option.bind_some, r_power (by omega), pk_mul, nI_add, ← hk, hb, if_pos rfl]
  · have : i = a := by omega
    subst this
    rw [if_pos (zle (by omega) (by omega) q)]
theorem r_isJoint (h : zR a n v σ) {s j : Nat} (hs : s < n) (hj : j < 81) (c : Int32) : m_X10_isJoint σ c (nI s) (nI j) = some (zjt a (zac v s) c j) := by
  have ha := h.2.1
  unfold m_X10_isJoint
  refine zbe (P := fun r => r = some (zjt a (zac v s) c j)) (r_isMove h hs hj) ?_
  refine zl (P := fun r => r = some (zjt a (zac v s) c j)) (fun i z => z.2 = nI i ∧ ∃ b, z.1 = bI b ∧ (b = true ↔ (zpm a (zac v s) j = true ∧ ∀ k, k < i → bt c k = false → zdg j k = 0))) a (by omega) ⟨nI_0.symm, _, rfl, by simp⟩ ?_
  rintro k i ⟨x, y⟩ hi ⟨hy, b, hx, hb⟩ hk
  dsimp only at hx hy ⊢
  subst hx hy
  unfold m_X10_isJoint_b11
  rw [h.2.2.1]
  have hd3 := zdg_lt j i
  rcases Nat.lt_or_ge i a with q | q
  · rw [if_neg (znle (by omega) (by omega) q)]
    have nx : ∀ d : Bool, (d = true ↔ (bt c i = false → zdg j i = 0)) → b = true → k (bI d, nI i + 1) = some (zjt a (zac v s) c j) := by
      intro d hd hbt
      rw [nI_1]
      refine hk q _ ⟨rfl, d, rfl, ?_⟩
      constructor
      · intro e
        refine ⟨(hb.mp hbt).1, fun l hl => ?_⟩
        rcases Nat.lt_or_ge l i with w | w
        · exact (hb.mp hbt).2 l w
        · have : l = i := by omega
          subst this
          exact hd.mp e
      · intro e
        exact hd.mpr (e.2 i (by omega))
    cases b
    · rw [if_pos zbIf, zrtB]
      congr 1
      cases e : zjt a (zac v s) c j
      · rfl
      · have e := of_decide_eq_true e
        exact absurd (hb.mpr ⟨e.1, fun k hk => e.2 k (by omega)⟩) (by decide)
    · rw [if_neg zbIt, zsh1 _ (by omega)]
      cases hc : bt c i
      · rw [if_neg (by decide), r_digit (by omega) (by omega), Option.bind_some]
        by_cases e : zdg j i = 0
        · rw [if_pos (by rw [e]; rfl)]
          exact nx true (by simp [e]) rfl
        · rw [if_neg (zne0 (by omega) e)]
          exact nx false (by simp [e, hc]) rfl
      · rw [if_pos (by decide)]
        exact nx true (by simp [hc]) rfl
  · have : i = a := by omega
    subst this
    rw [if_pos (zle (by omega) (by omega) q), zrtB]
    congr 1
    unfold zjt
    cases b
    · exact (decide_eq_false (fun e => absurd (hb.mpr e) (by decide))).symm
    · exact (decide_eq_true (hb.mp rfl)).symm
theorem r_isJoint_no {c x y : Int32} (ha : ∃ a, a ≤ 4 ∧ σ 87 0 = nI a) (h : zin y 81 = false) : m_X10_isJoint σ c x y = some false := by
  obtain ⟨a, ha, e⟩ := ha
  unfold m_X10_isJoint
  rw [r_isMove_no h]
  show m_X10_isJoint_b11 σ c y (bI false) 0 _ = _
  unfold m_X10_isJoint_b11
  by_cases q : σ 87 0 ≤ 0
  · rw [if_pos q, zrtB]
  · rw [if_neg q, if_pos zbIf, zrtB]
theorem r_areAlikeFor (h : zR a n v σ) {m j : Nat} (hm : m < 81) (hj : j < 81) (c : Int32) : m_X10_areAlikeFor σ c (nI m) (nI j) = some (decide (∀ i, i < a → bt c i = true → zdg m i = zdg j i)) := by
  have ha := h.2.1
  unfold m_X10_areAlikeFor
  generalize hr : decide (∀ i, i < a → bt c i = true → zdg m i = zdg j i) = r
  refine zl (P := fun q => q = some r) (fun i z => z.2 = nI i ∧ ∃ b, z.1 = bI b ∧ (b = true ↔ ∀ k, k < i → bt c k = true → zdg m k = zdg j k)) a (by omega) ⟨nI_0.symm, true, rfl, by simp⟩ ?_
  rintro k i ⟨x, y⟩ hi ⟨hy, b, hx, hb⟩ hk
  dsimp only at hx hy ⊢
  subst hx hy
  unfold m_X10_areAlikeFor_b6
  rw [h.2.2.1]
  have hd3 := zdg_lt m i
  have hd4 := zdg_lt j i
  rcases Nat.lt_or_ge i a with q | q
  · rw [if_neg (znle (by omega) (by omega) q)]
    have nx : ∀ d : Bool, (d = true ↔ (b = true ∧ (bt c i = true → zdg m i = zdg j i))) → k (bI d, nI i + 1) = some r := by
      intro d hd
      rw [nI_1]
      refine hk q _ ⟨rfl, d, rfl, ?_⟩
      rw [hd, hb]
      constructor
      · rintro ⟨e1, e2⟩ l hl
        rcases Nat.lt_or_ge l i with w | w
        · exact e1 l w
        · have : l = i := by omega
          subst this
          exact e2
      · intro e
        exact ⟨fun l hl => e l (by omega), e i (by omega)⟩
    cases b
    · rw [if_pos zbIf]
      exact nx false (by simp)
    · rw [if_neg zbIt, zsh1 _ (by omega)]
      cases hc : bt c i
      · rw [if_pos zbIf]
        exact nx true (by simp [hc])
      · rw [if_neg zbIt, r_digit (by omega) (by omega), Option.bind_some, r_digit (by omega) (by omega), Option.bind_some]
        by_cases e : zdg m i = zdg j i
        · rw [if_pos (by rw [e])]
          exact nx true (by simp [e])
        · rw [if_neg (zne (by omega) (by omega) e)]
          exact nx false (by simp [e, hc])
  · have : i = a := by omega
    subst this
    rw [if_pos (zle (by omega) (by omega) q), zrtB]
    congr 1
    rw [← hr]
    cases b
    · exact (decide_eq_false (fun e => absurd (hb.mpr e) (by decide))).symm
    · exact (decide_eq_true (hb.mp rfl)).symm
theorem r_raw (c s j : Nat) : m_X10_rawAt (nI c) (nI s) (nI j) = nI (81 * (16 * s + c) + j) := by
  unfold m_X10_rawAt
  rw [show (16 : Int32) = nI 16 from rfl, show (81 : Int32) = nI 81 from rfl, pk_mul, nI_add, pk_mul, nI_add]
/-- how far the outcomes are put together -/
def zQM (s0 m0 c0 s c : Nat) : Nat := if s < s0 then 81 else if s = s0 then (if c < c0 then m0 + 1 else m0) else 0
def zQ (a n : Nat) (v : Nat → Int32) (s0 m0 c0 : Nat) (τ : St) : Prop := ∀ s c j, s < n → c < 2 ^ a → j < 81 → τ 90 (81 * (16 * s + c) + j) = zoF a (zac v s) (nI c) j (fun m => zbit (znx v s m)) (zQM s0 m0 c0 s c)
theorem zQM_lt {s0 m0 c0 s c : Nat} (h : s < s0) : zQM s0 m0 c0 s c = 81 := if_pos h
theorem zQM_gt {s0 m0 c0 s c : Nat} (h : s0 < s) : zQM s0 m0 c0 s c = 0 := by unfold zQM; rw [if_neg (by omega), if_neg (by omega)]
theorem zQM_y {s m0 c0 c : Nat} (h : c < c0) : zQM s m0 c0 s c = m0 + 1 := by unfold zQM; rw [if_neg (by omega), if_pos rfl, if_pos h]
theorem zQM_n {s m0 c0 c : Nat} (h : c0 ≤ c) : zQM s m0 c0 s c = m0 := by unfold zQM; rw [if_neg (by omega), if_pos rfl, if_neg (by omega)]
theorem r_freshens (h : zR a n v σ) : zP (fun τ => zah [90] [5] σ τ ∧ τ 87 5 = 1 ∧ ∀ s c j, s < n → c < 2 ^ a → j < 81 → τ 90 (81 * (16 * s + c) + j) = zoc v a (nI c) s j) (m_X10_freshens σ) := by
  have hn := h.2.2.2.2.1
  have ha := h.2.1
  have h81 := za_81 ha
  have hW := h.2.2.2.2
  unfold m_X10_freshens
  refine zl (P := zP _) (fun i z => z.2 = nI i ∧ zah [90] [] σ z.1 ∧ ∀ j, j < i → z.1 90 j = 0) 15552 (by decide) ⟨nI_0.symm, zah.rf, fun j hj => absurd hj (Nat.not_lt_zero j)⟩ ?_
  rintro k i ⟨τ, x⟩ hi ⟨hx, hg, hd⟩ hk
  dsimp only at hx hg hd ⊢
  subst hx
  unfold m_X10_freshens_b2
  rcases Nat.lt_or_ge i 15552 with q | q
  · rw [if_neg (show ¬ (15552 : Int32) ≤ nI i from znle (a := 15552) (by decide) (by omega) q), zck (by decide) q, nI_clamp (by omega), nI_1]
    refine hk q _ ⟨rfl, hg.st (by simp) (by simp), fun j hj => ?_⟩
    dsimp only
    rw [zup_v]
    by_cases e : j = i
    · subst e; rw [if_pos ⟨rfl, rfl⟩]
    · rw [if_neg (fun r => e r.2)]
      exact hd j (by omega)
  have : i = 15552 := by omega
  subst this
  rw [if_pos (show (15552 : Int32) ≤ nI 15552 by decide)]
  have hQ0 : zQ a n v 0 0 0 τ := fun s c j hs hc hj => by
    rw [hd _ (by omega)]
    rcases Nat.eq_zero_or_pos s with e | e
    · subst e; rw [zQM_n (Nat.zero_le _)]; rfl
    · rw [zQM_gt e]; rfl
  clear hd hk hi q k
  refine zl (P := zP _) (fun s z => z.2 = nI s ∧ zah [90] [] σ z.1 ∧ zQ a n v s 0 0 z.1) n (by omega) ⟨nI_0.symm, hg, hQ0⟩ ?_
  clear hQ0 hg τ
  rintro k s ⟨τ, x⟩ hs ⟨hx, hg, hQ⟩ hk
  dsimp only at hx hg hQ ⊢
  subst hx
  unfold m_X10_freshens_b24
  have h88 : τ 88 = v := (hg.1 88 (by decide) (by decide)).trans h.2.2.2.1
  rw [show (1200 : Int32) = nI 1200 from rfl, zck (by decide) (by decide), h88, hW.2.1]
  rcases Nat.lt_or_ge s n with q | q
  · rw [if_neg (znle (by omega) (by omega) q)]
    have hk := hk q
    refine zl (P := zP _) (fun m z => z.2 = nI m ∧ zah [90] [] σ z.1 ∧ zQ a n v s m 0 z.1) 81 (by decide) ⟨nI_0.symm, hg, hQ⟩ ?_
    clear hQ hg h88 τ
    rintro k2 m ⟨τ, x⟩ hm ⟨hx, hg, hQ⟩ hk2
    dsimp only at hx hg hQ ⊢
    subst hx
    unfold m_X10_freshens_b38
    rcases Nat.lt_or_ge m 81 with w | w
    · rw [if_neg (show ¬ (81 : Int32) ≤ nI m from znle (a := 81) (by decide) (by omega) w)]
      have hk2 := hk2 w
      refine zl (P := zP _) (fun c z => z.2 = nI c ∧ zah [90] [] σ z.1 ∧ zQ a n v s m c z.1) (2 ^ a) (by omega) ⟨nI_0.symm, hg, hQ⟩ ?_
      clear hQ hg τ
      rintro k3 c ⟨τ, x⟩ hc ⟨hx, hg, hQ⟩ hk3
      dsimp only at hx hg hQ ⊢
      subst hx
      unfold m_X10_freshens_b46
      have hR : zR a n v τ := h.g hg (by decide)
      rw [hR.2.2.1, show (1 : Int32) <<< (nI a &&& 31) = nI (2 ^ a) from zbit_n (by omega)]
      have same : zQ a n v s m (2 ^ a) τ → zQ a n v s (m + 1) 0 τ := fun hQ s' c' j hs' hc' hj => by
        rw [hQ s' c' j hs' hc' hj]
        rcases Nat.lt_trichotomy s' s with e | e | e
        · rw [zQM_lt e, zQM_lt e]
        · subst e; rw [zQM_y hc', zQM_n (Nat.zero_le _)]
        · rw [zQM_gt e, zQM_gt e]
      rcases Nat.lt_or_ge c (2 ^ a) with u | u
      · rw [if_neg (znle (by omega) (by omega) u)]
        refine zbe (r_isMove hR q w) ?_
        cases hp : zpm a (zac v s) m
        · rw [if_pos zbIf, nI_1]
          refine hk2 _ ⟨rfl, hg, fun s' c' j hs' hc' hj => ?_⟩
          dsimp only
          rw [hQ s' c' j hs' hc' hj]
          rcases Nat.lt_trichotomy s' s with e | e | e
          · rw [zQM_lt e, zQM_lt e]
          · subst e
            have e1 : zoF a (zac v s') (nI c') j (fun m => zbit (znx v s' m)) (m + 1) = zoF a (zac v s') (nI c') j (fun m => zbit (znx v s' m)) m := by
              rw [zoF_s, if_neg (fun r => by rw [hp] at r; exact absurd r.1 (by decide))]
            rw [zQM_n (Nat.zero_le _)]
            rcases Nat.lt_or_ge c' c with e2 | e2
            · rw [zQM_y e2]
            · rw [zQM_n e2, e1]
          · rw [zQM_gt e, zQM_gt e]
        · rw [if_neg zbIt]
          refine zbe (r_projected hR w (nI c)) ?_
          have hpt : zpt a (nI c) m < 81 := Nat.lt_of_lt_of_le zpt_lt h81.1
          obtain ⟨hx1, hx2⟩ := hW.nx q w
          rw [r_raw, zck (by decide) (by omega), show (10 : Int32) = nI 10 from rfl, z100, zck (by decide) (by omega), zck (by decide) (by omega), nI_clamp (by omega), nI_clamp (by omega), hR.2.2.2.1, hx1, nI_1]
          refine hk3 u _ ⟨rfl, hg.st (by simp) (by simp), fun s' c' j hs' hc' hj => ?_⟩
          dsimp only
          rw [zup_v]
          by_cases e : s' = s ∧ c' = c ∧ j = zpt a (nI c) m
          · obtain ⟨rfl, rfl, rfl⟩ := e
            rw [if_pos ⟨rfl, rfl⟩, hQ s' c' _ hs' hc' hj, zQM_n (Nat.le_refl _), zQM_y (Nat.lt_succ_self _), zoF_s, if_pos ⟨hp, rfl⟩]
            rfl
          · rw [if_neg (fun r => e (by omega)), hQ s' c' j hs' hc' hj]
            rcases Nat.lt_trichotomy s' s with e0 | e0 | e0
            · rw [zQM_lt e0, zQM_lt e0]
            · subst e0
              rcases Nat.lt_trichotomy c' c with e2 | e2 | e2
              · rw [zQM_y e2, zQM_y (by omega)]
              · subst e2
                rw [zQM_n (Nat.le_refl _), zQM_y (Nat.lt_succ_self _), zoF_s, if_neg (fun r => e ⟨rfl, rfl, r.2.symm⟩)]
              · rw [zQM_n (by omega), zQM_n (by omega)]
            · rw [zQM_gt e0, zQM_gt e0]
      · have : c = 2 ^ a := by omega
        subst this
        rw [if_pos (zle (by omega) (by omega) u), nI_1]
        exact hk2 _ ⟨rfl, hg, same hQ⟩
    · have : m = 81 := by omega
      subst this
      rw [if_pos (show (81 : Int32) ≤ nI 81 by decide), nI_1]
      refine hk _ ⟨rfl, hg, fun s' c' j hs' hc' hj => ?_⟩
      dsimp only
      rw [hQ s' c' j hs' hc' hj]
      rcases Nat.lt_trichotomy s' s with e | e | e
      · rw [zQM_lt e, zQM_lt (by omega)]
      · subst e
        rw [zQM_n (Nat.zero_le _), zQM_lt (by omega)]
      · rw [zQM_gt e]
        rcases Nat.lt_or_ge (s + 1) s' with e2 | e2
        · rw [zQM_gt e2]
        · have : s' = s + 1 := by omega
          subst this
          rw [zQM_n (Nat.zero_le _)]
  · have : s = n := by omega
    subst this
    rw [if_pos (zle (by omega) (by omega) q)]
    refine zP_some ⟨(hg.sub (fun _ h => h) (fun _ h => absurd h (List.not_mem_nil))).u7 (by simp), zup_ss _ _ _ _, fun s' c' j hs' hc' hj => ?_⟩
    rw [zup_n (by decide), hQ s' c' j hs' hc' hj, zQM_lt hs']
    rfl
theorem r_outcome (h : zR a n v σ) (hC : zC a n v σ) {c s j : Nat} (hc : c < 2 ^ a) (hs : s < n) (hj : j < 81) : zP (fun u => u.1 = zoc v a (nI c) s j ∧ zah [90] [5] σ u.2 ∧ zC a n v u.2) (m_X10_outcome σ (nI c) (nI s) (nI j)) := by
  have hn := h.2.2.2.2.1
  have h81 := za_81 h.2.1
  have key : ∀ τ : St, (∀ s c j, s < n → c < 2 ^ a → j < 81 → τ 90 (81 * (16 * s + c) + j) = zoc v a (nI c) s j) → zah [90] [5] σ τ → τ 87 5 = 1 → zP (fun u => u.1 = zoc v a (nI c) s j ∧ zah [90] [5] σ u.2 ∧ zC a n v u.2) (m_X10_outcome_b11 τ (nI c) (nI s) (nI j)) := by
    intro τ ht hg h5
    unfold m_X10_outcome_b11
    rw [r_raw, zck (by decide) (by omega), nI_clamp (by omega)]
    exact zP_some ⟨ht s c j hs hc hj, hg, Or.inr ⟨h5, ht⟩⟩
  unfold m_X10_outcome
  rcases hC with h0 | ⟨h1, hr⟩
  · rw [if_pos h0]
    refine zbind (r_freshens h) ?_
    rintro τ ⟨hg, h5, ht⟩
    exact key τ ht hg h5
  · rw [if_neg (by rw [h1]; decide)]
    exact key σ hr zah.rf h1
theorem r_forcing (h : zR a n v σ) (hC : zC a n v σ) {c s : Nat} (hc : c < 2 ^ a) (hs : s < n) (X : Int32) : zP (fun u => u.1 = zlf v a (nI c) s X ∧ zah [90] [5] σ u.2 ∧ zC a n v u.2) (m_X10_forcing σ (nI c) (nI s) X) := by
  unfold m_X10_forcing
  refine zl (P := zP _) (fun i z => z.2 = nI i ∧ zah [90] [5] σ z.1 ∧ zC a n v z.1 ∧ ∀ j, j < i → zfo (zoc v a (nI c) s j) X = false) 81 (by decide) ⟨nI_0.symm, zah.rf, hC, fun j hj => absurd hj (Nat.not_lt_zero j)⟩ ?_
  rintro k i ⟨τ, x⟩ hi ⟨hx, hg, hC, hd⟩ hk
  dsimp only at hx hg hC hd ⊢
  subst hx
  unfold m_X10_forcing_b3
  rcases Nat.lt_or_ge i 81 with q | q
  · rw [if_neg (show ¬ (81 : Int32) ≤ nI i from znle (a := 81) (by decide) (by omega) q)]
    refine zbind (r_outcome (h.g hg (by decide)) hC hc hs q) ?_
    rintro ⟨o, ρ⟩ ⟨ho, hg2, hC2⟩
    dsimp only at ho hg2 hC2 ⊢
    subst ho
    have hk : zfo (zoc v a (nI c) s i) X = false → zP (fun u => u.1 = zlf v a (nI c) s X ∧ zah [90] [5] σ u.2 ∧ zC a n v u.2) (k (ρ, nI i + 1)) := fun e => by
      rw [nI_1]
      refine hk q _ ⟨rfl, hg.tr hg2, hC2, fun j hj => ?_⟩
      rcases Nat.lt_or_ge j i with w | w
      · exact hd j w
      · have : j = i := by omega
        subst this; exact e
    refine zite (fun e => hk (decide_eq_false (fun r => r.1 e))) (fun e => ?_)
    refine zite (fun e2 => zP_some ⟨?_, hg.tr hg2, hC2⟩) (fun e2 => hk (decide_eq_false (fun r => e2 r.2)))
    exact (zfs_hit (Nat.zero_le _) (by omega) (decide_eq_true ⟨e, e2⟩) (fun k _ hk => hd k hk)).symm
  · have : i = 81 := by omega
    subst this
    rw [if_pos (show (81 : Int32) ≤ nI 81 by decide)]
    exact zP_some ⟨(zfs_no (fun k _ hk => hd k (by omega))).symm, hg, hC⟩
theorem r_plannedAction (h : zR a n v σ) {s i : Nat} (hs : s < n) (hi : i < a) : m_X10_plannedAction σ (nI s) (nI i) = some (nI (zpa v s i)) := by
  have hn := h.2.2.2.2.1
  have ha := h.2.1
  obtain ⟨h1, h2, h3⟩ := h.2.2.2.2.ac hs hi
  obtain ⟨h4, h5⟩ := h.2.2.2.2.pl hs hi
  unfold m_X10_plannedAction zpa
  rw [show (5 : Int32) = nI 5 from rfl, show (1 : Int32) = nI 1 from rfl, z100, z100, zck (by decide) (by omega), zck (by decide) (by omega), nI_clamp (by omega), nI_clamp (by omega), h.2.2.2.1, h1, h4]
  rcases Nat.lt_or_ge (zpl v s i) (zac v s i) with q | q
  · rw [if_neg (znle (by omega) (by omega) q), if_pos q]
  · rw [if_pos (zle (by omega) (by omega) q), if_neg (by omega)]
    rfl
theorem r_plannedJoint (h : zR a n v σ) {s : Nat} (hs : s < n) (c : Int32) : m_X10_plannedJoint σ c (nI s) = some (nI (zpj v c s a)) := by
  have ha := h.2.1
  unfold m_X10_plannedJoint
  refine zl_e (fun i => (nI (zpj v c s i), nI i)) a (by omega) rfl ?_
  intro k i hi hk
  unfold m_X10_plannedJoint_b5
  rw [h.2.2.1]
  dsimp only
  rcases Nat.lt_or_ge i a with q | q
  · have hk := hk q
    have ez : zpj v c s (i + 1) = zpj v c s i + (if bt c i then 3 ^ i * zpa v s i else 0) := rfl
    rw [ez] at hk
    rw [if_neg (znle (by omega) (by omega) q), zsh1 _ (by omega), nI_1]
    cases hb : bt c i
    · rw [if_neg (by decide), ← hk, hb, if_neg (by decide), Int32.add_zero]
      rfl
    · rw [if_pos (by decide), r_plannedAction h hs q, Option.bind_some, r_power (by omega), pk_mul, nI_add, ← hk, hb, if_pos rfl]
  · have : i = a := by omega
    subst this
    rw [if_pos (zle (by omega) (by omega) q)]
theorem r_forces (h : zR a n v σ) (hC : zC a n v σ) {bp : Bool} (hb : σ 87 29 = bI bp) {c s : Nat} (hc : c < 2 ^ a) (hs : s < n) (X : Int32) : zP (fun u => u.1 = (if bp then zcanP v a (nI c) s X else zcan v a (nI c) s X) ∧ zah [90] [5] σ u.2 ∧ zC a n v u.2) (m_X10_forces σ (nI c) (nI s) X) := by
  have h81 := za_81 h.2.1
  unfold m_X10_forces
  rw [hb]
  cases bp
  · rw [if_pos zbIf]
    refine zbind (r_forcing h hC hc hs X) ?_
    rintro ⟨o, ρ⟩ ⟨ho, hg2, hC2⟩
    dsimp only at ho hg2 hC2 ⊢
    subst ho
    refine zite (fun e => zP_some ⟨?_, hg2, hC2⟩) (fun e => zP_some ⟨?_, hg2, hC2⟩)
    · exact (decide_eq_false (fun r => r e)).symm
    · exact (decide_eq_true e).symm
  · rw [if_neg zbIt]
    refine zbe (r_plannedJoint h hs (nI c)) ?_
    have hjt := zpj_jt h.2.2.2.2 (c := nI c) hs
    have hpj : zpj v (nI c) s a < 3 ^ a := zpm_lt (of_decide_eq_true hjt).1
    refine zbind (r_outcome h hC hc hs (show zpj v (nI c) s a < 81 by omega)) ?_
    rintro ⟨o, ρ⟩ ⟨ho, hg2, hC2⟩
    dsimp only at ho hg2 hC2 ⊢
    subst ho
    have hne := (zoc_ne h.2.2.2.2 h.2.1 (c := nI c) hs).mpr hjt
    refine zite (fun e => zP_some ⟨?_, hg2, hC2⟩) (fun e => zP_some ⟨?_, hg2, hC2⟩)
    · exact (decide_eq_true ⟨hne, e⟩).symm
    · exact (decide_eq_false (fun r => e r.2)).symm
theorem r_forcers (h : zR a n v σ) (hC : zC a n v σ) {bp : Bool} (hb : σ 87 29 = bI bp) {c : Nat} (hc : c < 2 ^ a) (X : Int32) : zP (fun u => u.1 = zF v a n bp (nI c) X ∧ zah [90] [5] σ u.2 ∧ zC a n v u.2) (m_X10_forcers σ (nI c) X) := by
  have hn := h.2.2.2.2.1
  unfold m_X10_forcers zF
  generalize hp : (fun s => if bp = true then zcanP v a (nI c) s X else zcan v a (nI c) s X) = p
  refine zl (P := zP _) (fun i z => z.2.2 = nI i ∧ z.2.1 = zmk p i ∧ zah [90] [5] σ z.1 ∧ zC a n v z.1) n (by omega) ⟨nI_0.symm, rfl, zah.rf, hC⟩ ?_
  rintro k i ⟨τ, x, y⟩ hi ⟨hy, hx, hg, hC⟩ hk
  dsimp only at hx hy hg hC ⊢
  subst hx hy
  have hR : zR a n v τ := h.g hg (by decide)
  unfold m_X10_forcers_b5
  rw [show (1200 : Int32) = nI 1200 from rfl, zck (by decide) (by decide), hR.2.2.2.1, hR.2.2.2.2.2.1]
  rcases Nat.lt_or_ge i n with q | q
  · rw [if_neg (znle (by omega) (by omega) q)]
    refine zbind (r_forces hR hC (bp := bp) (by rw [hg.2 29 (by decide)]; exact hb) hc q X) ?_
    rintro ⟨o, ρ⟩ ⟨ho, hg2, hC2⟩
    dsimp only at ho hg2 hC2 ⊢
    have hpi : p i = o := by rw [← hp, ho]
    rw [nI_1]
    cases o
    · rw [if_pos zbIf]
      refine hk q _ ⟨rfl, ?_, hg.tr hg2, hC2⟩
      dsimp only
      rw [zmk_s, hpi, Int32.or_zero]
      rfl
    · rw [if_neg zbIt]
      refine hk q _ ⟨rfl, ?_, hg.tr hg2, hC2⟩
      dsimp only
      rw [zmk_s, hpi]
      rfl
  · have : i = n := by omega
    subst this
    rw [if_pos (zle (by omega) (by omega) q)]
    exact zP_some ⟨rfl, hg, hC⟩
end ZR
