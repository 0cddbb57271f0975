/-! THE FIRST SYSTEM: leaves and one step -/
theorem zge {a b : Nat} (ha : a < 2 ^ 31) (hb : b < 2 ^ 31) (h : nI a ≤ nI b) : a ≤ b := (nI_leI ha hb).mp h
theorem znge {a b : Nat} (ha : a < 2 ^ 31) (hb : b < 2 ^ 31) (h : ¬ nI a ≤ nI b) : b < a := Nat.not_le.mp fun q => h ((nI_leI ha hb).mpr q)
theorem zgt {a b : Nat} (ha : a < 2 ^ 31) (hb : b < 2 ^ 31) (h : nI a < nI b) : a < b := (nI_ltI ha hb).mp h
theorem zngt {a b : Nat} (ha : a < 2 ^ 31) (hb : b < 2 ^ 31) (h : ¬ nI a < nI b) : b ≤ a := Nat.not_lt.mp fun q => h ((nI_ltI ha hb).mpr q)
theorem zm3 {r : Nat} (h : r < 2 ^ 31) : nI r - nI r / 3 * 3 = nI (r % 3) := pk_rem (d := 3) h (by decide) (by decide)
theorem zd3 {r : Nat} (h : r < 2 ^ 31) : nI r / 3 = nI (r / 3) := pk_div (d := 3) h (by decide) (by decide)
theorem zdiv3 (m k : Nat) : m / 3 ^ k / 3 = m / 3 ^ (k + 1) := by rw [Nat.div_div_eq_div_mul, Nat.pow_succ]
def zK (a : Nat) (σ : St) : Prop := 1 ≤ a ∧ a ≤ 4 ∧ σ 0 0 = nI a ∧ σ 0 1 = nI (2 ^ a) ∧ σ 0 2 = nI (3 ^ a) ∧ σ 73 0 = nI a ∧ σ 87 0 = nI a ∧ (∀ s, s < 12 → σ 71 s = nI s) ∧ (∀ c m, c < 16 → m < 81 → σ 70 (c * 81 + m) = nI (zpt 4 (nI c) m))
/-- the cells t .. t + 4 hold what the row v tells -/
def zRS (a n : Nat) (v : Nat → Int32) (σ : St) (t : Nat) : Prop :=
  σ t 7 = nI n ∧ (∀ s, s < n → σ (t + 1) s = v (100 * s)) ∧ (∀ s i, s < n → i < a → σ (t + 2) (s * 4 + i) = v (100 * s + 1 + i)) ∧ (∀ s i, s < n → i < a → σ (t + 3) (s * 4 + i) = v (100 * s + 5 + i)) ∧ (∀ s m, s < n → m < 3 ^ a → σ (t + 4) (s * 81 + m) = if zpm a (zac v s) m = true then v (100 * s + 10 + m) else -1)
section ZS
variable {a n : Nat} {v : Nat → Int32} {σ : St}
theorem z_hasState {x : Int32} (h : σ 0 7 = nI n) : m_X7_hasState σ x = zin x n := by
  unfold m_X7_hasState zin
  rw [h]
  by_cases h1 : x < 0
  · rw [if_pos h1, decide_eq_false (fun q => q.1 h1)]
  · rw [if_neg h1]
    by_cases h2 : nI n ≤ x
    · rw [if_pos h2, decide_eq_false (fun q => q.2 h2)]
    · rw [if_neg h2, decide_eq_true ⟨h1, h2⟩]
theorem z_hasPlace {x y : Int32} (h : σ 0 7 = nI n) (h2 : σ 0 0 = nI a) : m_X7_hasPlace σ x y = (zin x n && zin y a) := by
  unfold m_X7_hasPlace
  rw [z_hasState h, h2]
  cases h3 : zin x n
  · rfl
  · rw [if_neg zbIt]
    unfold zin
    by_cases h1 : y < 0
    · rw [if_pos h1, decide_eq_false (fun q => q.1 h1)]; rfl
    · rw [if_neg h1]
      by_cases h2 : nI a ≤ y
      · rw [if_pos h2, decide_eq_false (fun q => q.2 h2)]; rfl
      · rw [if_neg h2, decide_eq_true ⟨h1, h2⟩]; rfl
theorem z_hasCoalition {x : Int32} (h : σ 0 1 = nI (2 ^ a)) : m_X7_hasCoalition σ x = zin x (2 ^ a) := by
  unfold m_X7_hasCoalition zin
  rw [h]
  by_cases h1 : x < 0
  · rw [if_pos h1, decide_eq_false (fun q => q.1 h1)]
  · rw [if_neg h1]
    by_cases h2 : nI (2 ^ a) ≤ x
    · rw [if_pos h2, decide_eq_false (fun q => q.2 h2)]
    · rw [if_neg h2, decide_eq_true ⟨h1, h2⟩]
theorem zbt_nI (k i : Nat) (h : i < 32) : bt (nI k) i = k.testBit i := by
  show (BitVec.ofNat 32 k).getLsbD i = _
  rw [BitVec.getLsbD_ofNat]
  simp [h]
theorem z_set {X : Int32} {n : Nat} (hn : n ≤ 12) : (X &&& (zall n ^^^ (-1))) = 0 ↔ zin X (2 ^ n) = true := by
  have hp : 2 ^ n ≤ 4096 := (by decide : ∀ n, n < 13 → 2 ^ n ≤ 4096) n (by omega)
  rw [zsb_iff]
  constructor
  · intro h
    obtain ⟨k, hk, rfl⟩ : ∃ k, k < 2 ^ 32 ∧ X = nI k := ⟨X.toBitVec.toNat, X.toBitVec.isLt, Int32.toBitVec_inj.mp (by show _ = BitVec.ofNat 32 _; simp)⟩
    refine zin_nI (by omega) (Nat.lt_pow_two_of_testBit _ fun i hi => ?_)
    rcases Nat.lt_or_ge i 32 with q | q
    · rw [← zbt_nI k i q]
      cases e : bt (nI k) i
      · rfl
      · have := h i q e
        rw [zall_bt hn q] at this
        exact absurd (of_decide_eq_true this) (by omega)
    · exact Nat.testBit_lt_two_pow (Nat.lt_of_lt_of_le hk (Nat.pow_le_pow_right (by decide) q))
  · intro h i hi hb
    obtain ⟨k, hk, rfl⟩ := zin_t (by omega) h
    rw [zall_bt hn hi]
    rw [zbt_nI k i hi] at hb
    refine decide_eq_true (Nat.not_le.mp fun q => ?_)
    rw [Nat.testBit_lt_two_pow (Nat.lt_of_lt_of_le hk (Nat.pow_le_pow_right (by decide) q))] at hb
    cases hb
theorem z_allStates (h : σ 0 7 = nI n) : m_X7_allStates σ = zall n := by unfold m_X7_allStates zall; rw [h]
theorem z_hasSet {X : Int32} (hn : n ≤ 12) (h : σ 0 7 = nI n) : m_X7_hasSet σ X = zin X (2 ^ n) := by
  unfold m_X7_hasSet
  rw [z_allStates h]
  by_cases q : (X &&& (zall n ^^^ (-1))) = 0
  · rw [if_pos q, (z_set hn).mp q]
  · rw [if_neg q]
    cases e : zin X (2 ^ n)
    · rfl
    · exact absurd ((z_set hn).mpr e) q
theorem z_labelSet (hn : n ≤ 12) (h : zRS a n v σ 0) {s : Nat} (hs : s < n) : m_X7_labelSet σ (nI s) = v (100 * s) := by
  unfold m_X7_labelSet
  rw [zrA (by decide) (by omega)]
  exact h.2.1 s hs
theorem z_ix4 (s i : Nat) : nI s * 4 + nI i = nI (s * 4 + i) := zix s 4 i
theorem z_ix81 (s i : Nat) : nI s * 81 + nI i = nI (s * 81 + i) := zix s 81 i
theorem z_actionCount (ha : a ≤ 4) (hn : n ≤ 12) (h : zRS a n v σ 0) {s i : Nat} (hs : s < n) (hi : i < a) : m_X7_actionCount σ (nI s) (nI i) = v (100 * s + 1 + i) := by
  unfold m_X7_actionCount
  rw [z_ix4, zrA (by decide) (by omega)]
  exact h.2.2.1 s i hs hi
theorem z_plannedAction (ha : a ≤ 4) (hn : n ≤ 12) (h : zRS a n v σ 0) {s i : Nat} (hs : s < n) (hi : i < a) : m_X7_plannedAction σ (nI s) (nI i) = v (100 * s + 5 + i) := by
  unfold m_X7_plannedAction
  rw [z_ix4, zrA (by decide) (by omega)]
  exact h.2.2.2.1 s i hs hi
theorem z_at4 (ha : a ≤ 4) (hn : n ≤ 12) (h : zRS a n v σ 0) {s m : Nat} (hs : s < n) (hm : m < 3 ^ a) : rAt 972 (σ 4) (nI s * 81 + nI m) = if zpm a (zac v s) m = true then v (100 * s + 10 + m) else -1 := by
  have := (za_81 ha).1
  rw [z_ix81, zrA (by decide) (by omega)]
  exact h.2.2.2.2 s m hs hm
theorem z_target (ha : a ≤ 4) (hn : n ≤ 12) (h2 : σ 0 2 = nI (3 ^ a)) (h : zRS a n v σ 0) {s m : Nat} (hs : s < n) (hm : m < 3 ^ a) : m_X7_target σ (nI s) (nI m) = if zpm a (zac v s) m = true then v (100 * s + 10 + m) else -1 := by
  have := (za_81 ha).1
  unfold m_X7_target
  rw [z_hasState h.1, zin_nI (by omega) hs, if_neg zbIt, if_neg (nI_pos (by omega)), h2, if_pos (zlt (by omega) (by omega) hm)]
  exact z_at4 ha hn h hs hm
theorem z_target_no (ha : a ≤ 4) (h2 : σ 0 2 = nI (3 ^ a)) (h : zRS a n v σ 0) {x y : Int32} (hq : zin x n = false ∨ zin y (3 ^ a) = false) : m_X7_target σ x y = -1 := by
  have := (za_81 ha).1
  unfold m_X7_target
  rw [z_hasState h.1]
  cases hx : zin x n
  · rfl
  · rw [if_neg zbIt]
    rcases hq with hq | hq
    · rw [hq] at hx; cases hx
    · rcases zin_f hq with q | q
      · rw [if_pos q]
      · by_cases w : y < 0
        · rw [if_pos w]
        · rw [if_neg w, h2, if_neg]
          intro e
          exact absurd e (by rw [fa_lt, fa_le] at *; omega)
/-! the digits of a move -/
theorem z_actionIn {m i : Nat} (hm : m < 2 ^ 31) (hi : i ≤ 4) : m_X7_actionIn (nI m) (nI i) = some (nI (zdg m i)) := by
  unfold m_X7_actionIn
  refine zl_e (fun k => (nI (m / 3 ^ k), nI k)) i (by omega) (by simp [nI_0]) ?_
  intro k j hj hk
  have hb : m / 3 ^ j < 2 ^ 31 := Nat.lt_of_le_of_lt (Nat.div_le_self _ _) hm
  unfold m_X7_actionIn_b4
  dsimp only
  rcases Nat.lt_or_ge j i with q | q
  · rw [if_neg (znle (by omega) (by omega) q), zd3 hb, nI_1, zdiv3]
    exact hk q
  · have : j = i := by omega
    subst this
    rw [if_pos (zle (by omega) (by omega) q), zm3 hb]
    rfl
theorem z_within (ha : a ≤ 4) (hn : n ≤ 12) {A : Nat → Nat} (h0 : σ 0 0 = nI a) {s m : Nat} (hs : s < n) (hm : m < 3 ^ a) (hA : ∀ i, i < a → σ 2 (s * 4 + i) = nI (A i) ∧ A i ≤ 3) : m_X7_isWithinActions σ (nI s) (nI m) = some (zpm a A m) := by
  have h81 := (za_81 ha).1
  unfold m_X7_isWithinActions
  refine zl (P := fun r => r = some (zpm a A m)) (fun i z => z = nI i ∧ ∀ j, j < i → zdg m j < A j) a (by omega) ⟨nI_0.symm, fun j hj => absurd hj (Nat.not_lt_zero j)⟩ ?_
  rintro k i z hi ⟨rfl, hd⟩ hk
  unfold m_X7_isWithinActions_b2
  rw [h0]
  rcases Nat.lt_or_ge i a with q | q
  · rw [if_neg (znle (by omega) (by omega) q), z_actionIn (by omega) (by omega)]
    show (if nI (zdg m i) < m_X7_actionCount σ (nI s) (nI i) then k (nI i + 1) else some false) = _
    have hc : m_X7_actionCount σ (nI s) (nI i) = nI (A i) := by
      unfold m_X7_actionCount
      rw [z_ix4, zrA (by decide) (by omega)]
      exact (hA i q).1
    rw [hc]
    have hA3 := (hA i q).2
    have hd3 := zdg_lt m i
    rcases Nat.lt_or_ge (zdg m i) (A i) with w | w
    · rw [if_pos (zlt (by omega) (by omega) w), nI_1]
      refine hk q _ ⟨rfl, fun j hj => ?_⟩
      rcases Nat.lt_or_ge j i with e | e
      · exact hd j e
      · have : j = i := by omega
        subst this
        exact w
    · rw [if_neg (znlt (by omega) (by omega) w)]
      cases e : zpm a A m
      · rfl
      · exact absurd ((zpm_t.mp e).2 i q) (by omega)
  · have : i = a := by omega
    subst this
    rw [if_pos (zle (by omega) (by omega) q), zpm_t.mpr ⟨hm, hd⟩]
/-- all moves of a state lead back -/
theorem z_leadBack (ha : a ≤ 4) (hn : n ≤ 12) {A : Nat → Nat} (h0 : σ 0 0 = nI a) (h2 : σ 0 2 = nI (3 ^ a)) {s : Nat} (hs : s < n) (hA : ∀ i, i < a → σ 2 (s * 4 + i) = nI (A i) ∧ A i ≤ 3) :
    zP (fun τ => zag [4] σ τ ∧ (∀ m, m < 3 ^ a → τ 4 (s * 81 + m) = if zpm a A m = true then nI s else -1) ∧ ∀ k, (∀ m, m < 3 ^ a → k ≠ s * 81 + m) → τ 4 k = σ 4 k) (m_X7_leadBack σ (nI s)) := by
  have h81 := (za_81 ha).1
  unfold m_X7_leadBack
  refine zl (fun i z => z.2 = nI i ∧ zag [4] σ z.1 ∧ (∀ m, m < i → z.1 4 (s * 81 + m) = if zpm a A m = true then nI s else -1) ∧ ∀ k, (∀ m, m < i → k ≠ s * 81 + m) → z.1 4 k = σ 4 k) (3 ^ a) (by omega) ⟨nI_0.symm, zag.rf, fun j hj => absurd hj (Nat.not_lt_zero j), fun _ _ => rfl⟩ ?_
  rintro k i ⟨τ, x⟩ hi ⟨hx, hg, hd, hr⟩ hk
  dsimp only at hx hg hd hr ⊢
  subst hx
  unfold m_X7_leadBack_b2
  rw [hg 0 (by simp), h2]
  rcases Nat.lt_or_ge i (3 ^ a) with q | q
  · rw [if_neg (znle (by omega) (by omega) q)]
    have hw : m_X7_isWithinActions τ (nI s) (nI i) = some (zpm a A i) := z_within ha hn (by rw [hg 0 (by simp)]; exact h0) hs q (fun i hi => by rw [hg 2 (by simp)]; exact hA i hi)
    refine zbe hw ?_
    have key : ∀ w : Int32, w = (if zpm a A i = true then nI s else -1) → zP (fun τ => zag [4] σ τ ∧ (∀ m, m < 3 ^ a → τ 4 (s * 81 + m) = if zpm a A m = true then nI s else -1) ∧ ∀ k, (∀ m, m < 3 ^ a → k ≠ s * 81 + m) → τ 4 k = σ 4 k) (m_X7_leadBack_b27 τ (nI s) (nI i) w (nI i) (nI s) k) := by
      intro w hw
      unfold m_X7_leadBack_b27 m_X7_setTarget
      rw [z_ix81, zrP (by decide) (by omega), nI_1]
      refine hk q _ ⟨rfl, hg.up (by simp), fun m hm => ?_, fun c hc => ?_⟩
      · dsimp only
        rw [zup_v]
        by_cases e : m = i
        · subst e; rw [if_pos ⟨rfl, rfl⟩, hw]
        · rw [if_neg (fun r => e (by omega))]
          exact hd m (by omega)
      · dsimp only
        rw [zup_v, if_neg (fun r => hc i (by omega) r.2)]
        exact hr c (fun m hm => hc m (by omega))
    cases e : zpm a A i
    · rw [if_pos zbIf]
      exact key _ (by rw [e]; rfl)
    · rw [if_neg zbIt]
      exact key _ (by rw [e]; rfl)
  · have : i = 3 ^ a := by omega
    subst this
    rw [if_pos (zle (by omega) (by omega) q)]
    exact zP_some ⟨hg, hd, hr⟩
/-! one step -/
theorem z_joint (hK : zK a σ) {c m : Nat} (hc : c < 2 ^ a) (hm : m < 3 ^ a) : rAt 1296 (σ 70) (nI c * 81 + nI m) = nI (zpt a (nI c) m) := by
  have h81 := za_81 hK.2.1
  rw [z_ix81, zrA (by decide) (by omega), hK.2.2.2.2.2.2.2.2 c m (by omega) (by omega), zpt_4 hK.2.1 hm]
theorem z_spread (hK : zK a σ) (hW : zWF a n v) (hR : zRS a n v σ 0) {t3 t4 : Nat} {cl : Nat → Nat} (hcl : ∀ q, q < n → σ t3 q = nI (cl q)) (ht : t4 ≠ 0 ∧ t4 ≠ 4 ∧ t4 ≠ 70 ∧ t4 ≠ t3) {c s : Nat} (hc : c < 2 ^ a) (hs : s < n) :
    zP (fun τ => zag [t4] σ τ ∧ ∀ j, j < 81 → τ t4 j = zoF a (zac v s) (nI c) j (fun m => zbit (cl (znx v s m))) 81) (m_X6_spread σ t3 t4 (nI c) (nI s)) := by
  obtain ⟨hn, -, -⟩ := id hW
  have h81 := za_81 hK.2.1
  have nm : ∀ {k : Nat}, k ≠ t4 → k ∉ [t4] := fun h q => h (List.mem_singleton.mp q)
  unfold m_X6_spread
  refine zl (fun i z => z.2 = nI i ∧ zag [t4] σ z.1 ∧ ∀ j, j < i → z.1 t4 j = 0) 81 (by decide) ⟨nI_0.symm, zag.rf, fun j hj => absurd hj (Nat.not_lt_zero j)⟩ ?_
  rintro k i ⟨τ, x⟩ hi ⟨hx, hg, hd⟩ hk
  dsimp only at hx hg hd ⊢
  subst hx
  unfold m_X6_spread_b3
  rcases Nat.lt_or_ge i 81 with q | q
  · rw [if_neg (show ¬ (81 : Int32) ≤ nI i from znle (a := 81) (by decide) (by omega) q), zrP (by decide) (by omega), nI_1]
    refine hk q _ ⟨rfl, hg.up (by simp), fun j hj => ?_⟩
    dsimp only
    rw [zup_v]
    by_cases e : j = i
    · subst e; rw [if_pos ⟨rfl, rfl⟩]
    · rw [if_neg (fun r => e r.2)]
      exact hd j (by omega)
  · have : i = 81 := by omega
    subst this
    rw [if_pos (show (81 : Int32) ≤ nI 81 from zle (a := 81) (by decide) (by decide) q)]
    refine zl (fun i z => z.2 = nI i ∧ zag [t4] σ z.1 ∧ ∀ j, j < 81 → z.1 t4 j = zoF a (zac v s) (nI c) j (fun m => zbit (cl (znx v s m))) i) (3 ^ a) (by omega) ⟨nI_0.symm, hg, hd⟩ ?_
    clear hk hd hg τ k
    rintro k i ⟨τ, x⟩ hi ⟨hx, hg, hd⟩ hk
    dsimp only at hx hg hd ⊢
    subst hx
    unfold m_X6_spread_b27
    rw [hg 0 (nm ht.1.symm), hg 4 (nm ht.2.1.symm), hg 70 (nm ht.2.2.1.symm), hg t3 (nm (Ne.symm ht.2.2.2)), hK.2.2.2.2.1]
    rcases Nat.lt_or_ge i (3 ^ a) with q | q
    · rw [if_neg (znle (by omega) (by omega) q), z_at4 hK.2.1 hn hR hs q]
      by_cases hp : zpm a (zac v s) i = true
      · obtain ⟨hx1, hx2⟩ := hW.nx hs (show i < 81 by omega)
        rw [if_pos hp, hx1, if_neg (znm1 (by omega)), z_joint hK hc q, zrA (n := 12) (by decide) (by omega), hcl _ hx2, nI_1]
        have hj : zpt a (nI c) i < 81 := Nat.lt_of_le_of_lt (zpt_le _ _ _) (by omega)
        rw [zrA (by decide) hj, zrP (by decide) hj]
        refine hk q _ ⟨rfl, hg.up (by simp), fun j hj2 => ?_⟩
        dsimp only
        rw [zup_v, zoF_s]
        by_cases e : j = zpt a (nI c) i
        · rw [if_pos ⟨rfl, e⟩, if_pos ⟨hp, e.symm⟩, ← hd j hj2, e]
          rfl
        · rw [if_neg (fun r => e r.2), if_neg (fun r => e r.2.symm)]
          exact hd j hj2
      · rw [if_neg hp, if_pos rfl, nI_1]
        refine hk q _ ⟨rfl, hg, fun j hj2 => ?_⟩
        rw [zoF_s, if_neg (fun r => hp r.1)]
        exact hd j hj2
    · have : i = 3 ^ a := by omega
      subst this
      rw [if_pos (zle (by omega) (by omega) q)]
      refine zP_some ⟨hg, fun j hj => ?_⟩
      rw [hd j hj, zoF_81 hK.2.1]
end ZS
