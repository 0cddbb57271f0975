/-! numbers by their digits -/
def zds (q : Nat → Nat) : Nat → Nat
  | 0 => 0
  | i + 1 => zds q i + 3 ^ i * q i
theorem zds_ext {q r : Nat → Nat} : ∀ {a : Nat}, (∀ i, i < a → q i = r i) → zds q a = zds r a
  | 0, _ => rfl
  | a + 1, h => by
    unfold zds
    rw [zds_ext (fun i hi => h i (by omega)), h a (by omega)]
theorem zds_lt {q : Nat → Nat} : ∀ {a : Nat}, (∀ i, i < a → q i ≤ 2) → zds q a < 3 ^ a
  | 0, _ => (by decide : 0 < 1)
  | a + 1, h => by
    have ih := zds_lt (q := q) (a := a) (fun i hi => h i (by omega))
    have h3 : 3 ^ a * q a ≤ 3 ^ a * 2 := Nat.mul_le_mul_left _ (h a (by omega))
    unfold zds
    rw [Nat.pow_succ]
    omega
theorem zds_dg {q : Nat → Nat} : ∀ {a : Nat}, (∀ i, i < a → q i ≤ 2) → ∀ {i : Nat}, i < a → zdg (zds q a) i = q i
  | 0, _, i, hi => absurd hi (Nat.not_lt_zero i)
  | a + 1, h, i, hi => by
    have ih := @zds_dg q a (fun i hi => h i (by omega)) i
    have hl := zds_lt (q := q) (a := a) (fun i hi => h i (by omega))
    have h2 := h a (by omega)
    unfold zds
    rcases Nat.lt_or_ge i a with w | w
    · rw [← ih w]
      unfold zdg
      obtain ⟨d, rfl⟩ : ∃ d, a = i + 1 + d := ⟨a - (i + 1), by omega⟩
      rw [show 3 ^ (i + 1 + d) * q (i + 1 + d) = 3 ^ i * (3 * (3 ^ d * q (i + 1 + d))) by rw [Nat.pow_add, Nat.pow_succ]; simp only [Nat.mul_assoc]]
      rw [Nat.add_mul_div_left _ _ (Nat.pow_pos (by decide)), Nat.add_mul_mod_self_left]
    · have : i = a := by omega
      subst this
      unfold zdg
      rw [Nat.add_mul_div_left _ _ (Nat.pow_pos (by decide)), Nat.div_eq_of_lt hl, Nat.zero_add, Nat.mod_eq_of_lt (by omega)]
theorem zds_mod (m : Nat) : ∀ a, zds (zdg m) a = m % 3 ^ a
  | 0 => (Nat.mod_one m).symm
  | a + 1 => by
    unfold zds
    rw [zds_mod m a, Nat.mod_pow_succ]
    rfl
theorem zds_id {a m : Nat} (h : m < 3 ^ a) : zds (zdg m) a = m := by rw [zds_mod, Nat.mod_eq_of_lt h]
theorem zdg_inj {a m k : Nat} (h : m < 3 ^ a) (h2 : k < 3 ^ a) (hd : ∀ i, i < a → zdg m i = zdg k i) : m = k := by
  rw [← zds_id h, ← zds_id h2, zds_ext hd]
theorem zpt_ds (c : Int32) (m : Nat) : ∀ a, zpt a c m = zds (fun i => if bt c i then zdg m i else 0) a
  | 0 => rfl
  | a + 1 => by
    unfold zpt zds
    rw [zpt_ds c m a]
    cases bt c a <;> simp
theorem zpt_dg {a : Nat} {c : Int32} {m i : Nat} (hi : i < a) : zdg (zpt a c m) i = if bt c i then zdg m i else 0 := by
  rw [zpt_ds, zds_dg _ hi]
  intro j _
  have := zdg_lt m j
  split <;> omega
theorem zpt_lt {a : Nat} {c : Int32} {m : Nat} : zpt a c m < 3 ^ a := by
  rw [zpt_ds]
  refine zds_lt fun j _ => ?_
  have := zdg_lt m j
  split <;> omega
theorem zpj_ds (v : Nat → Int32) (c : Int32) (s : Nat) : ∀ a, zpj v c s a = zds (fun i => if bt c i then zpa v s i else 0) a
  | 0 => rfl
  | a + 1 => by
    unfold zpj zds
    rw [zpj_ds v c s a]
    cases bt c a <;> simp
/-- a joint action: possible, 0 for all others -/
def zjt (a : Nat) (A : Nat → Nat) (c : Int32) (j : Nat) : Bool := decide (zpm a A j = true ∧ ∀ i, i < a → bt c i = false → zdg j i = 0)
theorem zjt_pt {a : Nat} {A : Nat → Nat} {c : Int32} {j : Nat} (h : zjt a A c j = true) : zpt a c j = j := by
  obtain ⟨h1, h2⟩ := of_decide_eq_true h
  refine zdg_inj zpt_lt (zpm_lt h1) fun i hi => ?_
  rw [zpt_dg hi]
  cases hb : bt c i
  · rw [h2 i hi hb]; rfl
  · rfl
theorem zpm_zpt {a : Nat} {A : Nat → Nat} {c : Int32} {m : Nat} (hA : ∀ i, i < a → 1 ≤ A i) (h : zpm a A m = true) : zjt a A c (zpt a c m) = true := by
  refine decide_eq_true ⟨zpm_t.mpr ⟨zpt_lt, fun i hi => ?_⟩, fun i hi hb => ?_⟩
  · rw [zpt_dg hi]
    have := (zpm_t.mp h).2 i hi
    have := hA i hi
    split <;> omega
  · rw [zpt_dg hi, hb]; rfl
theorem zbit_ne {k : Nat} (h : k < 32) : ¬ zbit k = 0 := fun q => by
  have := zbit_bt h h
  rw [q, b_0] at this
  simp at this
theorem zoc_ne {v : Nat → Int32} {a n : Nat} (hW : zWF a n v) (ha : a ≤ 4) {c : Int32} {s j : Nat} (hs : s < n) : ¬ zoc v a c s j = 0 ↔ zjt a (zac v s) c j = true := by
  have hn := hW.1
  have h81 := za_81 ha
  constructor
  · intro h
    refine Classical.byContradiction fun hx => h (zoF_out fun m hm q => hx ?_)
    rw [← q.2]
    exact zpm_zpt (fun i hi => (hW.ac hs hi).2.1) q.1
  · intro h q
    obtain ⟨h1, h2⟩ := of_decide_eq_true h
    have hl := zpm_lt h1
    have hx := (hW.nx hs (show j < 81 by omega)).2
    have := (zoF_bt (a := a) (A := zac v s) (c := c) (j := j) (b := fun m => zbit (znx v s m)) (i := znx v s j) (M := 81)).mpr ⟨j, by omega, h1, zjt_pt h, by rw [zbit_bt (by omega) (by omega)]; exact decide_eq_true rfl⟩
    rw [show zoF a (zac v s) c j (fun m => zbit (znx v s m)) 81 = zoc v a c s j from rfl, q, b_0] at this
    cases this
theorem zpj_jt {v : Nat → Int32} {a n : Nat} (hW : zWF a n v) {c : Int32} {s : Nat} (hs : s < n) : zjt a (zac v s) c (zpj v c s a) = true := by
  have hp : ∀ i, i < a → zpl v s i ≤ 2 := fun i hi => (hW.pl hs hi).2
  refine decide_eq_true ⟨zpm_t.mpr ⟨zpj_le v c s a hp, fun i hi => ?_⟩, fun i hi hb => ?_⟩
  · rw [zpj_dg v c s a hp i hi]
    have := (hW.ac hs hi).2.1
    unfold zpa
    cases bt c i
    · exact this
    · rw [if_pos rfl]; split <;> omega
  · rw [zpj_dg v c s a hp i hi, hb]; rfl
theorem zmk_s (p : Nat → Bool) (n : Nat) : zmk p (n + 1) = if p n then zmk p n ||| zbit n else zmk p n := rfl
/-! frames of the facts -/
theorem zK.ag {a : Nat} {σ τ : St} (h : zK a σ) (e0 : τ 0 = σ 0) (e70 : τ 70 = σ 70) (e71 : τ 71 = σ 71) (e73 : τ 73 0 = σ 73 0) (e87 : τ 87 0 = σ 87 0) : zK a τ := by
  unfold zK at h ⊢
  rw [e0, e70, e71, e73, e87]
  exact h
theorem zK.g {a : Nat} {σ τ : St} {L : List Nat} (h : zK a σ) (hg : zag L σ τ) (hL : 0 ∉ L ∧ 70 ∉ L ∧ 71 ∉ L ∧ 73 ∉ L ∧ 87 ∉ L) : zK a τ :=
  h.ag (hg 0 hL.1) (hg 70 hL.2.1) (hg 71 hL.2.2.1) (by rw [hg 73 hL.2.2.2.1]) (by rw [hg 87 hL.2.2.2.2])
theorem zRS.ag {a n : Nat} {v : Nat → Int32} {σ τ : St} {t : Nat} (h : zRS a n v σ t) (e0 : τ t 7 = σ t 7) (e1 : τ (t + 1) = σ (t + 1)) (e2 : τ (t + 2) = σ (t + 2)) (e3 : τ (t + 3) = σ (t + 3)) (e4 : τ (t + 4) = σ (t + 4)) : zRS a n v τ t := by
  unfold zRS at h ⊢
  rw [e0, e1, e2, e3, e4]
  exact h
theorem zRS.g {a n : Nat} {v : Nat → Int32} {σ τ : St} {L : List Nat} (h : zRS a n v σ 0) (hg : zag L σ τ) (hL : 0 ∉ L ∧ 1 ∉ L ∧ 2 ∉ L ∧ 3 ∉ L ∧ 4 ∉ L) : zRS a n v τ 0 :=
  h.ag (by rw [hg 0 hL.1]) (hg 1 hL.2.1) (hg 2 hL.2.2.1) (hg 3 hL.2.2.2.1) (hg 4 hL.2.2.2.2)
section ZS
variable {a n : Nat} {v : Nat → Int32} {σ : St}
theorem z_isForced (o X : Int32) : m_X6_isForced o X = zfo o X := by
  unfold m_X6_isForced zfo
  by_cases h : o = 0
  · rw [if_pos h, decide_eq_false (fun q => q.1 h)]
  · rw [if_neg h]
    by_cases h2 : (o &&& (X ^^^ (-1))) = 0
    · rw [if_pos h2, decide_eq_true ⟨h, h2⟩]
    · rw [if_neg h2, decide_eq_false (fun q => h2 q.2)]
theorem z_leastWithin (ha : a ≤ 4) (h2 : σ 0 2 = nI (3 ^ a)) {o : Nat → Int32} (ho : ∀ j, j < 81 → σ 72 j = o j) (hz : ∀ j, 3 ^ a ≤ j → o j = 0) (X : Int32) : m_X6_leastWithin σ X = some (zfs (fun j => zfo (o j) X) 81 0) := by
  have h81 := za_81 ha
  unfold m_X6_leastWithin
  refine zl (P := fun r => r = some (zfs (fun j => zfo (o j) X) 81 0)) (fun i z => z = nI i ∧ ∀ j, j < i → zfo (o j) X = false) (3 ^ a) (by omega) ⟨nI_0.symm, fun j hj => absurd hj (Nat.not_lt_zero j)⟩ ?_
  rintro k i z hi ⟨rfl, hd⟩ hk
  unfold m_X6_leastWithin_b2
  rw [h2]
  rcases Nat.lt_or_ge i (3 ^ a) with q | q
  · rw [if_neg (znle (by omega) (by omega) q), zrA (by decide) (by omega), ho i (by omega), z_isForced]
    cases e : zfo (o i) X
    · rw [if_pos zbIf, nI_1]
      refine hk q _ ⟨rfl, fun j hj => ?_⟩
      rcases Nat.lt_or_ge j i with w | w
      · exact hd j w
      · have : j = i := by omega
        subst this; exact e
    · rw [if_neg zbIt, zfs_hit (Nat.zero_le _) (by omega) e (fun k _ hk => hd k hk)]
  · rw [if_pos (zle (by omega) (by omega) q), zfs_no]
    intro k _ hk
    rcases Nat.lt_or_ge k (3 ^ a) with w | w
    · exact hd k (by omega)
    · rw [hz k w]; exact zfo_0 X
theorem z_spread72 (hK : zK a σ) (hW : zWF a n v) (hR : zRS a n v σ 0) {c s : Nat} (hc : c < 2 ^ a) (hs : s < n) :
    zP (fun τ => zag [72] σ τ ∧ ∀ j, j < 81 → τ 72 j = zoc v a (nI c) s j) (m_X6_spread σ 71 72 (nI c) (nI s)) :=
  z_spread (cl := fun q => q) hK hW hR (fun q hq => hK.2.2.2.2.2.2.2.1 q (by have := hW.1; omega)) (by decide) hc hs
theorem z_lw (hK : zK a σ) {τ : St} (hg : zag [72] σ τ) {c : Int32} {s : Nat} (ho : ∀ j, j < 81 → τ 72 j = zoc v a c s j) (X : Int32) : m_X6_leastWithin τ X = some (zlf v a c s X) :=
  z_leastWithin hK.2.1 (by rw [hg 0 (by decide)]; exact hK.2.2.2.2.1) ho (fun j hj => zoF_hi hj) X
theorem z_leastForcing (hK : zK a σ) (hW : zWF a n v) (hR : zRS a n v σ 0) {c s : Nat} (hc : c < 2 ^ a) (hs : s < n) (X : Int32) :
    zP (fun u => u.1 = zlf v a (nI c) s X ∧ zag [72] σ u.2) (m_X6_leastForcing σ (nI c) (nI s) X) := by
  unfold m_X6_leastForcing
  refine zbind (z_spread72 hK hW hR hc hs) ?_
  rintro τ ⟨hg, ho⟩
  refine zbe (z_lw hK hg ho X) (zP_some ⟨rfl, hg⟩)
theorem z_isJointAction (hK : zK a σ) (hW : zWF a n v) (hR : zRS a n v σ 0) {c s : Nat} (hc : c < 2 ^ a) (hs : s < n) (x : Int32) :
    zP (fun u => zag [72] σ u.2 ∧ (u.1 = true ↔ ∃ j, x = nI j ∧ zjt a (zac v s) (nI c) j = true)) (m_X6_isJointAction σ (nI c) (nI s) x) := by
  have h81 := za_81 hK.2.1
  unfold m_X6_isJointAction
  refine zbind (z_spread72 hK hW hR hc hs) ?_
  rintro τ ⟨hg, ho⟩
  have key : rAt 81 (τ 72) x = 0 ↔ ¬ ∃ j, x = nI j ∧ zjt a (zac v s) (nI c) j = true := by
    refine zin_any (x := x) (n := 81) (by decide) ?_ ?_
    · rintro j hj rfl
      rw [zrA (by decide) hj, ho j hj]
      have h := zoc_ne hW hK.2.1 (c := nI c) hs (j := j)
      constructor
      · rintro e ⟨k, hk, hz⟩
        have hk2 := zpm_lt (of_decide_eq_true hz).1
        have : j = k := (nI_eq (by omega) (by omega)).mp hk
        subst this
        exact (h.mpr hz) e
      · intro hx
        exact Classical.byContradiction fun e => hx ⟨j, rfl, h.mp e⟩
    · intro hf
      have e : rAt 81 (τ 72) x = 0 := by
        unfold rAt
        rcases zin_f hf with q | q
        · rw [if_pos q]
        · by_cases w : x < 0
          · rw [if_pos w]
          · rw [if_neg w, if_pos (show Int32.ofNat 81 ≤ x from q)]
      refine ⟨fun _ => ?_, fun _ => e⟩
      rintro ⟨j, rfl, hz⟩
      have hk2 := zpm_lt (of_decide_eq_true hz).1
      rw [zin_nI (by decide) (by omega)] at hf
      cases hf
  refine zite (fun h => zP_some ⟨hg, ?_⟩) (fun h => zP_some ⟨hg, ?_⟩)
  · exact ⟨fun q => absurd q Bool.false_ne_true, fun q => absurd q (key.mp h)⟩
  · exact ⟨fun _ => Classical.byContradiction fun q => h (key.mpr q), fun _ => rfl⟩
theorem z_leastLeaving (hK : zK a σ) (hW : zWF a n v) (hR : zRS a n v σ 0) {c s j : Nat} (hc : c < 2 ^ a) (hs : s < n) (hj : j < 3 ^ a) (X : Int32) :
    m_X6_leastLeaving σ (nI c) (nI s) (nI j) X = some (zfs (fun m => decide (zpm a (zac v s) m = true ∧ zpt a (nI c) m = j ∧ bt X (znx v s m) = false)) 81 0) := by
  have h81 := za_81 hK.2.1
  have hn := hW.1
  unfold m_X6_leastLeaving
  generalize hp : (fun m => decide (zpm a (zac v s) m = true ∧ zpt a (nI c) m = j ∧ bt X (znx v s m) = false)) = p
  have hpv : ∀ m, p m = decide (zpm a (zac v s) m = true ∧ zpt a (nI c) m = j ∧ bt X (znx v s m) = false) := fun m => by rw [← hp]
  refine zl (P := fun r => r = some (zfs p 81 0)) (fun i z => z = nI i ∧ ∀ j, j < i → p j = false) (3 ^ a) (by omega) ⟨nI_0.symm, fun j hj => absurd hj (Nat.not_lt_zero j)⟩ ?_
  rintro k i z hi ⟨rfl, hd⟩ hk
  have step : i < 3 ^ a → p i = false → ∀ j, j < i + 1 → p j = false := fun _ e j hj => by
    rcases Nat.lt_or_ge j i with w | w
    · exact hd j w
    · have : j = i := by omega
      subst this; exact e
  unfold m_X6_leastLeaving_b3
  rw [hK.2.2.2.2.1]
  rcases Nat.lt_or_ge i (3 ^ a) with q | q
  · rw [if_neg (znle (by omega) (by omega) q), z_target hK.2.1 hn hK.2.2.2.2.1 hR hs q, nI_1]
    by_cases h1 : zpm a (zac v s) i = true
    · obtain ⟨hx1, hx2⟩ := hW.nx hs (show i < 81 by omega)
      have h3 : zpt a (nI c) i < 81 := Nat.lt_of_lt_of_le zpt_lt h81.1
      unfold m_X6_jointPart
      rw [if_pos h1, hx1, if_neg (znm1 (by omega)), z_joint hK hc q, zsh1 X (by omega)]
      by_cases h2 : zpt a (nI c) i = j
      · rw [if_pos (by rw [h2])]
        cases h3 : bt X (znx v s i)
        · rw [if_pos zbIf, zfs_hit (Nat.zero_le _) (by omega) (by rw [hpv]; exact decide_eq_true ⟨h1, h2, h3⟩) (fun k _ hk => hd k hk)]
        · rw [if_neg zbIt]
          exact hk q _ ⟨rfl, step q (by rw [hpv]; exact decide_eq_false (fun r => by rw [h3] at r; exact absurd r.2.2 (by decide)))⟩
      · rw [if_neg (zne (by omega) (by omega) h2)]
        exact hk q _ ⟨rfl, step q (by rw [hpv]; exact decide_eq_false (fun r => h2 r.2.1))⟩
    · rw [if_neg h1, if_pos rfl]
      exact hk q _ ⟨rfl, step q (by rw [hpv]; exact decide_eq_false (fun r => h1 r.1))⟩
  · rw [if_pos (zle (by omega) (by omega) q), zfs_no]
    intro k _ hk
    rcases Nat.lt_or_ge k (3 ^ a) with w | w
    · exact hd k (by omega)
    · rw [hpv]
      exact decide_eq_false fun r => absurd (zpm_lt r.1) (by omega)
theorem z_allN {n : Nat} (hn : n ≤ 12) : zall n = nI (2 ^ n - 1) := (by decide +kernel : ∀ n, n < 13 → zall n = nI (2 ^ n - 1)) n (by omega)
theorem z_2n {n : Nat} (hn : n ≤ 12) : 2 ^ n ≤ 4096 ∧ 1 ≤ 2 ^ n := (by decide : ∀ n, n < 13 → 2 ^ n ≤ 4096 ∧ 1 ≤ 2 ^ n) n (by omega)
theorem z_countForced (hK : zK a σ) (hW : zWF a n v) (hR : zRS a n v σ 0) {c s : Nat} (hc : c < 2 ^ a) (hs : s < n) :
    zP (fun u => u.1 = nI (fb_ct (fun k => zcan v a (nI c) s (nI k)) (2 ^ n)) ∧ zag [72] σ u.2) (m_X6_countForced σ (nI c) (nI s)) := by
  have hn := hW.1
  have h2 := z_2n hn
  unfold m_X6_countForced
  refine zbind (z_spread72 hK hW hR hc hs) ?_
  rintro τ ⟨hg, ho⟩
  generalize hp : (fun k => zcan v a (nI c) s (nI k)) = p
  refine zl (P := zP _) (fun i z => z.2 = nI i ∧ z.1 = nI (fb_ct p i)) (2 ^ n) (by omega) ⟨nI_0.symm, rfl⟩ ?_
  rintro k i ⟨x, y⟩ hi ⟨hy, hx⟩ hk
  dsimp only at hx hy ⊢
  subst hx hy
  unfold m_X6_countForced_b19
  rw [z_allStates (n := n) (by rw [hg 0 (by decide)]; exact hR.1), z_allN hn]
  rcases Nat.lt_or_ge i (2 ^ n) with q | q
  · rw [if_neg (znlt (by omega) (by omega) (by omega))]
    refine zbe (z_lw hK hg ho (nI i)) ?_
    have hpi : p i = decide (¬ zlf v a (nI c) s (nI i) = -9) := by rw [← hp]; rfl
    by_cases e : zlf v a (nI c) s (nI i) = -9
    · rw [if_pos e, nI_1]
      refine hk q _ ⟨rfl, ?_⟩
      rw [fb_ct_succ, hpi, decide_eq_false (fun h => h e)]
      rfl
    · rw [if_neg e, nI_1, nI_1]
      refine hk q _ ⟨rfl, ?_⟩
      rw [fb_ct_succ, hpi, decide_eq_true e]
      rfl
  · have : i = 2 ^ n := by omega
    subst this
    rw [if_pos (zlt (by omega) (by omega) (by omega))]
    exact zP_some ⟨rfl, hg⟩
theorem z_chosen (hK : zK a σ) (hW : zWF a n v) (hR : zRS a n v σ 0) {c s : Nat} (hs : s < n) : m_X6_chosenJoint σ (nI c) (nI s) = some (nI (zpj v (nI c) s a)) := by
  have hn := hW.1
  have ha := hK.2.1
  unfold m_X6_chosenJoint
  refine zl_e (fun i => (nI (zpj v (nI c) s i), nI (3 ^ i), nI i)) a (by omega) rfl ?_
  intro k i hi hk
  unfold m_X6_chosenJoint_b8
  rw [hK.2.2.1]
  dsimp only
  rcases Nat.lt_or_ge i a with q | q
  · have h4 := zWF.ac hW hs q
    have h5 := zWF.pl hW hs q
    have h6 := za_81 (show i ≤ 4 by omega)
    rw [if_neg (znle (by omega) (by omega) q), z_ix4, zrA (by decide) (by omega), zrA (by decide) (by omega), hR.2.2.1 s i hs q, hR.2.2.2.1 s i hs q, h4.1, h5.1]
    have hk := hk q
    have e3 : nI (3 ^ i) * 3 = nI (3 ^ (i + 1)) := pk_mul (3 ^ i) 3
    rcases Nat.lt_or_ge (zpl v s i) (zac v s i) with w | w
    · rw [if_neg (znle (by omega) (by omega) w)]
      unfold m_X6_chosenJoint_b64
      rw [if_neg (by decide), zsh1 _ (by omega), e3, nI_1, pk_mul, nI_add]
      have ez : zpj v (nI c) s (i + 1) = zpj v (nI c) s i + (if bt (nI c) i then 3 ^ i * zpl v s i else 0) := by
        show _ + (if bt (nI c) i = true then 3 ^ i * zpa v s i else 0) = _
        unfold zpa
        rw [if_pos w]
      rw [ez] at hk
      cases hb : bt (nI c) i
      · rw [if_pos zbIf, ← hk, hb]; rfl
      · rw [if_neg zbIt, ← hk, hb, if_pos rfl, Nat.mul_comm (zpl v s i)]
    · rw [if_pos (zle (by omega) (by omega) w)]
      unfold m_X6_chosenJoint_b64
      rw [if_pos rfl, e3, nI_1]
      have ez : zpj v (nI c) s (i + 1) = zpj v (nI c) s i := by
        show _ + (if bt (nI c) i = true then 3 ^ i * zpa v s i else 0) = _
        unfold zpa
        rw [if_neg (show ¬ zpl v s i < zac v s i by omega)]
        simp
      rw [ez] at hk
      exact hk
  · have : i = a := by omega
    subst this
    rw [if_pos (zle (by omega) (by omega) q)]
theorem z_forcing (hK : zK a σ) (hW : zWF a n v) (hR : zRS a n v σ 0) {c : Nat} (hc : c < 2 ^ a) (X : Int32) (bp : Bool) :
    zP (fun u => u.1 = zF v a n bp (nI c) X ∧ zag [72] σ u.2) (m_X6_forcing σ (nI c) X (bI bp)) := by
  have hn := hW.1
  have ha := hK.2.1
  have h81 := za_81 ha
  unfold m_X6_forcing zF
  generalize hp : (fun s => if bp = true then zcanP v a (nI c) s X else zcan v a (nI c) s X) = p
  refine zl (P := zP _) (fun i z => z.2.2 = nI i ∧ z.2.1 = zmk p i ∧ zag [72] σ z.1) n (by omega) ⟨nI_0.symm, rfl, zag.rf⟩ ?_
  rintro k i ⟨τ, x, y⟩ hi ⟨hy, hx, hg⟩ hk
  dsimp only at hx hy hg ⊢
  subst hx hy
  unfold m_X6_forcing_b6
  rw [hg 0 (by decide), hR.1]
  rcases Nat.lt_or_ge i n with q | q
  · rw [if_neg (znle (by omega) (by omega) q)]
    refine zbind (z_spread72 (hK.g hg (by decide)) hW (hR.g hg (by decide)) hc q) ?_
    rintro ρ ⟨hg2, ho⟩
    have hgr : zag [72] σ ρ := hg.tr hg2
    have fin : ∀ b : Bool, p i = b → zP (fun u => u.1 = zmk p n ∧ zag [72] σ u.2) (m_X6_forcing_b77 ρ (nI c) X (bI bp) (zmk p i) (nI i) (bI b) k) := by
      intro b hb
      unfold m_X6_forcing_b77
      rw [nI_1]
      cases b
      · rw [if_pos zbIf]
        exact hk q _ ⟨rfl, by dsimp only; rw [zmk_s, hb]; rfl, hgr⟩
      · rw [if_neg zbIt]
        exact hk q _ ⟨rfl, by dsimp only; rw [zmk_s, hb]; rfl, hgr⟩
    cases bp
    · rw [if_pos zbIf]
      refine zbe (z_lw (hK.g hg (by decide)) hg2 ho X) ?_
      have hpi : p i = decide (¬ zlf v a (nI c) i X = -9) := by rw [← hp]; rfl
      by_cases e : zlf v a (nI c) i X = -9
      · rw [if_pos e]
        exact fin false (by rw [hpi]; exact decide_eq_false (fun h => h e))
      · rw [if_neg e]
        exact fin true (by rw [hpi]; exact decide_eq_true e)
    · rw [if_neg zbIt]
      refine zbe (z_chosen (hK.g hgr (by decide)) hW (hR.g hgr (by decide)) q) ?_
      have hpj : zpj v (nI c) i a < 3 ^ a := zpj_le v (nI c) i a (fun j hj => (hW.pl q hj).2)
      rw [zrA (by decide) (by omega), ho _ (by omega), z_isForced]
      exact fin _ (by rw [← hp]; rfl)
  · have : i = n := by omega
    subst this
    rw [if_pos (zle (by omega) (by omega) q)]
    exact zP_some ⟨rfl, hg⟩
end ZS
