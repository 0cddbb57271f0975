/-! LIKENESS in the first system -/
theorem zflF_hit {r : Nat → Nat → Bool} {s t : Nat} : ∀ {k u}, u ≤ t → t < u + k → r t s = true → (∀ w, u ≤ w → w < t → r w s = false) → zflF r s k u = t
  | 0, u, h1, h2, _, _ => absurd h2 (by omega)
  | k + 1, u, h1, h2, h3, h4 => by
    unfold zflF
    by_cases e : t = u
    · subst e; rw [if_pos h3]
    · rw [h4 u (Nat.le_refl _) (by omega)]
      exact zflF_hit (by omega) (by omega) h3 (fun w a b => h4 w (by omega) b)
theorem zflF_no {r : Nat → Nat → Bool} {s : Nat} : ∀ {k u}, (∀ w, u ≤ w → w < u + k → r w s = false) → zflF r s k u = u + k
  | 0, _, _ => rfl
  | k + 1, u, h => by
    unfold zflF
    rw [h u (Nat.le_refl _) (by omega), zflF_no (fun w a b => h w (by omega) (by omega)), if_neg (by decide)]
    omega
theorem zfl_hit {r : Nat → Nat → Bool} {s t : Nat} (ht : t < s) (h : r t s = true) (h2 : ∀ w, w < t → r w s = false) : zfl r s = t := zflF_hit (Nat.zero_le _) (by omega) h (fun w _ b => h2 w b)
theorem zfl_no {r : Nat → Nat → Bool} {s : Nat} (h : ∀ w, w < s → r w s = false) : zfl r s = s := by
  have := zflF_no (r := r) (s := s) (k := s) (u := 0) (fun w _ b => h w (by omega))
  unfold zfl
  omega
theorem zrf_y {r : Nat → Nat → Bool} {s : Nat} (h : zfl r s < s) : zrf r (s + 1) = ((zrf r s).1, va_up (zrf r s).2 s ((zrf r s).2 (zfl r s))) := by
  show (if zfl r s < s then _ else _) = _
  rw [if_pos h]
theorem zrf_n {r : Nat → Nat → Bool} {s : Nat} (h : ¬ zfl r s < s) : zrf r (s + 1) = ((zrf r s).1 + 1, va_up (zrf r s).2 s (zrf r s).1) := by
  show (if zfl r s < s then _ else _) = _
  rw [if_neg h]
theorem zdv_grow {v : Nat → Int32} {a n k : Nat} (h : ∀ j, j < k → (zdv v a n (j + 1)).1 ≠ (zdv v a n j).1) : (zdv v a n 0).1 + k ≤ (zdv v a n k).1 := by
  induction k with
  | zero => exact Nat.le_refl _
  | succ k ih =>
    have h1 := ih (fun j hj => h j (by omega))
    have h2 := h k (by omega)
    have h3 := zdv_up v a n k
    omega
theorem zdv_pos {v : Nat → Int32} {a n : Nat} (h : (zdv v a n 0).1 ≠ min 1 n) : 2 ≤ (zdv v a n 0).1 := by
  obtain ⟨h1, h2⟩ := zdv_ok v a n 0
  rcases Nat.eq_zero_or_pos n with e | e
  · omega
  · have := h2 0 e
    omega
section ZD
variable {a n : Nat} {v : Nat → Int32} {σ : St}
theorem z_hasWithin (ha : a ≤ 4) (h2 : σ 0 2 = nI (3 ^ a)) {t : Nat} {o : Nat → Int32} (ho : ∀ j, j < 81 → σ t j = o j) (hz : ∀ j, 3 ^ a ≤ j → o j = 0) (X : Int32) : zP (fun b => b = true ↔ ∃ k, k < 81 ∧ zfo (o k) X = true) (m_X2_hasWithin σ t X) := by
  have h81 := za_81 ha
  unfold m_X2_hasWithin
  refine zl (P := zP _) (fun i z => z = nI i ∧ ∀ j, j < i → zfo (o j) X = false) (3 ^ a) (by omega) ⟨nI_0.symm, fun j hj => absurd hj (Nat.not_lt_zero j)⟩ ?_
  rintro k i z hi ⟨rfl, hd⟩ hk
  unfold m_X2_hasWithin_b2
  rw [h2]
  rcases Nat.lt_or_ge i (3 ^ a) with q | q
  · rw [if_neg (znle (by omega) (by omega) q), zrA (by decide) (by omega), ho i (by omega), z_isForced]
    cases e : zfo (o i) X
    · rw [if_pos zbIf, nI_1]
      refine hk q _ ⟨rfl, fun j hj => ?_⟩
      rcases Nat.lt_or_ge j i with w | w
      · exact hd j w
      · have : j = i := by omega
        subst this; exact e
    · rw [if_neg zbIt]
      exact zP_some ⟨fun _ => ⟨i, by omega, e⟩, fun _ => rfl⟩
  · rw [if_pos (zle (by omega) (by omega) q)]
    refine zP_some ⟨fun h => absurd h Bool.false_ne_true, fun ⟨k, h1, h2⟩ => ?_⟩
    exfalso
    rcases Nat.lt_or_ge k (3 ^ a) with w | w
    · rw [hd k (by omega)] at h2; cases h2
    · rw [hz k w, zfo_0] at h2; cases h2
theorem z_answers (ha : a ≤ 4) (h2 : σ 0 2 = nI (3 ^ a)) {t u : Nat} {o p : Nat → Int32} (ho : ∀ j, j < 81 → σ t j = o j) (hz : ∀ j, 3 ^ a ≤ j → o j = 0) (hp : ∀ j, j < 81 → σ u j = p j) (hz2 : ∀ j, 3 ^ a ≤ j → p j = 0) : zP (fun b => b = true ↔ ∀ j, j < 81 → ¬ o j = 0 → ∃ k, k < 81 ∧ zfo (p k) (o j) = true) (m_X2_answers σ t u) := by
  have h81 := za_81 ha
  unfold m_X2_answers
  refine zl (P := zP _) (fun i z => z = nI i ∧ ∀ j, j < i → ¬ o j = 0 → ∃ k, k < 81 ∧ zfo (p k) (o j) = true) (3 ^ a) (by omega) ⟨nI_0.symm, fun j hj => absurd hj (Nat.not_lt_zero j)⟩ ?_
  rintro k i z hi ⟨rfl, hd⟩ hk
  unfold m_X2_answers_b2
  rw [h2]
  rcases Nat.lt_or_ge i (3 ^ a) with q | q
  · have nx : (¬ o i = 0 → ∃ k, k < 81 ∧ zfo (p k) (o i) = true) → zP (fun b => b = true ↔ ∀ j, j < 81 → ¬ o j = 0 → ∃ k, k < 81 ∧ zfo (p k) (o j) = true) (k (nI i + 1)) := by
      intro e
      rw [nI_1]
      refine hk q _ ⟨rfl, fun j hj => ?_⟩
      rcases Nat.lt_or_ge j i with w | w
      · exact hd j w
      · have : j = i := by omega
        subst this; exact e
    rw [if_neg (znle (by omega) (by omega) q), zrA (by decide) (by omega), ho i (by omega)]
    refine zite (fun e => nx (fun w => absurd e w)) (fun e => ?_)
    refine zbind (z_hasWithin ha h2 hp hz2 (o i)) ?_
    intro b hb
    cases b
    · rw [if_pos zbIf]
      refine zP_some ⟨fun h => absurd h Bool.false_ne_true, fun h => ?_⟩
      exact hb.mpr (h i (by omega) e)
    · rw [if_neg zbIt]
      exact nx (fun _ => hb.mp rfl)
  · rw [if_pos (zle (by omega) (by omega) q)]
    refine zP_some ⟨fun _ j hj hne => ?_, fun _ => rfl⟩
    rcases Nat.lt_or_ge j (3 ^ a) with w | w
    · exact hd j (by omega) hne
    · exact absurd (hz j w) hne
theorem z_areAlike (hK : zK a σ) (hW : zWF a n v) (hR : zRS a n v σ 0) {cl : Nat → Nat} (hcl : ∀ q, q < n → σ 83 q = nI (cl q)) {s t : Nat} (hs : s < n) (ht : t < n) : zP (fun u => u.1 = zak v a cl s t ∧ zag [85, 86] σ u.2) (m_X2_areAlike σ (nI s) (nI t)) := by
  have ha := hK.2.1
  have h81 := za_81 ha
  unfold m_X2_areAlike
  refine zl (P := zP _) (fun c z => z.2 = nI c ∧ zag [85, 86] σ z.1 ∧ ∀ d, d < c → zmt v a cl (nI d) s t = true ∧ zmt v a cl (nI d) t s = true) (2 ^ a) (by omega) ⟨nI_0.symm, zag.rf, fun j hj => absurd hj (Nat.not_lt_zero j)⟩ ?_
  rintro k c ⟨τ, x⟩ hc ⟨hx, hg, hd⟩ hk
  dsimp only at hx hg hd ⊢
  subst hx
  unfold m_X2_areAlike_b2
  rw [hg 0 (by decide), hK.2.2.2.1]
  rcases Nat.lt_or_ge c (2 ^ a) with q | q
  · rw [if_neg (znle (by omega) (by omega) q)]
    have g1 := fun {ρ : St} (h : zag [85, 86] σ ρ) => (⟨hK.g h (by decide), hR.g h (by decide), fun q hq => by rw [h 83 (by decide)]; exact hcl q hq⟩ : zK a ρ ∧ zRS a n v ρ 0 ∧ ∀ q, q < n → ρ 83 q = nI (cl q))
    obtain ⟨k1, r1, c1⟩ := g1 hg
    refine zbind (z_spread (t3 := 83) (t4 := 85) k1 hW r1 c1 (by decide) q hs) ?_
    rintro ρ ⟨hg2, ho⟩
    have hgr : zag [85, 86] σ ρ := hg.tr (hg2.sub (fun k hk => by simp at hk ⊢; omega))
    obtain ⟨k2, r2, c2⟩ := g1 hgr
    refine zbind (z_spread (t3 := 83) (t4 := 86) k2 hW r2 c2 (by decide) q ht) ?_
    rintro ρ2 ⟨hg3, ho2⟩
    have hgr2 : zag [85, 86] σ ρ2 := hgr.tr (hg3.sub (fun k hk => by simp at hk ⊢; omega))
    have e85 : ∀ j, j < 81 → ρ2 85 j = zoC v a cl (nI c) s j := fun j hj => by rw [hg3 85 (by decide)]; exact ho j hj
    have e86 : ∀ j, j < 81 → ρ2 86 j = zoC v a cl (nI c) t j := ho2
    have h02 : ρ2 0 2 = nI (3 ^ a) := by rw [hgr2 0 (by decide)]; exact hK.2.2.2.2.1
    have fal : ¬ (zmt v a cl (nI c) s t = true ∧ zmt v a cl (nI c) t s = true) → zak v a cl s t = false := fun h => by
      cases e : zak v a cl s t
      · rfl
      · exact absurd (zak_t.mp e c q) h
    refine zbind (z_answers ha h02 e85 (fun j hj => zoF_hi hj) e86 (fun j hj => zoF_hi hj)) ?_
    intro b hb
    rw [← zmt_t] at hb
    cases b
    · rw [if_pos zbIf]
      exact zP_some ⟨(fal (fun h => absurd (hb.mpr h.1) (by decide))).symm, hgr2⟩
    rw [if_neg zbIt]
    refine zbind (z_answers ha h02 e86 (fun j hj => zoF_hi hj) e85 (fun j hj => zoF_hi hj)) ?_
    intro b2 hb2
    rw [← zmt_t] at hb2
    cases b2
    · rw [if_pos zbIf]
      exact zP_some ⟨(fal (fun h => absurd (hb2.mpr h.2) (by decide))).symm, hgr2⟩
    rw [if_neg zbIt, nI_1]
    refine hk q _ ⟨rfl, hgr2, fun d hd2 => ?_⟩
    rcases Nat.lt_or_ge d c with w | w
    · exact hd d w
    · have : d = c := by omega
      subst this
      exact ⟨hb.mp rfl, hb2.mp rfl⟩
  · have : c = 2 ^ a := by omega
    subst this
    rw [if_pos (zle (by omega) (by omega) q)]
    exact zP_some ⟨(zak_t.mpr hd).symm, hg⟩
theorem z_firstLike (hK : zK a σ) (hW : zWF a n v) (hR : zRS a n v σ 0) {cl : Nat → Nat} (hcl : ∀ q, q < n → σ 83 q = nI (cl q) ∧ cl q < 12) {s : Nat} (hs : s < n) : zP (fun u => u.1 = nI (zfl (zrC v a cl) s) ∧ zag [85, 86] σ u.2) (m_X2_firstLike σ (nI s)) := by
  have hn := hW.1
  unfold m_X2_firstLike
  refine zl (P := zP _) (fun t z => z.2 = nI t ∧ zag [85, 86] σ z.1 ∧ ∀ u, u < t → zrC v a cl u s = false) s (by omega) ⟨nI_0.symm, zag.rf, fun j hj => absurd hj (Nat.not_lt_zero j)⟩ ?_
  rintro k t ⟨τ, x⟩ ht ⟨hx, hg, hd⟩ hk
  dsimp only at hx hg hd ⊢
  subst hx
  unfold m_X2_firstLike_b2
  rcases Nat.lt_or_ge t s with q | q
  · have cn : ∀ u, u < n → m_X2_classNumber τ (nI u) = nI (cl u) := fun u hu => by
      unfold m_X2_classNumber
      rw [zrA (by decide) (by omega), hg 83 (by decide)]
      exact (hcl u hu).1
    have hRτ := hR.g hg (by decide)
    rw [if_neg (znle (by omega) (by omega) q), cn t (by omega), cn s hs, z_labelSet hn hRτ (show t < n by omega), z_labelSet hn hRτ hs]
    have nx : ∀ ρ, zag [85, 86] σ ρ → zrC v a cl t s = false → zP (fun u => u.1 = nI (zfl (zrC v a cl) s) ∧ zag [85, 86] σ u.2) (k (ρ, nI t + 1)) := by
      intro ρ h1 e
      rw [nI_1]
      refine hk q _ ⟨rfl, h1, fun u hu => ?_⟩
      rcases Nat.lt_or_ge u t with w | w
      · exact hd u w
      · have : u = t := by omega
        subst this; exact e
    have b1 := (hcl t (by omega)).2
    have b2 := (hcl s hs).2
    by_cases e1 : cl t = cl s
    · rw [if_pos (by rw [e1])]
      by_cases e2 : v (100 * t) = v (100 * s)
      · rw [if_pos e2]
        refine zbind (z_areAlike (hK.g hg (by decide)) hW hRτ (fun q hq => by rw [hg 83 (by decide)]; exact (hcl q hq).1) (show t < n by omega) hs) ?_
        rintro ⟨b, ρ⟩ ⟨hb, hg2⟩
        dsimp only at hb hg2 ⊢
        cases b
        · rw [if_pos zbIf]
          exact nx ρ (hg.tr hg2) (decide_eq_false (fun r => by rw [← hb] at r; exact absurd r.2.2 (by decide)))
        · rw [if_neg zbIt]
          exact zP_some ⟨by rw [zfl_hit q (decide_eq_true ⟨e1, e2, hb.symm⟩) hd], hg.tr hg2⟩
      · rw [if_neg e2]
        exact nx τ hg (decide_eq_false (fun r => e2 r.2.1))
    · rw [if_neg (zne (by omega) (by omega) e1)]
      exact nx τ hg (decide_eq_false (fun r => e1 r.1))
  · have : t = s := by omega
    subst this
    rw [if_pos (zle (by omega) (by omega) q)]
    exact zP_some ⟨by rw [zfl_no hd], hg⟩
theorem z_refine (hK : zK a σ) (hW : zWF a n v) (hR : zRS a n v σ 0) {cl : Nat → Nat} (hcl : ∀ q, q < n → σ 83 q = nI (cl q) ∧ cl q < 12) : zP (fun u => u.1 = nI (zrf (zrC v a cl) n).1 ∧ zag [84, 85, 86] σ u.2 ∧ ∀ s, s < n → u.2 84 s = nI ((zrf (zrC v a cl) n).2 s)) (m_X2_refine σ) := by
  have hn := hW.1
  generalize hr : zrC v a cl = r
  unfold m_X2_refine
  refine zl (P := zP _) (fun s z => z.2.2 = nI s ∧ z.2.1 = nI (zrf r s).1 ∧ zag [84, 85, 86] σ z.1 ∧ ∀ u, u < s → z.1 84 u = nI ((zrf r s).2 u)) n (by omega) ⟨nI_0.symm, rfl, zag.rf, fun j hj => absurd hj (Nat.not_lt_zero j)⟩ ?_
  rintro k s ⟨τ, x, y⟩ hs ⟨hy, hx, hg, hd⟩ hk
  dsimp only at hx hy hg hd ⊢
  subst hx hy
  unfold m_X2_refine_b4
  rw [hg 0 (by decide), hR.1]
  rcases Nat.lt_or_ge s n with q | q
  · rw [if_neg (znle (by omega) (by omega) q)]
    refine zbind (z_firstLike (hK.g hg (by decide)) hW (hR.g hg (by decide)) (fun q hq => by rw [hg 83 (by decide)]; exact hcl q hq) q) ?_
    rintro ⟨o, ρ⟩ ⟨ho, hg2⟩
    dsimp only at ho hg2 ⊢
    rw [hr] at ho
    subst ho
    have hgr : zag [84, 85, 86] σ ρ := hg.tr (hg2.sub (fun k hk => by simp at hk ⊢; omega))
    have e84 : ρ 84 = τ 84 := hg2 84 (by decide)
    have hle := zfl_le r s
    have hok := zrf_ok r s
    by_cases h : zfl r s < s
    · rw [if_neg (znle (by omega) (by omega) h), zrA (by decide) (by omega), e84, hd _ h, zrP (by decide) (by omega), nI_1]
      refine hk q _ ⟨rfl, by rw [zrf_y h], hgr.up (by simp), fun u hu => ?_⟩
      dsimp only
      rw [zup_v, zrf_y h]
      by_cases e : u = s
      · subst e; rw [if_pos ⟨rfl, rfl⟩]; dsimp only; rw [zva_s]
      · rw [if_neg (fun w => e w.2), e84]; dsimp only; rw [zva_n e]; exact hd u (by omega)
    · have he : zfl r s = s := by omega
      rw [he, if_pos (zle (by omega) (by omega) (Nat.le_refl _)), zrP (by decide) (by omega), nI_1, nI_1]
      refine hk q _ ⟨rfl, by rw [zrf_n h], hgr.up (by simp), fun u hu => ?_⟩
      dsimp only
      rw [zup_v, zrf_n h]
      by_cases e : u = s
      · subst e; rw [if_pos ⟨rfl, rfl⟩]; dsimp only; rw [zva_s]
      · rw [if_neg (fun w => e w.2), e84]; dsimp only; rw [zva_n e]; exact hd u (by omega)
  · have : s = n := by omega
    subst this
    rw [if_pos (zle (by omega) (by omega) q)]
    exact zP_some ⟨rfl, hg, hd⟩
def zDe (v : Nat → Int32) (a n K : Nat) : Prop := (K = 0 ∧ (zdv v a n 0).1 = min 1 n) ∨ ((zdv v a n 0).1 ≠ min 1 n ∧ ∃ k, K = k + 1 ∧ (zdv v a n (k + 1)).1 = (zdv v a n k).1 ∧ ∀ j, j < k → (zdv v a n (j + 1)).1 ≠ (zdv v a n j).1)
theorem z_divide (hK : zK a σ) (hW : zWF a n v) (hR : zRS a n v σ 0) : zP (fun u => zag [83, 84, 85, 86] σ u.2 ∧ ∃ K, zDe v a n K ∧ u.1 = nI (zdv v a n K).1 ∧ ∀ s, s < n → u.2 83 s = nI ((zdv v a n K).2 s)) (m_X2_divide σ) := by
  have hn := hW.1
  have ha := hK.2.1
  unfold m_X2_divide
  refine zl (P := zP _) (fun i z => z.2 = nI i ∧ zag [83, 84, 85, 86] σ z.1 ∧ ∀ u, u < i → z.1 83 u = nI 0) 12 (by decide) ⟨nI_0.symm, zag.rf, fun j hj => absurd hj (Nat.not_lt_zero j)⟩ ?_
  rintro k i ⟨τ, x⟩ hi ⟨hx, hg, hd⟩ hk
  dsimp only at hx hg hd ⊢
  subst hx
  unfold m_X2_divide_b2
  rcases Nat.lt_or_ge i 12 with q | q
  · rw [if_neg (show ¬ (12 : Int32) ≤ nI i from znle (a := 12) (by decide) (by omega) q), zrP (by decide) q, nI_1]
    refine hk q _ ⟨rfl, hg.up (by simp), fun u hu => ?_⟩
    dsimp only
    rw [zup_v]
    by_cases e : u = i
    · subst e; rw [if_pos ⟨rfl, rfl⟩]; rfl
    · rw [if_neg (fun w => e w.2)]; exact hd u (by omega)
  have : i = 12 := by omega
  subst this
  rw [if_pos (show (12 : Int32) ≤ nI 12 by decide), hg 0 (by decide), hR.1]
  have em : (if nI n < 1 then nI n else 1) = nI (min 1 n) := by
    rcases Nat.eq_zero_or_pos n with e | e
    · subst e; rfl
    · rw [if_neg (show ¬ nI n < 1 from znlt (b := 1) (by omega) (by decide) e), show min 1 n = 1 by omega]
      rfl
  rw [em]
  refine zl (P := zP _) (fun k z => z.2.2 = nI k ∧ zag [83, 84, 85, 86] σ z.1 ∧ ((k = 0 ∧ z.2.1 = nI (min 1 n) ∧ ∀ u, u < n → z.1 83 u = nI 0) ∨ (∃ j, k = j + 1 ∧ (zdv v a n 0).1 ≠ min 1 n ∧ (∀ i, i < j → (zdv v a n (i + 1)).1 ≠ (zdv v a n i).1) ∧ z.2.1 = nI (zdv v a n j).1 ∧ ∀ u, u < n → z.1 83 u = nI ((zdv v a n j).2 u)))) 12 (by decide) ⟨nI_0.symm, hg, Or.inl ⟨rfl, rfl, fun u hu => hd u (by omega)⟩⟩ ?_
  clear hk hd hg hi q τ k
  rintro k j ⟨τ, x, y⟩ hj ⟨hy, hg, hcase⟩ hk
  dsimp only at hy hg hcase ⊢
  subst hy
  unfold m_X2_divide_b37
  rw [if_neg (show ¬ (12 : Int32) < nI j from znlt (a := 12) (by decide) (by omega) (by omega))]
  have hKτ := hK.g hg (by decide)
  have hRτ := hR.g hg (by decide)
  have cpy : ∀ {ρ : St} {u : Nat}, u < n → rCopy ρ 84 12 83 12 83 u = ρ 84 u := fun hu => by
    rw [z_rc]
    rw [show ∀ (f : Nat → Int32) (τ : St), va_up τ 83 f 83 = f from fun f τ => by simp [va_up], z_cpy (by omega)]
  have cpg : ∀ {ρ : St}, zag [83, 84, 85, 86] σ ρ → zag [83, 84, 85, 86] σ (rCopy ρ 84 12 83 12) := fun h k hk => by
    rw [z_rc, va_up_ne _ _ (fun e => hk (by rw [e]; simp))]
    exact h k hk
  rcases hcase with ⟨rfl, rfl, hcl⟩ | ⟨i, rfl, hne, hno, rfl, hcl⟩
  · refine zbind (z_refine (cl := fun _ => 0) hKτ hW hRτ (fun q hq => ⟨hcl q hq, by decide⟩)) ?_
    rintro ⟨o, ρ⟩ ⟨ho, hg2, hf⟩
    dsimp only at ho hg2 hf ⊢
    rw [zdv_C0 hW ha (fun _ _ => rfl)] at ho hf
    subst ho
    have hb := zdv_ok v a n 0
    have hgr : zag [83, 84, 85, 86] σ ρ := hg.tr (hg2.sub (fun k hk => by simp at hk ⊢; omega))
    by_cases e : (zdv v a n 0).1 = min 1 n
    · rw [if_pos (by rw [e])]
      exact zP_some ⟨cpg hgr, 0, Or.inl ⟨rfl, e⟩, by dsimp only; rw [e], fun s hs => by dsimp only; rw [cpy hs]; exact hf s hs⟩
    · rw [if_neg (zne (by omega) (by omega) e), nI_1]
      exact hk (by omega) _ ⟨rfl, cpg hgr, Or.inr ⟨0, rfl, e, fun i hi => absurd hi (Nat.not_lt_zero i), rfl, fun u hu => by dsimp only; rw [cpy hu]; exact hf u hu⟩⟩
  · have hb0 := zdv_ok v a n i
    have hb1 := zdv_ok v a n (i + 1)
    have hgw := zdv_grow hno
    have hps := zdv_pos hne
    refine zbind (z_refine (cl := (zdv v a n i).2) hKτ hW hRτ (fun q hq => ⟨hcl q hq, by have := hb0.2 q hq; omega⟩)) ?_
    rintro ⟨o, ρ⟩ ⟨ho, hg2, hf⟩
    dsimp only at ho hg2 hf ⊢
    rw [zdv_C i] at ho hf
    subst ho
    have hgr : zag [83, 84, 85, 86] σ ρ := hg.tr (hg2.sub (fun k hk => by simp at hk ⊢; omega))
    by_cases e : (zdv v a n (i + 1)).1 = (zdv v a n i).1
    · rw [if_pos (by rw [e])]
      exact zP_some ⟨cpg hgr, i + 1, Or.inr ⟨hne, i, rfl, e, hno⟩, by dsimp only; rw [e], fun s hs => by dsimp only; rw [cpy hs]; exact hf s hs⟩
    · rw [if_neg (zne (by omega) (by omega) e), nI_1]
      refine hk (by omega) _ ⟨rfl, cpg hgr, Or.inr ⟨i + 1, rfl, hne, fun u hu => ?_, rfl, fun u hu => by dsimp only; rw [cpy hu]; exact hf u hu⟩⟩
      rcases Nat.lt_or_ge u i with w | w
      · exact hno u w
      · have : u = i := by omega
        subst this; exact e
end ZD
