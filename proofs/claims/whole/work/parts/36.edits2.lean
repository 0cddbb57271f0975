/-! EDITS of many moves, states, undo, the text -/
section SF
variable {a : Nat} {σ : St}
theorem z_redirect {n : Nat} {v : Nat → Int32} (hK : zK a σ) (hW : zWF a n v) (hR : zRS a n v σ 0) {s i c q : Nat} (hs : s < n) (hi : i < a) (hc : c < 3) (hq : q < n) :
    zP (fun u => u.1 = nI (fb_ct (fun m => decide (zpm a (zac v s) m = true ∧ zdg m i = c ∧ znx v s m ≠ q)) (3 ^ a)) ∧ zag [4] σ u.2 ∧ (∀ m, m < 3 ^ a → u.2 4 (s * 81 + m) = if zpm a (zac v s) m = true then (if zdg m i = c then nI q else v (100 * s + 10 + m)) else -1) ∧ ∀ k, (∀ m, m < 3 ^ a → k ≠ s * 81 + m) → u.2 4 k = σ 4 k) (m_X7_redirect σ (nI s) (nI i) (nI c) (nI q)) := by
  have hn := hW.1
  have ha := hK.2.1
  have h81 := za_81 ha
  generalize hp : (fun m => decide (zpm a (zac v s) m = true ∧ zdg m i = c ∧ znx v s m ≠ q)) = p
  have hpv : ∀ m, p m = decide (zpm a (zac v s) m = true ∧ zdg m i = c ∧ znx v s m ≠ q) := fun m => by rw [← hp]
  have hcl : fb_ct p (3 ^ a) ≤ 81 := Nat.le_trans (fb_ct_le _ _) h81.1
  unfold m_X7_redirect
  refine zl (P := zP _) (fun m z => z.2.2 = nI m ∧ z.2.1 = nI (fb_ct p m) ∧ zag [4] σ z.1 ∧ (∀ m', m' < 3 ^ a → z.1 4 (s * 81 + m') = if zpm a (zac v s) m' = true then (if m' < m ∧ zdg m' i = c then nI q else v (100 * s + 10 + m')) else -1) ∧ ∀ k, (∀ m, m < 3 ^ a → k ≠ s * 81 + m) → z.1 4 k = σ 4 k) (3 ^ a) (by omega) ⟨nI_0.symm, rfl, zag.rf, fun m hm => ?_, fun _ _ => rfl⟩ ?_
  · have := hR.2.2.2.2 s m hs hm
    rw [show (0 : Nat) + 4 = 4 from rfl] at this
    dsimp only
    rw [this]
    split
    · rw [if_neg (fun r => absurd r.1 (Nat.not_lt_zero m))]
    · rfl
  rintro k m ⟨τ, x, y⟩ hm ⟨hy, hx, hg, hd, hr⟩ hk
  dsimp only at hx hy hg hd hr ⊢
  subst hx hy
  unfold m_X7_redirect_b6
  rw [hg 0 (by decide), hK.2.2.2.2.1]
  rcases Nat.lt_or_ge m (3 ^ a) with w | w
  · have et : m_X7_target τ (nI s) (nI m) = if zpm a (zac v s) m = true then v (100 * s + 10 + m) else -1 := by
      unfold m_X7_target
      rw [z_hasState (n := n) (by rw [hg 0 (by decide)]; exact hR.1), zin_nI (by omega) hs, if_neg zbIt, if_neg (nI_pos (by omega)), hg 0 (by decide), hK.2.2.2.2.1, if_pos (zlt (by omega) (by omega) w), z_ix81, zrA (by decide) (by omega), hd m w]
      split
      · rw [if_neg (fun r => absurd r.1 (by omega))]
      · rfl
    have ec := fb_ct_succ p m
    rw [if_neg (znle (by omega) (by omega) w), et, z_actionIn (by omega) (by omega), Option.bind_some]
    have keep : (zpm a (zac v s) m = true → zdg m i ≠ c) → p m = false → zP (fun u => u.1 = nI (fb_ct p (3 ^ a)) ∧ zag [4] σ u.2 ∧ (∀ m, m < 3 ^ a → u.2 4 (s * 81 + m) = if zpm a (zac v s) m = true then (if zdg m i = c then nI q else v (100 * s + 10 + m)) else -1) ∧ ∀ k, (∀ m, m < 3 ^ a → k ≠ s * 81 + m) → u.2 4 k = σ 4 k) (k (τ, nI (fb_ct p m), nI m + 1)) := by
      intro h1 h2
      rw [nI_1]
      rw [h2, if_neg (by decide)] at ec
      refine hk w _ ⟨rfl, by dsimp only; rw [ec]; rfl, hg, fun m' hm' => ?_, hr⟩
      dsimp only
      rw [hd m' hm']
      by_cases hp' : zpm a (zac v s) m' = true
      · rw [if_pos hp', if_pos hp']
        by_cases e : m' = m
        · subst e
          rw [if_neg (fun r => absurd r.1 (by omega)), if_neg (fun r => h1 hp' r.2)]
        · by_cases e2 : m' < m ∧ zdg m' i = c
          · rw [if_pos e2, if_pos ⟨by omega, e2.2⟩]
          · rw [if_neg e2, if_neg (fun r => e2 ⟨by omega, r.2⟩)]
      · rw [if_neg hp', if_neg hp']
    by_cases h1 : zpm a (zac v s) m = true
    · obtain ⟨hx1, hx2⟩ := hW.nx hs (show m < 81 by omega)
      have hd3 := zdg_lt m i
      rw [if_pos h1, hx1, if_neg (znm1 (by omega))]
      by_cases h2 : zdg m i = c
      · have put : ∀ x : Int32, x = nI (fb_ct p (m + 1)) → zP (fun u => u.1 = nI (fb_ct p (3 ^ a)) ∧ zag [4] σ u.2 ∧ (∀ m, m < 3 ^ a → u.2 4 (s * 81 + m) = if zpm a (zac v s) m = true then (if zdg m i = c then nI q else v (100 * s + 10 + m)) else -1) ∧ ∀ k, (∀ m, m < 3 ^ a → k ≠ s * 81 + m) → u.2 4 k = σ 4 k) (m_X7_redirect_b53 τ (nI s) (nI i) (nI c) (nI q) x (nI m) k) := by
          intro x hx
          unfold m_X7_redirect_b53 m_X7_setTarget
          rw [z_ix81, zrP (by decide) (by omega), nI_1]
          refine hk w _ ⟨rfl, hx, hg.up (by simp), fun m' hm' => ?_, fun k hk => ?_⟩
          · dsimp only
            rw [zup_v]
            by_cases e : m' = m
            · subst e
              rw [if_pos ⟨rfl, rfl⟩, if_pos h1, if_pos ⟨by omega, h2⟩]
            · rw [if_neg (fun r => e (by omega)), hd m' hm']
              by_cases hp' : zpm a (zac v s) m' = true
              · rw [if_pos hp', if_pos hp']
                by_cases e2 : m' < m ∧ zdg m' i = c
                · rw [if_pos e2, if_pos ⟨by omega, e2.2⟩]
                · rw [if_neg e2, if_neg (fun r => e2 ⟨by omega, r.2⟩)]
              · rw [if_neg hp', if_neg hp']
          · dsimp only
            rw [zup_v, if_neg (fun r => hk m w r.2)]
            exact hr k hk
        rw [if_pos (by rw [h2])]
        by_cases h3 : znx v s m = q
        · rw [if_pos (by rw [h3])]
          exact put _ (by rw [ec, hpv, decide_eq_false (fun r => r.2.2 h3)]; rfl)
        · rw [if_neg (zne (by omega) (by omega) h3), nI_1]
          exact put _ (by rw [ec, hpv, decide_eq_true ⟨h1, h2, h3⟩]; rfl)
      · rw [if_neg (zne (by omega) (by omega) h2)]
        exact keep (fun _ => h2) (by rw [hpv]; exact decide_eq_false (fun r => h2 r.2.1))
    · rw [if_neg h1, if_pos rfl]
      exact keep (fun r => absurd r h1) (by rw [hpv]; exact decide_eq_false (fun r => h1 r.1))
  · have : m = 3 ^ a := by omega
    subst this
    rw [if_pos (zle (by omega) (by omega) w)]
    refine zP_some ⟨rfl, hg, fun m hm => ?_, hr⟩
    dsimp only
    rw [hd m hm]
    split
    · by_cases e : zdg m i = c
      · rw [if_pos ⟨hm, e⟩, if_pos e]
      · rw [if_neg (fun r => e r.2), if_neg e]
    · rfl
theorem r_setAll {n : Nat} {v : Nat → Int32} (h : zR a n v σ) {s i c q : Nat} (hs : s < n) (hi : i < a) (hc : c < 3) (hq : q < n) :
    zP (fun u => u.1 = nI (fb_ct (fun m => decide (zpm a (zac v s) m = true ∧ zdg m i = c ∧ znx v s m ≠ q)) 81) ∧ zah [88] [] σ u.2 ∧ ∀ k, u.2 88 k = if 100 * s + 10 ≤ k ∧ k < 100 * s + 91 ∧ zpm a (zac v s) (k - (100 * s + 10)) = true ∧ zdg (k - (100 * s + 10)) i = c then nI q else v k)
      (loopF (fun k z => m_X10_setAll_b60 z.1 (nI s) (nI i) (nI c) (nI q) z.2.1 z.2.2 k) cFu (σ, 0, 0)) := by
  have hn := h.2.2.2.2.1
  have ha := h.2.1
  have h81 := za_81 ha
  have hW := h.2.2.2.2
  generalize hp : (fun m => decide (zpm a (zac v s) m = true ∧ zdg m i = c ∧ znx v s m ≠ q)) = p
  have hpv : ∀ m, p m = decide (zpm a (zac v s) m = true ∧ zdg m i = c ∧ znx v s m ≠ q) := fun m => by rw [← hp]
  refine zl (P := zP _) (fun m z => z.2.2 = nI m ∧ z.2.1 = nI (fb_ct p m) ∧ zah [88] [] σ z.1 ∧ ∀ k, z.1 88 k = if 100 * s + 10 ≤ k ∧ k < 100 * s + 10 + m ∧ zpm a (zac v s) (k - (100 * s + 10)) = true ∧ zdg (k - (100 * s + 10)) i = c then nI q else v k) 81 (by omega) ⟨nI_0.symm, rfl, zah.rf, fun k => by
    dsimp only
    rw [if_neg (by omega)]
    exact congrFun h.2.2.2.1 k⟩ ?_
  rintro k m ⟨τ, x, y⟩ hm ⟨hy, hx, hg, hd⟩ hk
  dsimp only at hx hy hg hd ⊢
  subst hx hy
  have hac : ∀ i', i' < a → zac (τ 88) s i' = zac v s i' := fun i' hi' => zac_ext (by rw [hd, if_neg (by omega)])
  have hRτ : zR a n (τ 88) τ := ⟨h.1, ha, (hg.2 0 (by simp)).trans h.2.2.1, rfl, hn, by rw [hd, if_neg (by omega)]; exact hW.2.1, fun s' hs' => ⟨fun i' hi' => by rw [hd, if_neg (by omega)]; exact (hW.2.2 s' hs').1 i' hi', fun i' hi' => by rw [hd, if_neg (by omega)]; exact (hW.2.2 s' hs').2.1 i' hi', fun m' hm' => by
    rw [hd]
    split
    · exact ⟨q, hq, rfl⟩
    · exact (hW.2.2 s' hs').2.2 m' hm'⟩⟩
  unfold m_X10_setAll_b60
  rcases Nat.lt_or_ge m 81 with w | w
  · have ec := fb_ct_succ p m
    rw [if_neg (show ¬ (81 : Int32) ≤ nI m from znle (a := 81) (by decide) (by omega) w)]
    refine zbe (r_isMove hRτ hs w) ?_
    rw [zpm_ext hac]
    have keep : (zpm a (zac v s) m = true → zdg m i ≠ c) → p m = false → zP (fun u => u.1 = nI (fb_ct p 81) ∧ zah [88] [] σ u.2 ∧ ∀ k, u.2 88 k = if 100 * s + 10 ≤ k ∧ k < 100 * s + 91 ∧ zpm a (zac v s) (k - (100 * s + 10)) = true ∧ zdg (k - (100 * s + 10)) i = c then nI q else v k) (k (τ, nI (fb_ct p m), nI m + 1)) := by
      intro h1 h2
      rw [nI_1]
      rw [h2, if_neg (by decide)] at ec
      refine hk w _ ⟨rfl, by dsimp only; rw [ec]; rfl, hg, fun k => ?_⟩
      dsimp only
      rw [hd]
      by_cases e : 100 * s + 10 ≤ k ∧ k < 100 * s + 10 + m ∧ zpm a (zac v s) (k - (100 * s + 10)) = true ∧ zdg (k - (100 * s + 10)) i = c
      · rw [if_pos e, if_pos ⟨e.1, by omega, e.2.2⟩]
      · rw [if_neg e, if_neg]
        rintro ⟨a1, a2, a3, a4⟩
        by_cases e2 : k = 100 * s + 10 + m
        · subst e2
          rw [show 100 * s + 10 + m - (100 * s + 10) = m by omega] at a3 a4
          exact h1 a3 a4
        · exact e ⟨a1, by omega, a3, a4⟩
    cases h1 : zpm a (zac v s) m
    · rw [if_pos zbIf]
      exact keep (fun r => by rw [h1] at r; cases r) (by rw [hpv]; exact decide_eq_false (fun r => by rw [h1] at r; exact absurd r.1 (by decide)))
    · rw [if_neg zbIt]
      refine zbe (r_digit (by omega) (by omega)) ?_
      have hd3 := zdg_lt m i
      by_cases h2 : zdg m i = c
      · rw [if_pos (by rw [h2]), show (10 : Int32) = nI 10 from rfl, z100, zck (by decide) (by omega), nI_clamp (by omega)]
        have ev : τ 88 (100 * s + 10 + m) = nI (znx v s m) := by
          rw [hd, if_neg (by omega)]
          exact (hW.nx hs w).1
        have hx2 := (hW.nx hs w).2
        rw [ev]
        have put : ∀ x : Nat, fb_ct p m + x = fb_ct p (m + 1) → zP (fun u => u.1 = nI (fb_ct p 81) ∧ zah [88] [] σ u.2 ∧ ∀ k, u.2 88 k = if 100 * s + 10 ≤ k ∧ k < 100 * s + 91 ∧ zpm a (zac v s) (k - (100 * s + 10)) = true ∧ zdg (k - (100 * s + 10)) i = c then nI q else v k) (m_X10_setAll_b114 τ (nI s) (nI i) (nI c) (nI q) (nI m) (nI x) (nI (fb_ct p m)) k) := by
          intro x hx
          unfold m_X10_setAll_b114
          rw [show (10 : Int32) = nI 10 from rfl, z100, zck (by decide) (by omega), nI_clamp (by omega), nI_add, hx, nI_1]
          refine hk w _ ⟨rfl, rfl, hg.st (by simp) (by simp), fun k => ?_⟩
          dsimp only
          rw [zup_v, hd]
          by_cases e2 : k = 100 * s + 10 + m
          · subst e2
            rw [if_pos ⟨rfl, rfl⟩, if_pos]
            rw [show 100 * s + 10 + m - (100 * s + 10) = m by omega]
            exact ⟨by omega, by omega, h1, h2⟩
          · rw [if_neg (fun r => e2 r.2)]
            by_cases e : 100 * s + 10 ≤ k ∧ k < 100 * s + 10 + m ∧ zpm a (zac v s) (k - (100 * s + 10)) = true ∧ zdg (k - (100 * s + 10)) i = c
            · rw [if_pos e, if_pos ⟨e.1, by omega, e.2.2⟩]
            · rw [if_neg e, if_neg]
              rintro ⟨a1, a2, a3, a4⟩
              exact e ⟨a1, by omega, a3, a4⟩
        by_cases h3 : znx v s m = q
        · rw [if_pos (by rw [h3])]
          exact put 0 (by rw [ec, hpv, decide_eq_false (fun r => r.2.2 h3)]; rfl)
        · rw [if_neg (zne (by omega) (by omega) h3)]
          exact put 1 (by rw [ec, hpv, decide_eq_true ⟨h1, h2, h3⟩]; rfl)
      · rw [if_neg (zne (by omega) (by omega) h2)]
        exact keep (fun _ => h2) (by rw [hpv]; exact decide_eq_false (fun r => h2 r.2.1))
  · have : m = 81 := by omega
    subst this
    rw [if_pos (show (81 : Int32) ≤ nI 81 by decide)]
    exact zP_some ⟨rfl, hg, hd⟩
theorem s_setAll (H : INV a σ) (x y z t : Int32) : ∃ r σ1 σ2, m_X9_setAll σ x y z t = some (r, σ1) ∧ m_X10_setAll σ1 x y z t = some (r, σ2) ∧ INV a σ2 := by
  obtain ⟨n, hW, hR, hC, hr⟩ := H.zR
  have hn := hW.1
  have ha := H.1.2.1
  have h81 := za_81 ha
  unfold m_X9_setAll
  rw [z_hasPlace hR.1 H.1.2.2.1, z_hasState hR.1]
  by_cases hall : (zin x n && zin y a && zin t n) = false
  · refine ⟨-1, σ, σ, ?_, ?_, H⟩
    · cases h1 : (zin x n && zin y a)
      · rw [if_pos zbIf]
      · rw [if_neg zbIt]
        rw [h1, Bool.true_and] at hall
        rw [hall, if_pos zbIf]
    · unfold m_X10_setAll
      rw [r_isState hr, r_isState hr, r_isAgent hr, Option.bind_some]
      cases h1 : zin x n
      · rw [if_pos zbIf]
      · rw [if_neg zbIt]
        cases h2 : zin y a
        · rw [if_pos zbIf]
        · rw [if_neg zbIt, Option.bind_some]
          rw [h1, h2, Bool.true_and, Bool.true_and] at hall
          rw [hall, if_pos zbIf]
  rw [Bool.not_eq_false, Bool.and_eq_true, Bool.and_eq_true] at hall
  obtain ⟨⟨hx, hy⟩, ht⟩ := hall
  obtain ⟨s, hs, rfl⟩ := zin_t (by omega) hx
  obtain ⟨i, hi, rfl⟩ := zin_t (by omega) hy
  obtain ⟨q, hq, rfl⟩ := zin_t (by omega) ht
  obtain ⟨ac1, ac2, ac3⟩ := hW.ac hs hi
  rw [hx, hy, ht, Bool.true_and, if_neg zbIt, if_neg zbIt, z_actionCount ha hn hR hs hi, ac1]
  cases hz : zin z (zac (σ 88) s i)
  · refine ⟨-1, σ, σ, ?_, ?_, H⟩
    · rcases zin_f hz with w | w
      · rw [if_pos w]
      · by_cases u : z < 0
        · rw [if_pos u]
        · rw [if_neg u, if_neg (fun e => by rw [fa_lt] at e; rw [fa_le] at w; omega)]
    · unfold m_X10_setAll
      rw [r_isState hr, r_isState hr, r_isAgent hr, hx, hy, ht, Option.bind_some, if_neg zbIt, if_neg zbIt, Option.bind_some, if_neg zbIt, show (1 : Int32) = nI 1 from rfl, z100, zck (by decide) (by omega), nI_clamp (by omega), ac1, show nI (zac (σ 88) s i) - nI 1 = nI (zac (σ 88) s i) - 1 from rfl, zin_in (by omega), hz, if_pos zbIf]
  obtain ⟨c, hc, rfl⟩ := zin_t (by omega) hz
  obtain ⟨h, τ, hh, h3, ek, hg, hH, hKτ, hRτ⟩ := e_start H hW hR
  rw [if_neg (nI_pos (by omega)), if_pos (zlt (by omega) (by omega) hc), ek, Option.bind_some]
  obtain ⟨⟨o, σ1⟩, e1, ho, hg1, hd1, hd2⟩ := z_redirect hKτ hW hRτ hs hi (show c < 3 by omega) hq
  dsimp only at ho hg1 hd1 hd2
  have hg01 : zag [0, 1, 2, 3, 4] τ σ1 := hg1.sub (fun k hk => by simp at hk ⊢; omega)
  have c0 : σ1 0 = τ 0 := hg1 0 (by decide)
  have o88 : σ1 88 = σ 88 := e_hc hg hg01 (by decide) (by decide)
  have o87 : σ1 87 = σ 87 := e_hc hg hg01 (by decide) (by decide)
  obtain ⟨ρ, e2, hgr, t3, t5, tp⟩ := e_ref (P := zpast σ) hh (by rw [o87]; exact h3) o88 (by unfold zpast; rw [e_hc hg hg01 (k := 89) (by decide) (by decide)])
  have r88 : ρ 88 = σ 88 := (hgr.1 88 (by decide) (by decide)).trans o88
  have hr1 : zR a n (σ 88) σ1 := ⟨H.1.1, ha, by rw [o87]; exact hr.2.2.1, o88, hW⟩
  have hrρ : zR a n (σ 88) ρ := hr1.g (L := [89]) (J := [3, 5]) hgr (by decide)
  obtain ⟨⟨o2, ρ'⟩, e3, ho2, hg3, hw⟩ := r_setAll hrρ hs hi (show c < 3 by omega) hq
  dsimp only at ho2 hg3 hw
  have hcut : fb_ct (fun m => decide (zpm a (zac (σ 88) s) m = true ∧ zdg m i = c ∧ znx (σ 88) s m ≠ q)) 81 = fb_ct (fun m => decide (zpm a (zac (σ 88) s) m = true ∧ zdg m i = c ∧ znx (σ 88) s m ≠ q)) (3 ^ a) := by
    obtain ⟨d, hd⟩ := Nat.le.dest h81.1
    have hz0 : fb_ct (fun k => decide (zpm a (zac (σ 88) s) (3 ^ a + k) = true ∧ zdg (3 ^ a + k) i = c ∧ znx (σ 88) s (3 ^ a + k) ≠ q)) d = 0 := fb_ct_zero.mpr (fun k _ => decide_eq_false (fun r => absurd (zpm_lt r.1) (by omega)))
    rw [← hd, fb_ct_split, hz0, Nat.add_zero]
  have hac : ∀ s' i', s' < n → i' < a → zac (ρ' 88) s' i' = zac (σ 88) s' i' := fun s' i' _ _ => zac_ext (by rw [hw, if_neg (by omega)])
  refine ⟨o, σ1, ρ', by rw [e1]; rfl, ?_, e_end (m := n) H hh hg hH hg01 (by rw [c0]; exact ⟨rfl, rfl, rfl⟩) hgr t3 t5 tp hg3 ?_ ?_⟩
  · unfold m_X10_setAll
    rw [r_isState hr1, r_isState hr1, r_isAgent hr1, hx, hy, ht, Option.bind_some, if_neg zbIt, if_neg zbIt, Option.bind_some, if_neg zbIt, show (1 : Int32) = nI 1 from rfl, z100, zck (by decide) (by omega), nI_clamp (by omega), o88, ac1, show nI (zac (σ 88) s i) - nI 1 = nI (zac (σ 88) s i) - 1 from rfl, zin_in (by omega), hz, if_neg zbIt, e2, Option.bind_some, e3, ho2, ho, hcut]
  · refine ⟨hn, by rw [hw, if_neg (by omega)]; exact hW.2.1, fun s' hs' => ⟨fun i' hi' => by rw [hw, if_neg (by omega)]; exact (hW.2.2 s' hs').1 i' hi', fun i' hi' => by rw [hw, if_neg (by omega)]; exact (hW.2.2 s' hs').2.1 i' hi', fun m' hm' => ?_⟩⟩
    rw [hw]
    split
    · exact ⟨q, hq, rfl⟩
    · exact (hW.2.2 s' hs').2.2 m' hm'
  · refine ⟨by rw [c0]; exact hRτ.1, fun s' hs' => ?_, fun s' i' hs' hi' => ?_, fun s' i' hs' hi' => ?_, fun s' m hs' hm => ?_⟩
    · rw [hg1 (0 + 1) (by decide), hw, if_neg (by omega)]; exact hRτ.2.1 s' hs'
    · rw [hg1 (0 + 2) (by decide), hw, if_neg (by omega)]; exact hRτ.2.2.1 s' i' hs' hi'
    · rw [hg1 (0 + 3) (by decide), hw, if_neg (by omega)]; exact hRτ.2.2.2.1 s' i' hs' hi'
    · rw [show (0 : Nat) + 4 = 4 from rfl, zpm_ext (fun i' hi' => hac s' i' hs' hi')]
      by_cases e : s' = s
      · subst e
        rw [hd1 m hm]
        by_cases hp : zpm a (zac (σ 88) s') m = true
        · rw [if_pos hp, if_pos hp, hw, show 100 * s' + 10 + m - (100 * s' + 10) = m by omega]
          by_cases e2 : zdg m i = c
          · rw [if_pos e2, if_pos ⟨by omega, by omega, hp, e2⟩]
          · rw [if_neg e2, if_neg (fun r => e2 r.2.2.2)]
        · rw [if_neg hp, if_neg hp]
      · have e2 : ρ' 88 (100 * s' + 10 + m) = σ 88 (100 * s' + 10 + m) := by rw [hw, if_neg (by omega)]
        rw [hd2 _ (fun m' hm' => by omega), e2]
        exact hRτ.2.2.2.2 s' m hs' hm
theorem s_addState (H : INV a σ) : ∃ r σ1 σ2, m_X9_addState σ = some (r, σ1) ∧ m_X10_addState σ1 = some (r, σ2) ∧ INV a σ2 := by
  obtain ⟨n, hW, hR, hC, hr⟩ := H.zR
  have hn := hW.1
  have ha := H.1.2.1
  have h81 := za_81 ha
  unfold m_X9_addState
  rw [hR.1]
  by_cases hn12' : 12 ≤ n
  · have : n = 12 := by omega
    subst this
    refine ⟨-2, σ, σ, by rw [if_neg (by decide)], ?_, H⟩
    unfold m_X10_addState
    rw [show (1200 : Int32) = nI 1200 from rfl, zck (by decide) (by decide), hW.2.1, if_pos (show nI 12 = 12 from rfl)]
  have hn12 : n < 12 := by omega
  rw [if_pos (show nI n < 12 from zlt (b := 12) (by omega) (by decide) hn12)]
  obtain ⟨h, τ, hh, h3, ek, hg, hH, hKτ, hRτ⟩ := e_start H hW hR
  rw [ek, Option.bind_some]
  -- the new row
  obtain ⟨w, hw⟩ : ∃ w : Nat → Int32, ∀ k, w k = if k = 1200 then nI (n + 1) else if 100 * n + 10 ≤ k ∧ k < 100 * n + 91 then nI n else if k = 100 * n then 0 else if 100 * n + 1 ≤ k ∧ k < 100 * n + 5 then 1 else if 100 * n + 5 ≤ k ∧ k < 100 * n + 9 then 0 else σ 88 k := ⟨_, fun _ => rfl⟩
  have wOld : ∀ k, k < 100 * n → w k = σ 88 k := fun k hk => by rw [hw, if_neg (by omega), if_neg (by omega), if_neg (by omega), if_neg (by omega), if_neg (by omega)]
  have wLab : w (100 * n) = 0 := by rw [hw, if_neg (by omega), if_neg (by omega), if_pos rfl]
  have wAct : ∀ i, i < 4 → w (100 * n + 1 + i) = nI 1 := fun i hi => by rw [hw, if_neg (by omega), if_neg (by omega), if_neg (by omega), if_pos (by omega)]; rfl
  have wPln : ∀ i, i < 4 → w (100 * n + 5 + i) = nI 0 := fun i hi => by rw [hw, if_neg (by omega), if_neg (by omega), if_neg (by omega), if_neg (by omega), if_pos (by omega)]; rfl
  have wNxt : ∀ m, m < 81 → w (100 * n + 10 + m) = nI n := fun m hm => by rw [hw, if_neg (by omega), if_pos (by omega)]
  have wCnt : w 1200 = nI (n + 1) := by rw [hw, if_pos rfl]
  have hwW : zWF a (n + 1) w := by
    refine ⟨by omega, wCnt, fun s' hs' => ?_⟩
    by_cases e : s' = n
    · subst e
      exact ⟨fun i' hi' => ⟨1, by omega, by omega, wAct i' (by omega)⟩, fun i' hi' => ⟨0, by omega, wPln i' (by omega)⟩, fun m hm => ⟨s', by omega, wNxt m hm⟩⟩
    · have hs'' : s' < n := by omega
      refine ⟨fun i' hi' => ?_, fun i' hi' => ?_, fun m hm => ?_⟩
      · rw [wOld _ (by omega)]; exact (hW.2.2 s' hs'').1 i' hi'
      · rw [wOld _ (by omega)]; exact (hW.2.2 s' hs'').2.1 i' hi'
      · rw [wOld _ (by omega)]
        obtain ⟨q, h1, h2⟩ := (hW.2.2 s' hs'').2.2 m hm
        exact ⟨q, by omega, h2⟩
  -- the first system
  have hgrow : zP (fun u => u.1 = nI n ∧ zag [0, 1, 2, 3, 4] τ u.2 ∧ (u.2 0 0 = τ 0 0 ∧ u.2 0 1 = τ 0 1 ∧ u.2 0 2 = τ 0 2) ∧ zRS a (n + 1) w u.2 0) (m_X7_grow τ) := by
    unfold m_X7_grow m_X7_setLabelSet
    rw [hRτ.1, zrP (by decide) (by omega)]
    refine zl (P := zP _) (fun i z => z.2 = nI i ∧ zag [1, 2, 3] τ z.1 ∧ z.1 1 = upd (τ 1) n 0 ∧ (∀ k, z.1 2 k = if n * 4 ≤ k ∧ k < n * 4 + i then nI 1 else τ 2 k) ∧ ∀ k, z.1 3 k = if n * 4 ≤ k ∧ k < n * 4 + i then nI 0 else τ 3 k) 4 (by decide) ⟨nI_0.symm, zag.rf.up (by simp), zup_s τ 1 n 0, fun k => by dsimp only; rw [if_neg (by omega), zup_n (by decide)], fun k => by dsimp only; rw [if_neg (by omega), zup_n (by decide)]⟩ ?_
    rintro k i ⟨ρ, x⟩ hi ⟨hx, hgp, h1, h2, h3'⟩ hk
    dsimp only at hx hgp h1 h2 h3' ⊢
    subst hx
    unfold m_X7_grow_b13
    rcases Nat.lt_or_ge i 4 with q | q
    · unfold m_X7_setPlannedAction
      rw [if_neg (show ¬ (4 : Int32) ≤ nI i from znle (a := 4) (by decide) (by omega) q), z_ix4, zrP (by decide) (by omega), zrP (by decide) (by omega), nI_1]
      refine hk q _ ⟨rfl, (hgp.up (by simp)).up (by simp), by dsimp only; rw [zup_n (by decide), zup_n (by decide)]; exact h1, fun k => ?_, fun k => ?_⟩
      · dsimp only
        rw [zup_n (by decide), zup_v, h2]
        by_cases e : k = n * 4 + i
        · rw [if_pos ⟨rfl, e⟩, if_pos (by omega)]; rfl
        · rw [if_neg (fun r => e r.2)]
          by_cases e2 : n * 4 ≤ k ∧ k < n * 4 + i
          · rw [if_pos e2, if_pos (by omega)]
          · rw [if_neg e2, if_neg (by omega)]
      · dsimp only
        rw [zup_v, zup_n (by decide), h3']
        by_cases e : k = n * 4 + i
        · rw [if_pos ⟨rfl, e⟩, if_pos (by omega)]; rfl
        · rw [if_neg (fun r => e r.2)]
          by_cases e2 : n * 4 ≤ k ∧ k < n * 4 + i
          · rw [if_pos e2, if_pos (by omega)]
          · rw [if_neg e2, if_neg (by omega)]
    · have : i = 4 := by omega
      subst this
      rw [if_pos (show (4 : Int32) ≤ nI 4 by decide)]
      have g0 : ρ 0 = τ 0 := hgp 0 (by decide)
      have g4 : ρ 4 = τ 4 := hgp 4 (by decide)
      refine zbind (z_leadBack (n := n + 1) (A := fun _ => 1) ha (by omega) (by rw [g0]; exact hKτ.2.2.1) (by rw [g0]; exact hKτ.2.2.2.2.1) (Nat.lt_succ_self n) (fun i' hi' => by rw [h2, if_pos (by omega)]; exact ⟨rfl, by decide⟩)) ?_
      rintro ρ2 ⟨hg2, hl1, hl2⟩
      have p0 : ρ2 0 = τ 0 := (hg2 0 (by decide)).trans g0
      have p1 : ρ2 1 = upd (τ 1) n 0 := (hg2 1 (by decide)).trans h1
      have p2 : ρ2 2 = ρ 2 := hg2 2 (by decide)
      have p3 : ρ2 3 = ρ 3 := hg2 3 (by decide)
      refine zP_some ⟨rfl, ((hgp.sub (fun k hk => by simp at hk ⊢; omega)).tr (hg2.sub (fun k hk => by simp at hk ⊢; omega))).up (by simp), ?_, ?_, fun s' hs' => ?_, fun s' i' hs' hi' => ?_, fun s' i' hs' hi' => ?_, fun s' m hs' hm => ?_⟩
      · dsimp only
        rw [zup_sn (by decide), zup_sn (by decide), zup_sn (by decide), p0]
        exact ⟨rfl, rfl, rfl⟩
      · dsimp only
        rw [zup_ss, p0, hRτ.1, nI_1]
      · dsimp only
        rw [zup_n (by decide), show (0 : Nat) + 1 = 1 from rfl, p1]
        by_cases e : s' = n
        · subst e; rw [pk_us, wLab]
        · rw [pk_un e, wOld _ (by omega)]; exact hRτ.2.1 s' (by omega)
      · dsimp only
        rw [zup_n (by decide), show (0 : Nat) + 2 = 2 from rfl, p2, h2]
        by_cases e : s' = n
        · subst e; rw [if_pos (by omega), wAct _ (by omega)]
        · rw [if_neg (by omega), wOld _ (by omega)]; exact hRτ.2.2.1 s' i' (by omega) hi'
      · dsimp only
        rw [zup_n (by decide), show (0 : Nat) + 3 = 3 from rfl, p3, h3']
        by_cases e : s' = n
        · subst e; rw [if_pos (by omega), wPln _ (by omega)]
        · rw [if_neg (by omega), wOld _ (by omega)]; exact hRτ.2.2.2.1 s' i' (by omega) hi'
      · dsimp only
        rw [zup_n (by decide), show (0 : Nat) + 4 = 4 from rfl]
        by_cases e : s' = n
        · subst e
          rw [hl1 m hm, wNxt m (by omega), zpm_ext (fun i' hi' => show zac w s' i' = 1 by unfold zac; rw [wAct i' (by omega)]; exact nI_clamp (by decide))]
        · rw [hl2 _ (fun m' hm' => by omega), g4, wOld _ (by omega), zpm_ext (fun i' hi' => show zac w s' i' = zac (σ 88) s' i' from zac_ext (wOld _ (by omega)))]
          exact hRτ.2.2.2.2 s' m (by omega) hm
  obtain ⟨⟨o, σ1⟩, e1, ho, hg01, hf, hR1⟩ := hgrow
  dsimp only at ho hg01 hf hR1
  have o88 : σ1 88 = σ 88 := e_hc hg hg01 (by decide) (by decide)
  have o87 : σ1 87 = σ 87 := e_hc hg hg01 (by decide) (by decide)
  obtain ⟨ρ, e2, hgr, t3, t5, tp⟩ := e_ref (P := zpast σ) hh (by rw [o87]; exact h3) o88 (by unfold zpast; rw [e_hc hg hg01 (k := 89) (by decide) (by decide)])
  have r88 : ρ 88 = σ 88 := (hgr.1 88 (by decide) (by decide)).trans o88
  -- the reference
  have hadd : zP (fun u => u.1 = nI n ∧ zah [88] [] ρ u.2 ∧ u.2 88 = w) (loopF (fun k z => m_X10_addState_b43 z.1 (nI n) z.2 k) cFu (up ρ 88 (100 * n) 0, 0)) := by
    refine zl (P := zP _) (fun i z => z.2 = nI i ∧ zah [88] [] ρ z.1 ∧ ∀ k, z.1 88 k = if k = 100 * n then 0 else if 100 * n + 1 ≤ k ∧ k < 100 * n + 1 + i then 1 else if 100 * n + 5 ≤ k ∧ k < 100 * n + 5 + i then 0 else σ 88 k) 4 (by decide) ⟨nI_0.symm, zah.rf.st (by simp) (by simp), fun k => by
      dsimp only
      rw [zup_s, r88]
      by_cases e : k = 100 * n
      · subst e; rw [pk_us, if_pos rfl]
      · rw [pk_un e, if_neg e, if_neg (by omega), if_neg (by omega)]⟩ ?_
    rintro k i ⟨ρ1, x⟩ hi ⟨hx, hg1, hd⟩ hk
    dsimp only at hx hg1 hd ⊢
    subst hx
    unfold m_X10_addState_b43
    rcases Nat.lt_or_ge i 4 with q | q
    · rw [if_neg (show ¬ (4 : Int32) ≤ nI i from znle (a := 4) (by decide) (by omega) q)]
      have y1 : 100 * nI n + 1 + nI i = nI (100 * n + 1 + i) := z100 n 1 i
      have y5 : 100 * nI n + 5 + nI i = nI (100 * n + 5 + i) := z100 n 5 i
      rw [y1, y5, zck (by decide) (by omega), zck (by decide) (by omega), nI_clamp (by omega), nI_clamp (by omega), nI_1]
      refine hk q _ ⟨rfl, (hg1.st (by simp) (by simp)).st (by simp) (by simp), fun k => ?_⟩
      dsimp only
      rw [zup_v, zup_v, hd]
      (repeat' split) <;> first | rfl | (exfalso; omega)
    · have : i = 4 := by omega
      subst this
      rw [if_pos (show (4 : Int32) ≤ nI 4 by decide)]
      refine zbind (r_leadsBack (s := n) hn12) ?_
      rintro ρ2 ⟨hg2, hd2⟩
      rw [show (1200 : Int32) = nI 1200 from rfl, zck (by decide) (by decide), zck (by decide) (by decide)]
      refine zP_some ⟨rfl, (hg1.tr hg2).st (by simp) (by simp), ?_⟩
      funext k
      dsimp only
      rw [zup_v, hw]
      have e12 : ρ2 88 1200 = nI n := by rw [hd2, if_neg (by omega), hd, if_neg (by omega), if_neg (by omega), if_neg (by omega)]; exact hW.2.1
      by_cases e : k = 1200
      · rw [if_pos ⟨rfl, e⟩, if_pos e, e12, nI_1]
      · rw [if_neg (fun r => e r.2), if_neg e, hd2]
        by_cases f1 : 100 * n + 10 ≤ k ∧ k < 100 * n + 91
        · rw [if_pos f1, if_pos f1]
        · rw [if_neg f1, if_neg f1, hd]
  obtain ⟨⟨o2, ρ'⟩, e3, ho2, hg3, hw3⟩ := hadd
  dsimp only at ho2 hg3 hw3
  refine ⟨o, σ1, ρ', by rw [e1]; rfl, ?_, e_end (m := n + 1) H hh hg hH hg01 hf hgr t3 t5 tp hg3 (by rw [hw3]; exact hwW) (by rw [hw3]; exact hR1)⟩
  unfold m_X10_addState
  rw [show (1200 : Int32) = nI 1200 from rfl, zck (by decide) (by decide), o88, hW.2.1, if_neg (show ¬ nI n = 12 from zne (b := 12) (by omega) (by decide) (by omega)), e2, Option.bind_some, zck (by decide) (by decide), r88, hW.2.1, z100_0, zck (by decide) (by omega), nI_clamp (by omega), e3, ho, ho2]
theorem s_undo (H : INV a σ) : ∃ r σ1 σ2, m_X9_undo σ = some (r, σ1) ∧ m_X10_undo σ1 = some (r, σ2) ∧ INV a σ2 := by
  obtain ⟨hK, ⟨n, hW, hR, hC⟩, ⟨h, hh, hHc, h3⟩, hT, hF⟩ := id H
  obtain ⟨o, ho, hc2, hc1, hcr⟩ := id hHc
  have ha := hK.2.1
  unfold m_X9_undo m_X1_restore
  rw [hc2]
  rcases Nat.eq_zero_or_pos h with e | e
  · subst e
    refine ⟨-9, σ, σ, ?_, ?_, H⟩
    · rw [if_pos (by decide)]
      rfl
    · unfold m_X10_undo
      rw [h3, if_pos (show nI 0 = 0 from rfl)]
  rw [if_neg (show ¬ nI h ≤ 0 from znle (b := 0) (by omega) (by decide) e), show nI h - 1 = nI (h - 1) from pk_sub (b := 1) (by omega), z_slotAt hc1 ho (by omega), Option.bind_some]
  have hm : (o + (h - 1)) % 4 < 4 := Nat.mod_lt _ (by decide)
  have hs : isS (5 + 5 * ((o + (h - 1)) % 4)) = true := (by decide : ∀ i, i < 4 → isS (5 + 5 * i) = true) _ hm
  obtain ⟨m, hWm, hRm⟩ := hcr (h - 1) (by omega)
  have ex : 5 + 5 * ((o + (h - 1)) % 4) = 5 * ((o + (h - 1)) % 4 + 1) := by omega
  have hcp := (show zRS a m (zpast σ (h - 1)) σ (5 * ((o + (h - 1)) % 4 + 1)) by rw [← ex]; exact hRm).copy (x := 0) ha hWm.1 (by omega)
  obtain ⟨cg, c7, cj, -⟩ := z_copyFrom (σ := σ) (x := 0) (y := (o + (h - 1)) % 4 + 1) (by omega)
  have eq : m_X1_restore_b21 σ (some (5 + 5 * ((o + (h - 1)) % 4))) = some (true, up (m_X7_copyFrom σ (5 * 0) (5 * ((o + (h - 1)) % 4 + 1))) 67 2 (m_X7_copyFrom σ (5 * 0) (5 * ((o + (h - 1)) % 4 + 1)) 67 2 - 1)) := by
    unfold m_X1_restore_b21
    show (if isS (5 + 5 * ((o + (h - 1)) % 4)) then some _ else none) = _
    rw [if_pos hs, ex]
  rw [eq, Option.bind_some]
  clear eq
  generalize m_X7_copyFrom σ (5 * 0) (5 * ((o + (h - 1)) % 4 + 1)) = ρ at hcp cg c7 cj
  have e67 : ρ 67 = σ 67 := cg 67 (by decide)
  dsimp only
  rw [if_neg zbIt, zup_ss, e67, hc2, show nI h - 1 = nI (h - 1) from pk_sub (b := 1) (by omega)]
  have ou : ∀ k, 5 ≤ k → k ≠ 67 → up ρ 67 2 (nI (h - 1)) k = σ k := fun k h1 h2 => by
    rw [zup_n h2]
    exact cg k (fun q => by simp at q; omega)
  have hH1 : zHc a (up ρ 67 2 (nI (h - 1))) (zpast σ) (h - 1) := by
    refine ⟨o, ho, zup_ss _ _ _ _, by rw [zup_sn (by decide), e67]; exact hc1, fun k hk => ?_⟩
    obtain ⟨m', hw, hr⟩ := hcr k (by omega)
    have : (o + k) % 4 < 4 := Nat.mod_lt _ (by decide)
    exact ⟨m', hw, hr.ag (by rw [ou _ (by omega) (by omega)]) (ou _ (by omega) (by omega)) (ou _ (by omega) (by omega)) (ou _ (by omega) (by omega)) (ou _ (by omega) (by omega))⟩
  have hR1 : zRS a m (zpast σ (h - 1)) (up ρ 67 2 (nI (h - 1))) 0 := hcp.ag (by rw [zup_n (by decide)]) (zup_n (by decide)) (zup_n (by decide)) (zup_n (by decide)) (zup_n (by decide))
  -- the reference
  have hund : zP (fun u => u.1 = nI (h - 1) ∧ zah [88] [3, 5] (up ρ 67 2 (nI (h - 1))) u.2 ∧ u.2 87 3 = nI (h - 1) ∧ u.2 87 5 = 0 ∧ ∀ i, i < 1201 → u.2 88 i = zpast σ (h - 1) i) (m_X10_undo (up ρ 67 2 (nI (h - 1)))) := by
    unfold m_X10_undo
    rw [ou 87 (by decide) (by decide), h3, if_neg (zne0 (by omega) (by omega)), show nI h - 1 = nI (h - 1) from pk_sub (b := 1) (by omega)]
    refine zl (P := zP _) (fun i z => z.2 = nI i ∧ zah [88] [3] (up ρ 67 2 (nI (h - 1))) z.1 ∧ z.1 87 3 = nI (h - 1) ∧ ∀ j, j < i → z.1 88 j = zpast σ (h - 1) j) 1201 (by decide) ⟨nI_0.symm, zah.rf.u7 (by simp), zup_ss (up ρ 67 2 (nI (h - 1))) 87 3 (nI (h - 1)), fun j hj => absurd hj (Nat.not_lt_zero j)⟩ ?_
    rintro k i ⟨τ, x⟩ hi ⟨hx, hg, ht3, hd⟩ hk
    dsimp only at hx hg ht3 hd ⊢
    subst hx
    unfold m_X10_undo_b22
    rcases Nat.lt_or_ge i 1201 with q | q
    · rw [if_neg (show ¬ (1201 : Int32) ≤ nI i from znle (a := 1201) (by decide) (by omega) q), ht3, show (1201 : Int32) = nI 1201 from rfl, pk_mul, nI_add, zck (by decide) (by omega), zck (by decide) q, nI_clamp (by omega), nI_clamp (by omega), nI_1]
      refine hk q _ ⟨rfl, hg.st (by simp) (by simp), by dsimp only; rw [zup_n (by decide)]; exact ht3, fun j hj => ?_⟩
      dsimp only
      rw [zup_v]
      by_cases e2 : j = i
      · subst e2
        rw [if_pos ⟨rfl, rfl⟩, hg.1 89 (by decide) (by decide), ou 89 (by decide) (by decide)]
        rfl
      · rw [if_neg (fun r => e2 r.2)]
        exact hd j (by omega)
    · have : i = 1201 := by omega
      subst this
      rw [if_pos (show (1201 : Int32) ≤ nI 1201 by decide)]
      refine zP_some ⟨by dsimp only; rw [zup_sn (by decide)]; exact ht3, (hg.sub (fun _ h => h) (fun k hk => by simp at hk ⊢; exact Or.inl hk)).u7 (by simp), by dsimp only; rw [zup_sn (by decide)]; exact ht3, zup_ss τ 87 5 0, fun j hj => ?_⟩
      dsimp only
      rw [zup_n (by decide)]
      exact hd j hj
  obtain ⟨⟨r2, τ⟩, e3, hr2, hg3, t3, t5, hd⟩ := hund
  dsimp only at hr2 hg3 t3 t5 hd
  have zp : zpast τ = zpast σ := by unfold zpast; rw [hg3.1 89 (by decide) (by decide), ou 89 (by decide) (by decide)]
  refine ⟨nI (h - 1), _, τ, rfl, by rw [e3, hr2], H.ed (Q := zpast σ) (h' := h - 1) (L := [88]) (J := [3, 5]) (m := m) (by omega) (fun k h1 h2 _ => ou k (by omega) h2) ?_ hH1 hg3 (fun k hk => by simp at hk; exact Or.inl hk) (by decide) t3 (fun k i _ _ => by rw [zp]) (hWm.ext ha hd) (hR1.ext ha hWm.1 hd) (Or.inl t5)⟩
  rw [zup_n (by decide)]
  exact ⟨cj 0 (by decide), cj 1 (by decide), cj 2 (by decide)⟩
/-! the text, forgetting -/
theorem INV.tx {τ : St} (H : INV a σ) (e : ∀ k, k ≠ 73 → k ≠ 74 → k ≠ 87 → k ≠ 92 → k ≠ 65 → τ k = σ k) (e73 : τ 73 0 = σ 73 0) (e7 : ∀ j, j = 0 ∨ j = 3 ∨ j = 5 → τ 87 j = σ 87 j) (hT : zT τ) (hF : zFs a τ) : INV a τ := by
  obtain ⟨hK, ⟨n, hW, hR, hC⟩, ⟨h, hh, hH, h3⟩, -, -⟩ := H
  have e88 : τ 88 = σ 88 := e 88 (by decide) (by decide) (by decide) (by decide) (by decide)
  refine ⟨hK.ag (e 0 (by decide) (by decide) (by decide) (by decide) (by decide)) (e 70 (by decide) (by decide) (by decide) (by decide) (by decide)) (e 71 (by decide) (by decide) (by decide) (by decide) (by decide)) e73 (e7 0 (by omega)), ⟨n, by rw [e88]; exact hW, ?_, ?_⟩, ⟨h, hh, ?_, by rw [e7 3 (by omega)]; exact h3⟩, hT, hF⟩
  · rw [e88]
    exact hR.ag (by rw [e 0 (by decide) (by decide) (by decide) (by decide) (by decide)]) (e 1 (by decide) (by decide) (by decide) (by decide) (by decide)) (e 2 (by decide) (by decide) (by decide) (by decide) (by decide)) (e 3 (by decide) (by decide) (by decide) (by decide) (by decide)) (e 4 (by decide) (by decide) (by decide) (by decide) (by decide))
  · rw [e88]
    unfold zC at hC ⊢
    rw [e7 5 (by omega), e 90 (by decide) (by decide) (by decide) (by decide) (by decide)]
    exact hC
  · have : zpast τ = zpast σ := by unfold zpast; rw [e 89 (by decide) (by decide) (by decide) (by decide) (by decide)]
    rw [this]
    exact hH.ag (fun k hk => e k (by omega) (by omega) (by omega) (by omega) (by omega))
theorem s_type (H : INV a σ) (x : Int32) : ∃ σ2, m_X10_type (m_X9_type σ x).2 x = some ((m_X9_type σ x).1, σ2) ∧ INV a σ2 := by
  obtain ⟨-, -, -, ⟨l, hl, t1, t2, t3⟩, hF⟩ := id H
  have e1 : m_X10_in x 32 126 = true ↔ ∃ c, 32 ≤ c ∧ c ≤ 126 ∧ x = nI c := by
    unfold m_X10_in
    constructor
    · intro h
      by_cases h1 : x < 32
      · rw [if_pos h1] at h; cases h
      · rw [if_neg h1] at h
        by_cases h2 : (126 : Int32) < x
        · rw [if_pos h2] at h; cases h
        · have : ¬ x < 0 := fun q => h1 (by rw [fa_lt] at q ⊢; rw [show (0 : Int32).toInt = 0 from by decide] at q; rw [show (32 : Int32).toInt = 32 from by decide]; omega)
          obtain ⟨c, hc, rfl⟩ := nI_of this
          exact ⟨c, zngt (b := 32) hc (by decide) h1, zngt (a := 126) (by decide) hc h2, rfl⟩
    · rintro ⟨c, h1, h2, rfl⟩
      rw [if_neg (show ¬ nI c < 32 from znlt (b := 32) (by omega) (by decide) h1), if_neg (show ¬ (126 : Int32) < nI c from znlt (a := 126) (by decide) (by omega) h2)]
  unfold m_X9_type m_X10_type
  cases hin : m_X10_in x 32 126
  · have : (if x < 32 then ((-1 : Int32), σ) else if x ≤ 126 then if bI (m_X4_append σ x).1 = 0 then (-2, (m_X4_append σ x).2) else ((m_X4_append σ x).2 73 5, (m_X4_append σ x).2) else (-1, σ)) = (-1, σ) := by
      unfold m_X10_in at hin
      by_cases q : x < 32
      · rw [if_pos q]
      · rw [if_neg q] at hin ⊢
        by_cases w : (126 : Int32) < x
        · rw [if_neg (fun e => by rw [fa_lt] at w; rw [fa_le] at e; omega)]
        · rw [if_neg w] at hin; cases hin
    rw [this]
    exact ⟨σ, by rw [if_pos zbIf], H⟩
  · obtain ⟨c, h1, h2, rfl⟩ := e1.mp hin
    rw [if_neg (show ¬ nI c < 32 from znlt (b := 32) (by omega) (by decide) h1), if_pos (show nI c ≤ 126 from zle (b := 126) (by omega) (by decide) h2), if_neg zbIt]
    unfold m_X4_append
    rw [t1]
    rcases Nat.lt_or_ge l 60 with q | q
    · rw [if_pos (show nI l < 60 from zlt (b := 60) (by omega) (by decide) q), if_neg zbIt, zrP (by decide) q]
      dsimp only
      have f : ∀ k, k ≠ 73 → k ≠ 74 → up (up σ 74 l (nI c)) 73 5 (up σ 74 l (nI c) 73 5 + 1) k = σ k := fun k a1 a2 => by rw [zup_n a1, zup_n a2]
      generalize hA : up (up σ 74 l (nI c)) 73 5 (up σ 74 l (nI c) 73 5 + 1) = A at f ⊢
      have a878 : A 87 8 = nI l := by rw [f 87 (by decide) (by decide)]; exact t2
      rw [if_neg (show ¬ A 87 8 = 60 by rw [a878]; exact zne (b := 60) (by omega) (by decide) (by omega)), a878, zck (by decide) q, nI_clamp (by omega)]
      have a735 : A 73 5 = nI (l + 1) := by rw [← hA, zup_ss, zup_n (by decide), t1, nI_1]
      have a73 : ∀ j, j ≠ 5 → A 73 j = σ 73 j := fun j hj => by rw [← hA, zup_sn hj, zup_n (by decide)]
      have a74 : A 74 = upd (σ 74) l (nI c) := by rw [← hA, zup_n (by decide), zup_s]
      have a87 : A 87 = σ 87 := f 87 (by decide) (by decide)
      have a92 : A 92 = σ 92 := f 92 (by decide) (by decide)
      refine ⟨_, by rw [zup_ss, zup_n (by decide), a735, a87, t2, nI_1], H.tx (fun k b1 b2 b3 b4 b5 => by rw [zup_n b3, zup_n b4]; exact f k b1 b2) (by rw [zup_n (by decide), zup_n (by decide)]; exact a73 0 (by decide)) (fun j hj => by rw [zup_sn (by omega), zup_n (by decide), a87]) ⟨l + 1, by omega, ?_, ?_, fun i hi => ?_⟩ (hF.ag (fun k hk => ?_) (by rw [zup_sn (by decide), zup_n (by decide), a87]))⟩
      · rw [zup_n (by decide), zup_n (by decide)]; exact a735
      · rfl
      · by_cases e : i = l
        · subst e
          refine ⟨c, h1, h2, ?_, ?_⟩
          · rw [zup_n (by decide), zup_n (by decide), a74, pk_us]
          · rw [zup_n (by decide), zup_ss]
        · obtain ⟨d, d1, d2, d3, d4⟩ := t3 i (by omega)
          refine ⟨d, d1, d2, ?_, ?_⟩
          · rw [zup_n (by decide), zup_n (by decide), a74, pk_un e]; exact d3
          · rw [zup_n (by decide), zup_sn e, a92]; exact d4
      · rw [zup_n (by omega), zup_n (by omega)]
        exact f k (by omega) (by omega)
    · have : l = 60 := by omega
      subst this
      rw [if_neg (show ¬ nI 60 < 60 by decide), if_pos zbIf]
      refine ⟨σ, ?_, H⟩
      dsimp only
      rw [if_pos (show σ 87 8 = 60 by rw [t2]; rfl)]
theorem s_clear (H : INV a σ) : (m_X9_clear σ).1 = (m_X10_clear (m_X9_clear σ).2).1 ∧ INV a (m_X10_clear (m_X9_clear σ).2).2 := by
  obtain ⟨-, -, -, ⟨l, hl, t1, t2, t3⟩, hF⟩ := id H
  unfold m_X9_clear m_X10_clear
  dsimp only
  refine ⟨by rw [t1, zup_n (by decide), t2], H.tx (fun k b1 b2 b3 b4 b5 => by rw [zup_n b3, zup_n b1]) (by rw [zup_n (by decide), zup_sn (by decide)]) (fun j hj => by rw [zup_sn (by omega), zup_n (by decide)]) ⟨0, by decide, by rw [zup_n (by decide), zup_ss]; rfl, by rw [zup_ss]; rfl, fun i hi => absurd hi (Nat.not_lt_zero i)⟩ (hF.ag (fun k hk => by rw [zup_n (by omega), zup_n (by omega)]) (by rw [zup_sn (by decide), zup_n (by decide)]))⟩
theorem s_forget (H : INV a σ) : (m_X9_forget σ).1 = (m_X10_forget (m_X9_forget σ).2).1 ∧ INV a (m_X10_forget (m_X9_forget σ).2).2 := by
  obtain ⟨-, -, -, hT, ⟨m, hm, f1, f2, f3⟩⟩ := id H
  unfold m_X9_forget m_X10_forget
  dsimp only
  refine ⟨by rw [f1, zup_n (by decide), f2], H.tx (fun k b1 b2 b3 b4 b5 => by rw [zup_n b3, zup_n b5]) (by rw [zup_n (by decide), zup_n (by decide)]) (fun j hj => by rw [zup_sn (by omega), zup_n (by decide)]) (hT.ag (by rw [zup_n (by decide), zup_n (by decide)]) (by rw [zup_n (by decide), zup_n (by decide)]) (by rw [zup_n (by decide), zup_n (by decide)]) (by rw [zup_sn (by decide), zup_n (by decide)])) ⟨0, by decide, by rw [zup_n (by decide), zup_ss]; rfl, by rw [zup_ss]; rfl, fun i hi => absurd hi (Nat.not_lt_zero i)⟩⟩
end SF
