/-! EDITS of many moves, states, undo, the text -/
section SF
variable {a : Nat} {σ : St}
theorem z_redirect {n : Nat} {v : Nat → Int32} (hK : zK a σ) (hW : zWF a n v) (hR : zRS a n v σ 0) {s i c q : Nat} (hs : s < n) (hi : i < a) (hc : c < 3) (hq : q < n) :
    zP (fun u => u.1 = nI (fb_ct (fun m => decide (zpm a (zac v s) m = true ∧ zdg m i = c ∧ znx v s m ≠ q)) (3 ^ a)) ∧ zag [4] σ u.2 ∧ (∀ m, m < 3 ^ a → u.2 4 (s * 81 + m) = if zpm a (zac v s) m = true then (if zdg m i = c then nI q else v (100 * s + 10 + m)) else -1) ∧ ∀ k, (∀ m, m < 3 ^ a → k ≠ s * 81 + m) → u.2 4 k = σ 4 k) (m_X7_redirect σ (nI s) (nI i) (nI c) (nI q)) := by
  have hn := hW.1
  have ha := hK.2.1
  have h81 := za_81 ha
  generalize hp : (fun m => decide (zpm a (zac v s) m = true ∧ zdg m i = c ∧ znx v s m ≠ q)) = p
  have hpv : ∀ m, p m = decide (zpm a (zac v s) m = true ∧ zdg m i = c ∧ znx v s m ≠ q) := fun m => by rw [← hp]
  have hcl : fb_ct p (3 ^ a) ≤ 81 := Nat.le_trans (fb_ct_le _ _) h81.1
  unfold m_X7_redirect
  refine zl (P := zP _) (fun m z => z.2.2 = nI m ∧ z.2.1 = nI (fb_ct p m) ∧ zag [4] σ z.1 ∧ (∀ m', m' < 3 ^ a → z.1 4 (s * 81 + m') = if zpm a (zac v s) m' = true then (if m' < m ∧ zdg m' i = c then nI q else v (100 * s + 10 + m')) else -1) ∧ ∀ k, (∀ m, m < 3 ^ a → k ≠ s * 81 + m) → z.1 4 k = σ 4 k) (3 ^ a) (by omega) ⟨nI_0.symm, rfl, zag.rf, fun m hm => ?_, fun _ _ => rfl⟩ ?_
  · have := hR.2.2.2.2 s m hs hm
    rw [show (0 : Nat) + 4 = 4 from rfl] at this
    dsimp only
    rw [this]
    split
    · rw [if_neg (fun r => absurd r.1 (Nat.not_lt_zero m))]
    · rfl
  rintro k m ⟨τ, x, y⟩ hm ⟨hy, hx, hg, hd, hr⟩ hk
  dsimp only at hx hy hg hd hr ⊢
  subst hx hy
  unfold m_X7_redirect_b6
  rw [hg 0 (by decide), hK.2.2.2.2.1]
  rcases Nat.lt_or_ge m (3 ^ a) with w | w
  · have et : m_X7_target τ (nI s) (nI m) = if zpm a (zac v s) m = true then v (100 * s + 10 + m) else -1 := by
      unfold m_X7_target
      rw [z_hasState (n := n) (by rw [hg 0 (by decide)]; exact hR.1), zin_nI (by omega) hs, if_neg zbIt, if_neg (nI_pos (by omega)), hg 0 (by decide), hK.2.2.2.2.1, if_pos (zlt (by omega) (by omega) w), z_ix81, zrA (by decide) (by omega), hd m w]
      split
      · rw [if_neg (fun r => absurd r.1 (by omega))]
      · rfl
    have ec := fb_ct_succ p m
    rw [if_neg (znle (by omega) (by omega) w), et, z_actionIn (by omega) (by omega), Option.bind_some]
    have keep : (zpm a (zac v s) m = true → zdg m i ≠ c) → p m = false → zP (fun u => u.1 = nI (fb_ct p (3 ^ a)) ∧ zag [4] σ u.2 ∧ (∀ m, m < 3 ^ a → u.2 4 (s * 81 + m) = if zpm a (zac v s) m = true then (if zdg m i = c then nI q else v (100 * s + 10 + m)) else -1) ∧ ∀ k, (∀ m, m < 3 ^ a → k ≠ s * 81 + m) → u.2 4 k = σ 4 k) (k (τ, nI (fb_ct p m), nI m + 1)) := by
      intro h1 h2
      rw [nI_1]
      rw [h2, if_neg (by decide)] at ec
      refine hk w _ ⟨rfl, by dsimp only; rw [ec]; rfl, hg, fun m' hm' => ?_, hr⟩
      dsimp only
      rw [hd m' hm']
      by_cases hp' : zpm a (zac v s) m' = true
      · rw [if_pos hp', if_pos hp']
        by_cases e : m' = m
        · subst e
          rw [if_neg (fun r => absurd r.1 (by omega)), if_neg (fun r => h1 hp' r.2)]
        · by_cases e2 : m' < m ∧ zdg m' i = c
          · rw [if_pos e2, if_pos ⟨by omega, e2.2⟩]
          · rw [if_neg e2, if_neg (fun r => e2 ⟨by omega, r.2⟩)]
      · rw [if_neg hp', if_neg hp']
    by_cases h1 : zpm a (zac v s) m = true
    · obtain ⟨hx1, hx2⟩ := hW.nx hs (show m < 81 by omega)
      have hd3 := zdg_lt m i
      rw [if_pos h1, hx1, if_neg (znm1 (by omega))]
      by_cases h2 : zdg m i = c
      · have put : ∀ x : Int32, x = nI (fb_ct p (m + 1)) → zP (fun u => u.1 = nI (fb_ct p (3 ^ a)) ∧ zag [4] σ u.2 ∧ (∀ m, m < 3 ^ a → u.2 4 (s * 81 + m) = if zpm a (zac v s) m = true then (if zdg m i = c then nI q else v (100 * s + 10 + m)) else -1) ∧ ∀ k, (∀ m, m < 3 ^ a → k ≠ s * 81 + m) → u.2 4 k = σ 4 k) (m_X7_redirect_b53 τ (nI s) (nI i) (nI c) (nI q) x (nI m) k) := by
          intro x hx
          unfold m_X7_redirect_b53 m_X7_setTarget
          rw [z_ix81, zrP (by decide) (by omega), nI_1]
          refine hk w _ ⟨rfl, hx, hg.up (by simp), fun m' hm' => ?_, fun k hk => ?_⟩
          · dsimp only
            rw [zup_v]
            by_cases e : m' = m
            · subst e
              rw [if_pos ⟨rfl, rfl⟩, if_pos h1, if_pos ⟨by omega, h2⟩]
            · rw [if_neg (fun r => e (by omega)), hd m' hm']
              by_cases hp' : zpm a (zac v s) m' = true
              · rw [if_pos hp', if_pos hp']
                by_cases e2 : m' < m ∧ zdg m' i = c
                · rw [if_pos e2, if_pos ⟨by omega, e2.2⟩]
                · rw [if_neg e2, if_neg (fun r => e2 ⟨by omega, r.2⟩)]
              · rw [if_neg hp', if_neg hp']
          · dsimp only
            rw [zup_v, if_neg (fun r => hk m w r.2)]
            exact hr k hk
        rw [if_pos (by rw [h2])]
        by_cases h3 : znx v s m = q
        · rw [if_pos (by rw [h3])]
          exact put _ (by rw [ec, hpv, decide_eq_false (fun r => r.2.2 h3)]; rfl)
        · rw [if_neg (zne (by omega) (by omega) h3), nI_1]
          exact put _ (by rw [ec, hpv, decide_eq_true ⟨h1, h2, h3⟩]; rfl)
      · rw [if_neg (zne (by omega) (by omega) h2)]
        exact keep (fun _ => h2) (by rw [hpv]; exact decide_eq_false (fun r => h2 r.2.1))
    · rw [if_neg h1, if_pos rfl]
      exact keep (fun r => absurd r h1) (by rw [hpv]; exact decide_eq_false (fun r => h1 r.1))
  · have : m = 3 ^ a := by omega
    subst this
    rw [if_pos (zle (by omega) (by omega) w)]
    refine zP_some ⟨rfl, hg, fun m hm => ?_, hr⟩
    dsimp only
    rw [hd m hm]
    split
    · by_cases e : zdg m i = c
      · rw [if_pos ⟨hm, e⟩, if_pos e]
      · rw [if_neg (fun r => e r.2), if_neg e]
    · rfl
/-! the text, forgetting -/
end SF
