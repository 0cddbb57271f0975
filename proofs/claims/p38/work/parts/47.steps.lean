/-! ONE STEP: greater coalitions, replies -/
theorem co_in {a : Nat} (ha : a ≤ 12) {x : Int32} (h : zsb x (zall a)) : ∃ d, d < 2 ^ a ∧ x = nI d := zin_t (by have := z_2n ha; omega) ((z_set ha).mp ((zsb_iff _ _).mpr h))
theorem co_sb {a c : Nat} (ha : a ≤ 12) (hc : c < 2 ^ a) : zsb (nI c) (zall a) := (zsb_iff _ _).mp ((z_set ha).mpr (zin_nI (by have := z_2n ha; omega) hc))
theorem co_or {a c i : Nat} (ha : a ≤ 12) (hc : c < 2 ^ a) (hi : i < a) : ∃ d, d < 2 ^ a ∧ nI c ||| ((1 : Int32) <<< (nI i &&& 31)) = nI d := co_in ha (zsb_o (co_sb ha hc) (fun j hj h => by
  rw [show (1 : Int32) <<< (nI i &&& 31) = zbit i from rfl, zbit_bt (by omega) hj] at h
  rw [zall_bt ha hj, of_decide_eq_true h]
  exact decide_eq_true hi))
section LC
variable {a n h m : Nat} {v : Nat → Int32} {P : Nat → Nat → Int32} {σ : St}
theorem l_steps (H : PI a n v h P m σ) (h0 : 0 < n) (q : Int32) : zP (fun u => u.1 = true ∧ zag [72] σ u.2) (m_L_steps σ (nI a) (nI n) q) := by
  obtain ⟨hK, hW, hR, -⟩ := id H
  have hn := hW.1
  have ha := hK.2.1
  have ha1 := hK.1
  have h81 := za_81 ha
  have h2n := z_2n hn
  have h2a := z_2n (show a ≤ 12 by omega)
  have ea : (1 : Int32) <<< (nI a &&& 31) = nI (2 ^ a) := zbit_n (by omega)
  have en : (1 : Int32) <<< (nI n &&& 31) = nI (2 ^ n) := zbit_n hn
  unfold m_L_steps
  obtain ⟨s, hs, es⟩ := l_up q h0 (show n < 2 ^ 31 by omega)
  refine zbe es ?_
  rw [en]
  obtain ⟨X, hX, eX⟩ := l_up (q >>> ((3 : Int32) &&& 31)) (q := 2 ^ n) (by omega) (by omega)
  refine zbe eX ?_
  have hXz := zin_nI (s := X) (n := 2 ^ n) (by omega) hX
  refine zl (P := zP _) (fun c z => z.2 = nI c ∧ zag [72] σ z.1) (2 ^ a) (by omega) ⟨nI_0.symm, zag.rf⟩ ?_
  rintro k c ⟨τ, x⟩ hc ⟨hx, hg⟩ hk
  dsimp only at hx hg ⊢
  subst hx
  unfold m_L_steps_b21
  rw [ea]
  rcases Nat.lt_or_ge c (2 ^ a) with w | w
  · have hk := hk w
    have hA : ∀ i, i < a → 1 ≤ zac v s i := fun i hi => (hW.ac hs hi).2.1
    rw [if_neg (znle (by omega) (by omega) w)]
    refine zbind (q_force (H.cl hg (by decide)) w hs hXz) ?_
    rintro ⟨o, τ1⟩ ⟨ho, hg1⟩
    dsimp only at ho hg1 ⊢
    have hg1 := hg.tr hg1
    refine zbind (q_forced (H.cl hg1 (by decide)) w hs) ?_
    rintro ⟨o2, τ2⟩ ⟨ho2, hg2⟩
    dsimp only at ho2 hg2 ⊢
    have hg2 := hg1.tr hg2
    subst ho ho2
    -- the reply to the joint action 0
    have last : ∀ τ, zag [72] σ τ → zP (fun u => u.1 = true ∧ zag [72] σ u.2) (m_L_steps_b219 τ (nI a) (nI n) (nI s) (nI X) (nI c) k) := by
      intro τ hg
      unfold m_L_steps_b219
      refine zbind (q_reply (j := 0) (H.cl hg (by decide)) w hs (zjt_0 hA _) hXz) ?_
      rintro ⟨o, ρ⟩ ⟨ho, hg3⟩
      dsimp only at ho hg3 ⊢
      have hg3 := hg.tr hg3
      subst ho
      refine zite (fun _ => ?_) (fun e => ?_)
      · rw [nI_1]; exact hk _ ⟨rfl, hg3⟩
      · obtain ⟨j, hj, hp, e2⟩ := zfs_in (by decide) e
        obtain ⟨p1, p2, p3⟩ := of_decide_eq_true hp
        have hl := zpm_lt p1
        rw [e2, if_neg (nI_pos (by omega)), q_next (H.cl hg3 (by decide)) hs hl, if_pos p1, zsh1 _ (by have := (hW.nx hs hj).2; omega), p3, if_neg (show ¬ bI false = 1 by decide), nI_1]
        exact hk _ ⟨rfl, hg3⟩
    -- what all states and greater coalitions give
    have rest : ∀ τ, zag [72] σ τ → zP (fun u => u.1 = true ∧ zag [72] σ u.2) (m_L_steps_b82 τ (nI a) (nI n) (nI s) (nI X) (nI c) (zlf v a (nI c) s (nI X)) (nI (fb_ct (fun k => zcan v a (nI c) s (nI k)) (2 ^ n))) k) := by
      intro τ hg
      have hcl := fb_ct_le (fun k => zcan v a (nI c) s (nI k)) (2 ^ n)
      have hall : zlf v a (nI c) s (zall n) = 0 := zlf_all hW ha hs
      have hc1 : 0 < fb_ct (fun k => zcan v a (nI c) s (nI k)) (2 ^ n) := fb_ct_pos.mpr ⟨2 ^ n - 1, by omega, by
        rw [← z_allN hn]
        exact decide_eq_true (by rw [hall]; decide)⟩
      unfold m_L_steps_b82
      rw [en, if_neg (show ¬ nI (fb_ct (fun k => zcan v a (nI c) s (nI k)) (2 ^ n)) < 1 from znlt (b := 1) (by omega) (by decide) (by omega)), if_neg (znlt (by omega) (by omega) hcl)]
      have e1 : nI (2 ^ n) - 1 = zall n := by rw [z_allN hn]; exact pk_sub (b := 1) (by omega)
      rw [e1]
      have hAz : zin (zall n) (2 ^ n) = true := by rw [z_allN hn]; exact zin_nI (by omega) (by omega)
      refine zbind (q_force (H.cl hg (by decide)) w hs hAz) ?_
      rintro ⟨o, ρ⟩ ⟨ho, hg3⟩
      dsimp only at ho hg3 ⊢
      have hg3 := hg.tr hg3
      refine zit (ho.trans hall) ?_
      refine zl (P := zP _) (fun i z => z.2 = nI i ∧ zag [72] σ z.1) a (by omega) ⟨nI_0.symm, hg3⟩ ?_
      rintro k2 i ⟨τ, x⟩ hi ⟨hx, hg⟩ hk2
      dsimp only at hx hg ⊢
      subst hx
      unfold m_L_steps_b117
      rcases Nat.lt_or_ge i a with u | u
      · rw [if_neg (znle (by omega) (by omega) u)]
        obtain ⟨d, hd, ed⟩ := co_or (show a ≤ 12 by omega) w u
        rw [ed]
        have hcd : ∀ j, j < a → bt (nI c) j = true → bt (nI d) j = true := fun j hj hb => by
          rw [← ed, b_or, hb]; rfl
        have fin : ∀ τ, zag [72] σ τ → zP (fun u => u.1 = true ∧ zag [72] σ u.2) (m_L_steps_b154 τ (nI a) (nI n) (nI s) (nI X) (nI c) (zlf v a (nI c) s (nI X)) (nI (fb_ct (fun k => zcan v a (nI c) s (nI k)) (2 ^ n))) (nI i) (nI d) k k2) := by
          intro τ hg
          unfold m_L_steps_b154
          refine zbind (q_forced (H.cl hg (by decide)) hd hs) ?_
          rintro ⟨o, ρ⟩ ⟨ho, hg3⟩
          dsimp only at ho hg3 ⊢
          subst ho
          have hle2 := fb_ct_le (fun k => zcan v a (nI d) s (nI k)) (2 ^ n)
          have hsub : fb_ct (fun k => zcan v a (nI c) s (nI k)) (2 ^ n) ≤ fb_ct (fun k => zcan v a (nI d) s (nI k)) (2 ^ n) := fb_ct_sub fun j _ hb => zcan_up hW ha hs hcd hb
          rw [if_pos (zle (by omega) (by omega) hsub), nI_1]
          exact hk2 u _ ⟨rfl, hg.tr hg3⟩
        refine zite (fun _ => fin τ hg) (fun e => ?_)
        refine zbind (q_force (H.cl hg (by decide)) hd hs hXz) ?_
        rintro ⟨o, ρ⟩ ⟨ho, hg3⟩
        dsimp only at ho hg3 ⊢
        subst ho
        rw [if_neg (of_decide_eq_true (zcan_up hW ha hs hcd (decide_eq_true e)))]
        exact fin ρ (hg.tr hg3)
      · have : i = a := by omega
        subst this
        rw [if_pos (zle (by omega) (by omega) u)]
        refine zite (fun _ => last τ hg) (fun e => ?_)
        have hcp := zcompl ha (nI c)
        obtain ⟨o, ho, eo⟩ := co_in (a := i) (by omega) (x := ((1 : Int32) <<< (nI i &&& 31) - 1) &&& (nI c ^^^ (-1))) zsb_and
        obtain ⟨Y, hY, eY⟩ := co_in hn (x := ((1 : Int32) <<< (nI n &&& 31) - 1) &&& (nI X ^^^ (-1))) zsb_and
        have hXY : ∀ j, j < n → bt (nI Y) j = !bt (nI X) j := fun j hj => by
          rw [← eY, b_and, znot _ (by omega), show bt ((1 : Int32) <<< (nI n &&& 31) - 1) j = decide (j < n) from zall_bt hn (by omega), decide_eq_true hj, Bool.true_and]
        rw [eo] at hcp ⊢
        rw [eY]
        refine zbind (q_force (H.cl hg (by decide)) ho hs (zin_nI (by omega) hY)) ?_
        rintro ⟨r, ρ⟩ ⟨hr, hg3⟩
        dsimp only at hr hg3 ⊢
        subst hr
        have hd := zcan_dual hW ha hs hcp hXY (decide_eq_true e)
        rw [if_pos (Classical.byContradiction (of_decide_eq_false hd))]
        exact last ρ (hg.tr hg3)
    refine zite (fun _ => rest τ2 hg2) (fun e => ?_)
    obtain ⟨j, hj, ej, hf⟩ := zlf_sp hW ha hs e
    obtain ⟨f1, f2⟩ := (zfo_iff hW ha hs).mp hf
    rw [ej, if_neg (nI_pos (by omega))]
    refine zbind (q_reply (H.cl hg2 (by decide)) w hs f1 hXz) ?_
    rintro ⟨o, ρ⟩ ⟨ho, hg3⟩
    dsimp only at ho hg3 ⊢
    have e9 : o = -9 := by
      rw [ho]
      exact zfs_no (fun m _ _ => decide_eq_false fun r => by
        have := f2 m r.1 r.2.1
        rw [r.2.2] at this
        cases this)
    rw [if_pos e9, ← ej]
    exact rest ρ (hg2.tr hg3)
  · have : c = 2 ^ a := by omega
    subst this
    rw [if_pos (zle (by omega) (by omega) w)]
    exact zP_some ⟨rfl, hg⟩
end LC
