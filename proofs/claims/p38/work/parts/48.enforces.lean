/-! A STRATEGY, adopted, enforces its formula just where it holds -/
theorem fG_k {c g : Nat} (hg : g < 4) : (fG c g).1 (lG g - 1) = 6 + g ∧ (fG c g).2.2.2 (lG g - 1) = c := by
  have : g = 0 ∨ g = 1 ∨ g = 2 ∨ g = 3 := by omega
  rcases this with rfl | rfl | rfl | rfl <;> exact ⟨rfl, rfl⟩
theorem l_power {i : Nat} (hi : i < 3) : m_L_power (nI i) = nI (3 ^ i) := (by decide : ∀ i, i < 3 → m_L_power (nI i) = nI (3 ^ i)) i hi
theorem zpc_a : ∀ a, a < 5 → ∀ c, c < 2 ^ a → zpc c ≤ a := by decide +kernel
section LE
variable {a n m : Nat} {σ : St}
theorem l_enforces {h k c g : Nat} {v : Nat → Int32} {P : Nat → Nat → Int32} (H : PI a n v h P m σ) (hk : k < m) (hF : QF a σ k (lG g) (fG c g)) (hc : c < 2 ^ a) (hg4 : g < 4) (ha3 : a ≤ 3) (q : Int32) : zP (fun u => u.1 = true ∧ (∃ v' h' P', PI a n v' h' P' m u.2 ∧ ∀ s, s < n → v' (100 * s) = v (100 * s)) ∧ zag eL σ u.2) (m_L_enforces σ (nI k) (nI g) (nI c) (nI a) (nI n) q) := by
  obtain ⟨hK, hW, hR, -⟩ := id H
  have hn := hW.1
  have ha := hK.2.1
  have ha1 := hK.1
  have h81 := za_81 ha
  obtain ⟨kd, kc⟩ := fG_k (c := c) hg4
  have hl : lG g = if g = 3 then 3 else 2 := rfl
  have hl3 : 2 ≤ lG g ∧ lG g ≤ 3 := by rw [hl]; split <;> omega
  generalize hlen : lG g = len at hF kd kc hl hl3
  generalize fG c g = f at hF kd kc
  have f1 := hF.1
  have l1 := f1.1
  have hgo : zisg f len = true := decide_eq_true (by omega)
  obtain ⟨h6, h9⟩ := zisg_t hgo
  have hwl := zwh_gl (v := v) (n := n) f1 h6 h9
  rw [kc] at hwl
  -- the set in which it holds
  obtain ⟨W, hWd⟩ : ∃ W, W = zgl v a n f len false (nI c) := ⟨_, rfl⟩
  have hWin : zsb W (zall n) := by rw [hWd]; exact zgoal_in (fun X => zsb_F hn) (zop1_in hn f1) (zop2_in hn f1) h6 (by omega)
  -- the strategy
  obtain ⟨J, hJ⟩ : ∃ J : Nat → Nat, ∀ s, s < n → zst v a n f len s = nI (J s) ∧ J s < 3 ^ a := by
    refine ⟨fun s => (zst v a n f len s).toNatClampNeg, fun s hs => ?_⟩
    obtain ⟨j, hj, e⟩ := zst_ok hW ha f1 hs hgo
    dsimp only
    rw [e, nI_clamp (by omega)]
    exact ⟨rfl, hj⟩
  obtain ⟨w, hw⟩ : ∃ w, w = zpw v a (nI c) J n 0 := ⟨_, rfl⟩
  have hsm : zsm a n v w := by rw [hw]; exact zpw_sm ha
  have hWw : zWF a n w := by rw [hw]; exact zpw_WF ha hW
  have henf : zgl w a n f len true (nI c) = W := by
    have := z_enf hW ha f1 hgo hJ
    rw [kc, ← hw, ← hWd] at this
    exact this
  have hglw : ∀ C, zgl w a n f len false C = zgl v a n f len false C := fun C => zgl_sm hsm f len C
  unfold m_L_enforces
  refine zbe (q_parts H hk hF) ?_
  rw [z_top l1 (by omega)]
  refine zbind (q_where H hk hF (p := len - 1) (by omega)) ?_
  rintro ⟨o, τ⟩ ⟨ho, hg1⟩
  have ho : o = W := by
    rw [hWd, ← hwl]
    exact ho
  dsimp only at hg1 ⊢
  subst ho
  have H1 := H.cl hg1 (by decide)
  have F1 := hF.cl hg1 (zwcF (by decide))
  have fin : ∀ s0 : Int32, s0 = nI (len - 1) → zP (fun u => u.1 = true ∧ (∃ v' h' P', PI a n v' h' P' m u.2 ∧ ∀ s, s < n → v' (100 * s) = v (100 * s)) ∧ zag eL σ u.2) (m_L_enforces_b30 τ (nI k) (nI g) (nI c) (nI a) (nI n) q o s0 (nI (len - 1))) := by
    intro s0 hs0
    unfold m_L_enforces_b30
    refine zit hs0.symm ?_
    refine zbind (q_enforced H1 hk F1 hgo) ?_
    rintro ⟨o1, τ1⟩ ⟨ho1, hg2⟩
    dsimp only at ho1 hg2 ⊢
    rw [kc] at ho1
    refine zit ((zsb_iff _ _).mpr (by rw [ho1, hWd]; exact zgl_tf hW ha hgo (nI c))) ?_
    have hg2 := hg1.tr hg2
    have H2 := H.cl hg2 (by decide)
    have F2 := hF.cl hg2 (zwcF (by decide))
    refine zbind (q_adopt H2 hk F2 hgo hJ) ?_
    rintro ⟨o2, τ2⟩ ⟨⟨r, hr, ho2⟩, H3, hg3⟩
    dsimp only at ho2 H3 hg3 ⊢
    rw [kc, ← hw] at H3
    refine zif (by rw [ho2]; exact nI_pos (by omega)) ?_
    have F3 := F2.cl hg3 eL_F
    have hg3 : zag eL σ τ2 := (hg2.sub (by decide)).tr hg3
    refine zbind (q_enforced H3 hk F3 hgo) ?_
    rintro ⟨o3, τ3⟩ ⟨ho3, hg4⟩
    dsimp only at ho3 hg4 ⊢
    rw [kc, henf] at ho3
    refine zit ho3 ?_
    have hend : ∀ ρ, zag [72, 79, 80, 81] τ2 ρ → (∃ v' h' P', PI a n v' h' P' m ρ ∧ ∀ s, s < n → v' (100 * s) = v (100 * s)) ∧ zag eL σ ρ := fun ρ hg => ⟨⟨w, _, _, H3.cl hg (by decide), fun s hs => (hsm s hs).1⟩, hg3.tr (hg.sub (by decide))⟩
    refine zl (P := zP _) (fun s z => z.2 = nI s ∧ zag [72, 79, 80, 81] τ2 z.1) n (by omega) ⟨nI_0.symm, hg4.sub (by decide)⟩ ?_
    rintro kk s ⟨ρ, x⟩ hs ⟨hx, hgr⟩ hkk
    dsimp only at hx hgr ⊢
    subst hx
    unfold m_L_enforces_b75
    rcases Nat.lt_or_ge s n with u | u
    · have hkk := hkk u
      rw [if_neg (znle (by omega) (by omega) u)]
      -- the strategy, the smallest coalition
      have b169 : ∀ ρ, zag [72, 79, 80, 81] τ2 ρ → zP (fun u => u.1 = true ∧ (∃ v' h' P', PI a n v' h' P' m u.2 ∧ ∀ s, s < n → v' (100 * s) = v (100 * s)) ∧ zag eL σ u.2) (m_L_enforces_b169 ρ (nI k) (nI g) (nI c) (nI a) (nI n) q o (nI s) (bI (bt o s)) kk) := by
        intro ρ hgr
        unfold m_L_enforces_b169
        refine zbind (q_strategy (H3.cl hgr (by decide)) hk (F3.cl hgr (zwcF (by decide))) hgo u) ?_
        rintro ⟨o4, ρ1⟩ ⟨ho4, hg5⟩
        dsimp only at ho4 hg5 ⊢
        have hg5 := hgr.tr hg5
        rw [zst_sm hsm f len u, (hJ s u).1] at ho4
        subst ho4
        have hJ3 := (hJ s u).2
        refine zl (P := zP _) (fun i z => z = nI i) a (by omega) nI_0.symm ?_
        rintro k2 i z hi rfl hk2
        unfold m_L_enforces_b181
        rcases Nat.lt_or_ge i a with t | t
        · rw [if_neg (znle (by omega) (by omega) t), zsh1 _ (by omega)]
          cases hb : bt (nI c) i
          · rw [if_neg (show ¬ bI false = 1 by decide), nI_1]
            exact hk2 t _ rfl
          · have h3i : 3 ^ i ≤ 9 ∧ 1 ≤ 3 ^ i := (by decide : ∀ i, i < 3 → 3 ^ i ≤ 9 ∧ 1 ≤ 3 ^ i) i (by omega)
            have epl : m_X9_planned ρ1 (nI s) (nI i) = nI (zdg (J s) i) := by
              rw [q_planned (H3.cl hg5 (by decide)) u t, hw, zpw_pl ha t, if_pos ⟨Or.inl u, hb⟩]
            have hdv : nI (J s) / nI (3 ^ i) = nI (J s / 3 ^ i) := pk_div (by omega) (by omega) (by omega)
            have hq : J s / 3 ^ i < 2 ^ 31 := Nat.lt_of_le_of_lt (Nat.div_le_self _ _) (by omega)
            rw [if_pos (show bI true = 1 from rfl), l_power (by omega)]
            unfold dvz
            rw [if_neg (zne0 (by omega) (by omega)), hdv, zm3 hq, epl, if_pos (show nI (zdg (J s) i) = nI (J s / 3 ^ i % 3) from rfl), nI_1]
            exact hk2 t _ rfl
        · have : i = a := by omega
          subst this
          rw [if_pos (zle (by omega) (by omega) t)]
          refine zbind (q_smallest (H3.cl hg5 (by decide)) hk (F3.cl hg5 (zwcF (by decide))) hgo u) ?_
          rintro ⟨o5, ρ2⟩ ⟨ho5, hg6⟩
          dsimp only at ho5 hg6 ⊢
          have hg6 := hg5.tr (hg6.sub (by decide))
          have hGc : bt (zgl w i n f len false (nI c)) s = bt o s := by rw [hglw, ← hWd]
          generalize hG : (fun c => bt (zgl w i n f len false (nI c)) s) = G at ho5
          have hGc : G c = bt o s := by rw [← hG]; exact hGc
          subst ho5
          have h2i : 2 ^ i < 2 ^ 31 := by omega
          cases hb : bt o s
          · rw [if_pos zbIf]
            have hne : ¬ zsmF G (2 ^ i) (i + 1) 0 = nI c := fun e => by
              rcases zsmF_two (G := G) h2i (i + 1) 0 with e2 | ⟨c', hc', hGc', e2⟩
              · rw [e2] at e
                exact znm9 (by omega) e.symm
              · rw [e2] at e
                have : c' = c := (nI_eq (by omega) (by omega)).mp e
                subst this
                rw [hGc, hb] at hGc'
                cases hGc'
            rw [if_neg hne, nI_1]
            exact hkk _ ⟨rfl, hg6⟩
          · rw [if_neg zbIt]
            have hne := zsmF_ne (G := G) h2i (i + 1) 0 ⟨c, hc, by rw [hGc, hb], Nat.zero_le _, by have := zpc_a i (by omega) c hc; omega⟩
            rcases zsmF_two (G := G) h2i (i + 1) 0 with e2 | ⟨c', hc', hGc', e2⟩
            · exact absurd e2 hne
            · rw [e2, if_pos (nI_pos' (by omega)), nI_1]
              exact hkk _ ⟨rfl, hg6⟩
      have H4 := H3.cl hgr (by decide)
      have F4 := F3.cl hgr (zwcF (by decide))
      -- behind the rank
      have brk : ∀ (x11 : Int32) (ρ : St), zag [72, 79, 80, 81] τ2 ρ → ((g = 1 ∨ g = 3) → (x11 = -9 ↔ bt o s = false)) → (¬ (g = 1 ∨ g = 3) → x11 = -3) → zP (fun u => u.1 = true ∧ (∃ v' h' P', PI a n v' h' P' m u.2 ∧ ∀ s, s < n → v' (100 * s) = v (100 * s)) ∧ zag eL σ u.2) ((m_X9_holds ρ (nI k) (nI s)).bind fun u11 => if u11.1 = 1 then m_L_enforces_b107 u11.2 (nI k) (nI g) (nI c) (nI a) (nI n) q o (nI s) x11 1 kk else m_L_enforces_b107 u11.2 (nI k) (nI g) (nI c) (nI a) (nI n) q o (nI s) x11 0 kk) := by
        intro x11 ρ hgr h13 hn13
        refine zbind (q_holds (H3.cl hgr (by decide)) hk (F3.cl hgr (zwcF (by decide))) u) ?_
        rintro ⟨o4, ρ1⟩ ⟨ho4, hg5⟩
        dsimp only at ho4 hg5 ⊢
        have hg5 := hgr.tr (hg5.sub (by decide))
        rw [zwh_gl f1 h6 h9, kc, hglw, ← hWd] at ho4
        subst ho4
        have e107 : ∀ y : Int32, y = bI (bt o s) → zP (fun u => u.1 = true ∧ (∃ v' h' P', PI a n v' h' P' m u.2 ∧ ∀ s, s < n → v' (100 * s) = v (100 * s)) ∧ zag eL σ u.2) (m_L_enforces_b107 ρ1 (nI k) (nI g) (nI c) (nI a) (nI n) q o (nI s) x11 y kk) := by
          intro y hy
          subst hy
          have e127 : zP (fun u => u.1 = true ∧ (∃ v' h' P', PI a n v' h' P' m u.2 ∧ ∀ s, s < n → v' (100 * s) = v (100 * s)) ∧ zag eL σ u.2) (m_L_enforces_b127 ρ1 (nI k) (nI g) (nI c) (nI a) (nI n) q o (nI s) x11 (bI (bt o s)) (bI (bt o s)) (bI (bt o s)) kk) := by
            have b140 : (g = 1 ∨ g = 3) → zP (fun u => u.1 = true ∧ (∃ v' h' P', PI a n v' h' P' m u.2 ∧ ∀ s, s < n → v' (100 * s) = v (100 * s)) ∧ zag eL σ u.2) (m_L_enforces_b140 ρ1 (nI k) (nI g) (nI c) (nI a) (nI n) q o (nI s) x11 (bI (bt o s)) kk) := by
              intro hgg
              have := h13 hgg
              unfold m_L_enforces_b140 m_L_enforces_b152
              by_cases e : x11 = -9
              · rw [if_pos e, this.mp e, if_neg (by decide), ← this.mp e]
                exact b169 ρ1 hg5
              · have hb : bt o s = true := by
                  cases hb : bt o s
                  · exact absurd (this.mpr hb) e
                  · rfl
                have b1 := b169 ρ1 hg5
                rw [hb] at b1
                rw [if_neg e, hb, if_neg (by decide)]
                exact b1
            unfold m_L_enforces_b127
            rw [if_pos rfl]
            refine zite (fun e => ?_) (fun e1 => ?_)
            · exact b140 (Or.inl ((nI_eq (b := 1) (by omega) (by decide)).mp e))
            refine zite (fun e => ?_) (fun e3 => ?_)
            · exact b140 (Or.inr ((nI_eq (b := 3) (by omega) (by decide)).mp e))
            refine zit (hn13 (fun hgg => ?_)) (b169 ρ1 hg5)
            rcases hgg with hgg | hgg
            · exact e1 (by rw [hgg]; rfl)
            · exact e3 (by rw [hgg]; rfl)
          unfold m_L_enforces_b107
          rw [zsh1 _ (by omega)]
          cases hb : bt o s
          · rw [hb] at e127
            rw [if_neg (by decide)]
            exact e127
          · rw [hb] at e127
            rw [if_pos (by decide)]
            exact e127
        cases hb : bt o s
        · rw [if_neg (by decide)]
          exact e107 0 (by rw [hb]; rfl)
        · rw [if_pos (by decide)]
          exact e107 1 (by rw [hb]; rfl)
      by_cases h13 : g = 1 ∨ g = 3
      · have h79 : f.1 (len - 1) = 7 ∨ f.1 (len - 1) = 9 := by omega
        refine zbind (q_rank H4 hk F4 u h79) ?_
        rintro ⟨o4, ρ1⟩ ⟨ho4, hg5⟩
        dsimp only at ho4 hg5 ⊢
        refine brk o4 ρ1 (hgr.tr (hg5.sub (by decide))) (fun _ => ?_) (fun r => absurd h13 r)
        have := zgk_holds hWw hgo u h79
        rw [kc, hglw, ← hWd, ← ho4] at this
        exact this
      · refine zbe (q_rank_no H4 hk F4 u (by omega) (by omega)) ?_
        exact brk (-3) ρ hgr (fun r => absurd r h13) (fun _ => rfl)
    · have : s = n := by omega
      subst this
      rw [if_pos (zle (by omega) (by omega) u)]
      refine zite (fun _ => zP_some ⟨rfl, hend ρ hgr⟩) (fun hne => ?_)
      have H4 := H3.cl hgr (by decide)
      have F4 := F3.cl hgr (zwcF (by decide))
      -- a play from the first state of the set
      have pl : g = 1 ∨ g = 2 → zP (fun u => u.1 = true ∧ (∃ v' h' P', PI a s v' h' P' m u.2 ∧ ∀ t, t < s → v' (100 * t) = v (100 * t)) ∧ zag eL σ u.2) (loopF (fun k_1 z => m_L_enforces_b281 ρ (nI k) (nI g) (nI s) q o z k_1) cFu 0) := by
        intro hg12
        obtain ⟨s0, hs0, hb0⟩ : ∃ s0, s0 < 32 ∧ bt o s0 = true := Classical.byContradiction fun hx => hne (b_ext fun i hi => by
          rw [b_0]
          cases e : bt o i
          · rfl
          · exact absurd ⟨i, hi, e⟩ hx)
        have lt_n : ∀ {i : Nat}, i < 32 → bt o i = true → i < s := fun hi hb => by
          have := hWin _ hi hb
          rw [zall_bt hn hi] at this
          exact of_decide_eq_true this
        refine zl (P := zP _) (fun i z => z = nI i) s0 (by omega) nI_0.symm ?_
        rintro k2 i z hi rfl hk2
        unfold m_L_enforces_b281
        rw [zsh1 _ (by omega)]
        cases hb : bt o i
        · rw [if_pos zbIf, nI_1]
          refine hk2 ?_ _ rfl
          rcases Nat.lt_or_ge i s0 with t | t
          · exact t
          · have : i = s0 := by omega
            subst this
            rw [hb0] at hb
            cases hb
        · rw [if_neg zbIt]
          obtain ⟨r, hr, er⟩ := l_up q (q := 40) (by decide) (by decide)
          have er : m_L_up q 40 = some (nI r) := er
          refine zbe er ?_
          have hin := lt_n (show i < 32 by omega) hb
          refine zbind (q_play (I := fun t => g = 2 → bt o t = true) H4 hk F4 hgo hin (show r ≤ 200 by omega) (fun _ => hb) ?_) ?_
          · intro t ht hI j hj hp hg2
            have k8 : f.1 (len - 1) = 8 := by omega
            have e1 : o = zZ (zF w a s true (nI c)) (zop1 w a s f len) 13 := by
              rw [← henf]
              unfold zgl
              rw [k8, zgoal_8]
            have e2 := zZ_in (F := zF w a s true (nI c)) (z12_sb (zop1_in (v := w) (a := a) hn f1) (z12_all hn)) t (by omega)
            rw [← e1] at e2
            have e3 := e2 (hI hg2)
            rw [zF_bt hn ht, if_pos rfl] at e3
            unfold zcanP at e3
            rw [kc] at hp
            obtain ⟨p1, p2⟩ := of_decide_eq_true hp
            exact ((zfo_iff hWw ha ht).mp e3).2 j p1 p2
          · rintro o5 ⟨t, ht, hI, rfl⟩
            rcases hg12 with rfl | rfl
            · rw [if_neg (show ¬ nI 1 = 2 by decide), if_neg (nI_pos (by omega)), if_neg (znle (by omega) (by omega) ht)]
              exact zP_some ⟨rfl, hend ρ hgr⟩
            · rw [if_pos (show nI 2 = 2 from rfl), zsh1 _ (by omega), hI rfl, if_pos (show bI true = 1 from rfl)]
              exact zP_some ⟨rfl, hend ρ hgr⟩
      refine zite (fun e => pl (Or.inl ((nI_eq (b := 1) (by omega) (by decide)).mp e))) (fun _ => ?_)
      refine zite (fun e => pl (Or.inr ((nI_eq (b := 2) (by omega) (by decide)).mp e))) (fun _ => ?_)
      exact zP_some ⟨rfl, hend ρ hgr⟩
  refine zite (fun e => fin 2 ?_) (fun e => fin 1 ?_)
  · have : g = 3 := (nI_eq (b := 3) (by omega) (by decide)).mp e
    rw [hl, if_pos this]; rfl
  · rw [hl, if_neg (fun r => e (by rw [r]; rfl))]; rfl
end LE
