/-! QUESTIONS of one step, of formulas -/
theorem z_ntz2 : ∀ x, x < 64 → ∀ y, y < 64 → 64 * x + y ≠ 0 → m_J6_numberOfTrailingZeros_0f7a4 (nI (64 * x + y)) = zfs (fun i => bt (nI (64 * x + y)) i) 12 0 := by decide +kernel
theorem z_ntz {d : Nat} (h : d < 4096) (h0 : d ≠ 0) : m_J6_numberOfTrailingZeros_0f7a4 (nI d) = zfs (fun i => bt (nI d) i) 12 0 := by
  have := z_ntz2 (d / 64) (by omega) (d % 64) (by omega)
  rw [show 64 * (d / 64) + d % 64 = d by omega] at this
  exact this h0
theorem zWF.n_eq {a n m : Nat} {v : Nat → Int32} (h : zWF a n v) (h2 : zWF a m v) : n = m := by
  have e := h.2.1.symm.trans h2.2.1
  have := h.1
  have := h2.1
  exact (nI_eq (by omega) (by omega)).mp e
theorem INV.r2 {a n : Nat} {σ τ : St} {L J : List Nat} {v : Nat → Int32} (H : INV a σ) (hv : σ 88 = v) (hW : zWF a n v) (hg : zah L J σ τ) (hL : ∀ k, k ∈ L → k ∈ zwr) (hJ : 0 ∉ J ∧ 3 ∉ J ∧ 8 ∉ J ∧ 14 ∉ J) (hC : zC a n v τ) : INV a τ := by
  refine H.rf (hg.sub hL (fun _ h => h)) hJ (fun m hm _ => ?_)
  rw [hv] at hm ⊢
  rw [← hW.n_eq hm]
  exact hC
theorem INV.c2 {a : Nat} {σ τ : St} {L : List Nat} (H : INV a σ) (hg : zag L σ τ) (hL : ∀ k, k ∈ L → k ∈ zwc) : INV a τ := H.cl (hg.sub hL)
theorem zpt_eq {a : Nat} {A : Nat → Nat} {c : Int32} {m j : Nat} (hj : zjt a A c j = true) : zpt a c m = j ↔ ∀ i, i < a → bt c i = true → zdg m i = zdg j i := by
  obtain ⟨h1, h2⟩ := of_decide_eq_true hj
  constructor
  · rintro e i hi hb
    have := zpt_dg (c := c) (m := m) hi
    rw [e, hb, if_pos rfl] at this
    exact this.symm
  · intro h
    refine zdg_inj zpt_lt (zpm_lt h1) fun i hi => ?_
    rw [zpt_dg hi]
    cases hb : bt c i
    · rw [h2 i hi hb]; rfl
    · rw [if_pos rfl]; exact h i hi hb
section SA
variable {a : Nat} {σ : St}
theorem z_isQuestion {n : Nat} (hK : zK a σ) (h7 : σ 0 7 = nI n) (x y : Int32) : m_X9_isQuestion σ x y = (zin x (2 ^ a) && zin y n) := by
  unfold m_X9_isQuestion
  rw [z_hasCoalition hK.2.2.2.1, z_hasState h7]
  cases zin x (2 ^ a)
  · rw [if_pos zbIf]; rfl
  · rw [if_neg zbIt]
    cases zin y n
    · rw [if_pos zbIf]; rfl
    · rw [if_neg zbIt]; rfl
theorem s_force (H : INV a σ) (x y z : Int32) : ∃ r σ1 σ2, m_X9_force σ x y z = some (r, σ1) ∧ m_X10_force σ1 x y z = some (r, σ2) ∧ INV a σ2 := by
  obtain ⟨n, hW, hR, hC, hr⟩ := H.zR
  have hn := hW.1
  have h2n := z_2n hn
  have h81 := za_81 H.1.2.1
  unfold m_X9_force m_X10_force
  rw [z_isQuestion H.1 hR.1, z_hasSet hn hR.1]
  by_cases hall : (zin x (2 ^ a) && zin y n && zin z (2 ^ n)) = false
  · refine ⟨-1, σ, σ, ?_, ?_, H⟩
    · cases h1 : (zin x (2 ^ a) && zin y n)
      · rw [if_pos zbIf]
      · rw [if_neg zbIt]
        rw [h1, Bool.true_and] at hall
        rw [hall, if_pos zbIf]
    · rw [r_isCoalition hr, r_isState hr, r_isSet hr]
      cases h1 : zin x (2 ^ a)
      · rw [if_pos zbIf]
      · rw [if_neg zbIt, Option.bind_some]
        cases h2 : zin y n
        · rw [if_pos zbIf]
        · rw [if_neg zbIt, Option.bind_some]
          rw [h1, h2, Bool.true_and, Bool.true_and] at hall
          rw [hall, if_pos zbIf]
  rw [Bool.not_eq_false, Bool.and_eq_true, Bool.and_eq_true] at hall
  obtain ⟨⟨hx, hy⟩, h3⟩ := hall
  obtain ⟨c, hc, rfl⟩ := zin_t (by omega) hx
  obtain ⟨s, hs, rfl⟩ := zin_t (by omega) hy
  rw [hx, hy, h3, Bool.true_and, if_neg zbIt, if_neg zbIt]
  obtain ⟨⟨o, σ1⟩, e1, ho, hg⟩ := z_leastForcing H.1 hW hR hc hs z
  have hr1 := hr.ag hg (by decide)
  obtain ⟨⟨o2, σ2⟩, e2, ho2, hg2, hC2⟩ := r_forcing hr1 (hC.ag hg (by decide)) hc hs z
  dsimp only at ho hg ho2 hg2 hC2
  refine ⟨o, σ1, σ2, by rw [e1]; rfl, ?_, (H.c2 hg (by decide)).r2 hr1.2.2.2.1 hW hg2 (by decide) (by decide) hC2⟩
  rw [r_isCoalition hr1, r_isState hr1, r_isSet hr1, hx, hy, h3, if_neg zbIt, Option.bind_some, if_neg zbIt, Option.bind_some, if_neg zbIt, e2, Option.bind_some]
  dsimp only
  rw [ho2, ho]
theorem s_reply (H : INV a σ) (x y w z : Int32) : ∃ r σ1, m_X9_reply σ x y w z = some (r, σ1) ∧ m_X10_reply σ1 x y w z = some r ∧ INV a σ1 := by
  obtain ⟨n, hW, hR, hC, hr⟩ := H.zR
  have hn := hW.1
  have h2n := z_2n hn
  have h81 := za_81 H.1.2.1
  unfold m_X9_reply m_X10_reply
  rw [z_isQuestion H.1 hR.1, z_hasSet hn hR.1]
  by_cases hall : (zin x (2 ^ a) && zin y n && zin z (2 ^ n)) = false
  · refine ⟨-1, σ, ?_, ?_, H⟩
    · cases h1 : (zin x (2 ^ a) && zin y n)
      · rw [if_pos zbIf]
      · rw [if_neg zbIt]
        rw [h1, Bool.true_and] at hall
        rw [hall, if_pos zbIf]
    · rw [r_isCoalition hr, r_isState hr, r_isSet hr]
      cases h1 : zin x (2 ^ a)
      · rw [if_pos zbIf]
      · rw [if_neg zbIt, Option.bind_some]
        cases h2 : zin y n
        · rw [if_pos zbIf]
        · rw [if_neg zbIt, Option.bind_some]
          rw [h1, h2, Bool.true_and, Bool.true_and] at hall
          rw [hall, if_pos zbIf]
  rw [Bool.not_eq_false, Bool.and_eq_true, Bool.and_eq_true] at hall
  obtain ⟨⟨hx, hy⟩, h3⟩ := hall
  obtain ⟨c, hc, rfl⟩ := zin_t (by omega) hx
  obtain ⟨s, hs, rfl⟩ := zin_t (by omega) hy
  rw [hx, hy, h3, Bool.true_and, if_neg zbIt, if_neg zbIt]
  obtain ⟨⟨b, σ1⟩, e1, hg, hb⟩ := z_isJointAction H.1 hW hR hc hs w
  dsimp only at hg hb
  have hr1 := hr.ag hg (by decide)
  have hK1 := H.1.g hg (by decide)
  have hR1 := hR.g hg (by decide)
  have H1 : INV a σ1 := H.c2 hg (by decide)
  rw [e1, Option.bind_some]
  dsimp only
  cases b
  · refine ⟨-1, σ1, by rw [if_pos zbIf], ?_, H1⟩
    rw [r_isCoalition hr1, r_isState hr1, r_isSet hr1, hx, hy, h3, if_neg zbIt, Option.bind_some, if_neg zbIt, Option.bind_some, if_neg zbIt]
    have : m_X10_isJoint σ1 (nI c) (nI s) w = some false := by
      refine zin_any (x := w) (n := 81) (by decide) ?_ (fun h => r_isJoint_no ⟨a, H.1.2.1, hr1.2.2.1⟩ h)
      rintro j hj rfl
      rw [r_isJoint hr1 hs hj]
      cases e : zjt a (zac (σ 88) s) (nI c) j
      · rfl
      · exact absurd (hb.mpr ⟨j, rfl, e⟩) (by decide)
    rw [this, Option.bind_some, if_pos zbIf]
  · obtain ⟨j, rfl, hj⟩ := hb.mp rfl
    have hj3 := zpm_lt (of_decide_eq_true hj).1
    rw [if_neg zbIt, z_leastLeaving hK1 hW hR1 hc hs hj3 z]
    refine ⟨_, σ1, rfl, ?_, H1⟩
    rw [r_isCoalition hr1, r_isState hr1, r_isSet hr1, hx, hy, h3, if_neg zbIt, Option.bind_some, if_neg zbIt, Option.bind_some, if_neg zbIt, r_isJoint hr1 hs (by omega), hj, Option.bind_some, if_neg zbIt]
    generalize hp : (fun m => decide (zpm a (zac (σ 88) s) m = true ∧ zpt a (nI c) m = j ∧ bt z (znx (σ 88) s m) = false)) = p
    have hpv : ∀ m, p m = decide (zpm a (zac (σ 88) s) m = true ∧ zpt a (nI c) m = j ∧ bt z (znx (σ 88) s m) = false) := fun m => by rw [← hp]
    refine zl (P := fun q => q = some (zfs p 81 0)) (fun i z => z = nI i ∧ ∀ j, j < i → p j = false) 81 (by decide) ⟨nI_0.symm, fun j hj => absurd hj (Nat.not_lt_zero j)⟩ ?_
    rintro k i q hi ⟨rfl, hd⟩ hk
    have step : i < 81 → p i = false → k (nI i + 1) = some (zfs p 81 0) := fun hi e => by
      rw [nI_1]
      refine hk hi _ ⟨rfl, fun j hj => ?_⟩
      rcases Nat.lt_or_ge j i with w | w
      · exact hd j w
      · have : j = i := by omega
        subst this; exact e
    unfold m_X10_reply_b40
    rcases Nat.lt_or_ge i 81 with q | q
    · rw [if_neg (show ¬ (81 : Int32) ≤ nI i from znle (a := 81) (by decide) (by omega) q), r_isMove hr1 hs q, Option.bind_some]
      cases h1 : zpm a (zac (σ 88) s) i
      · rw [if_pos zbIf]
        exact step q (by rw [hpv]; exact decide_eq_false (fun r => by rw [h1] at r; exact absurd r.1 (by decide)))
      · rw [if_neg zbIt, r_areAlikeFor hr1 q (by omega), Option.bind_some]
        by_cases h2 : ∀ k, k < a → bt (nI c) k = true → zdg i k = zdg j k
        · rw [decide_eq_true h2, if_neg zbIt, show (10 : Int32) = nI 10 from rfl, z100, zck (by decide) (by omega), nI_clamp (by omega), hr1.2.2.2.1, (hW.nx hs q).1, zsh1 _ (by have := (hW.nx hs q).2; omega)]
          cases h3 : bt z (znx (σ 88) s i)
          · rw [if_pos zbIf, zfs_hit (Nat.zero_le _) (by omega) (by rw [hpv]; exact decide_eq_true ⟨h1, (zpt_eq hj).mpr h2, h3⟩) (fun k _ hk => hd k hk)]
          · rw [if_neg zbIt]
            exact step q (by rw [hpv]; exact decide_eq_false (fun r => by rw [h3] at r; exact absurd r.2.2 (by decide)))
        · rw [decide_eq_false h2, if_pos zbIf]
          exact step q (by rw [hpv]; exact decide_eq_false (fun r => h2 ((zpt_eq hj).mp r.2.1)))
    · have : i = 81 := by omega
      subst this
      rw [if_pos (show (81 : Int32) ≤ nI 81 by decide), zfs_no (fun k _ hk => hd k (by omega))]
theorem r_forced {n : Nat} {v : Nat → Int32} (h : zR a n v σ) (hC : zC a n v σ) {c s : Nat} (hc : c < 2 ^ a) (hs : s < n) :
    zP (fun u => u.1 = nI (fb_ct (fun k => zcan v a (nI c) s (nI k)) (2 ^ n)) ∧ zah [90, 91] [5] σ u.2 ∧ zC a n v u.2) (m_X10_forced σ (nI c) (nI s)) := by
  have hn := h.2.2.2.2.1
  have h2n := z_2n hn
  have h81 := za_81 h.2.1
  unfold m_X10_forced
  rw [r_isCoalition h, zin_nI (by omega) hc, if_neg zbIt, r_isState h, zin_nI (by omega) hs, Option.bind_some, if_neg zbIt]
  generalize hp : (fun k => zcan v a (nI c) s (nI k)) = p
  have hpv : ∀ k, p k = true ↔ ∃ j, j < 81 ∧ ¬ zoc v a (nI c) s j = 0 ∧ (zoc v a (nI c) s j &&& (nI k ^^^ (-1))) = 0 := fun k => by
    rw [← hp]
    dsimp only
    rw [zcan_t]
    constructor
    · rintro ⟨j, h1, h2⟩; exact ⟨j, h1, of_decide_eq_true h2⟩
    · rintro ⟨j, h1, h2⟩; exact ⟨j, h1, decide_eq_true h2⟩
  have hout := fun {τ : St} (hg : zah [90, 91] [5] σ τ) (hC : zC a n v τ) {j : Nat} (hj : j < 81) => r_outcome (h.g hg (by decide)) hC hc hs hj
  generalize zoc v a (nI c) s = o at hpv hout
  refine zl (P := zP _) (fun i z => z.2.2 = nI i ∧ zah [90, 91] [5] σ z.1 ∧ zC a n v z.1 ∧ ∃ mm, mm ≤ i ∧ z.2.1 = nI mm ∧ (∀ q, q < mm → ∃ j, j < i ∧ ¬ o j = 0 ∧ z.1 91 q = o j) ∧ ∀ j, j < i → ¬ o j = 0 → ∃ q, q < mm ∧ z.1 91 q = o j) 81 (by decide) ⟨nI_0.symm, zah.rf, hC, 0, Nat.le_refl _, rfl, fun j hj => absurd hj (Nat.not_lt_zero j), fun j hj => absurd hj (Nat.not_lt_zero j)⟩ ?_
  rintro k i ⟨τ, y, x⟩ hi ⟨hx, hg, hC, mm, hm, hy, h1, h2⟩ hk
  dsimp only at hx hy hg hC h1 h2 ⊢
  subst hx hy
  have up90 : ∀ {ρ : St}, zah [90] [5] τ ρ → zah [90, 91] [5] τ ρ := fun h => h.sub (fun k hk => by simp at hk ⊢; exact Or.inl hk) (fun _ h => h)
  unfold m_X10_forced_b23
  rcases Nat.lt_or_ge i 81 with q | q
  · rw [if_neg (show ¬ (81 : Int32) ≤ nI i from znle (a := 81) (by decide) (by omega) q)]
    refine zbind (hout hg hC q) ?_
    rintro ⟨o1, ρ⟩ ⟨ho, hg2, hC2⟩
    dsimp only at ho hg2 hC2 ⊢
    subst ho
    have hg3 := hg.tr (up90 hg2)
    have e91 : ρ 91 = τ 91 := hg2.1 91 (by decide) (by decide)
    refine zite (fun e => ?_) (fun e => ?_)
    · rw [nI_1]
      refine hk q _ ⟨rfl, hg3, hC2, mm, by omega, rfl, fun w hw => ?_, fun j hj hne => ?_⟩
      · obtain ⟨j, a1, a2, a3⟩ := h1 w hw
        exact ⟨j, by omega, a2, by dsimp only; rw [e91]; exact a3⟩
      · rcases Nat.lt_or_ge j i with w | w
        · obtain ⟨q, a1, a2⟩ := h2 j w hne
          exact ⟨q, a1, by dsimp only; rw [e91]; exact a2⟩
        · have : j = i := by omega
          subst this
          exact absurd e hne
    · refine zbind (hout hg3 hC2 q) ?_
      rintro ⟨o2, ρ2⟩ ⟨ho2, hg4, hC4⟩
      dsimp only at ho2 hg4 hC4 ⊢
      subst ho2
      have e91b : ρ2 91 = τ 91 := (hg4.1 91 (by decide) (by decide)).trans e91
      have hg5 : zah [90, 91] [5] σ ρ2 := hg3.tr (hg4.sub (fun k hk => by simp at hk ⊢; exact Or.inl hk) (fun _ h => h))
      rw [zck (by decide) (by omega), nI_clamp (by omega), nI_1, nI_1]
      refine hk q _ ⟨rfl, hg5.st (by simp) (by simp), hC4.g (L := [91]) (J := []) (zah.rf.st (by simp) (by simp)) (by decide), mm + 1, by omega, rfl, fun w hw => ?_, fun j hj hne => ?_⟩
      · dsimp only
        rw [zup_v, e91b]
        by_cases e2 : w = mm
        · rw [if_pos ⟨rfl, e2⟩]
          exact ⟨i, by omega, e, rfl⟩
        · rw [if_neg (fun r => e2 r.2)]
          obtain ⟨j, a1, a2, a3⟩ := h1 w (by omega)
          exact ⟨j, by omega, a2, a3⟩
      · rcases Nat.lt_or_ge j i with w | w
        · obtain ⟨q, a1, a2⟩ := h2 j w hne
          refine ⟨q, by omega, ?_⟩
          dsimp only
          rw [zup_v, e91b, if_neg (fun r => absurd r.2 (by omega))]
          exact a2
        · have : j = i := by omega
          subst this
          refine ⟨mm, by omega, ?_⟩
          dsimp only
          rw [zup_v, if_pos ⟨rfl, rfl⟩]
  have : i = 81 := by omega
  subst this
  rw [if_pos (show (81 : Int32) ≤ nI 81 by decide)]
  have hp2 : ∀ k, p k = true ↔ ∃ q, q < mm ∧ (τ 91 q &&& (nI k ^^^ (-1))) = 0 := fun k => by
    rw [hpv]
    constructor
    · rintro ⟨j, a1, a2, a3⟩
      obtain ⟨q, b1, b2⟩ := h2 j a1 a2
      exact ⟨q, b1, by rw [b2]; exact a3⟩
    · rintro ⟨q, b1, b2⟩
      obtain ⟨j, a1, a2, a3⟩ := h1 q b1
      exact ⟨j, a1, a2, by rw [← a3]; exact b2⟩
  clear hk hi q k
  refine zl (P := zP _) (fun k z => z.2 = nI k ∧ z.1 = nI (fb_ct p k)) (2 ^ n) (by omega) ⟨nI_0.symm, rfl⟩ ?_
  rintro k i ⟨x, y⟩ hi ⟨hy, hx⟩ hk
  dsimp only at hx hy ⊢
  subst hx hy
  unfold m_X10_forced_b70
  have hR := h.g hg (by decide)
  rw [show (1200 : Int32) = nI 1200 from rfl, zck (by decide) (by decide), hR.2.2.2.1, hR.2.2.2.2.2.1, show (1 : Int32) <<< (nI n &&& 31) = nI (2 ^ n) from zbit_n hn]
  rcases Nat.lt_or_ge i (2 ^ n) with q | q
  · rw [if_neg (znle (by omega) (by omega) q)]
    refine zl (P := zP _) (fun w z => z.2 = nI w ∧ ∃ b, z.1 = bI b ∧ (b = true ↔ ∃ q, q < w ∧ (τ 91 q &&& (nI i ^^^ (-1))) = 0)) mm (by omega) ⟨nI_0.symm, false, rfl, by simp⟩ ?_
    rintro k2 w ⟨x, y⟩ hw ⟨hy, b, hx, hb⟩ hk2
    dsimp only at hx hy ⊢
    subst hx hy
    unfold m_X10_forced_b91
    rcases Nat.lt_or_ge w mm with u | u
    · rw [if_neg (znle (by omega) (by omega) u)]
      have nx : ∀ d : Bool, (d = true ↔ (b = true ∨ (τ 91 w &&& (nI i ^^^ (-1))) = 0)) → zP (fun u => u.1 = nI (fb_ct p (2 ^ n)) ∧ zah [90, 91] [5] σ u.2 ∧ zC a n v u.2) (k2 (bI d, nI w + 1)) := by
        intro d hd
        rw [nI_1]
        refine hk2 u _ ⟨rfl, d, rfl, ?_⟩
        rw [hd, hb]
        constructor
        · rintro (⟨q, a1, a2⟩ | a2)
          · exact ⟨q, by omega, a2⟩
          · exact ⟨w, by omega, a2⟩
        · rintro ⟨q, a1, a2⟩
          rcases Nat.lt_or_ge q w with e | e
          · exact Or.inl ⟨q, e, a2⟩
          · have : q = w := by omega
            subst this
            exact Or.inr a2
      cases b
      · rw [if_pos zbIf, zck (by decide) (by omega), nI_clamp (by omega)]
        refine zite (fun e => nx true ⟨fun _ => Or.inr e, fun _ => rfl⟩) (fun e => nx false ⟨fun h => absurd h (by decide), fun h => h.elim id (fun q => absurd q e)⟩)
      · rw [if_neg zbIt]
        exact nx true (by simp)
    · have : w = mm := by omega
      subst this
      rw [if_pos (zle (by omega) (by omega) u), nI_1]
      have hpb : p i = b := Bool.eq_iff_iff.mpr ((hp2 i).trans hb.symm)
      cases b
      · rw [if_pos zbIf]
        refine hk q _ ⟨rfl, ?_⟩
        dsimp only
        rw [fb_ct_succ, hpb]
        exact Int32.add_zero _
      · rw [if_neg zbIt, nI_1]
        refine hk q _ ⟨rfl, ?_⟩
        dsimp only
        rw [fb_ct_succ, hpb]
        rfl
  · have : i = 2 ^ n := by omega
    subst this
    rw [if_pos (zle (by omega) (by omega) q)]
    exact zP_some ⟨rfl, hg, hC⟩
theorem s_forced (H : INV a σ) (x y : Int32) : ∃ r σ1 σ2, m_X9_forced σ x y = some (r, σ1) ∧ m_X10_forced σ1 x y = some (r, σ2) ∧ INV a σ2 := by
  obtain ⟨n, hW, hR, hC, hr⟩ := H.zR
  have hn := hW.1
  have h81 := za_81 H.1.2.1
  unfold m_X9_forced
  rw [z_isQuestion H.1 hR.1]
  by_cases hall : (zin x (2 ^ a) && zin y n) = false
  · refine ⟨-1, σ, σ, by rw [hall, if_pos zbIf], ?_, H⟩
    unfold m_X10_forced
    rw [r_isCoalition hr, r_isState hr]
    cases h1 : zin x (2 ^ a)
    · rw [if_pos zbIf]
    · rw [if_neg zbIt, Option.bind_some]
      rw [h1, Bool.true_and] at hall
      rw [hall, if_pos zbIf]
  rw [Bool.not_eq_false, Bool.and_eq_true] at hall
  obtain ⟨hx, hy⟩ := hall
  obtain ⟨c, hc, rfl⟩ := zin_t (by omega) hx
  obtain ⟨s, hs, rfl⟩ := zin_t (by omega) hy
  rw [hx, hy, Bool.true_and, if_neg zbIt]
  obtain ⟨⟨o, σ1⟩, e1, ho, hg⟩ := z_countForced H.1 hW hR hc hs
  have hr1 := hr.ag hg (by decide)
  obtain ⟨⟨o2, σ2⟩, e2, ho2, hg2, hC2⟩ := r_forced hr1 (hC.ag hg (by decide)) hc hs
  dsimp only at ho hg ho2 hg2 hC2
  exact ⟨o, σ1, σ2, by rw [e1]; rfl, by rw [e2, ho2, ho], (H.c2 hg (by decide)).r2 hr1.2.2.2.1 hW hg2 (by decide) (by decide) hC2⟩
/-! formulas -/
def zwh (v : Nat → Int32) (a n : Nat) (f : zFd) (len : Nat) : Int32 := zev v a n f len (len - 1)
theorem z_top {len : Nat} (h : 1 ≤ len) (h2 : len ≤ 60) : nI len - 1 = nI (len - 1) := pk_sub (b := 1) h
theorem z_whole {n : Nat} {v : Nat → Int32} (hK : zK a σ) (hW : zWF a n v) (hR : zRS a n v σ 0) {t len : Nat} {f : zFd} (ht : isF t = true) (hf : zFok a len f) (hc : zFc σ t len f) :
    zP (fun u => u.1 = zwh v a n f len ∧ zag [72, 79, 80] σ u.2) (m_X3_whole σ t) := by
  have hnL : ∀ k, 25 ≤ k → k < 65 → k ∉ [72, 79, 80] := fun k h1 h2 h => by simp at h; omega
  have h1 := hf.1
  have h2 := hf.2.1
  unfold m_X3_whole
  refine zbind (z_look hK hW hR ht hf hc) ?_
  rintro τ ⟨hg, hd⟩
  refine zP_some ⟨?_, hg⟩
  unfold m_X3_setOf
  dsimp only
  rw [(hc.g ht hg hnL).1, z_top h1 h2, zrA (by decide) (by omega)]
  exact hd _ (by omega)
theorem r_whole {n : Nat} {v : Nat → Int32} (h : zR a n v σ) (hC : zC a n v σ) {i len : Nat} {f : zFd} (hi : i < 9) (hf : zFok a len f) (hr : zFr σ i len f) :
    zP (fun u => u.1 = zwh v a n f len ∧ zah [90, 107, 108] [5, 29] σ u.2 ∧ zC a n v u.2) (m_X10_whole σ (nI i)) := by
  have h1 := hf.1
  have h2 := hf.2.1
  unfold m_X10_whole
  refine zbind (r_works h hC hi hf hr) ?_
  rintro τ ⟨hg, hb, hC, hd⟩
  rw [zck (by decide) hi, nI_clamp (by omega), (hr.g hg (by decide)).1, z_top h1 h2, zck (by decide) (by omega), nI_clamp (by omega)]
  exact zP_some ⟨hd _ (by omega), hg, hC⟩
theorem s_where (H : INV a σ) (x y : Int32) : ∃ r σ1 σ2, m_X9_where σ x y = some (r, σ1) ∧ m_X10_where σ1 x y = some (r, σ2) ∧ INV a σ2 := by
  obtain ⟨n, hW, hR, hC, hr⟩ := H.zR
  unfold m_X9_where
  rcases s_formulaOf H x with ⟨i, len, f, hi, rfl, f1, f2, f3, ht, e1, e2⟩ | ⟨e1, e2⟩
  · have l1 := f1.1
    have l2 := f1.2.1
    rw [e1, Option.bind_some, zoFm ht, f2.1]
    refine zin_any (x := y) (n := len) (by omega) ?_ ?_
    · rintro p hp rfl
      rw [if_neg (nI_pos (by omega)), if_pos (zlt (by omega) (by omega) hp)]
      obtain ⟨σ1, q1, hg, hd⟩ := z_look H.1 hW hR ht f1 f2
      have hr1 := hr.ag hg (by decide)
      have f31 := f3.ag hg (by decide)
      have H1 : INV a σ1 := H.c2 hg (by decide)
      obtain ⟨σ2, q2, hg2, hb2, hC2, hd2⟩ := r_works hr1 (hC.ag hg (by decide)) (show i < 9 by omega) f1 f31
      refine ⟨_, σ1, σ2, by rw [q1]; rfl, ?_, H1.r2 hr1.2.2.2.1 hW hg2 (by decide) (by decide) hC2⟩
      have e2' : m_X10_isFormula σ1 (nI i) = true := by unfold m_X10_isFormula at e2 ⊢; rw [hg 87 (by decide)]; exact e2
      unfold m_X10_where m_X3_setOf
      rw [e2', if_neg zbIt, zck (by decide) (by omega), nI_clamp (by omega), f31.1, zin_in (by omega), zin_nI (by omega) hp, if_neg zbIt, q2, Option.bind_some, zck (by decide) (by omega), nI_clamp (by omega), zrA (by decide) (by omega), hd p hp, hd2 p hp]
    · intro h
      refine ⟨-1, σ, σ, ?_, ?_, H⟩
      · rcases zin_f h with q | q
        · rw [if_pos q]
        · by_cases w : y < 0
          · rw [if_pos w]
          · rw [if_neg w, if_neg]
            intro e
            rw [fa_lt] at e
            rw [fa_le] at q
            omega
      · unfold m_X10_where
        rw [e2, if_neg zbIt, zck (by decide) (by omega), nI_clamp (by omega), f3.1, zin_in (by omega), h, if_pos zbIf]
  · refine ⟨-1, σ, σ, by rw [e1]; rfl, ?_, H⟩
    unfold m_X10_where
    rw [e2, if_pos zbIf]
theorem s_holds (H : INV a σ) (x y : Int32) : ∃ r σ1 σ2, m_X9_holds σ x y = some (r, σ1) ∧ m_X10_holds σ1 x y = some (r, σ2) ∧ INV a σ2 := by
  obtain ⟨n, hW, hR, hC, hr⟩ := H.zR
  have hn := hW.1
  unfold m_X9_holds
  rcases s_formulaOf H x with ⟨i, len, f, hi, rfl, f1, f2, f3, ht, e1, e2⟩ | ⟨e1, e2⟩
  · rw [e1, Option.bind_some, zoFm ht, z_hasState hR.1]
    refine zin_any (x := y) (n := n) (by omega) ?_ ?_
    · rintro s hs rfl
      rw [zin_nI (by omega) hs, if_neg zbIt]
      obtain ⟨⟨o, σ1⟩, q1, ho, hg⟩ := z_whole H.1 hW hR ht f1 f2
      have hr1 := hr.ag hg (by decide)
      have f31 := f3.ag hg (by decide)
      have H1 : INV a σ1 := H.c2 hg (by decide)
      obtain ⟨⟨o2, σ2⟩, q2, ho2, hg2, hC2⟩ := r_whole hr1 (hC.ag hg (by decide)) (show i < 9 by omega) f1 f31
      dsimp only at ho hg ho2 hg2 hC2
      refine ⟨_, σ1, σ2, by rw [q1]; rfl, ?_, H1.r2 hr1.2.2.2.1 hW hg2 (by decide) (by decide) hC2⟩
      have e2' : m_X10_isFormula σ1 (nI i) = true := by unfold m_X10_isFormula at e2 ⊢; rw [hg 87 (by decide)]; exact e2
      unfold m_X10_holds
      rw [e2', if_neg zbIt, r_isState hr1, zin_nI (by omega) hs, Option.bind_some, if_neg zbIt, q2, Option.bind_some, ho, ho2]
    · intro h
      refine ⟨-1, σ, σ, by rw [h, if_pos zbIf], ?_, H⟩
      unfold m_X10_holds
      rw [e2, if_neg zbIt, r_isState hr, h, Option.bind_some, if_pos zbIf]
  · refine ⟨-1, σ, σ, by rw [e1]; rfl, ?_, H⟩
    unfold m_X10_holds
    rw [e2, if_pos zbIf]
theorem s_counter (H : INV a σ) (x y : Int32) : ∃ r σ1 σ2, m_X9_counterexample σ x y = some (r, σ1) ∧ m_X10_counterexample σ1 x y = some (r, σ2) ∧ INV a σ2 := by
  obtain ⟨n, hW, hR, hC, hr⟩ := H.zR
  have hn := hW.1
  have h2n := z_2n hn
  have hnL : ∀ k, 25 ≤ k → k < 65 → k ∉ [72, 79, 80] := fun k h1 h2 h => by simp at h; omega
  unfold m_X9_counterexample
  rcases s_formulaOf H x with ⟨i, len, f, hi, rfl, f1, f2, f3, ht, e1, e2⟩ | ⟨e1, e2⟩
  · rcases s_formulaOf H y with ⟨i', len', f', hi', rfl, f1', f2', f3', ht', e1', e2'⟩ | ⟨e1', e2'⟩
    · rw [e1, e1', Option.bind_some, Option.bind_some, zoFm ht, zoFm ht']
      obtain ⟨⟨o, σ1⟩, q1, ho, hg⟩ := z_whole H.1 hW hR ht f1 f2
      dsimp only at ho hg
      obtain ⟨⟨o', σ1'⟩, q1', ho', hg'⟩ := z_whole (H.1.g hg (by decide)) hW (hR.g hg (by decide)) ht' f1' (f2'.g ht' hg hnL)
      dsimp only at ho' hg'
      have hgg := hg.tr hg'
      have hr1 := hr.ag hgg (by decide)
      have H1 : INV a σ1' := H.c2 hgg (by decide)
      obtain ⟨⟨o2, σ2⟩, q2, ho2, hg2, hC2⟩ := r_whole hr1 (hC.ag hgg (by decide)) (show i < 9 by omega) f1 (f3.ag hgg (by decide))
      dsimp only at ho2 hg2 hC2
      have hr2 := hr1.g hg2 (by decide)
      obtain ⟨⟨o3, σ3⟩, q3, ho3, hg3, hC3⟩ := r_whole hr2 hC2 (show i' < 9 by omega) f1' ((f3'.ag hgg (by decide)).g hg2 (by decide))
      dsimp only at ho3 hg3 hC3
      have H3 : INV a σ3 := H1.r2 hr1.2.2.2.1 hW (hg2.tr hg3) (by decide) (by decide) hC3
      have i1 : m_X10_isFormula σ1' (nI i) = true := by unfold m_X10_isFormula at e2 ⊢; rw [hgg 87 (by decide)]; exact e2
      have i2 : m_X10_isFormula σ1' (nI i') = true := by unfold m_X10_isFormula at e2' ⊢; rw [hgg 87 (by decide)]; exact e2'
      rw [q1, Option.bind_some, q1', Option.bind_some]
      unfold m_X10_counterexample
      dsimp only
      subst ho ho' ho2 ho3
      have hd : zsb (zwh (σ 88) a n f len &&& (zwh (σ 88) a n f' len' ^^^ (-1))) (zall n) := zsb_and.tr (zev_in hn f1 len (Nat.le_refl _) _)
      obtain ⟨d, hd1, hd2⟩ := zin_t (by omega) ((z_set hn).mp ((zsb_iff _ _).mpr hd))
      have key : (if (zwh (σ 88) a n f len &&& (zwh (σ 88) a n f' len' ^^^ (-1))) = 0 then (-9 : Int32) else m_J6_numberOfTrailingZeros_0f7a4 (zwh (σ 88) a n f len &&& (zwh (σ 88) a n f' len' ^^^ (-1)))) = zfs (fun i => bt (zwh (σ 88) a n f len &&& (zwh (σ 88) a n f' len' ^^^ (-1))) i) n 0 := by
        rw [zfs_cut (N := n) (M := 12) hn (fun k h1 h2 => by
          cases e : bt (zwh (σ 88) a n f len &&& (zwh (σ 88) a n f' len' ^^^ (-1))) k
          · rfl
          · have := hd k (by omega) e
            rw [zall_bt hn (by omega)] at this
            exact absurd (of_decide_eq_true this) (by omega))]
        rw [hd2]
        by_cases e : d = 0
        · subst e
          rw [if_pos (show nI 0 = 0 from rfl), zfs_no (fun k _ _ => by rw [show nI 0 = 0 from rfl, b_0])]
        · rw [if_neg (zne0 (by omega) e), z_ntz (by omega) e]
      have hl : m_X10_counterexample σ1' (nI i) (nI i') = some (zfs (fun i => bt (zwh (σ 88) a n f len &&& (zwh (σ 88) a n f' len' ^^^ (-1))) i) n 0, σ3) := by
        unfold m_X10_counterexample
        rw [i1, i2, if_neg zbIt, if_neg zbIt, q2, Option.bind_some]
        dsimp only
        rw [q3, Option.bind_some]
        dsimp only
        have hr3 := hr2.g hg3 (by decide)
        generalize hp : (fun i => bt (zwh (σ 88) a n f len &&& (zwh (σ 88) a n f' len' ^^^ (-1))) i) = p
        generalize hD : (zwh (σ 88) a n f len &&& (zwh (σ 88) a n f' len' ^^^ (-1))) = D
        have hpv : ∀ i, p i = bt D i := fun i => by rw [← hp, ← hD]
        refine zl (P := fun q => q = some (zfs p n 0, σ3)) (fun i z => z = nI i ∧ ∀ j, j < i → p j = false) n (by omega) ⟨nI_0.symm, fun j hj => absurd hj (Nat.not_lt_zero j)⟩ ?_
        rintro k j z hj ⟨rfl, hdj⟩ hk
        unfold m_X10_counterexample_b37
        rw [show (1200 : Int32) = nI 1200 from rfl, zck (by decide) (by decide), hr3.2.2.2.1, hW.2.1]
        rcases Nat.lt_or_ge j n with q | q
        · rw [if_neg (znle (by omega) (by omega) q), zsh1 _ (by omega)]
          cases e : bt D j
          · rw [if_neg (by decide), nI_1]
            refine hk q _ ⟨rfl, fun l hl => ?_⟩
            rcases Nat.lt_or_ge l j with w | w
            · exact hdj l w
            · have : l = j := by omega
              subst this
              rw [hpv]; exact e
          · rw [if_pos (by decide), zfs_hit (Nat.zero_le _) (by omega) (by rw [hpv]; exact e) (fun l _ hl => hdj l hl)]
        · have : j = n := by omega
          subst this
          rw [if_pos (zle (by omega) (by omega) q), zfs_no (fun l _ hl => hdj l (by omega))]
      rw [← key] at hl
      unfold m_X10_counterexample at hl
      refine ⟨_, σ1', σ3, ?_, hl, H3⟩
      split
      · rfl
      · rfl
    · refine ⟨-1, σ, σ, by rw [e1, e1', Option.bind_some, Option.bind_some, zoFm ht]; rfl, ?_, H⟩
      unfold m_X10_counterexample
      rw [e2, e2', if_neg zbIt, if_pos zbIf]
  · have : ∃ o, m_X9_formulaOf σ y = some o := by
      rcases s_formulaOf H y with ⟨i', len', f', hi', rfl, f1', f2', f3', ht', e1', e2'⟩ | ⟨e1', e2'⟩
      · exact ⟨_, e1'⟩
      · exact ⟨_, e1'⟩
    obtain ⟨o, ho⟩ := this
    refine ⟨-1, σ, σ, by rw [e1, ho]; rfl, ?_, H⟩
    unfold m_X10_counterexample
    rw [e2, if_pos zbIf]
end SA
