/-! THE STRUCTURE is built -/
theorem lab_eq (q : Int32) : ((q >>> ((10 : Int32) &&& 31)) &&& 3) = (if bt q 10 then 1 else 0) ||| (if bt q 11 then 2 else 0) := by
  have b3 : ∀ i, i < 32 → bt 3 i = decide (i < 2) := by decide +kernel
  have b1 : ∀ i, i < 32 → bt 1 i = decide (i = 0) := by decide +kernel
  have b2 : ∀ i, i < 32 → bt 2 i = decide (i = 1) := by decide +kernel
  have k1 : ∀ (b : Bool) (i : Nat), i < 32 → bt (if b = true then (1 : Int32) else 0) i = (b && decide (i = 0)) := fun b i hi => by
    cases b
    · rw [if_neg (by decide), b_0]; rfl
    · rw [if_pos rfl, b1 i hi]; rfl
  have k2 : ∀ (b : Bool) (i : Nat), i < 32 → bt (if b = true then (2 : Int32) else 0) i = (b && decide (i = 1)) := fun b i hi => by
    cases b
    · rw [if_neg (by decide), b_0]; rfl
    · rw [if_pos rfl, b2 i hi]; rfl
  apply b_ext
  intro i hi
  rw [b_and, b_or, b3 i hi, k1 _ i hi, k2 _ i hi, show (10 : Int32) &&& 31 = nI 10 &&& 31 from rfl, b_sshr 10 (by decide) q hi]
  have hc : i = 0 ∨ i = 1 ∨ 2 ≤ i := by omega
  rcases hc with rfl | rfl | h
  · rw [if_pos (by decide)]; simp
  · rw [if_pos (by decide)]; simp
  · rw [decide_eq_false (by omega), decide_eq_false (by omega), decide_eq_false (by omega)]; simp
section LB
variable {a n m : Nat} {σ : St}
/-- one row is given its moves -/
theorem l_moves {b L : Nat} {xs : Nat → Int32} {k : Nat} (ha3 : a ≤ 3) (hk : k < n) {h : Nat} {v : Nat → Int32} {P : Nat → Nat → Int32} (H : PI a n v h P m σ) (hmv : ∀ q, q < 81 → v (100 * k + 10 + q) = nI k) {k29 : St × Int32 → Option (Bool × St)} {Q : Option (Bool × St) → Prop}
    (hQ : ∀ τ w h P, PI a n w h P m τ → zag eL σ τ → (∀ j, (j < 100 * k + 10 ∨ 100 * k + 91 ≤ j) → w j = v j) → Q (k29 (τ, nI (k + 1)))) : Q (loopF (fun kk z => m_L_builds_b182 z.1 b L xs (nI a) (nI n) (nI k) z.2.1 z.2.2 k29 kk) cFu (σ, 0, 0)) := by
  have hn := H.2.1.1
  have h27 : 3 ^ a ≤ 27 := (by decide : ∀ a, a < 4 → 3 ^ a ≤ 27) a (by omega)
  generalize hp : zpm a (zac v k) = p
  have hpv : ∀ q, 3 ^ a ≤ q → p q = false := fun q hq => by
    rw [← hp]
    exact decide_eq_false fun r => absurd r.1 (by omega)
  refine zl (P := Q) (fun i z => z.2.2 = nI i ∧ z.2.1 = nI (fb_ct p i) ∧ zag eL σ z.1 ∧ ∃ w h P, PI a n w h P m z.1 ∧ (∀ j, (j < 100 * k + 10 ∨ 100 * k + 91 ≤ j) → w j = v j) ∧ ∀ q, i ≤ q → q < 81 → w (100 * k + 10 + q) = nI k) 27 (by decide) ⟨nI_0.symm, rfl, zag.rf, v, h, P, H, fun _ _ => rfl, fun q _ hq => hmv q hq⟩ ?_
  rintro kk i ⟨τ, x, y⟩ hi ⟨hy, hx, hg, w, h', P', H', hw, hm'⟩ hkk
  dsimp only at hx hy hg H' ⊢
  subst hx hy
  have hle := fb_ct_le p i
  have hpw : zpm a (zac w k) = p := by
    rw [← hp]
    funext q
    exact zpm_ext (fun j hj => zac_ext (hw _ (Or.inl (by have := H.1.2.1; omega))))
  unfold m_L_builds_b182
  rcases Nat.lt_or_ge i 27 with q | q
  · rw [if_neg (show ¬ (27 : Int32) ≤ nI i from znle (a := 27) (by decide) (by omega) q)]
    have ec := fb_ct_succ p i
    have skip : m_X9_next τ (nI k) (nI i) = -1 → p i = false → Q (if m_X9_next τ (nI k) (nI i) < 0 then kk (τ, nI (fb_ct p i), nI i + 1) else chk (8 + nI i) 2147483647 <| (m_L_up ((cellF L xs (8 + nI i)) >>> ((3 * nI k) &&& 31)) (nI n)).bind fun u11 => if m_X9_next τ (nI k) (nI i) = nI k then (m_X9_setMove τ (nI k) (nI i) u11).bind fun u15 => if u15.1 = nI k then (if m_X9_next u15.2 (nI k) (nI i) = u11 then kk (u15.2, nI (fb_ct p i) + 1, nI i + 1) else some (false, u15.2)) else some (false, u15.2) else some (false, τ)) := by
      intro e1 e2
      rw [e1, if_pos (by decide), nI_1]
      rw [e2, if_neg (by decide), Nat.add_zero] at ec
      exact hkk q _ ⟨rfl, by dsimp only; rw [ec]; rfl, hg, w, h', P', H', hw, fun r h1 h2 => hm' r (by omega) h2⟩
    rcases Nat.lt_or_ge i (3 ^ a) with r | r
    · have en := q_next H' hk r
      rw [hpw] at en
      cases e : p i
      · rw [e, if_neg (by decide)] at en
        exact skip en e
      · rw [e, if_pos rfl] at en
        have ex : znx w k i = k := by
          unfold znx
          rw [hm' i (Nat.le_refl _) (by omega)]
          exact nI_clamp (by omega)
        rw [ex] at en
        rw [en, if_neg (nI_pos (by omega)), show (8 : Int32) + nI i = nI (8 + i) from nI_add 8 i, zck (by decide) (by omega)]
        obtain ⟨t, ht, et⟩ := l_up ((cellF L xs (nI (8 + i))) >>> ((3 * nI k) &&& 31)) (q := n) (by omega) (by omega)
        refine zbe et (zit rfl ?_)
        refine zbind (q_setMove H' hk (k := i) (by rw [hpw]; exact e) ht) ?_
        rintro ⟨o, ρ⟩ ⟨ho, H2, hg2⟩
        dsimp only at ho H2 hg2 ⊢
        rw [ex] at ho
        refine zit ho ?_
        have en2 := q_next H2 hk r
        have hpu : zpm a (zac (upd w (100 * k + 10 + i) (nI t)) k) = p := by
          rw [← hpw]
          funext q
          exact zpm_ext (fun j hj => zac_ext (pk_un (by have := H.1.2.1; omega)))
        have ex2 : znx (upd w (100 * k + 10 + i) (nI t)) k i = t := by
          unfold znx
          rw [pk_us]
          exact nI_clamp (by omega)
        rw [hpu, e, if_pos rfl, ex2] at en2
        refine zit en2 ?_
        rw [nI_1, nI_1]
        rw [e, if_pos rfl] at ec
        refine hkk q _ ⟨rfl, by dsimp only; rw [ec], hg.tr hg2, _, _, _, H2, fun j hj => by rw [pk_un (by omega)]; exact hw j hj, fun r h1 h2 => by rw [pk_un (by omega)]; exact hm' r (by omega) h2⟩
    · exact skip (q_next_no H' (Or.inr (zin_no r (by omega)))) (hpv i r)
  · have : i = 27 := by omega
    subst this
    rw [if_pos (show (27 : Int32) ≤ nI 27 by decide)]
    refine zbe (q_moves H' hk) ?_
    have hcut : fb_ct p 27 = fb_ct p (3 ^ a) := by
      obtain ⟨d, hd⟩ := Nat.le.dest h27
      rw [← hd, fb_ct_split, fb_ct_zero.mpr (fun j _ => hpv (3 ^ a + j) (by omega)), Nat.add_zero]
    rw [hpw, hcut]
    refine zit rfl ?_
    rw [nI_1]
    exact hQ τ w h' P' H' hg hw
/-- the structure -/
theorem l_builds {b L : Nat} {xs : Nat → Int32} (ha3 : a ≤ 3) (hn5 : n ≤ 5) {h : Nat} {v : Nat → Int32} {P : Nat → Nat → Int32} (H : PI a 0 v h P m σ) : zP (fun u => u.1 = true ∧ (∃ v h P, PI a n v h P m u.2 ∧ ∀ s, s < n → bt (v (100 * s)) 2 = false) ∧ zag eL σ u.2) (m_L_builds σ b L xs (nI a) (nI n)) := by
  have ha1 := H.1.1
  unfold m_L_builds
  refine zl (P := zP _) (fun k z => z.2 = nI k ∧ zag eL σ z.1 ∧ ∃ v h P, PI a k v h P m z.1 ∧ ∀ s, s < k → FR v s) n (by omega) ⟨nI_0.symm, zag.rf, v, h, P, H, fun s hs => absurd hs (Nat.not_lt_zero s)⟩ ?_
  clear H
  rintro kk k ⟨τ, x⟩ hk ⟨hx, hg, v, h, P, H, hF⟩ hkk
  dsimp only at hx hg H ⊢
  subst hx
  unfold m_L_builds_b3
  rcases Nat.lt_or_ge k n with q | q
  · rw [if_neg (znle (by omega) (by omega) q)]
    refine zbind (q_addState H (by omega)) ?_
    rintro ⟨o, ρ⟩ ⟨ho, ⟨w, H2, hFw, hw⟩, hg2⟩
    refine zit ho ?_
    rw [nI_1]
    refine hkk q _ ⟨rfl, hg.tr hg2, w, _, _, H2, fun s hs => ?_⟩
    by_cases e : s = k
    · subst e; exact hFw
    · obtain ⟨f1, f2, f3⟩ := hF s (by omega)
      exact ⟨by rw [hw _ (by omega)]; exact f1, fun i hi => by rw [hw _ (by omega)]; exact f2 i hi, fun j hj => by rw [hw _ (by omega)]; exact f3 j hj⟩
  have : k = n := by omega
  subst this
  rw [if_pos (zle (by omega) (by omega) q)]
  clear hkk hk q
  refine zl (P := zP _) (fun i z => z.2 = nI i ∧ zag eL σ z.1 ∧ ∃ v h P, PI a k v h P m z.1 ∧ (∀ s, i ≤ s → s < k → FR v s) ∧ ∀ s, s < i → bt (v (100 * s)) 2 = false) k (by omega) ⟨nI_0.symm, hg, v, h, P, H, fun s _ hs => hF s hs, fun s hs => absurd hs (Nat.not_lt_zero s)⟩ ?_
  clear H hg hF τ
  rintro kk i ⟨τ, x⟩ hi ⟨hx, hg, v, h, P, H, hF, hL⟩ hkk
  dsimp only at hx hg H ⊢
  subst hx
  unfold m_L_builds_b29
  rcases Nat.lt_or_ge i k with q | q
  · have hkk := hkk q
    rw [if_neg (znle (by omega) (by omega) q), show (2 : Int32) + nI i = nI (2 + i) from nI_add 2 i, zck (by decide) (by omega)]
    generalize cellF L xs (nI (2 + i)) = c
    -- the actions
    refine zl (P := zP _) (fun j z => z.2 = nI j ∧ zag eL σ z.1 ∧ ∃ v h P, PI a k v h P m z.1 ∧ (∀ s, i < s → s < k → FR v s) ∧ (∀ s, s < i → bt (v (100 * s)) 2 = false) ∧ v (100 * i) = 0 ∧ (∀ r, j ≤ r → r < 4 → v (100 * i + 1 + r) = nI 1) ∧ ∀ r, r < 81 → v (100 * i + 10 + r) = nI i) a (by omega) ⟨nI_0.symm, hg, v, h, P, H, fun s h1 h2 => hF s (by omega) h2, hL, (hF i (Nat.le_refl _) q).1, fun r _ hr => (hF i (Nat.le_refl _) q).2.1 r hr, (hF i (Nat.le_refl _) q).2.2⟩ ?_
    clear H hg hF hL τ
    rintro k2 j ⟨τ, x⟩ hj ⟨hx, hg, v, h, P, H, hF, hL, hl0, hac, hnx⟩ hk2
    dsimp only at hx hg H ⊢
    subst hx
    unfold m_L_builds_b48
    rcases Nat.lt_or_ge j a with w | w
    · rw [if_neg (znle (by omega) (by omega) w)]
      obtain ⟨t, ht, et⟩ := l_up (c >>> ((2 * nI j) &&& 31)) (q := 3) (by decide) (by decide)
      have et : m_L_up (c >>> ((2 * nI j) &&& 31)) 3 = some (nI t) := et
      refine zbe et ?_
      rw [show (1 : Int32) + nI t = nI (1 + t) from nI_add 1 t]
      obtain ⟨w', hw'⟩ : ∃ w' : Nat → Int32, ∀ r, w' r = if 100 * i + 10 ≤ r ∧ r < 100 * i + 91 then nI i else if r = 100 * i + 1 + j then nI (1 + t) else v r := ⟨_, fun _ => rfl⟩
      refine zbind (q_setActions H q w (q := 1 + t) (by omega) (by omega) hw') ?_
      rintro ⟨o, ρ⟩ ⟨ho, H2, hg2⟩
      dsimp only at ho H2 hg2 ⊢
      rw [hac j (Nat.le_refl _) (by omega)] at ho
      refine zit ho ?_
      have ea := q_actions H2 q w
      rw [hw', if_neg (by omega), if_pos rfl] at ea
      refine zit ea ?_
      rw [nI_1]
      refine hk2 w _ ⟨rfl, hg.tr hg2, w', _, _, H2, fun s h1 h2 => ?_, fun s hs => ?_, ?_, fun r h1 h2 => ?_, fun r hr => ?_⟩
      · obtain ⟨f1, f2, f3⟩ := hF s h1 h2
        exact ⟨by rw [hw', if_neg (by omega), if_neg (by omega)]; exact f1, fun i hi => by rw [hw', if_neg (by omega), if_neg (by omega)]; exact f2 i hi, fun j hj => by rw [hw', if_neg (by omega), if_neg (by omega)]; exact f3 j hj⟩
      · rw [hw', if_neg (by omega), if_neg (by omega)]; exact hL s hs
      · rw [hw', if_neg (by omega), if_neg (by omega)]; exact hl0
      · rw [hw', if_neg (by omega), if_neg (by omega)]; exact hac r (by omega) h2
      · rw [hw', if_pos (by omega)]
    · rw [if_pos (show nI a ≤ nI j from zle (by omega) (by omega) w)]
      clear hk2
      -- labels and moves
      have key2 : ∀ (τ : St) (v : Nat → Int32) (h : Nat) (P : Nat → Nat → Int32) (x z : Int32), zag eL σ τ → PI a k v h P m τ → (∀ s, i < s → s < k → FR v s) → (∀ s, s < i → bt (v (100 * s)) 2 = false) → v (100 * i) = x → bt x 1 = false → (∀ r, r < 81 → v (100 * i + 10 + r) = nI i) → (if z = 0 then x &&& (zbit 1 ^^^ (-1)) else x ||| zbit 1) = ((c >>> ((10 : Int32) &&& 31)) &&& 3) → zP (fun u => u.1 = true ∧ (∃ v h P, PI a k v h P m u.2 ∧ ∀ s, s < k → bt (v (100 * s)) 2 = false) ∧ zag eL σ u.2) (m_L_builds_b152 τ b L xs (nI a) (nI k) (nI i) c z 98 (nI i) kk) := by
        intro τ v h P x z hg H hF hL hx hx1 hnx hz
        unfold m_L_builds_b152
        refine zbind (q_label H q (l := 1) (by decide) z (y := 98) rfl rfl) ?_
        rintro ⟨o, ρ⟩ ⟨ho, H2, hg2⟩
        dsimp only at ho H2 hg2 ⊢
        rw [hx] at ho H2
        rw [hz] at H2
        rw [hx1] at ho
        refine zit ho ?_
        have el := q_labels H2 q
        rw [pk_us] at el
        refine zit el ?_
        refine l_moves ha3 q H2 (fun r hr => by rw [pk_un (by omega)]; exact hnx r hr) (fun ρ2 w h P H3 hg3 hw => ?_)
        refine hkk _ ⟨rfl, (hg.tr hg2).tr hg3, w, h, P, H3, fun s h1 h2 => ?_, fun s hs => ?_⟩
        · obtain ⟨f1, f2, f3⟩ := hF s (by omega) h2
          exact ⟨by rw [hw _ (by omega), pk_un (by omega)]; exact f1, fun i hi => by rw [hw _ (by omega), pk_un (by omega)]; exact f2 i hi, fun j hj => by rw [hw _ (by omega), pk_un (by omega)]; exact f3 j hj⟩
        · rw [hw _ (by omega)]
          by_cases e : s = i
          · subst e
            rw [pk_us, b_and, (by decide : bt 3 2 = false), Bool.and_false]
          · rw [pk_un (by omega)]
            exact hL s (by omega)
      have key1 : ∀ (z : Int32), z = (if bt c 10 = true then 1 else 0) → zP (fun u => u.1 = true ∧ (∃ v h P, PI a k v h P m u.2 ∧ ∀ s, s < k → bt (v (100 * s)) 2 = false) ∧ zag eL σ u.2) (m_L_builds_b125 τ b L xs (nI a) (nI k) (nI i) c z 97 (nI i) kk) := by
        intro z hz
        unfold m_L_builds_b125
        refine zbind (q_label H q (l := 0) (by decide) z (y := 97) rfl rfl) ?_
        rintro ⟨o, ρ⟩ ⟨ho, H2, hg2⟩
        dsimp only at ho H2 hg2 ⊢
        rw [hl0, b_0] at ho
        rw [hl0] at H2
        refine zit ho ?_
        have hx : (if z = 0 then (0 : Int32) &&& (zbit 0 ^^^ (-1)) else 0 ||| zbit 0) = if bt c 10 = true then 1 else 0 := by
          rw [hz]
          cases bt c 10 <;> decide
        rw [hx] at H2
        have hk2 := fun z h1 => key2 ρ _ _ _ (if bt c 10 = true then 1 else 0) z (hg.tr hg2) H2 (fun s h1 h2 => by
          obtain ⟨f1, f2, f3⟩ := hF s h1 h2
          exact ⟨by rw [pk_un (by omega)]; exact f1, fun i hi => by rw [pk_un (by omega)]; exact f2 i hi, fun j hj => by rw [pk_un (by omega)]; exact f3 j hj⟩) (fun s hs => by rw [pk_un (by omega)]; exact hL s hs) (pk_us) (by cases bt c 10 <;> decide) (fun r hr => by rw [pk_un (by omega)]; exact hnx r hr) h1
        rw [show (11 : Int32) &&& 31 = nI 11 &&& 31 from rfl, zsh1 c (i := 11) (by decide)]
        have el := lab_eq c
        cases e : bt c 11
        · rw [if_neg (show ¬ bI false = 1 by decide)]
          refine hk2 0 ?_
          rw [el, e]
          cases bt c 10 <;> decide
        · rw [if_pos (show bI true = 1 from rfl)]
          refine hk2 1 ?_
          rw [el, e]
          cases bt c 10 <;> decide
      rw [show (10 : Int32) &&& 31 = nI 10 &&& 31 from rfl, zsh1 c (i := 10) (by decide)]
      cases e : bt c 10
      · rw [if_neg (show ¬ bI false = 1 by decide)]
        exact key1 0 (by rw [e]; rfl)
      · rw [if_pos (show bI true = 1 from rfl)]
        exact key1 1 (by rw [e]; rfl)
  · have : i = k := by omega
    subst this
    rw [if_pos (zle (by omega) (by omega) q)]
    refine zit (q_states H) ?_
    exact zP_some ⟨rfl, ⟨v, h, P, H, hL⟩, hg⟩
end LB
