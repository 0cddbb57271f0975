/-! EDITS ARE UNDONE, one by one -/
theorem zh1_4 {h : Nat} (hh : h ≤ 4) : zh1 (zh1 (zh1 (zh1 h))) = 4 := by
  have : h = 0 ∨ h = 1 ∨ h = 2 ∨ h = 3 ∨ h = 4 := by omega
  rcases this with rfl | rfl | rfl | rfl | rfl <;> rfl
theorem zpush_4 {h : Nat} (hh : h ≤ 4) (P : Nat → Nat → Int32) (v0 v1 v2 v3 : Nat → Int32) : zpush (zpush (zpush (zpush P h v0) (zh1 h) v1) (zh1 (zh1 h)) v2) (zh1 (zh1 (zh1 h))) v3 0 = v0 := by
  have : h = 0 ∨ h = 1 ∨ h = 2 ∨ h = 3 ∨ h = 4 := by omega
  rcases this with rfl | rfl | rfl | rfl | rfl <;> simp [zpush, zh1]
section LU
variable {a n m : Nat} {σ : St}
theorem l_undoes {h : Nat} {v : Nat → Int32} {P : Nat → Nat → Int32} (H : PI a n v h P m σ) (h0 : 0 < n) (hL : ∀ s, s < n → bt (v (100 * s)) 2 = false) (q : Int32) : zP (fun u => u.1 = true ∧ (∃ P', PI a n v 0 P' m u.2) ∧ zag eL σ u.2) (m_L_undoes σ (nI a) (nI n) q) := by
  obtain ⟨hK, hW, hR, hh, -⟩ := id H
  have hn := hW.1
  have ha := hK.2.1
  have ha1 := hK.1
  unfold m_L_undoes
  refine zbe (q_fingerprint H) ?_
  obtain ⟨s, hs, es⟩ := l_up q h0 (show n < 2 ^ 31 by omega)
  refine zbe es ?_
  obtain ⟨i, hi, ei⟩ := l_up (q >>> ((3 : Int32) &&& 31)) (q := a) (by omega) (by omega)
  refine zbe ei ?_
  obtain ⟨w1, hw1⟩ : ∃ w : Nat → Int32, ∀ r, w r = if 100 * s + 10 ≤ r ∧ r < 100 * s + 91 then nI s else if r = 100 * s + 1 + i then nI 2 else v r := ⟨_, fun _ => rfl⟩
  refine zbind (q_setActions H hs hi (q := 2) (by decide) (by decide) hw1) ?_
  rintro ⟨o1, σ1⟩ ⟨ho1, H1, hg1⟩
  dsimp only at ho1 H1 hg1 ⊢
  have hac := hW.ac hs hi
  rw [hac.1] at ho1
  refine zif (by rw [ho1]; exact znlt (b := 1) (by omega) (by decide) hac.2.1) ?_
  obtain ⟨t, ht, et⟩ := l_up (q >>> ((5 : Int32) &&& 31)) h0 (show n < 2 ^ 31 by omega)
  refine zbe et ?_
  have hc2 : 1 < zac w1 s i := by
    have : zac w1 s i = 2 := by
      unfold zac
      rw [hw1, if_neg (by omega), if_pos rfl]
      exact nI_clamp (by decide)
    omega
  refine zbind (q_setAll (c := 1) H1 hs hi hc2 ht) ?_
  rintro ⟨o2, σ2⟩ ⟨⟨r2, hr2, ho2⟩, ⟨w2, H2, hw2⟩, hg2⟩
  dsimp only at ho2 H2 hg2 ⊢
  have hg2 := hg1.tr hg2
  refine zif (by rw [ho2]; exact nI_pos (by omega)) ?_
  refine zbind (q_label H2 hs (l := 2) (by decide) 1 (y := 99) rfl rfl) ?_
  rintro ⟨o3, σ3⟩ ⟨ho3, H3, hg3⟩
  dsimp only at ho3 H3 hg3 ⊢
  have hg3 := hg2.tr hg3
  have hz : bt (w2 (100 * s)) 2 = false := by
    rw [hw2 s hs, hw1, if_neg (by omega), if_neg (by omega)]
    exact hL s hs
  rw [hz] at ho3
  refine zit ho3 ?_
  refine zbind (q_plan (q := 1) H3 hs hi (by decide)) ?_
  rintro ⟨o4, σ4⟩ ⟨ho4, H4, hg4⟩
  dsimp only at ho4 H4 hg4 ⊢
  have hg4 := hg3.tr hg4
  have hpl := (H3.2.1.pl hs hi)
  rw [hpl.1] at ho4
  refine zit (by rw [ho4]; exact nI_pos' (by omega)) ?_
  rw [zh1_4 hh] at H4
  have hp0 := fun v3 => zpush_4 hh P v w1 w2 v3
  generalize hQ : zpush (zpush (zpush (zpush P h v) (zh1 h) w1) (zh1 (zh1 h)) w2) (zh1 (zh1 (zh1 h))) _ = Q at H4
  have hQ0 : Q 0 = v := by rw [← hQ]; exact hp0 _
  refine zl (P := zP _) (fun k z => z.2 = nI k ∧ zag eL σ z.1 ∧ ∃ n' w, PI a n' w (4 - k) Q m z.1 ∧ (k ≠ 0 → w = Q (4 - k))) 4 (by decide) ⟨nI_0.symm, hg4, n, _, H4, fun q => absurd rfl q⟩ ?_
  rintro kk k ⟨τ, x⟩ hk ⟨hx, hg, n', w, Hτ, hwk⟩ hkk
  dsimp only at hx hg Hτ ⊢
  subst hx
  unfold m_L_undoes_b83
  rcases Nat.lt_or_ge k 4 with u | u
  · rw [if_neg (show ¬ (4 : Int32) ≤ nI k from znle (a := 4) (by decide) (by omega) u)]
    refine zbind (q_undo Hτ (by omega)) ?_
    rintro ⟨o, ρ⟩ ⟨ho, ⟨n2, H5⟩, hg5⟩
    dsimp only at ho H5 hg5 ⊢
    rw [ho, if_pos (nI_pos' (by omega)), nI_1]
    have e : 4 - k - 1 = 4 - (k + 1) := by omega
    rw [e] at H5
    exact hkk u _ ⟨rfl, hg.tr hg5, n2, _, H5, fun _ => rfl⟩
  · have : k = 4 := by omega
    subst this
    rw [if_pos (show (4 : Int32) ≤ nI 4 by decide)]
    have hwv : w = v := (hwk (by decide)).trans hQ0
    subst hwv
    have hnn : n' = n := Hτ.2.1.n_eq hW
    subst hnn
    have Hτ : PI a n' w 0 Q m τ := Hτ
    rw [q_fingerprint Hτ, Option.bind_some, lg_cmp_self, if_pos rfl, q_undo0 Hτ, Option.bind_some, if_pos rfl]
    exact zP_some ⟨rfl, ⟨Q, Hτ⟩, hg⟩
end LU
/-! THE LAW from the new object on -/
section LL
variable {a n : Nat} {σ : St}
theorem l_law {b L : Nat} {xs : Nat → Int32} {v : Nat → Int32} {P : Nat → Nat → Int32} (H : PI a 0 v 0 P 0 σ) (hT : tx σ []) (ha3 : a ≤ 3) (h1 : 1 ≤ n) (hn5 : n ≤ 5) : ∃ o, m_L_law σ b L xs (nI a) (nI n) = some o ∧ o.1 = true := by
  show zP (fun o => o.1 = true) (m_L_law σ b L xs (nI a) (nI n))
  have ha1 := H.1.1
  have h2a := z_2n (show a ≤ 12 by omega)
  have ea : (1 : Int32) <<< (nI a &&& 31) = nI (2 ^ a) := zbit_n (by omega)
  have hTe : (73 : Nat) ∉ eL ∧ (74 : Nat) ∉ eL := by decide
  unfold m_L_law
  refine zit (q_agents H) ?_
  refine zbe (q_undo0 H) (zit rfl ?_)
  refine zbind (l_builds (b := b) (L := L) (xs := xs) ha3 hn5 H) ?_
  rintro ⟨o1, σ1⟩ ⟨ho1, ⟨v1, h1', P1, H1, hL1⟩, hg1⟩
  dsimp only at ho1 H1 hg1 ⊢
  subst ho1
  refine zif zbIt ?_
  have T1 := hT.g hg1 hTe
  refine zbind (l_fails H1 h1) ?_
  rintro ⟨o2, σ2⟩ ⟨ho2, hg2⟩
  dsimp only at ho2 hg2 ⊢
  subst ho2
  refine zif zbIt ?_
  have H2 := H1.cl hg2 (by decide)
  have T2 := T1.g hg2 (by decide)
  refine zl (P := zP _) (fun k z => z.2 = nI k ∧ tx z.1 [] ∧ PI a n v1 h1' P1 0 z.1) 3 (by decide) ⟨nI_0.symm, T2, H2⟩ ?_
  rintro k1 k ⟨τ, x⟩ hk ⟨hx, hTτ, Hτ⟩ hk1
  dsimp only at hx hTτ Hτ ⊢
  subst hx
  unfold m_L_law_b74
  rcases Nat.lt_or_ge k 3 with q | q
  · rw [if_neg (show ¬ (3 : Int32) ≤ nI k from znle (a := 3) (by decide) (by omega) q), show (36 : Int32) + nI k = nI (36 + k) from nI_add 36 k, zck (by decide) (by omega)]
    refine zbind (l_steps Hτ h1 _) ?_
    rintro ⟨o3, σ3⟩ ⟨ho3, hg3⟩
    dsimp only at ho3 hg3 ⊢
    subst ho3
    refine zif zbIt ?_
    rw [nI_1]
    exact hk1 q _ ⟨rfl, hTτ.g hg3 (by decide), Hτ.cl hg3 (by decide)⟩
  rw [if_pos (show (3 : Int32) ≤ nI k from zle (a := 3) (by decide) (by omega) q)]
  refine zl (P := zP _) (fun k z => z.2 = nI k ∧ tx z.1 [] ∧ ∃ v h P, PI a n v h P k z.1 ∧ ∀ s, s < n → bt (v (100 * s)) 2 = false) 6 (by decide) ⟨nI_0.symm, hTτ, v1, h1', P1, Hτ, hL1⟩ ?_
  clear hk1 q
  rintro k1 k ⟨τ, x⟩ hk ⟨hx, hTτ, v2, h2, P2, Hτ, hL2⟩ hk1
  dsimp only at hx hTτ Hτ ⊢
  subst hx
  unfold m_L_law_b109
  rcases Nat.lt_or_ge k 6 with q | q
  · rw [if_neg (show ¬ (6 : Int32) ≤ nI k from znle (a := 6) (by decide) (by omega) q), show (40 : Int32) + nI k = nI (40 + k) from nI_add 40 k, zck (by decide) (by omega), ea]
    obtain ⟨c, hc, ec⟩ := l_up (cellF L xs (nI (40 + k))) (q := 2 ^ a) (by omega) (by omega)
    refine zbe ec ?_
    obtain ⟨g, hg, eg⟩ := l_up ((cellF L xs (nI (40 + k))) >>> ((3 : Int32) &&& 31)) (q := 4) (by decide) (by decide)
    have eg : m_L_up ((cellF L xs (nI (40 + k))) >>> ((3 : Int32) &&& 31)) 4 = some (nI g) := eg
    refine zbe eg ?_
    obtain ⟨τ2, e2, H3, T3, F3⟩ := l_reads Hτ (by omega) hc hg hTτ
    refine zbe e2 (zit rfl ?_)
    refine zbind (l_enforces H3 (Nat.lt_succ_self k) F3 hc hg ha3 _) ?_
    rintro ⟨o4, τ3⟩ ⟨ho4, ⟨v3, h3, P3, H4, hL3⟩, hg4⟩
    dsimp only at ho4 H4 hg4 ⊢
    subst ho4
    refine zif zbIt ?_
    rw [nI_1]
    exact hk1 q _ ⟨rfl, T3.g hg4 hTe, v3, h3, P3, H4, fun s hs => by rw [hL3 s hs]; exact hL2 s hs⟩
  have : k = 6 := by omega
  subst this
  rw [if_pos (show (6 : Int32) ≤ nI 6 by decide)]
  refine zbind (q_classes Hτ) ?_
  rintro ⟨o5, τ4⟩ ⟨hg5, K, hK, ho5⟩
  dsimp only at hg5 ho5 ⊢
  have hzo := zdv_ok v2 a n K
  have hn12 := Hτ.2.1.1
  refine zl (P := zP _) (fun k z => z.2 = nI k ∧ tx z.1 [] ∧ PI a n v2 h2 P2 6 z.1) n (by omega) ⟨nI_0.symm, hTτ.g hg5 (by decide), Hτ.cl hg5 (by decide)⟩ ?_
  clear hk1 q hk
  rintro k1 k ⟨τ, x⟩ hk ⟨hx, hTτ, Hτ⟩ hk1
  dsimp only at hx hTτ Hτ ⊢
  subst hx
  unfold m_L_law_b197
  rcases Nat.lt_or_ge k n with q | q
  · rw [if_neg (znle (by omega) (by omega) q)]
    have hlt := hzo.2 k q
    have hle := zdv_le v2 a n K k q
    have one : ∀ {τ : St}, PI a n v2 h2 P2 6 τ → zP (fun u => zag [83, 84, 85, 86] τ u.2 ∧ u.1 = nI ((zdv v2 a n K).2 k)) (m_X9_classOf τ (nI k)) := fun H => zP_mono (q_classOf H q) (fun u hu => by
      obtain ⟨hg, K', hK', ho⟩ := hu
      rw [zDe_u hK' hK] at ho
      exact ⟨hg, ho⟩)
    refine zbind (one Hτ) ?_
    rintro ⟨c1, t1⟩ ⟨g1, c1e⟩
    dsimp only at g1 c1e ⊢
    rw [c1e, if_neg (nI_pos (by omega))]
    have G1 := Hτ.cl g1 (by decide)
    refine zbind (one G1) ?_
    rintro ⟨c2, t2⟩ ⟨g2, c2e⟩
    dsimp only at g2 c2e ⊢
    rw [c2e, ho5, if_neg (znle (by omega) (by omega) hlt)]
    have G2 := G1.cl g2 (by decide)
    refine zbind (one G2) ?_
    rintro ⟨c3, t3⟩ ⟨g3, c3e⟩
    dsimp only at g3 c3e ⊢
    rw [c3e, if_pos (zle (by omega) (by omega) hle), nI_1]
    exact hk1 q _ ⟨rfl, ((hTτ.g g1 (by decide)).g g2 (by decide)).g g3 (by decide), G2.cl g3 (by decide)⟩
  · have : k = n := by omega
    subst this
    rw [if_pos (zle (by omega) (by omega) q)]
    refine zit (q_formulas Hτ) ?_
    rw [show (46 : Int32) = nI 46 from rfl, zck (by decide) (by decide)]
    refine zbind (l_undoes Hτ (by omega) hL2 _) ?_
    rintro ⟨o6, t6⟩ ⟨ho6, ⟨P6, H6⟩, hg6⟩
    dsimp only at ho6 H6 hg6 ⊢
    subst ho6
    refine zif zbIt ?_
    obtain ⟨f1, f2⟩ := q_forget H6
    refine zit f1 ?_
    refine zbind (l_fails f2 (by omega)) ?_
    rintro ⟨o7, t7⟩ ⟨ho7, hg7⟩
    dsimp only at ho7 hg7 ⊢
    subst ho7
    exact zif zbIt (zP_some rfl)
end LL
