theorem nI_any (x : Int32) : ∃ k, x = nI k := ⟨x.toBitVec.toNat, by
  apply Int32.toBitVec_inj.1
  unfold nI
  simp⟩
section RT
variable {a m l : Nat} {T : Nat → Nat} {σ σr : St}
theorem zrS.s27 {Ls : List zLv} {len i w : Nat} {f : zFd} {σ2 : St} (h : zrS m σr σ2 Ls len f i w) (v : Nat) : zrS m σr (up σ2 87 27 (nI v)) Ls len f v w := by
  obtain ⟨hm, h1, h2, h3, h4, h5, h6, h7, h8, h9⟩ := h
  refine ⟨hm, h1.u (by omega), ?_, ⟨?_, ?_⟩, ?_, ?_, ?_, ?_, zup_ss _ _ _ _, ?_⟩
  · rw [zup_sn (by decide)]; exact h2
  · rw [zup_sn (by decide)]; exact h3.1
  · rw [zup_n (by decide), zup_n (by decide), zup_n (by decide), zup_n (by decide)]; exact h3.2
  · rw [zup_sn (by decide)]; exact h4
  · rw [zup_sn (by decide)]; exact h5
  · rw [zup_n (by decide), zup_n (by decide)]; exact h6
  · exact h7.g (fun k j a b c => by rw [zup_n (by omega)])
  · rw [zup_sn (by decide)]; exact h9
theorem z_par (hX : zTx a m l T σ σr) (e14 : σr 87 14 = nI m) : zOut a m σ σr (m_X4_parse σ (25 + 5 * m)) (m_X10_parses σr) := by
  have hm : m < 8 := hX.2.2.2.1
  have hl : l ≤ 60 := hX.1
  let f0 : zFd := (fun _ => 0, fun _ => 0, fun _ => 0, fun _ => 0)
  have hc : zcS m σ (up (up (up (up (up σ 73 11 (nI (25 + 5 * m))) (25 + 5 * m) 4 0) 73 6 0) 73 7 0) 73 8 0) [] [] 0 f0 0 := by
    refine ⟨hm, ?_, ?_, trivial, ?_, trivial, ?_, ⟨?_, fun p hp => absurd hp (Nat.not_lt_zero p)⟩, Nat.le_refl _, by decide, zup_ss _ _ _ _⟩
    · refine (((zcf.tr (zcf.rf.u (k := 73) (j := 11) (v := nI (25 + 5 * m)) (by omega)) ⟨fun k a b c d e => zup_n (by omega), ?_, ?_⟩).u (by omega)).u (by omega)).u (by omega)
      · rw [zup_n (by omega)]
      · rw [zup_n (by omega)]
    · rw [zup_sn (by decide), zup_sn (by decide), zup_ss]; rfl
    · rw [zup_sn (by decide), zup_ss]; rfl
    · rw [zup_sn (by decide), zup_sn (by decide), zup_sn (by decide), zup_n (by omega), zup_ss]
    · rw [zup_n (by omega), zup_n (by omega), zup_n (by omega), zup_ss]; rfl
  obtain ⟨i0, hi0⟩ := nI_any (σr 87 27)
  obtain ⟨w0, hw0⟩ := nI_any (σr 87 28)
  have hr : zrS m σr (up (up (up σr 87 15 0) 87 26 0) 87 23 (-1)) [] 0 f0 i0 w0 := by
    refine ⟨hm, ((zqf.rf.u (by omega)).u (by omega)).u (by omega), ?_, ⟨?_, fun p hp => absurd hp (Nat.not_lt_zero p)⟩, ?_, ?_, trivial, trivial, ?_, ?_⟩
    · rw [zup_sn (by decide), zup_sn (by decide), zup_sn (by decide)]; exact e14
    · rw [zup_sn (by decide), zup_sn (by decide), zup_ss]; rfl
    · rw [zup_ss]; rfl
    · rw [zup_sn (by decide), zup_ss]; rfl
    · rw [zup_sn (by decide), zup_sn (by decide), zup_sn (by decide)]; exact hi0
    · rw [zup_sn (by decide), zup_sn (by decide), zup_sn (by decide)]; exact hw0
  obtain ⟨τ, r1, r2⟩ := z_opens hr (by decide) (fr := 0) (by decide) 0 0
  have r1 : m_X10_opens (up (up (up σr 87 15 0) 87 26 0) 87 23 (-1)) 0 0 0 = some τ := r1
  have hr0 : zR0 a m σ σr (up (up (up (up (up σ 73 11 (nI (25 + 5 * m))) (25 + 5 * m) 4 0) 73 6 0) 73 7 0) 73 8 0) (up (up τ 87 27 0) 87 28 0) [(0, 0, 0, 0, none, none, [])] 0 f0 0 :=
    ⟨hc, (r2.s27 0).u8 0, ⟨by decide, fun _ => rfl, fun q => absurd q (by decide), fun q => absurd q (by decide), fun x q => (by cases q), fun x q => (by cases q), fun x q => absurd q (by simp), fun _ => rfl, trivial⟩, fun p hp => absurd hp (Nat.not_lt_zero p), by simp, by decide⟩
  have := (z_rd hX l 0 (by omega) (Nat.zero_le _)).1 _ _ _ _ _ cFu cFu hr0 (by unfold cFu; omega) (by unfold cFu; omega)
  unfold m_X4_parse m_X10_parses
  rw [zup_ss, nI_isF (z_isF hm), zoFm (z_isF hm), r1, Option.bind_some]
  exact this
end RT
section SR
variable {a : Nat} {σ : St}
theorem INV.rd {τ : St} (H : INV a σ) (e : ∀ k, k < 25 ∨ k = 67 ∨ k = 70 ∨ k = 71 ∨ k = 88 ∨ k = 89 ∨ k = 90 → τ k = σ k) (e73 : τ 73 0 = σ 73 0) (e7 : ∀ j, j = 0 ∨ j = 3 ∨ j = 5 → τ 87 j = σ 87 j) (hT : zT τ) (hF : zFs a τ) : INV a τ := by
  obtain ⟨hK, ⟨n, hW, hR, hC⟩, ⟨h, hh, hH, h3⟩, -, -⟩ := H
  have e88 : τ 88 = σ 88 := e 88 (by omega)
  refine ⟨hK.ag (e 0 (by omega)) (e 70 (by omega)) (e 71 (by omega)) e73 (e7 0 (by omega)), ⟨n, by rw [e88]; exact hW, ?_, ?_⟩, ⟨h, hh, ?_, by rw [e7 3 (by omega)]; exact h3⟩, hT, hF⟩
  · rw [e88]
    exact hR.ag (by rw [e 0 (by omega)]) (e 1 (by omega)) (e 2 (by omega)) (e 3 (by omega)) (e 4 (by omega))
  · rw [e88]
    unfold zC at hC ⊢
    rw [e7 5 (by omega), e 90 (by omega)]
    exact hC
  · have : zpast τ = zpast σ := by unfold zpast; rw [e 89 (by omega)]
    rw [this]
    exact hH.ag (fun k hk => e k (by omega))
theorem s_read (H : INV a σ) : ∃ r σ1 σ2, m_X9_read σ = some (r, σ1) ∧ m_X10_read σ1 = some (r, σ2) ∧ INV a σ2 := by
  obtain ⟨hK, -, -, ⟨l, hl, t1, t2, t3⟩, ⟨m, hm, f1, f2, f3⟩⟩ := id H
  unfold m_X9_read
  rw [f1, if_neg (nI_pos (by omega))]
  by_cases q : m = 8
  · subst q
    rw [if_neg (by decide)]
    refine ⟨_, _, σ, rfl, ?_, H⟩
    unfold m_X10_read
    rw [f2, if_pos (by decide)]
  have hm8 : m < 8 := by omega
  rw [if_pos (show nI m < 8 from zlt (b := 8) (by omega) (by decide) hm8), zck (by decide) hm8, nI_clamp (by omega)]
  have hX : ∀ σr : St, σr 87 8 = σ 87 8 → σr 87 0 = σ 87 0 → σr 92 = σ 92 → zTx a m l (fun i => (σ 74 i).toNatClampNeg) σ σr := by
    intro σr e8 e0 e92
    refine ⟨hl, hK.1, hK.2.1, hm8, t1, hK.2.2.2.2.2.1, fun j hj => ?_, by rw [e8]; exact t2, by rw [e0]; exact hK.2.2.2.2.2.2.1, fun j hj => ?_, fun j hj => ?_⟩
    · obtain ⟨c, c1, c2, c3, c4⟩ := t3 j hj
      dsimp only
      rw [c3, nI_clamp (by omega)]
    · obtain ⟨c, c1, c2, c3, c4⟩ := t3 j hj
      dsimp only
      rw [e92, c4, c3, nI_clamp (by omega)]
    · obtain ⟨c, c1, c2, c3, c4⟩ := t3 j hj
      dsimp only
      rw [c3, nI_clamp (by omega)]
      omega
  have old : ∀ (σ1 σ1' σ2 : St), zcf m σ σ1 → (∀ k, 25 ≤ k → k < 25 + 5 * m → σ1' k = σ1 k) → (σ1' 93 = σ1 93 ∧ σ1' 94 = σ1 94 ∧ σ1' 95 = σ1 95 ∧ σ1' 96 = σ1 96 ∧ σ1' 97 = σ1 97) → zqf m σ1' σ2 → ∀ τ : St, (∀ k, (25 ≤ k ∧ k < 25 + 5 * m) ∨ (93 ≤ k ∧ k ≤ 96) → τ k = σ2 k) → (∀ i, i < m → τ 97 i = σ2 97 i) → ∀ i, i < m → ∃ len f, zFok a len f ∧ zFc τ (25 + 5 * i) len f ∧ zFr τ i len f := by
    intro σ1 σ1' σ2 hc h1 h2 hq τ e1 e2 i hi
    obtain ⟨len, f, g1, g2, g3⟩ := f3 i hi
    refine ⟨len, f, g1, g2.e (fun k ka kb => by rw [e1 k (by omega), hq.1 k (by omega) (by omega), h1 k (by omega) (by omega), hc.1 k (by omega) (by omega) (by omega) (by omega) (by omega)]), ?_⟩
    have hlen := g1.2.1
    unfold zFr at g3 ⊢
    have c9 : ∀ k, 93 ≤ k → k ≤ 96 → ∀ p, p < len → τ k (60 * i + p) = σ k (60 * i + p) := fun k ka kb p hp => by
      rw [e1 k (by omega), hq.2.2 k _ ka kb (by omega)]
      have : σ1' k = σ1 k := by
        have : k = 93 ∨ k = 94 ∨ k = 95 ∨ k = 96 := by omega
        rcases this with rfl | rfl | rfl | rfl
        · exact h2.1
        · exact h2.2.1
        · exact h2.2.2.1
        · exact h2.2.2.2.1
      rw [this, hc.1 k (by omega) (by omega) (by omega) (by omega) (by omega)]
    refine ⟨by rw [e2 i hi, hq.1 97 (by decide) (by omega), h2.2.2.2.2, hc.1 97 (by decide) (by decide) (by decide) (by decide) (by omega)]; exact g3.1, fun p hp => ?_⟩
    rw [c9 93 (by decide) (by decide) p hp, c9 94 (by decide) (by decide) p hp, c9 95 (by decide) (by decide) p hp, c9 96 (by decide) (by decide) p hp]
    exact g3.2 p hp
  have s1 : ∀ σ1, zcf m σ σ1 → ∀ k, k < 25 ∨ (65 ≤ k ∧ k ≠ 73 ∧ k ≠ 75 ∧ k ≠ 76 ∧ k ≠ 77) → σ1 k = σ k := fun σ1 hc k hk => hc.1 k (by omega) (by omega) (by omega) (by omega) (by omega)
  rcases z_par (hX σ rfl rfl rfl) f2 with ⟨j, σ1, -, hj, c1, -, c3, -, -⟩ | ⟨σ1, -, len, f, c1, -, c3, -, -⟩
  · have e87 := s1 σ1 c1 87 (by omega)
    rcases z_par (hX σ1 (by rw [e87]) (by rw [e87]) (s1 σ1 c1 92 (by omega))) (by rw [e87]; exact f2) with ⟨j', τ1, σ2, hj', d1, d2, d3, d4, d5⟩ | ⟨τ1, σ2, len, f, d1, d2, d3, d4, d5⟩
    · rw [c3] at d3
      have d3 := Option.some.inj d3
      have ej : nI j = nI j' := (Prod.mk.inj d3).1
      refine ⟨_, σ1, σ2, by rw [c3, Option.bind_some, if_neg (nI_pos (by omega))], ?_, ?_⟩
      · unfold m_X10_read
        rw [e87, f2, if_neg (show ¬ nI m = 8 from zne (b := 8) (by omega) (by decide) q), d4, Option.bind_some, if_pos zbIf]
        dsimp only
        rw [d5, ej]
      · have e2 : ∀ k, k < 25 ∨ (65 ≤ k ∧ k < 73) ∨ k = 74 ∨ (78 ≤ k ∧ k < 87) ∨ (88 ≤ k ∧ k < 93) → σ2 k = σ k := fun k hk => by rw [d2.1 k (by omega) (by omega), s1 σ1 c1 k (by omega)]
        have e7 : ∀ j, j ≠ 15 → j ≠ 23 → j ≠ 26 → j ≠ 27 → j ≠ 28 → σ2 87 j = σ 87 j := fun j a b c d e => by rw [d2.2.1 j a b c d e, e87]
        have e73 : σ2 73 = σ1 73 := d2.1 73 (by decide) (by omega)
        refine H.rd (fun k hk => e2 k (by omega)) (by rw [e73]; exact c1.2.1) (fun j hj => e7 j (by omega) (by omega) (by omega) (by omega) (by omega)) ?_ ?_
        · exact H.2.2.2.1.ag (by rw [e73]; exact c1.2.2) (e2 74 (by omega)) (e2 92 (by omega)) (e7 8 (by decide) (by decide) (by decide) (by decide) (by decide))
        · exact ⟨m, hm, by rw [e2 65 (by omega)]; exact f1, by rw [e7 14 (by decide) (by decide) (by decide) (by decide) (by decide)]; exact f2, old σ1 σ1 σ2 c1 (fun _ _ _ => rfl) ⟨rfl, rfl, rfl, rfl, rfl⟩ d2 σ2 (fun _ _ => rfl) (fun _ _ => rfl)⟩
    · rw [c3] at d3
      exact absurd (Prod.mk.inj (Option.some.inj d3)).1 (znm1 (by omega))
  · have e65 : up σ1 73 5 0 65 8 = nI m := by rw [zup_n (by decide), s1 σ1 c1 65 (by omega)]; exact f1
    have hσ : ∃ σ1', σ1' = up (up σ1 73 5 0) 65 8 (nI (m + 1)) := ⟨_, rfl⟩
    obtain ⟨σ1', hσ⟩ := hσ
    have g1 : ∀ k, k ≠ 73 → k ≠ 65 → σ1' k = σ1 k := fun k ka kb => by rw [hσ, zup_n kb, zup_n ka]
    have e87 : σ1' 87 = σ 87 := by rw [g1 87 (by decide) (by decide)]; exact s1 σ1 c1 87 (by omega)
    have e92 : σ1' 92 = σ 92 := by rw [g1 92 (by decide) (by decide)]; exact s1 σ1 c1 92 (by omega)
    rcases z_par (hX σ1' (by rw [e87]) (by rw [e87]) e92) (by rw [e87]; exact f2) with ⟨j', τ1, σ2, hj', d1, d2, d3, d4, d5⟩ | ⟨τ1, σ2, len, f, d1, d2, d3, d4, d5, d6, d7⟩
    · rw [c3] at d3
      exact absurd (Prod.mk.inj (Option.some.inj d3)).1.symm (znm1 (by omega))
    · rw [c3] at d3
      have et : σ1 = τ1 := (Prod.mk.inj (Option.some.inj d3)).2
      subst et
      have e14 : σ2 87 14 = nI m := by rw [d2.2.1 14 (by decide) (by decide) (by decide) (by decide) (by decide), e87]; exact f2
      refine ⟨nI m, σ1', up (up (up σ2 97 m (nI len)) 87 14 (nI (m + 1))) 87 8 0, ?_, ?_, ?_⟩
      · rw [c3, Option.bind_some, if_pos (show ((-1 : Int32), σ1).1 < 0 from (by decide : (-1 : Int32) < 0))]
        dsimp only
        rw [e65, nI_1, zup_ss, zs1, hσ]
      · unfold m_X10_read
        rw [e87, f2, if_neg (show ¬ nI m = 8 from zne (b := 8) (by omega) (by decide) q), d4, Option.bind_some, if_neg zbIt]
        dsimp only
        rw [e14, zck (by decide) (by omega), nI_clamp (by omega), d7.1, show up σ2 97 m (nI len) 87 14 = nI m by rw [zup_n (by decide)]; exact e14, nI_1, zup_sn (by decide), zup_ss, zs1]
      · have e2 : ∀ k, k < 25 ∨ (66 ≤ k ∧ k < 73) ∨ k = 74 ∨ (78 ≤ k ∧ k < 87) ∨ (88 ≤ k ∧ k < 93) → σ2 k = σ k := fun k hk => by rw [d2.1 k (by omega) (by omega), g1 k (by omega) (by omega), s1 σ1 c1 k (by omega)]
        have u2 : ∀ k, k ≠ 87 → k ≠ 97 → up (up (up σ2 97 m (nI len)) 87 14 (nI (m + 1))) 87 8 0 k = σ2 k := fun k ka kb => by rw [zup_n ka, zup_n ka, zup_n kb]
        have u7 : ∀ j, j ≠ 8 → j ≠ 14 → up (up (up σ2 97 m (nI len)) 87 14 (nI (m + 1))) 87 8 0 87 j = σ2 87 j := fun j ja jb => by rw [zup_sn ja, zup_sn jb, zup_n (by decide)]
        generalize hτ : up (up (up σ2 97 m (nI len)) 87 14 (nI (m + 1))) 87 8 0 = τ at u2 u7 ⊢
        have t14 : τ 87 14 = nI (m + 1) := by rw [← hτ, zup_sn (by decide), zup_ss]
        have t8 : τ 87 8 = 0 := by rw [← hτ, zup_ss]
        have t97 : ∀ j, τ 97 j = if j = m then nI len else σ2 97 j := fun j => by
          rw [← hτ, zup_n (by decide), zup_n (by decide), zup_v]
          by_cases r : j = m
          · rw [if_pos ⟨rfl, r⟩, if_pos r]
          · rw [if_neg (fun w => r w.2), if_neg r]
        have t73 : τ 73 = σ1' 73 := by rw [u2 73 (by decide) (by decide), d2.1 73 (by decide) (by omega)]
        have g73 : ∀ j, j ≠ 5 → σ1' 73 j = σ1 73 j := fun j hj => by rw [hσ, zup_n (by decide), zup_sn hj]
        refine H.rd (fun k hk => by rw [u2 k (by omega) (by omega), e2 k (by omega)]) (by rw [t73, g73 0 (by decide)]; exact c1.2.1) (fun j hj => by rw [u7 j (by omega) (by omega), d2.2.1 j (by omega) (by omega) (by omega) (by omega) (by omega), e87]) ⟨0, Nat.zero_le _, ?_, t8, fun i hi => absurd hi (Nat.not_lt_zero i)⟩ ⟨m + 1, by omega, ?_, t14, fun i hi => ?_⟩
        · rw [t73, hσ, zup_n (by decide), zup_ss]; rfl
        · rw [u2 65 (by decide) (by decide), d2.1 65 (by decide) (by omega), hσ, zup_ss]
        · rcases Nat.lt_or_ge i m with r | r
          · exact old σ1 σ1' σ2 c1 (fun k ka kb => g1 k (by omega) (by omega)) ⟨g1 93 (by decide) (by decide), g1 94 (by decide) (by decide), g1 95 (by decide) (by decide), g1 96 (by decide) (by decide), g1 97 (by decide) (by decide)⟩ d2 τ (fun k hk => u2 k (by omega) (by omega)) (fun j hj => by rw [t97, if_neg (by omega)]) i r
          · have : i = m := by omega
            subst this
            refine ⟨len, f, d5, d6.e (fun k ka kb => by rw [u2 k (by omega) (by omega), d2.1 k (by omega) (by omega), g1 k (by omega) (by omega)]), by rw [t97, if_pos rfl], ?_⟩
            rw [u2 93 (by decide) (by decide), u2 94 (by decide) (by decide), u2 95 (by decide) (by decide), u2 96 (by decide) (by decide)]
            exact d7.2
end SR
