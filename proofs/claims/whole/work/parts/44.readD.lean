section RT
variable {a m l i F : Nat} {T : Nat → Nat} {σc σr σ1 σ2 : St}
theorem z_st0 {Ls : List zLv} {len : Nat} {f : zFd} (hX : zTx a m l T σc σr) (h : zR0 a m σc σr σ1 σ2 Ls len f i) (hi : i < l) (hF : l - i < F) : zNx a m l σc σr (zLc m F (σ1, nI i)) (m_X10_readsUnit σ2) i := by
  obtain ⟨F, rfl⟩ : ∃ k, F = k + 1 := ⟨F - 1, by omega⟩
  obtain ⟨h1, h2, hk, ho, hn, hb⟩ := id h
  obtain ⟨x1, x2, x3, x4, x5, x6, x7, x8, x9, x10, x11⟩ := id hX
  obtain ⟨t1, t2⟩ := x11 i hi
  have hmd : σ1 73 8 = 0 := h1.2.2.2.2.2.2.2.2.2.2
  have z : ∀ {b : Nat}, b < 2 ^ 31 → ¬ T i = b → ¬ nI (T i) = nI b := fun hb q => zne (by omega) hb q
  obtain ⟨n1, n2⟩ := zO_len hk
  have h2' : zrS m σr (up σ2 87 28 0) Ls len f i 0 := h2.u8 0
  have esg := hX.sg h2.2.1 h2.2.2.2.2.2.2.2.2.1 (by omega)
  rw [if_pos hi] at esg
  unfold m_X10_readsUnit
  rw [esg, Option.bind_some]
  have agents : ∀ is, is ≤ 1 → T i = 60 + 31 * is → zNx a m l σc σr (zLc m (F + 1) (σ1, nI i)) (m_X10_readsUnit_b22 (up σ2 87 28 0)) i := by
    intro is his hT
    unfold m_X10_readsUnit_b22 m_X10_readsAgents
    rw [hX.sg h2'.2.1 h2'.2.2.2.2.2.2.2.2.1 (by omega), if_pos hi, Option.bind_some, bpe]
    have e1 : (if nI (T i) = 91 then m_X10_readsAgents_b14 (up σ2 87 28 0) 1 else m_X10_readsAgents_b14 (up σ2 87 28 0) 0) = m_X10_readsAgents_b14 (up σ2 87 28 0) (nI is) := by
      have : is = 0 ∨ is = 1 := by omega
      rcases this with rfl | rfl
      · rw [hT, if_neg (by decide)]; rfl
      · rw [hT, if_pos (by decide)]; rfl
    rw [e1]
    unfold m_X10_readsAgents_b14
    have e2 : m_X4_takeUnit σ1 (nI (T i)) = some (true, up (up (up σ1 73 9 0) 73 10 (nI (4 * is))) 73 8 1) := by
      rw [z_tu t2 (by omega)]
      have : is = 0 ∨ is = 1 := by omega
      rcases this with rfl | rfl
      · rw [hT]
        unfold m_X4_takeUnit_b22
        rw [if_neg (by decide), if_neg (by decide), if_neg (by decide), if_neg (by decide), if_pos (by decide)]
        unfold m_X4_takeUnit_b109
        rw [if_neg (by decide)]
        rfl
      · rw [hT]
        unfold m_X4_takeUnit_b22
        rw [if_neg (by decide), if_neg (by decide), if_neg (by decide), if_neg (by decide), if_neg (by decide), if_pos (by decide)]
        unfold m_X4_takeUnit_b109
        rw [if_pos (by decide)]
        rfl
    rw [hX.ps h1.2.1 hi, z_tk0 hmd, e2, Option.bind_some, if_neg zbIt, if_neg (show ¬ up (up (up σ1 73 9 0) 73 10 (nI (4 * is))) 73 8 1 73 8 = 3 by rw [zup_ss]; decide)]
    have h1' : zcS m σc (up (up (up σ1 73 9 0) 73 10 (nI (4 * is))) 73 8 1) (zO Ls) (zRq Ls) len f 1 := by
      refine zcS.setm (md := 0) ?_ 1
      obtain ⟨hm, y1, y2, y3, y4, y5, y6, y7, y8, y9, y10⟩ := h1
      refine ⟨hm, (y1.u (by omega)).u (by omega), ?_, ?_, ?_, ?_, ?_, y7.e (fun k a b => by rw [zup_n (by omega), zup_n (by omega)]), y8, y9, ?_⟩
      · rw [zup_sn (by decide), zup_sn (by decide)]; exact y2
      · iterate 4 rw [zup_n (by decide)]
        exact y3
      · rw [zup_sn (by decide), zup_sn (by decide)]; exact y4
      · rw [zup_n (by decide), zup_n (by decide)]; exact y5
      · rw [zup_sn (by decide), zup_sn (by decide)]; exact y6
      · rw [zup_sn (by decide), zup_sn (by decide)]; exact y10
    exact (z_ag hX hk ho hn his (l - (i + 1)) (i + 1) _ _ 0 0 F cFu (Nat.le_refl _) (by omega) (by omega) h1' (by rw [zup_sn (by decide), zup_sn (by decide), zup_ss]; rfl) (by rw [zup_sn (by decide), zup_ss]) h2'.nx (by decide) (Or.inl rfl) (Nat.zero_le _) (by omega) (by unfold cFu; omega)).mono (Nat.le_succ i)
  by_cases c60 : T i = 60
  · rw [if_pos (show nI (T i) = 60 by rw [c60]; rfl)]
    exact agents 0 (by decide) c60
  rw [if_neg (show ¬ nI (T i) = 60 from z (b := 60) (by decide) c60)]
  by_cases c91 : T i = 91
  · rw [if_pos (show nI (T i) = 91 by rw [c91]; rfl)]
    exact agents 1 (by decide) c91
  rw [if_neg (show ¬ nI (T i) = 91 from z (b := 91) (by decide) c91)]
  by_cases c33 : T i = 33
  · rw [if_pos (show nI (T i) = 33 by rw [c33]; rfl)]
    obtain ⟨τ1, c1, c2⟩ := z_push h1 (by omega) 3 0
    match Ls, hn, hk, hb, c2, h2', n1, n2 with
    | (fr, uk, uc, lf, o, n, ah) :: Ls, _, hk, hb, c2, h2', n1, n2 =>
      have n2 : (ah ++ zA Ls).length ≤ _ := n2
      obtain ⟨τ2, r1, r2⟩ := z_ahd (k := 3) (c := 0) (K := 3) (C := 0) h2' (by omega) rfl rfl
      obtain ⟨k1, k2, k3, k4, k5, k6, k7, k8, k9⟩ := hk
      refine Or.inr (Or.inl ⟨i + 1, τ1, _, (fr, uk, uc, lf, o, n, (3, 0) :: ah) :: Ls, len, f, F, Nat.lt_succ_self _, by omega, by omega, ?_, ?_, c2, r1.nx, ⟨k1, k2, k3, k4, k5, k6, fun x hx => ?_, k8, k9⟩, ho, by simp, ?_⟩)
      · rw [hX.ps h1.2.1 hi, z_tk0 hmd, z_tu t2 (by omega), c33]
        unfold m_X4_takeUnit_b22
        have c1 : m_X4_push σ1 3 0 = (true, τ1) := c1
        rw [if_pos (by decide), c1, Option.bind_some, if_neg zbIt, if_neg (show ¬ τ1 73 8 = 3 by rw [c2.2.2.2.2.2.2.2.2.2.2]; decide)]
      · rw [r2 (fun τ => m_X10_readsUnit_b160 τ)]
        rfl
      · rcases List.mem_cons.mp hx with rfl | hx
        · exact ⟨Or.inl rfl, Nat.pow_pos (by decide)⟩
        · exact k7 x hx
      · have : (zO ((fr, uk, uc, lf, o, n, (3, 0) :: ah) :: Ls)).length = (zO ((fr, uk, uc, lf, o, n, ah) :: Ls)).length + 1 := by simp [zO]
        omega
  rw [if_neg (show ¬ nI (T i) = 33 from z (b := 33) (by decide) c33)]
  by_cases c40 : T i = 40
  · rw [if_pos (show nI (T i) = 40 by rw [c40]; rfl)]
    obtain ⟨τ1, c1, c2⟩ := z_push h1 (by omega) 14 0
    obtain ⟨τ2, r1, r2⟩ := z_opens h2' (by omega) (fr := 1) (by decide) 0 0
    have r1 : m_X10_opens (up σ2 87 28 0) 1 0 0 = some τ2 := r1
    refine Or.inr (Or.inl ⟨i + 1, τ1, _, (1, 0, 0, 0, none, none, []) :: Ls, len, f, F, Nat.lt_succ_self _, by omega, by omega, ?_, ?_, c2, r2.nx, ⟨by decide, fun q => absurd q (by decide), fun q => absurd q (by decide), fun q => absurd q (by decide), fun x q => (by cases q), fun x q => (by cases q), fun x q => absurd q (by simp), fun q => absurd q hn, hk⟩, ho, by simp, ?_⟩)
    · rw [hX.ps h1.2.1 hi, z_tk0 hmd, z_tu t2 (by omega), c40]
      unfold m_X4_takeUnit_b22
      have c1 : m_X4_push σ1 14 0 = (true, τ1) := c1
      rw [if_neg (by decide), if_pos (by decide), c1, Option.bind_some, if_neg zbIt, if_neg (show ¬ τ1 73 8 = 3 by rw [c2.2.2.2.2.2.2.2.2.2.2]; decide)]
    · rw [r1]
      rfl
    · have : (zO ((1, 0, 0, 0, none, none, []) :: Ls)).length = (zO Ls).length + 1 := by simp [zO, zo4, zo5, zop]
      omega
  rw [if_neg (show ¬ nI (T i) = 40 from z (b := 40) (by decide) c40)]
  by_cases c48 : T i = 48
  · rw [if_pos (show nI (T i) = 48 by rw [c48]; rfl)]
    refine z_lf (k := 0) (d := 0) (D := 0) (X := -1) hX h hi hF (by decide) (fun q => absurd q (by decide)) ?_ ?_
    · rw [z_tu t2 (by omega), c48]
      unfold m_X4_takeUnit_b22
      rw [if_neg (by decide), if_neg (by decide), if_pos (by decide), bpe]
      rfl
    · unfold m_X10_readsUnit_b94
      rw [if_pos (show nI (T i) = 48 by rw [c48]; rfl)]
      rfl
  rw [if_neg (show ¬ nI (T i) = 48 from z (b := 48) (by decide) c48)]
  by_cases c49 : T i = 49
  · rw [if_pos (show nI (T i) = 49 by rw [c49]; rfl)]
    refine z_lf (k := 1) (d := 0) (D := 0) (X := -1) hX h hi hF (by decide) (fun q => absurd q (by decide)) ?_ ?_
    · rw [z_tu t2 (by omega), c49]
      unfold m_X4_takeUnit_b22
      rw [if_neg (by decide), if_neg (by decide), if_neg (by decide), if_pos (by decide), bpe]
      rfl
    · unfold m_X10_readsUnit_b94
      rw [if_neg (show ¬ nI (T i) = 48 from z (b := 48) (by decide) c48)]
      rfl
  rw [if_neg (show ¬ nI (T i) = 49 from z (b := 49) (by decide) c49)]
  have ein : m_X10_in (nI (T i)) 97 122 = decide (97 ≤ T i ∧ T i ≤ 122) := z_rin (p := 97) (q := 122) (by omega) (by decide) (by decide)
  rw [ein]
  by_cases cl : 97 ≤ T i ∧ T i ≤ 122
  · rw [decide_eq_true cl, if_neg zbIt]
    have e97 : nI (T i) - 97 = nI (T i - 97) := pk_sub (b := 97) cl.1
    refine z_lf (k := 2) (d := T i - 97) (D := nI (T i) - 97) (X := nI (T i) - 97) hX h hi hF (by decide) (fun _ => ⟨e97, e97, by omega⟩) ?_ rfl
    unfold m_X4_takeUnit
    rw [if_neg (show ¬ nI (T i) < 97 from znlt (b := 97) (by omega) (by decide) cl.1), if_neg (show ¬ 122 < nI (T i) from znlt (a := 122) (by decide) (by omega) cl.2), bpe]
    rfl
  · rw [decide_eq_false cl, if_pos zbIf]
    refine Or.inl ⟨i, σ1, _, by omega, h1.2.1, h2'.2.1, ?_, rfl, h2'.2.2.2.2.2.2.2.2.1⟩
    rw [hX.ps h1.2.1 hi, z_tk0 hmd, z_tu t2 (by omega)]
    unfold m_X4_takeUnit_b22
    rw [if_neg (show ¬ nI (T i) = 33 from z (b := 33) (by decide) c33), if_neg (show ¬ nI (T i) = 40 from z (b := 40) (by decide) c40), if_neg (show ¬ nI (T i) = 48 from z (b := 48) (by decide) c48), if_neg (show ¬ nI (T i) = 49 from z (b := 49) (by decide) c49), if_neg (show ¬ nI (T i) = 60 from z (b := 60) (by decide) c60), if_neg (show ¬ nI (T i) = 91 from z (b := 91) (by decide) c91), Option.bind_some, if_pos zbIf]
end RT
