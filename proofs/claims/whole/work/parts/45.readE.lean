section RT
variable {a m l i F : Nat} {T : Nat → Nat} {σc σr σ1 σ2 : St}
theorem z_tk3 (h : σ1 73 8 = 3) (x : Int32) : m_X4_take σ1 x = m_X4_takeAfterUnit σ1 x := by
  unfold m_X4_take
  rw [h, if_neg (by decide), if_neg (by decide), if_neg (by decide), bpe]
theorem z_lvp {fr uk uc lf len w : Nat} {o n : Option Nat} {Ls : List zLv} {f : zFd} (h : zrS m σr σ2 ((fr, uk, uc, lf, o, n, []) :: Ls) len f i w) : zrS m σr (up σ2 87 23 (σ2 87 23 - 1)) Ls len f i w := by
  obtain ⟨hm, g1, g2, g3, g4, g5, g6, ⟨l1, l2, l3, l4, l5, l6, l7⟩, g8, g9⟩ := h
  have g4 : σ2 87 23 = nI Ls.length := by rw [g4]; exact zs1 _
  rw [g4]
  refine ⟨hm, g1.u (by omega), ?_, ⟨?_, ?_⟩, zup_ss _ _ _ _, ?_, ?_, ?_, ?_, ?_⟩
  · rw [zup_sn (by decide)]; exact g2
  · rw [zup_sn (by decide)]; exact g3.1
  · rw [zup_n (by decide), zup_n (by decide), zup_n (by decide), zup_n (by decide)]; exact g3.2
  · rw [zup_sn (by decide)]; exact g5
  · rw [zup_n (by decide), zup_n (by decide)]; exact g6
  · exact l7.g (fun k j a b c => by rw [zup_n (by omega)])
  · rw [zup_sn (by decide)]; exact g8
  · rw [zup_sn (by decide)]; exact g9
theorem z_fin {Ls : List zLv} {len W : Nat} {f : zFd} {τ1 ρ : St} (hX : zTx a m l T σc σr) (hk : zLk a len Ls) (ho : zOk a len f) (hn : Ls ≠ []) (hW : W < len) (hb : len + (zO Ls).length ≤ i + 1) (hi : i < l) (hF : l - i < F + 1) (h1 : zcf m σc σ1)
    (ht : m_X4_take σ1 (nI (T i)) = some (true, τ1)) (c2 : zcS m σc τ1 (zO Ls) (W :: zRq Ls) len f 3) (r2 : zrS m σr ρ Ls len f i 1) :
    zNx a m l σc σr (zLc m (F + 1) (σ1, nI i)) ((m_X10_unit ρ (nI W)).bind fun u1 => m_X10_readsBehind_b218 u1) i := by
  have hl := hX.1
  match Ls, hn, hk, hb, c2, r2 with
  | (fr, uk, uc, lf, o, n, ah) :: Ls, _, hk, hb, c2, r2 =>
    obtain ⟨ρ1, ρ2, u', len', f', d1, d2, d3, d4, d5, d6, d7⟩ := z_uc (b := i + 1) hk ho hW hb (by omega) c2 r2
    refine Or.inr (Or.inr ⟨i + 1, ρ1, _, fr, uk, uc, lf, o, u', Ls, len', f', F, Nat.lt_succ_self _, by omega, by omega, ?_, ?_, d3, d4.nx, d5, d6, d7⟩)
    · rw [hX.ps h1 hi, ht, Option.bind_some, if_neg zbIt, if_pos (show τ1 73 8 = 3 from c2.2.2.2.2.2.2.2.2.2.2), d1, Option.bind_some]
    · rw [d2, Option.bind_some]
      rfl
theorem z_until {m len md k c : Nat} {σ0 σ : St} {O : List (Nat × Nat)} {P : List Nat} {f : zFd} (hk : k = 9 ∨ k = 13) (h : zcS m σ0 σ ((k + 6, c) :: O) P len f md) : ∃ τ, m_X4_takeUntil σ = (true, τ) ∧ zcS m σ0 τ ((k, c) :: O) P len f 0 := by
  obtain ⟨t1, t2, t3⟩ := z_rt h
  have t1 : m_X4_topOpen σ = nI (k + 6) := t1
  obtain ⟨hm, h1, h2, h3, h4, h5, h6, h7, h8, h9, h10⟩ := h
  have h9 : len + (O.length + 1) ≤ 60 := h9
  have e : m_X4_takeUntil σ = m_X4_takeUntil_b19 σ (nI (k + 6)) := by
    unfold m_X4_takeUntil
    rw [t1]
    rcases hk with rfl | rfl
    · rw [if_pos (by decide)]
    · rw [if_neg (by decide), if_pos (by decide)]
  have e2 : (nI (k + 6) - 15) + 9 = nI k := by rcases hk with rfl | rfl <;> decide
  rw [e]
  unfold m_X4_takeUntil_b19
  rw [e2, t3, zs1, zrP (n := 60) (by decide) (by omega)]
  refine ⟨_, rfl, zcS.setm (O := (k, c) :: O) (md := md) ⟨hm, h1.u (by omega), ?_, ⟨?_, ?_, ?_⟩, ?_, ?_, ?_, h7.e (fun k a b => zup_n (by omega)), h8, h9, ?_⟩ 0⟩
  · rw [zup_n (by decide)]; exact h2
  · exact zup_ss _ _ _ _
  · rw [zup_n (by decide)]; exact h3.2.1
  · exact h3.2.2.g (fun j hj => zup_sn (by omega)) (fun j hj => by rw [zup_n (by decide)])
  · rw [zup_n (by decide)]; exact h4
  · rw [zup_n (by decide)]; exact h5
  · rw [zup_n (by decide)]; exact h6
  · rw [zup_n (by decide)]; exact h10
theorem z_st1 {fr uk uc lf u : Nat} {o : Option Nat} {Ls : List zLv} {len : Nat} {f : zFd} (hX : zTx a m l T σc σr) (h : zR1 a m σc σr σ1 σ2 fr uk uc lf o u Ls len f i 1 i) (hi : i < l) (hF : l - i < F) : zNx a m l σc σr (zLc m F (σ1, nI i)) (m_X10_readsBehind σ2) i := by
  obtain ⟨F, rfl⟩ : ∃ k, F = k + 1 := ⟨F - 1, by omega⟩
  obtain ⟨⟨τ, e1, hmd, e3, c1⟩, h2, hk, ho, hb⟩ := id h
  obtain ⟨x1, x2, x3, x4, x5, x6, x7, x8, x9, x10, x11⟩ := id hX
  obtain ⟨t1, t2⟩ := x11 i hi
  have z : ∀ {b : Nat}, b < 2 ^ 31 → ¬ T i = b → ¬ nI (T i) = nI b := fun hb q => zne (by omega) hb q
  obtain ⟨n1, n2⟩ := zO_len hk
  obtain ⟨k1, k2, k3, k4, k5, k6, k7, k8, k9⟩ := id hk
  have hu : u < len := k6 u rfl
  have eO : (zO ((fr, uk, uc, lf, o, some u, []) :: Ls)).length = 1 + (zo5 o ++ (zop fr uk uc ++ zO Ls)).length := by simp [zO, zo4]; omega
  have e5 : (zo5 o ++ (zop fr uk uc ++ zO Ls)).length = o.toList.length + (zop fr uk uc ++ zO Ls).length := by rw [List.length_append, zo5_l]
  simp only [List.length_cons] at n1
  have esg := hX.sg h2.2.1 h2.2.2.2.2.2.2.2.2.1 (by omega)
  rw [if_pos hi] at esg
  obtain ⟨ρ, p1, p2⟩ := z_c5 k1 k2 (fun q => (k3 q).1) c1
  obtain ⟨q1, q2, q3⟩ := zun_ok (k := 5) (o := o) (Or.inr rfl) ho hu k5
  obtain ⟨κ, j1, j2⟩ := z_joins (u := u) (fun x q => by have := k5 x q; omega) (by omega) (by rw [zo5_l]; omega) h2
  obtain ⟨W, len2, f2, hJ⟩ : ∃ W len2 f2, zun 5 o (u, len, f) = (W, len2, f2) := ⟨_, _, _, rfl⟩
  rw [hJ] at p2 q1 q2 q3 j2
  dsimp only at p2 q1 q2 q3 j2
  have ep := hX.ps (F := F) e1 hi
  have hm : len ≤ len2 := by omega
  have k9' := k9.mono hm
  have g23 : σ2 87 23 = nI Ls.length := by rw [h2.2.2.2.2.1]; exact zs1 _
  have g98 : σ2 98 Ls.length = nI fr := h2.2.2.2.2.2.2.2.1.1
  unfold m_X10_readsBehind
  rw [esg, Option.bind_some]
  have ck62 : ∀ {α : Type} (x : Option α), chk (nI Ls.length) 62 x = x := fun x => zck2 (by omega)
  have ecl : Int32.toNatClampNeg (nI Ls.length) = Ls.length := nI_clamp (by omega)
  by_cases c38 : T i = 38
  · rw [if_neg (show ¬ nI (T i) = 124 from z (b := 124) (by decide) (by omega)), if_pos (show nI (T i) = 38 by rw [c38]; rfl)]
    obtain ⟨τ1, d1, d2⟩ := z_push c1 (by omega) 4 0
    have d1 : m_X4_push τ 4 0 = (true, τ1) := d1
    refine Or.inr (Or.inl ⟨i + 1, τ1, _, (fr, uk, uc, lf, o, some u, []) :: Ls, len, f, F, Nat.lt_succ_self _, by omega, by omega, ?_, rfl, d2, (h2.u8 0).nx, hk, ho, by simp, by omega⟩)
    rw [ep, z_tk3 hmd]
    unfold m_X4_takeAfterUnit
    rw [e3, Option.bind_some, c38, if_pos (by decide), d1, Option.bind_some, if_neg zbIt, if_neg (show ¬ τ1 73 8 = 3 by rw [d2.2.2.2.2.2.2.2.2.2.2]; decide)]
  have eta : m_X4_takeAfterUnit σ1 (nI (T i)) = if nI (T i) = 41 then m_X4_takeBracket ρ else if nI (T i) = 85 then some (m_X4_takeUntil ρ) else if nI (T i) = 124 then some (m_X4_push ρ 5 0) else some (false, ρ) := by
    unfold m_X4_takeAfterUnit
    have p1 : m_X4_closeIf τ 5 = some ρ := p1
    rw [e3, Option.bind_some, if_neg (show ¬ nI (T i) = 38 from z (b := 38) (by decide) c38), p1, Option.bind_some, bpe]
  have hfail : ∀ rr, rr = some (false, σ2) → m_X4_takeAfterUnit σ1 (nI (T i)) = some (false, ρ) → zNx a m l σc σr (zLc m (F + 1) (σ1, nI i)) rr i := by
    intro rr hr ht
    refine Or.inl ⟨i, ρ, σ2, by omega, p2.2.1, h2.2.1, ?_, hr, h2.2.2.2.2.2.2.2.2.1⟩
    rw [ep, z_tk3 hmd, ht, Option.bind_some, if_pos zbIf]
  by_cases c124 : T i = 124
  · rw [if_pos (show nI (T i) = 124 by rw [c124]; rfl), j1, Option.bind_some]
    obtain ⟨τ1, d1, d2⟩ := z_push p2 (by omega) 5 0
    have d1 : m_X4_push ρ 5 0 = (true, τ1) := d1
    refine Or.inr (Or.inl ⟨i + 1, τ1, _, (fr, uk, uc, lf, some W, none, []) :: Ls, len2, f2, F, Nat.lt_succ_self _, by omega, by omega, ?_, rfl, d2, (j2.u8 0).nx, ⟨k1, k2, k3, fun q => by have := k4 q; omega, fun x q => by rw [← Option.some.inj q]; exact q2, fun x q => (by cases q), k7, k8, k9'⟩, q1, by simp, ?_⟩)
    · rw [ep, z_tk3 hmd, eta, c124, if_neg (by decide), if_neg (by decide), if_pos (by decide), d1, Option.bind_some, if_neg zbIt, if_neg (show ¬ τ1 73 8 = 3 by rw [d2.2.2.2.2.2.2.2.2.2.2]; decide)]
    · have : (zO ((fr, uk, uc, lf, some W, none, []) :: Ls)).length = 1 + (zop fr uk uc ++ zO Ls).length := by simp [zO, zo4, zo5]; omega
      omega
  rw [if_neg (show ¬ nI (T i) = 124 from z (b := 124) (by decide) c124), if_neg (show ¬ nI (T i) = 38 from z (b := 38) (by decide) c38)]
  have kj : κ 87 23 = nI Ls.length := by rw [j2.2.2.2.2.1]; exact zs1 _
  have kl := j2.2.2.2.2.2.2.2.1
  have k98 : κ 98 Ls.length = nI fr := kl.1
  have k99 : κ 99 Ls.length = nI W := kl.2.1
  have htop : ∀ (b : Nat), b < 20 → (fr = 1 → b ≠ 14) → (fr = 2 → b ≠ uk + 6) → (fr = 3 → b ≠ uk) → ¬ m_X4_topOpen ρ = nI b := by
    intro b hb20 b1 b2 b3
    have : fr = 0 ∨ fr = 1 ∨ fr = 2 ∨ fr = 3 := by omega
    rcases this with r | r | r | r
    · subst r
      rw [k2 rfl] at p2
      rw [z_rt0 p2]
      exact fun q => znm1 (by omega) q.symm
    · subst r
      rw [(z_rt (x := (14, 0)) (O := zO Ls) p2).1]
      exact zne (by decide) (by omega) (fun q => b1 rfl q.symm)
    · subst r
      have := (k3 (by decide)).1
      rw [(z_rt (x := (uk + 6, uc)) (O := zO Ls) p2).1]
      exact zne (show uk + 6 < 2 ^ 31 by omega) (by omega) (fun q => b2 rfl q.symm)
    · subst r
      have := (k3 (by decide)).1
      rw [(z_rt (x := (uk, uc)) (O := zO Ls) p2).1]
      exact zne (show uk < 2 ^ 31 by omega) (by omega) (fun q => b3 rfl q.symm)
  by_cases c85 : T i = 85
  · rw [if_pos (show nI (T i) = 85 by rw [c85]; rfl), g23, ck62, ecl, g98]
    rw [c85, if_neg (by decide), if_pos (by decide)] at eta
    by_cases f2' : fr = 2
    · subst f2'
      rw [if_pos (show nI 2 = 2 from rfl), j1, Option.bind_some, kj, ck62, ck62, ecl, k99]
      rw [show up κ 101 Ls.length (nI W) 87 23 = nI Ls.length by rw [zup_n (by decide)]; exact kj, ck62, ecl]
      rw [show up (up κ 101 Ls.length (nI W)) 98 Ls.length 3 87 23 = nI Ls.length by rw [zup_n (by decide), zup_n (by decide)]; exact kj, ck62, ecl]
      obtain ⟨τ1, d1, d2⟩ := z_until (k3 (by decide)).1 (O := zO Ls) (c := uc) p2
      have r2 : zrS m σr (up (up (up κ 101 Ls.length (nI W)) 98 Ls.length 3) 99 Ls.length (-1)) ((3, uk, uc, W, none, none, []) :: Ls) len2 f2 i 1 := ((j2.s101 W).s98 (fr' := 3) (fun _ => by decide) (fun _ => zup_ss _ _ _ _)).s99 none
      refine Or.inr (Or.inl ⟨i + 1, τ1, _, (3, uk, uc, W, none, none, []) :: Ls, len2, f2, F, Nat.lt_succ_self _, by omega, by omega, ?_, rfl, d2, (r2.u8 0).nx, ⟨by decide, fun q => absurd q (by decide), fun _ => k3 (by decide), fun _ => q2, fun x q => (by cases q), fun x q => (by cases q), k7, fun q => absurd (k8 q) (by decide), k9'⟩, q1, by simp, ?_⟩)
      · rw [ep, z_tk3 hmd, c85, eta, d1, Option.bind_some, if_neg zbIt, if_neg (show ¬ τ1 73 8 = 3 by rw [d2.2.2.2.2.2.2.2.2.2.2]; decide)]
      · have : (zO ((3, uk, uc, W, none, none, []) :: Ls)).length = (zop 2 uk uc ++ zO Ls).length := by simp [zO, zo4, zo5, zop]
        omega
    · rw [if_neg (show ¬ nI fr = 2 from zne (b := 2) (by omega) (by decide) f2')]
      refine hfail _ ?_ ?_
      · unfold m_X10_readsBehind_b106
        rw [if_neg (show ¬ nI (T i) = 41 from z (b := 41) (by decide) (by omega))]
      · rw [c85, eta]
        unfold m_X4_takeUntil
        rw [if_neg (show ¬ m_X4_topOpen ρ = 15 from htop 15 (by decide) (fun _ => by decide) (fun q => absurd q f2') (fun q => by have := (k3 (by omega)).1; omega)), if_neg (show ¬ m_X4_topOpen ρ = 19 from htop 19 (by decide) (fun _ => by decide) (fun q => absurd q f2') (fun q => by have := (k3 (by omega)).1; omega))]
  rw [if_neg (show ¬ nI (T i) = 85 from z (b := 85) (by decide) c85)]
  unfold m_X10_readsBehind_b106
  by_cases c41 : T i = 41
  · rw [if_pos (show nI (T i) = 41 by rw [c41]; rfl), g23, ck62, ecl, g98]
    rw [c41, if_pos (by decide)] at eta
    have hne : fr ≠ 0 → Ls ≠ [] := fun q r => q (k8 r)
    have hcl : fr = 0 ∨ fr = 1 ∨ fr = 2 ∨ fr = 3 := by omega
    rcases hcl with r | r | r | r
    · subst r
      rw [if_neg (by decide), ck62, if_neg (by decide)]
      refine hfail _ rfl ?_
      rw [c41, eta]
      unfold m_X4_takeBracket
      rw [if_neg (show ¬ m_X4_topOpen ρ = 14 from htop 14 (by decide) (fun q => absurd q (by decide)) (fun q => absurd q (by decide)) (fun q => absurd q (by decide))), if_neg (show ¬ m_X4_topOpen ρ = 9 from htop 9 (by decide) (fun q => absurd q (by decide)) (fun q => absurd q (by decide)) (fun q => absurd q (by decide))), if_neg (show ¬ m_X4_topOpen ρ = 13 from htop 13 (by decide) (fun q => absurd q (by decide)) (fun q => absurd q (by decide)) (fun q => absurd q (by decide)))]
    · subst r
      have p2' : zcS m σc ρ ((14, 0) :: zO Ls) (W :: zRq Ls) len2 f2 3 := p2
      have : (zop 1 uk uc ++ zO Ls).length = 1 + (zO Ls).length := by simp [zop]; omega
      rw [if_pos (by decide)]
      unfold m_X10_readsBehind_b138
      rw [j1, Option.bind_some, kj, ck62, ck62, ecl, k98, if_neg (by decide), k99]
      refine z_fin hX k9' q1 (hne (by decide)) q2 (by omega) hi hF e1 (τ1 := up (up ρ 73 6 (ρ 73 6 - 1)) 73 8 3) ?_ (p2'.drop.setm 3) (z_lvp j2)
      rw [z_tk3 hmd, c41, eta]
      unfold m_X4_takeBracket
      rw [if_pos (show m_X4_topOpen ρ = 14 from (z_rt p2').1)]
      rfl
    · subst r
      have := (k3 (by decide)).1
      rw [if_neg (by decide), ck62, if_neg (by decide)]
      refine hfail _ rfl ?_
      rw [c41, eta]
      unfold m_X4_takeBracket
      rw [if_neg (show ¬ m_X4_topOpen ρ = 14 from htop 14 (by decide) (fun q => absurd q (by decide)) (fun q => by omega) (fun q => absurd q (by decide))), if_neg (show ¬ m_X4_topOpen ρ = 9 from htop 9 (by decide) (fun q => absurd q (by decide)) (fun q => by omega) (fun q => absurd q (by decide))), if_neg (show ¬ m_X4_topOpen ρ = 13 from htop 13 (by decide) (fun q => absurd q (by decide)) (fun q => by omega) (fun q => absurd q (by decide)))]
    · subst r
      obtain ⟨hu9, huc⟩ := k3 (by decide)
      have p2' : zcS m σc ρ ((uk, uc) :: zO Ls) (W :: lf :: zRq Ls) len2 f2 3 := p2
      have : (zop 3 uk uc ++ zO Ls).length = 1 + (zO Ls).length := by simp [zop]; omega
      have hzb : zbin uk := by unfold zbin; omega
      obtain ⟨τ1, d1, d2⟩ := z_clo2 p2' hzb
      obtain ⟨κ2, w1, w2⟩ := z_part (k := uk) (x := lf) (y := W) (c := uc) (X := nI lf) (Y := nI W) (C := nI uc) j2 (by omega) (fun q => by omega) (fun _ => rfl) (fun _ => rfl) (fun _ => rfl)
      rw [if_neg (by decide), ck62, if_pos (by decide)]
      unfold m_X10_readsBehind_b138
      rw [j1, Option.bind_some, kj, ck62, ck62, ecl, k98, if_pos (by decide), ck62, ck62, ck62, k99, kl.2.2.2.1 rfl, (kl.2.2.2.2.2.1 (by decide)).1, (kl.2.2.2.2.2.1 (by decide)).2, w1, Option.bind_some]
      refine z_fin hX (k9'.mono (Nat.le_succ _)) (q1.ad (by omega) (fun q => by omega) (fun _ => by have := k4 rfl; omega) (fun _ => q2) (fun _ => huc)) (hne (by decide)) (Nat.lt_succ_self _) (by omega) hi hF e1 (τ1 := up τ1 73 8 3) ?_ (d2.setm 3) (z_lvp w2)
      rw [z_tk3 hmd, c41, eta]
      unfold m_X4_takeBracket
      rw [if_neg (show ¬ m_X4_topOpen ρ = 14 from htop 14 (by decide) (fun q => absurd q (by decide)) (fun q => absurd q (by decide)) (fun q => by omega)), show m_X4_topOpen ρ = nI uk from (z_rt p2').1]
      unfold m_X4_takeBracket_b36
      rcases hu9 with rfl | rfl
      · rw [if_pos (by decide), d1]; rfl
      · rw [if_neg (by decide), if_pos (by decide), d1]; rfl
  · rw [if_neg (show ¬ nI (T i) = 41 from z (b := 41) (by decide) c41)]
    refine hfail _ rfl ?_
    rw [eta, if_neg (show ¬ nI (T i) = 41 from z (b := 41) (by decide) c41), if_neg (show ¬ nI (T i) = 85 from z (b := 85) (by decide) c85), if_neg (show ¬ nI (T i) = 124 from z (b := 124) (by decide) c124)]
end RT
