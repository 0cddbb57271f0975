/-! READING A TEXT: both -/
def zLk (a len : Nat) : List zLv → Prop
  | [] => True
  | (fr, uk, uc, lf, o, n, ah) :: Ls => fr ≤ 3 ∧ (fr = 0 → Ls = []) ∧ (2 ≤ fr → (uk = 9 ∨ uk = 13) ∧ uc < 2 ^ a) ∧ (fr = 3 → lf < len) ∧ (∀ x, o = some x → x < len) ∧ (∀ x, n = some x → x < len) ∧ (∀ x, x ∈ ah → zpx x.1 ∧ x.2 < 2 ^ a) ∧ (Ls = [] → fr = 0) ∧ zLk a len Ls
theorem zLk.mono {a len len' : Nat} (hl : len ≤ len') : ∀ {Ls : List zLv}, zLk a len Ls → zLk a len' Ls
  | [], _ => trivial
  | (_, _, _, _, _, _, _) :: _, ⟨h1, h2, h3, h4, h5, h6, h7, h8, h9⟩ => ⟨h1, h2, h3, fun q => by have := h4 q; omega, fun x q => by have := h5 x q; omega, fun x q => by have := h6 x q; omega, h7, h8, h9.mono hl⟩
theorem zO_len {a len : Nat} : ∀ {Ls : List zLv}, zLk a len Ls → Ls.length ≤ (zO Ls).length + 1 ∧ (zA Ls).length ≤ (zO Ls).length
  | [], _ => ⟨by simp [zO], by simp [zA, zO]⟩
  | (fr, uk, uc, lf, o, n, ah) :: Ls, ⟨h1, h2, _, _, _, _, _, _, h9⟩ => by
    obtain ⟨a1, a2⟩ := zO_len h9
    have e : (zO ((fr, uk, uc, lf, o, n, ah) :: Ls)).length = ah.length + ((zo4 n).length + ((zo5 o).length + ((zop fr uk uc).length + (zO Ls).length))) := by simp [zO]
    have e2 : (zA ((fr, uk, uc, lf, o, n, ah) :: Ls)).length = ah.length + (zA Ls).length := by simp [zA]
    rw [e, e2]
    by_cases q : fr = 0
    · rw [h2 q]; simp [zA]
    · have : (zop fr uk uc).length = 1 := by
        have : fr = 1 ∨ fr = 2 ∨ fr = 3 := by omega
        rcases this with rfl | rfl | rfl <;> rfl
      simp only [List.length_cons]
      omega
theorem zun_ok {a u n k : Nat} {f : zFd} {o : Option Nat} (hk : k = 4 ∨ k = 5) (h : zOk a n f) (hu : u < n) (ho : ∀ x, o = some x → x < n) : zOk a (zun k o (u, n, f)).2.1 (zun k o (u, n, f)).2.2 ∧ (zun k o (u, n, f)).1 < (zun k o (u, n, f)).2.1 ∧ (zun k o (u, n, f)).2.1 = n + o.toList.length := by
  cases o with
  | none => exact ⟨h, hu, rfl⟩
  | some x => exact ⟨h.ad (by omega) (fun q => by omega) (fun _ => ho x rfl) (fun _ => hu) (fun q => by omega), Nat.lt_succ_self _, rfl⟩
theorem zpre_ok {a : Nat} : ∀ {l : List (Nat × Nat)} {u n : Nat} {f : zFd}, zOk a n f → u < n → (∀ x, x ∈ l → zpx x.1 ∧ x.2 < 2 ^ a) → zOk a (zpre l (u, n, f)).2.1 (zpre l (u, n, f)).2.2 ∧ (zpre l (u, n, f)).1 < (zpre l (u, n, f)).2.1 ∧ (zpre l (u, n, f)).2.1 = n + l.length
  | [], _, _, _, h, hu, _ => ⟨h, hu, rfl⟩
  | x :: l, u, n, f, h, hu, hl => by
    obtain ⟨p1, p2⟩ := hl x (by simp)
    unfold zpx at p1
    obtain ⟨a1, a2, a3⟩ := zpre_ok (l := l) (u := n) (h.ad (k := x.1) (x := u) (y := 0) (c := x.2) (by omega) (fun q => by omega) (fun _ => hu) (fun q => by unfold zbin at q; omega) (fun _ => p2)) (Nat.lt_succ_self n) (fun y hy => hl y (by simp [hy]))
    exact ⟨a1, a2, by rw [List.length_cons]; exact a3.trans (by omega)⟩
theorem zo4_l (o : Option Nat) : (zo4 o).length = o.toList.length := by cases o <;> rfl
theorem zo5_l (o : Option Nat) : (zo5 o).length = o.toList.length := by cases o <;> rfl
/-- both want a unit -/
def zR0 (a m : Nat) (σc σr σ1 σ2 : St) (Ls : List zLv) (len : Nat) (f : zFd) (i : Nat) : Prop :=
  zcS m σc σ1 (zO Ls) (zRq Ls) len f 0 ∧ zrS m σr σ2 Ls len f i 0 ∧ zLk a len Ls ∧ zOk a len f ∧ Ls ≠ [] ∧ len + (zO Ls).length ≤ i
/-- both have one -/
def zR1 (a m : Nat) (σc σr σ1 σ2 : St) (fr uk uc lf : Nat) (o : Option Nat) (u : Nat) (Ls : List zLv) (len : Nat) (f : zFd) (i w b : Nat) : Prop :=
  (∃ τ, zcf m σc σ1 ∧ σ1 73 8 = 3 ∧ m_X4_closeIf σ1 4 = some τ ∧ zcS m σc τ (zo5 o ++ (zop fr uk uc ++ zO Ls)) (u :: (o.toList ++ (zl3 fr lf ++ zRq Ls))) len f 3) ∧
  zrS m σr σ2 ((fr, uk, uc, lf, o, some u, []) :: Ls) len f i w ∧ zLk a len ((fr, uk, uc, lf, o, some u, []) :: Ls) ∧ zOk a len f ∧ len + (zo5 o ++ (zop fr uk uc ++ zO Ls)).length ≤ b
theorem z_uc {a m fr uk uc lf u len i w b : Nat} {σc σr τ1 τ2 : St} {o n : Option Nat} {ah : List (Nat × Nat)} {Ls : List zLv} {f : zFd}
    (hk : zLk a len ((fr, uk, uc, lf, o, n, ah) :: Ls)) (ho : zOk a len f) (hu : u < len) (hb : len + (zO ((fr, uk, uc, lf, o, n, ah) :: Ls)).length ≤ b) (hb6 : b ≤ 60)
    (h1 : zcS m σc τ1 (zO ((fr, uk, uc, lf, o, n, ah) :: Ls)) (u :: zRq ((fr, uk, uc, lf, o, n, ah) :: Ls)) len f 3) (h2 : zrS m σr τ2 ((fr, uk, uc, lf, o, n, ah) :: Ls) len f i w) :
    ∃ σ1 σ2 u' len' f', m_X4_closePrefixes τ1 = some σ1 ∧ m_X10_unit τ2 (nI u) = some σ2 ∧ zR1 a m σc σr σ1 σ2 fr uk uc lf o u' Ls len' f' i w b := by
  obtain ⟨n1, n2⟩ := zO_len hk
  obtain ⟨k1, k2, k3, k4, k5, k6, k7, k8, k9⟩ := id hk
  have e : (zO ((fr, uk, uc, lf, o, n, ah) :: Ls)).length = ah.length + ((zo4 n).length + (zo5 o ++ (zop fr uk uc ++ zO Ls)).length) := by simp [zO]
  have e2 : (zA ((fr, uk, uc, lf, o, n, ah) :: Ls)).length = ah.length + (zA Ls).length := by simp [zA]
  simp only [List.length_cons] at n1
  obtain ⟨σ1, τ, c1, c2, c3, c4, c5⟩ := z_cu k1 k2 (fun q => (k3 q).1) (fun x hx => (k7 x hx).1) h1
  obtain ⟨σ2, r1, r2⟩ := z_unit (u := u) (fun x q => by have := k6 x q; omega) (by omega) (by omega) (by omega) (fun x hx => (k7 x hx).1) h2
  obtain ⟨p1, p2, p3⟩ := zpre_ok ho hu k7
  obtain ⟨q1, q2, q3⟩ := zun_ok (k := 4) (o := n) (Or.inl rfl) p1 p2 (fun x q => by have := k6 x q; omega)
  have q3 : (zun 4 n (zpre ah (u, len, f))).2.1 = (zpre ah (u, len, f)).2.1 + n.toList.length := q3
  rw [← zo4_l] at q3
  have hm : len ≤ (zun 4 n (zpre ah (u, len, f))).2.1 := by omega
  refine ⟨σ1, σ2, _, _, _, c1, r1, ⟨τ, c2, c3, c4, c5⟩, r2, ⟨k1, k2, k3, fun q => by have := k4 q; omega, fun x q => by have := k5 x q; omega, fun x q => ?_, fun x hx => absurd hx (by simp), k8, k9.mono hm⟩, q1, by omega⟩
  rw [← Option.some.inj q]
  exact q2
def zTx (a m l : Nat) (T : Nat → Nat) (σc σr : St) : Prop := l ≤ 60 ∧ 1 ≤ a ∧ a ≤ 4 ∧ m < 8 ∧ σc 73 5 = nI l ∧ σc 73 0 = nI a ∧ (∀ j, j < l → σc 74 j = nI (T j)) ∧ σr 87 8 = nI l ∧ σr 87 0 = nI a ∧ (∀ j, j < l → σr 92 j = nI (T j)) ∧ ∀ j, j < l → 32 ≤ T j ∧ T j ≤ 126
def zLc (m F : Nat) (z : St × Int32) : Option (Int32 × St) := loopF (fun k z => m_X4_parse_b36 z.1 (25 + 5 * m) z.2 k) F z
def zLr (F : Nat) (σ : St) : Option (Bool × St) := loopF (fun k z => m_X10_parses_b32 z k) F σ
theorem bpe {A B : Type} (x : Option (A × B)) : (x.bind fun u => some (u.1, u.2)) = x := by cases x <;> rfl
/-- one step of both -/
def zNx (a m l : Nat) (σc σr : St) (rc : Option (Int32 × St)) (rr : Option (Bool × St)) (i : Nat) : Prop :=
  (∃ j σ1 σ2, j ≤ 60 ∧ zcf m σc σ1 ∧ zqf m σr σ2 ∧ rc = some (nI j, σ1) ∧ rr = some (false, σ2) ∧ σ2 87 27 = nI j) ∨
  (∃ j σ1 σ2 Ls len f F, i < j ∧ j ≤ l ∧ l - j < F ∧ rc = zLc m F (σ1, nI j) ∧ rr = some (true, σ2) ∧ zR0 a m σc σr σ1 σ2 Ls len f j) ∨
  (∃ j σ1 σ2 fr uk uc lf o u Ls len f F, i < j ∧ j ≤ l ∧ l - j < F ∧ rc = zLc m F (σ1, nI j) ∧ rr = some (true, σ2) ∧ zR1 a m σc σr σ1 σ2 fr uk uc lf o u Ls len f j 1 j)
section RT
variable {a m l i F : Nat} {T : Nat → Nat} {σc σr σ1 σ2 : St}
theorem zTx.sg (hX : zTx a m l T σc σr) (h : zqf m σr σ2) (e27 : σ2 87 27 = nI i) (hi : i ≤ 60) : m_X10_sign σ2 = some (if i < l then nI (T i) else -1) := by
  obtain ⟨x1, x2, x3, x4, x5, x6, x7, x8, x9, x10, x11⟩ := hX
  exact z_sign x1 (by rw [h.2.1 8 (by decide) (by decide) (by decide) (by decide) (by decide)]; exact x8) (fun j hj => by rw [h.1 92 (by decide) (by omega)]; exact x10 j hj) e27 hi
theorem zTx.ps (hX : zTx a m l T σc σr) (h : zcf m σc σ1) (hi : i < l) : zLc m (F + 1) (σ1, nI i) = (m_X4_take σ1 (nI (T i))).bind fun u => if bI u.1 = 0 then some (nI i, u.2) else if u.2 73 8 = 3 then (m_X4_closePrefixes u.2).bind fun v => zLc m F (v, nI (i + 1)) else zLc m F (u.2, nI (i + 1)) := by
  obtain ⟨x1, x2, x3, x4, x5, x6, x7, x8, x9, x10, x11⟩ := hX
  show m_X4_parse_b36 σ1 (25 + 5 * m) (nI i) (loopF _ F) = _
  unfold m_X4_parse_b36
  rw [h.2.2, x5, if_neg (znle (by omega) (by omega) hi), zrA (by decide) (by omega), h.1 74 (by decide) (by decide) (by decide) (by decide) (by omega), x7 i hi, nI_1]
  rfl
theorem zTx.pe (hX : zTx a m l T σc σr) (h : zcf m σc σ1) (hm : ¬ σ1 73 8 = 3) : zLc m (F + 1) (σ1, nI l) = some (nI l, σ1) := by
  obtain ⟨x1, x2, x3, x4, x5, x6, x7, x8, x9, x10, x11⟩ := hX
  show m_X4_parse_b36 σ1 (25 + 5 * m) (nI l) (loopF _ F) = _
  unfold m_X4_parse_b36
  rw [h.2.2, x5, if_pos (Int32.le_refl _), if_neg hm]
theorem z_tk0 (h : σ1 73 8 = 0) (x : Int32) : m_X4_take σ1 x = m_X4_takeUnit σ1 x := by
  unfold m_X4_take
  rw [if_pos h, bpe]
theorem z_tu {c : Nat} (hc : c ≤ 126) (h : c < 97 ∨ 122 < c) : m_X4_takeUnit σ1 (nI c) = m_X4_takeUnit_b22 σ1 (nI c) := by
  unfold m_X4_takeUnit
  by_cases q : c < 97
  · rw [if_pos (show nI c < 97 from zlt (b := 97) (by omega) (by decide) q)]
  · rw [if_neg (show ¬ nI c < 97 from znlt (b := 97) (by omega) (by decide) (by omega)), if_pos (show 122 < nI c from zlt (a := 122) (by decide) (by omega) (by omega))]
theorem zrS.nx {Ls : List zLv} {len w : Nat} {f : zFd} (h : zrS m σr σ2 Ls len f i w) : zrS m σr (up σ2 87 27 (σ2 87 27 + 1)) Ls len f (i + 1) w := by
  rw [h.2.2.2.2.2.2.2.2.1, nI_1]
  exact h.u7
/-- a leaf -/
theorem z_lf {Ls : List zLv} {len k d : Nat} {f : zFd} {D X : Int32} {rr : Option (Bool × St)} (hX : zTx a m l T σc σr) (h : zR0 a m σc σr σ1 σ2 Ls len f i) (hi : i < l) (hF : l - i < F + 1) (hk : k < 3) (hd : k = 2 → D = nI d ∧ X = nI d ∧ d < 26)
    (ht : m_X4_takeUnit σ1 (nI (T i)) = m_X4_addLeaf σ1 (nI k) D) (hr : rr = (m_X10_part (up σ2 87 28 0) (nI k) X (-1) 0).bind fun u1 => (m_X10_unit u1.2 u1.1).bind fun u3 => m_X10_readsUnit_b160 (up u3 87 28 1)) :
    zNx a m l σc σr (zLc m (F + 1) (σ1, nI i)) rr i := by
  obtain ⟨h1, h2, h3, h4, h5, h6⟩ := h
  have hl := hX.1
  obtain ⟨τ1, c1, c2⟩ := z_leaf (k := k) (c := d) (D := D) h1 (by omega) hk (fun q => (hd q).1)
  have g2 : zrS m σr (up σ2 87 28 0) Ls len f i 0 := h2.u8 0
  obtain ⟨τ2, r1, r2⟩ := z_part (k := k) (x := 0) (y := 0) (c := d) (X := X) (Y := -1) (C := 0) g2 (by omega) (fun q => (hd q).2.1) (fun q => by omega) (fun q => by unfold zbin at q; omega) (fun q => by omega)
  match Ls, h5, h3, h6, c2, r2 with
  | (fr, uk, uc, lf, o, n, ah) :: Ls, _, h3, h6, c2, r2 =>
    obtain ⟨ρ1, ρ2, u', len', f', d1, d2, d3, d4, d5, d6, d7⟩ := z_uc (b := i + 1) (h3.mono (by omega)) (h4.ad (by omega) (fun q => (hd q).2.2) (fun q => by omega) (fun q => by unfold zbin at q; omega) (fun q => by omega)) (Nat.lt_succ_self _) (by omega) (by omega) c2 r2
    refine Or.inr (Or.inr ⟨i + 1, ρ1, _, fr, uk, uc, lf, o, u', Ls, len', f', F, Nat.lt_succ_self _, by omega, by omega, ?_, ?_, d3, (d4.u8 1).nx, d5, d6, d7⟩)
    · rw [hX.ps h1.2.1 hi, z_tk0 h1.2.2.2.2.2.2.2.2.2.2, ht, c1, Option.bind_some, if_neg zbIt, if_pos (show τ1 73 8 = 3 from c2.2.2.2.2.2.2.2.2.2.2), d1, Option.bind_some]
    · rw [hr, r1, Option.bind_some, d2, Option.bind_some]
      rfl
theorem z_ahd {fr uk uc lf len w k c : Nat} {o n : Option Nat} {ah : List (Nat × Nat)} {Ls : List zLv} {f : zFd} {K C : Int32} (h : zrS m σr σ2 ((fr, uk, uc, lf, o, n, ah) :: Ls) len f i w) (hN : (ah ++ zA Ls).length < 62) (hK : K = nI k) (hC : C = nI c) :
    ∃ τ, zrS m σr τ ((fr, uk, uc, lf, o, n, (k, c) :: ah) :: Ls) len f i w ∧ ∀ {β : Type} (g : St → Option β), (chk (σ2 87 26) 62 <| chk ((up σ2 105 (Int32.toNatClampNeg (σ2 87 26)) K) 87 26) 62 <| g (up (up (up σ2 105 (Int32.toNatClampNeg (σ2 87 26)) K) 106 (Int32.toNatClampNeg ((up σ2 105 (Int32.toNatClampNeg (σ2 87 26)) K) 87 26)) C) 87 26 (((up (up σ2 105 (Int32.toNatClampNeg (σ2 87 26)) K) 106 (Int32.toNatClampNeg ((up σ2 105 (Int32.toNatClampNeg (σ2 87 26)) K) 87 26)) C) 87 26) + 1))) = g τ := by
  obtain ⟨hm, g1, g2, g3, g4, g5, g6, ⟨l1, l2, l3, l4, l5, l6, l7⟩, g8, g9⟩ := h
  have g5 : σ2 87 26 = nI (ah ++ zA Ls).length := g5
  have g6 : zSk (σ2 105) (σ2 106) (ah ++ zA Ls) := g6
  have e : ∀ (τ : St) (k j : Nat) (v : Int32), k ≠ 87 → up τ k j v 87 = τ 87 := fun τ k j v q => zup_n (fun r => q r.symm)
  have d : ∀ (τ : St) (k c j : Nat) (v : Int32), c ≠ k → up τ k j v c = τ c := fun τ k c j v q => zup_n q
  refine ⟨up (up (up σ2 105 (ah ++ zA Ls).length (nI k)) 106 (ah ++ zA Ls).length (nI c)) 87 26 (nI ((ah ++ zA Ls).length + 1)), ⟨hm, ((g1.u (by omega)).u (by omega)).u (by omega), ?_, ⟨?_, ?_⟩, ?_, zup_ss _ _ _ _, ⟨?_, ?_, ?_⟩, ⟨?_, ?_, ?_, fun q => ?_, ?_, fun q => ⟨?_, ?_⟩, ?_⟩, ?_, ?_⟩, fun g => ?_⟩
  · rw [zup_sn (by decide), d _ _ _ _ _ (by decide), d _ _ _ _ _ (by decide)]; exact g2
  · rw [zup_sn (by decide), d _ _ _ _ _ (by decide), d _ _ _ _ _ (by decide)]; exact g3.1
  · iterate 12 rw [zup_n (by decide)]
    exact g3.2
  · rw [zup_sn (by decide), d _ _ _ _ _ (by decide), d _ _ _ _ _ (by decide)]; exact g4
  · rw [d _ _ _ _ _ (by decide), d _ _ _ _ _ (by decide)]; exact zup_ss _ _ _ _
  · rw [d _ _ _ _ _ (by decide)]; exact zup_ss _ _ _ _
  · have g6 : zSk (σ2 105) (σ2 106) (ah ++ zA Ls) := g6
    exact g6.g (fun j hj => by rw [zup_n (by decide), zup_n (by decide), zup_sn (by omega)]) (fun j hj => by rw [zup_n (by decide), zup_sn (by omega), zup_n (by decide)])
  · iterate 3 rw [zup_n (by decide)]
    exact l1
  · iterate 3 rw [zup_n (by decide)]
    exact l2
  · iterate 3 rw [zup_n (by decide)]
    exact l3
  · iterate 3 rw [zup_n (by decide)]
    exact l4 q
  · iterate 3 rw [zup_n (by decide)]
    exact l5
  · iterate 3 rw [zup_n (by decide)]
    exact (l6 q).1
  · iterate 3 rw [zup_n (by decide)]
    exact (l6 q).2
  · exact l7.g (fun k j a b c => by rw [zup_n (by omega), zup_n (by omega), zup_n (by omega)])
  · rw [zup_sn (by decide), d _ _ _ _ _ (by decide), d _ _ _ _ _ (by decide)]; exact g8
  · rw [zup_sn (by decide), d _ _ _ _ _ (by decide), d _ _ _ _ _ (by decide)]; exact g9
  · subst hK; subst hC
    rw [g5, zck2 hN, e _ 105 _ _ (by decide), g5, zck2 hN, nI_clamp (by omega), e _ 106 _ _ (by decide), e _ 105 _ _ (by decide), g5, nI_1]
theorem z_174 {is : Nat} (hi : is ≤ 1) (x : Int32) {k : Nat} (hk : k < 10) : m_X10_readsAgents_b174 σ2 (nI is) x (nI k) = m_X10_readsAgents_b194 σ2 x (nI (4 * is)) (nI k) := by
  unfold m_X10_readsAgents_b174
  rw [if_pos (show (0 : Int32) ≤ nI k from zle (a := 0) (by decide) (by omega) (Nat.zero_le _))]
  have : is = 0 ∨ is = 1 := by omega
  rcases this with rfl | rfl
  · rw [if_pos (show nI 0 = 0 from rfl)]; rfl
  · rw [if_neg (show ¬ nI 1 = 0 by decide)]; rfl
theorem z_gf {Ls : List zLv} {len k co is : Nat} {f : zFd} (hX : zTx a m l T σc σr) (hk : zLk a len Ls) (ho : zOk a len f) (hn : Ls ≠ []) (hb : len + (zO Ls).length < i) (hi : i < l) (hF : l - i < F + 1) (hs : is ≤ 1) (hco : co < 2 ^ a) (h1 : zcS m σc σ1 (zO Ls) (zRq Ls) len f 2) (h2 : zrS m σr σ2 Ls len f i 0) (hT : ¬ T i = 40) (hkk : k = 6 ∨ k = 7 ∨ k = 8)
    (ht : m_X4_take σ1 (nI (T i)) = some (m_X4_push σ1 (nI (k + 4 * is)) (nI co))) :
    zNx a m l σc σr (zLc m (F + 1) (σ1, nI i)) (m_X10_readsAgents_b174 σ2 (nI is) (nI co) (nI k)) i := by
  have hl := hX.1
  have hT := (hX.2.2.2.2.2.2.2.2.2.2 i hi)
  obtain ⟨n1, n2⟩ := zO_len hk
  obtain ⟨τ1, c1, c2⟩ := z_push h1 (by omega) (k + 4 * is) co
  match Ls, hn, hk, hb, c2, h2, n1, n2 with
  | (fr, uk, uc, lf, o, n, ah) :: Ls, _, hk, hb, c2, h2, n1, n2 =>
    have n2 : (ah ++ zA Ls).length ≤ _ := n2
    obtain ⟨τ2, r1, r2⟩ := z_ahd (k := k + 4 * is) (c := co) (K := nI k + nI (4 * is)) (C := nI co) h2 (by omega) (nI_add _ _) rfl
    obtain ⟨k1, k2, k3, k4, k5, k6, k7, k8, k9⟩ := hk
    refine Or.inr (Or.inl ⟨i + 1, τ1, _, (fr, uk, uc, lf, o, n, (k + 4 * is, co) :: ah) :: Ls, len, f, F, Nat.lt_succ_self _, by omega, by omega, ?_, ?_, c2, r1.nx, ⟨k1, k2, k3, k4, k5, k6, fun x hx => ?_, k8, k9⟩, ho, by simp, ?_⟩)
    · rw [hX.ps h1.2.1 hi, ht, Option.bind_some, c1, if_neg zbIt, if_neg (show ¬ τ1 73 8 = 3 by rw [c2.2.2.2.2.2.2.2.2.2.2]; decide)]
    · rw [z_174 hs _ (by omega)]
      unfold m_X10_readsAgents_b194
      rw [hX.sg h2.2.1 h2.2.2.2.2.2.2.2.2.1 (by omega), if_pos hi, Option.bind_some, if_neg (show ¬ nI (T i) = 40 from zne (b := 40) (by omega) (by decide) (by assumption)), r2]
      rfl
    · rcases List.mem_cons.mp hx with rfl | hx
      · exact ⟨by unfold zpx; omega, hco⟩
      · exact k7 x hx
    · have : (zO ((fr, uk, uc, lf, o, n, (k + 4 * is, co) :: ah) :: Ls)).length = (zO ((fr, uk, uc, lf, o, n, ah) :: Ls)).length + 1 := by simp [zO]
      omega
theorem z_tk2 (h : σ1 73 8 = 2) (x : Int32) : m_X4_take σ1 x = some (m_X4_takeGoal σ1 x) := by
  unfold m_X4_take
  rw [h, if_neg (by decide), if_neg (by decide), if_pos rfl]
theorem z_goal {Ls : List zLv} {len co is : Nat} {f : zFd} (hX : zTx a m l T σc σr) (hk : zLk a len Ls) (ho : zOk a len f) (hn : Ls ≠ []) (hb : len + (zO Ls).length < i) (hi : i ≤ l) (hF : l - i < F) (hs : is ≤ 1) (hco : co < 2 ^ a) (h1 : zcS m σc σ1 (zO Ls) (zRq Ls) len f 2) (h9 : σ1 73 9 = nI co) (h10 : σ1 73 10 = nI (4 * is)) (h2 : zrS m σr σ2 Ls len f i 0) :
    zNx a m l σc σr (zLc m F (σ1, nI i)) ((m_X10_sign σ2).bind fun u3 => if u3 = 88 then m_X10_readsAgents_b174 σ2 (nI is) (nI co) 6 else (m_X10_sign σ2).bind fun u7 => if u7 = 70 then m_X10_readsAgents_b174 σ2 (nI is) (nI co) 7 else (m_X10_sign σ2).bind fun u11 => if u11 = 71 then m_X10_readsAgents_b174 σ2 (nI is) (nI co) 8 else (m_X10_sign σ2).bind fun u15 => if u15 = 40 then m_X10_readsAgents_b174 σ2 (nI is) (nI co) 9 else m_X10_readsAgents_b174 σ2 (nI is) (nI co) (-1)) i := by
  have hl := hX.1
  obtain ⟨F, rfl⟩ : ∃ k, F = k + 1 := ⟨F - 1, by omega⟩
  have hmd : σ1 73 8 = 2 := h1.2.2.2.2.2.2.2.2.2.2
  rw [hX.sg h2.2.1 h2.2.2.2.2.2.2.2.2.1 (by omega)]
  simp only [Option.bind_some]
  by_cases hl2 : i < l
  · rw [if_pos hl2]
    have hT := (hX.2.2.2.2.2.2.2.2.2.2 i hl2)
    have z : ∀ {b : Nat}, b < 2 ^ 31 → ¬ T i = b → ¬ nI (T i) = nI b := fun hb q => zne (by omega) hb q
    by_cases c88 : T i = 88
    · rw [if_pos (show nI (T i) = 88 by rw [c88]; rfl)]
      refine z_gf hX hk ho hn hb hl2 hF hs hco h1 h2 (by omega) (Or.inl rfl) ?_
      rw [z_tk2 hmd, c88]
      unfold m_X4_takeGoal
      rw [if_neg (by decide), if_neg (by decide), if_neg (by decide), if_pos (by decide), h9, h10, show (6 : Int32) = nI 6 from rfl, nI_add]
    rw [if_neg (show ¬ nI (T i) = 88 from z (b := 88) (by decide) c88)]
    by_cases c70 : T i = 70
    · rw [if_pos (show nI (T i) = 70 by rw [c70]; rfl)]
      refine z_gf hX hk ho hn hb hl2 hF hs hco h1 h2 (by omega) (Or.inr (Or.inl rfl)) ?_
      rw [z_tk2 hmd, c70]
      unfold m_X4_takeGoal
      rw [if_neg (by decide), if_pos (by decide), h9, h10, show (7 : Int32) = nI 7 from rfl, nI_add]
    rw [if_neg (show ¬ nI (T i) = 70 from z (b := 70) (by decide) c70)]
    by_cases c71 : T i = 71
    · rw [if_pos (show nI (T i) = 71 by rw [c71]; rfl)]
      refine z_gf hX hk ho hn hb hl2 hF hs hco h1 h2 (by omega) (Or.inr (Or.inr rfl)) ?_
      rw [z_tk2 hmd, c71]
      unfold m_X4_takeGoal
      rw [if_neg (by decide), if_neg (by decide), if_pos (by decide), h9, h10, show (8 : Int32) = nI 8 from rfl, nI_add]
    rw [if_neg (show ¬ nI (T i) = 71 from z (b := 71) (by decide) c71)]
    by_cases c40 : T i = 40
    · rw [if_pos (show nI (T i) = 40 by rw [c40]; rfl)]
      obtain ⟨n1, n2⟩ := zO_len hk
      obtain ⟨τ1, c1, c2⟩ := z_push h1 (by omega) (15 + 4 * is) co
      obtain ⟨τ2, r1, r2⟩ := z_opens h2 (by omega) (fr := 2) (by decide) (9 + 4 * is) co
      refine Or.inr (Or.inl ⟨i + 1, τ1, _, (2, 9 + 4 * is, co, 0, none, none, []) :: Ls, len, f, F, Nat.lt_succ_self _, by omega, by omega, ?_, ?_, ?_, r2.nx, ⟨by decide, fun q => absurd q (by decide), fun _ => ⟨by omega, hco⟩, fun q => absurd q (by decide), fun x q => (by cases q), fun x q => (by cases q), fun x q => absurd q (by simp), fun q => absurd q hn, hk⟩, ho, by simp, ?_⟩)
      · rw [hX.ps h1.2.1 hl2, z_tk2 hmd, c40]
        unfold m_X4_takeGoal
        rw [if_pos (by decide), h9, h10, show (15 : Int32) = nI 15 from rfl, nI_add, c1, Option.bind_some, if_neg zbIt, if_neg (show ¬ τ1 73 8 = 3 by rw [c2.2.2.2.2.2.2.2.2.2.2]; decide)]
      · rw [show (9 : Int32) = nI 9 from rfl, z_174 hs _ (by omega)]
        unfold m_X10_readsAgents_b194
        rw [hX.sg h2.2.1 h2.2.2.2.2.2.2.2.2.1 (by omega), if_pos hl2, Option.bind_some, if_pos (show nI (T i) = 40 by rw [c40]; rfl), nI_add]
        have r1 : m_X10_opens σ2 2 (nI (9 + 4 * is)) (nI co) = some τ2 := r1
        rw [r1]
        rfl
      · have : zO ((2, 9 + 4 * is, co, 0, none, none, []) :: Ls) = (15 + 4 * is, co) :: zO Ls := by
          show [(9 + 4 * is + 6, co)] ++ zO Ls = _
          rw [show 9 + 4 * is + 6 = 15 + 4 * is by omega]; rfl
        rw [this]
        exact c2
      · have : (zO ((2, 9 + 4 * is, co, 0, none, none, []) :: Ls)).length = (zO Ls).length + 1 := by simp [zO, zo4, zo5, zop]
        omega
    rw [if_neg (show ¬ nI (T i) = 40 from z (b := 40) (by decide) c40)]
    refine Or.inl ⟨i, σ1, σ2, by omega, h1.2.1, h2.2.1, ?_, ?_, h2.2.2.2.2.2.2.2.2.1⟩
    · rw [hX.ps h1.2.1 hl2, z_tk2 hmd]
      unfold m_X4_takeGoal
      rw [if_neg (show ¬ nI (T i) = 40 from z (b := 40) (by decide) c40), if_neg (show ¬ nI (T i) = 70 from z (b := 70) (by decide) c70), if_neg (show ¬ nI (T i) = 71 from z (b := 71) (by decide) c71), if_neg (show ¬ nI (T i) = 88 from z (b := 88) (by decide) c88), Option.bind_some, if_pos zbIf]
    · unfold m_X10_readsAgents_b174
      rw [if_neg (by decide)]
  · have : i = l := by omega
    subst this
    rw [if_neg hl2, if_neg (by decide), if_neg (by decide), if_neg (by decide), if_neg (by decide)]
    refine Or.inl ⟨i, σ1, σ2, by omega, h1.2.1, h2.2.1, hX.pe h1.2.1 (by rw [hmd]; decide), ?_, h2.2.2.2.2.2.2.2.2.1⟩
    unfold m_X10_readsAgents_b174
    rw [if_neg (by decide)]
theorem z_tk1 (h : σ1 73 8 = 1) (x : Int32) : m_X4_take σ1 x = some (m_X4_takeAgent σ1 x) := by
  unfold m_X4_take
  rw [h, if_neg (by decide), if_pos rfl]
theorem zNx.mono {rc : Option (Int32 × St)} {rr : Option (Bool × St)} {i' : Nat} (hi : i' ≤ i) (h : zNx a m l σc σr rc rr i) : zNx a m l σc σr rc rr i' := by
  rcases h with h | ⟨j, s1, s2, Ls, len, f, F, h1, h2⟩ | ⟨j, s1, s2, fr, uk, uc, lf, o, u, Ls, len, f, F, h1, h2⟩
  · exact Or.inl h
  · exact Or.inr (Or.inl ⟨j, s1, s2, Ls, len, f, F, by omega, h2⟩)
  · exact Or.inr (Or.inr ⟨j, s1, s2, fr, uk, uc, lf, o, u, Ls, len, f, F, by omega, h2⟩)
theorem z_rin {c p q : Nat} (hc : c < 2 ^ 31) (hp : p < 2 ^ 31) (hq : q < 2 ^ 31) : m_X10_in (nI c) (nI p) (nI q) = decide (p ≤ c ∧ c ≤ q) := by
  unfold m_X10_in
  by_cases h1 : p ≤ c
  · rw [if_neg (znlt hc hp h1)]
    by_cases h2 : c ≤ q
    · rw [if_neg (znlt hq hc h2), decide_eq_true ⟨h1, h2⟩]
    · rw [if_pos (zlt hq hc (by omega)), decide_eq_false (fun r => h2 r.2)]
  · rw [if_pos (zlt hc hp (by omega)), decide_eq_false (fun r => h1 r.1)]
theorem z_rin1 {p q : Nat} (hp : p < 200) : m_X10_in (-1) (nI p) (nI q) = false := by
  unfold m_X10_in
  rw [if_pos ((by decide +kernel : ∀ p, p < 200 → (-1 : Int32) < nI p) p hp)]
theorem z_sh : ∀ x, x < 4 → ∀ co, co < 16 → ((nI co >>> (nI x &&& 31) = 0) ↔ co < 2 ^ x) ∧ (co < 2 ^ x → nI co ||| ((1 : Int32) <<< (nI x &&& 31)) = nI (co + 2 ^ x)) := by decide +kernel
theorem z_ag {Ls : List zLv} {len is : Nat} {f : zFd} (hX : zTx a m l T σc σr) (hk : zLk a len Ls) (ho : zOk a len f) (hn : Ls ≠ []) (hs : is ≤ 1) : ∀ (d i : Nat) (σ1 σ2 : St) (co least Fc Fr : Nat), l - i ≤ d → i ≤ l → len + (zO Ls).length < i → zcS m σc σ1 (zO Ls) (zRq Ls) len f 1 → σ1 73 9 = nI co → σ1 73 10 = nI (4 * is) → zrS m σr σ2 Ls len f i 0 → co < 2 ^ least → (least = 0 ∨ 2 ^ (least - 1) ≤ co) → least ≤ a → l - i < Fc → l - i < Fr →
    zNx a m l σc σr (zLc m Fc (σ1, nI i)) (loopF (fun k z => m_X10_readsAgents_b29 z.1 (nI is) z.2.1 z.2.2 k) Fr (σ2, nI co, nI least)) i := by
  obtain ⟨x1, x2, x3, x4, x5, x6, x7, x8, x9, x10, x11⟩ := id hX
  have pw : ∀ x y : Nat, x ≤ y → 2 ^ x ≤ 2 ^ y := fun x y h => Nat.pow_le_pow_right (by decide) h
  have ref : ∀ (i : Nat) (σ2 : St) (co least : Nat) (k : (St × Int32 × Int32) → Option (Bool × St)) (s : Int32), i ≤ l → least ≤ a → zrS m σr σ2 Ls len f i 0 → s = (if i < l then nI (T i) else -1) →
      m_X10_readsAgents_b29 σ2 (nI is) (nI co) (nI least) k = if bI (m_X10_in s (nI (48 + least)) (nI (48 + a - 1))) = 0 then m_X10_readsAgents_b102 σ2 (nI is) (nI co) (nI (62 + 31 * is)) s else k ((up σ2 87 27 ((σ2 87 27) + 1)), (nI co ||| ((1 : Int32) <<< ((s - 48) &&& 31))), ((s - 48) + 1)) := by
    intro i σ2 co least k s hi hle h2 hs'
    unfold m_X10_readsAgents_b29
    rw [hX.sg h2.2.1 h2.2.2.2.2.2.2.2.2.1 (by omega), ← hs', h2.2.1.2.1 0 (by decide) (by decide) (by decide) (by decide) (by decide), x9]
    simp only [Option.bind_some]
    rw [show (48 : Int32) = nI 48 from rfl, nI_add, nI_add, show nI (48 + a) - 1 = nI (48 + a - 1) from pk_sub (b := 1) (by omega)]
    have : is = 0 ∨ is = 1 := by omega
    rcases this with rfl | rfl
    · rw [if_pos (show nI 0 = 0 from rfl)]; rfl
    · rw [if_neg (show ¬ nI 1 = 0 by decide)]; rfl
  have hend : ∀ (σ1 σ2 : St) (co least Fc Fr : Nat), zcS m σc σ1 (zO Ls) (zRq Ls) len f 1 → zrS m σr σ2 Ls len f l 0 → least ≤ a → 0 < Fc → 0 < Fr →
      zNx a m l σc σr (zLc m Fc (σ1, nI l)) (loopF (fun k z => m_X10_readsAgents_b29 z.1 (nI is) z.2.1 z.2.2 k) Fr (σ2, nI co, nI least)) l := by
    intro σ1 σ2 co least Fc Fr h1 h2 hle hFc hFr
    obtain ⟨Fc, rfl⟩ : ∃ k, Fc = k + 1 := ⟨Fc - 1, by omega⟩
    obtain ⟨Fr, rfl⟩ : ∃ k, Fr = k + 1 := ⟨Fr - 1, by omega⟩
    refine Or.inl ⟨l, σ1, σ2, by omega, h1.2.1, h2.2.1, hX.pe h1.2.1 (by rw [h1.2.2.2.2.2.2.2.2.2.2]; decide), ?_, h2.2.2.2.2.2.2.2.2.1⟩
    refine (ref l σ2 co least _ (-1) (Nat.le_refl _) hle h2 (by rw [if_neg (Nat.lt_irrefl _)])).trans ?_
    rw [z_rin1 (by omega), if_pos zbIf]
    unfold m_X10_readsAgents_b102
    rw [if_neg (fun q => znm1 (by omega) q.symm)]
  intro d
  induction d with
  | zero =>
    intro i σ1 σ2 co least Fc Fr hd hi hb h1 h9 h10 h2 hc1 hc2 hle hFc hFr
    have : i = l := by omega
    subst this
    exact hend σ1 σ2 co least Fc Fr h1 h2 hle (by omega) (by omega)
  | succ d ih =>
    intro i σ1 σ2 co least Fc Fr hd hi hb h1 h9 h10 h2 hc1 hc2 hle hFc hFr
    by_cases hl2 : i < l
    · obtain ⟨Fc, rfl⟩ : ∃ k, Fc = k + 1 := ⟨Fc - 1, by omega⟩
      obtain ⟨Fr, rfl⟩ : ∃ k, Fr = k + 1 := ⟨Fr - 1, by omega⟩
      obtain ⟨t1, t2⟩ := x11 i hl2
      have er := ref i σ2 co least (loopF (fun k z => m_X10_readsAgents_b29 z.1 (nI is) z.2.1 z.2.2 k) Fr) (nI (T i)) hi hle h2 (by rw [if_pos hl2])
      have er : loopF (fun k z => m_X10_readsAgents_b29 z.1 (nI is) z.2.1 z.2.2 k) (Fr + 1) (σ2, nI co, nI least) = _ := er
      have ec := hX.ps (F := Fc) h1.2.1 hl2
      have hmd : σ1 73 8 = 1 := h1.2.2.2.2.2.2.2.2.2.2
      have ek : m_X4_takeAgent σ1 (nI (T i)) = m_X4_takeAgent_b15 σ1 (nI (T i)) (nI (62 + 31 * is)) (nI (T i)) := by
        unfold m_X4_takeAgent
        rw [h10]
        have : is = 0 ∨ is = 1 := by omega
        rcases this with rfl | rfl
        · rw [if_pos (show nI (4 * 0) = 0 from rfl)]; rfl
        · rw [if_neg (show ¬ nI (4 * 1) = 0 by decide)]; rfl
      rw [z_tk1 hmd, ek, Option.bind_some] at ec
      rw [z_rin (by omega) (by omega) (by omega)] at er
      rw [er, ec]
      by_cases hcl : T i = 62 + 31 * is
      · have hb : m_X4_takeAgent_b15 σ1 (nI (T i)) (nI (62 + 31 * is)) (nI (T i)) = (true, up σ1 73 8 2) := by
          unfold m_X4_takeAgent_b15
          rw [if_pos (by rw [hcl])]
        rw [hb, decide_eq_false (by omega), if_pos zbIf]
        unfold m_X10_readsAgents_b102
        rw [if_pos (show nI (T i) = nI (62 + 31 * is) by rw [hcl])]
        dsimp only
        rw [if_neg zbIt, if_neg (show ¬ up σ1 73 8 2 73 8 = 3 by rw [zup_ss]; decide)]
        refine (z_goal hX hk ho hn (by omega) (by omega) (by omega) hs (Nat.lt_of_lt_of_le hc1 (pw _ _ hle)) (h1.setm 2) ?_ ?_ h2.nx).mono (Nat.le_succ i)
        · rw [zup_sn (by decide)]; exact h9
        · rw [zup_sn (by decide)]; exact h10
      · by_cases hag : 48 + least ≤ T i ∧ T i ≤ 48 + a - 1
        · obtain ⟨x, hx⟩ : ∃ x, T i = 48 + x := ⟨T i - 48, by omega⟩
          have hlx := pw least x (by omega)
          have hx4 : x < 4 := by omega
          have p4 : 2 ^ x ≤ 8 := pw x 3 (by omega)
          obtain ⟨s1, s2⟩ := z_sh x hx4 co (by omega)
          have e48 : nI (T i) - 48 = nI x := by rw [hx, show (48 : Int32) = nI 48 from rfl, pk_sub (by omega), Nat.add_sub_cancel_left]
          have hb : m_X4_takeAgent_b15 σ1 (nI (T i)) (nI (62 + 31 * is)) (nI (T i)) = (true, up σ1 73 9 (nI (co + 2 ^ x))) := by
            unfold m_X4_takeAgent_b15
            rw [if_neg (zne (by omega) (by omega) hcl), e48, if_neg (nI_pos (by omega)), h1.2.1.2.1, x6, if_neg (znle (by omega) (by omega) (by omega)), h9, if_pos (s1.mpr (by omega)), s2 (by omega)]
          rw [hb, decide_eq_true hag, if_neg zbIt, e48, s2 (by omega), nI_1]
          dsimp only
          rw [if_neg zbIt, if_neg (show ¬ up σ1 73 9 (nI (co + 2 ^ x)) 73 8 = 3 by rw [zup_sn (by decide), hmd]; decide)]
          have h1' : zcS m σc (up σ1 73 9 (nI (co + 2 ^ x))) (zO Ls) (zRq Ls) len f 1 := by
            obtain ⟨hm, y1, y2, y3, y4, y5, y6, y7, y8, y9, y10⟩ := h1
            refine ⟨hm, y1.u (by omega), ?_, ?_, ?_, ?_, ?_, y7.e (fun k a b => zup_n (by omega)), y8, y9, ?_⟩
            · rw [zup_sn (by decide)]; exact y2
            · rw [zup_n (by decide), zup_n (by decide)]; exact y3
            · rw [zup_sn (by decide)]; exact y4
            · rw [zup_n (by decide)]; exact y5
            · rw [zup_sn (by decide)]; exact y6
            · rw [zup_sn (by decide)]; exact y10
          have p5 : 2 ^ (x + 1) = 2 ^ x * 2 := Nat.pow_succ ..
          exact (ih (i + 1) _ _ (co + 2 ^ x) (x + 1) Fc Fr (by omega) (by omega) (by omega) h1' (zup_ss _ _ _ _) (by rw [zup_sn (by decide)]; exact h10) h2.nx (by omega) (Or.inr (by rw [Nat.add_sub_cancel]; omega)) (by omega) (by omega) (by omega)).mono (Nat.le_succ i)
        · have hb : m_X4_takeAgent_b15 σ1 (nI (T i)) (nI (62 + 31 * is)) (nI (T i)) = (false, σ1) := by
            unfold m_X4_takeAgent_b15
            rw [if_neg (zne (by omega) (by omega) hcl)]
            by_cases q48 : T i < 48
            · rw [if_pos ((by decide +kernel : ∀ c, c < 48 → nI c - 48 < 0) _ q48)]
            · obtain ⟨x, hx⟩ : ∃ x, T i = 48 + x := ⟨T i - 48, by omega⟩
              have e48 : nI (T i) - 48 = nI x := by rw [hx, show (48 : Int32) = nI 48 from rfl, pk_sub (by omega), Nat.add_sub_cancel_left]
              rw [e48, if_neg (nI_pos (by omega)), h1.2.1.2.1, x6]
              by_cases qa : a ≤ x
              · rw [if_pos (zle (by omega) (by omega) qa)]
              · have hx4 : x < 4 := by omega
                have p1 := pw x (least - 1) (by omega)
                have p16 : 2 ^ least ≤ 2 ^ 4 := pw least 4 (by omega)
                obtain ⟨s1, s2⟩ := z_sh x hx4 co (by omega)
                rw [if_neg (znle (by omega) (by omega) (by omega)), h9, if_neg (fun q => by have := s1.mp q; omega)]
          rw [hb, decide_eq_false hag, if_pos zbIf]
          unfold m_X10_readsAgents_b102
          rw [if_neg (zne (by omega) (by omega) hcl)]
          refine Or.inl ⟨i, σ1, σ2, by omega, h1.2.1, h2.2.1, ?_, rfl, h2.2.2.2.2.2.2.2.2.1⟩
          rfl
    · have : i = l := by omega
      subst this
      exact hend σ1 σ2 co least Fc Fr h1 h2 hle (by omega) (by omega)
end RT
