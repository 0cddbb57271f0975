section RT
variable {a m l i : Nat} {T : Nat → Nat} {σc σr σ1 σ2 : St}
def zOut (a m : Nat) (σc σr : St) (rc : Option (Int32 × St)) (rr : Option (Bool × St)) : Prop :=
  (∃ j σ1 σ2, j ≤ 60 ∧ zcf m σc σ1 ∧ zqf m σr σ2 ∧ rc = some (nI j, σ1) ∧ rr = some (false, σ2) ∧ σ2 87 27 = nI j) ∨
  (∃ σ1 σ2 len f, zcf m σc σ1 ∧ zqf m σr σ2 ∧ rc = some (-1, σ1) ∧ rr = some (true, σ2) ∧ zFok a len f ∧ zFc σ1 (25 + 5 * m) len f ∧ zRn σ2 m len f)
theorem z_rs {Ls : List zLv} {len w F : Nat} {f : zFd} (hX : zTx a m l T σc σr) (h : zrS m σr σ2 Ls len f i w) (hi : i < l) (hw : w ≤ 1) : zLr (F + 1) σ2 = (if w = 0 then m_X10_readsUnit σ2 else m_X10_readsBehind σ2).bind fun u => if bI u.1 = 0 then some (false, u.2) else zLr F u.2 := by
  obtain ⟨x1, x2, x3, x4, x5, x6, x7, x8, x9, x10, x11⟩ := hX
  show m_X10_parses_b32 σ2 (zLr F) = _
  unfold m_X10_parses_b32
  rw [h.2.1.2.1 8 (by decide) (by decide) (by decide) (by decide) (by decide), x8, h.2.2.2.2.2.2.2.2.1, h.2.2.2.2.2.2.2.2.2, if_neg (znle (by omega) (by omega) hi)]
  have : w = 0 ∨ w = 1 := by omega
  rcases this with rfl | rfl
  · rw [if_pos (show nI 0 = 0 from rfl), if_pos rfl]
  · rw [if_neg (show ¬ nI 1 = 0 by decide), if_neg (by decide)]
theorem z_e0 {Ls : List zLv} {len Fc Fr : Nat} {f : zFd} (hX : zTx a m l T σc σr) (h : zR0 a m σc σr σ1 σ2 Ls len f l) (hFc : 0 < Fc) (hFr : 0 < Fr) : zOut a m σc σr (zLc m Fc (σ1, nI l)) (zLr Fr σ2) := by
  obtain ⟨Fc, rfl⟩ : ∃ k, Fc = k + 1 := ⟨Fc - 1, by omega⟩
  obtain ⟨Fr, rfl⟩ : ∃ k, Fr = k + 1 := ⟨Fr - 1, by omega⟩
  obtain ⟨h1, h2, -⟩ := h
  refine Or.inl ⟨l, σ1, σ2, hX.1, h1.2.1, h2.2.1, hX.pe h1.2.1 (by rw [h1.2.2.2.2.2.2.2.2.2.2]; decide), ?_, h2.2.2.2.2.2.2.2.2.1⟩
  obtain ⟨x1, x2, x3, x4, x5, x6, x7, x8, x9, x10, x11⟩ := hX
  show m_X10_parses_b32 σ2 (zLr Fr) = _
  unfold m_X10_parses_b32
  rw [h2.2.1.2.1 8 (by decide) (by decide) (by decide) (by decide) (by decide), x8, h2.2.2.2.2.2.2.2.2.1, h2.2.2.2.2.2.2.2.2.2, if_pos (Int32.le_refl _), if_pos (show nI 0 = 0 from rfl)]
theorem z_e1 {fr uk uc lf u : Nat} {o : Option Nat} {Ls : List zLv} {len Fc Fr b : Nat} {f : zFd} (hX : zTx a m l T σc σr) (h : zR1 a m σc σr σ1 σ2 fr uk uc lf o u Ls len f l 1 b) (hb6 : b ≤ 60) (hFc : 0 < Fc) (hFr : 0 < Fr) : zOut a m σc σr (zLc m Fc (σ1, nI l)) (zLr Fr σ2) := by
  obtain ⟨Fc, rfl⟩ : ∃ k, Fc = k + 1 := ⟨Fc - 1, by omega⟩
  obtain ⟨Fr, rfl⟩ : ∃ k, Fr = k + 1 := ⟨Fr - 1, by omega⟩
  obtain ⟨⟨τ, e1, hmd, e3, c1⟩, h2, hk, ho, hb⟩ := id h
  obtain ⟨x1, x2, x3, x4, x5, x6, x7, x8, x9, x10, x11⟩ := id hX
  obtain ⟨n1, n2⟩ := zO_len hk
  obtain ⟨k1, k2, k3, k4, k5, k6, k7, k8, k9⟩ := id hk
  have hu : u < len := k6 u rfl
  have eO : (zO ((fr, uk, uc, lf, o, some u, []) :: Ls)).length = 1 + (zo5 o ++ (zop fr uk uc ++ zO Ls)).length := by simp [zO, zo4]; omega
  have e5 : (zo5 o ++ (zop fr uk uc ++ zO Ls)).length = o.toList.length + (zop fr uk uc ++ zO Ls).length := by rw [List.length_append, zo5_l]
  simp only [List.length_cons] at n1
  obtain ⟨ρ, p1, p2⟩ := z_c5 k1 k2 (fun q => (k3 q).1) c1
  obtain ⟨q1, q2, q3⟩ := zun_ok (k := 5) (o := o) (Or.inr rfl) ho hu k5
  obtain ⟨κ, j1, j2⟩ := z_joins (u := u) (fun x q => by have := k5 x q; omega) (by omega) (by rw [zo5_l]; omega) h2
  have p1 : m_X4_closeIf τ 5 = some ρ := p1
  have ec : zLc m (Fc + 1) (σ1, nI l) = if nI (zop fr uk uc ++ zO Ls).length = 0 then some (-1, ρ) else some (nI l, ρ) := by
    show m_X4_parse_b36 σ1 (25 + 5 * m) (nI l) (loopF _ Fc) = _
    unfold m_X4_parse_b36
    rw [e1.2.2, x5, if_pos (Int32.le_refl _), if_pos hmd, e3, Option.bind_some, p1, Option.bind_some, p2.2.2.1, p2.2.1.2.2, x5]
  have er : zLr (Fr + 1) σ2 = if nI Ls.length ≤ 0 then some (true, κ) else some (false, σ2) := by
    show m_X10_parses_b32 σ2 (zLr Fr) = _
    unfold m_X10_parses_b32
    rw [h2.2.1.2.1 8 (by decide) (by decide) (by decide) (by decide) (by decide), x8, h2.2.2.2.2.2.2.2.2.1, h2.2.2.2.2.2.2.2.2.2, if_pos (Int32.le_refl _), if_neg (show ¬ nI 1 = 0 by decide), j1, h2.2.2.2.2.1, show nI ((fr, uk, uc, lf, o, some u, []) :: Ls).length - 1 = nI Ls.length from zs1 _]
    rfl
  by_cases r : fr = 0
  · have hLs := k2 r
    subst hLs; subst r
    rw [if_pos (show nI (zop 0 uk uc ++ zO []).length = 0 from rfl)] at ec
    rw [if_pos (show nI (List.length ([] : List zLv)) ≤ 0 by decide)] at er
    refine Or.inr ⟨ρ, κ, _, _, p2.2.1, j2.2.1, ec, er, ⟨by omega, ?_, q1⟩, p2.2.2.2.2.2.2.2.1, j2.2.2.2.1⟩
    omega
  · have hne : Ls ≠ [] := fun q => r (k8 q)
    have hz : 1 ≤ (zop fr uk uc).length := by
      have : fr = 1 ∨ fr = 2 ∨ fr = 3 := by omega
      rcases this with rfl | rfl | rfl <;> exact Nat.le_refl 1
    have hl0 : 1 ≤ Ls.length := by cases Ls with
      | nil => exact absurd rfl hne
      | cons _ _ => simp
    have ha : (zop fr uk uc ++ zO Ls).length = (zop fr uk uc).length + (zO Ls).length := List.length_append
    rw [if_neg (zne0 (by omega) (by omega))] at ec
    rw [if_neg (show ¬ nI Ls.length ≤ 0 from znle (b := 0) (by omega) (by decide) hl0)] at er
    exact Or.inl ⟨l, ρ, σ2, by omega, p2.2.1, h2.2.1, ec, er, h2.2.2.2.2.2.2.2.2.1⟩
theorem z_rd (hX : zTx a m l T σc σr) : ∀ (d i : Nat), l - i ≤ d → i ≤ l →
    (∀ σ1 σ2 Ls len f Fc Fr, zR0 a m σc σr σ1 σ2 Ls len f i → l - i < Fc → l - i < Fr → zOut a m σc σr (zLc m Fc (σ1, nI i)) (zLr Fr σ2)) ∧
    (∀ σ1 σ2 fr uk uc lf o u Ls len f Fc Fr, zR1 a m σc σr σ1 σ2 fr uk uc lf o u Ls len f i 1 i → l - i < Fc → l - i < Fr → zOut a m σc σr (zLc m Fc (σ1, nI i)) (zLr Fr σ2)) := by
  have hl := hX.1
  intro d
  induction d with
  | zero =>
    intro i hd hi
    have : i = l := by omega
    subst this
    exact ⟨fun σ1 σ2 Ls len f Fc Fr h a b => z_e0 hX h (by omega) (by omega), fun σ1 σ2 fr uk uc lf o u Ls len f Fc Fr h a b => z_e1 hX h hl (by omega) (by omega)⟩
  | succ d ih =>
    intro i hd hi
    by_cases hl2 : i < l
    · have nx : ∀ (F : Nat) (rc : Option (Int32 × St)) (rr : Option (Bool × St)), l - i ≤ F → zNx a m l σc σr rc rr i → zOut a m σc σr rc (rr.bind fun u => if bI u.1 = 0 then some (false, u.2) else zLr F u.2) := by
        intro F rc rr hF hN
        rcases hN with ⟨j, s1, s2, h1, h2, h3, h4, h5, h6⟩ | ⟨j, s1, s2, Ls, len, f, F', h1, h2, h3, h4, h5, h6⟩ | ⟨j, s1, s2, fr, uk, uc, lf, o, u, Ls, len, f, F', h1, h2, h3, h4, h5, h6⟩
        · refine Or.inl ⟨j, s1, s2, h1, h2, h3, h4, ?_, h6⟩
          rw [h5, Option.bind_some, if_pos zbIf]
        · rw [h4, h5, Option.bind_some, if_neg zbIt]
          exact (ih j (by omega) h2).1 _ _ _ _ _ _ _ h6 h3 (by omega)
        · rw [h4, h5, Option.bind_some, if_neg zbIt]
          exact (ih j (by omega) h2).2 _ _ _ _ _ _ _ _ _ _ _ _ _ h6 h3 (by omega)
      constructor
      · intro σ1 σ2 Ls len f Fc Fr h hFc hFr
        obtain ⟨Fr, rfl⟩ : ∃ k, Fr = k + 1 := ⟨Fr - 1, by omega⟩
        rw [z_rs hX h.2.1 hl2 (by decide), if_pos rfl]
        exact nx Fr _ _ (by omega) (z_st0 hX h hl2 hFc)
      · intro σ1 σ2 fr uk uc lf o u Ls len f Fc Fr h hFc hFr
        obtain ⟨Fr, rfl⟩ : ∃ k, Fr = k + 1 := ⟨Fr - 1, by omega⟩
        rw [z_rs hX h.2.1 hl2 (by decide), if_neg (by decide)]
        exact nx Fr _ _ (by omega) (z_st1 hX h hl2 hFc)
    · have : i = l := by omega
      subst this
      exact ⟨fun σ1 σ2 Ls len f Fc Fr h a b => z_e0 hX h (by omega) (by omega), fun σ1 σ2 fr uk uc lf o u Ls len f Fc Fr h a b => z_e1 hX h hl (by omega) (by omega)⟩
end RT
