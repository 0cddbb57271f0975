/-! READING A TEXT: the second system's stacks -/
def zRn (σ : St) (m len : Nat) (f : zFd) : Prop := σ 87 15 = nI len ∧ ∀ p, p < len → σ 93 (60 * m + p) = nI (f.1 p) ∧ (f.1 p = 2 → σ 94 (60 * m + p) = nI (f.2.2.2 p)) ∧ (3 ≤ f.1 p → σ 94 (60 * m + p) = nI (f.2.1 p)) ∧ (zbin (f.1 p) → σ 95 (60 * m + p) = nI (f.2.2.1 p)) ∧ (6 ≤ f.1 p → σ 96 (60 * m + p) = nI (f.2.2.2 p))
def zqf (m : Nat) (σ τ : St) : Prop := (∀ k, k ≠ 87 → (k < 93 ∨ 107 ≤ k ∨ k = 97) → τ k = σ k) ∧ (∀ j, j ≠ 15 → j ≠ 23 → j ≠ 26 → j ≠ 27 → j ≠ 28 → τ 87 j = σ 87 j) ∧ ∀ k j, 93 ≤ k → k ≤ 96 → j < 60 * m → τ k j = σ k j
theorem zqf.rf {m : Nat} {σ : St} : zqf m σ σ := ⟨fun _ _ _ => rfl, fun _ _ _ _ _ _ => rfl, fun _ _ _ _ _ => rfl⟩
theorem zqf.tr {m : Nat} {σ τ ρ : St} (h : zqf m σ τ) (h2 : zqf m τ ρ) : zqf m σ ρ := ⟨fun k a b => (h2.1 k a b).trans (h.1 k a b), fun k a b c d e => (h2.2.1 k a b c d e).trans (h.2.1 k a b c d e), fun k j a b c => (h2.2.2 k j a b c).trans (h.2.2 k j a b c)⟩
theorem zqf.u {m : Nat} {σ τ : St} (h : zqf m σ τ) {k j : Nat} {v : Int32} (hk : (k = 87 ∧ (j = 15 ∨ j = 23 ∨ j = 26 ∨ j = 27 ∨ j = 28)) ∨ (98 ≤ k ∧ k ≤ 106) ∨ (93 ≤ k ∧ k ≤ 96 ∧ 60 * m ≤ j)) : zqf m σ (up τ k j v) := by
  refine h.tr ⟨fun q a b => zup_n (by omega), fun i _ _ _ _ _ => ?_, fun q i _ _ _ => ?_⟩
  · rw [zup_v, if_neg (by omega)]
  · rw [zup_v, if_neg (by omega)]
def zoi : Option Nat → Int32
  | none => -1
  | some x => nI x
def zrL (σ : St) : List zLv → Prop
  | [] => True
  | (fr, uk, uc, lf, o, n, _) :: Ls => σ 98 Ls.length = nI fr ∧ σ 99 Ls.length = zoi o ∧ σ 100 Ls.length = zoi n ∧ (fr = 3 → σ 101 Ls.length = nI lf) ∧ σ 102 Ls.length = nI (zA Ls).length ∧ (2 ≤ fr → σ 103 Ls.length = nI uk ∧ σ 104 Ls.length = nI uc) ∧ zrL σ Ls
theorem zrL.g {σ τ : St} : ∀ {Ls : List zLv}, zrL σ Ls → (∀ k j, 98 ≤ k → k ≤ 104 → j < Ls.length → τ k j = σ k j) → zrL τ Ls
  | [], _, _ => trivial
  | (fr, uk, uc, lf, o, n, ah) :: Ls, ⟨h1, h2, h3, h4, h5, h6, h7⟩, e => by
    refine ⟨?_, ?_, ?_, fun q => ?_, ?_, fun q => ⟨?_, ?_⟩, h7.g (fun k j a b c => e k j a b (by simp; omega))⟩
    · rw [e _ _ (by decide) (by decide) (by simp)]; exact h1
    · rw [e _ _ (by decide) (by decide) (by simp)]; exact h2
    · rw [e _ _ (by decide) (by decide) (by simp)]; exact h3
    · rw [e _ _ (by decide) (by decide) (by simp)]; exact h4 q
    · rw [e _ _ (by decide) (by decide) (by simp)]; exact h5
    · rw [e _ _ (by decide) (by decide) (by simp)]; exact (h6 q).1
    · rw [e _ _ (by decide) (by decide) (by simp)]; exact (h6 q).2
/-- the levels, the parts made, the place at hand, whether a unit is whole -/
def zrS (m : Nat) (σ0 σ : St) (Ls : List zLv) (len : Nat) (f : zFd) (i w : Nat) : Prop :=
  m < 8 ∧ zqf m σ0 σ ∧ σ 87 14 = nI m ∧ zRn σ m len f ∧ σ 87 23 = nI Ls.length - 1 ∧ σ 87 26 = nI (zA Ls).length ∧ zSk (σ 105) (σ 106) (zA Ls) ∧ zrL σ Ls ∧ σ 87 27 = nI i ∧ σ 87 28 = nI w
theorem zck2 {α : Type} {i : Nat} {a : Option α} (h : i < 62) : chk (nI i) 62 a = a := zck (by decide) h
section RR
variable {m len i w : Nat} {σ0 σ : St} {Ls : List zLv} {f : zFd}
theorem zrS.u7 (h : zrS m σ0 σ Ls len f i w) : zrS m σ0 (up σ 87 27 (nI (i + 1))) Ls len f (i + 1) w := by
  obtain ⟨hm, h1, h2, h3, h4, h5, h6, h7, h8, h9⟩ := h
  refine ⟨hm, h1.u (by omega), ?_, ⟨?_, ?_⟩, ?_, ?_, ?_, ?_, zup_ss _ _ _ _, ?_⟩
  · rw [zup_sn (by decide)]; exact h2
  · rw [zup_sn (by decide)]; exact h3.1
  · rw [zup_n (by decide), zup_n (by decide), zup_n (by decide), zup_n (by decide)]; exact h3.2
  · rw [zup_sn (by decide)]; exact h4
  · rw [zup_sn (by decide)]; exact h5
  · rw [zup_n (by decide), zup_n (by decide)]; exact h6
  · exact h7.g (fun k j a b c => by rw [zup_n (by omega)])
  · rw [zup_sn (by decide)]; exact h9
theorem zrS.u8 (h : zrS m σ0 σ Ls len f i w) (v : Nat) : zrS m σ0 (up σ 87 28 (nI v)) Ls len f i v := by
  obtain ⟨hm, h1, h2, h3, h4, h5, h6, h7, h8, h9⟩ := h
  refine ⟨hm, h1.u (by omega), ?_, ⟨?_, ?_⟩, ?_, ?_, ?_, ?_, ?_, zup_ss _ _ _ _⟩
  · rw [zup_sn (by decide)]; exact h2
  · rw [zup_sn (by decide)]; exact h3.1
  · rw [zup_n (by decide), zup_n (by decide), zup_n (by decide), zup_n (by decide)]; exact h3.2
  · rw [zup_sn (by decide)]; exact h4
  · rw [zup_sn (by decide)]; exact h5
  · rw [zup_n (by decide), zup_n (by decide)]; exact h6
  · exact h7.g (fun k j a b c => by rw [zup_n (by omega)])
  · rw [zup_sn (by decide)]; exact h8
theorem z_part (h : zrS m σ0 σ Ls len f i w) (hl : len < 60) {k x y c : Nat} {X Y C : Int32} (h1 : k = 2 → X = nI c) (h2 : 3 ≤ k → X = nI x) (hy : zbin k → Y = nI y) (hc : 6 ≤ k → C = nI c) :
    ∃ τ, m_X10_part σ (nI k) X Y C = some (nI len, τ) ∧ zrS m σ0 τ Ls (len + 1) (zad f len k x y c) i w := by
  obtain ⟨hm, g1, g2, g3, g4, g5, g6, g7, g8, g9⟩ := h
  have hat : 60 * σ 87 14 + σ 87 15 = nI (60 * m + len) := by rw [g2, g3.1, show (60 : Int32) = nI 60 from rfl, pk_mul, nI_add]
  have e : ∀ (τ : St) (k j : Nat) (v : Int32), k ≠ 87 → up τ k j v 87 = τ 87 := fun τ k j v q => zup_n (fun r => q r.symm)
  unfold m_X10_part
  rw [hat, zck (by decide) (by omega), zck (by decide) (by omega), zck (by decide) (by omega), zck (by decide) (by omega), nI_clamp (by omega)]
  simp only [e _ 93 _ _ (by decide), e _ 94 _ _ (by decide), e _ 95 _ _ (by decide), e _ 96 _ _ (by decide), g3.1, nI_1, zup_ss, zs1]
  refine ⟨_, rfl, hm, ((((g1.u (by omega)).u (by omega)).u (by omega)).u (by omega)).u (by omega), ?_, ⟨zup_ss _ _ _ _, fun p hp => ?_⟩, ?_, ?_, ?_, ?_, ?_, ?_⟩
  · rw [zup_sn (by decide), e _ 96 _ _ (by decide), e _ 95 _ _ (by decide), e _ 94 _ _ (by decide), e _ 93 _ _ (by decide)]; exact g2
  · have d : ∀ (τ : St) (k c j : Nat) (v : Int32), c ≠ k → up τ k j v c = τ c := fun τ k c j v q => zup_n q
    simp only [d _ 87 93 _ _ (by decide), d _ 87 94 _ _ (by decide), d _ 87 95 _ _ (by decide), d _ 87 96 _ _ (by decide), d _ 96 93 _ _ (by decide), d _ 95 93 _ _ (by decide), d _ 94 93 _ _ (by decide), d _ 96 94 _ _ (by decide), d _ 95 94 _ _ (by decide), d _ 96 95 _ _ (by decide), zup_s, d _ 93 94 _ _ (by decide), d _ 93 95 _ _ (by decide), d _ 94 95 _ _ (by decide), d _ 93 96 _ _ (by decide), d _ 94 96 _ _ (by decide), d _ 95 96 _ _ (by decide)]
    unfold zad
    dsimp only
    by_cases q : p = len
    · subst q
      simp only [pk_us, if_true]
      exact ⟨trivial, h1, h2, hy, hc⟩
    · simp only [pk_un (show 60 * m + p ≠ 60 * m + len by omega), if_neg q]
      exact g3.2 p (by omega)
  · rw [zup_sn (by decide), e _ 96 _ _ (by decide), e _ 95 _ _ (by decide), e _ 94 _ _ (by decide), e _ 93 _ _ (by decide)]; exact g4
  · rw [zup_sn (by decide), e _ 96 _ _ (by decide), e _ 95 _ _ (by decide), e _ 94 _ _ (by decide), e _ 93 _ _ (by decide)]; exact g5
  · iterate 10 rw [zup_n (by decide)]
    exact g6
  · exact g7.g (fun k j a b c => by rw [zup_n (by omega), zup_n (by omega), zup_n (by omega), zup_n (by omega), zup_n (by omega)])
  · rw [zup_sn (by decide), e _ 96 _ _ (by decide), e _ 95 _ _ (by decide), e _ 94 _ _ (by decide), e _ 93 _ _ (by decide)]; exact g8
  · rw [zup_sn (by decide), e _ 96 _ _ (by decide), e _ 95 _ _ (by decide), e _ 94 _ _ (by decide), e _ 93 _ _ (by decide)]; exact g9
theorem z_opens (h : zrS m σ0 σ Ls len f i w) (hl : Ls.length < 62) {fr : Nat} (hf : fr < 3) (uk uc : Nat) :
    ∃ τ, m_X10_opens σ (nI fr) (nI uk) (nI uc) = some τ ∧ zrS m σ0 τ ((fr, uk, uc, 0, none, none, []) :: Ls) len f i w := by
  obtain ⟨hm, g1, g2, g3, g4, g5, g6, g7, g8, g9⟩ := h
  have hx : σ 87 23 + 1 = nI Ls.length := by rw [g4]; exact Int32.sub_add_cancel _ _
  have e : ∀ (τ : St) (k j : Nat) (v : Int32), k ≠ 87 → up τ k j v 87 = τ 87 := fun τ k j v q => zup_n (fun r => q r.symm)
  have e6 : ∀ v, up σ 87 23 v 87 26 = σ 87 26 := fun v => zup_sn (by decide)
  unfold m_X10_opens
  simp only [e _ 98 _ _ (by decide), e _ 99 _ _ (by decide), e _ 100 _ _ (by decide), e _ 102 _ _ (by decide), e _ 103 _ _ (by decide), e _ 104 _ _ (by decide), hx, zup_ss, e6, zck2 hl, nI_clamp (show Ls.length < 2 ^ 31 by omega), g5]
  refine ⟨_, rfl, hm, ((((((g1.u (by omega)).u (by omega)).u (by omega)).u (by omega)).u (by omega)).u (by omega)).u (by omega), ?_, ⟨?_, ?_⟩, ?_, ?_, ?_, ?_, ?_, ?_⟩
  · rw [e _ 104 _ _ (by decide), e _ 103 _ _ (by decide), e _ 102 _ _ (by decide), e _ 100 _ _ (by decide), e _ 99 _ _ (by decide), e _ 98 _ _ (by decide), zup_sn (by decide)]; exact g2
  · rw [e _ 104 _ _ (by decide), e _ 103 _ _ (by decide), e _ 102 _ _ (by decide), e _ 100 _ _ (by decide), e _ 99 _ _ (by decide), e _ 98 _ _ (by decide), zup_sn (by decide)]; exact g3.1
  · iterate 28 rw [zup_n (by decide)]
    exact g3.2
  · rw [e _ 104 _ _ (by decide), e _ 103 _ _ (by decide), e _ 102 _ _ (by decide), e _ 100 _ _ (by decide), e _ 99 _ _ (by decide), e _ 98 _ _ (by decide), zup_ss]; exact (zs1 _).symm
  · rw [e _ 104 _ _ (by decide), e _ 103 _ _ (by decide), e _ 102 _ _ (by decide), e _ 100 _ _ (by decide), e _ 99 _ _ (by decide), e _ 98 _ _ (by decide), zup_sn (by decide)]; exact g5
  · iterate 14 rw [zup_n (by decide)]
    exact g6
  · refine ⟨?_, ?_, ?_, fun q => ?_, ?_, fun q => ⟨?_, ?_⟩, ?_⟩
    · iterate 5 rw [zup_n (by decide)]
      exact zup_ss _ _ _ _
    · iterate 4 rw [zup_n (by decide)]
      exact zup_ss _ _ _ _
    · iterate 3 rw [zup_n (by decide)]
      exact zup_ss _ _ _ _
    · omega
    · iterate 2 rw [zup_n (by decide)]
      exact zup_ss _ _ _ _
    · iterate 1 rw [zup_n (by decide)]
      exact zup_ss _ _ _ _
    · exact zup_ss _ _ _ _
    · refine g7.g (fun k j a b c => ?_)
      have d : ∀ (τ : St) (q : Nat) (v : Int32), up τ q Ls.length v k j = τ k j := fun τ q v => by rw [zup_v, if_neg (by omega)]
      rw [d, d, d, d, d, d, zup_n (by omega)]
  · rw [e _ 104 _ _ (by decide), e _ 103 _ _ (by decide), e _ 102 _ _ (by decide), e _ 100 _ _ (by decide), e _ 99 _ _ (by decide), e _ 98 _ _ (by decide), zup_sn (by decide)]; exact g8
  · rw [e _ 104 _ _ (by decide), e _ 103 _ _ (by decide), e _ 102 _ _ (by decide), e _ 100 _ _ (by decide), e _ 99 _ _ (by decide), e _ 98 _ _ (by decide), zup_sn (by decide)]; exact g9
theorem zrS.s99 {fr uk uc lf : Nat} {o n : Option Nat} {ah : List (Nat × Nat)} (h : zrS m σ0 σ ((fr, uk, uc, lf, o, n, ah) :: Ls) len f i w) (o' : Option Nat) : zrS m σ0 (up σ 99 Ls.length (zoi o')) ((fr, uk, uc, lf, o', n, ah) :: Ls) len f i w := by
  obtain ⟨hm, g1, g2, g3, g4, g5, g6, ⟨l1, l2, l3, l4, l5, l6, l7⟩, g8, g9⟩ := h
  refine ⟨hm, g1.u (by omega), ?_, ⟨?_, ?_⟩, ?_, ?_, ?_, ⟨?_, ?_, ?_, fun q => ?_, ?_, fun q => ⟨?_, ?_⟩, ?_⟩, ?_, ?_⟩
  · rw [zup_n (by decide)]; exact g2
  · rw [zup_n (by decide)]; exact g3.1
  · rw [zup_n (by decide), zup_n (by decide), zup_n (by decide), zup_n (by decide)]; exact g3.2
  · rw [zup_n (by decide)]; exact g4
  · rw [zup_n (by decide)]; exact g5
  · rw [zup_n (by decide), zup_n (by decide)]; exact g6
  · rw [zup_n (by decide)]; exact l1
  · rw [zup_ss]
  · rw [zup_n (by decide)]; exact l3
  · rw [zup_n (by decide)]; exact l4 q
  · rw [zup_n (by decide)]; exact l5
  · rw [zup_n (by decide)]; exact (l6 q).1
  · rw [zup_n (by decide)]; exact (l6 q).2
  · exact l7.g (fun k j a b c => by rw [zup_v, if_neg (by omega)])
  · rw [zup_n (by decide)]; exact g8
  · rw [zup_n (by decide)]; exact g9
theorem zrS.s100 {fr uk uc lf : Nat} {o n : Option Nat} {ah : List (Nat × Nat)} (h : zrS m σ0 σ ((fr, uk, uc, lf, o, n, ah) :: Ls) len f i w) (n' : Option Nat) : zrS m σ0 (up σ 100 Ls.length (zoi n')) ((fr, uk, uc, lf, o, n', ah) :: Ls) len f i w := by
  obtain ⟨hm, g1, g2, g3, g4, g5, g6, ⟨l1, l2, l3, l4, l5, l6, l7⟩, g8, g9⟩ := h
  refine ⟨hm, g1.u (by omega), ?_, ⟨?_, ?_⟩, ?_, ?_, ?_, ⟨?_, ?_, ?_, fun q => ?_, ?_, fun q => ⟨?_, ?_⟩, ?_⟩, ?_, ?_⟩
  · rw [zup_n (by decide)]; exact g2
  · rw [zup_n (by decide)]; exact g3.1
  · rw [zup_n (by decide), zup_n (by decide), zup_n (by decide), zup_n (by decide)]; exact g3.2
  · rw [zup_n (by decide)]; exact g4
  · rw [zup_n (by decide)]; exact g5
  · rw [zup_n (by decide), zup_n (by decide)]; exact g6
  · rw [zup_n (by decide)]; exact l1
  · rw [zup_n (by decide)]; exact l2
  · rw [zup_ss]
  · rw [zup_n (by decide)]; exact l4 q
  · rw [zup_n (by decide)]; exact l5
  · rw [zup_n (by decide)]; exact (l6 q).1
  · rw [zup_n (by decide)]; exact (l6 q).2
  · exact l7.g (fun k j a b c => by rw [zup_v, if_neg (by omega)])
  · rw [zup_n (by decide)]; exact g8
  · rw [zup_n (by decide)]; exact g9
theorem zrS.s101 {fr uk uc lf : Nat} {o n : Option Nat} {ah : List (Nat × Nat)} (h : zrS m σ0 σ ((fr, uk, uc, lf, o, n, ah) :: Ls) len f i w) (x : Nat) : zrS m σ0 (up σ 101 Ls.length (nI x)) ((fr, uk, uc, x, o, n, ah) :: Ls) len f i w := by
  obtain ⟨hm, g1, g2, g3, g4, g5, g6, ⟨l1, l2, l3, l4, l5, l6, l7⟩, g8, g9⟩ := h
  refine ⟨hm, g1.u (by omega), ?_, ⟨?_, ?_⟩, ?_, ?_, ?_, ⟨?_, ?_, ?_, fun q => ?_, ?_, fun q => ⟨?_, ?_⟩, ?_⟩, ?_, ?_⟩
  · rw [zup_n (by decide)]; exact g2
  · rw [zup_n (by decide)]; exact g3.1
  · rw [zup_n (by decide), zup_n (by decide), zup_n (by decide), zup_n (by decide)]; exact g3.2
  · rw [zup_n (by decide)]; exact g4
  · rw [zup_n (by decide)]; exact g5
  · rw [zup_n (by decide), zup_n (by decide)]; exact g6
  · rw [zup_n (by decide)]; exact l1
  · rw [zup_n (by decide)]; exact l2
  · rw [zup_n (by decide)]; exact l3
  · rw [zup_ss]
  · rw [zup_n (by decide)]; exact l5
  · rw [zup_n (by decide)]; exact (l6 q).1
  · rw [zup_n (by decide)]; exact (l6 q).2
  · exact l7.g (fun k j a b c => by rw [zup_v, if_neg (by omega)])
  · rw [zup_n (by decide)]; exact g8
  · rw [zup_n (by decide)]; exact g9
theorem zrS.s98 {fr uk uc lf : Nat} {o n : Option Nat} {ah : List (Nat × Nat)} (h : zrS m σ0 σ ((fr, uk, uc, lf, o, n, ah) :: Ls) len f i w) {fr' : Nat} (hr : 2 ≤ fr' → 2 ≤ fr) (hl : fr' = 3 → σ 101 Ls.length = nI lf) : zrS m σ0 (up σ 98 Ls.length (nI fr')) ((fr', uk, uc, lf, o, n, ah) :: Ls) len f i w := by
  obtain ⟨hm, g1, g2, g3, g4, g5, g6, ⟨l1, l2, l3, l4, l5, l6, l7⟩, g8, g9⟩ := h
  refine ⟨hm, g1.u (by omega), ?_, ⟨?_, ?_⟩, ?_, ?_, ?_, ⟨?_, ?_, ?_, fun q => ?_, ?_, fun q => ⟨?_, ?_⟩, ?_⟩, ?_, ?_⟩
  · rw [zup_n (by decide)]; exact g2
  · rw [zup_n (by decide)]; exact g3.1
  · rw [zup_n (by decide), zup_n (by decide), zup_n (by decide), zup_n (by decide)]; exact g3.2
  · rw [zup_n (by decide)]; exact g4
  · rw [zup_n (by decide)]; exact g5
  · rw [zup_n (by decide), zup_n (by decide)]; exact g6
  · rw [zup_ss]
  · rw [zup_n (by decide)]; exact l2
  · rw [zup_n (by decide)]; exact l3
  · rw [zup_n (by decide)]; exact hl q
  · rw [zup_n (by decide)]; exact l5
  · rw [zup_n (by decide)]; exact (l6 (hr q)).1
  · rw [zup_n (by decide)]; exact (l6 (hr q)).2
  · exact l7.g (fun k j a b c => by rw [zup_v, if_neg (by omega)])
  · rw [zup_n (by decide)]; exact g8
  · rw [zup_n (by decide)]; exact g9
theorem z_unl {fr uk uc lf : Nat} {o n : Option Nat} (hn : ∀ x, n = some x → x < 60) (hL : Ls.length < 62) : ∀ (ah : List (Nat × Nat)) (F : Nat) (σ : St) (u len : Nat) (f : zFd), ah.length < F → len + ah.length + (zo4 n).length ≤ 60 → ah.length + (zA Ls).length ≤ 60 → (∀ x, x ∈ ah → zpx x.1) → zrS m σ0 σ ((fr, uk, uc, lf, o, n, ah) :: Ls) len f i w →
    ∃ τ, loopF (fun k z => m_X10_unit_b2 z.1 z.2 k) F (σ, nI u) = some τ ∧ zrS m σ0 τ ((fr, uk, uc, lf, o, some (zun 4 n (zpre ah (u, len, f))).1, []) :: Ls) (zun 4 n (zpre ah (u, len, f))).2.1 (zun 4 n (zpre ah (u, len, f))).2.2 i w
  | _, 0, _, _, _, _, hF, _, _, _, _ => absurd hF (Nat.not_lt_zero _)
  | [], F + 1, σ, u, len, f, _, hb, _, _, h => by
    have h := h
    obtain ⟨hm, g1, g2, g3, g4, g5, g6, ⟨l1, l2, l3, l4, l5, l6, l7⟩, g8, g9⟩ := id h
    have g4 : σ 87 23 = nI Ls.length := by rw [g4]; exact zs1 _
    have g5 : σ 87 26 = nI (zA Ls).length := g5
    show ∃ τ, m_X10_unit_b2 σ (nI u) _ = some τ ∧ _
    unfold m_X10_unit_b2
    rw [g4, zck2 hL, nI_clamp (by omega), l5, g5, if_pos (Int32.le_refl _), zck2 hL, l3]
    unfold m_X10_unit_b96
    cases n with
    | none =>
      rw [if_neg (show ¬ 0 ≤ zoi none by decide), zck2 hL, nI_clamp (by omega)]
      exact ⟨_, rfl, h.s100 (some u)⟩
    | some x =>
      have hb : len + 0 + 1 ≤ 60 := hb
      obtain ⟨τ, e1, h1⟩ := z_part (k := 4) (x := x) (y := u) (c := 0) (X := nI x) (Y := nI u) (C := 0) h (by omega) (fun q => absurd q (by decide)) (fun _ => rfl) (fun _ => rfl) (fun q => absurd q (by decide))
      rw [if_pos (show 0 ≤ zoi (some x) from zle (a := 0) (by decide) (by have := hn x rfl; omega) (Nat.zero_le _)), zck2 hL]
      have e1 : m_X10_part σ 4 (zoi (some x)) (nI u) 0 = some (nI len, τ) := e1
      rw [e1, Option.bind_some, zck2 hL, nI_clamp (by omega)]
      exact ⟨_, rfl, h1.s100 (some len)⟩
  | (k, c) :: ah, F + 1, σ, u, len, f, hF, hb, hA, hp, h => by
    obtain ⟨hm, g1, g2, g3, g4, g5, g6, ⟨l1, l2, l3, l4, l5, l6, l7⟩, g8, g9⟩ := h
    have hF : ah.length + 1 < F + 1 := hF
    have hb : len + (ah.length + 1) + (zo4 n).length ≤ 60 := hb
    have hA : ah.length + 1 + (zA Ls).length ≤ 60 := hA
    have hk : zpx k := hp (k, c) (by simp)
    have g4' : σ 87 23 = nI Ls.length := by rw [g4]; exact zs1 _
    have g5 : σ 87 26 = nI ((ah ++ zA Ls).length + 1) := g5
    have g6 : σ 105 (ah ++ zA Ls).length = nI k ∧ σ 106 (ah ++ zA Ls).length = nI c ∧ zSk (σ 105) (σ 106) (ah ++ zA Ls) := g6
    have hal : (ah ++ zA Ls).length = ah.length + (zA Ls).length := List.length_append
    have h1 : zrS m σ0 (up σ 87 26 (nI (ah ++ zA Ls).length)) ((fr, uk, uc, lf, o, n, ah) :: Ls) len f i w := by
      refine ⟨hm, g1.u (by omega), ?_, ⟨?_, ?_⟩, ?_, zup_ss _ _ _ _, ?_, ⟨?_, ?_, ?_, fun q => ?_, ?_, fun q => ⟨?_, ?_⟩, ?_⟩, ?_, ?_⟩
      · rw [zup_sn (by decide)]; exact g2
      · rw [zup_sn (by decide)]; exact g3.1
      · rw [zup_n (by decide), zup_n (by decide), zup_n (by decide), zup_n (by decide)]; exact g3.2
      · rw [zup_sn (by decide)]; exact g4
      · rw [zup_n (by decide), zup_n (by decide)]; exact g6.2.2
      · rw [zup_n (by decide)]; exact l1
      · rw [zup_n (by decide)]; exact l2
      · rw [zup_n (by decide)]; exact l3
      · rw [zup_n (by decide)]; exact l4 q
      · rw [zup_n (by decide)]; exact l5
      · rw [zup_n (by decide)]; exact (l6 q).1
      · rw [zup_n (by decide)]; exact (l6 q).2
      · exact l7.g (fun k j a b c => by rw [zup_v, if_neg (by omega)])
      · rw [zup_sn (by decide)]; exact g8
      · rw [zup_sn (by decide)]; exact g9
    obtain ⟨τ, e1, h2⟩ := z_part (k := k) (x := u) (y := 0) (c := c) (X := nI u) (Y := -1) (C := nI c) h1 (by omega) (fun q => by unfold zpx at hk; omega) (fun _ => rfl) (fun q => by unfold zpx at hk; unfold zbin at q; omega) (fun _ => rfl)
    obtain ⟨ρ, e2, h3⟩ := z_unl hn hL ah F τ len (len + 1) (zad f len k u 0 c) (by omega) (by omega) (by omega) (fun x hx => hp x (by simp [hx])) h2
    refine ⟨ρ, ?_, h3⟩
    show m_X10_unit_b2 σ (nI u) _ = _
    unfold m_X10_unit_b2
    rw [g4', zck2 hL, nI_clamp (by omega), l5, g5, if_neg (znle (by omega) (by omega) (by omega)), zs1, zup_ss, zck2 (by omega), zck2 (by omega), nI_clamp (by omega), zup_n (by decide), zup_n (by decide), g6.1, g6.2.1, e1, Option.bind_some]
    exact e2
theorem z_unit {fr uk uc lf u : Nat} {o n : Option Nat} {ah : List (Nat × Nat)} (hn : ∀ x, n = some x → x < 60) (hL : Ls.length < 62) (hb : len + ah.length + (zo4 n).length ≤ 60) (hA : ah.length + (zA Ls).length ≤ 60) (hp : ∀ x, x ∈ ah → zpx x.1) (h : zrS m σ0 σ ((fr, uk, uc, lf, o, n, ah) :: Ls) len f i w) :
    ∃ τ, m_X10_unit σ (nI u) = some τ ∧ zrS m σ0 τ ((fr, uk, uc, lf, o, some (zun 4 n (zpre ah (u, len, f))).1, []) :: Ls) (zun 4 n (zpre ah (u, len, f))).2.1 (zun 4 n (zpre ah (u, len, f))).2.2 i w :=
  z_unl hn hL ah cFu σ u len f (by unfold cFu; omega) hb hA hp h
theorem z_joins {fr uk uc lf u : Nat} {o : Option Nat} {ah : List (Nat × Nat)} (ho : ∀ x, o = some x → x < 60) (hL : Ls.length < 62) (hb : len + (zo5 o).length ≤ 60) (h : zrS m σ0 σ ((fr, uk, uc, lf, o, some u, ah) :: Ls) len f i w) :
    ∃ τ, m_X10_joins σ = some τ ∧ zrS m σ0 τ ((fr, uk, uc, lf, some (zun 5 o (u, len, f)).1, none, ah) :: Ls) (zun 5 o (u, len, f)).2.1 (zun 5 o (u, len, f)).2.2 i w := by
  obtain ⟨hm, g1, g2, g3, g4, g5, g6, ⟨l1, l2, l3, l4, l5, l6, l7⟩, g8, g9⟩ := id h
  have g4'' : σ 87 23 = nI Ls.length := by rw [g4]; exact zs1 _
  unfold m_X10_joins
  rw [g4'', zck2 hL, nI_clamp (by omega), l2, l3]
  cases o with
  | none =>
    rw [if_neg (show ¬ 0 ≤ zoi none by decide), zck2 hL]
    unfold m_X10_joins_b56
    rw [zck2 hL, nI_clamp (by omega), zup_n (by decide), g4'', zck2 hL, nI_clamp (by omega)]
    exact ⟨_, rfl, (h.s99 (some u)).s100 none⟩
  | some x =>
    have hb : len + 1 ≤ 60 := hb
    obtain ⟨τ, e1, h1⟩ := z_part (k := 5) (x := x) (y := u) (c := 0) (X := nI x) (Y := nI u) (C := 0) h (by omega) (fun q => absurd q (by decide)) (fun _ => rfl) (fun _ => rfl) (fun q => absurd q (by decide))
    have e1 : m_X10_part σ 5 (zoi (some x)) (zoi (some u)) 0 = some (nI len, τ) := e1
    have g4' : τ 87 23 = nI Ls.length := by rw [h1.2.2.2.2.1]; exact zs1 _
    rw [if_pos (show 0 ≤ zoi (some x) from zle (a := 0) (by decide) (by have := ho x rfl; omega) (Nat.zero_le _)), zck2 hL, zck2 hL, e1, Option.bind_some]
    unfold m_X10_joins_b56
    dsimp only
    rw [zck2 hL, nI_clamp (by omega), zup_n (by decide), g4', zck2 hL, nI_clamp (by omega)]
    exact ⟨_, rfl, (h1.s99 (some len)).s100 none⟩
theorem z_sign {l : Nat} {T : Nat → Nat} (hl : l ≤ 60) (e8 : σ 87 8 = nI l) (e92 : ∀ j, j < l → σ 92 j = nI (T j)) (e27 : σ 87 27 = nI i) (hi : i ≤ 60) : m_X10_sign σ = some (if i < l then nI (T i) else -1) := by
  unfold m_X10_sign
  rw [e8, e27]
  by_cases q : i < l
  · rw [if_neg (znle (by omega) (by omega) q), zck (by decide) (by omega), nI_clamp (by omega), e92 i q, if_pos q]
  · rw [if_pos (zle (by omega) (by omega) (by omega)), if_neg q]
end RR
