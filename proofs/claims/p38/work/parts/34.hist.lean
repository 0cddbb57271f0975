/-! HISTORY: the ring of the first system, the row of the reference -/
def zh1 (h : Nat) : Nat := if h = 4 then 4 else h + 1
def zpush (P : Nat → Nat → Int32) (h : Nat) (v : Nat → Int32) : Nat → Nat → Int32 := fun k => if h = 4 then (if k = 3 then v else P (k + 1)) else (if k = h then v else P k)
theorem zWF.ext {a n : Nat} {v w : Nat → Int32} (h : zWF a n v) (ha : a ≤ 4) (e : ∀ i, i < 1201 → w i = v i) : zWF a n w := by
  obtain ⟨hn, h1, h2⟩ := h
  refine ⟨hn, by rw [e _ (by omega)]; exact h1, fun s hs => ?_⟩
  obtain ⟨p1, p2, p3⟩ := h2 s hs
  refine ⟨fun i hi => ?_, fun i hi => ?_, fun m hm => ?_⟩
  · rw [e _ (by omega)]; exact p1 i hi
  · rw [e _ (by omega)]; exact p2 i hi
  · rw [e _ (by omega)]; exact p3 m hm
theorem zac_ext {v w : Nat → Int32} {s i : Nat} (e : w (100 * s + 1 + i) = v (100 * s + 1 + i)) : zac w s i = zac v s i := by unfold zac; rw [e]
theorem zRS.ext {a n t : Nat} {v w : Nat → Int32} {σ : St} (h : zRS a n v σ t) (ha : a ≤ 4) (hn : n ≤ 12) (e : ∀ i, i < 1201 → w i = v i) : zRS a n w σ t := by
  have h81 := za_81 ha
  obtain ⟨h1, h2, h3, h4, h5⟩ := h
  refine ⟨h1, fun s hs => ?_, fun s i hs hi => ?_, fun s i hs hi => ?_, fun s m hs hm => ?_⟩
  · rw [e _ (by omega)]; exact h2 s hs
  · rw [e _ (by omega)]; exact h3 s i hs hi
  · rw [e _ (by omega)]; exact h4 s i hs hi
  · rw [h5 s m hs hm, e _ (by omega), zpm_ext (fun i hi => (zac_ext (e _ (by omega))).symm)]
theorem zHc.ext {a h : Nat} {σ : St} {P Q : Nat → Nat → Int32} (H : zHc a σ P h) (ha : a ≤ 4) (e : ∀ k i, k < h → i < 1201 → Q k i = P k i) : zHc a σ Q h := by
  obtain ⟨o, ho, h1, h2, h3⟩ := H
  refine ⟨o, ho, h1, h2, fun k hk => ?_⟩
  obtain ⟨n, hw, hr⟩ := h3 k hk
  exact ⟨n, hw.ext ha (fun i hi => e k i hk hi), hr.ext ha hw.1 (fun i hi => e k i hk hi)⟩
theorem z_cpy {f g : Nat → Int32} {n i : Nat} (h : i < n) : va_cpy f g 0 0 n i = f i := by
  unfold va_cpy
  rw [if_pos ⟨Nat.zero_le _, by omega⟩, Nat.sub_zero, Nat.zero_add]
theorem z_rc {σ : St} {k n d : Nat} : rCopy σ k n d n = va_up σ d (va_cpy (σ k) (σ d) 0 0 n) := if_pos rfl
/-- all cells of one are copied into another -/
theorem z_copyFrom {σ : St} {x y : Nat} (hxy : x ≠ y) : zag [5 * x, 5 * x + 1, 5 * x + 2, 5 * x + 3, 5 * x + 4] σ (m_X7_copyFrom σ (5 * x) (5 * y)) ∧ m_X7_copyFrom σ (5 * x) (5 * y) (5 * x) 7 = σ (5 * y) 7 ∧ (∀ j, j ≠ 7 → m_X7_copyFrom σ (5 * x) (5 * y) (5 * x) j = σ (5 * x) j) ∧ (∀ i, i < 12 → m_X7_copyFrom σ (5 * x) (5 * y) (5 * x + 1) i = σ (5 * y + 1) i) ∧ (∀ i, i < 48 → m_X7_copyFrom σ (5 * x) (5 * y) (5 * x + 2) i = σ (5 * y + 2) i) ∧ (∀ i, i < 48 → m_X7_copyFrom σ (5 * x) (5 * y) (5 * x + 3) i = σ (5 * y + 3) i) ∧ (∀ i, i < 972 → m_X7_copyFrom σ (5 * x) (5 * y) (5 * x + 4) i = σ (5 * y + 4) i) := by
  have ne : ∀ {p q : Nat} {f : Nat → Int32} {τ : St}, p ≠ q → va_up τ q f p = τ p := fun h => va_up_ne _ _ h
  have eq : ∀ {q : Nat} {f : Nat → Int32} {τ : St}, va_up τ q f q = f := fun {q f τ} => by simp [va_up]
  unfold m_X7_copyFrom
  rw [z_rc, z_rc, z_rc, z_rc]
  refine ⟨fun k hk => ?_, ?_, fun j hj => ?_, fun i hi => ?_, fun i hi => ?_, fun i hi => ?_, fun i hi => ?_⟩
  · simp only [List.mem_cons, List.not_mem_nil, or_false, not_or] at hk
    rw [ne hk.2.2.2.2, ne hk.2.2.2.1, ne hk.2.2.1, ne hk.2.1, zup_n hk.1]
  · rw [ne (by omega), ne (by omega), ne (by omega), ne (by omega), zup_ss]
  · rw [ne (by omega), ne (by omega), ne (by omega), ne (by omega), zup_sn hj]
  · rw [ne (by omega), ne (by omega), ne (by omega), eq, z_cpy hi, zup_n (by omega)]
  · rw [ne (by omega), ne (by omega), eq, z_cpy hi, ne (by omega), zup_n (by omega)]
  · rw [ne (by omega), eq, z_cpy hi, ne (by omega), ne (by omega), zup_n (by omega)]
  · rw [eq, z_cpy hi, ne (by omega), ne (by omega), ne (by omega), zup_n (by omega)]
theorem zRS.copy {a n x y : Nat} {v : Nat → Int32} {σ : St} (ha : a ≤ 4) (hn : n ≤ 12) (h : zRS a n v σ (5 * y)) (hxy : x ≠ y) : zRS a n v (m_X7_copyFrom σ (5 * x) (5 * y)) (5 * x) := by
  have h81 := za_81 ha
  obtain ⟨-, c7, -, c1, c2, c3, c4⟩ := z_copyFrom (σ := σ) hxy
  obtain ⟨h1, h2, h3, h4, h5⟩ := h
  exact ⟨c7.trans h1, fun s hs => (c1 s (by omega)).trans (h2 s hs), fun s i hs hi => (c2 _ (by omega)).trans (h3 s i hs hi), fun s i hs hi => (c3 _ (by omega)).trans (h4 s i hs hi), fun s m hs hm => (c4 _ (by omega)).trans (h5 s m hs hm)⟩
def zkc : List Nat := [5, 6, 7, 8, 9, 10, 11, 12, 13, 14, 15, 16, 17, 18, 19, 20, 21, 22, 23, 24, 67]
theorem zkc_out {k : Nat} (h : k < 5 ∨ (25 ≤ k ∧ k ≠ 67)) : k ∉ zkc := fun q => by
  have := (by decide : ∀ k ∈ zkc, (5 ≤ k ∧ k < 25) ∨ k = 67) k q
  omega
section ZH
variable {a n : Nat} {v : Nat → Int32} {σ : St}
theorem z_slotAt {o k : Nat} (h1 : σ 67 1 = nI o) (ho : o < 4) (hk : k < 8) : m_X1_slotAt σ (nI k) = some (some (5 + 5 * ((o + k) % 4))) := by
  have hm : (o + k) % 4 < 4 := Nat.mod_lt _ (by decide)
  have e : nI o + nI k - (nI o + nI k) / 4 * 4 = nI ((o + k) % 4) := by rw [nI_add]; exact pk_rem (d := 4) (by omega) (by decide) (by decide)
  unfold m_X1_slotAt
  rw [h1, e, if_neg (nI_pos (by omega)), if_neg (show ¬ (4 : Int32) ≤ nI ((o + k) % 4) from znle (a := 4) (by decide) (by omega) hm), zck (by decide) hm, nI_clamp (by omega)]
theorem z_keep {P : Nat → Nat → Int32} {h : Nat} (ha : a ≤ 4) (hh : h ≤ 4) (H : zHc a σ P h) (hW : zWF a n v) (hR : zRS a n v σ 0) : zP (fun τ => zag zkc σ τ ∧ zHc a τ (zpush P h v) (zh1 h)) (m_X1_keep σ) := by
  have hn := hW.1
  -- the common end
  have key : ∀ (τ : St) (Q : Nat → Nat → Int32) (c : Nat), c < 4 → zag [67] σ τ → zHc a τ Q c → zP (fun τ => zag zkc σ τ ∧ zHc a τ (fun k => if k = c then v else Q k) (c + 1)) (m_X1_keep_b30 τ) := by
    rintro τ Q c hc hg ⟨o, ho, h2, h1, h3⟩
    have hm : (o + c) % 4 < 4 := Nat.mod_lt _ (by decide)
    unfold m_X1_keep_b30
    rw [h2, z_slotAt h1 ho (by omega), Option.bind_some]
    have hs : isS (5 + 5 * ((o + c) % 4)) = true := (by decide : ∀ i, i < 4 → isS (5 + 5 * i) = true) _ hm
    show zP _ (if isS (5 + 5 * ((o + c) % 4)) then some _ else none)
    rw [if_pos hs]
    have ex : 5 + 5 * ((o + c) % 4) = 5 * ((o + c) % 4 + 1) := by omega
    have hR' : zRS a n v τ (5 * 0) := hR.ag (by rw [hg 0 (by decide)]) (hg 1 (by decide)) (hg 2 (by decide)) (hg 3 (by decide)) (hg 4 (by decide))
    have hcp := hR'.copy (x := (o + c) % 4 + 1) ha hn (by omega)
    obtain ⟨cg, c7, cj, -⟩ := z_copyFrom (σ := τ) (x := (o + c) % 4 + 1) (y := 0) (by omega)
    rw [ex]
    change zP _ (some (up (m_X7_copyFrom τ (5 * ((o + c) % 4 + 1)) (5 * 0)) 67 2 (m_X7_copyFrom τ (5 * ((o + c) % 4 + 1)) (5 * 0) 67 2 + 1)))
    generalize m_X7_copyFrom τ (5 * ((o + c) % 4 + 1)) (5 * 0) = ρ at hcp cg c7 cj
    have e67 : ρ 67 = τ 67 := cg 67 (fun q => by simp only [List.mem_cons, List.not_mem_nil, or_false] at q; omega)
    refine zP_some ⟨fun k hk => ?_, o, ho, ?_, ?_, fun k hk => ?_⟩
    · have : ¬ (5 ≤ k ∧ k < 25) ∧ k ≠ 67 := by
        constructor
        · intro q
          have : ∀ k, k < 25 → 5 ≤ k → k ∈ zkc := by decide
          exact hk (this k q.2 q.1)
        · intro q; subst q; exact hk (by decide)
      rw [zup_n this.2, cg k (fun q => by simp only [List.mem_cons, List.not_mem_nil, or_false] at q; omega)]
      exact hg k (fun q => by simp at q; omega)
    · rw [zup_ss, e67, h2, nI_1]
    · rw [zup_sn (by decide), e67]; exact h1
    · dsimp only
      by_cases e : k = c
      · subst e
        rw [if_pos rfl, ex]
        exact ⟨n, hW, hcp.ag (by rw [zup_n (by omega)]) (zup_n (by omega)) (zup_n (by omega)) (zup_n (by omega)) (zup_n (by omega))⟩
      · rw [if_neg e]
        obtain ⟨m, hw, hr⟩ := h3 k (by omega)
        have hk4 : (o + k) % 4 < 4 := Nat.mod_lt _ (by decide)
        have hne : (o + k) % 4 ≠ (o + c) % 4 := by omega
        have out : ∀ i, i < 5 → ρ (5 + 5 * ((o + k) % 4) + i) = τ (5 + 5 * ((o + k) % 4) + i) := fun i hi => cg _ (fun q => by simp only [List.mem_cons, List.not_mem_nil, or_false] at q; omega)
        refine ⟨m, hw, hr.ag ?_ ?_ ?_ ?_ ?_⟩
        · rw [zup_n (by omega)]; exact congrFun (out 0 (by omega)) 7
        · rw [zup_n (by omega)]; exact out 1 (by omega)
        · rw [zup_n (by omega)]; exact out 2 (by omega)
        · rw [zup_n (by omega)]; exact out 3 (by omega)
        · rw [zup_n (by omega)]; exact out 4 (by omega)
  obtain ⟨o, ho, h2, h1, h3⟩ := id H
  unfold m_X1_keep
  rw [h2]
  rcases Nat.lt_or_ge h 4 with q | q
  · rw [if_pos (show nI h < 4 from zlt (b := 4) (by omega) (by decide) q)]
    refine zP_mono (key σ P h q zag.rf H) ?_
    rintro τ ⟨hg, hH⟩
    refine ⟨hg, ?_⟩
    have e1 : zh1 h = h + 1 := if_neg (by omega)
    rw [e1]
    have e2 : zpush P h v = fun k => if k = h then v else P k := by
      funext k
      unfold zpush
      rw [if_neg (by omega)]
    rw [e2]
    exact hH
  · have : h = 4 := by omega
    subst this
    rw [if_neg (show ¬ nI 4 < 4 by decide)]
    have eo : nI o + 1 - (nI o + 1) / 4 * 4 = nI ((o + 1) % 4) := by rw [nI_1]; exact pk_rem (d := 4) (by omega) (by decide) (by decide)
    have hH2 : zHc a (up (up σ 67 1 (((σ 67 1) + 1) - ((σ 67 1) + 1) / 4 * 4)) 67 2 (((up σ 67 1 (((σ 67 1) + 1) - ((σ 67 1) + 1) / 4 * 4)) 67 2) - 1)) (fun k => P (k + 1)) 3 := by
      refine ⟨(o + 1) % 4, Nat.mod_lt _ (by decide), ?_, ?_, fun k hk => ?_⟩
      · rw [zup_ss, zup_sn (by decide), h2]; rfl
      · rw [zup_sn (by decide), zup_ss, h1, eo]
      · obtain ⟨m, hw, hr⟩ := h3 (k + 1) (by omega)
        have hk4 : (o + (k + 1)) % 4 < 4 := Nat.mod_lt _ (by decide)
        have e : ((o + 1) % 4 + k) % 4 = (o + (k + 1)) % 4 := by omega
        rw [e]
        refine ⟨m, hw, hr.ag ?_ ?_ ?_ ?_ ?_⟩
        · rw [zup_n (by omega), zup_n (by omega)]
        · rw [zup_n (by omega), zup_n (by omega)]
        · rw [zup_n (by omega), zup_n (by omega)]
        · rw [zup_n (by omega), zup_n (by omega)]
        · rw [zup_n (by omega), zup_n (by omega)]
    refine zP_mono (key _ (fun k => P (k + 1)) 3 (by decide) ((zag.rf.up (by simp)).up (by simp)) hH2) ?_
    rintro τ ⟨hg, hH⟩
    refine ⟨hg, ?_⟩
    have e2 : zpush P 4 v = fun k => if k = 3 then v else P (k + 1) := by
      funext k
      unfold zpush
      rw [if_pos rfl]
    rw [e2]
    exact hH
end ZH