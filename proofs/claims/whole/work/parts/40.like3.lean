/-! LIKENESS in the reference -/
def zcR (g : Nat → Int32) (X : Int32) : Nat → Int32
  | 0 => 0
  | s + 1 => if bt X s then zcR g X s ||| ((1 : Int32) <<< (g s &&& 31)) else zcR g X s
theorem zcR_0 (g : Nat → Int32) : ∀ n, zcR g 0 n = 0
  | 0 => rfl
  | n + 1 => by
    unfold zcR
    rw [b_0, zcR_0 g n]
    rfl
theorem zcR_bt {g : Nat → Int32} {X : Int32} {cl : Nat → Nat} {i : Nat} (hi : i < 32) : ∀ {n}, (∀ s, s < n → g s = nI (cl s) ∧ cl s < 32) → (bt (zcR g X n) i = true ↔ ∃ s, s < n ∧ bt X s = true ∧ i = cl s)
  | 0, _ => by
    rw [show zcR g X 0 = 0 from rfl, b_0]
    exact ⟨fun h => absurd h Bool.false_ne_true, fun ⟨s, h, _⟩ => absurd h (Nat.not_lt_zero s)⟩
  | n + 1, h => by
    have ih := zcR_bt (X := X) hi (fun s hs => h s (by omega) : ∀ s, s < n → g s = nI (cl s) ∧ cl s < 32)
    have e : zcR g X (n + 1) = if bt X n then zcR g X n ||| ((1 : Int32) <<< (g n &&& 31)) else zcR g X n := rfl
    rw [e]
    obtain ⟨h1, h2⟩ := h n (by omega)
    by_cases q : bt X n = true
    · rw [if_pos q, b_or, Bool.or_eq_true, ih, h1, show (1 : Int32) <<< (nI (cl n) &&& 31) = zbit (cl n) from rfl, zbit_bt h2 hi]
      constructor
      · rintro (⟨s, a1, a2⟩ | a)
        · exact ⟨s, by omega, a2⟩
        · exact ⟨n, by omega, q, of_decide_eq_true a⟩
      · rintro ⟨s, a1, a2, a3⟩
        rcases Nat.lt_or_ge s n with w | w
        · exact Or.inl ⟨s, w, a2, a3⟩
        · have : s = n := by omega
          subst this
          exact Or.inr (decide_eq_true a3)
    · rw [if_neg q, ih]
      constructor
      · rintro ⟨s, a1, a2⟩
        exact ⟨s, by omega, a2⟩
      · rintro ⟨s, a1, a2, a3⟩
        rcases Nat.lt_or_ge s n with w | w
        · exact ⟨s, w, a2, a3⟩
        · have : s = n := by omega
          subst this
          exact absurd a2 q
theorem zcR_oc {v : Nat → Int32} {a n : Nat} (hW : zWF a n v) {g : Nat → Int32} {cl : Nat → Nat} (h : ∀ s, s < n → g s = nI (cl s) ∧ cl s < 12) {s : Nat} (hs : s < n) (c : Int32) (j : Nat) : zcR g (zoc v a c s j) n = zoC v a cl c s j := by
  have hn := hW.1
  apply b_ext
  intro i hi
  apply Bool.eq_iff_iff.mpr
  rw [zcR_bt hi (fun s hs => ⟨(h s hs).1, by have := (h s hs).2; omega⟩)]
  unfold zoC
  rw [zoF_bt]
  constructor
  · rintro ⟨u, h1, h2, h3⟩
    obtain ⟨m, m1, m2, m3, m4⟩ := zoF_bt.mp h2
    have hx := (hW.nx hs m1).2
    rw [zbit_bt (by omega) (by omega)] at m4
    have m4 : u = znx v s m := of_decide_eq_true m4
    refine ⟨m, m1, m2, m3, ?_⟩
    rw [zbit_bt (by have := (h _ hx).2; omega) hi]
    exact decide_eq_true (by rw [h3, m4])
  · rintro ⟨m, m1, m2, m3, m4⟩
    have hx := (hW.nx hs m1).2
    rw [zbit_bt (by have := (h _ hx).2; omega) hi] at m4
    exact ⟨znx v s m, hx, zoF_bt.mpr ⟨m, m1, m2, m3, by rw [zbit_bt (by omega) (by omega)]; exact decide_eq_true rfl⟩, of_decide_eq_true m4⟩
theorem zak_c {v : Nat → Int32} {a : Nat} {cl : Nat → Nat} (s t : Nat) : zak v a cl s t = zak v a cl t s := by
  apply Bool.eq_iff_iff.mpr
  rw [zak_t, zak_t]
  exact ⟨fun h c hc => ⟨(h c hc).2, (h c hc).1⟩, fun h c hc => ⟨(h c hc).2, (h c hc).1⟩⟩
section ZY
variable {a n : Nat} {v : Nat → Int32} {σ : St}
theorem r_classesOf (h : zR a n v σ) (X : Int32) : m_X10_classesOf σ X = some (zcR (σ 109) X n) := by
  have hn := h.2.2.2.2.1
  unfold m_X10_classesOf
  refine zl_e (fun i => (zcR (σ 109) X i, nI i)) n (by omega) rfl ?_
  intro k i hi hk
  unfold m_X10_classesOf_b4
  rw [show (1200 : Int32) = nI 1200 from rfl, zck (by decide) (by decide), h.2.2.2.1, h.2.2.2.2.2.1]
  dsimp only
  rcases Nat.lt_or_ge i n with q | q
  · have hk := hk q
    have e : zcR (σ 109) X (i + 1) = if bt X i then zcR (σ 109) X i ||| ((1 : Int32) <<< (σ 109 i &&& 31)) else zcR (σ 109) X i := rfl
    rw [e] at hk
    rw [if_neg (znle (by omega) (by omega) q), zsh1 _ (by omega), nI_1]
    cases hb : bt X i
    · rw [hb, if_neg (by decide)] at hk
      rw [if_neg (by decide), Int32.or_zero]
      exact hk
    · rw [hb, if_pos rfl] at hk
      rw [if_pos (by decide), zck (by decide) (by omega), nI_clamp (by omega)]
      exact hk
  · have : i = n := by omega
    subst this
    rw [if_pos (zle (by omega) (by omega) q)]
theorem r_leads (h : zR a n v σ) : zP (fun τ => zah [111] [] σ τ ∧ ∀ k, k < 15552 → τ 111 k = zcR (σ 109) (σ 90 k) n) (m_X10_leads σ) := by
  unfold m_X10_leads
  refine zl (P := zP _) (fun i z => z.2 = nI i ∧ zah [111] [] σ z.1 ∧ ∀ k, k < i → z.1 111 k = zcR (σ 109) (σ 90 k) n) 15552 (by decide) ⟨nI_0.symm, zah.rf, fun j hj => absurd hj (Nat.not_lt_zero j)⟩ ?_
  rintro k i ⟨τ, x⟩ hi ⟨hx, hg, hd⟩ hk
  dsimp only at hx hg hd ⊢
  subst hx
  unfold m_X10_leads_b2
  rcases Nat.lt_or_ge i 15552 with q | q
  · have e90 : τ 90 = σ 90 := hg.1 90 (by decide) (by decide)
    have e109 : τ 109 = σ 109 := hg.1 109 (by decide) (by decide)
    have put : ∀ x, x = zcR (σ 109) (σ 90 i) n → zP (fun τ => zah [111] [] σ τ ∧ ∀ k, k < 15552 → τ 111 k = zcR (σ 109) (σ 90 k) n) (m_X10_leads_b37 τ (nI i) x (nI i) k) := by
      intro x hx
      unfold m_X10_leads_b37
      rw [zck (by decide) q, nI_clamp (by omega), nI_1]
      refine hk q _ ⟨rfl, hg.st (by simp) (by simp), fun k hk => ?_⟩
      dsimp only
      rw [zup_v]
      by_cases e : k = i
      · subst e; rw [if_pos ⟨rfl, rfl⟩, hx]
      · rw [if_neg (fun w => e w.2)]; exact hd k (by omega)
    rw [if_neg (show ¬ (15552 : Int32) ≤ nI i from znle (a := 15552) (by decide) (by omega) q), zck (by decide) q, nI_clamp (by omega), e90]
    by_cases e0 : σ 90 i = 0
    · rw [if_pos e0]
      exact put 0 (by rw [e0, zcR_0])
    · rw [if_neg e0, zck (by decide) q]
      refine zbe (r_classesOf (h.g hg (by decide)) _) ?_
      exact put _ (by rw [e109])
  · have : i = 15552 := by omega
    subst this
    rw [if_pos (show (15552 : Int32) ≤ nI 15552 by decide)]
    exact zP_some ⟨hg, hd⟩
theorem r_isMatched (h : zR a n v σ) {cl : Nat → Nat} (hl : ∀ s c j, s < n → c < 2 ^ a → j < 81 → σ 111 (81 * (16 * s + c) + j) = zoC v a cl (nI c) s j) {c s t : Nat} (hc : c < 2 ^ a) (hs : s < n) (ht : t < n) : m_X10_isMatched σ (nI c) (nI s) (nI t) = some (zmt v a cl (nI c) s t) := by
  have hn := h.2.2.2.2.1
  have h81 := za_81 h.2.1
  generalize hr : zmt v a cl (nI c) s t = r
  have hrt : r = true ↔ ∀ j, j < 81 → ¬ zoC v a cl (nI c) s j = 0 → ∃ k, k < 81 ∧ zfo (zoC v a cl (nI c) t k) (zoC v a cl (nI c) s j) = true := by rw [← hr]; exact zmt_t
  unfold m_X10_isMatched
  refine zl (P := fun q => q = some r) (fun j z => z = nI j ∧ ∀ i, i < j → ¬ zoC v a cl (nI c) s i = 0 → ∃ k, k < 81 ∧ zfo (zoC v a cl (nI c) t k) (zoC v a cl (nI c) s i) = true) 81 (by decide) ⟨nI_0.symm, fun j hj => absurd hj (Nat.not_lt_zero j)⟩ ?_
  rintro k j z hj ⟨rfl, hd⟩ hk
  unfold m_X10_isMatched_b3
  rcases Nat.lt_or_ge j 81 with q | q
  · rw [if_neg (show ¬ (81 : Int32) ≤ nI j from znle (a := 81) (by decide) (by omega) q), r_raw, zck (by decide) (by omega), nI_clamp (by omega), hl s c j hs hc q]
    have hin : ∀ b0 : Bool, (b0 = true ↔ zoC v a cl (nI c) s j = 0) → loopF (fun k2 z => m_X10_isMatched_b39 σ (nI c) (nI s) (nI t) (nI j) (zoC v a cl (nI c) s j) z.1 z.2 k k2) cFu (bI b0, 0) = some r := by
      intro b0 hb0
      refine zl (P := fun q => q = some r) (fun i z => z.2 = nI i ∧ ∃ b, z.1 = bI b ∧ (b = true ↔ (zoC v a cl (nI c) s j = 0 ∨ ∃ k, k < i ∧ zfo (zoC v a cl (nI c) t k) (zoC v a cl (nI c) s j) = true))) 81 (by decide) ⟨nI_0.symm, b0, rfl, by rw [hb0]; exact ⟨fun h => Or.inl h, fun h => h.elim id (fun ⟨k, a1, _⟩ => absurd a1 (Nat.not_lt_zero k))⟩⟩ ?_
      rintro k2 i ⟨x, y⟩ hi ⟨hy, b, hx, hb⟩ hk2
      dsimp only at hx hy ⊢
      subst hx hy
      unfold m_X10_isMatched_b39
      have out : (b = true ∨ i = 81) → m_X10_isMatched_b93 σ (nI c) (nI s) (nI t) (nI j) (bI b) k = some r := by
        intro hbi
        unfold m_X10_isMatched_b93
        cases b
        · rw [if_pos zbIf]
          have : i = 81 := hbi.resolve_left (by decide)
          subst this
          congr 1
          cases r
          · rfl
          · exfalso
            by_cases e : zoC v a cl (nI c) s j = 0
            · exact absurd (hb.mpr (Or.inl e)) (by decide)
            · exact absurd (hb.mpr (Or.inr (hrt.mp rfl j q e))) (by decide)
        · rw [if_neg zbIt, nI_1]
          refine hk q _ ⟨rfl, fun u hu => ?_⟩
          rcases Nat.lt_or_ge u j with w | w
          · exact hd u w
          · have : u = j := by omega
            subst this
            intro hne
            rcases hb.mp rfl with e | ⟨k, a1, a2⟩
            · exact absurd e hne
            · exact ⟨k, by omega, a2⟩
      rcases Nat.lt_or_ge i 81 with w | w
      · rw [if_neg (show ¬ (81 : Int32) ≤ nI i from znle (a := 81) (by decide) (by omega) w)]
        cases b
        · have hn0 : ¬ zoC v a cl (nI c) s j = 0 := fun e => absurd (hb.mpr (Or.inl e)) (by decide)
          rw [if_pos zbIf, r_raw, zck (by decide) (by omega), nI_clamp (by omega), hl t c i ht hc w]
          have nx : ∀ d : Bool, (d = true ↔ zfo (zoC v a cl (nI c) t i) (zoC v a cl (nI c) s j) = true) → k2 (bI d, nI i + 1) = some r := by
            intro d hdd
            rw [nI_1]
            refine hk2 w _ ⟨rfl, d, rfl, ?_⟩
            rw [hdd]
            constructor
            · intro e; exact Or.inr ⟨i, by omega, e⟩
            · rintro (e | ⟨u, a1, a2⟩)
              · exact absurd e hn0
              · rcases Nat.lt_or_ge u i with e | e
                · exact absurd (hb.mpr (Or.inr ⟨u, e, a2⟩)) (by decide)
                · have : u = i := by omega
                  subst this; exact a2
          by_cases e0 : zoC v a cl (nI c) t i = 0
          · rw [if_pos e0]
            exact nx false (by rw [e0, zfo_0])
          · rw [if_neg e0]
            by_cases e1 : (zoC v a cl (nI c) t i &&& (zoC v a cl (nI c) s j ^^^ (-1))) = 0
            · rw [if_pos e1]
              exact nx true ⟨fun _ => decide_eq_true ⟨e0, e1⟩, fun _ => rfl⟩
            · rw [if_neg e1]
              exact nx false ⟨fun h => absurd h (by decide), fun h => absurd (of_decide_eq_true h).2 e1⟩
        · rw [if_neg zbIt]
          exact out (Or.inl rfl)
      · have : i = 81 := by omega
        subst this
        rw [if_pos (show (81 : Int32) ≤ nI 81 by decide)]
        exact out (Or.inr rfl)
    by_cases e0 : zoC v a cl (nI c) s j = 0
    · rw [if_pos e0]
      exact hin true ⟨fun _ => e0, fun _ => rfl⟩
    · rw [if_neg e0]
      exact hin false ⟨fun h => absurd h (by decide), fun h => absurd h e0⟩
  · have : j = 81 := by omega
    subst this
    rw [if_pos (show (81 : Int32) ≤ nI 81 by decide)]
    congr 1
    exact (hrt.mpr hd).symm
theorem r_areAlike (h : zR a n v σ) {cl : Nat → Nat} (hl : ∀ s c j, s < n → c < 2 ^ a → j < 81 → σ 111 (81 * (16 * s + c) + j) = zoC v a cl (nI c) s j) (hcl : ∀ s, s < n → σ 109 s = nI (cl s) ∧ cl s < 12) {s t : Nat} (hs : s < n) (ht : t < n) : m_X10_areAlike σ (nI s) (nI t) = some (zrR v a cl t s) := by
  have hn := h.2.2.2.2.1
  have ha := h.2.1
  have h81 := za_81 ha
  generalize hr : zrR v a cl t s = r
  have hrt : r = true ↔ (cl s = cl t ∧ ∀ c, c < 2 ^ a → zmt v a cl (nI c) s t = true ∧ zmt v a cl (nI c) t s = true) := by
    rw [← hr]
    unfold zrR
    rw [decide_eq_true_iff, zak_c, zak_t]
    exact ⟨fun q => ⟨q.1.symm, q.2⟩, fun q => ⟨q.1.symm, q.2⟩⟩
  unfold m_X10_areAlike
  rw [zck (by decide) (by omega), zck (by decide) (by omega), nI_clamp (by omega), nI_clamp (by omega), (hcl s hs).1, (hcl t ht).1]
  have b1 := (hcl s hs).2
  have b2 := (hcl t ht).2
  have key : ∀ b0 : Bool, (b0 = true ↔ cl s = cl t) → loopF (fun k z => m_X10_areAlike_b24 σ (nI s) (nI t) z.1 z.2 k) cFu (bI b0, 0) = some r := by
    intro b0 hb0
    refine zl (P := fun q => q = some r) (fun c z => z.2 = nI c ∧ ∃ b, z.1 = bI b ∧ (b = true ↔ (cl s = cl t ∧ ∀ d, d < c → zmt v a cl (nI d) s t = true ∧ zmt v a cl (nI d) t s = true))) (2 ^ a) (by omega) ⟨nI_0.symm, b0, rfl, by rw [hb0]; exact ⟨fun h => ⟨h, fun d hd => absurd hd (Nat.not_lt_zero d)⟩, fun h => h.1⟩⟩ ?_
    rintro k c ⟨x, y⟩ hc ⟨hy, b, hx, hb⟩ hk
    dsimp only at hx hy ⊢
    subst hx hy
    unfold m_X10_areAlike_b24
    rw [h.2.2.1, show (1 : Int32) <<< (nI a &&& 31) = nI (2 ^ a) from zbit_n (by omega)]
    rcases Nat.lt_or_ge c (2 ^ a) with q | q
    · rw [if_neg (znle (by omega) (by omega) q)]
      cases b
      · rw [if_pos zbIf, zrtB]
        congr 1
        cases r
        · rfl
        · exact absurd (hb.mpr ⟨(hrt.mp rfl).1, fun d hd => (hrt.mp rfl).2 d (by omega)⟩) (by decide)
      · obtain ⟨g1, g2⟩ := hb.mp rfl
        have nx : ∀ d : Bool, (d = true ↔ (zmt v a cl (nI c) s t = true ∧ zmt v a cl (nI c) t s = true)) → k (bI d, nI c + 1) = some r := by
          intro d hd
          rw [nI_1]
          refine hk q _ ⟨rfl, d, rfl, ?_⟩
          rw [hd]
          constructor
          · intro e
            refine ⟨g1, fun u hu => ?_⟩
            rcases Nat.lt_or_ge u c with w | w
            · exact g2 u w
            · have : u = c := by omega
              subst this; exact e
          · intro e; exact e.2 c (by omega)
        rw [if_neg zbIt, r_isMatched h hl q hs ht, Option.bind_some]
        cases e1 : zmt v a cl (nI c) s t
        · rw [if_pos zbIf]
          exact nx false ⟨fun h => absurd h (by decide), fun h => by rw [e1] at h; exact absurd h.1 (by decide)⟩
        · rw [if_neg zbIt, r_isMatched h hl q ht hs, Option.bind_some]
          cases e2 : zmt v a cl (nI c) t s
          · rw [if_pos zbIf]
            exact nx false ⟨fun h => absurd h (by decide), fun h => by rw [e2] at h; exact absurd h.2 (by decide)⟩
          · rw [if_neg zbIt]
            exact nx true ⟨fun _ => ⟨e1, e2⟩, fun _ => rfl⟩
    · have : c = 2 ^ a := by omega
      subst this
      rw [if_pos (zle (by omega) (by omega) q), zrtB]
      congr 1
      exact Bool.eq_iff_iff.mpr (hb.trans hrt.symm)
  by_cases e : cl s = cl t
  · rw [if_pos (by rw [e])]
    exact key true ⟨fun _ => e, fun _ => rfl⟩
  · rw [if_neg (zne (by omega) (by omega) e)]
    exact key false ⟨fun h => absurd h (by decide), fun h => absurd h e⟩
/-- a row of classes is right up to s -/
def zcn (σ : St) (k : Nat) (f : Nat → Nat) (s : Nat) : Prop := ∀ u, u < s → σ k u = nI (f u)
theorem zm1_lt : ¬ (0 : Int32) ≤ -1 := by decide
def zLf : List Nat := [90, 109, 110, 111]
theorem r_classes0 (h : zR a n v σ) (hC : zC a n v σ) {P : Option (Int32 × St) → Prop} (hP : ∀ τ, zah zLf [5] σ τ → zC a n v τ → τ 87 5 = 1 → zcn τ 109 (zrf (zr0 v) n).2 n → P (loopF (fun k z => m_X10_divides_b154 z.1 z.2.1 z.2.2 k) cFu (τ, nI (zrf (zr0 v) n).1, -1))) : P (m_X10_divides σ) := by
  have hn := h.2.2.2.2.1
  unfold m_X10_divides
  refine zl (P := P) (fun s z => z.2.2 = nI s ∧ z.2.1 = nI (zrf (zr0 v) s).1 ∧ zah [109] [] σ z.1 ∧ zcn z.1 109 (zrf (zr0 v) s).2 s) n (by omega) ⟨nI_0.symm, rfl, zah.rf, fun j hj => absurd hj (Nat.not_lt_zero j)⟩ ?_
  rintro k s ⟨τ, x, y⟩ hs ⟨hy, hx, hg, hd⟩ hk
  dsimp only at hx hy hg hd ⊢
  subst hx hy
  have hR := h.g hg (by decide)
  have hCτ := hC.g hg (by decide)
  have g4 : zah zLf [5] σ τ := hg.sub (fun k hk => by simp [zLf] at hk ⊢; omega) (fun _ h => absurd h List.not_mem_nil)
  unfold m_X10_divides_b4
  rw [show (1200 : Int32) = nI 1200 from rfl, zck (by decide) (by decide), hR.2.2.2.1, hR.2.2.2.2.2.1]
  rcases Nat.lt_or_ge s n with q | q
  · rw [if_neg (znle (by omega) (by omega) q), zck (by decide) (by omega), nI_clamp (by omega)]
    have hok := zrf_ok (zr0 v) s
    -- the end of the inner loop
    have fin : ∀ ρ, zah [109] [] σ ρ → zcn ρ 109 (zrf (zr0 v) s).2 s → ((ρ 109 s = -1 ∧ zfl (zr0 v) s = s) ∨ (zfl (zr0 v) s < s ∧ ρ 109 s = nI ((zrf (zr0 v) s).2 (zfl (zr0 v) s)))) →
        P (if 0 ≤ ρ 109 s then m_X10_divides_b106 ρ (nI s) 0 (nI (zrf (zr0 v) s).1) k else m_X10_divides_b106 ρ (nI s) 1 (nI (zrf (zr0 v) s).1) k) := by
      intro ρ h1 h2 h3
      have lab : ∀ (z : Int32) (p : Nat × (Nat → Nat)), p = zrf (zr0 v) (s + 1) → (∀ u, u < s → p.2 u = (zrf (zr0 v) s).2 u) → z = nI (p.2 s) → P (m_X10_divides_b134 ρ (nI p.1) (nI s) z (nI s) k) := by
        intro z p hp hp2 hz
        unfold m_X10_divides_b134
        rw [zck (by decide) (by omega), nI_clamp (by omega), nI_1]
        refine hk q _ ⟨rfl, by rw [← hp], h1.st (by simp) (by simp), fun u hu => ?_⟩
        dsimp only
        rw [zup_v, ← hp]
        by_cases e : u = s
        · subst e; rw [if_pos ⟨rfl, rfl⟩, hz]
        · rw [if_neg (fun w => e w.2), hp2 u (by omega)]; exact h2 u (by omega)
      rcases h3 with ⟨e1, e2⟩ | ⟨e1, e2⟩
      · have hy : ¬ zfl (zr0 v) s < s := by omega
        rw [e1, if_neg zm1_lt]
        unfold m_X10_divides_b106
        rw [zck (by decide) (by omega), nI_clamp (by omega), e1, if_neg zm1_lt, nI_1, show nI ((zrf (zr0 v) s).1 + 1) - 1 = nI (zrf (zr0 v) s).1 from pk_sub (b := 1) (by omega)]
        exact lab _ ((zrf (zr0 v) s).1 + 1, va_up (zrf (zr0 v) s).2 s (zrf (zr0 v) s).1) (zrf_n hy).symm (fun u hu => zva_n (by omega)) (by dsimp only; rw [zva_s])
      · have hb := hok.2.1 _ e1
        rw [e2, if_pos (nI_pos' (by omega))]
        unfold m_X10_divides_b106
        rw [zck (by decide) (by omega), nI_clamp (by omega), e2, if_pos (nI_pos' (by omega)), zck (by decide) (by omega), Int32.add_zero]
        exact lab _ ((zrf (zr0 v) s).1, va_up (zrf (zr0 v) s).2 s ((zrf (zr0 v) s).2 (zfl (zr0 v) s))) (zrf_y e1).symm (fun u hu => zva_n (by omega)) (by dsimp only; rw [zva_s])
    refine zl (P := P) (fun t z => z.2 = nI t ∧ zah [109] [] σ z.1 ∧ zcn z.1 109 (zrf (zr0 v) s).2 s ∧ ((z.1 109 s = -1 ∧ ∀ u, u < t → zr0 v u s = false) ∨ (zfl (zr0 v) s < s ∧ z.1 109 s = nI ((zrf (zr0 v) s).2 (zfl (zr0 v) s))))) s (by omega) ⟨nI_0.symm, hg.st (by simp) (by simp), fun u hu => by dsimp only; rw [zup_sn (by omega)]; exact hd u hu, Or.inl ⟨zup_ss τ 109 s (-1), fun j hj => absurd hj (Nat.not_lt_zero j)⟩⟩ ?_
    clear hd hg g4 hR hCτ
    rintro k2 t ⟨ρ, x⟩ ht ⟨hx, hg, hd, hcase⟩ hk2
    dsimp only at hx hg hd hcase ⊢
    subst hx
    have hR := h.g hg (by decide)
    unfold m_X10_divides_b25
    rcases Nat.lt_or_ge t s with w | w
    · rw [if_neg (znle (by omega) (by omega) w), zck (by decide) (by omega), nI_clamp (by omega)]
      have same : ∀ z, z = ρ 109 s → ((ρ 109 s = -1 ∧ ∀ u, u < t + 1 → zr0 v u s = false) ∨ (zfl (zr0 v) s < s ∧ ρ 109 s = nI ((zrf (zr0 v) s).2 (zfl (zr0 v) s)))) → P (m_X10_divides_b84 ρ (nI (zrf (zr0 v) s).1) (nI s) (nI t) z (nI s) k k2) := by
        intro z hz hc
        subst hz
        unfold m_X10_divides_b84
        rw [zck (by decide) (by omega), nI_clamp (by omega), zup_self, nI_1]
        exact hk2 w _ ⟨rfl, hg, hd, hc⟩
      rcases hcase with ⟨c1, c2⟩ | ⟨c1, c2⟩
      · rw [c1, if_neg zm1_lt, z100_0, z100_0, zck (by decide) (by omega), zck (by decide) (by omega), nI_clamp (by omega), nI_clamp (by omega), hR.2.2.2.1]
        by_cases e : v (100 * s) = v (100 * t)
        · rw [if_pos e, zck (by decide) (by omega), nI_clamp (by omega)]
          have hfl : zfl (zr0 v) s = t := zfl_hit w (decide_eq_true e.symm) c2
          unfold m_X10_divides_b84
          rw [zck (by decide) (by omega), nI_clamp (by omega), nI_1]
          refine hk2 w _ ⟨rfl, hg.st (by simp) (by simp), fun u hu => ?_, Or.inr ⟨by rw [hfl]; exact w, ?_⟩⟩
          · dsimp only; rw [zup_sn (by omega)]; exact hd u hu
          · dsimp only; rw [zup_ss, hfl]; exact hd t w
        · rw [if_neg e]
          unfold m_X10_divides_b78
          rw [zck (by decide) (by omega), nI_clamp (by omega)]
          refine same _ rfl (Or.inl ⟨c1, fun u hu => ?_⟩)
          rcases Nat.lt_or_ge u t with a1 | a1
          · exact c2 u a1
          · have : u = t := by omega
            subst this
            exact decide_eq_false (fun r => e r.symm)
      · have hb := hok.2.1 _ c1
        rw [c2, if_pos (nI_pos' (by omega))]
        unfold m_X10_divides_b78
        rw [zck (by decide) (by omega), nI_clamp (by omega)]
        exact same _ rfl (Or.inr ⟨c1, c2⟩)
    · have : t = s := by omega
      subst this
      rw [if_pos (zle (by omega) (by omega) w), zck (by decide) (by omega), nI_clamp (by omega)]
      refine fin ρ hg hd ?_
      rcases hcase with ⟨c1, c2⟩ | c
      · exact Or.inl ⟨c1, zfl_no c2⟩
      · exact Or.inr c
  · have : s = n := by omega
    subst this
    rw [if_pos (zle (by omega) (by omega) q)]
    refine zite (fun e => ?_) (fun e => ?_)
    · refine zbind (r_freshens hR) ?_
      rintro ρ ⟨hg2, h5, hraw⟩
      refine hP ρ (g4.tr (hg2.sub (fun k hk => by simp [zLf] at hk ⊢; omega) (fun _ h => h))) (Or.inr ⟨h5, hraw⟩) h5 (fun u hu => ?_)
      rw [hg2.1 109 (by decide) (by decide)]
      exact hd u hu
    · refine hP τ g4 hCτ ?_ hd
      rcases hCτ with e0 | ⟨e1, -⟩
      · exact absurd e0 e
      · exact e1
theorem r_divides (h : zR a n v σ) (hC : zC a n v σ) : zP (fun u => zah zLf [5] σ u.2 ∧ zC a n v u.2 ∧ ∃ k, u.1 = nI (zdv v a n (k + 1)).1 ∧ zcn u.2 109 (zdv v a n (k + 1)).2 n ∧ (zdv v a n (k + 1)).1 = (zdv v a n k).1 ∧ ∀ j, j < k → (zdv v a n (j + 1)).1 ≠ (zdv v a n j).1) (m_X10_divides σ) := by
  have hn := h.2.2.2.2.1
  have ha := h.2.1
  have hW := h.2.2.2.2
  refine r_classes0 h hC ?_
  intro τ0 hg0 hC0 h50 hd0
  refine zl (P := zP _) (fun k z => zah zLf [5] σ z.1 ∧ zC a n v z.1 ∧ z.1 87 5 = 1 ∧ zcn z.1 109 (zdv v a n k).2 n ∧ z.2.1 = nI (zdv v a n k).1 ∧ ((k = 0 ∧ z.2.2 = -1) ∨ ∃ j, k = j + 1 ∧ z.2.2 = nI (zdv v a n j).1) ∧ ∀ j, j + 1 < k → (zdv v a n (j + 1)).1 ≠ (zdv v a n j).1) 14 (by decide) ⟨hg0, hC0, h50, hd0, rfl, Or.inl ⟨rfl, rfl⟩, fun j hj => absurd hj (Nat.not_lt_zero _)⟩ ?_
  clear hg0 hC0 h50 hd0 τ0
  rintro kk k ⟨τ, x, y⟩ hk ⟨hg, hCτ, h5, hd, hx, hy, hno⟩ hkk
  dsimp only at hg hCτ h5 hd hx hy ⊢
  subst hx
  have hok := zdv_ok v a n k
  unfold m_X10_divides_b154
  -- one more division
  have more : (∀ j, j < k → (zdv v a n (j + 1)).1 ≠ (zdv v a n j).1) → zP (fun u => zah zLf [5] σ u.2 ∧ zC a n v u.2 ∧ ∃ k, u.1 = nI (zdv v a n (k + 1)).1 ∧ zcn u.2 109 (zdv v a n (k + 1)).2 n ∧ (zdv v a n (k + 1)).1 = (zdv v a n k).1 ∧ ∀ j, j < k → (zdv v a n (j + 1)).1 ≠ (zdv v a n j).1) ((m_X10_leads τ).bind fun u3 => loopF (fun k' z => m_X10_divides_b169 z.1 z.2.1 (nI (zdv v a n k).1) z.2.2 kk k') cFu (u3, 0, 0)) := by
    intro hno
    have hgw := zdv_grow hno
    have hk13 : k < 14 := by omega
    have hR := h.g (L := zLf) (J := [5]) hg (by decide)
    refine zbind (r_leads hR) ?_
    rintro ρ ⟨hg1, hled⟩
    have hclb : ∀ s, s < n → τ 109 s = nI ((zdv v a n k).2 s) ∧ (zdv v a n k).2 s < 12 := fun s hs => ⟨hd s hs, by have := hok.2 s hs; omega⟩
    have hraw : ∀ s c j, s < n → c < 2 ^ a → j < 81 → τ 90 (81 * (16 * s + c) + j) = zoc v a (nI c) s j := by
      rcases hCτ with e | ⟨-, e⟩
      · rw [h5] at e; exact absurd e (by decide)
      · exact e
    have h81 := za_81 ha
    have hl : ∀ s c j, s < n → c < 2 ^ a → j < 81 → ρ 111 (81 * (16 * s + c) + j) = zoC v a (zdv v a n k).2 (nI c) s j := fun s c j hs hc hj => by
      rw [hled _ (by omega), hraw s c j hs hc hj]
      exact zcR_oc hW hclb hs _ _
    have g1 : zah zLf [5] σ ρ := hg.tr (hg1.sub (fun k hk => by simp [zLf] at hk ⊢; omega) (fun _ h => absurd h List.not_mem_nil))
    have c1 : zC a n v ρ := hCτ.g hg1 (by decide)
    have e5 : ρ 87 5 = 1 := (hg1.2 5 (by simp)).trans h5
    have hcl1 : ∀ s, s < n → ρ 109 s = nI ((zdv v a n k).2 s) ∧ (zdv v a n k).2 s < 12 := fun s hs => by rw [hg1.1 109 (by decide) (by decide)]; exact hclb s hs
    generalize hr : zrR v a (zdv v a n k).2 = r
    have hz1 : zdv v a n (k + 1) = zrf r n := by rw [← hr]; rfl
    refine zl (P := zP _) (fun s z => z.2.2 = nI s ∧ z.2.1 = nI (zrf r s).1 ∧ zah [110] [] ρ z.1 ∧ zcn z.1 110 (zrf r s).2 s) n (by omega) ⟨nI_0.symm, rfl, zah.rf, fun j hj => absurd hj (Nat.not_lt_zero j)⟩ ?_
    rintro k2 s ⟨τ2, x, y2⟩ hs ⟨hy2, hx2, hg2, hd2⟩ hk2
    dsimp only at hx2 hy2 hg2 hd2 ⊢
    subst hx2 hy2
    have hR2 := (h.g (L := zLf) (J := [5]) g1 (by decide)).g hg2 (by decide)
    unfold m_X10_divides_b169
    rw [show (1200 : Int32) = nI 1200 from rfl, zck (by decide) (by decide), hR2.2.2.2.1, hR2.2.2.2.2.2.1]
    rcases Nat.lt_or_ge s n with q | q
    · rw [if_neg (znle (by omega) (by omega) q), zck (by decide) (by omega), nI_clamp (by omega)]
      have hokr := zrf_ok r s
      have fin : ∀ ρ2, zah [110] [] ρ ρ2 → zcn ρ2 110 (zrf r s).2 s → ((ρ2 110 s = -1 ∧ zfl r s = s) ∨ (zfl r s < s ∧ ρ2 110 s = nI ((zrf r s).2 (zfl r s)))) →
          zP (fun u => zah zLf [5] σ u.2 ∧ zC a n v u.2 ∧ ∃ k, u.1 = nI (zdv v a n (k + 1)).1 ∧ zcn u.2 109 (zdv v a n (k + 1)).2 n ∧ (zdv v a n (k + 1)).1 = (zdv v a n k).1 ∧ ∀ j, j < k → (zdv v a n (j + 1)).1 ≠ (zdv v a n j).1) (m_X10_divides_b239 ρ2 (nI (zrf r s).1) (nI (zdv v a n k).1) (nI s) kk k2) := by
        intro ρ2 h1 h2 h3
        have lab : ∀ (z : Int32) (p : Nat × (Nat → Nat)), p = zrf r (s + 1) → (∀ u, u < s → p.2 u = (zrf r s).2 u) → z = nI (p.2 s) → zP (fun u => zah zLf [5] σ u.2 ∧ zC a n v u.2 ∧ ∃ k, u.1 = nI (zdv v a n (k + 1)).1 ∧ zcn u.2 109 (zdv v a n (k + 1)).2 n ∧ (zdv v a n (k + 1)).1 = (zdv v a n k).1 ∧ ∀ j, j < k → (zdv v a n (j + 1)).1 ≠ (zdv v a n j).1) (m_X10_divides_b282 ρ2 (nI p.1) (nI (zdv v a n k).1) (nI s) z (nI s) kk k2) := by
          intro z p hp hp2 hz
          unfold m_X10_divides_b282
          rw [zck (by decide) (by omega), nI_clamp (by omega), nI_1]
          refine hk2 q _ ⟨rfl, by rw [← hp], h1.st (by simp) (by simp), fun u hu => ?_⟩
          dsimp only
          rw [zup_v, ← hp]
          by_cases e : u = s
          · subst e; rw [if_pos ⟨rfl, rfl⟩, hz]
          · rw [if_neg (fun w => e w.2), hp2 u (by omega)]; exact h2 u (by omega)
        unfold m_X10_divides_b239
        rw [zck (by decide) (by omega), nI_clamp (by omega)]
        rcases h3 with ⟨e1, e2⟩ | ⟨e1, e2⟩
        · have hy : ¬ zfl r s < s := by omega
          rw [e1, if_neg zm1_lt]
          unfold m_X10_divides_b254
          rw [zck (by decide) (by omega), nI_clamp (by omega), e1, if_neg zm1_lt, nI_1, show nI ((zrf r s).1 + 1) - 1 = nI (zrf r s).1 from pk_sub (b := 1) (by omega)]
          exact lab _ ((zrf r s).1 + 1, va_up (zrf r s).2 s (zrf r s).1) (zrf_n hy).symm (fun u hu => zva_n (by omega)) (by dsimp only; rw [zva_s])
        · have hb := hokr.2.1 _ e1
          rw [e2, if_pos (nI_pos' (by omega))]
          unfold m_X10_divides_b254
          rw [zck (by decide) (by omega), nI_clamp (by omega), e2, if_pos (nI_pos' (by omega)), zck (by decide) (by omega), Int32.add_zero]
          exact lab _ ((zrf r s).1, va_up (zrf r s).2 s ((zrf r s).2 (zfl r s))) (zrf_y e1).symm (fun u hu => zva_n (by omega)) (by dsimp only; rw [zva_s])
      refine zl (P := zP _) (fun t z => z.2 = nI t ∧ zah [110] [] ρ z.1 ∧ zcn z.1 110 (zrf r s).2 s ∧ ((z.1 110 s = -1 ∧ ∀ u, u < t → r u s = false) ∨ (zfl r s < s ∧ z.1 110 s = nI ((zrf r s).2 (zfl r s))))) s (by omega) ⟨nI_0.symm, hg2.st (by simp) (by simp), fun u hu => by dsimp only; rw [zup_sn (by omega)]; exact hd2 u hu, Or.inl ⟨zup_ss τ2 110 s (-1), fun j hj => absurd hj (Nat.not_lt_zero j)⟩⟩ ?_
      clear hd2 hg2 hR2
      rintro k3 t ⟨ρ3, x⟩ ht ⟨hx, hg3, hd3, hcase⟩ hk3
      dsimp only at hx hg3 hd3 hcase ⊢
      subst hx
      unfold m_X10_divides_b191
      rcases Nat.lt_or_ge t s with w | w
      · rw [if_neg (znle (by omega) (by omega) w), zck (by decide) (by omega), nI_clamp (by omega)]
        rcases hcase with ⟨c1', c2'⟩ | ⟨c1', c2'⟩
        · rw [c1', if_neg zm1_lt]
          have hR3 := (h.g (L := zLf) (J := [5]) g1 (by decide)).g hg3 (by decide)
          refine zbe (r_areAlike hR3 (fun s c j hs hc hj => by rw [hg3.1 111 (by decide) (by decide)]; exact hl s c j hs hc hj) (fun s hs => by rw [hg3.1 109 (by decide) (by decide)]; exact hcl1 s hs) q (show t < n by omega)) ?_
          rw [hr]
          cases hb : r t s
          · rw [if_pos zbIf]
            unfold m_X10_divides_b232
            rw [zck (by decide) (by omega), nI_clamp (by omega), nI_1]
            refine hk3 w _ ⟨rfl, hg3.st (by simp) (by simp), fun u hu => ?_, Or.inl ⟨zup_ss ρ3 110 s (-1), fun u hu => ?_⟩⟩
            · dsimp only; rw [zup_sn (by omega)]; exact hd3 u hu
            · rcases Nat.lt_or_ge u t with a1 | a1
              · exact c2' u a1
              · have : u = t := by omega
                subst this; exact hb
          · rw [if_neg zbIt, zck (by decide) (by omega), nI_clamp (by omega)]
            have hfl : zfl r s = t := zfl_hit w hb c2'
            unfold m_X10_divides_b232
            rw [zck (by decide) (by omega), nI_clamp (by omega), nI_1]
            refine hk3 w _ ⟨rfl, hg3.st (by simp) (by simp), fun u hu => ?_, Or.inr ⟨by rw [hfl]; exact w, ?_⟩⟩
            · dsimp only; rw [zup_sn (by omega)]; exact hd3 u hu
            · dsimp only; rw [zup_ss, hfl]; exact hd3 t w
        · have hb := hokr.2.1 _ c1'
          rw [c2', if_pos (nI_pos' (by omega))]
          exact fin ρ3 hg3 hd3 (Or.inr ⟨c1', c2'⟩)
      · have : t = s := by omega
        subst this
        rw [if_pos (zle (by omega) (by omega) w)]
        refine fin ρ3 hg3 hd3 ?_
        rcases hcase with ⟨c1', c2'⟩ | c
        · exact Or.inl ⟨c1', zfl_no c2'⟩
        · exact Or.inr c
    · have : s = n := by omega
      subst this
      rw [if_pos (zle (by omega) (by omega) q)]
      have f1 : zah zLf [5] σ τ2 := g1.tr (hg2.sub (fun k hk => by simp [zLf] at hk ⊢; omega) (fun _ h => absurd h List.not_mem_nil))
      have cc1 : zC a s v τ2 := c1.g hg2 (by decide)
      have ee5 : τ2 87 5 = 1 := (hg2.2 5 (by simp)).trans e5
      rw [← hz1] at hd2 ⊢
      refine zl (P := zP _) (fun u z => z.2 = nI u ∧ zah zLf [5] σ z.1 ∧ zC a s v z.1 ∧ z.1 87 5 = 1 ∧ zcn z.1 110 (zdv v a s (k + 1)).2 s ∧ zcn z.1 109 (zdv v a s (k + 1)).2 u) s (by omega) ⟨nI_0.symm, f1, cc1, ee5, hd2, fun j hj => absurd hj (Nat.not_lt_zero j)⟩ ?_
      rintro k4 u ⟨τ3, x⟩ hu ⟨hx, i1, i2, i3, i4, i5⟩ hk4
      dsimp only at hx i1 i2 i3 i4 i5 ⊢
      subst hx
      have hR3 := h.g (L := zLf) (J := [5]) i1 (by decide)
      unfold m_X10_divides_b291
      rw [show (1200 : Int32) = nI 1200 from rfl, zck (by decide) (by decide), hR3.2.2.2.1, hR3.2.2.2.2.2.1]
      rcases Nat.lt_or_ge u s with w | w
      · rw [if_neg (znle (by omega) (by omega) w), zck (by decide) (by omega), zck (by decide) (by omega), nI_clamp (by omega), nI_1]
        refine hk4 w _ ⟨rfl, i1.st (by decide) (by decide), i2.g (L := [109]) (J := []) (zah.rf.st (by simp) (by simp)) (by decide), by dsimp only; rw [zup_n (by decide)]; exact i3, fun j hj => by dsimp only; rw [zup_n (by decide)]; exact i4 j hj, fun j hj => ?_⟩
        dsimp only
        rw [zup_v]
        by_cases e : j = u
        · subst e; rw [if_pos ⟨rfl, rfl⟩]; exact i4 j w
        · rw [if_neg (fun r => e r.2)]; exact i5 j (by omega)
      · have : u = s := by omega
        subst this
        rw [if_pos (zle (by omega) (by omega) w)]
        refine hkk hk13 _ ⟨i1, i2, i3, i5, rfl, Or.inr ⟨k, rfl, rfl⟩, fun j hj => ?_⟩
        exact hno j (by omega)
  rcases hy with ⟨rfl, rfl⟩ | ⟨j, rfl, rfl⟩
  · rw [if_neg (fun e => znm1 (n := (zdv v a n 0).1) (by omega) e.symm)]
    exact more (fun j hj => absurd hj (Nat.not_lt_zero j))
  · have hok0 := zdv_ok v a n j
    by_cases e : (zdv v a n j).1 = (zdv v a n (j + 1)).1
    · rw [if_pos (by rw [e])]
      exact zP_some ⟨hg, hCτ, j, rfl, hd, e.symm, fun i hi => hno i (by omega)⟩
    · rw [if_neg (zne (by omega) (by omega) e)]
      refine more (fun i hi => ?_)
      rcases Nat.lt_or_ge i j with w | w
      · exact hno i (by omega)
      · have : i = j := by omega
        subst this
        exact fun q => e q.symm
end ZY
section SC
variable {a : Nat} {σ : St}
theorem s_div (H : INV a σ) : ∃ (r : Int32) (cl : Nat → Int32) (σ1 σ2 : St), m_X2_divide σ = some (r, σ1) ∧ m_X10_divides σ1 = some (r, σ2) ∧ INV a σ1 ∧ INV a σ2 ∧ ∃ n, σ1 0 7 = nI n ∧ n ≤ 12 ∧ zR a n (σ 88) σ1 ∧ (∀ s, s < n → σ1 83 s = cl s ∧ σ2 109 s = cl s) := by
  obtain ⟨n, hW, hR, hC, hr⟩ := H.zR
  have hn := hW.1
  have ha := H.1.2.1
  obtain ⟨⟨r, σ1⟩, e1, hg, K, hK, hr1, hc1⟩ := z_divide H.1 hW hR
  dsimp only at hg hr1 hc1
  have hrr := hr.ag hg (by decide)
  have H1 : INV a σ1 := H.c2 hg (by decide)
  obtain ⟨⟨r2, σ2⟩, e2, hg2, hC2, k, hr2, hc2, hk1, hk2⟩ := r_divides hrr (hC.ag hg (by decide))
  dsimp only at hg2 hC2 hr2 hc2
  have key : (zdv (σ 88) a n K).1 = (zdv (σ 88) a n (k + 1)).1 ∧ ∀ s, s < n → (zdv (σ 88) a n K).2 s = (zdv (σ 88) a n (k + 1)).2 s := by
    rcases hK with ⟨rfl, hm⟩ | ⟨-, k', rfl, hk3, hk4⟩
    · have h1 := zdv_one hW ha hm
      have : k = 0 := Classical.byContradiction fun e => hk2 0 (by omega) h1.1
      subst this
      exact ⟨h1.1.symm, fun s hs => (h1.2 s hs).symm⟩
    · have : k = k' := by
        rcases Nat.lt_trichotomy k k' with q | q | q
        · exact absurd hk1 (hk4 k q)
        · exact q
        · exact absurd hk3 (hk2 k' q)
      subst this
      exact ⟨rfl, fun _ _ => rfl⟩
  refine ⟨r, σ1 83, σ1, σ2, e1, by rw [e2, hr2, hr1, key.1], H1, H1.r2 hrr.2.2.2.1 hW hg2 (by decide) (by decide) hC2, n, ?_, hn, hrr, fun s hs => ⟨rfl, ?_⟩⟩
  · rw [hg 0 (by decide)]; exact hR.1
  · rw [hc2 s hs, hc1 s hs, key.2 s hs]
theorem s_classes (H : INV a σ) : ∃ r σ1 σ2, m_X9_classes σ = some (r, σ1) ∧ m_X10_classes σ1 = some (r, σ2) ∧ INV a σ2 := by
  obtain ⟨r, cl, σ1, σ2, e1, e2, H1, H2, -⟩ := s_div H
  refine ⟨r, σ1, σ2, ?_, ?_, H2⟩
  · unfold m_X9_classes; rw [e1]; rfl
  · unfold m_X10_classes; rw [e2]; rfl
theorem s_classOf (H : INV a σ) (x : Int32) : ∃ r σ1 σ2, m_X9_classOf σ x = some (r, σ1) ∧ m_X10_classOf σ1 x = some (r, σ2) ∧ INV a σ2 := by
  obtain ⟨n, hW, hR, hC, hr⟩ := H.zR
  have hn := hW.1
  unfold m_X9_classOf
  rw [z_hasState hR.1]
  refine zin_any (x := x) (n := n) (by omega) ?_ (fun h => ⟨-1, σ, σ, by rw [h, if_pos zbIf], by unfold m_X10_classOf; rw [r_isState hr, h, Option.bind_some, if_pos zbIf], H⟩)
  rintro s hs rfl
  obtain ⟨r, cl, σ1, σ2, e1, e2, H1, H2, m, hm, hm12, hrm, hcl⟩ := s_div H
  have hmn : m = n := hrm.2.2.2.2.n_eq hW
  subst hmn
  rw [zin_nI (by omega) hs, if_neg zbIt, e1, Option.bind_some]
  refine ⟨cl s, σ1, σ2, ?_, ?_, H2⟩
  · unfold m_X2_classNumber
    dsimp only
    rw [zrA (by decide) (by omega), (hcl s hs).1]
  · unfold m_X10_classOf
    rw [r_isState hrm, zin_nI (by omega) hs, Option.bind_some, if_neg zbIt, e2, Option.bind_some, zck (by decide) (by omega), nI_clamp (by omega)]
    dsimp only
    rw [(hcl s hs).2]
end SC
