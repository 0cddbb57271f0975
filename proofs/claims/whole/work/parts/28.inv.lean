/-! WHAT BOTH SYSTEMS SHARE between calls -/
def zpast (σ : St) (k : Nat) : Nat → Int32 := fun i => σ 89 (1201 * k + i)
/-- the ring holds h rows -/
def zHc (a : Nat) (σ : St) (P : Nat → Nat → Int32) (h : Nat) : Prop := ∃ o, o < 4 ∧ σ 67 2 = nI h ∧ σ 67 1 = nI o ∧ ∀ k, k < h → ∃ n, zWF a n (P k) ∧ zRS a n (P k) σ (5 + 5 * ((o + k) % 4))
def zH (a : Nat) (σ : St) : Prop := ∃ h, h ≤ 4 ∧ zHc a σ (zpast σ) h ∧ σ 87 3 = nI h
def zT (σ : St) : Prop := ∃ l, l ≤ 60 ∧ σ 73 5 = nI l ∧ σ 87 8 = nI l ∧ ∀ i, i < l → ∃ c, 32 ≤ c ∧ c ≤ 126 ∧ σ 74 i = nI c ∧ σ 92 i = nI c
def zFs (a : Nat) (σ : St) : Prop := ∃ m, m ≤ 8 ∧ σ 65 8 = nI m ∧ σ 87 14 = nI m ∧ ∀ i, i < m → ∃ len f, zFok a len f ∧ zFc σ (25 + 5 * i) len f ∧ zFr σ i len f
def INV (a : Nat) (σ : St) : Prop := zK a σ ∧ (∃ n, zWF a n (σ 88) ∧ zRS a n (σ 88) σ 0 ∧ zC a n (σ 88) σ) ∧ zH a σ ∧ zT σ ∧ zFs a σ
theorem zHc.ag {a : Nat} {σ τ : St} {P : Nat → Nat → Int32} {h : Nat} (H : zHc a σ P h) (e : ∀ k, (5 ≤ k ∧ k < 25) ∨ k = 67 → τ k = σ k) : zHc a τ P h := by
  obtain ⟨o, ho, h1, h2, h3⟩ := H
  refine ⟨o, ho, by rw [e 67 (Or.inr rfl)]; exact h1, by rw [e 67 (Or.inr rfl)]; exact h2, fun k hk => ?_⟩
  obtain ⟨n, hw, hr⟩ := h3 k hk
  have : (o + k) % 4 < 4 := Nat.mod_lt _ (by decide)
  refine ⟨n, hw, hr.ag (by rw [e _ (by omega)]) (e _ (by omega)) (e _ (by omega)) (e _ (by omega)) (e _ (by omega))⟩
theorem zFs.ag {a : Nat} {σ τ : St} (H : zFs a σ) (e : ∀ k, (25 ≤ k ∧ k < 66) ∨ (93 ≤ k ∧ k ≤ 97) → τ k = σ k) (e14 : τ 87 14 = σ 87 14) : zFs a τ := by
  obtain ⟨m, hm, h1, h2, h3⟩ := H
  refine ⟨m, hm, by rw [e 65 (by omega)]; exact h1, by rw [e14]; exact h2, fun i hi => ?_⟩
  obtain ⟨len, f, f1, f2, f3⟩ := h3 i hi
  refine ⟨len, f, f1, ?_, ?_⟩
  · unfold zFc at f2 ⊢
    rw [e (25 + 5 * i) (by omega), e (25 + 5 * i + 1) (by omega), e (25 + 5 * i + 2) (by omega), e (25 + 5 * i + 3) (by omega), e (25 + 5 * i + 4) (by omega)]
    exact f2
  · unfold zFr at f3 ⊢
    rw [e 93 (by omega), e 94 (by omega), e 95 (by omega), e 96 (by omega), e 97 (by omega)]
    exact f3
theorem zT.ag {σ τ : St} (H : zT σ) (e73 : τ 73 5 = σ 73 5) (e74 : τ 74 = σ 74) (e92 : τ 92 = σ 92) (e8 : τ 87 8 = σ 87 8) : zT τ := by
  unfold zT at H ⊢
  rw [e73, e74, e92, e8]
  exact H
theorem INV.of {a : Nat} {σ τ : St} (H : INV a σ) (e : ∀ k, (k < 72 ∨ k = 73 ∨ k = 74 ∨ (88 ≤ k ∧ k ≤ 97 ∧ k ≠ 90 ∧ k ≠ 91)) → τ k = σ k) (e7 : ∀ j, j = 0 ∨ j = 3 ∨ j = 8 ∨ j = 14 → τ 87 j = σ 87 j) (hC : ∀ n, zWF a n (σ 88) → zC a n (σ 88) σ → zC a n (σ 88) τ) : INV a τ := by
  obtain ⟨hK, ⟨n, hW, hR, hc⟩, ⟨h, hh, hH, h3⟩, hT, hF⟩ := H
  refine ⟨hK.ag (e 0 (by omega)) (e 70 (by omega)) (e 71 (by omega)) (by rw [e 73 (by omega)]) (e7 0 (by omega)), ⟨n, ?_, ?_, ?_⟩, ⟨h, hh, ?_, ?_⟩, hT.ag (by rw [e 73 (by omega)]) (e 74 (by omega)) (e 92 (by omega)) (e7 8 (by omega)), hF.ag (fun k hk => e k (by omega)) (e7 14 (by omega))⟩
  · rw [e 88 (by omega)]; exact hW
  · rw [e 88 (by omega)]; exact hR.ag (by rw [e 0 (by omega)]) (e 1 (by omega)) (e 2 (by omega)) (e 3 (by omega)) (e 4 (by omega))
  · rw [e 88 (by omega)]; exact hC n hW hc
  · have : zpast τ = zpast σ := by unfold zpast; rw [e 89 (by omega)]
    rw [this]
    exact hH.ag (fun k hk => e k (by omega))
  · rw [e7 3 (by omega)]; exact h3
/-- the first system's own working cells -/
def zwc : List Nat := [72, 79, 80, 81, 83, 84, 85, 86]
theorem INV.cl {a : Nat} {σ τ : St} (H : INV a σ) (hg : zag zwc σ τ) : INV a τ := by
  refine H.of (fun k hk => hg k ?_) (fun j _ => by rw [hg 87 (by decide)]) (fun n hW hC => hC.ag hg (by decide))
  intro h
  unfold zwc at h
  simp only [List.mem_cons, List.not_mem_nil, or_false] at h
  omega
def zwr : List Nat := [90, 91, 98, 99, 100, 101, 102, 103, 104, 105, 106, 107, 108, 109, 110, 111]
theorem INV.rf {a : Nat} {σ τ : St} {J : List Nat} (H : INV a σ) (hg : zah zwr J σ τ) (hJ : 0 ∉ J ∧ 3 ∉ J ∧ 8 ∉ J ∧ 14 ∉ J) (hC : ∀ n, zWF a n (σ 88) → zC a n (σ 88) σ → zC a n (σ 88) τ) : INV a τ := by
  refine H.of (fun k hk => hg.1 k ?_ (by omega)) (fun j hj => hg.2 j ?_) hC
  · intro h
    have := (by decide : ∀ k ∈ zwr, k = 90 ∨ k = 91 ∨ 98 ≤ k) k h
    omega
  · rcases hj with rfl | rfl | rfl | rfl
    · exact hJ.1
    · exact hJ.2.1
    · exact hJ.2.2.1
    · exact hJ.2.2.2
theorem INV.zR {a : Nat} {σ : St} (H : INV a σ) : ∃ n, zWF a n (σ 88) ∧ zRS a n (σ 88) σ 0 ∧ zC a n (σ 88) σ ∧ zR a n (σ 88) σ := by
  obtain ⟨hK, ⟨n, hW, hR, hc⟩, -⟩ := H
  exact ⟨n, hW, hR, hc, hK.1, hK.2.1, hK.2.2.2.2.2.2.1, rfl, hW⟩
/-! how many moves -/
def zpr (B : Nat → Nat) : Nat → Nat
  | 0 => 1
  | i + 1 => zpr B i * B i
theorem zpm_hi {a : Nat} {B : Nat → Nat} {D k : Nat} (hD : D < 3) (hk : k < 3 ^ a) : zpm (a + 1) B (3 ^ a * D + k) = (zpm a B k && decide (D < B a)) := by
  have hdg : ∀ i, i < a → zdg (3 ^ a * D + k) i = zdg k i := fun i hi => by
    unfold zdg
    obtain ⟨d, rfl⟩ : ∃ d, a = i + 1 + d := ⟨a - (i + 1), by omega⟩
    rw [Nat.add_comm, show 3 ^ (i + 1 + d) * D = 3 ^ i * (3 * (3 ^ d * D)) by rw [Nat.pow_add, Nat.pow_succ]; simp only [Nat.mul_assoc]]
    rw [Nat.add_mul_div_left _ _ (Nat.pow_pos (by decide)), Nat.add_mul_mod_self_left]
  have hda : zdg (3 ^ a * D + k) a = D := by
    unfold zdg
    rw [Nat.add_comm, Nat.add_mul_div_left _ _ (Nat.pow_pos (by decide)), Nat.div_eq_of_lt hk, Nat.zero_add, Nat.mod_eq_of_lt hD]
  have hlt : 3 ^ a * D + k < 3 ^ (a + 1) := by
    have : 3 ^ a * D ≤ 3 ^ a * 2 := Nat.mul_le_mul_left _ (by omega)
    rw [Nat.pow_succ]
    omega
  apply Bool.eq_iff_iff.mpr
  rw [zpm_t, Bool.and_eq_true, zpm_t, decide_eq_true_iff]
  constructor
  · rintro ⟨-, h⟩
    refine ⟨⟨hk, fun i hi => ?_⟩, ?_⟩
    · rw [← hdg i hi]; exact h i (by omega)
    · have := h a (by omega)
      rw [hda] at this
      exact this
  · rintro ⟨⟨-, h⟩, h2⟩
    refine ⟨hlt, fun i hi => ?_⟩
    rcases Nat.lt_or_ge i a with q | q
    · rw [hdg i q]; exact h i q
    · have : i = a := by omega
      subst this
      rw [hda]
      exact h2
theorem zpm_cnt1 {a : Nat} {B : Nat → Nat} : ∀ {D : Nat}, D ≤ 3 → fb_ct (zpm (a + 1) B) (3 ^ a * D) = fb_ct (zpm a B) (3 ^ a) * (if D ≤ B a then D else B a)
  | 0, _ => by simp [fb_ct]
  | D + 1, h => by
    have ih := zpm_cnt1 (a := a) (B := B) (D := D) (by omega)
    rw [Nat.mul_succ, fb_ct_split, ih]
    rcases Nat.lt_or_ge D (B a) with q | q
    · rw [fb_ct_cong (fun k hk => by rw [zpm_hi (by omega) hk, decide_eq_true q, Bool.and_true]; : ∀ k, k < 3 ^ a → zpm (a + 1) B (3 ^ a * D + k) = zpm a B k), if_pos (by omega), if_pos (by omega), Nat.mul_succ]
    · rw [(fb_ct_zero (p := fun k => zpm (a + 1) B (3 ^ a * D + k))).mpr (fun k hk => by rw [zpm_hi (by omega) hk, decide_eq_false (by omega), Bool.and_false]), Nat.add_zero]
      by_cases e : D = B a
      · rw [if_pos (by omega), if_neg (by omega), e]
      · rw [if_neg (by omega), if_neg (by omega)]
theorem zpm_cnt {B : Nat → Nat} : ∀ {a : Nat}, (∀ i, i < a → B i ≤ 3) → fb_ct (zpm a B) (3 ^ a) = zpr B a
  | 0, _ => by
    show fb_ct (zpm 0 B) (0 + 1) = 1
    rw [fb_ct_succ, zpm_t.mpr ⟨by decide, fun i hi => absurd hi (Nat.not_lt_zero i)⟩]
    rfl
  | a + 1, h => by
    have ih := zpm_cnt (B := B) (a := a) (fun i hi => h i (by omega))
    have h3 := h a (by omega)
    rw [Nat.pow_succ, zpm_cnt1 (Nat.le_refl 3), ih]
    show _ = zpr B a * B a
    congr 1
    split <;> omega
theorem zpr_le {B : Nat → Nat} : ∀ {a : Nat}, (∀ i, i < a → B i ≤ 3) → zpr B a ≤ 3 ^ a
  | 0, _ => Nat.le_refl _
  | a + 1, h => by
    unfold zpr
    rw [Nat.pow_succ]
    exact Nat.mul_le_mul (zpr_le (fun i hi => h i (by omega))) (h a (by omega))
theorem zpr_pos {B : Nat → Nat} : ∀ {a : Nat}, (∀ i, i < a → 1 ≤ B i) → 1 ≤ zpr B a
  | 0, _ => Nat.le_refl _
  | a + 1, h => by
    unfold zpr
    exact Nat.mul_pos (zpr_pos (fun i hi => h i (by omega))) (h a (by omega))
theorem zpr_ext {B C : Nat → Nat} : ∀ {a : Nat}, (∀ i, i < a → B i = C i) → zpr B a = zpr C a
  | 0, _ => rfl
  | a + 1, h => by
    unfold zpr
    rw [zpr_ext (fun i hi => h i (by omega)), h a (by omega)]
section SQ
variable {a : Nat} {σ : St}
theorem s_agents (H : INV a σ) : m_X9_agents σ = m_X10_agents σ := by
  unfold m_X9_agents m_X10_agents
  rw [H.1.2.2.1, H.1.2.2.2.2.2.2.1]
theorem s_states (H : INV a σ) : m_X10_states σ = some (m_X9_states σ) := by
  obtain ⟨n, hW, hR, -⟩ := H.zR
  unfold m_X9_states m_X10_states
  rw [show (1200 : Int32) = nI 1200 from rfl, zck (by decide) (by decide), hR.1, hW.2.1]
theorem s_actions (H : INV a σ) (x y : Int32) : m_X10_actions σ x y = some (m_X9_actions σ x y) := by
  obtain ⟨n, hW, hR, hC, hr⟩ := H.zR
  have hn := hW.1
  have ha := H.1.2.1
  unfold m_X9_actions m_X10_actions
  rw [z_hasPlace hR.1 H.1.2.2.1, r_isState hr, r_isAgent hr, Option.bind_some]
  refine zin_any (x := x) (n := n) (by omega) ?_ (fun h => by rw [h, if_pos zbIf]; rfl)
  rintro s hs rfl
  refine zin_any (x := y) (n := a) (by omega) ?_ (fun h => by rw [h, zin_nI (by omega) hs, if_neg zbIt, if_pos zbIf]; rfl)
  rintro i hi rfl
  rw [zin_nI (by omega) hs, zin_nI (by omega) hi, if_neg zbIt, if_neg zbIt, show (1 : Int32) = nI 1 from rfl, z100, zck (by decide) (by omega), nI_clamp (by omega), z_actionCount ha hn hR hs hi]
  rfl
theorem s_planned (H : INV a σ) (x y : Int32) : m_X10_planned σ x y = some (m_X9_planned σ x y) := by
  obtain ⟨n, hW, hR, hC, hr⟩ := H.zR
  have hn := hW.1
  have ha := H.1.2.1
  unfold m_X9_planned m_X10_planned
  rw [z_hasPlace hR.1 H.1.2.2.1, r_isState hr, r_isAgent hr, Option.bind_some]
  refine zin_any (x := x) (n := n) (by omega) ?_ (fun h => by rw [h, if_pos zbIf]; rfl)
  rintro s hs rfl
  refine zin_any (x := y) (n := a) (by omega) ?_ (fun h => by rw [h, zin_nI (by omega) hs, if_neg zbIt, if_pos zbIf]; rfl)
  rintro i hi rfl
  rw [zin_nI (by omega) hs, zin_nI (by omega) hi, if_neg zbIt, if_neg zbIt, show (5 : Int32) = nI 5 from rfl, z100, zck (by decide) (by omega), nI_clamp (by omega), z_plannedAction ha hn hR hs hi]
  rfl
theorem s_labels (H : INV a σ) (x : Int32) : m_X10_labels σ x = some (m_X9_labels σ x) := by
  obtain ⟨n, hW, hR, hC, hr⟩ := H.zR
  have hn := hW.1
  unfold m_X9_labels m_X10_labels
  rw [z_hasState hR.1, r_isState hr, Option.bind_some]
  refine zin_any (x := x) (n := n) (by omega) ?_ (fun h => by rw [h, if_pos zbIf, if_pos zbIf])
  rintro s hs rfl
  rw [zin_nI (by omega) hs, if_neg zbIt, if_neg zbIt, z100_0, zck (by decide) (by omega), nI_clamp (by omega), z_labelSet hn hR hs]
/-- where a move leads, in both systems -/
theorem s_target (H : INV a σ) {n : Nat} (hW : zWF a n (σ 88)) (hR : zRS a n (σ 88) σ 0) (hr : zR a n (σ 88) σ) {s : Nat} (hs : s < n) (y : Int32) :
    (∃ m, m < 3 ^ a ∧ y = nI m ∧ zpm a (zac (σ 88) s) m = true ∧ m_X10_isMove σ (nI s) y = some true ∧ m_X7_target σ (nI s) y = σ 88 (100 * s + 10 + m)) ∨ (m_X10_isMove σ (nI s) y = some false ∧ m_X7_target σ (nI s) y = -1) := by
  have h81 := za_81 H.1.2.1
  refine zin_any (x := y) (n := 81) (by decide) ?_ ?_
  · rintro m hm rfl
    rw [r_isMove hr hs hm]
    cases e : zpm a (zac (σ 88) s) m
    · refine Or.inr ⟨rfl, ?_⟩
      by_cases q : m < 3 ^ a
      · rw [z_target H.1.2.1 hW.1 H.1.2.2.2.2.1 hR hs q, e]; rfl
      · refine z_target_no H.1.2.1 H.1.2.2.2.2.1 hR (Or.inr ?_)
        cases w : zin (nI m) (3 ^ a)
        · rfl
        · obtain ⟨k, hk, hk2⟩ := zin_t (by omega) w
          have : m = k := (nI_eq (by omega) (by omega)).mp hk2
          omega
    · have q := zpm_lt e
      exact Or.inl ⟨m, q, rfl, e, rfl, by rw [z_target H.1.2.1 hW.1 H.1.2.2.2.2.1 hR hs q, e]; rfl⟩
  · intro h
    refine Or.inr ⟨r_isMove_no h, z_target_no H.1.2.1 H.1.2.2.2.2.1 hR (Or.inr ?_)⟩
    cases w : zin y (3 ^ a)
    · rfl
    · obtain ⟨k, hk, rfl⟩ := zin_t (by omega) w
      rw [zin_nI (by decide) (by omega)] at h
      cases h
theorem s_next (H : INV a σ) (x y : Int32) : m_X10_next σ x y = some (m_X9_next σ x y) := by
  obtain ⟨n, hW, hR, hC, hr⟩ := H.zR
  have hn := hW.1
  have h81 := za_81 H.1.2.1
  unfold m_X9_next m_X10_next
  rw [r_isState hr, Option.bind_some]
  refine zin_any (x := x) (n := n) (by omega) ?_ (fun h => by rw [h, if_pos zbIf, z_target_no H.1.2.1 H.1.2.2.2.2.1 hR (Or.inl h), if_neg (by decide)])
  rintro s hs rfl
  rw [zin_nI (by omega) hs, if_neg zbIt]
  rcases s_target H hW hR hr hs y with ⟨m, hm, rfl, hp, e1, e2⟩ | ⟨e1, e2⟩
  · rw [e1, e2, Option.bind_some, if_neg zbIt, show (10 : Int32) = nI 10 from rfl, z100, zck (by decide) (by omega), nI_clamp (by omega), (hW.nx hs (show m < 81 by omega)).1, if_pos (nI_pos' (by have := (hW.nx hs (show m < 81 by omega)).2; omega))]
  · rw [e1, e2, Option.bind_some, if_pos zbIf, if_neg (by decide)]
theorem z_possible {n : Nat} (hK : zK a σ) (hW : zWF a n (σ 88)) (hR : zRS a n (σ 88) σ 0) {s : Nat} (hs : s < n) : m_X7_possibleMoves σ (nI s) = some (nI (fb_ct (zpm a (zac (σ 88) s)) (3 ^ a))) := by
  have h81 := za_81 hK.2.1
  have hn := hW.1
  unfold m_X7_possibleMoves
  refine zl_e (fun i => (nI (fb_ct (zpm a (zac (σ 88) s)) i), nI i)) (3 ^ a) (by omega) rfl ?_
  intro k i hi hk
  unfold m_X7_possibleMoves_b4
  rw [hK.2.2.2.2.1]
  dsimp only
  rcases Nat.lt_or_ge i (3 ^ a) with q | q
  · have hk := hk q
    rw [fb_ct_succ] at hk
    rw [if_neg (znle (by omega) (by omega) q), z_target hK.2.1 hn hK.2.2.2.2.1 hR hs q, nI_1, nI_1, ← hk]
    cases e : zpm a (zac (σ 88) s) i
    · rw [if_neg Bool.false_ne_true, if_pos rfl]; rfl
    · rw [if_pos rfl, (hW.nx hs (show i < 81 by omega)).1, if_neg (znm1 (by have := (hW.nx hs (show i < 81 by omega)).2; omega))]; rfl
  · have : i = 3 ^ a := by omega
    subst this
    rw [if_pos (zle (by omega) (by omega) q)]
theorem s_moves (H : INV a σ) (x : Int32) : ∃ r, m_X9_moves σ x = some r ∧ m_X10_moves σ x = some r := by
  obtain ⟨n, hW, hR, hC, hr⟩ := H.zR
  have hn := hW.1
  have h81 := za_81 H.1.2.1
  have ha := H.1.2.1
  unfold m_X9_moves m_X10_moves
  rw [z_hasState hR.1, r_isState hr, Option.bind_some]
  refine zin_any (x := x) (n := n) (by omega) ?_ (fun h => ⟨-1, by rw [h, if_pos zbIf], by rw [h, if_pos zbIf]⟩)
  rintro s hs rfl
  rw [zin_nI (by omega) hs, if_neg zbIt, if_neg zbIt, z_possible H.1 hW hR hs, zpm_cnt (fun i hi => (hW.ac hs hi).2.2)]
  refine ⟨_, rfl, ?_⟩
  refine zl_e (fun i => (nI (zpr (zac (σ 88) s) i), nI i)) a (by omega) rfl ?_
  intro k i hi hk
  unfold m_X10_moves_b14
  rw [hr.2.2.1]
  dsimp only
  rcases Nat.lt_or_ge i a with q | q
  · have hk := hk q
    rw [if_neg (znle (by omega) (by omega) q), show (1 : Int32) = nI 1 from rfl, z100, zck (by decide) (by omega), nI_clamp (by omega), (hW.ac hs q).1, pk_mul, nI_add]
    exact hk
  · have : i = a := by omega
    subst this
    rw [if_pos (zle (by omega) (by omega) q)]
theorem s_formulas (H : INV a σ) : m_X9_formulas σ = m_X10_formulas σ := by
  obtain ⟨-, -, -, -, m, hm, h1, h2, -⟩ := H
  unfold m_X9_formulas m_X10_formulas
  rw [h1, h2]
/-- a formula, or none, in both systems -/
theorem s_formulaOf (H : INV a σ) (x : Int32) :
    (∃ i len f, i < 8 ∧ x = nI i ∧ zFok a len f ∧ zFc σ (25 + 5 * i) len f ∧ zFr σ i len f ∧ isF (25 + 5 * i) = true ∧ m_X9_formulaOf σ x = some (some (25 + 5 * i)) ∧ m_X10_isFormula σ x = true) ∨ (m_X9_formulaOf σ x = some none ∧ m_X10_isFormula σ x = false) := by
  obtain ⟨-, -, -, -, m, hm, h1, h2, h3⟩ := H
  unfold m_X9_formulaOf m_X10_isFormula
  rw [h1, h2, zin_in (by omega)]
  refine zin_any (x := x) (n := m) (by omega) ?_ ?_
  · rintro i hi rfl
    obtain ⟨len, f, f1, f2, f3⟩ := h3 i hi
    refine Or.inl ⟨i, len, f, by omega, rfl, f1, f2, f3, ?_, ?_, zin_nI (by omega) hi⟩
    · exact (by decide : ∀ i, i < 8 → isF (25 + 5 * i) = true) i (by omega)
    · rw [if_neg (nI_pos (by omega)), if_neg (znle (by omega) (by omega) hi), if_pos (show nI i < 8 from zlt (b := 8) (by omega) (by decide) (by omega)), zck (by decide) (by omega), nI_clamp (by omega)]
  · intro h
    refine Or.inr ⟨?_, h⟩
    rcases zin_f h with q | q
    · rw [if_pos q]
    · by_cases w : x < 0
      · rw [if_pos w]
      · rw [if_neg w, if_pos q]
theorem zoFm {α : Type} {t : Nat} (ht : isF t = true) (b : Option α) (g : Nat → Option α) : oF (some t) b g = g t := by
  show (if isF t then g t else none) = _
  rw [if_pos ht]
theorem s_parts (H : INV a σ) (x : Int32) : ∃ r, m_X9_parts σ x = some r ∧ m_X10_parts σ x = some r := by
  unfold m_X9_parts m_X10_parts
  rcases s_formulaOf H x with ⟨i, len, f, hi, rfl, f1, f2, f3, ht, e1, e2⟩ | ⟨e1, e2⟩
  · rw [e1, e2, Option.bind_some, zoFm ht, if_neg zbIt, zck (by decide) (by omega), nI_clamp (by omega), f2.1, f3.1]
    exact ⟨_, rfl, rfl⟩
  · rw [e1, e2, Option.bind_some, if_pos zbIf]
    exact ⟨_, rfl, rfl⟩
end SQ
