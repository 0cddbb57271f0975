/-! GOALS: enforced, rank, strategy, smallest -/
def zop1 (v : Nat → Int32) (a n : Nat) (f : zFd) (len : Nat) : Int32 := zev v a n f len (f.2.1 (len - 1))
def zop2 (v : Nat → Int32) (a n : Nat) (f : zFd) (len : Nat) : Int32 := if f.1 (len - 1) = 9 then zev v a n f len (f.2.2.1 (len - 1)) else 0
/-- where the goal is reached by a coalition (or by the plan of its agents) -/
def zgl (v : Nat → Int32) (a n : Nat) (f : zFd) (len : Nat) (bp : Bool) (c : Int32) : Int32 := zgoal (zF v a n bp c) (zall n) (f.1 (len - 1)) (zop1 v a n f len) (zop2 v a n f len)
def zgk (v : Nat → Int32) (a n : Nat) (f : zFd) (len : Nat) (d : Int32) (q : Nat) : Int32 := zrk (zF v a n false (nI (f.2.2.2 (len - 1)))) (zall n) (f.1 (len - 1)) (zop1 v a n f len) (zop2 v a n f len) d q
theorem zev_le {v : Nat → Int32} {a n : Nat} {f : zFd} {q p : Nat} (h : q < p) : ∀ k, zev v a n f (p + k) q = zev v a n f p q
  | 0 => rfl
  | k + 1 => by
    show zev v a n f (p + k + 1) q = _
    rw [zev_s, if_neg (by omega), zev_le h k]
theorem zwh_gl {v : Nat → Int32} {a n : Nat} {f : zFd} {len : Nat} (hf : zFok a len f) (h6 : 6 ≤ f.1 (len - 1)) (h9 : f.1 (len - 1) ≤ 9) : zwh v a n f len = zgl v a n f len false (nI (f.2.2.2 (len - 1))) := by
  have l1 := hf.1
  obtain ⟨o1, o2, o3, o4, o5⟩ := hf.2.2 (len - 1) (by omega)
  have e : zev v a n f len (len - 1) = zpv v a n f (zev v a n f (len - 1)) (len - 1) := by
    have := zev_s (v := v) (a := a) (n := n) (f := f) (len - 1) (len - 1)
    rw [if_pos rfl, show len - 1 + 1 = len by omega] at this
    exact this
  have up : ∀ q, q < len - 1 → zev v a n f (len - 1) q = zev v a n f len q := fun q hq => by
    have := zev_le (v := v) (a := a) (n := n) (f := f) hq 1
    rw [show len - 1 + 1 = len by omega] at this
    exact this.symm
  unfold zwh zgl zop1 zop2
  rw [e]
  unfold zpv
  rw [if_neg (by omega), if_neg (by omega), if_neg (by omega), if_neg (by omega), if_neg (by omega), if_neg (by omega), up _ (o3 (by omega))]
  by_cases q : f.1 (len - 1) = 9
  · rw [if_pos (Or.inl q), if_pos q, up _ (o4 (by unfold zbin; omega))]
  · rw [if_neg (by omega), if_neg q]
theorem zRk_two {F : Int32 → Int32} {p g : Int32} {s : Nat} : ∀ {k : Nat}, (∃ r, r ≤ k ∧ ∀ d, zRk F p g d k s = nI r) ∨ (∀ d, zRk F p g d k s = d)
  | 0 => by
    cases e : bt g s
    · refine Or.inr fun d => ?_
      unfold zRk
      rw [e, if_neg (by decide)]
    · refine Or.inl ⟨0, Nat.le_refl _, fun d => ?_⟩
      unfold zRk
      rw [e, if_pos rfl]
      rfl
  | k + 1 => by
    cases e : bt (zadd F p (zL F p g k)) s
    · rcases zRk_two (F := F) (p := p) (g := g) (s := s) (k := k) with ⟨r, hr, h⟩ | h
      · exact Or.inl ⟨r, by omega, fun d => by rw [zRk_s, e, if_neg (by decide), h]⟩
      · exact Or.inr fun d => by rw [zRk_s, e, if_neg (by decide), h]
    · exact Or.inl ⟨k + 1, Nat.le_refl _, fun d => by rw [zRk_s, e, if_pos rfl]⟩
theorem zgk_two {v : Nat → Int32} {a n : Nat} {f : zFd} {len s : Nat} : (∃ r, r ≤ 12 ∧ ∀ d, zgk v a n f len d s = nI r) ∨ (∀ d, zgk v a n f len d s = d) := by
  unfold zgk zrk
  split
  · exact zRk_two
  · exact zRk_two
section SP
variable {a n : Nat} {v : Nat → Int32} {σ : St}
theorem z_topKind {t len : Nat} {f : zFd} (hf : zFok a len f) (hc : zFc σ t len f) : m_X0_topKind σ t = nI (f.1 (len - 1)) := by
  have l1 := hf.1
  have l2 := hf.2.1
  unfold m_X0_topKind m_X0_kind
  rw [hc.1, z_top l1 l2, zrA (by decide) (by omega)]
  exact (hc.2 _ (by omega)).1
theorem z_topCoal {t len : Nat} {f : zFd} (hf : zFok a len f) (hc : zFc σ t len f) (h6 : 6 ≤ f.1 (len - 1)) : m_X0_topCoalition σ t = nI (f.2.2.2 (len - 1)) := by
  have l1 := hf.1
  have l2 := hf.2.1
  unfold m_X0_topCoalition m_X0_detail
  rw [hc.1, z_top l1 l2, zrA (by decide) (by omega)]
  exact (hc.2 _ (by omega)).2.1 (Or.inr h6)
def zisg (f : zFd) (len : Nat) : Bool := decide (6 ≤ f.1 (len - 1) ∧ f.1 (len - 1) ≤ 9)
theorem z_hasStr {t len : Nat} {f : zFd} (hf : zFok a len f) (hc : zFc σ t len f) : m_X0_hasStrategy σ t = zisg f len := by
  have l1 := hf.1
  have := (hf.2.2 (len - 1) (by omega)).1
  unfold m_X0_hasStrategy zisg
  rw [z_topKind hf hc]
  rcases Nat.lt_or_ge (f.1 (len - 1)) 6 with q | q
  · rw [if_pos (show nI (f.1 (len - 1)) < 6 from zlt (b := 6) (by omega) (by decide) q), decide_eq_false (by omega)]
  · rw [if_neg (show ¬ nI (f.1 (len - 1)) < 6 from znlt (b := 6) (by omega) (by decide) q)]
    rcases Nat.lt_or_ge 9 (f.1 (len - 1)) with w | w
    · rw [if_pos (show 9 < nI (f.1 (len - 1)) from zlt (a := 9) (by decide) (by omega) w), decide_eq_false (by omega)]
    · rw [if_neg (show ¬ 9 < nI (f.1 (len - 1)) from znlt (a := 9) (by decide) (by omega) w), decide_eq_true ⟨q, w⟩]
theorem r_top {i len : Nat} {f : zFd} (hi : i < 9) (hf : zFok a len f) (hr : zFr σ i len f) : m_X10_top σ (nI i) = some (nI (60 * i + (len - 1))) := by
  have l1 := hf.1
  have l2 := hf.2.1
  unfold m_X10_top
  rw [zck (by decide) hi, nI_clamp (by omega), hr.1, z60, show nI (60 * i + len) - 1 = nI (60 * i + len - 1) from pk_sub (b := 1) (by omega), show 60 * i + len - 1 = 60 * i + (len - 1) by omega]
theorem r_isGoal {i len : Nat} {f : zFd} (hi : i < 9) (hf : zFok a len f) (hr : zFr σ i len f) : m_X10_isGoal σ (nI i) = some (zisg f len) := by
  have l1 := hf.1
  have l2 := hf.2.1
  have := (hf.2.2 (len - 1) (by omega)).1
  unfold m_X10_isGoal zisg
  rw [r_top hi hf hr, Option.bind_some, zck (by decide) (by omega), nI_clamp (by omega), (hr.2 _ (show len - 1 < len by omega)).1]
  unfold m_X10_in
  congr 1
  rcases Nat.lt_or_ge (f.1 (len - 1)) 6 with q | q
  · rw [if_pos (show nI (f.1 (len - 1)) < 6 from zlt (b := 6) (by omega) (by decide) q), decide_eq_false (by omega)]
  · rw [if_neg (show ¬ nI (f.1 (len - 1)) < 6 from znlt (b := 6) (by omega) (by decide) q)]
    rcases Nat.lt_or_ge 9 (f.1 (len - 1)) with w | w
    · rw [if_pos (show 9 < nI (f.1 (len - 1)) from zlt (a := 9) (by decide) (by omega) w), decide_eq_false (by omega)]
    · rw [if_neg (show ¬ 9 < nI (f.1 (len - 1)) from znlt (a := 9) (by decide) (by omega) w), decide_eq_true ⟨q, w⟩]
theorem zisg_t {f : zFd} {len : Nat} (h : zisg f len = true) : 6 ≤ f.1 (len - 1) ∧ f.1 (len - 1) ≤ 9 := of_decide_eq_true h
theorem z_goalSet (hK : zK a σ) (hW : zWF a n v) (hR : zRS a n v σ 0) {t len : Nat} {f : zFd} (hf : zFok a len f) (hc : zFc σ t len f) (hg9 : zisg f len = true) (hd : ∀ q, q < len → σ 79 q = zev v a n f len q) {c : Nat} (hc2 : c < 2 ^ a) (bp : Bool) :
    zP (fun u => u.1 = zgl v a n f len bp (nI c) ∧ zag [72, 80] σ u.2 ∧ ((f.1 (len - 1) = 7 ∨ f.1 (len - 1) = 9) → ∀ q, q < 12 → u.2 80 q = zrk (zF v a n bp (nI c)) (zall n) (f.1 (len - 1)) (zop1 v a n f len) (zop2 v a n f len) (-1) q)) (m_X3_goalSet σ t (nI c) (bI bp)) := by
  have l1 := hf.1
  have l2 := hf.2.1
  obtain ⟨h6, h9⟩ := zisg_t hg9
  obtain ⟨o1, o2, o3, o4, o5⟩ := hf.2.2 (len - 1) (by omega)
  obtain ⟨c1, c2, c3, c4⟩ := hc.2 (len - 1) (by omega)
  have e1 : m_X3_setOf σ (m_X0_first σ t (σ t 4 - 1)) = zop1 v a n f len := by
    have := o3 (by omega)
    unfold m_X3_setOf m_X0_first zop1
    rw [hc.1, z_top l1 l2, zrA (n := 60) (f := σ (t + 2)) (by decide) (by omega), c3 (by omega), zrA (by decide) (by omega)]
    exact hd _ (by omega)
  have e2 : f.1 (len - 1) = 9 → m_X3_setOf σ (m_X0_second σ t (σ t 4 - 1)) = zop2 v a n f len := fun h => by
    have := o4 (by unfold zbin; omega)
    unfold m_X3_setOf m_X0_second zop2
    rw [hc.1, z_top l1 l2, zrA (n := 60) (f := σ (t + 3)) (by decide) (by omega), c4 (by unfold zbin; omega), zrA (by decide) (by omega), if_pos h]
    exact hd _ (by omega)
  unfold m_X3_goalSet
  rw [z_topKind hf hc, e1]
  refine zbind (z_strongSet hK hW hR hc2 h6 h9 (zop1 v a n f len) _ bp) ?_
  rintro ⟨o, ρ⟩ ⟨ho, hg, hrk⟩
  dsimp only at ho hg hrk ⊢
  refine zP_some ⟨?_, hg, fun h q hq => ?_⟩
  · dsimp only
    rw [ho]
    unfold zgl
    by_cases q : f.1 (len - 1) = 9
    · rw [e2 q]
    · exact zgoal_t (by omega) h6 (by omega)
  · dsimp only
    rw [hrk h q hq]
    by_cases w : f.1 (len - 1) = 9
    · rw [e2 w]
    · unfold zrk
      rw [if_neg w, if_neg w]
/-- the operands, behind works() -/
theorem r_op0 {i len : Nat} {f : zFd} (hi : i < 9) (hf : zFok a len f) (hr : zFr σ i len f) (hg : zisg f len = true) (hd : ∀ q, q < len → σ 108 q = zev v a n f len q) : m_X10_operand σ (nI i) 0 = some (zop1 v a n f len) := by
  have l1 := hf.1
  have l2 := hf.2.1
  obtain ⟨h6, h9⟩ := zisg_t hg
  have o3 := (hf.2.2 (len - 1) (by omega)).2.2.1 (by omega)
  unfold m_X10_operand m_X10_operand_b29 zop1
  rw [r_top hi hf hr, Option.bind_some, if_pos rfl, zck (by decide) (by omega), nI_clamp (by omega), (hr.2 _ (show len - 1 < len by omega)).2.2.1 (by omega), zck (by decide) (by omega), nI_clamp (by omega), hd _ (by omega)]
theorem r_op1 {i len : Nat} {f : zFd} (hi : i < 9) (hf : zFok a len f) (hr : zFr σ i len f) (h9 : f.1 (len - 1) = 9) (hd : ∀ q, q < len → σ 108 q = zev v a n f len q) : m_X10_operand σ (nI i) 1 = some (zop2 v a n f len) := by
  have l1 := hf.1
  have l2 := hf.2.1
  have o4 := (hf.2.2 (len - 1) (by omega)).2.2.2.1 (by unfold zbin; omega)
  unfold m_X10_operand m_X10_operand_b29 zop2
  rw [r_top hi hf hr, Option.bind_some, if_neg (by decide), zck (by decide) (by omega), nI_clamp (by omega), (hr.2 _ (show len - 1 < len by omega)).2.2.2.1 (by unfold zbin; omega), zck (by decide) (by omega), nI_clamp (by omega), hd _ (by omega), if_pos h9]
theorem zop1_in (hn : n ≤ 12) {f : zFd} {len : Nat} (hf : zFok a len f) : zsb (zop1 v a n f len) (zall n) := zev_in hn hf len (Nat.le_refl _) _
theorem zop2_in (hn : n ≤ 12) {f : zFd} {len : Nat} (hf : zFok a len f) : zsb (zop2 v a n f len) (zall n) := by
  unfold zop2
  split
  · exact zev_in hn hf len (Nat.le_refl _) _
  · exact zsb_0 _
theorem r_coal {i len : Nat} {f : zFd} (hf : zFok a len f) (hr : zFr σ i len f) (hg : zisg f len = true) : σ 96 (60 * i + (len - 1)) = nI (f.2.2.2 (len - 1)) ∧ f.2.2.2 (len - 1) < 2 ^ a := by
  have l1 := hf.1
  obtain ⟨h6, h9⟩ := zisg_t hg
  exact ⟨(hr.2 _ (show len - 1 < len by omega)).2.2.2.2 h6, (hf.2.2 (len - 1) (by omega)).2.2.2.2 h6⟩
theorem r_ranksOf (h : zR a n v σ) (hC : zC a n v σ) {i len : Nat} {f : zFd} (hi : i < 9) (hf : zFok a len f) (hr : zFr σ i len f) (h79 : f.1 (len - 1) = 7 ∨ f.1 (len - 1) = 9) :
    zP (fun τ => zah [90, 107, 108] [5, 29] σ τ ∧ zC a n v τ ∧ ∀ q, q < 12 → τ 107 q = zgk v a n f len (-9) q) (m_X10_ranksOf σ (nI i)) := by
  have l1 := hf.1
  have l2 := hf.2.1
  have hn := h.2.2.2.2.1
  have hg : zisg f len = true := decide_eq_true (by omega)
  unfold m_X10_ranksOf
  refine zbind (r_works h hC hi hf hr) ?_
  rintro τ ⟨hg1, hb, hC1, hd⟩
  have hR1 := h.g hg1 (by decide)
  have hr1 := hr.g hg1 (by decide)
  obtain ⟨hco, hc2⟩ := r_coal hf hr1 hg
  refine zbe (r_top hi hf hr1) ?_
  rw [zck (by decide) (by omega), nI_clamp (by omega), (hr1.2 _ (show len - 1 < len by omega)).1]
  have h0 := r_op0 (v := v) (n := n) hi hf hr1 hg hd
  have z90 : ∀ {ρ : St}, zah [90, 107] [5] τ ρ → zah [90, 107, 108] [5, 29] σ ρ := fun q => hg1.tr (q.sub (fun k hk => by simp at hk ⊢; omega) (fun k hk => by simp at hk ⊢; omega))
  rcases h79 with h7 | h9
  · rw [if_neg (by rw [h7]; decide)]
    unfold m_X10_ranksOf_b25
    refine zbe (r_top hi hf hr1) ?_
    rw [zck (by decide) (by omega), nI_clamp (by omega), hco, if_pos rfl]
    refine zbe (r_all hR1) ?_
    unfold m_X10_ranksOf_b54
    refine zbe h0 (zbind (r_reaches hR1 hC1 (bp := false) hb hc2 _ _ (z12_sb (zop1_in hn hf) (z12_all hn))) ?_)
    rintro ⟨o, ρ⟩ ⟨ho, hg2, hC2, hrk⟩
    refine zP_some ⟨z90 hg2, hC2, fun q hq => ?_⟩
    unfold zgk
    rw [h7, zrk_7]
    exact hrk q hq
  · rw [if_pos (by rw [h9]; rfl)]
    unfold m_X10_ranksOf_b25
    refine zbe (r_top hi hf hr1) ?_
    rw [zck (by decide) (by omega), nI_clamp (by omega), hco, if_neg (by decide)]
    refine zbe h0 ?_
    unfold m_X10_ranksOf_b54
    refine zbe (r_op1 (v := v) (n := n) hi hf hr1 h9 hd) (zbind (r_reaches hR1 hC1 (bp := false) hb hc2 _ _ (z12_sb (zop2_in hn hf) (z12_all hn))) ?_)
    rintro ⟨o, ρ⟩ ⟨ho, hg2, hC2, hrk⟩
    refine zP_some ⟨z90 hg2, hC2, fun q hq => ?_⟩
    unfold zgk
    rw [h9, zrk_9]
    exact hrk q hq
end SP
section SP2
variable {a : Nat} {σ : St}
theorem s_enforced (H : INV a σ) (x : Int32) : ∃ r σ1 σ2, m_X9_enforced σ x = some (r, σ1) ∧ m_X10_enforced σ1 x = some (r, σ2) ∧ INV a σ2 := by
  obtain ⟨n, hW, hR, hC, hr⟩ := H.zR
  have hn := hW.1
  have hnL : ∀ k, 25 ≤ k → k < 65 → k ∉ [72, 79, 80] := fun k h1 h2 h => by simp at h; omega
  unfold m_X9_enforced
  rcases s_formulaOf H x with ⟨i, len, f, hi, rfl, f1, f2, f3, ht, e1, e2⟩ | ⟨e1, e2⟩
  · have l1 := f1.1
    have l2 := f1.2.1
    rw [e1, Option.bind_some, zoFm ht, z_hasStr f1 f2]
    cases hgo : zisg f len
    · refine ⟨-3, σ, σ, by rw [if_pos zbIf], ?_, H⟩
      unfold m_X10_enforced
      rw [e2, if_neg zbIt, r_isGoal (by omega) f1 f3, hgo, Option.bind_some, if_pos zbIf]
    obtain ⟨h6, h9⟩ := zisg_t hgo
    rw [if_neg zbIt]
    obtain ⟨σ1, q1, hg, hd⟩ := z_look H.1 hW hR ht f1 f2
    have f21 := f2.g ht hg hnL
    obtain ⟨hco, hc2⟩ := r_coal f1 f3 hgo
    obtain ⟨⟨o, σ1'⟩, q1', ho, hg', -⟩ := z_goalSet (H.1.g hg (by decide)) hW (hR.g hg (by decide)) f1 f21 hgo hd hc2 true
    dsimp only at ho hg'
    have hgg : zag [72, 79, 80] σ σ1' := hg.tr (hg'.sub (fun k hk => by simp at hk ⊢; omega))
    have hr1 := hr.ag hgg (by decide)
    have H1 : INV a σ1' := H.c2 hgg (by decide)
    have f31 := f3.ag hgg (by decide)
    obtain ⟨σ2, q2, hg2, hb2, hC2, hd2⟩ := r_works hr1 (hC.ag hgg (by decide)) (show i < 9 by omega) f1 f31
    have f32 := f31.g hg2 (by decide)
    have hr2 := hr1.g hg2 (by decide)
    have e2' : m_X10_isFormula σ1' (nI i) = true := by unfold m_X10_isFormula at e2 ⊢; rw [hgg 87 (by decide)]; exact e2
    -- with the plan asked
    have gu : zah [] [29] σ2 (up σ2 87 29 1) := zah.rf.u7 (by simp)
    have f33 := f32.g gu (by decide)
    have hr3 := hr2.g gu (by decide)
    have hd3 : ∀ q, q < len → (up σ2 87 29 1) 108 q = zev (σ 88) a n f len q := fun q hq => by rw [zup_n (by decide)]; exact hd2 q hq
    obtain ⟨hco3, -⟩ := r_coal f1 f33 hgo
    obtain ⟨⟨o2, σ3⟩, q3, ho3, hg3, hC3⟩ := r_goalSet (bp := true) hr3 (hC2.g gu (by decide)) (zup_ss σ2 87 29 1) hc2 h6 (by omega) (fun _ => h9) (zop1 (σ 88) a n f len) (zop2 (σ 88) a n f len) (zop1_in hn f1) (zop2_in hn f1)
    dsimp only at ho3 hg3 hC3
    have fin : m_X10_enforced_b53 σ2 (nI i) (nI (60 * i + (len - 1))) (zop2 (σ 88) a n f len) = some (o2, up σ3 87 29 0) := by
      unfold m_X10_enforced_b53
      rw [zck (by decide) (by omega), zck (by decide) (by omega), r_op0 (v := σ 88) (n := n) (by omega) f1 f33 hgo hd3, Option.bind_some, nI_clamp (by omega), (f33.2 _ (show len - 1 < len by omega)).1, hco3, q3, Option.bind_some]
    have hgA : zah [90, 107, 108] [5, 29] σ1' (up σ3 87 29 0) := ((hg2.tr (gu.sub (fun _ h => absurd h List.not_mem_nil) (fun k hk => by simp at hk ⊢; omega))).tr (hg3.sub (fun k hk => by simp at hk ⊢; omega) (fun k hk => by simp at hk ⊢; omega))).u7 (by simp)
    refine ⟨o, σ1', up σ3 87 29 0, ?_, ?_, H1.r2 hr1.2.2.2.1 hW hgA (by decide) (by decide) (hC3.g (L := []) (J := [29]) (zah.rf.u7 (by simp)) (by decide))⟩
    · rw [q1, Option.bind_some, z_topCoal f1 f21 h6]
      rw [show (1 : Int32) = bI true from rfl, q1']
      rfl
    · unfold m_X10_enforced
      rw [e2', if_neg zbIt, r_isGoal (by omega) f1 f31, hgo, Option.bind_some, if_neg zbIt, q2, Option.bind_some, r_top (by omega) f1 f32, Option.bind_some, zck (by decide) (by omega), nI_clamp (by omega), (f32.2 _ (show len - 1 < len by omega)).1, ho]
      have eo : o2 = zgl (σ 88) a n f len true (nI (f.2.2.2 (len - 1))) := ho3
      rw [← eo]
      by_cases q : f.1 (len - 1) = 9
      · rw [if_pos (by rw [q]; rfl), r_op1 (v := σ 88) (n := n) (by omega) f1 f32 q hd2, Option.bind_some]
        exact fin
      · rw [if_neg (show ¬ nI (f.1 (len - 1)) = 9 from zne (b := 9) (by omega) (by decide) q)]
        rw [← fin]
        unfold zop2
        rw [if_neg q]
  · refine ⟨-1, σ, σ, by rw [e1]; rfl, ?_, H⟩
    unfold m_X10_enforced
    rw [e2, if_pos zbIf]
theorem s_rank (H : INV a σ) (x y : Int32) : ∃ r σ1 σ2, m_X9_rank σ x y = some (r, σ1) ∧ m_X10_rank σ1 x y = some (r, σ2) ∧ INV a σ2 := by
  obtain ⟨n, hW, hR, hC, hr⟩ := H.zR
  have hn := hW.1
  have hnL : ∀ k, 25 ≤ k → k < 65 → k ∉ [72, 79, 80] := fun k h1 h2 h => by simp at h; omega
  unfold m_X9_rank
  rcases s_formulaOf H x with ⟨i, len, f, hi, rfl, f1, f2, f3, ht, e1, e2⟩ | ⟨e1, e2⟩
  · have l1 := f1.1
    have l2 := f1.2.1
    have h13 := (f1.2.2 (len - 1) (by omega)).1
    rw [e1, Option.bind_some, zoFm ht, z_hasState hR.1]
    refine zin_any (x := y) (n := n) (by omega) ?_ ?_
    · rintro s hs rfl
      rw [zin_nI (by omega) hs, if_neg zbIt, z_topKind f1 f2]
      have e7 : nI (f.1 (len - 1)) = 7 ↔ f.1 (len - 1) = 7 := nI_eq (b := 7) (by omega) (by decide)
      have e9 : nI (f.1 (len - 1)) = 9 ↔ f.1 (len - 1) = 9 := nI_eq (b := 9) (by omega) (by decide)
      by_cases h79 : f.1 (len - 1) = 7 ∨ f.1 (len - 1) = 9
      · have hgo : zisg f len = true := decide_eq_true (by omega)
        obtain ⟨h6, h9⟩ := zisg_t hgo
        obtain ⟨σ1, q1, hg, hd⟩ := z_look H.1 hW hR ht f1 f2
        have f21 := f2.g ht hg hnL
        obtain ⟨hco, hc2⟩ := r_coal f1 f3 hgo
        obtain ⟨⟨o, σ1'⟩, q1', ho, hg', hrk⟩ := z_goalSet (H.1.g hg (by decide)) hW (hR.g hg (by decide)) f1 f21 hgo hd hc2 false
        dsimp only at ho hg' hrk
        have hgg : zag [72, 79, 80] σ σ1' := hg.tr (hg'.sub (fun k hk => by simp at hk ⊢; omega))
        have hr1 := hr.ag hgg (by decide)
        have H1 : INV a σ1' := H.c2 hgg (by decide)
        have f31 := f3.ag hgg (by decide)
        obtain ⟨σ2, q2, hg2, hC2, hrk2⟩ := r_ranksOf hr1 (hC.ag hgg (by decide)) (show i < 9 by omega) f1 f31 h79
        have e2' : m_X10_isFormula σ1' (nI i) = true := by unfold m_X10_isFormula at e2 ⊢; rw [hgg 87 (by decide)]; exact e2
        have hval : m_X3_rankOf σ1' (nI s) = zgk (σ 88) a n f len (-1) s := by
          unfold m_X3_rankOf
          rw [zrA (by decide) (by omega)]
          exact hrk h79 s (by omega)
        have hz : (if 0 ≤ zgk (σ 88) a n f len (-1) s then zgk (σ 88) a n f len (-1) s else -9) = zgk (σ 88) a n f len (-9) s := by
          rcases zgk_two (v := σ 88) (a := a) (n := n) (f := f) (len := len) (s := s) with ⟨r, hr, hd⟩ | hd
          · rw [hd, hd, if_pos (nI_pos' (by omega))]
          · rw [hd, hd, if_neg (by decide)]
        have hb : m_X9_rank_b44 σ (nI s) (25 + 5 * i) = some (zgk (σ 88) a n f len (-9) s, σ1') := by
          unfold m_X9_rank_b44
          rw [q1, Option.bind_some, z_topCoal f1 f21 h6, show (0 : Int32) = bI false from rfl, q1', Option.bind_some]
          dsimp only
          rw [hval, show bI false = 0 from rfl, ← hz]
          split
          · rfl
          · rfl
        have hb2 : m_X10_rank_b51 σ1' (nI i) (nI s) = some (zgk (σ 88) a n f len (-9) s, σ2) := by
          unfold m_X10_rank_b51
          rw [q2, Option.bind_some, zck (by decide) (by omega), nI_clamp (by omega), hrk2 s (by omega)]
        refine ⟨zgk (σ 88) a n f len (-9) s, σ1', σ2, ?_, ?_, H1.r2 hr1.2.2.2.1 hW hg2 (by decide) (by decide) hC2⟩
        · rcases h79 with q | q
          · rw [if_pos (e7.mpr q)]; exact hb
          · rw [if_neg (fun r => by have := e7.mp r; omega), if_pos (e9.mpr q)]; exact hb
        · unfold m_X10_rank
          rw [e2', if_neg zbIt, r_isState hr1, zin_nI (by omega) hs, Option.bind_some, if_neg zbIt, r_top (by omega) f1 f31, Option.bind_some, zck (by decide) (by omega), nI_clamp (by omega), (f31.2 _ (show len - 1 < len by omega)).1]
          rcases h79 with q | q
          · rw [if_pos (e7.mpr q)]; exact hb2
          · rw [if_neg (fun r => by have := e7.mp r; omega), Option.bind_some, zck (by decide) (by omega), nI_clamp (by omega), (f31.2 _ (show len - 1 < len by omega)).1, if_pos (e9.mpr q)]; exact hb2
      · refine ⟨-3, σ, σ, ?_, ?_, H⟩
        · rw [if_neg (fun r => h79 (Or.inl (e7.mp r))), if_neg (fun r => h79 (Or.inr (e9.mp r)))]
        · unfold m_X10_rank
          rw [e2, if_neg zbIt, r_isState hr, zin_nI (by omega) hs, Option.bind_some, if_neg zbIt, r_top (by omega) f1 f3, Option.bind_some, zck (by decide) (by omega), nI_clamp (by omega), (f3.2 _ (show len - 1 < len by omega)).1]
          rw [if_neg (fun r => h79 (Or.inl (e7.mp r))), Option.bind_some, zck (by decide) (by omega), nI_clamp (by omega), (f3.2 _ (show len - 1 < len by omega)).1, if_neg (fun r => h79 (Or.inr (e9.mp r)))]
    · intro h
      refine ⟨-1, σ, σ, by rw [h, if_pos zbIf], ?_, H⟩
      unfold m_X10_rank
      rw [e2, if_neg zbIt, r_isState hr, h, Option.bind_some, if_pos zbIf]
  · refine ⟨-1, σ, σ, by rw [e1]; rfl, ?_, H⟩
    unfold m_X10_rank
    rw [e2, if_pos zbIf]
end SP2
