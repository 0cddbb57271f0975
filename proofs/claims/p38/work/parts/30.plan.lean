/-! GOALS: enforced, rank, strategy, smallest -/
def zop1 (v : Nat → Int32) (a n : Nat) (f : zFd) (len : Nat) : Int32 := zev v a n f len (f.2.1 (len - 1))
def zop2 (v : Nat → Int32) (a n : Nat) (f : zFd) (len : Nat) : Int32 := if f.1 (len - 1) = 9 then zev v a n f len (f.2.2.1 (len - 1)) else 0
/-- where the goal is reached by a coalition (or by the plan of its agents) -/
def zgl (v : Nat → Int32) (a n : Nat) (f : zFd) (len : Nat) (bp : Bool) (c : Int32) : Int32 := zgoal (zF v a n bp c) (zall n) (f.1 (len - 1)) (zop1 v a n f len) (zop2 v a n f len)
def zgk (v : Nat → Int32) (a n : Nat) (f : zFd) (len : Nat) (d : Int32) (q : Nat) : Int32 := zrk (zF v a n false (nI (f.2.2.2 (len - 1)))) (zall n) (f.1 (len - 1)) (zop1 v a n f len) (zop2 v a n f len) d q
theorem zev_le {v : Nat → Int32} {a n : Nat} {f : zFd} {q p : Nat} (h : q < p) : ∀ k, zev v a n f (p + k) q = zev v a n f p q
  | 0 => rfl
  | k + 1 => by
    show zev v a n f (p + k + 1) q = _
    rw [zev_s, if_neg (by omega), zev_le h k]
theorem zwh_gl {v : Nat → Int32} {a n : Nat} {f : zFd} {len : Nat} (hf : zFok a len f) (h6 : 6 ≤ f.1 (len - 1)) (h9 : f.1 (len - 1) ≤ 9) : zwh v a n f len = zgl v a n f len false (nI (f.2.2.2 (len - 1))) := by
  have l1 := hf.1
  obtain ⟨o1, o2, o3, o4, o5⟩ := hf.2.2 (len - 1) (by omega)
  have e : zev v a n f len (len - 1) = zpv v a n f (zev v a n f (len - 1)) (len - 1) := by
    have := zev_s (v := v) (a := a) (n := n) (f := f) (len - 1) (len - 1)
    rw [if_pos rfl, show len - 1 + 1 = len by omega] at this
    exact this
  have up : ∀ q, q < len - 1 → zev v a n f (len - 1) q = zev v a n f len q := fun q hq => by
    have := zev_le (v := v) (a := a) (n := n) (f := f) hq 1
    rw [show len - 1 + 1 = len by omega] at this
    exact this.symm
  unfold zwh zgl zop1 zop2
  rw [e]
  unfold zpv
  rw [if_neg (by omega), if_neg (by omega), if_neg (by omega), if_neg (by omega), if_neg (by omega), if_neg (by omega), up _ (o3 (by omega))]
  by_cases q : f.1 (len - 1) = 9
  · rw [if_pos (Or.inl q), if_pos q, up _ (o4 (by unfold zbin; omega))]
  · rw [if_neg (by omega), if_neg q]
theorem zRk_two {F : Int32 → Int32} {p g : Int32} {s : Nat} : ∀ {k : Nat}, (∃ r, r ≤ k ∧ ∀ d, zRk F p g d k s = nI r) ∨ (∀ d, zRk F p g d k s = d)
  | 0 => by
    cases e : bt g s
    · refine Or.inr fun d => ?_
      unfold zRk
      rw [e, if_neg (by decide)]
    · refine Or.inl ⟨0, Nat.le_refl _, fun d => ?_⟩
      unfold zRk
      rw [e, if_pos rfl]
      rfl
  | k + 1 => by
    cases e : bt (zadd F p (zL F p g k)) s
    · rcases zRk_two (F := F) (p := p) (g := g) (s := s) (k := k) with ⟨r, hr, h⟩ | h
      · exact Or.inl ⟨r, by omega, fun d => by rw [zRk_s, e, if_neg (by decide), h]⟩
      · exact Or.inr fun d => by rw [zRk_s, e, if_neg (by decide), h]
    · exact Or.inl ⟨k + 1, Nat.le_refl _, fun d => by rw [zRk_s, e, if_pos rfl]⟩
theorem zgk_two {v : Nat → Int32} {a n : Nat} {f : zFd} {len s : Nat} : (∃ r, r ≤ 12 ∧ ∀ d, zgk v a n f len d s = nI r) ∨ (∀ d, zgk v a n f len d s = d) := by
  unfold zgk zrk
  split
  · exact zRk_two
  · exact zRk_two
section SP
variable {a n : Nat} {v : Nat → Int32} {σ : St}
theorem z_topKind {t len : Nat} {f : zFd} (hf : zFok a len f) (hc : zFc σ t len f) : m_X0_topKind σ t = nI (f.1 (len - 1)) := by
  have l1 := hf.1
  have l2 := hf.2.1
  unfold m_X0_topKind m_X0_kind
  rw [hc.1, z_top l1 l2, zrA (by decide) (by omega)]
  exact (hc.2 _ (by omega)).1
theorem z_topCoal {t len : Nat} {f : zFd} (hf : zFok a len f) (hc : zFc σ t len f) (h6 : 6 ≤ f.1 (len - 1)) : m_X0_topCoalition σ t = nI (f.2.2.2 (len - 1)) := by
  have l1 := hf.1
  have l2 := hf.2.1
  unfold m_X0_topCoalition m_X0_detail
  rw [hc.1, z_top l1 l2, zrA (by decide) (by omega)]
  exact (hc.2 _ (by omega)).2.1 (Or.inr h6)
def zisg (f : zFd) (len : Nat) : Bool := decide (6 ≤ f.1 (len - 1) ∧ f.1 (len - 1) ≤ 9)
theorem z_hasStr {t len : Nat} {f : zFd} (hf : zFok a len f) (hc : zFc σ t len f) : m_X0_hasStrategy σ t = zisg f len := by
  have l1 := hf.1
  have := (hf.2.2 (len - 1) (by omega)).1
  unfold m_X0_hasStrategy zisg
  rw [z_topKind hf hc]
  rcases Nat.lt_or_ge (f.1 (len - 1)) 6 with q | q
  · rw [if_pos (show nI (f.1 (len - 1)) < 6 from zlt (b := 6) (by omega) (by decide) q), decide_eq_false (by omega)]
  · rw [if_neg (show ¬ nI (f.1 (len - 1)) < 6 from znlt (b := 6) (by omega) (by decide) q)]
    rcases Nat.lt_or_ge 9 (f.1 (len - 1)) with w | w
    · rw [if_pos (show 9 < nI (f.1 (len - 1)) from zlt (a := 9) (by decide) (by omega) w), decide_eq_false (by omega)]
    · rw [if_neg (show ¬ 9 < nI (f.1 (len - 1)) from znlt (a := 9) (by decide) (by omega) w), decide_eq_true ⟨q, w⟩]
theorem zisg_t {f : zFd} {len : Nat} (h : zisg f len = true) : 6 ≤ f.1 (len - 1) ∧ f.1 (len - 1) ≤ 9 := of_decide_eq_true h
theorem z_goalSet (hK : zK a σ) (hW : zWF a n v) (hR : zRS a n v σ 0) {t len : Nat} {f : zFd} (hf : zFok a len f) (hc : zFc σ t len f) (hg9 : zisg f len = true) (hd : ∀ q, q < len → σ 79 q = zev v a n f len q) {c : Nat} (hc2 : c < 2 ^ a) (bp : Bool) :
    zP (fun u => u.1 = zgl v a n f len bp (nI c) ∧ zag [72, 80] σ u.2 ∧ ((f.1 (len - 1) = 7 ∨ f.1 (len - 1) = 9) → ∀ q, q < 12 → u.2 80 q = zrk (zF v a n bp (nI c)) (zall n) (f.1 (len - 1)) (zop1 v a n f len) (zop2 v a n f len) (-1) q)) (m_X3_goalSet σ t (nI c) (bI bp)) := by
  have l1 := hf.1
  have l2 := hf.2.1
  obtain ⟨h6, h9⟩ := zisg_t hg9
  obtain ⟨o1, o2, o3, o4, o5⟩ := hf.2.2 (len - 1) (by omega)
  obtain ⟨c1, c2, c3, c4⟩ := hc.2 (len - 1) (by omega)
  have e1 : m_X3_setOf σ (m_X0_first σ t (σ t 4 - 1)) = zop1 v a n f len := by
    have := o3 (by omega)
    unfold m_X3_setOf m_X0_first zop1
    rw [hc.1, z_top l1 l2, zrA (n := 60) (f := σ (t + 2)) (by decide) (by omega), c3 (by omega), zrA (by decide) (by omega)]
    exact hd _ (by omega)
  have e2 : f.1 (len - 1) = 9 → m_X3_setOf σ (m_X0_second σ t (σ t 4 - 1)) = zop2 v a n f len := fun h => by
    have := o4 (by unfold zbin; omega)
    unfold m_X3_setOf m_X0_second zop2
    rw [hc.1, z_top l1 l2, zrA (n := 60) (f := σ (t + 3)) (by decide) (by omega), c4 (by unfold zbin; omega), zrA (by decide) (by omega), if_pos h]
    exact hd _ (by omega)
  unfold m_X3_goalSet
  rw [z_topKind hf hc, e1]
  refine zbind (z_strongSet hK hW hR hc2 h6 h9 (zop1 v a n f len) _ bp) ?_
  rintro ⟨o, ρ⟩ ⟨ho, hg, hrk⟩
  dsimp only at ho hg hrk ⊢
  refine zP_some ⟨?_, hg, fun h q hq => ?_⟩
  · dsimp only
    rw [ho]
    unfold zgl
    by_cases q : f.1 (len - 1) = 9
    · rw [e2 q]
    · exact zgoal_t (by omega) h6 (by omega)
  · dsimp only
    rw [hrk h q hq]
    by_cases w : f.1 (len - 1) = 9
    · rw [e2 w]
    · unfold zrk
      rw [if_neg w, if_neg w]
theorem zop1_in (hn : n ≤ 12) {f : zFd} {len : Nat} (hf : zFok a len f) : zsb (zop1 v a n f len) (zall n) := zev_in hn hf len (Nat.le_refl _) _
theorem zop2_in (hn : n ≤ 12) {f : zFd} {len : Nat} (hf : zFok a len f) : zsb (zop2 v a n f len) (zall n) := by
  unfold zop2
  split
  · exact zev_in hn hf len (Nat.le_refl _) _
  · exact zsb_0 _
end SP
section SP2
variable {a : Nat} {σ : St}
end SP2
