/-! STRATEGIES -/
def zbl (v : Nat → Int32) (a n : Nat) (f : zFd) (len : Nat) (r : Int32) : Int32 := zmk (fun q => decide (¬ zgk v a n f len (-9) q = -9 ∧ zgk v a n f len (-9) q < r)) n
def zst (v : Nat → Int32) (a n : Nat) (f : zFd) (len s : Nat) : Int32 :=
  if bt (zgl v a n f len false (nI (f.2.2.2 (len - 1)))) s = false then 0 else
  if f.1 (len - 1) = 6 then zlf v a (nI (f.2.2.2 (len - 1))) s (zop1 v a n f len) else
  if f.1 (len - 1) = 8 then zlf v a (nI (f.2.2.2 (len - 1))) s (zgl v a n f len false (nI (f.2.2.2 (len - 1)))) else
  if zgk v a n f len (-9) s = 0 then 0 else zlf v a (nI (f.2.2.2 (len - 1))) s (zbl v a n f len (zgk v a n f len (-9) s))
theorem zlf_ok {v : Nat → Int32} {a n : Nat} (hW : zWF a n v) (ha : a ≤ 4) {c X : Int32} {s : Nat} (hs : s < n) (h : zcan v a c s X = true) : ∃ j, j < 3 ^ a ∧ zlf v a c s X = nI j := by
  obtain ⟨j, hj, hq⟩ := zcan_t.mp h
  obtain ⟨i, hi, hp, hl⟩ := fb_first (p := fun i => zfo (zoc v a c s i) X = true) ⟨j, hj, hq⟩
  have e : zlf v a c s X = nI i := zfs_hit (Nat.zero_le _) (by omega) hp (fun k _ hk => by
    have := hl k hk
    cases e : zfo (zoc v a c s k) X
    · rfl
    · exact absurd e this)
  refine ⟨i, ?_, e⟩
  have hne := (of_decide_eq_true hp).1
  exact zpm_lt (of_decide_eq_true ((zoc_ne hW ha hs).mp hne)).1
section ZK
variable {F : Int32 → Int32} {p g : Int32}
theorem zRk_mem {s : Nat} : ∀ {k : Nat}, bt (zL F p g k) s = true → ∃ r, r ≤ k ∧ ∀ d, zRk F p g d k s = nI r
  | 0, h => ⟨0, Nat.le_refl _, fun d => by
    show (if bt g s = true then 0 else d) = _
    rw [if_pos (show bt g s = true from h)]
    rfl⟩
  | k + 1, h => by
    rw [zL_s, b_or, Bool.or_eq_true] at h
    cases e : bt (zadd F p (zL F p g k)) s
    · rw [e] at h
      obtain ⟨r, hr, hd⟩ := zRk_mem (h.resolve_right (by decide))
      exact ⟨r, by omega, fun d => by rw [zRk_s, e, if_neg (by decide), hd]⟩
    · exact ⟨k + 1, Nat.le_refl _, fun d => by rw [zRk_s, e, if_pos rfl]⟩
theorem zL_mono {s : Nat} {k : Nat} (h : bt (zL F p g k) s = true) : ∀ j, bt (zL F p g (k + j)) s = true
  | 0 => h
  | j + 1 => by
    show bt (zL F p g (k + j + 1)) s = true
    rw [zL_s, b_or, zL_mono h j]
    rfl
theorem zRk_keep {s k : Nat} (hs : s < 32) (h : bt (zL F p g k) s = true) (d : Int32) : ∀ j, zRk F p g d (k + j) s = zRk F p g d k s
  | 0 => rfl
  | j + 1 => by
    show zRk F p g d (k + j + 1) s = _
    have h1 := zL_mono h j
    rw [zRk_s, if_neg (fun e => by rw [(zadd_new hs e).1] at h1; cases h1), zRk_keep hs h d j]
theorem zRk_low {s k K : Nat} (hs : s < 32) (hk : k ≤ K) (h : bt (zL F p g k) s = true) : ∃ r, r ≤ k ∧ ∀ d, zRk F p g d K s = nI r := by
  obtain ⟨r, hr, hd⟩ := zRk_mem h
  obtain ⟨j, rfl⟩ := Nat.le.dest hk
  exact ⟨r, hr, fun d => by rw [zRk_keep hs h, hd]⟩
end ZK
theorem zst_ok {v : Nat → Int32} {a n : Nat} (hW : zWF a n v) (ha : a ≤ 4) {f : zFd} {len s : Nat} (hf : zFok a len f) (hs : s < n) (hg : zisg f len = true) : ∃ j, j < 3 ^ a ∧ zst v a n f len s = nI j := by
  have hn := hW.1
  have h81 := za_81 ha
  obtain ⟨h6, h9⟩ := zisg_t hg
  have z0 : ∃ j, j < 3 ^ a ∧ (0 : Int32) = nI j := ⟨0, by omega, rfl⟩
  unfold zst
  cases hb : bt (zgl v a n f len false (nI (f.2.2.2 (len - 1)))) s
  · rw [if_pos rfl]; exact z0
  rw [if_neg (by decide)]
  have hz : zgl v a n f len false (nI (f.2.2.2 (len - 1))) = zgoal (zF v a n false (nI (f.2.2.2 (len - 1)))) (zall n) (f.1 (len - 1)) (zop1 v a n f len) (zop2 v a n f len) := rfl
  have hk : f.1 (len - 1) = 6 ∨ f.1 (len - 1) = 8 ∨ f.1 (len - 1) = 7 ∨ f.1 (len - 1) = 9 := by omega
  rcases hk with k6 | k8 | k79
  · rw [if_pos k6]
    rw [hz, k6, zgoal_6, zF_bt hn hs, if_neg (by decide)] at hb
    exact zlf_ok hW ha hs hb
  · rw [if_neg (by omega), if_pos k8]
    rw [hz, k8, zgoal_8] at hb ⊢
    have := zZ_in (F := zF v a n false (nI (f.2.2.2 (len - 1)))) (z12_sb (zop1_in hn hf) (z12_all hn)) s (by omega) hb
    rw [zF_bt hn hs, if_neg (by decide)] at this
    exact zlf_ok hW ha hs this
  · rw [if_neg (by omega), if_neg (by omega)]
    by_cases e0 : zgk v a n f len (-9) s = 0
    · rw [if_pos e0]; exact z0
    rw [if_neg e0]
    obtain ⟨p, g, e1, e2⟩ : ∃ p g, zgl v a n f len false (nI (f.2.2.2 (len - 1))) = zL (zF v a n false (nI (f.2.2.2 (len - 1)))) p g 12 ∧ (∀ d q, zgk v a n f len d q = zRk (zF v a n false (nI (f.2.2.2 (len - 1)))) p g d 12 q) ∧ zsb g (zall n) := by
      rcases k79 with k | k
      · refine ⟨zall n, zop1 v a n f len, by rw [hz, k, zgoal_7], fun d q => ?_, zop1_in hn hf⟩
        unfold zgk
        rw [k, zrk_7]
      · refine ⟨zop1 v a n f len, zop2 v a n f len, by rw [hz, k, zgoal_9], fun d q => ?_, zop2_in hn hf⟩
        unfold zgk
        rw [k, zrk_9]
    obtain ⟨e2, eg⟩ := e2
    rw [e1] at hb
    obtain ⟨r, hr, hd⟩ := zRk_mem hb
    have hr0 : r ≠ 0 := fun q => e0 (by rw [e2, hd, q]; rfl)
    obtain ⟨r', rfl⟩ : ∃ r', r = r' + 1 := ⟨r - 1, by omega⟩
    have hpos := zRk_pos (d := -9) (by omega) (fun q => znm9 (n := r' + 1) (by omega) q.symm) (by decide) (hd (-9))
    have hF := (zadd_new (show s < 32 by omega) hpos.1).2.2
    rw [zF_bt hn hs, if_neg (by decide)] at hF
    have hsub : zsb (zL (zF v a n false (nI (f.2.2.2 (len - 1)))) p g r') (zbl v a n f len (zgk v a n f len (-9) s)) := by
      intro q hq hm
      have hqn : q < n := by
        have := zsb_L (p := p) (F := zF v a n false (nI (f.2.2.2 (len - 1)))) (fun X => zsb_F hn) eg r' q hq hm
        rw [zall_bt hn hq] at this
        exact of_decide_eq_true this
      obtain ⟨r2, h1, h2⟩ := zRk_low hq (show r' ≤ 12 by omega) hm
      unfold zbl
      rw [zmk_bt (by omega) hq, decide_eq_true hqn, Bool.true_and]
      refine decide_eq_true ⟨?_, ?_⟩
      · rw [e2, h2]; exact znm9 (by omega)
      · rw [e2, e2, h2, hd]; exact zlt (by omega) (by omega) (by omega)
    refine zlf_ok hW ha hs ?_
    obtain ⟨j, hj, hq⟩ := zcan_t.mp hF
    exact zcan_t.mpr ⟨j, hj, zfo_m hsub hq⟩
section SS
variable {a n : Nat} {v : Nat → Int32} {σ : St}
/-- behind a prepare -/
def zPr (v : Nat → Int32) (a n : Nat) (f : zFd) (len : Nat) (σ : St) : Prop := (∀ q, q < len → σ 79 q = zev v a n f len q) ∧ σ 81 3 = zgl v a n f len false (nI (f.2.2.2 (len - 1))) ∧ ((f.1 (len - 1) = 7 ∨ f.1 (len - 1) = 9) → ∀ q, q < 12 → σ 80 q = zgk v a n f len (-1) q)
theorem zPr.g {f : zFd} {len : Nat} {τ : St} {L : List Nat} (h : zPr v a n f len σ) (hg : zag L σ τ) (hL : 79 ∉ L ∧ 80 ∉ L ∧ 81 ∉ L) : zPr v a n f len τ := by
  unfold zPr at h ⊢
  rw [hg 79 hL.1, hg 80 hL.2.1, hg 81 hL.2.2]
  exact h
theorem z_prepare (hK : zK a σ) (hW : zWF a n v) (hR : zRS a n v σ 0) {t len : Nat} {f : zFd} (ht : isF t = true) (hf : zFok a len f) (hc : zFc σ t len f) (hg9 : zisg f len = true) :
    zP (fun τ => zag [72, 79, 80, 81] σ τ ∧ zPr v a n f len τ) (m_X8_prepare σ t) := by
  have l1 := hf.1
  have hnL : ∀ k, 25 ≤ k → k < 65 → k ∉ [72, 79, 80] := fun k h1 h2 h => by simp at h; omega
  obtain ⟨h6, h9⟩ := zisg_t hg9
  have hc2 := (hf.2.2 (len - 1) (by omega)).2.2.2.2 h6
  unfold m_X8_prepare
  refine zbind (z_look hK hW hR ht hf hc) ?_
  rintro τ ⟨hg, hd⟩
  have f21 := hc.g ht hg hnL
  rw [z_topCoal hf f21 h6]
  refine zbind (z_goalSet (bp := false) (hK.g hg (by decide)) hW (hR.g hg (by decide)) hf f21 hg9 hd hc2) ?_
  rintro ⟨o, ρ⟩ ⟨ho, hg2, hrk⟩
  dsimp only at ho hg2 hrk ⊢
  refine zP_some ⟨((hg.sub (fun k hk => by simp at hk ⊢; omega)).tr (hg2.sub (fun k hk => by simp at hk ⊢; omega))).up (by simp), fun q hq => ?_, ?_, fun h q hq => ?_⟩
  · rw [zup_n (by decide), hg2 79 (by decide)]; exact hd q hq
  · rw [zup_ss]; exact ho
  · rw [zup_n (by decide)]; exact hrk h q hq
theorem z_below (hR : zRS a n v σ 0) (hn : n ≤ 12) {f : zFd} {len r : Nat} (hr : r ≤ 12) (hk : ∀ q, q < 12 → σ 80 q = zgk v a n f len (-1) q) : m_X3_statesBelow σ (nI r) = some (zbl v a n f len (nI r)) := by
  unfold m_X3_statesBelow zbl
  generalize hp : (fun q => decide (¬ zgk v a n f len (-9) q = -9 ∧ zgk v a n f len (-9) q < nI r)) = p
  refine zl_e (fun i => (zmk p i, nI i)) n (by omega) rfl ?_
  intro k i hi hk2
  unfold m_X3_statesBelow_b4
  rw [hR.1]
  dsimp only
  rcases Nat.lt_or_ge i n with q | q
  · have hk2 := hk2 q
    have ev : m_X3_rankOf σ (nI i) = zgk v a n f len (-1) i := by unfold m_X3_rankOf; rw [zrA (by decide) (by omega)]; exact hk i (by omega)
    have hpi : p i = decide (¬ zgk v a n f len (-9) i = -9 ∧ zgk v a n f len (-9) i < nI r) := by rw [← hp]
    rw [zmk_s] at hk2
    rw [if_neg (znle (by omega) (by omega) q), ev, nI_1]
    rcases zgk_two (v := v) (a := a) (n := n) (f := f) (len := len) (s := i) with ⟨r2, h2, hd⟩ | hd
    · rw [hd] at hpi ⊢
      rw [if_neg (nI_pos (by omega))]
      rcases Nat.lt_or_ge r2 r with w | w
      · rw [if_neg (znle (by omega) (by omega) w), ← hk2, hpi, decide_eq_true ⟨znm9 (by omega), zlt (by omega) (by omega) w⟩]
        rfl
      · rw [if_pos (zle (by omega) (by omega) w), ← hk2, hpi, decide_eq_false (fun e => znlt (by omega) (by omega) w e.2), if_neg (by decide)]
    · rw [hd, if_pos (by decide), ← hk2, hpi, hd, decide_eq_false (fun e => e.1 rfl), if_neg (by decide)]
  · have : i = n := by omega
    subst this
    rw [if_pos (zle (by omega) (by omega) q)]
theorem z_jointAt (hK : zK a σ) (hW : zWF a n v) (hR : zRS a n v σ 0) {t len s : Nat} {f : zFd} (hf : zFok a len f) (hc : zFc σ t len f) (hg9 : zisg f len = true) (hp : zPr v a n f len σ) (hs : s < n) :
    zP (fun u => u.1 = zst v a n f len s ∧ zag [72] σ u.2) (m_X8_jointAt σ t (nI s)) := by
  have l1 := hf.1
  have l2 := hf.2.1
  have hn := hW.1
  have h81 := za_81 hK.2.1
  obtain ⟨h6, h9⟩ := zisg_t hg9
  obtain ⟨o1, o2, o3, o4, o5⟩ := hf.2.2 (len - 1) (by omega)
  obtain ⟨hs1, hs2, hs3⟩ := hp
  obtain ⟨jst, hj, hjs⟩ := zst_ok hW hK.2.1 hf hs hg9
  -- the end: the greater of 0 and the number found
  have fin : ∀ X, zlf v a (nI (f.2.2.2 (len - 1))) s X = zst v a n f len s → zP (fun u => u.1 = zst v a n f len s ∧ zag [72] σ u.2) (m_X8_jointAt_b102 σ t (nI s) X) := by
    intro X hX
    unfold m_X8_jointAt_b102
    rw [z_topCoal hf hc h6]
    refine zbind (z_leastForcing hK hW hR (o5 h6) hs X) ?_
    rintro ⟨o, ρ⟩ ⟨ho, hg⟩
    dsimp only at ho hg ⊢
    refine zP_some ⟨?_, hg⟩
    dsimp only
    rw [ho, hX, hjs]
    rcases Nat.eq_zero_or_pos jst with e | e
    · subst e; rfl
    · rw [if_pos (show 0 < nI jst from zlt (a := 0) (by decide) (by omega) e)]
  have hz : zst v a n f len s = if bt (zgl v a n f len false (nI (f.2.2.2 (len - 1)))) s = false then 0 else
      if f.1 (len - 1) = 6 then zlf v a (nI (f.2.2.2 (len - 1))) s (zop1 v a n f len) else
      if f.1 (len - 1) = 8 then zlf v a (nI (f.2.2.2 (len - 1))) s (zgl v a n f len false (nI (f.2.2.2 (len - 1)))) else
      if zgk v a n f len (-9) s = 0 then 0 else zlf v a (nI (f.2.2.2 (len - 1))) s (zbl v a n f len (zgk v a n f len (-9) s)) := rfl
  unfold m_X8_jointAt
  rw [hs2, zsh1 _ (by omega), z_topKind hf hc]
  cases hb : bt (zgl v a n f len false (nI (f.2.2.2 (len - 1)))) s
  · rw [if_pos zbIf]
    exact zP_some ⟨by rw [hz, if_pos hb], zag.rf⟩
  rw [if_neg zbIt]
  have hnb : ¬ bt (zgl v a n f len false (nI (f.2.2.2 (len - 1)))) s = false := by rw [hb]; decide
  have e6 : nI (f.1 (len - 1)) = 6 ↔ f.1 (len - 1) = 6 := nI_eq (b := 6) (by omega) (by decide)
  have e8 : nI (f.1 (len - 1)) = 8 ↔ f.1 (len - 1) = 8 := nI_eq (b := 8) (by omega) (by decide)
  refine zite (fun k6 => ?_) (fun k6 => ?_)
  · have k6 := e6.mp k6
    have e1 : m_X3_setOf σ (m_X0_first σ t (σ t 4 - 1)) = zop1 v a n f len := by
      have := o3 (by omega)
      unfold m_X3_setOf m_X0_first zop1
      rw [hc.1, z_top l1 l2, zrA (n := 60) (f := σ (t + 2)) (by decide) (by omega), (hc.2 (len - 1) (by omega)).2.2.1 (by omega), zrA (by decide) (by omega)]
      exact hs1 _ (by omega)
    rw [e1]
    exact fin _ (by rw [hz, if_neg hnb, if_pos k6])
  have k6 : ¬ f.1 (len - 1) = 6 := fun q => k6 (e6.mpr q)
  refine zite (fun k8 => ?_) (fun k8 => ?_)
  · have k8 := e8.mp k8
    exact fin _ (by rw [hz, if_neg hnb, if_neg k6, if_pos k8])
  have k8 : ¬ f.1 (len - 1) = 8 := fun q => k8 (e8.mpr q)
  have hs3 := hs3 (by omega)
  have ev : m_X3_rankOf σ (nI s) = zgk v a n f len (-1) s := by unfold m_X3_rankOf; rw [zrA (by decide) (by omega)]; exact hs3 s (by omega)
  have hm : ∃ r, r ≤ 12 ∧ ∀ d, zgk v a n f len d s = nI r := by
    rcases zgk_two (v := v) (a := a) (n := n) (f := f) (len := len) (s := s) with h | h
    · exact h
    · exfalso
      have hk : f.1 (len - 1) = 7 ∨ f.1 (len - 1) = 9 := by omega
      have hzg : zgl v a n f len false (nI (f.2.2.2 (len - 1))) = zgoal (zF v a n false (nI (f.2.2.2 (len - 1)))) (zall n) (f.1 (len - 1)) (zop1 v a n f len) (zop2 v a n f len) := rfl
      have h0 := h 0
      have h1 := h (-1)
      unfold zgk at h0 h1
      rw [hzg] at hb
      rcases hk with k | k
      · rw [k, zgoal_7] at hb
        rw [k, zrk_7] at h0 h1
        obtain ⟨r, hr, hd⟩ := zRk_mem hb
        rw [hd] at h1
        exact znm1 (by omega) h1
      · rw [k, zgoal_9] at hb
        rw [k, zrk_9] at h0 h1
        obtain ⟨r, hr, hd⟩ := zRk_mem hb
        rw [hd] at h1
        exact znm1 (by omega) h1
  obtain ⟨r, hr, hd⟩ := hm
  rw [ev, hd]
  rcases Nat.eq_zero_or_pos r with e | e
  · subst e
    rw [if_neg (by decide)]
    exact zP_some ⟨by rw [hz, if_neg hnb, if_neg k6, if_neg k8, hd, if_pos (by rfl)], zag.rf⟩
  · rw [if_pos (show 0 < nI r from zlt (a := 0) (by decide) (by omega) e)]
    refine zbe (z_below hR hn hr hs3) (fin _ ?_)
    rw [hz, if_neg hnb, if_neg k6, if_neg k8, hd, if_neg (zne0 (by omega) (by omega))]
end SS
section SS2
variable {a : Nat} {σ : St}
end SS2
