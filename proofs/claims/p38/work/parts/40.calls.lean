/-! THE OBJECT BETWEEN CALLS, and what each call answers -/
def PI (a n : Nat) (v : Nat → Int32) (h : Nat) (P : Nat → Nat → Int32) (m : Nat) (σ : St) : Prop := zK a σ ∧ zWF a n v ∧ zRS a n v σ 0 ∧ h ≤ 4 ∧ zHc a σ P h ∧ m ≤ 8 ∧ σ 65 8 = nI m
/-- a formula that is kept -/
def QF (a : Nat) (σ : St) (k len : Nat) (f : zFd) : Prop := zFok a len f ∧ zFc σ (25 + 5 * k) len f ∧ isF (25 + 5 * k) = true
theorem PI.cl {a n h m : Nat} {v : Nat → Int32} {P : Nat → Nat → Int32} {σ τ : St} (H : PI a n v h P m σ) {L : List Nat} (hg : zag L σ τ) (hL : ∀ k, k ∈ L → k ∈ zwc) : PI a n v h P m τ := by
  obtain ⟨hK, hW, hR, hh, hH, hm, h65⟩ := H
  have hg := hg.sub hL
  refine ⟨hK.g hg (by decide), hW, hR.g hg (by decide), hh, hH.ag (fun k hk => hg k (fun q => ?_)), hm, by rw [hg 65 (by decide)]; exact h65⟩
  have := (by decide : ∀ k ∈ zwc, k = 72 ∨ (79 ≤ k ∧ k ≤ 86)) k q
  omega
theorem QF.cl {a k len : Nat} {f : zFd} {σ τ : St} (H : QF a σ k len f) {L : List Nat} (hg : zag L σ τ) (hL : ∀ k, 25 ≤ k → k < 65 → k ∉ L) : QF a τ k len f := ⟨H.1, H.2.1.g H.2.2 hg hL, H.2.2⟩
theorem zwcF {L : List Nat} (hL : ∀ k, k ∈ L → k ∈ zwc) : ∀ k, 25 ≤ k → k < 65 → k ∉ L := fun k h1 h2 q => by
  have := (by decide : ∀ k ∈ zwc, k = 72 ∨ (79 ≤ k ∧ k ≤ 86)) k (hL k q)
  omega
section QA
variable {a n h m : Nat} {v : Nat → Int32} {P : Nat → Nat → Int32} {σ : St}
theorem q_agents (H : PI a n v h P m σ) : m_X9_agents σ = nI a := H.1.2.2.1
theorem q_states (H : PI a n v h P m σ) : m_X9_states σ = nI n := H.2.2.1.1
theorem q_formulas (H : PI a n v h P m σ) : m_X9_formulas σ = nI m := H.2.2.2.2.2.2
theorem q_actions (H : PI a n v h P m σ) {s i : Nat} (hs : s < n) (hi : i < a) : m_X9_actions σ (nI s) (nI i) = v (100 * s + 1 + i) := by
  obtain ⟨hK, hW, hR, -⟩ := H
  have hn := hW.1
  have ha := hK.2.1
  unfold m_X9_actions
  rw [z_hasPlace hR.1 hK.2.2.1, zin_nI (by omega) hs, zin_nI (by omega) hi, Bool.and_true, if_neg zbIt, z_actionCount ha hn hR hs hi]
theorem q_planned (H : PI a n v h P m σ) {s i : Nat} (hs : s < n) (hi : i < a) : m_X9_planned σ (nI s) (nI i) = v (100 * s + 5 + i) := by
  obtain ⟨hK, hW, hR, -⟩ := H
  have hn := hW.1
  have ha := hK.2.1
  unfold m_X9_planned
  rw [z_hasPlace hR.1 hK.2.2.1, zin_nI (by omega) hs, zin_nI (by omega) hi, Bool.and_true, if_neg zbIt, z_plannedAction ha hn hR hs hi]
theorem q_planned_no (H : PI a n v h P m σ) {x y : Int32} (hb : (zin x n && zin y a) = false) : m_X9_planned σ x y = -1 := by
  obtain ⟨hK, hW, hR, -⟩ := H
  unfold m_X9_planned
  rw [z_hasPlace hR.1 hK.2.2.1, hb, if_pos zbIf]
theorem q_labels (H : PI a n v h P m σ) {s : Nat} (hs : s < n) : m_X9_labels σ (nI s) = v (100 * s) := by
  obtain ⟨hK, hW, hR, -⟩ := H
  have hn := hW.1
  unfold m_X9_labels
  rw [z_hasState hR.1, zin_nI (by omega) hs, if_neg zbIt, z_labelSet hn hR hs]
theorem q_labels_no (H : PI a n v h P m σ) {x : Int32} (hb : zin x n = false) : m_X9_labels σ x = -1 := by
  unfold m_X9_labels
  rw [z_hasState H.2.2.1.1, hb, if_pos zbIf]
theorem q_next (H : PI a n v h P m σ) {s k : Nat} (hs : s < n) (hk : k < 3 ^ a) : m_X9_next σ (nI s) (nI k) = if zpm a (zac v s) k = true then nI (znx v s k) else -1 := by
  obtain ⟨hK, hW, hR, -⟩ := H
  have hn := hW.1
  have h81 := za_81 hK.2.1
  unfold m_X9_next
  rw [z_target hK.2.1 hn hK.2.2.2.2.1 hR hs hk]
  have hx := hW.nx hs (show k < 81 by omega)
  by_cases e : zpm a (zac v s) k = true
  · rw [if_pos e, if_pos e, hx.1, if_pos (nI_pos' (by omega))]
  · rw [if_neg e, if_neg e, if_neg (by decide)]
theorem q_next_no (H : PI a n v h P m σ) {x y : Int32} (hb : zin x n = false ∨ zin y (3 ^ a) = false) : m_X9_next σ x y = -1 := by
  obtain ⟨hK, hW, hR, -⟩ := H
  unfold m_X9_next
  rw [z_target_no hK.2.1 hK.2.2.2.2.1 hR hb, if_neg (by decide)]
theorem q_moves (H : PI a n v h P m σ) {s : Nat} (hs : s < n) : m_X9_moves σ (nI s) = some (nI (fb_ct (zpm a (zac v s)) (3 ^ a))) := by
  obtain ⟨hK, hW, hR, -⟩ := H
  have hn := hW.1
  unfold m_X9_moves
  rw [z_hasState hR.1, zin_nI (by omega) hs, if_neg zbIt, z_possible hK hW hR hs]
  rfl
theorem q_force (H : PI a n v h P m σ) {c s : Nat} (hc : c < 2 ^ a) (hs : s < n) {X : Int32} (hX : zin X (2 ^ n) = true) : zP (fun u => u.1 = zlf v a (nI c) s X ∧ zag [72] σ u.2) (m_X9_force σ (nI c) (nI s) X) := by
  obtain ⟨hK, hW, hR, -⟩ := H
  have hn := hW.1
  have h81 := za_81 hK.2.1
  unfold m_X9_force
  rw [z_isQuestion hK hR.1, z_hasSet hn hR.1, zin_nI (by omega) hc, zin_nI (by omega) hs, hX, Bool.and_true, if_neg zbIt, if_neg zbIt]
  refine zbind (z_leastForcing hK hW hR hc hs X) ?_
  rintro ⟨o, τ⟩ ⟨ho, hg⟩
  exact zP_some ⟨ho, hg⟩
theorem q_force_no (H : PI a n v h P m σ) {x y z : Int32} (hb : (zin x (2 ^ a) && zin y n && zin z (2 ^ n)) = false) : m_X9_force σ x y z = some (-1, σ) := by
  obtain ⟨hK, hW, hR, -⟩ := H
  unfold m_X9_force
  rw [z_isQuestion hK hR.1, z_hasSet hW.1 hR.1]
  cases h1 : (zin x (2 ^ a) && zin y n)
  · rw [if_pos zbIf]
  · rw [h1, Bool.true_and] at hb
    rw [if_neg zbIt, hb, if_pos zbIf]
theorem q_reply (H : PI a n v h P m σ) {c s j : Nat} (hc : c < 2 ^ a) (hs : s < n) (hj : zjt a (zac v s) (nI c) j = true) {X : Int32} (hX : zin X (2 ^ n) = true) : zP (fun u => u.1 = zfs (fun m => decide (zpm a (zac v s) m = true ∧ zpt a (nI c) m = j ∧ bt X (znx v s m) = false)) 81 0 ∧ zag [72] σ u.2) (m_X9_reply σ (nI c) (nI s) (nI j) X) := by
  obtain ⟨hK, hW, hR, -⟩ := H
  have hn := hW.1
  have h81 := za_81 hK.2.1
  unfold m_X9_reply
  rw [z_isQuestion hK hR.1, z_hasSet hn hR.1, zin_nI (by omega) hc, zin_nI (by omega) hs, hX, Bool.and_true, if_neg zbIt, if_neg zbIt]
  refine zbind (z_isJointAction hK hW hR hc hs (nI j)) ?_
  rintro ⟨b, τ⟩ ⟨hg, hb⟩
  dsimp only at hg hb ⊢
  have hbt := hb.mpr ⟨j, rfl, hj⟩
  rw [hbt, if_neg zbIt, z_leastLeaving (hK.g hg (by decide)) hW (hR.g hg (by decide)) hc hs (zpm_lt (of_decide_eq_true hj).1) X]
  exact zP_some ⟨rfl, hg⟩
theorem q_reply_no (H : PI a n v h P m σ) (h0 : 0 < n) : zP (fun u => u.1 = -1 ∧ zag [72] σ u.2) (m_X9_reply σ 0 0 1 0) := by
  obtain ⟨hK, hW, hR, -⟩ := H
  have hn := hW.1
  have h81 := za_81 hK.2.1
  have h2n := z_2n hn
  unfold m_X9_reply
  rw [z_isQuestion hK hR.1, z_hasSet hn hR.1, show zin 0 (2 ^ a) = true from zin_nI (s := 0) (by omega) (by omega), show zin 0 n = true from zin_nI (s := 0) (by omega) h0, show zin 0 (2 ^ n) = true from zin_nI (s := 0) (by omega) (by omega), Bool.and_true, if_neg zbIt, if_neg zbIt]
  refine zbind (z_isJointAction (c := 0) (s := 0) hK hW hR (by omega) h0 1) ?_
  rintro ⟨b, τ⟩ ⟨hg, hb⟩
  dsimp only at hg hb ⊢
  have hbf : b = false := by
    cases b
    · rfl
    · obtain ⟨j, e, hj⟩ := hb.mp rfl
      obtain ⟨h1, h2⟩ := of_decide_eq_true hj
      have hlt := zpm_lt h1
      have : 1 = j := (nI_eq (a := 1) (by decide) (by omega)).mp e
      subst this
      exact absurd (h2 0 hK.1 (b_0 0)) (by decide)
  subst hbf
  rw [if_pos zbIf]
  exact zP_some ⟨rfl, hg⟩
theorem q_forced (H : PI a n v h P m σ) {c s : Nat} (hc : c < 2 ^ a) (hs : s < n) : zP (fun u => u.1 = nI (fb_ct (fun k => zcan v a (nI c) s (nI k)) (2 ^ n)) ∧ zag [72] σ u.2) (m_X9_forced σ (nI c) (nI s)) := by
  obtain ⟨hK, hW, hR, -⟩ := H
  have hn := hW.1
  have h81 := za_81 hK.2.1
  unfold m_X9_forced
  rw [z_isQuestion hK hR.1, zin_nI (by omega) hc, zin_nI (by omega) hs, Bool.and_true, if_neg zbIt]
  refine zbind (z_countForced hK hW hR hc hs) ?_
  rintro ⟨o, τ⟩ ⟨ho, hg⟩
  exact zP_some ⟨ho, hg⟩
theorem q_forced_no (H : PI a n v h P m σ) {x y : Int32} (hb : (zin x (2 ^ a) && zin y n) = false) : m_X9_forced σ x y = some (-1, σ) := by
  obtain ⟨hK, hW, hR, -⟩ := H
  unfold m_X9_forced
  rw [z_isQuestion hK hR.1, hb, if_pos zbIf]
theorem q_formulaOf (H : PI a n v h P m σ) {k : Nat} (hk : k < m) : m_X9_formulaOf σ (nI k) = some (some (25 + 5 * k)) := by
  obtain ⟨-, -, -, -, -, hm, h65⟩ := H
  unfold m_X9_formulaOf
  rw [h65, if_neg (nI_pos (by omega)), if_neg (znle (by omega) (by omega) hk), if_pos (show nI k < 8 from zlt (b := 8) (by omega) (by decide) (by omega)), zck (by decide) (by omega), nI_clamp (by omega)]
theorem q_formulaOf_no (H : PI a n v h P m σ) {x : Int32} (hx : zin x m = false) : m_X9_formulaOf σ x = some none := by
  obtain ⟨-, -, -, -, -, hm, h65⟩ := H
  unfold m_X9_formulaOf
  rw [h65]
  rcases zin_f hx with q | q
  · rw [if_pos q]
  · by_cases w : x < 0
    · rw [if_pos w]
    · rw [if_neg w, if_pos q]
theorem q_parts (H : PI a n v h P m σ) {k len : Nat} {f : zFd} (hk : k < m) (hF : QF a σ k len f) : m_X9_parts σ (nI k) = some (nI len) := by
  unfold m_X9_parts
  rw [q_formulaOf H hk, Option.bind_some, zoFm hF.2.2, hF.2.1.1]
theorem q_where (H : PI a n v h P m σ) {k len p : Nat} {f : zFd} (hk : k < m) (hF : QF a σ k len f) (hp : p < len) : zP (fun u => u.1 = zev v a n f len p ∧ zag [72, 79, 80] σ u.2) (m_X9_where σ (nI k) (nI p)) := by
  obtain ⟨f1, f2, ht⟩ := hF
  have l2 := f1.2.1
  unfold m_X9_where
  rw [q_formulaOf H hk, Option.bind_some, zoFm ht, f2.1, if_neg (nI_pos (by omega)), if_pos (zlt (by omega) (by omega) hp)]
  refine zbind (z_look H.1 H.2.1 H.2.2.1 ht f1 f2) ?_
  rintro τ ⟨hg, hd⟩
  refine zP_some ⟨?_, hg⟩
  unfold m_X3_setOf
  rw [zrA (by decide) (by omega)]
  exact hd p hp
theorem q_where_no (H : PI a n v h P m σ) {x y : Int32} (hx : zin x m = false) : m_X9_where σ x y = some (-1, σ) := by
  unfold m_X9_where
  rw [q_formulaOf_no H hx]
  rfl
theorem q_holds (H : PI a n v h P m σ) {k len s : Nat} {f : zFd} (hk : k < m) (hF : QF a σ k len f) (hs : s < n) : zP (fun u => u.1 = bI (bt (zwh v a n f len) s) ∧ zag [72, 79, 80] σ u.2) (m_X9_holds σ (nI k) (nI s)) := by
  obtain ⟨f1, f2, ht⟩ := hF
  have hn := H.2.1.1
  unfold m_X9_holds
  rw [q_formulaOf H hk, Option.bind_some, zoFm ht, z_hasState H.2.2.1.1, zin_nI (by omega) hs, if_neg zbIt]
  refine zbind (z_whole H.1 H.2.1 H.2.2.1 ht f1 f2) ?_
  rintro ⟨o, τ⟩ ⟨ho, hg⟩
  refine zP_some ⟨?_, hg⟩
  dsimp only at ho ⊢
  rw [ho, zsh1 _ (by omega)]
theorem q_holds_no (H : PI a n v h P m σ) {x y : Int32} (hx : zin x m = false) : m_X9_holds σ x y = some (-1, σ) := by
  unfold m_X9_holds
  rw [q_formulaOf_no H hx]
  rfl
theorem q_rank (H : PI a n v h P m σ) {k len s : Nat} {f : zFd} (hk : k < m) (hF : QF a σ k len f) (hs : s < n) (h79 : f.1 (len - 1) = 7 ∨ f.1 (len - 1) = 9) : zP (fun u => u.1 = zgk v a n f len (-9) s ∧ zag [72, 79, 80] σ u.2) (m_X9_rank σ (nI k) (nI s)) := by
  obtain ⟨f1, f2, ht⟩ := hF
  obtain ⟨hK, hW, hR, -⟩ := id H
  have hn := hW.1
  have l1 := f1.1
  have h13 := (f1.2.2 (len - 1) (by omega)).1
  have hgo : zisg f len = true := decide_eq_true (by omega)
  obtain ⟨h6, h9⟩ := zisg_t hgo
  have hc2 := (f1.2.2 (len - 1) (by omega)).2.2.2.2 h6
  have hnL : ∀ k, 25 ≤ k → k < 65 → k ∉ [72, 79, 80] := fun k h1 h2 h => by simp at h; omega
  have e7 : nI (f.1 (len - 1)) = 7 ↔ f.1 (len - 1) = 7 := nI_eq (b := 7) (by omega) (by decide)
  have e9 : nI (f.1 (len - 1)) = 9 ↔ f.1 (len - 1) = 9 := nI_eq (b := 9) (by omega) (by decide)
  unfold m_X9_rank
  rw [q_formulaOf H hk, Option.bind_some, zoFm ht, z_hasState hR.1, zin_nI (by omega) hs, if_neg zbIt, z_topKind f1 f2]
  have hb : zP (fun u => u.1 = zgk v a n f len (-9) s ∧ zag [72, 79, 80] σ u.2) (m_X9_rank_b44 σ (nI s) (25 + 5 * k)) := by
    unfold m_X9_rank_b44
    refine zbind (z_look hK hW hR ht f1 f2) ?_
    rintro τ ⟨hg, hd⟩
    rw [z_topCoal f1 (f2.g ht hg hnL) h6, show (0 : Int32) = bI false from rfl]
    refine zbind (z_goalSet (hK.g hg (by decide)) hW (hR.g hg (by decide)) f1 (f2.g ht hg hnL) hgo hd hc2 false) ?_
    rintro ⟨o, ρ⟩ ⟨ho, hg', hrk⟩
    dsimp only at ho hg' hrk ⊢
    have hgg : zag [72, 79, 80] σ ρ := hg.tr (hg'.sub (fun k hk => by simp at hk ⊢; omega))
    have hval : m_X3_rankOf ρ (nI s) = zgk v a n f len (-1) s := by
      unfold m_X3_rankOf
      rw [zrA (by decide) (by omega)]
      exact hrk h79 s (by omega)
    rw [hval, show bI false = (0 : Int32) from rfl]
    rcases zgk_two (v := v) (a := a) (n := n) (f := f) (len := len) (s := s) with ⟨r, hr, hd⟩ | hd
    · rw [hd (-1), if_pos (nI_pos' (by omega))]
      exact zP_some ⟨(hd (-9)).symm, hgg⟩
    · rw [hd (-1), if_neg (by decide)]
      exact zP_some ⟨(hd (-9)).symm, hgg⟩
  rcases h79 with q | q
  · rw [if_pos (e7.mpr q)]; exact hb
  · rw [if_neg (fun r => by have := e7.mp r; omega), if_pos (e9.mpr q)]; exact hb
theorem q_rank_no (H : PI a n v h P m σ) {k len s : Nat} {f : zFd} (hk : k < m) (hF : QF a σ k len f) (hs : s < n) (h7 : f.1 (len - 1) ≠ 7) (h9 : f.1 (len - 1) ≠ 9) : m_X9_rank σ (nI k) (nI s) = some (-3, σ) := by
  obtain ⟨f1, f2, ht⟩ := hF
  have hn := H.2.1.1
  have l1 := f1.1
  have h13 := (f1.2.2 (len - 1) (by omega)).1
  unfold m_X9_rank
  rw [q_formulaOf H hk, Option.bind_some, zoFm ht, z_hasState H.2.2.1.1, zin_nI (by omega) hs, if_neg zbIt, z_topKind f1 f2, if_neg (show ¬ nI (f.1 (len - 1)) = 7 from zne (b := 7) (by omega) (by decide) h7), if_neg (show ¬ nI (f.1 (len - 1)) = 9 from zne (b := 9) (by omega) (by decide) h9)]
theorem q_strategy (H : PI a n v h P m σ) {k len s : Nat} {f : zFd} (hk : k < m) (hF : QF a σ k len f) (hgo : zisg f len = true) (hs : s < n) : zP (fun u => u.1 = zst v a n f len s ∧ zag [72, 79, 80, 81] σ u.2) (m_X9_strategy σ (nI k) (nI s)) := by
  obtain ⟨f1, f2, ht⟩ := hF
  obtain ⟨hK, hW, hR, -⟩ := id H
  have hn := hW.1
  have hnL : ∀ k, 25 ≤ k → k < 65 → k ∉ [72, 79, 80, 81] := fun k h1 h2 h => by simp at h; omega
  unfold m_X9_strategy
  rw [q_formulaOf H hk, Option.bind_some, zoFm ht, z_hasState hR.1, z_hasStr f1 f2, zin_nI (by omega) hs, if_neg zbIt, hgo, if_neg zbIt]
  refine zbind (z_prepare hK hW hR ht f1 f2 hgo) ?_
  rintro τ ⟨hg, hp⟩
  refine zbind (z_jointAt (hK.g hg (by decide)) hW (hR.g hg (by decide)) f1 (f2.g ht hg hnL) hgo hp hs) ?_
  rintro ⟨o, ρ⟩ ⟨ho, hg'⟩
  exact zP_some ⟨ho, hg.tr (hg'.sub (fun k hk => by simp at hk ⊢; omega))⟩
theorem q_enforced (H : PI a n v h P m σ) {k len : Nat} {f : zFd} (hk : k < m) (hF : QF a σ k len f) (hgo : zisg f len = true) : zP (fun u => u.1 = zgl v a n f len true (nI (f.2.2.2 (len - 1))) ∧ zag [72, 79, 80] σ u.2) (m_X9_enforced σ (nI k)) := by
  obtain ⟨f1, f2, ht⟩ := hF
  obtain ⟨hK, hW, hR, -⟩ := id H
  have l1 := f1.1
  obtain ⟨h6, h9⟩ := zisg_t hgo
  have hc2 := (f1.2.2 (len - 1) (by omega)).2.2.2.2 h6
  have hnL : ∀ k, 25 ≤ k → k < 65 → k ∉ [72, 79, 80] := fun k h1 h2 h => by simp at h; omega
  unfold m_X9_enforced
  rw [q_formulaOf H hk, Option.bind_some, zoFm ht, z_hasStr f1 f2, hgo, if_neg zbIt]
  refine zbind (z_look hK hW hR ht f1 f2) ?_
  rintro τ ⟨hg, hd⟩
  rw [z_topCoal f1 (f2.g ht hg hnL) h6, show (1 : Int32) = bI true from rfl]
  refine zbind (z_goalSet (hK.g hg (by decide)) hW (hR.g hg (by decide)) f1 (f2.g ht hg hnL) hgo hd hc2 true) ?_
  rintro ⟨o, ρ⟩ ⟨ho, hg', -⟩
  exact zP_some ⟨ho, hg.tr (hg'.sub (fun k hk => by simp at hk ⊢; omega))⟩
theorem q_smallest (H : PI a n v h P m σ) {k len s : Nat} {f : zFd} (hk : k < m) (hF : QF a σ k len f) (hgo : zisg f len = true) (hs : s < n) : zP (fun u => u.1 = zsmF (fun c => bt (zgl v a n f len false (nI c)) s) (2 ^ a) (a + 1) 0 ∧ zag [72, 79, 80] σ u.2) (m_X9_smallest σ (nI k) (nI s)) := by
  obtain ⟨f1, f2, ht⟩ := hF
  obtain ⟨hK, hW, hR, -⟩ := id H
  have hn := hW.1
  unfold m_X9_smallest
  rw [q_formulaOf H hk, Option.bind_some, zoFm ht, z_hasState hR.1, z_hasStr f1 f2, zin_nI (by omega) hs, if_neg zbIt, hgo, if_neg zbIt]
  refine zbind (z_fewest hK hW hR ht f1 f2 hgo hs) ?_
  rintro ⟨o, ρ⟩ ⟨ho, hg⟩
  exact zP_some ⟨ho, hg⟩
theorem q_classes (H : PI a n v h P m σ) : zP (fun u => zag [83, 84, 85, 86] σ u.2 ∧ ∃ K, zDe v a n K ∧ u.1 = nI (zdv v a n K).1) (m_X9_classes σ) := by
  unfold m_X9_classes
  refine zbind (z_divide H.1 H.2.1 H.2.2.1) ?_
  rintro ⟨o, ρ⟩ ⟨hg, K, h1, h2, -⟩
  exact zP_some ⟨hg, K, h1, h2⟩
theorem q_classOf (H : PI a n v h P m σ) {s : Nat} (hs : s < n) : zP (fun u => zag [83, 84, 85, 86] σ u.2 ∧ ∃ K, zDe v a n K ∧ u.1 = nI ((zdv v a n K).2 s)) (m_X9_classOf σ (nI s)) := by
  have hn := H.2.1.1
  unfold m_X9_classOf
  rw [z_hasState H.2.2.1.1, zin_nI (by omega) hs, if_neg zbIt]
  refine zbind (z_divide H.1 H.2.1 H.2.2.1) ?_
  rintro ⟨o, ρ⟩ ⟨hg, K, h1, -, h3⟩
  refine zP_some ⟨hg, K, h1, ?_⟩
  unfold m_X2_classNumber
  rw [zrA (by decide) (by omega)]
  exact h3 s hs
theorem q_classOf_no (H : PI a n v h P m σ) {x : Int32} (hx : zin x n = false) : m_X9_classOf σ x = some (-1, σ) := by
  unfold m_X9_classOf
  rw [z_hasState H.2.2.1.1, hx, if_pos zbIf]
def zfpr (v : Nat → Int32) (a n m : Nat) : Int64 := zmS v a (41 * 31 + (nI n).toInt64) n * 31 + (nI m).toInt64
theorem q_fingerprint (H : PI a n v h P m σ) : m_X9_fingerprint σ = some (zfpr v a n m) := by
  obtain ⟨hK, hW, hR, -, -, -, h65⟩ := H
  unfold m_X9_fingerprint
  rw [z_mix hK hW hR, h65]
  rfl
theorem q_play (H : PI a n v h P m σ) {k len s r : Nat} {f : zFd} (hk : k < m) (hF : QF a σ k len f) (hgo : zisg f len = true) (hs : s < n) (hr : r ≤ 200) {z : Int32} {I : Nat → Prop} (h0 : I s) (hst : ∀ s, s < n → I s → ∀ i, i < 3 ^ a → zcp a (zac v s) (nI (f.2.2.2 (len - 1))) (zpj v (nI (f.2.2.2 (len - 1))) s a) i = true → I (znx v s i)) : zP (fun o => ∃ s, s < n ∧ I s ∧ o = nI s) (m_X9_play σ (nI k) (nI s) (nI r) z) := by
  obtain ⟨f1, f2, ht⟩ := hF
  obtain ⟨hK, hW, hR, -⟩ := id H
  have hn := hW.1
  have h81 := za_81 hK.2.1
  have l1 := f1.1
  obtain ⟨h6, h9⟩ := zisg_t hgo
  have hc2 := (f1.2.2 (len - 1) (by omega)).2.2.2.2 h6
  unfold m_X9_play
  rw [q_formulaOf H hk, Option.bind_some, zoFm ht, z_hasState hR.1, zin_nI (by omega) hs, if_neg zbIt, if_neg (nI_pos (by omega)), if_pos (show nI r ≤ 200 from zle (b := 200) (by omega) (by decide) hr), z_hasStr f1 f2, hgo, if_neg zbIt, z_topCoal f1 f2 h6]
  have key : zP (fun o => ∃ s, s < n ∧ I s ∧ o = nI s) (m_X8_run σ (nI (f.2.2.2 (len - 1))) (nI s) (nI r) z) := by
    unfold m_X8_run
    obtain ⟨d, hd, ed⟩ := zseed z
    refine zl (P := zP _) (fun i q => q.2.2 = nI i ∧ (∃ d, d < 2 ^ 31 ∧ q.2.1 = nI d) ∧ ∃ s, s < n ∧ I s ∧ q.1 = nI s) r (by omega) ⟨nI_0.symm, ⟨d, hd, ed⟩, s, hs, h0, rfl⟩ ?_
    rintro k2 i ⟨x, y, w⟩ hi ⟨hw, ⟨d, hd, hy⟩, s, hs, hI, hx⟩ hk2
    dsimp only at hw hy hx ⊢
    subst hw hy hx
    unfold m_X8_run_b13
    rcases Nat.lt_or_ge i r with q | q
    · rw [if_neg (znle (by omega) (by omega) q)]
      refine zbind (z_follow hK hW hR hc2 hs hd) ?_
      rintro o ⟨j, hj, hp, -, rfl⟩
      obtain ⟨d', hd', ed'⟩ := zseed (nI d)
      rw [nI_1]
      exact hk2 q _ ⟨rfl, ⟨d', hd', ed'⟩, znx v s j, (hW.nx hs (show j < 81 by omega)).2, hst s hs hI j hj hp, rfl⟩
    · rw [if_pos (zle (by omega) (by omega) q)]
      exact zP_some ⟨s, hs, hI, rfl⟩
  exact zbind key (fun o ho => zP_some ho)
end QA
