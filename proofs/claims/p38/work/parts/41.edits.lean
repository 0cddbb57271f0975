/-! EDITS: what they answer, the row behind them -/
def eL : List Nat := List.range 25 ++ [67, 72, 79, 80, 81]
theorem eL_F : ∀ k, 25 ≤ k → k < 65 → k ∉ eL := fun k h1 h2 q => by
  have := (by decide : ∀ k ∈ eL, k < 25 ∨ 67 ≤ k) k q
  omega
section ED
variable {a n h m : Nat} {v : Nat → Int32} {P : Nat → Nat → Int32} {σ : St}
theorem ed_start (H : PI a n v h P m σ) : ∃ τ, m_X1_keep σ = some τ ∧ zag zkc σ τ ∧ zHc a τ (zpush P h v) (zh1 h) ∧ zK a τ ∧ zRS a n v τ 0 := by
  obtain ⟨hK, hW, hR, hh, hH, -⟩ := H
  obtain ⟨τ, e, hg, h2⟩ := z_keep hK.2.1 hh hH hW hR
  exact ⟨τ, e, hg, h2, hK.g hg (by decide), hR.g hg (by decide)⟩
theorem ed_end (H : PI a n v h P m σ) {τ σ1 : St} (hg : zag zkc σ τ) (hH : zHc a τ (zpush P h v) (zh1 h)) {L : List Nat} (hg1 : zag L τ σ1) (hL : ∀ k, k ∈ L → k ∈ [0, 1, 2, 3, 4, 72, 79, 80, 81]) (hf : σ1 0 0 = τ 0 0 ∧ σ1 0 1 = τ 0 1 ∧ σ1 0 2 = τ 0 2) {n' : Nat} {w : Nat → Int32} (hW : zWF a n' w) (hR : zRS a n' w σ1 0) : PI a n' w (zh1 h) (zpush P h v) m σ1 ∧ zag eL σ σ1 := by
  obtain ⟨hK, -, -, hh, -, hm, h65⟩ := H
  have hg1 := hg1.sub hL
  have oo : ∀ k, k ∉ zkc → k ∉ [0, 1, 2, 3, 4, 72, 79, 80, 81] → σ1 k = σ k := fun k h1 h2 => (hg1 k h2).trans (hg k h1)
  have e0 : τ 0 = σ 0 := hg 0 (by decide)
  refine ⟨⟨?_, hW, hR, zh1_le hh, hH.ag (fun k hk => hg1 k (fun q => by simp at q; omega)), hm, by rw [oo 65 (by decide) (by decide)]; exact h65⟩, fun k hk => oo k (fun q => hk ((by decide : ∀ k ∈ zkc, k ∈ eL) k q)) (fun q => hk ((by decide : ∀ k ∈ [0, 1, 2, 3, 4, 72, 79, 80, 81], k ∈ eL) k q))⟩
  unfold zK at hK ⊢
  rw [hf.1, hf.2.1, hf.2.2, e0, oo 70 (by decide) (by decide), oo 71 (by decide) (by decide), oo 73 (by decide) (by decide), oo 87 (by decide) (by decide)]
  exact hK
theorem q_setActions (H : PI a n v h P m σ) {s i q : Nat} (hs : s < n) (hi : i < a) (hq1 : 1 ≤ q) (hq3 : q ≤ 3) {w : Nat → Int32} (hw : ∀ k, w k = if 100 * s + 10 ≤ k ∧ k < 100 * s + 91 then nI s else if k = 100 * s + 1 + i then nI q else v k) : zP (fun u => u.1 = v (100 * s + 1 + i) ∧ PI a n w (zh1 h) (zpush P h v) m u.2 ∧ zag eL σ u.2) (m_X9_setActions σ (nI s) (nI i) (nI q)) := by
  obtain ⟨hK, hW, hR, -⟩ := id H
  have hn := hW.1
  have ha := hK.2.1
  have h81 := za_81 ha
  obtain ⟨τ, ek, hg, hH, hKτ, hRτ⟩ := ed_start H
  unfold m_X9_setActions
  rw [z_hasPlace hR.1 hK.2.2.1, zin_nI (by omega) hs, zin_nI (by omega) hi, Bool.and_true, if_neg zbIt, if_neg (show ¬ nI q < 1 from znlt (b := 1) (by omega) (by decide) hq1), if_pos (show nI q ≤ 3 from zle (b := 3) (by omega) (by decide) hq3), ek, Option.bind_some]
  unfold m_X7_setActionCount
  rw [z_actionCount ha hn hRτ hs hi, z_ix4, zrP (by decide) (by omega)]
  have hwA : ∀ s' i', s' < n → i' < a → w (100 * s' + 1 + i') = if s' = s ∧ i' = i then nI q else v (100 * s' + 1 + i') := fun s' i' h1 h2 => by
    rw [hw, if_neg (by omega)]
    by_cases e : s' = s ∧ i' = i
    · rw [if_pos e, if_pos (by omega)]
    · rw [if_neg e, if_neg (by omega)]
  have hwW : zWF a n w := by
    refine ⟨hn, by rw [hw, if_neg (by omega), if_neg (by omega)]; exact hW.2.1, fun s' hs' => ⟨fun i' hi' => ?_, fun i' hi' => ?_, fun m hm => ?_⟩⟩
    · rw [hwA s' i' hs' hi']
      split
      · exact ⟨q, hq1, hq3, rfl⟩
      · exact (hW.2.2 s' hs').1 i' hi'
    · rw [hw, if_neg (by omega), if_neg (by omega)]
      exact (hW.2.2 s' hs').2.1 i' hi'
    · rw [hw]
      by_cases e : s' = s
      · rw [if_pos (by omega)]; exact ⟨s, hs, rfl⟩
      · rw [if_neg (by omega), if_neg (by omega)]
        exact (hW.2.2 s' hs').2.2 m hm
  have hac : ∀ s' i', s' < n → i' < a → zac w s' i' = if s' = s ∧ i' = i then q else zac v s' i' := fun s' i' h1 h2 => by
    unfold zac
    rw [hwA s' i' h1 h2]
    split
    · exact nI_clamp (by omega)
    · rfl
  obtain ⟨σ1, e1, hg1, hl1, hl2⟩ := z_leadBack (σ := up τ 2 (s * 4 + i) (nI q)) (A := zac w s) ha hn (by rw [zup_n (by decide)]; exact hKτ.2.2.1) (by rw [zup_n (by decide)]; exact hKτ.2.2.2.2.1) hs (fun i' hi' => by
    rw [zup_v, hac s i' hs hi']
    by_cases e : i' = i
    · subst e
      rw [if_pos ⟨rfl, rfl⟩, if_pos ⟨rfl, rfl⟩]
      exact ⟨rfl, hq3⟩
    · rw [if_neg (fun r => e (by omega)), if_neg (fun r => e r.2), hRτ.2.2.1 s i' hs hi']
      exact ⟨(hW.ac hs hi').1, (hW.ac hs hi').2.2⟩)
  have hg01 : zag [0, 1, 2, 3, 4] τ σ1 := (zag.rf.up (by simp)).tr (hg1.sub (fun k hk => by simp at hk ⊢; omega))
  have c0 : σ1 0 = τ 0 := by rw [hg1 0 (by decide), zup_n (by decide)]
  have c1 : σ1 1 = τ 1 := by rw [hg1 1 (by decide), zup_n (by decide)]
  have c2 : σ1 2 = upd (τ 2) (s * 4 + i) (nI q) := by rw [hg1 2 (by decide), zup_s]
  have c3 : σ1 3 = τ 3 := by rw [hg1 3 (by decide), zup_n (by decide)]
  have hR1 : zRS a n w σ1 0 := by
    refine ⟨by rw [c0]; exact hRτ.1, fun s' hs' => ?_, fun s' i' hs' hi' => ?_, fun s' i' hs' hi' => ?_, fun s' m hs' hm => ?_⟩
    · rw [show (0 : Nat) + 1 = 1 from rfl, c1, hw, if_neg (by omega), if_neg (by omega)]
      exact hRτ.2.1 s' hs'
    · rw [show (0 : Nat) + 2 = 2 from rfl, c2, hwA s' i' hs' hi']
      by_cases e : s' = s ∧ i' = i
      · obtain ⟨rfl, rfl⟩ := e
        rw [pk_us, if_pos ⟨rfl, rfl⟩]
      · rw [pk_un (by omega), if_neg e]
        exact hRτ.2.2.1 s' i' hs' hi'
    · rw [show (0 : Nat) + 3 = 3 from rfl, c3, hw, if_neg (by omega), if_neg (by omega)]
      exact hRτ.2.2.2.1 s' i' hs' hi'
    · rw [show (0 : Nat) + 4 = 4 from rfl]
      by_cases e : s' = s
      · subst e
        have e2 : w (100 * s' + 10 + m) = nI s' := by rw [hw, if_pos (by omega)]
        rw [hl1 m hm, e2]
      · have e2 : w (100 * s' + 10 + m) = v (100 * s' + 10 + m) := by rw [hw, if_neg (by omega), if_neg (by omega)]
        rw [hl2 _ (fun m' hm' => by omega), zup_n (by decide), e2, zpm_ext (fun i' hi' => show zac w s' i' = zac v s' i' by rw [hac s' i' hs' hi', if_neg (fun r => e r.1)])]
        exact hRτ.2.2.2.2 s' m hs' hm
  rw [e1]
  exact zP_some ⟨rfl, ed_end H hg hH hg01 (fun k hk => by simp at hk ⊢; omega) (by rw [c0]; exact ⟨rfl, rfl, rfl⟩) hwW hR1⟩
/-- an edit of one number of the row -/
theorem q_label (H : PI a n v h P m σ) {s l : Nat} (hs : s < n) (hl : l < 26) (z : Int32) {y : Int32} (hy : y = nI (97 + l)) {x : Int32} (hx : x = if z = 0 then v (100 * s) &&& (zbit l ^^^ (-1)) else v (100 * s) ||| zbit l) : zP (fun u => u.1 = bI (bt (v (100 * s)) l) ∧ PI a n (upd v (100 * s) x) (zh1 h) (zpush P h v) m u.2 ∧ zag eL σ u.2) (m_X9_label σ (nI s) y z) := by
  obtain ⟨hK, hW, hR, -⟩ := id H
  have hn := hW.1
  have ha := hK.2.1
  have h81 := za_81 ha
  obtain ⟨τ, ek, hg, hH, hKτ, hRτ⟩ := ed_start H
  subst hy
  unfold m_X9_label
  rw [z_hasState hR.1, zin_nI (by omega) hs, if_neg zbIt, if_neg (show ¬ nI (97 + l) < 97 from znlt (b := 97) (by omega) (by decide) (by omega)), if_pos (show nI (97 + l) ≤ 122 from zle (b := 122) (by omega) (by decide) (by omega)), ek, Option.bind_some, z_labelSet hn hRτ hs, show nI (97 + l) - 97 = nI l from (pk_sub (a := 97 + l) (b := 97) (by omega)).trans (by rw [Nat.add_sub_cancel_left])]
  have hac : ∀ w : Int32, ∀ s' i', s' < n → i' < a → zac (upd v (100 * s) w) s' i' = zac v s' i' := fun w s' i' _ _ => zac_ext (pk_un (by omega))
  have key : ∀ w : Int32, PI a n (upd v (100 * s) w) (zh1 h) (zpush P h v) m (up τ 1 s w) ∧ zag eL σ (up τ 1 s w) := by
    intro w
    refine ed_end H hg hH (L := [1]) (zag.rf.up (by simp)) (fun k hk => by simp at hk ⊢; omega) ?_ ?_ ?_
    · rw [zup_n (by decide)]; exact ⟨rfl, rfl, rfl⟩
    · refine ⟨hn, by rw [pk_un (by omega)]; exact hW.2.1, fun s' hs' => ⟨fun i' hi' => ?_, fun i' hi' => ?_, fun m hm => ?_⟩⟩
      · rw [pk_un (by omega)]; exact (hW.2.2 s' hs').1 i' hi'
      · rw [pk_un (by omega)]; exact (hW.2.2 s' hs').2.1 i' hi'
      · rw [pk_un (by omega)]; exact (hW.2.2 s' hs').2.2 m hm
    · refine ⟨by rw [zup_n (by decide)]; exact hRτ.1, fun s' hs' => ?_, fun s' i' hs' hi' => ?_, fun s' i' hs' hi' => ?_, fun s' m hs' hm => ?_⟩
      · rw [show (0 : Nat) + 1 = 1 from rfl, zup_s]
        by_cases e : s' = s
        · subst e; rw [pk_us, pk_us]
        · rw [pk_un e, pk_un (by omega)]; exact hRτ.2.1 s' hs'
      · rw [zup_n (by decide), pk_un (by omega)]; exact hRτ.2.2.1 s' i' hs' hi'
      · rw [zup_n (by decide), pk_un (by omega)]; exact hRτ.2.2.2.1 s' i' hs' hi'
      · rw [zup_n (by decide), pk_un (by omega), zpm_ext (fun i' hi' => hac w s' i' hs' hi')]; exact hRτ.2.2.2.2 s' m hs' hm
  have hb : (v (100 * s) &&& zbit l) = 0 ↔ bt (v (100 * s)) l = false := by
    constructor
    · intro e
      have := congrArg (fun x => bt x l) e
      simp only [b_and, b_0, zbit_bt (show l < 32 by omega) (show l < 32 by omega), decide_true, Bool.and_true] at this
      exact this
    · intro e
      apply b_ext
      intro i hi
      rw [b_and, b_0, zbit_bt (by omega) hi]
      by_cases q : i = l
      · subst q; rw [e]; rfl
      · rw [decide_eq_false q, Bool.and_false]
  have fin : ∀ w : Int32, zP (fun u => u.1 = bI (bt (v (100 * s)) l) ∧ PI a n (upd v (100 * s) w) (zh1 h) (zpush P h v) m u.2 ∧ zag eL σ u.2) (m_X9_label_b78 τ (zbit l) (v (100 * s)) w (nI s)) := by
    intro w
    unfold m_X9_label_b78 m_X7_setLabelSet
    rw [zrP (by decide) (by omega)]
    by_cases q : (v (100 * s) &&& zbit l) = 0
    · rw [if_pos q]
      exact zP_some ⟨by rw [hb.mp q]; rfl, key w⟩
    · rw [if_neg q]
      exact zP_some ⟨by
        cases e : bt (v (100 * s)) l
        · exact absurd (hb.mpr e) q
        · rfl, key w⟩
  have e1 : (1 : Int32) <<< (nI l &&& 31) = zbit l := rfl
  rw [e1]
  by_cases hz : z = 0
  · rw [if_pos hz] at hx ⊢
    subst hx
    exact fin _
  · rw [if_neg hz] at hx ⊢
    subst hx
    exact fin _
theorem q_plan (H : PI a n v h P m σ) {s i q : Nat} (hs : s < n) (hi : i < a) (hq3 : q < 3) : zP (fun u => u.1 = v (100 * s + 5 + i) ∧ PI a n (upd v (100 * s + 5 + i) (nI q)) (zh1 h) (zpush P h v) m u.2 ∧ zag eL σ u.2) (m_X9_plan σ (nI s) (nI i) (nI q)) := by
  obtain ⟨hK, hW, hR, -⟩ := id H
  have hn := hW.1
  have ha := hK.2.1
  have h81 := za_81 ha
  obtain ⟨τ, ek, hg, hH, hKτ, hRτ⟩ := ed_start H
  unfold m_X9_plan
  rw [z_hasPlace hR.1 hK.2.2.1, zin_nI (by omega) hs, zin_nI (by omega) hi, Bool.and_true, if_neg zbIt, if_neg (nI_pos (by omega)), if_pos (show nI q < 3 from zlt (b := 3) (by omega) (by decide) hq3), ek, Option.bind_some]
  unfold m_X7_setPlannedAction
  rw [z_plannedAction ha hn hRτ hs hi, z_ix4, zrP (by decide) (by omega)]
  have hac : ∀ s' i', s' < n → i' < a → zac (upd v (100 * s + 5 + i) (nI q)) s' i' = zac v s' i' := fun s' i' _ _ => zac_ext (pk_un (by omega))
  refine zP_some ⟨rfl, ed_end H hg hH (L := [3]) (zag.rf.up (by simp)) (fun k hk => by simp at hk ⊢; omega) ?_ ?_ ?_⟩
  · rw [zup_n (by decide)]; exact ⟨rfl, rfl, rfl⟩
  · refine ⟨hn, by rw [pk_un (by omega)]; exact hW.2.1, fun s' hs' => ⟨fun i' hi' => ?_, fun i' hi' => ?_, fun m hm => ?_⟩⟩
    · rw [pk_un (by omega)]; exact (hW.2.2 s' hs').1 i' hi'
    · by_cases e : s' = s ∧ i' = i
      · obtain ⟨rfl, rfl⟩ := e
        rw [pk_us]; exact ⟨q, by omega, rfl⟩
      · rw [pk_un (by omega)]; exact (hW.2.2 s' hs').2.1 i' hi'
    · rw [pk_un (by omega)]; exact (hW.2.2 s' hs').2.2 m hm
  · refine ⟨by rw [zup_n (by decide)]; exact hRτ.1, fun s' hs' => ?_, fun s' i' hs' hi' => ?_, fun s' i' hs' hi' => ?_, fun s' m hs' hm => ?_⟩
    · rw [zup_n (by decide), pk_un (by omega)]; exact hRτ.2.1 s' hs'
    · rw [zup_n (by decide), pk_un (by omega)]; exact hRτ.2.2.1 s' i' hs' hi'
    · rw [show (0 : Nat) + 3 = 3 from rfl, zup_s]
      by_cases e : s' = s ∧ i' = i
      · obtain ⟨rfl, rfl⟩ := e
        rw [pk_us, pk_us]
      · rw [pk_un (by omega), pk_un (by omega)]; exact hRτ.2.2.2.1 s' i' hs' hi'
    · rw [zup_n (by decide), pk_un (by omega), zpm_ext (fun i' hi' => hac s' i' hs' hi')]; exact hRτ.2.2.2.2 s' m hs' hm
theorem q_setMove (H : PI a n v h P m σ) {s k q : Nat} (hs : s < n) (hk : zpm a (zac v s) k = true) (hq : q < n) : zP (fun u => u.1 = nI (znx v s k) ∧ PI a n (upd v (100 * s + 10 + k) (nI q)) (zh1 h) (zpush P h v) m u.2 ∧ zag eL σ u.2) (m_X9_setMove σ (nI s) (nI k) (nI q)) := by
  obtain ⟨hK, hW, hR, -⟩ := id H
  have hn := hW.1
  have ha := hK.2.1
  have h81 := za_81 ha
  have hm3 := zpm_lt hk
  obtain ⟨τ, ek, hg, hH, hKτ, hRτ⟩ := ed_start H
  obtain ⟨hx1, hx2⟩ := hW.nx hs (show k < 81 by omega)
  have e2 : m_X7_target σ (nI s) (nI k) = nI (znx v s k) := by
    rw [z_target ha hn hK.2.2.2.2.1 hR hs hm3, if_pos hk, hx1]
  unfold m_X9_setMove
  rw [e2, if_neg (nI_pos (by omega)), z_hasState hR.1, zin_nI (by omega) hq, if_neg zbIt, ek, Option.bind_some]
  unfold m_X7_setTarget
  rw [z_ix81, zrP (by decide) (by omega)]
  have hac : ∀ s' i', s' < n → i' < a → zac (upd v (100 * s + 10 + k) (nI q)) s' i' = zac v s' i' := fun s' i' _ _ => zac_ext (pk_un (by omega))
  refine zP_some ⟨rfl, ed_end H hg hH (L := [4]) (zag.rf.up (by simp)) (fun k hk => by simp at hk ⊢; omega) ?_ ?_ ?_⟩
  · rw [zup_n (by decide)]; exact ⟨rfl, rfl, rfl⟩
  · refine ⟨hn, by rw [pk_un (by omega)]; exact hW.2.1, fun s' hs' => ⟨fun i' hi' => ?_, fun i' hi' => ?_, fun m' hm' => ?_⟩⟩
    · rw [pk_un (by omega)]; exact (hW.2.2 s' hs').1 i' hi'
    · rw [pk_un (by omega)]; exact (hW.2.2 s' hs').2.1 i' hi'
    · by_cases e : s' = s ∧ m' = k
      · obtain ⟨rfl, rfl⟩ := e
        rw [pk_us]; exact ⟨q, hq, rfl⟩
      · rw [pk_un (by omega)]; exact (hW.2.2 s' hs').2.2 m' hm'
  · refine ⟨by rw [zup_n (by decide)]; exact hRτ.1, fun s' hs' => ?_, fun s' i' hs' hi' => ?_, fun s' i' hs' hi' => ?_, fun s' m' hs' hm' => ?_⟩
    · rw [zup_n (by decide), pk_un (by omega)]; exact hRτ.2.1 s' hs'
    · rw [zup_n (by decide), pk_un (by omega)]; exact hRτ.2.2.1 s' i' hs' hi'
    · rw [zup_n (by decide), pk_un (by omega)]; exact hRτ.2.2.2.1 s' i' hs' hi'
    · rw [show (0 : Nat) + 4 = 4 from rfl, zup_s, zpm_ext (fun i' hi' => hac s' i' hs' hi')]
      by_cases e : s' = s ∧ m' = k
      · obtain ⟨rfl, rfl⟩ := e
        rw [pk_us, pk_us, if_pos hk]
      · rw [pk_un (by omega), pk_un (by omega)]; exact hRτ.2.2.2.2 s' m' hs' hm'
theorem q_setAll (H : PI a n v h P m σ) {s i c q : Nat} (hs : s < n) (hi : i < a) (hc : c < zac v s i) (hq : q < n) : zP (fun u => (∃ r, r ≤ 81 ∧ u.1 = nI r) ∧ (∃ w, PI a n w (zh1 h) (zpush P h v) m u.2 ∧ ∀ s', s' < n → w (100 * s') = v (100 * s')) ∧ zag eL σ u.2) (m_X9_setAll σ (nI s) (nI i) (nI c) (nI q)) := by
  obtain ⟨hK, hW, hR, -⟩ := id H
  have hn := hW.1
  have ha := hK.2.1
  have h81 := za_81 ha
  obtain ⟨τ, ek, hg, hH, hKτ, hRτ⟩ := ed_start H
  obtain ⟨ac1, ac2, ac3⟩ := hW.ac hs hi
  unfold m_X9_setAll
  rw [z_hasPlace hR.1 hK.2.2.1, z_hasState hR.1, zin_nI (by omega) hs, zin_nI (by omega) hi, zin_nI (by omega) hq, Bool.and_true, if_neg zbIt, if_neg zbIt, z_actionCount ha hn hR hs hi, ac1, if_neg (nI_pos (by omega)), if_pos (zlt (by omega) (by omega) hc), ek, Option.bind_some]
  obtain ⟨⟨o, σ1⟩, e1, ho, hg1, hd1, hd2⟩ := z_redirect hKτ hW hRτ hs hi (show c < 3 by omega) hq
  dsimp only at ho hg1 hd1 hd2
  have c0 : σ1 0 = τ 0 := hg1 0 (by decide)
  obtain ⟨w, hw⟩ : ∃ w : Nat → Int32, ∀ k, w k = if 100 * s + 10 ≤ k ∧ k < 100 * s + 91 ∧ zpm a (zac v s) (k - (100 * s + 10)) = true ∧ zdg (k - (100 * s + 10)) i = c then nI q else v k := ⟨_, fun _ => rfl⟩
  have hac : ∀ s' i', s' < n → i' < a → zac w s' i' = zac v s' i' := fun s' i' _ _ => zac_ext (by rw [hw, if_neg (by omega)])
  rw [e1]
  have fin : PI a n w (zh1 h) (zpush P h v) m σ1 ∧ zag eL σ σ1 := by
    refine ed_end H hg hH hg1 (fun k hk => by simp at hk ⊢; omega) (by rw [c0]; exact ⟨rfl, rfl, rfl⟩) ?_ ?_
    · refine ⟨hn, by rw [hw, if_neg (by omega)]; exact hW.2.1, fun s' hs' => ⟨fun i' hi' => by rw [hw, if_neg (by omega)]; exact (hW.2.2 s' hs').1 i' hi', fun i' hi' => by rw [hw, if_neg (by omega)]; exact (hW.2.2 s' hs').2.1 i' hi', fun m' hm' => ?_⟩⟩
      rw [hw]
      split
      · exact ⟨q, hq, rfl⟩
      · exact (hW.2.2 s' hs').2.2 m' hm'
    · refine ⟨by rw [c0]; exact hRτ.1, fun s' hs' => ?_, fun s' i' hs' hi' => ?_, fun s' i' hs' hi' => ?_, fun s' m hs' hm => ?_⟩
      · rw [hg1 (0 + 1) (by decide), hw, if_neg (by omega)]; exact hRτ.2.1 s' hs'
      · rw [hg1 (0 + 2) (by decide), hw, if_neg (by omega)]; exact hRτ.2.2.1 s' i' hs' hi'
      · rw [hg1 (0 + 3) (by decide), hw, if_neg (by omega)]; exact hRτ.2.2.2.1 s' i' hs' hi'
      · rw [show (0 : Nat) + 4 = 4 from rfl, zpm_ext (fun i' hi' => hac s' i' hs' hi')]
        by_cases e : s' = s
        · subst e
          rw [hd1 m hm]
          by_cases hp : zpm a (zac v s') m = true
          · rw [if_pos hp, if_pos hp, hw, show 100 * s' + 10 + m - (100 * s' + 10) = m by omega]
            by_cases e2 : zdg m i = c
            · rw [if_pos e2, if_pos ⟨by omega, by omega, hp, e2⟩]
            · rw [if_neg e2, if_neg (fun r => e2 r.2.2.2)]
          · rw [if_neg hp, if_neg hp]
        · have e2 : w (100 * s' + 10 + m) = v (100 * s' + 10 + m) := by rw [hw, if_neg (by omega)]
          rw [hd2 _ (fun m' hm' => by omega), e2]
          exact hRτ.2.2.2.2 s' m hs' hm
  exact zP_some ⟨⟨_, Nat.le_trans (fb_ct_le _ _) h81.1, ho⟩, ⟨w, fin.1, fun s' hs' => by rw [hw, if_neg (by omega)]⟩, fin.2⟩
theorem q_adopt (H : PI a n v h P m σ) {k len : Nat} {f : zFd} (hk : k < m) (hF : QF a σ k len f) (hgo : zisg f len = true) {J : Nat → Nat} (hJ : ∀ s, s < n → zst v a n f len s = nI (J s) ∧ J s < 3 ^ a) : zP (fun u => (∃ r, r ≤ 48 ∧ u.1 = nI r) ∧ PI a n (zpw v a (nI (f.2.2.2 (len - 1))) J n 0) (zh1 h) (zpush P h v) m u.2 ∧ zag eL σ u.2) (m_X9_adopt σ (nI k)) := by
  obtain ⟨f1, f2, ht⟩ := hF
  obtain ⟨hK, hW, hR, -⟩ := id H
  have hn := hW.1
  have ha := hK.2.1
  have hnk : ∀ k, 25 ≤ k → k < 65 → k ∉ zkc := fun k h1 h2 => zkc_out (Or.inr ⟨h1, by omega⟩)
  have hnp : ∀ k, 25 ≤ k → k < 65 → k ∉ [72, 79, 80, 81] := fun k h1 h2 h => by simp at h; omega
  obtain ⟨τ, ek, hg, hH, hKτ, hRτ⟩ := ed_start H
  unfold m_X9_adopt
  rw [q_formulaOf H hk, Option.bind_some, zoFm ht, z_hasStr f1 f2, hgo, if_neg zbIt, ek, Option.bind_some]
  refine zbind (z_prepare hKτ hW hRτ ht f1 (f2.g ht hg hnk) hgo) ?_
  rintro τ2 ⟨hg2, hp2⟩
  refine zbind (z_followA (hKτ.g hg2 (by decide)) hW (hRτ.g hg2 (by decide)) ht f1 ((f2.g ht hg hnk).g ht hg2 hnp) hgo hp2 hJ) ?_
  rintro ⟨o, σ1⟩ ⟨ho, hg3, hR1⟩
  dsimp only at ho hg3 hR1 ⊢
  have hgA : zag [3, 72, 79, 80, 81] τ σ1 := (hg2.sub (fun k hk => by simp at hk ⊢; omega)).tr (hg3.sub (fun k hk => by simp at hk ⊢; omega))
  have e0 : σ1 0 = τ 0 := hgA 0 (by decide)
  have hz := zcc_le (v := v) (a := a) (C := nI (f.2.2.2 (len - 1))) (J := J) n
  exact zP_some ⟨⟨_, Nat.le_trans hz (Nat.le_trans (Nat.mul_le_mul hn ha) (by decide)), ho⟩, ed_end H hg hH hgA (fun k hk => by simp at hk ⊢; omega) (by rw [e0]; exact ⟨rfl, rfl, rfl⟩) (zpw_WF ha hW) hR1⟩
theorem q_undo0 (H : PI a n v 0 P m σ) : m_X9_undo σ = some (-9, σ) := by
  obtain ⟨-, -, -, -, ⟨o, ho, hc2, hc1, hcr⟩, -⟩ := H
  unfold m_X9_undo m_X1_restore
  rw [hc2, if_pos (by decide)]
  rfl
theorem q_undo (H : PI a n v h P m σ) (h0 : 0 < h) : zP (fun u => u.1 = nI (h - 1) ∧ (∃ n', PI a n' (P (h - 1)) (h - 1) P m u.2) ∧ zag eL σ u.2) (m_X9_undo σ) := by
  obtain ⟨hK, hW, hR, hh, ⟨o, ho, hc2, hc1, hcr⟩, hm8, h65⟩ := id H
  have ha := hK.2.1
  unfold m_X9_undo m_X1_restore
  rw [hc2, if_neg (show ¬ nI h ≤ 0 from znle (b := 0) (by omega) (by decide) h0), show nI h - 1 = nI (h - 1) from pk_sub (b := 1) (by omega), z_slotAt hc1 ho (by omega), Option.bind_some]
  have hm : (o + (h - 1)) % 4 < 4 := Nat.mod_lt _ (by decide)
  have hs : isS (5 + 5 * ((o + (h - 1)) % 4)) = true := (by decide : ∀ i, i < 4 → isS (5 + 5 * i) = true) _ hm
  obtain ⟨n', hWm, hRm⟩ := hcr (h - 1) (by omega)
  have ex : 5 + 5 * ((o + (h - 1)) % 4) = 5 * ((o + (h - 1)) % 4 + 1) := by omega
  have hcp := (show zRS a n' (P (h - 1)) σ (5 * ((o + (h - 1)) % 4 + 1)) by rw [← ex]; exact hRm).copy (x := 0) ha hWm.1 (by omega)
  obtain ⟨cg, c7, cj, -⟩ := z_copyFrom (σ := σ) (x := 0) (y := (o + (h - 1)) % 4 + 1) (by omega)
  have eq : m_X1_restore_b21 σ (some (5 + 5 * ((o + (h - 1)) % 4))) = some (true, up (m_X7_copyFrom σ (5 * 0) (5 * ((o + (h - 1)) % 4 + 1))) 67 2 (m_X7_copyFrom σ (5 * 0) (5 * ((o + (h - 1)) % 4 + 1)) 67 2 - 1)) := by
    unfold m_X1_restore_b21
    show (if isS (5 + 5 * ((o + (h - 1)) % 4)) then some _ else none) = _
    rw [if_pos hs, ex]
  rw [eq, Option.bind_some]
  clear eq
  generalize m_X7_copyFrom σ (5 * 0) (5 * ((o + (h - 1)) % 4 + 1)) = ρ at hcp cg c7 cj
  have e67 : ρ 67 = σ 67 := cg 67 (by decide)
  dsimp only
  rw [if_neg zbIt, zup_ss, e67, hc2, show nI h - 1 = nI (h - 1) from pk_sub (b := 1) (by omega)]
  have ou : ∀ k, 5 ≤ k → k ≠ 67 → up ρ 67 2 (nI (h - 1)) k = σ k := fun k h1 h2 => by
    rw [zup_n h2]
    exact cg k (fun q => by simp at q; omega)
  have hH1 : zHc a (up ρ 67 2 (nI (h - 1))) P (h - 1) := by
    refine ⟨o, ho, zup_ss _ _ _ _, by rw [zup_sn (by decide), e67]; exact hc1, fun k hk => ?_⟩
    obtain ⟨m', hw, hr⟩ := hcr k (by omega)
    have : (o + k) % 4 < 4 := Nat.mod_lt _ (by decide)
    exact ⟨m', hw, hr.ag (by rw [ou _ (by omega) (by omega)]) (ou _ (by omega) (by omega)) (ou _ (by omega) (by omega)) (ou _ (by omega) (by omega)) (ou _ (by omega) (by omega))⟩
  have hR1 : zRS a n' (P (h - 1)) (up ρ 67 2 (nI (h - 1))) 0 := hcp.ag (by rw [zup_n (by decide)]) (zup_n (by decide)) (zup_n (by decide)) (zup_n (by decide)) (zup_n (by decide))
  refine zP_some ⟨rfl, ⟨n', ?_, hWm, hR1, by omega, hH1, hm8, ?_⟩, fun k hk => ?_⟩
  · have z0 : up ρ 67 2 (nI (h - 1)) 0 = ρ 0 := zup_n (by decide)
    have q0 : ρ 0 0 = σ 0 0 := cj 0 (by decide)
    have q1 : ρ 0 1 = σ 0 1 := cj 1 (by decide)
    have q2 : ρ 0 2 = σ 0 2 := cj 2 (by decide)
    unfold zK at hK ⊢
    dsimp only
    rw [z0, q0, q1, q2, ou 70 (by decide) (by decide), ou 71 (by decide) (by decide), ou 73 (by decide) (by decide), ou 87 (by decide) (by decide)]
    exact hK
  · dsimp only
    rw [ou 65 (by decide) (by decide)]; exact h65
  · have h1 : 5 ≤ k := Nat.not_lt.mp fun q => hk ((by decide : ∀ k, k < 5 → k ∈ eL) k q)
    exact ou k h1 (fun q => by subst q; exact hk (by decide))
/-! calls that are refused -/
theorem q_setActions_no (H : PI a n v h P m σ) {x y z : Int32} (hb : (zin x n && zin y a) = false ∨ (¬ z < 1 ∧ ¬ z ≤ 3)) : m_X9_setActions σ x y z = some (-1, σ) := by
  unfold m_X9_setActions
  rw [z_hasPlace H.2.2.1.1 H.1.2.2.1]
  rcases hb with hb | hb
  · rw [hb, if_pos zbIf]
  · cases (zin x n && zin y a)
    · rw [if_pos zbIf]
    · rw [if_neg zbIt, if_neg hb.1, if_neg hb.2]
theorem q_label_no (H : PI a n v h P m σ) {x y z : Int32} (hb : y < 97) : m_X9_label σ x y z = some (-1, σ) := by
  unfold m_X9_label
  rw [z_hasState H.2.2.1.1, if_pos hb]
  exact ite_self _
theorem q_setMove_no (H : PI a n v h P m σ) {x y z : Int32} (hb : zin z n = false ∨ zin y (3 ^ a) = false) : m_X9_setMove σ x y z = some (-1, σ) := by
  unfold m_X9_setMove
  rcases hb with hb | hb
  · rw [z_hasState H.2.2.1.1, hb, if_pos zbIf]
    exact ite_self _
  · rw [z_target_no H.1.2.1 H.1.2.2.2.2.1 H.2.2.1 (Or.inr hb), if_pos (by decide)]
theorem q_setAll_no (H : PI a n v h P m σ) {s i : Nat} (hs : s < n) (hi : i < a) {y : Int32} : m_X9_setAll σ (nI s) (nI i) 3 y = some (-1, σ) := by
  obtain ⟨hK, hW, hR, -⟩ := id H
  have hn := hW.1
  have ha := hK.2.1
  have hc := hW.ac hs hi
  unfold m_X9_setAll
  rw [z_hasPlace hR.1 hK.2.2.1, zin_nI (by omega) hs, zin_nI (by omega) hi, Bool.and_true, if_neg zbIt, z_actionCount ha hn hR hs hi, hc.1, if_neg (show ¬ (3 : Int32) < nI (zac v s i) from znlt (a := 3) (by decide) (by omega) hc.2.2), ite_self, ite_self]
theorem q_plan_no (H : PI a n v h P m σ) {x y : Int32} : m_X9_plan σ x y 3 = some (-1, σ) := by
  unfold m_X9_plan
  rw [if_neg (show ¬ (3 : Int32) < 0 by decide), if_neg (show ¬ (3 : Int32) < 3 by decide), ite_self]
end ED
