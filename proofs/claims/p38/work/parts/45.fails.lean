/-! A STATE MORE; up(); the calls that are refused -/
theorem zin_no {s n : Nat} (h : n ≤ s) (hs : s < 2 ^ 31) : zin (nI s) n = false := decide_eq_false fun q => q.2 (zle (by omega) hs h)
theorem zin_m1 (n : Nat) : zin (-1) n = false := decide_eq_false fun q => q.1 (by decide)
theorem l_up (x : Int32) {q : Nat} (h0 : 0 < q) (hq : q < 2 ^ 31) : ∃ k, k < q ∧ m_L_up x (nI q) = some (nI k) := by
  obtain ⟨k, hk, e⟩ : ∃ k, k < 2 ^ 31 ∧ x &&& 2147483647 = nI k := pk_andE x 31 (by decide)
  refine ⟨k % q, Nat.mod_lt _ h0, ?_⟩
  unfold m_L_up dvz
  rw [if_neg (zne0 hq (by omega)), e, pk_rem hk h0 hq]
theorem lg_cmp_self (x : Int64) : lg_cmp x x = 0 := by
  unfold lg_cmp
  rw [if_neg (Int64.lt_irrefl), if_pos rfl]
/-- a state as it is made -/
def FR (v : Nat → Int32) (s : Nat) : Prop := v (100 * s) = 0 ∧ (∀ i, i < 4 → v (100 * s + 1 + i) = nI 1) ∧ ∀ m, m < 81 → v (100 * s + 10 + m) = nI s
section LA
variable {a n h m : Nat} {v : Nat → Int32} {P : Nat → Nat → Int32} {σ : St}
theorem q_addState (H : PI a n v h P m σ) (hn12 : n < 12) : zP (fun u => u.1 = nI n ∧ (∃ w, PI a (n + 1) w (zh1 h) (zpush P h v) m u.2 ∧ FR w n ∧ ∀ k, k < 100 * n → w k = v k) ∧ zag eL σ u.2) (m_X9_addState σ) := by
  obtain ⟨hK, hW, hR, -⟩ := id H
  have hn := hW.1
  have ha := hK.2.1
  have h81 := za_81 ha
  obtain ⟨τ, ek, hg, hH, hKτ, hRτ⟩ := ed_start H
  unfold m_X9_addState
  rw [hR.1, if_pos (show nI n < 12 from zlt (b := 12) (by omega) (by decide) hn12), ek, Option.bind_some]
  obtain ⟨w, hw⟩ : ∃ w : Nat → Int32, ∀ k, w k = if k = 1200 then nI (n + 1) else if 100 * n + 10 ≤ k ∧ k < 100 * n + 91 then nI n else if k = 100 * n then 0 else if 100 * n + 1 ≤ k ∧ k < 100 * n + 5 then 1 else if 100 * n + 5 ≤ k ∧ k < 100 * n + 9 then 0 else v k := ⟨_, fun _ => rfl⟩
  have wOld : ∀ k, k < 100 * n → w k = v k := fun k hk => by rw [hw, if_neg (by omega), if_neg (by omega), if_neg (by omega), if_neg (by omega), if_neg (by omega)]
  have wLab : w (100 * n) = 0 := by rw [hw, if_neg (by omega), if_neg (by omega), if_pos rfl]
  have wAct : ∀ i, i < 4 → w (100 * n + 1 + i) = nI 1 := fun i hi => by rw [hw, if_neg (by omega), if_neg (by omega), if_neg (by omega), if_pos (by omega)]; rfl
  have wPln : ∀ i, i < 4 → w (100 * n + 5 + i) = nI 0 := fun i hi => by rw [hw, if_neg (by omega), if_neg (by omega), if_neg (by omega), if_neg (by omega), if_pos (by omega)]; rfl
  have wNxt : ∀ m, m < 81 → w (100 * n + 10 + m) = nI n := fun m hm => by rw [hw, if_neg (by omega), if_pos (by omega)]
  have wCnt : w 1200 = nI (n + 1) := by rw [hw, if_pos rfl]
  have hwW : zWF a (n + 1) w := by
    refine ⟨by omega, wCnt, fun s' hs' => ?_⟩
    by_cases e : s' = n
    · subst e
      exact ⟨fun i' hi' => ⟨1, by omega, by omega, wAct i' (by omega)⟩, fun i' hi' => ⟨0, by omega, wPln i' (by omega)⟩, fun m hm => ⟨s', by omega, wNxt m hm⟩⟩
    · have hs'' : s' < n := by omega
      refine ⟨fun i' hi' => ?_, fun i' hi' => ?_, fun m hm => ?_⟩
      · rw [wOld _ (by omega)]; exact (hW.2.2 s' hs'').1 i' hi'
      · rw [wOld _ (by omega)]; exact (hW.2.2 s' hs'').2.1 i' hi'
      · rw [wOld _ (by omega)]
        obtain ⟨q, h1, h2⟩ := (hW.2.2 s' hs'').2.2 m hm
        exact ⟨q, by omega, h2⟩
  have hgrow : zP (fun u => u.1 = nI n ∧ zag [0, 1, 2, 3, 4] τ u.2 ∧ (u.2 0 0 = τ 0 0 ∧ u.2 0 1 = τ 0 1 ∧ u.2 0 2 = τ 0 2) ∧ zRS a (n + 1) w u.2 0) (m_X7_grow τ) := by
    unfold m_X7_grow m_X7_setLabelSet
    rw [hRτ.1, zrP (by decide) (by omega)]
    refine zl (P := zP _) (fun i z => z.2 = nI i ∧ zag [1, 2, 3] τ z.1 ∧ z.1 1 = upd (τ 1) n 0 ∧ (∀ k, z.1 2 k = if n * 4 ≤ k ∧ k < n * 4 + i then nI 1 else τ 2 k) ∧ ∀ k, z.1 3 k = if n * 4 ≤ k ∧ k < n * 4 + i then nI 0 else τ 3 k) 4 (by decide) ⟨nI_0.symm, zag.rf.up (by simp), zup_s τ 1 n 0, fun k => by dsimp only; rw [if_neg (by omega), zup_n (by decide)], fun k => by dsimp only; rw [if_neg (by omega), zup_n (by decide)]⟩ ?_
    rintro k i ⟨ρ, x⟩ hi ⟨hx, hgp, h1, h2, h3'⟩ hk
    dsimp only at hx hgp h1 h2 h3' ⊢
    subst hx
    unfold m_X7_grow_b13
    rcases Nat.lt_or_ge i 4 with q | q
    · unfold m_X7_setPlannedAction
      rw [if_neg (show ¬ (4 : Int32) ≤ nI i from znle (a := 4) (by decide) (by omega) q), z_ix4, zrP (by decide) (by omega), zrP (by decide) (by omega), nI_1]
      refine hk q _ ⟨rfl, (hgp.up (by simp)).up (by simp), by dsimp only; rw [zup_n (by decide), zup_n (by decide)]; exact h1, fun k => ?_, fun k => ?_⟩
      · dsimp only
        rw [zup_n (by decide), zup_v, h2]
        by_cases e : k = n * 4 + i
        · rw [if_pos ⟨rfl, e⟩, if_pos (by omega)]; rfl
        · rw [if_neg (fun r => e r.2)]
          by_cases e2 : n * 4 ≤ k ∧ k < n * 4 + i
          · rw [if_pos e2, if_pos (by omega)]
          · rw [if_neg e2, if_neg (by omega)]
      · dsimp only
        rw [zup_v, zup_n (by decide), h3']
        by_cases e : k = n * 4 + i
        · rw [if_pos ⟨rfl, e⟩, if_pos (by omega)]; rfl
        · rw [if_neg (fun r => e r.2)]
          by_cases e2 : n * 4 ≤ k ∧ k < n * 4 + i
          · rw [if_pos e2, if_pos (by omega)]
          · rw [if_neg e2, if_neg (by omega)]
    · have : i = 4 := by omega
      subst this
      rw [if_pos (show (4 : Int32) ≤ nI 4 by decide)]
      have g0 : ρ 0 = τ 0 := hgp 0 (by decide)
      have g4 : ρ 4 = τ 4 := hgp 4 (by decide)
      refine zbind (z_leadBack (n := n + 1) (A := fun _ => 1) ha (by omega) (by rw [g0]; exact hKτ.2.2.1) (by rw [g0]; exact hKτ.2.2.2.2.1) (Nat.lt_succ_self n) (fun i' hi' => by rw [h2, if_pos (by omega)]; exact ⟨rfl, by decide⟩)) ?_
      rintro ρ2 ⟨hg2, hl1, hl2⟩
      have p0 : ρ2 0 = τ 0 := (hg2 0 (by decide)).trans g0
      have p1 : ρ2 1 = upd (τ 1) n 0 := (hg2 1 (by decide)).trans h1
      have p2 : ρ2 2 = ρ 2 := hg2 2 (by decide)
      have p3 : ρ2 3 = ρ 3 := hg2 3 (by decide)
      refine zP_some ⟨rfl, ((hgp.sub (fun k hk => by simp at hk ⊢; omega)).tr (hg2.sub (fun k hk => by simp at hk ⊢; omega))).up (by simp), ?_, ?_, fun s' hs' => ?_, fun s' i' hs' hi' => ?_, fun s' i' hs' hi' => ?_, fun s' m hs' hm => ?_⟩
      · dsimp only
        rw [zup_sn (by decide), zup_sn (by decide), zup_sn (by decide), p0]
        exact ⟨rfl, rfl, rfl⟩
      · dsimp only
        rw [zup_ss, p0, hRτ.1, nI_1]
      · dsimp only
        rw [zup_n (by decide), show (0 : Nat) + 1 = 1 from rfl, p1]
        by_cases e : s' = n
        · subst e; rw [pk_us, wLab]
        · rw [pk_un e, wOld _ (by omega)]; exact hRτ.2.1 s' (by omega)
      · dsimp only
        rw [zup_n (by decide), show (0 : Nat) + 2 = 2 from rfl, p2, h2]
        by_cases e : s' = n
        · subst e; rw [if_pos (by omega), wAct _ (by omega)]
        · rw [if_neg (by omega), wOld _ (by omega)]; exact hRτ.2.2.1 s' i' (by omega) hi'
      · dsimp only
        rw [zup_n (by decide), show (0 : Nat) + 3 = 3 from rfl, p3, h3']
        by_cases e : s' = n
        · subst e; rw [if_pos (by omega), wPln _ (by omega)]
        · rw [if_neg (by omega), wOld _ (by omega)]; exact hRτ.2.2.2.1 s' i' (by omega) hi'
      · dsimp only
        rw [zup_n (by decide), show (0 : Nat) + 4 = 4 from rfl]
        by_cases e : s' = n
        · subst e
          rw [hl1 m hm, wNxt m (by omega), zpm_ext (fun i' hi' => show zac w s' i' = 1 by unfold zac; rw [wAct i' (by omega)]; exact nI_clamp (by decide))]
        · rw [hl2 _ (fun m' hm' => by omega), g4, wOld _ (by omega), zpm_ext (fun i' hi' => show zac w s' i' = zac v s' i' from zac_ext (wOld _ (by omega)))]
          exact hRτ.2.2.2.2 s' m (by omega) hm
  obtain ⟨⟨o, σ1⟩, e1, ho, hg01, hf, hR1⟩ := hgrow
  dsimp only at ho hg01 hf hR1
  rw [e1]
  have fin := ed_end H hg hH hg01 (fun k hk => by simp at hk ⊢; omega) hf hwW hR1
  exact zP_some ⟨ho, ⟨w, fin.1, ⟨wLab, wAct, wNxt⟩, wOld⟩, fin.2⟩
/-- what is refused changes nothing -/
theorem l_fails (H : PI a n v h P m σ) (h0 : 0 < n) : zP (fun u => u.1 = true ∧ zag [72] σ u.2) (m_L_fails σ (nI a) (nI n)) := by
  obtain ⟨hK, hW, hR, -⟩ := id H
  have hn := hW.1
  have ha := hK.2.1
  have ha1 := hK.1
  have h81 := za_81 ha
  have h2n := z_2n hn
  have h2a := z_2n (show a ≤ 12 by omega)
  have hm8 := H.2.2.2.2.2.1
  have nn : zin (nI n) n = false := zin_no (Nat.le_refl _) (by omega)
  have fin : ∀ τ, zag [72] σ τ → zP (fun u => u.1 = true ∧ zag [72] σ u.2) (m_L_fails_b234 τ (zfpr v a n m) 1) := by
    intro τ hg
    unfold m_L_fails_b234
    rw [if_neg (by decide), q_fingerprint (H.cl hg (by decide)), Option.bind_some, lg_cmp_self, if_pos rfl]
    exact zP_some ⟨rfl, hg⟩
  unfold m_L_fails
  refine zbe (q_fingerprint H) ?_
  refine zbe (q_setActions_no H (Or.inl (by rw [nn]; rfl))) (zit rfl ?_)
  refine zbe (q_setActions_no H (Or.inl (by rw [zin_no (n := a) (Nat.le_refl _) (by omega), Bool.and_false]))) (zit rfl ?_)
  refine zbe (q_setActions_no H (Or.inr ⟨by decide, by decide⟩)) (zit rfl ?_)
  refine zbe (q_label_no H (by decide)) (zit rfl ?_)
  refine zit (q_labels_no H (zin_m1 n)) ?_
  refine zbe (q_setMove_no H (Or.inl nn)) (zit rfl ?_)
  refine zbe (q_setMove_no H (Or.inr (zin_no (s := 81) h81.1 (by decide)))) (zit rfl ?_)
  refine zbe (q_setAll_no (s := 0) (i := 0) H h0 ha1) (zit rfl ?_)
  dsimp only
  unfold m_L_fails_b104
  refine zif (by decide) ?_
  refine zit (q_next_no H (Or.inl nn)) ?_
  refine zbe (q_force_no H ?_) (zit rfl ?_)
  · rw [show (1 : Int32) <<< (nI a &&& 31) = nI (2 ^ a) from zbit_n (by omega), zin_no (n := 2 ^ a) (Nat.le_refl _) (by omega)]
    rfl
  refine zbe (q_force_no H ?_) (zit rfl ?_)
  · rw [show (1 : Int32) <<< (nI n &&& 31) = nI (2 ^ n) from zbit_n hn, zin_no (n := 2 ^ n) (Nat.le_refl _) (by omega), Bool.and_false]
  refine zbind (q_reply_no H h0) ?_
  rintro ⟨o, τ⟩ ⟨ho, hg⟩
  refine zit ho ?_
  have H1 := H.cl hg (by decide)
  dsimp only
  refine zbe (q_forced_no H1 (by rw [zin_m1]; rfl)) (zit rfl ?_)
  dsimp only
  rw [q_type_no (σ := τ) (x := 31) (by decide)]
  refine zit rfl ?_
  refine zbe (q_where_no H1 (zin_no (s := 8) hm8 (by decide))) (zit rfl ?_)
  refine zbe (q_holds_no H1 (zin_m1 m)) (zit rfl ?_)
  refine zbe (q_plan_no H1) (zit rfl ?_)
  refine zit (q_planned_no H1 (by rw [zin_no (n := a) (Nat.le_refl _) (by omega), Bool.and_false])) ?_
  refine zbe (q_classOf_no H1 nn) (zit rfl ?_)
  exact fin τ hg
end LA
