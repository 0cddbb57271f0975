/-! ADOPT: what is asked doesn't look at the plan -/
def zsm (a n : Nat) (v w : Nat → Int32) : Prop := ∀ s, s < n → w (100 * s) = v (100 * s) ∧ (∀ i, i < a → w (100 * s + 1 + i) = v (100 * s + 1 + i)) ∧ ∀ m, m < 81 → w (100 * s + 10 + m) = v (100 * s + 10 + m)
theorem zoF_A {a : Nat} {A B : Nat → Nat} {c : Int32} {j : Nat} {b : Nat → Int32} (h : ∀ i, i < a → A i = B i) : ∀ M, zoF a A c j b M = zoF a B c j b M
  | 0 => rfl
  | M + 1 => by rw [zoF_s, zoF_s, zoF_A h M, zpm_ext h]
section ZM
variable {a n : Nat} {v w : Nat → Int32}
theorem zoc_sm (h : zsm a n v w) {s : Nat} (hs : s < n) (c : Int32) (j : Nat) : zoc w a c s j = zoc v a c s j := by
  unfold zoc
  rw [zoF_A (fun i hi => zac_ext ((h s hs).2.1 i hi)), zoF_ext (fun m hm _ => by unfold znx; rw [(h s hs).2.2 m hm])]
  rfl
theorem zlf_sm (h : zsm a n v w) {s : Nat} (hs : s < n) (c X : Int32) : zlf w a c s X = zlf v a c s X := by
  unfold zlf
  exact zfs_ext (fun k _ _ => by rw [zoc_sm h hs])
theorem zF_sm (h : zsm a n v w) (c : Int32) : zF w a n false c = zF v a n false c := by
  funext X
  unfold zF
  refine zmk_ext (fun s hs => ?_)
  rw [if_neg (by decide), if_neg (by decide)]
  unfold zcan
  rw [zlf_sm h hs]
theorem zlab_sm (h : zsm a n v w) (l : Nat) : zlab w n l = zlab v n l := zmk_ext (fun s hs => by rw [(h s hs).1])
theorem zev_sm (h : zsm a n v w) (f : zFd) : ∀ p, zev w a n f p = zev v a n f p
  | 0 => rfl
  | p + 1 => by
    show upd (zev w a n f p) p (zpv w a n f (zev w a n f p) p) = upd (zev v a n f p) p (zpv v a n f (zev v a n f p) p)
    rw [zev_sm h f p]
    congr 1
    unfold zpv
    rw [zF_sm h, zlab_sm h]
theorem zgl_sm (h : zsm a n v w) (f : zFd) (len : Nat) (c : Int32) : zgl w a n f len false c = zgl v a n f len false c := by
  unfold zgl zop1 zop2
  rw [zF_sm h, zev_sm h]
theorem zgk_sm (h : zsm a n v w) (f : zFd) (len : Nat) (d : Int32) (q : Nat) : zgk w a n f len d q = zgk v a n f len d q := by
  unfold zgk zop1 zop2
  rw [zF_sm h, zev_sm h]
theorem zst_sm (h : zsm a n v w) (f : zFd) (len : Nat) {s : Nat} (hs : s < n) : zst w a n f len s = zst v a n f len s := by
  have e : ∀ r, zbl w a n f len r = zbl v a n f len r := fun r => by
    unfold zbl
    exact zmk_ext (fun q _ => by rw [zgk_sm h])
  have e1 : zop1 w a n f len = zop1 v a n f len := by unfold zop1; rw [zev_sm h]
  unfold zst
  rw [zgl_sm h, zgk_sm h, e, e1, zlf_sm h hs, zlf_sm h hs, zlf_sm h hs]
theorem zPr_sm (h : zsm a n v w) {f : zFd} {len : Nat} {σ : St} (hp : zPr v a n f len σ) : zPr w a n f len σ := by
  unfold zPr at hp ⊢
  rw [zev_sm h, zgl_sm h]
  exact ⟨hp.1, hp.2.1, fun k q hq => by rw [zgk_sm h]; exact hp.2.2 k q hq⟩
/-- the plan of some states is changed -/
def zpw (v : Nat → Int32) (a : Nat) (C : Int32) (J : Nat → Nat) (s0 i0 : Nat) : Nat → Int32 := fun k => if 5 ≤ k % 100 ∧ k % 100 < 5 + a ∧ (k / 100 < s0 ∨ (k / 100 = s0 ∧ k % 100 - 5 < i0)) ∧ bt C (k % 100 - 5) = true then nI (zdg (J (k / 100)) (k % 100 - 5)) else v k
theorem zpw_pl {C : Int32} {J : Nat → Nat} {s0 i0 s i : Nat} (ha : a ≤ 4) (hi : i < a) : zpw v a C J s0 i0 (100 * s + 5 + i) = if (s < s0 ∨ (s = s0 ∧ i < i0)) ∧ bt C i = true then nI (zdg (J s) i) else v (100 * s + 5 + i) := by
  have e1 : (100 * s + 5 + i) / 100 = s := by omega
  have e2 : (100 * s + 5 + i) % 100 = 5 + i := by omega
  unfold zpw
  rw [e1, e2, show 5 + i - 5 = i by omega]
  by_cases h : (s < s0 ∨ (s = s0 ∧ i < i0)) ∧ bt C i = true
  · rw [if_pos h, if_pos ⟨by omega, by omega, h⟩]
  · rw [if_neg h, if_neg (fun q => h ⟨q.2.2.1, q.2.2.2⟩)]
theorem zpw_o {C : Int32} {J : Nat → Nat} {s0 i0 k : Nat} (h : ¬ (5 ≤ k % 100 ∧ k % 100 < 5 + a)) : zpw v a C J s0 i0 k = v k := by
  unfold zpw
  rw [if_neg (fun q => h ⟨q.1, q.2.1⟩)]
theorem zpw_sm {C : Int32} {J : Nat → Nat} {s0 i0 : Nat} (ha : a ≤ 4) : zsm a n v (zpw v a C J s0 i0) := fun s _ => ⟨zpw_o (by omega), fun i hi => zpw_o (by omega), fun m hm => zpw_o (by omega)⟩
theorem zpw_WF {C : Int32} {J : Nat → Nat} {s0 i0 : Nat} (ha : a ≤ 4) (h : zWF a n v) : zWF a n (zpw v a C J s0 i0) := by
  refine ⟨h.1, by rw [zpw_o (by omega)]; exact h.2.1, fun s hs => ⟨fun i hi => by rw [zpw_o (by omega)]; exact (h.2.2 s hs).1 i hi, fun i hi => ?_, fun m hm => by rw [zpw_o (by omega)]; exact (h.2.2 s hs).2.2 m hm⟩⟩
  rw [zpw_pl ha hi]
  split
  · exact ⟨_, by have := zdg_lt (J s) i; omega, rfl⟩
  · exact (h.2.2 s hs).2.1 i hi
theorem zpw_0 {C : Int32} {J : Nat → Nat} : zpw v a C J 0 0 = v := by
  funext k
  unfold zpw
  rw [if_neg (by omega)]
theorem zpw_nx {C : Int32} {J : Nat → Nat} {s0 : Nat} : zpw v a C J s0 a = zpw v a C J (s0 + 1) 0 := by
  funext k
  unfold zpw
  by_cases h : 5 ≤ k % 100 ∧ k % 100 < 5 + a ∧ (k / 100 < s0 ∨ (k / 100 = s0 ∧ k % 100 - 5 < a)) ∧ bt C (k % 100 - 5) = true
  · rw [if_pos h, if_pos ⟨h.1, h.2.1, by omega, h.2.2.2⟩]
  · rw [if_neg h, if_neg (fun q => h ⟨q.1, q.2.1, by omega, q.2.2.2⟩)]
theorem zpw_up {C : Int32} {J : Nat → Nat} {s i : Nat} (ha : a ≤ 4) (hi : i < a) (hb : bt C i = true) : upd (zpw v a C J s i) (100 * s + 5 + i) (nI (zdg (J s) i)) = zpw v a C J s (i + 1) := by
  funext k
  by_cases e : k = 100 * s + 5 + i
  · subst e
    rw [pk_us, zpw_pl ha hi, if_pos ⟨Or.inr ⟨rfl, by omega⟩, hb⟩]
  · rw [pk_un e]
    unfold zpw
    by_cases h : 5 ≤ k % 100 ∧ k % 100 < 5 + a ∧ (k / 100 < s ∨ (k / 100 = s ∧ k % 100 - 5 < i)) ∧ bt C (k % 100 - 5) = true
    · rw [if_pos h, if_pos ⟨h.1, h.2.1, by omega, h.2.2.2⟩]
    · rw [if_neg h, if_neg (fun q => h ⟨q.1, q.2.1, by omega, q.2.2.2⟩)]
theorem zpw_st {C : Int32} {J : Nat → Nat} {s i : Nat} (ha : a ≤ 4) (hi : i < a) (hb : ¬ (bt C i = true ∧ v (100 * s + 5 + i) ≠ nI (zdg (J s) i))) : zpw v a C J s (i + 1) = zpw v a C J s i := by
  cases hc : bt C i
  · funext k
    unfold zpw
    by_cases h : 5 ≤ k % 100 ∧ k % 100 < 5 + a ∧ (k / 100 < s ∨ (k / 100 = s ∧ k % 100 - 5 < i)) ∧ bt C (k % 100 - 5) = true
    · rw [if_pos h, if_pos ⟨h.1, h.2.1, by omega, h.2.2.2⟩]
    · rw [if_neg h, if_neg]
      rintro ⟨a1, a2, a3, a4⟩
      by_cases e : k / 100 = s ∧ k % 100 - 5 = i
      · rw [e.2, hc] at a4
        cases a4
      · exact h ⟨a1, a2, by omega, a4⟩
  · have hv : v (100 * s + 5 + i) = nI (zdg (J s) i) := Classical.byContradiction fun q => hb ⟨hc, q⟩
    rw [← zpw_up ha hi hc]
    funext k
    by_cases e : k = 100 * s + 5 + i
    · subst e
      rw [pk_us, zpw_pl ha hi, if_neg (by omega)]
      exact hv.symm
    · rw [pk_un e]
/-- which actions change -/
def zch (v : Nat → Int32) (C : Int32) (J : Nat → Nat) (s i : Nat) : Bool := decide (bt C i = true ∧ v (100 * s + 5 + i) ≠ nI (zdg (J s) i))
def zcc (v : Nat → Int32) (a : Nat) (C : Int32) (J : Nat → Nat) : Nat → Nat
  | 0 => 0
  | s + 1 => zcc v a C J s + fb_ct (zch v C J s) a
theorem zcc_le {C : Int32} {J : Nat → Nat} : ∀ s, zcc v a C J s ≤ s * a
  | 0 => Nat.zero_le _
  | s + 1 => by
    have := zcc_le (C := C) (J := J) s
    have := fb_ct_le (zch v C J s) a
    unfold zcc
    rw [Nat.succ_mul]
    omega
variable {σ : St}
theorem zRS_pl {C : Int32} {J : Nat → Nat} {s i : Nat} (ha : a ≤ 4) (hn : n ≤ 12) (hs : s < n) (hi : i < a) (hR : zRS a n (zpw v a C J s i) σ 0) (hb : bt C i = true) : zRS a n (zpw v a C J s (i + 1)) (up σ 3 (s * 4 + i) (nI (zdg (J s) i))) 0 := by
  have h81 := za_81 ha
  obtain ⟨h1, h2, h3, h4, h5⟩ := hR
  refine ⟨by rw [zup_n (by decide)]; exact h1, fun s' hs' => ?_, fun s' i' hs' hi' => ?_, fun s' i' hs' hi' => ?_, fun s' m hs' hm => ?_⟩
  · rw [zup_n (by decide), ← zpw_up ha hi hb, pk_un (by omega)]; exact h2 s' hs'
  · rw [zup_n (by decide), ← zpw_up ha hi hb, pk_un (by omega)]; exact h3 s' i' hs' hi'
  · rw [← zpw_up ha hi hb, show (0 : Nat) + 3 = 3 from rfl, zup_s]
    by_cases e : s' = s ∧ i' = i
    · obtain ⟨rfl, rfl⟩ := e
      rw [pk_us, pk_us]
    · rw [pk_un (by omega), pk_un (by omega)]
      exact h4 s' i' hs' hi'
  · rw [zup_n (by decide), ← zpw_up ha hi hb, pk_un (by omega), zpm_ext (fun i' hi' => zac_ext (pk_un (by omega)))]
    exact h5 s' m hs' hm
theorem z_followA (hK : zK a σ) (hW : zWF a n v) (hR : zRS a n v σ 0) {t len : Nat} {f : zFd} (ht : isF t = true) (hf : zFok a len f) (hc : zFc σ t len f) (hg9 : zisg f len = true) (hp : zPr v a n f len σ) {J : Nat → Nat} (hJ : ∀ s, s < n → zst v a n f len s = nI (J s) ∧ J s < 3 ^ a) :
    zP (fun u => u.1 = nI (zcc v a (nI (f.2.2.2 (len - 1))) J n) ∧ zag [3, 72] σ u.2 ∧ zRS a n (zpw v a (nI (f.2.2.2 (len - 1))) J n 0) u.2 0) (m_X8_follow σ t) := by
  have hn := hW.1
  have ha := hK.2.1
  have h81 := za_81 ha
  have hnL : ∀ k, 25 ≤ k → k < 65 → k ∉ [3, 72] := fun k h1 h2 h => by simp at h; omega
  obtain ⟨h6, h9⟩ := zisg_t hg9
  generalize hC : nI (f.2.2.2 (len - 1)) = C
  unfold m_X8_follow
  refine zl (P := zP _) (fun s z => z.2.2 = nI s ∧ z.2.1 = nI (zcc v a C J s) ∧ zag [3, 72] σ z.1 ∧ zRS a n (zpw v a C J s 0) z.1 0) n (by omega) ⟨nI_0.symm, rfl, zag.rf, by rw [zpw_0]; exact hR⟩ ?_
  rintro k s ⟨τ, x, y⟩ hs ⟨hy, hx, hg, hRτ⟩ hk
  dsimp only at hx hy hg hRτ ⊢
  subst hx hy
  unfold m_X8_follow_b4
  rw [hRτ.1]
  rcases Nat.lt_or_ge s n with q | q
  · rw [if_neg (znle (by omega) (by omega) q)]
    have hk := hk q
    have hsm : zsm a n v (zpw v a C J s 0) := zpw_sm ha
    refine zbind (z_jointAt (hK.g hg (by decide)) (zpw_WF ha hW) hRτ hf (hc.g ht hg hnL) hg9 (zPr_sm hsm (hp.g hg (by decide))) q) ?_
    rintro ⟨o, ρ⟩ ⟨ho, hg2⟩
    dsimp only at ho hg2 ⊢
    rw [zst_sm hsm f len q, (hJ s q).1] at ho
    subst ho
    have hg3 : zag [3, 72] σ ρ := hg.tr (hg2.sub (fun k hk => by simp at hk ⊢; omega))
    have hJ3 := (hJ s q).2
    have hcl := zcc_le (v := v) (a := a) (C := C) (J := J) s
    have hsa : s * a ≤ 48 := Nat.le_trans (Nat.mul_le_mul (show s ≤ 12 by omega) ha) (by decide)
    refine zl (P := zP _) (fun i z => z.2.2.2 = nI i ∧ z.2.2.1 = nI (J s / 3 ^ i) ∧ z.2.1 = nI (zcc v a C J s + fb_ct (zch v C J s) i) ∧ zag [3, 72] σ z.1 ∧ zRS a n (zpw v a C J s i) z.1 0) a (by omega) ⟨nI_0.symm, by simp, rfl, hg3, hRτ.g hg2 (by decide)⟩ ?_
    clear hg3 hg2 hg hRτ
    rintro k2 i ⟨τ, x, r, y⟩ hi ⟨hy, hr, hx, hg, hRτ⟩ hk2
    dsimp only at hx hy hr hg hRτ ⊢
    subst hx hy hr
    have hKτ := hK.ag (τ := τ) (hg 0 (by decide)) (hg 70 (by decide)) (hg 71 (by decide)) (by rw [hg 73 (by decide)]) (by rw [hg 87 (by decide)])
    unfold m_X8_follow_b26
    rw [hKτ.2.2.1, z_topCoal hf (hc.g ht hg hnL) h6, hC]
    rcases Nat.lt_or_ge i a with w | w
    · have hdiv : J s / 3 ^ i < 2 ^ 31 := Nat.lt_of_le_of_lt (Nat.div_le_self _ _) (by omega)
      have hcl2 := fb_ct_le (zch v C J s) i
      have ec := fb_ct_succ (zch v C J s) i
      have hd3 := zdg_lt (J s) i
      rw [if_neg (znle (by omega) (by omega) w), zsh1 _ (by omega), zm3 hdiv, zd3 hdiv, zdiv3, show J s / 3 ^ i % 3 = zdg (J s) i from rfl]
      have pl : m_X7_plannedAction τ (nI s) (nI i) = v (100 * s + 5 + i) := by
        rw [z_plannedAction ha hn hRτ q w, zpw_pl ha w, if_neg (by omega)]
      have no : zch v C J s i = false → zP (fun u => u.1 = nI (zcc v a C J n) ∧ zag [3, 72] σ u.2 ∧ zRS a n (zpw v a C J n 0) u.2 0) (k2 (τ, nI (zcc v a C J s + fb_ct (zch v C J s) i), nI (J s / 3 ^ (i + 1)), nI i + 1)) := by
        intro e
        rw [nI_1]
        rw [e, if_neg (by decide), Nat.add_zero] at ec
        exact hk2 w _ ⟨rfl, rfl, by dsimp only; rw [ec]; rfl, hg, by dsimp only; rw [zpw_st ha w (of_decide_eq_false e)]; exact hRτ⟩
      cases hb : bt C i
      · rw [if_pos zbIf]
        unfold m_X8_follow_b67
        rw [if_pos rfl]
        exact no (decide_eq_false (fun r => by rw [hb] at r; exact absurd r.1 (by decide)))
      · rw [if_neg zbIt]
        unfold m_X8_follow_b67 m_X7_setPlannedAction
        rw [if_neg (by decide), pl, z_ix4, zrP (by decide) (by omega)]
        by_cases e : v (100 * s + 5 + i) = nI (zdg (J s) i)
        · rw [if_pos e]
          exact no (decide_eq_false (fun r => r.2 e))
        · rw [if_neg e, nI_1, nI_1]
          rw [show zch v C J s i = true from decide_eq_true ⟨hb, e⟩, if_pos rfl] at ec
          exact hk2 w _ ⟨rfl, rfl, by dsimp only; rw [ec]; rfl, hg.up (by simp), zRS_pl ha hn q w hRτ hb⟩
    · have : i = a := by omega
      subst this
      rw [if_pos (zle (by omega) (by omega) w), nI_1]
      exact hk _ ⟨rfl, rfl, hg, by dsimp only; rw [← zpw_nx]; exact hRτ⟩
  · have : s = n := by omega
    subst this
    rw [if_pos (zle (by omega) (by omega) q)]
    exact zP_some ⟨rfl, hg, hRτ⟩
theorem zup_self (σ : St) (k j : Nat) : up σ k j (σ k j) = σ := by
  funext c i
  rw [zup_v]
  split
  · rename_i h
    rw [h.1, h.2]
  · rfl
end ZM
section SA3
variable {a : Nat} {σ : St}
end SA3
