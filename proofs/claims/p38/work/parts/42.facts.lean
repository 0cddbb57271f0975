/-! FACTS about what can be forced, fixed points, strategies -/
theorem zjt_0 {a : Nat} {A : Nat → Nat} (hA : ∀ i, i < a → 1 ≤ A i) (c : Int32) : zjt a A c 0 = true := by
  have z : ∀ i, zdg 0 i = 0 := fun i => by unfold zdg; rw [Nat.zero_div]
  exact decide_eq_true ⟨zpm_t.mpr ⟨Nat.pow_pos (by decide), fun i hi => by rw [z]; exact hA i hi⟩, fun i _ _ => z i⟩
section FA
variable {a n : Nat} {v : Nat → Int32}
theorem zfo_iff (hW : zWF a n v) (ha : a ≤ 4) {c : Int32} {s j : Nat} (hs : s < n) {X : Int32} : zfo (zoc v a c s j) X = true ↔ zjt a (zac v s) c j = true ∧ ∀ m, zpm a (zac v s) m = true → zpt a c m = j → bt X (znx v s m) = true := by
  have hn := hW.1
  have h81 := za_81 ha
  unfold zfo
  rw [decide_eq_true_iff, zoc_ne hW ha hs, zsb_iff]
  constructor
  · rintro ⟨h1, h2⟩
    refine ⟨h1, fun m hp e => ?_⟩
    have hm := zpm_lt hp
    have hx := (hW.nx hs (show m < 81 by omega)).2
    refine h2 _ (by omega) ?_
    exact zoF_bt.mpr ⟨m, by omega, hp, e, by rw [zbit_bt (by omega) (by omega)]; exact decide_eq_true rfl⟩
  · rintro ⟨h1, h2⟩
    refine ⟨h1, fun i hi hb => ?_⟩
    obtain ⟨m, hm, hp, e, hbm⟩ := zoF_bt.mp hb
    have hx := (hW.nx hs hm).2
    rw [zbit_bt (by omega) hi] at hbm
    rw [of_decide_eq_true hbm]
    exact h2 m hp e
theorem zcan_up (hW : zWF a n v) (ha : a ≤ 4) {c d : Int32} {s : Nat} (hs : s < n) (hcd : ∀ i, i < a → bt c i = true → bt d i = true) {X : Int32} (h : zcan v a c s X = true) : zcan v a d s X = true := by
  obtain ⟨j, hj, hq⟩ := zcan_t.mp h
  obtain ⟨h1, h2⟩ := (zfo_iff hW ha hs).mp hq
  have hd : zjt a (zac v s) d j = true := decide_eq_true ⟨(of_decide_eq_true h1).1, fun i hi hb => (of_decide_eq_true h1).2 i hi (by
    cases e : bt c i
    · rfl
    · rw [hcd i hi e] at hb; cases hb)⟩
  exact zcan_t.mpr ⟨j, hj, (zfo_iff hW ha hs).mpr ⟨hd, fun m hp e => h2 m hp ((zpt_eq h1).mpr fun i hi hb => (zpt_eq hd).mp e i hi (hcd i hi hb))⟩⟩
theorem zlf_all (hW : zWF a n v) (ha : a ≤ 4) {c : Int32} {s : Nat} (hs : s < n) : zlf v a c s (zall n) = 0 := by
  have hn := hW.1
  have h81 := za_81 ha
  refine zfs_hit (i := 0) (Nat.le_refl _) (by decide) ?_ (fun k _ hk => absurd hk (Nat.not_lt_zero k))
  refine (zfo_iff hW ha hs).mpr ⟨zjt_0 (fun i hi => (hW.ac hs hi).2.1) c, fun m hp _ => ?_⟩
  have hx := (hW.nx hs (show m < 81 by have := zpm_lt hp; omega)).2
  rw [zall_bt hn (by omega)]
  exact decide_eq_true hx
theorem zlf_sp (hW : zWF a n v) (ha : a ≤ 4) {c : Int32} {s : Nat} (hs : s < n) {X : Int32} (h : ¬ zlf v a c s X = -9) : ∃ j, j < 3 ^ a ∧ zlf v a c s X = nI j ∧ zfo (zoc v a c s j) X = true := by
  obtain ⟨j, hj, hq⟩ := zcan_t.mp (decide_eq_true h)
  obtain ⟨i, hi, hp, hl⟩ := fb_first (p := fun i => zfo (zoc v a c s i) X = true) ⟨j, hj, hq⟩
  have e : zlf v a c s X = nI i := zfs_hit (Nat.zero_le _) (by omega) hp (fun k _ hk => by
    have := hl k hk
    cases e : zfo (zoc v a c s k) X
    · rfl
    · exact absurd e this)
  exact ⟨i, zpm_lt (of_decide_eq_true ((zfo_iff hW ha hs).mp hp).1).1, e, hp⟩
theorem zcan_dual (hW : zWF a n v) (ha : a ≤ 4) {c o : Int32} {s : Nat} (hs : s < n) (ho : ∀ i, i < a → bt o i = !bt c i) {X Y : Int32} (hXY : ∀ i, i < n → bt Y i = !bt X i) (h : zcan v a c s X = true) : zcan v a o s Y = false := by
  have h81 := za_81 ha
  cases e : zcan v a o s Y
  · rfl
  · exfalso
    obtain ⟨j, hj, hq⟩ := zcan_t.mp h
    obtain ⟨k, hk, hr⟩ := zcan_t.mp e
    obtain ⟨h1, h2⟩ := (zfo_iff hW ha hs).mp hq
    obtain ⟨h3, h4⟩ := (zfo_iff hW ha hs).mp hr
    obtain ⟨m1, m2⟩ := (zplay_i (fun i hi => (hW.ac hs hi).2.1) ho h1 k).mpr h3
    have h5 := zpt_sum ho (j + k) a (Nat.le_refl a)
    have hl := zpm_lt m1
    rw [m2, Nat.mod_eq_of_lt hl] at h5
    have b1 := h2 _ m1 m2
    have b2 := h4 _ m1 (by omega)
    have hx := (hW.nx hs (show j + k < 81 by omega)).2
    rw [hXY _ hx, b1] at b2
    cases b2
end FA
/-! the smallest coalition -/
theorem zfs_in {p : Nat → Bool} {N : Nat} (hN : N < 2 ^ 31) (h : ¬ zfs p N 0 = -9) : ∃ i, i < N ∧ p i = true ∧ zfs p N 0 = nI i := by
  have h2 : ∃ i, i < N ∧ p i = true := Classical.byContradiction fun hx => h ((zfs_m9 hN).mpr fun k hk => by
    cases e : p k
    · rfl
    · exact absurd ⟨k, hk, e⟩ hx)
  obtain ⟨i, hi, hp, hl⟩ := fb_first (p := fun i => p i = true) h2
  exact ⟨i, hi, hp, zfs_hit (Nat.zero_le _) (by omega) hp (fun k _ hk => by
    have := hl k hk
    cases e : p k
    · rfl
    · exact absurd e this)⟩
theorem zsmF_two {G : Nat → Bool} {N : Nat} (hN : N < 2 ^ 31) : ∀ k z, zsmF G N k z = -9 ∨ ∃ c, c < N ∧ G c = true ∧ zsmF G N k z = nI c
  | 0, _ => Or.inl rfl
  | k + 1, z => by
    unfold zsmF
    by_cases e : zfs (fun c => decide (zpc c = z) && G c) N 0 = -9
    · rw [if_pos e]
      exact zsmF_two hN k (z + 1)
    · rw [if_neg e]
      obtain ⟨i, hi, hp, he⟩ := zfs_in hN e
      rw [Bool.and_eq_true] at hp
      exact Or.inr ⟨i, hi, hp.2, he⟩
theorem zsmF_ne {G : Nat → Bool} {N : Nat} (hN : N < 2 ^ 31) : ∀ k z, (∃ c, c < N ∧ G c = true ∧ z ≤ zpc c ∧ zpc c < z + k) → zsmF G N k z ≠ -9
  | 0, _, h => by
    obtain ⟨c, _, _, h1, h2⟩ := h
    omega
  | k + 1, z, h => by
    obtain ⟨c, h1, h2, h3, h4⟩ := h
    unfold zsmF
    by_cases e : zfs (fun c => decide (zpc c = z) && G c) N 0 = -9
    · rw [if_pos e]
      have := (zfs_m9 hN).mp e c h1
      rw [h2, Bool.and_true] at this
      have := of_decide_eq_false this
      exact zsmF_ne hN k (z + 1) ⟨c, h1, h2, by omega, by omega⟩
    · rw [if_neg e]
      exact e
/-! classes -/
theorem zrf_le (r : Nat → Nat → Bool) : ∀ n s, s < n → (zrf r n).2 s ≤ s
  | 0, s, h => absurd h (Nat.not_lt_zero s)
  | n + 1, s, h => by
    have ih := zrf_le r n
    have ho := (zrf_ok r n).1
    by_cases q : zfl r n < n
    · rw [zrf_y q]
      by_cases e : s = n
      · subst e
        have h1 : va_up (zrf r s).2 s ((zrf r s).2 (zfl r s)) s = (zrf r s).2 (zfl r s) := zva_s
        dsimp only
        rw [h1]
        have := ih _ q
        omega
      · have h1 : va_up (zrf r n).2 n ((zrf r n).2 (zfl r n)) s = (zrf r n).2 s := zva_n e
        dsimp only
        rw [h1]
        exact ih s (by omega)
    · rw [zrf_n q]
      by_cases e : s = n
      · subst e
        have h1 : va_up (zrf r s).2 s (zrf r s).1 s = (zrf r s).1 := zva_s
        dsimp only
        rw [h1]
        exact ho
      · have h1 : va_up (zrf r n).2 n (zrf r n).1 s = (zrf r n).2 s := zva_n e
        dsimp only
        rw [h1]
        exact ih s (by omega)
theorem zdv_le (v : Nat → Int32) (a n : Nat) : ∀ k s, s < n → (zdv v a n k).2 s ≤ s
  | 0, s, h => zrf_le _ n s h
  | _ + 1, s, h => zrf_le _ n s h
theorem zDe_u {v : Nat → Int32} {a n K K' : Nat} (h : zDe v a n K) (h' : zDe v a n K') : K = K' := by
  rcases h with ⟨h1, h2⟩ | ⟨h1, k, h2, h3, h4⟩
  · rcases h' with ⟨h1', h2'⟩ | ⟨h1', k', h2', h3', h4'⟩
    · omega
    · exact absurd h2 h1'
  · rcases h' with ⟨h1', h2'⟩ | ⟨h1', k', h2', h3', h4'⟩
    · exact absurd h2' h1
    · rcases Nat.lt_trichotomy k k' with q | q | q
      · exact absurd h3 (h4' k q)
      · omega
      · exact absurd h3' (h4 k' q)
/-! fixed points of two functions -/
section FX
variable {F G : Int32 → Int32} {p g S W : Int32}
theorem zadd_in {L : Int32} {i : Nat} (hi : i < 32) (h1 : bt L i = false) (h2 : bt p i = true) (h3 : bt (F L) i = true) : bt (zadd F p L) i = true := by
  unfold zadd
  rw [b_and, b_and, znot _ hi, h1, h2, h3]
  rfl
theorem zL_next {k i : Nat} (hi : i < 32) (h2 : bt p i = true) (h3 : bt (F (zL F p g k)) i = true) : bt (zL F p g (k + 1)) i = true := by
  rw [zL_s, b_or]
  cases e : bt (zL F p g k) i
  · rw [zadd_in hi e h2 h3]; rfl
  · rfl
theorem zL_sub (hm : ∀ X Y, zsb X Y → zsb (F X) (F Y)) (hs : ∀ X, zsb (G X) (F X)) : ∀ k, zsb (zL G p g k) (zL F p g k)
  | 0 => zsb.rf
  | k + 1 => fun i hi h => by
    have ih := zL_sub hm hs k
    rw [zL_s, b_or, Bool.or_eq_true] at h
    rcases h with h | h
    · exact zsb_or i hi (ih i hi h)
    · obtain ⟨h1, h2, h3⟩ := zadd_new hi h
      exact zL_next hi h2 (hm _ _ ih i hi (hs _ i hi h3))
theorem zZ_sub (hm : ∀ X Y, zsb X Y → zsb (F X) (F Y)) (hs : ∀ X, zsb (G X) (F X)) : ∀ k, zsb (zZ G S k) (zZ F S k)
  | 0 => zsb.rf
  | k + 1 => fun i hi h => by
    have ih := zZ_sub hm hs k
    rw [zZ_s, b_and, Bool.and_eq_true] at h ⊢
    exact ⟨ih i hi h.1, hm _ _ ih i hi (hs _ i hi h.2)⟩
theorem zZ_great (hm : ∀ X Y, zsb X Y → zsb (G X) (G Y)) (h1 : zsb W S) (h2 : zsb W (G W)) : ∀ k, zsb W (zZ G S k)
  | 0 => h1
  | k + 1 => fun i hi h => by
    have ih := zZ_great hm h1 h2 k
    rw [zZ_s, b_and, Bool.and_eq_true]
    exact ⟨ih i hi h, hm _ _ ih i hi (h2 i hi h)⟩
theorem zRk_in0 {s : Nat} : ∀ {k : Nat}, k < 2 ^ 30 → zRk F p g (-9) k s = nI 0 → bt g s = true
  | 0, _, h => by
    cases e : bt g s
    · unfold zRk at h
      rw [e, if_neg (by decide)] at h
      exact absurd h (by decide)
    · rfl
  | k + 1, hk, h => by
    rw [zRk_s] at h
    split at h
    · exact absurd h (zne (by omega) (by decide) (by omega))
    · exact zRk_in0 (k := k) (by omega) h
theorem zRk_in {s k r : Nat} (hk : k < 2 ^ 30) (hr : r < 2 ^ 30) (h : zRk F p g (-9) k s = nI r) : bt (zL F p g r) s = true := by
  rcases Nat.eq_zero_or_pos r with e | e
  · subst e
    exact zRk_in0 hk h
  · obtain ⟨r', rfl⟩ : ∃ r', r = r' + 1 := ⟨r - 1, by omega⟩
    have := (zRk_pos (d := -9) (by omega) (fun q => znm9 (n := r' + 1) (by omega) q.symm) hk h).1
    rw [zL_s, b_or, this, Bool.or_true]
end FX
section EN
variable {a n : Nat} {v : Nat → Int32}
theorem zF_tf (hW : zWF a n v) (ha : a ≤ 4) (c X : Int32) : zsb (zF v a n true c X) (zF v a n false c X) := fun i hi h => by
  have hn := hW.1
  have h81 := za_81 ha
  have hl := zF_in hn hi h
  rw [zF_bt hn hl, if_pos rfl] at h
  rw [zF_bt hn hl, if_neg (by decide)]
  exact zcan_t.mpr ⟨zpj v c i a, Nat.lt_of_lt_of_le (zpj_le v c i a (fun j hj => (hW.pl hl hj).2)) h81.1, h⟩
theorem zgl_tf (hW : zWF a n v) (ha : a ≤ 4) {f : zFd} {len : Nat} (hgo : zisg f len = true) (c : Int32) : zsb (zgl v a n f len true c) (zgl v a n f len false c) := by
  have hn := hW.1
  obtain ⟨h6, h9⟩ := zisg_t hgo
  have hm : ∀ X Y, zsb X Y → zsb (zF v a n false c X) (zF v a n false c Y) := fun X Y h => zF_m hn h
  have ht := fun X => zF_tf hW ha c X
  unfold zgl
  have hk : f.1 (len - 1) = 6 ∨ f.1 (len - 1) = 7 ∨ f.1 (len - 1) = 8 ∨ f.1 (len - 1) = 9 := by omega
  rcases hk with k | k | k | k
  · rw [k, zgoal_6, zgoal_6]; exact ht _
  · rw [k, zgoal_7, zgoal_7]; exact zL_sub hm ht 12
  · rw [k, zgoal_8, zgoal_8]; exact zZ_sub hm ht 13
  · rw [k, zgoal_9, zgoal_9]; exact zL_sub hm ht 12
/-- what the strategy tells -/
theorem zst_sp (hW : zWF a n v) (ha : a ≤ 4) {f : zFd} {len s j : Nat} (hgo : zisg f len = true) (hs : s < n) (hj : zst v a n f len s = nI j) (hj3 : j < 3 ^ a) : zjt a (zac v s) (nI (f.2.2.2 (len - 1))) j = true ∧ (bt (zgl v a n f len false (nI (f.2.2.2 (len - 1)))) s = true → (f.1 (len - 1) = 6 → zfo (zoc v a (nI (f.2.2.2 (len - 1))) s j) (zop1 v a n f len) = true) ∧ (f.1 (len - 1) = 8 → zfo (zoc v a (nI (f.2.2.2 (len - 1))) s j) (zgl v a n f len false (nI (f.2.2.2 (len - 1)))) = true) ∧ ((f.1 (len - 1) = 7 ∨ f.1 (len - 1) = 9) → ¬ zgk v a n f len (-9) s = 0 → zfo (zoc v a (nI (f.2.2.2 (len - 1))) s j) (zbl v a n f len (zgk v a n f len (-9) s)) = true)) := by
  have h81 := za_81 ha
  obtain ⟨h6, h9⟩ := zisg_t hgo
  generalize hC : nI (f.2.2.2 (len - 1)) = C at hj ⊢
  have hzd : zst v a n f len s = if bt (zgl v a n f len false C) s = false then 0 else
      if f.1 (len - 1) = 6 then zlf v a C s (zop1 v a n f len) else
      if f.1 (len - 1) = 8 then zlf v a C s (zgl v a n f len false C) else
      if zgk v a n f len (-9) s = 0 then 0 else zlf v a C s (zbl v a n f len (zgk v a n f len (-9) s)) := by
    unfold zst
    rw [hC]
  rw [hzd] at hj
  have z0 : (0 : Int32) = nI j → zjt a (zac v s) C j = true := fun e => by
    have : 0 = j := (nI_eq (a := 0) (by decide) (by omega)).mp e
    subst this
    exact zjt_0 (fun i hi => (hW.ac hs hi).2.1) C
  have zl : ∀ X, zlf v a C s X = nI j → zfo (zoc v a C s j) X = true := fun X e => by
    obtain ⟨i, hi, he, hf⟩ := zlf_sp hW ha (c := C) hs (X := X) (by rw [e]; exact znm9 (by omega))
    have : j = i := (nI_eq (by omega) (by omega)).mp (e.symm.trans he)
    subst this
    exact hf
  have zt : ∀ X, zlf v a C s X = nI j → zjt a (zac v s) C j = true := fun X e => ((zfo_iff hW ha hs).mp (zl X e)).1
  cases hb : bt (zgl v a n f len false C) s
  · rw [if_pos hb] at hj
    exact ⟨z0 hj, fun q => absurd q (by decide)⟩
  rw [if_neg (by rw [hb]; decide)] at hj
  by_cases k6 : f.1 (len - 1) = 6
  · rw [if_pos k6] at hj
    exact ⟨zt _ hj, fun _ => ⟨fun _ => zl _ hj, fun q => by omega, fun q => by omega⟩⟩
  rw [if_neg k6] at hj
  by_cases k8 : f.1 (len - 1) = 8
  · rw [if_pos k8] at hj
    exact ⟨zt _ hj, fun _ => ⟨fun q => absurd q k6, fun _ => zl _ hj, fun q => by omega⟩⟩
  rw [if_neg k8] at hj
  by_cases e0 : zgk v a n f len (-9) s = 0
  · rw [if_pos e0] at hj
    exact ⟨z0 hj, fun _ => ⟨fun q => absurd q k6, fun q => absurd q k8, fun _ q => absurd e0 q⟩⟩
  · rw [if_neg e0] at hj
    exact ⟨zt _ hj, fun _ => ⟨fun q => absurd q k6, fun q => absurd q k8, fun _ _ => zl _ hj⟩⟩
theorem zpw_pj (hW : zWF a n v) (ha : a ≤ 4) {C : Int32} {J : Nat → Nat} {s : Nat} (hs : s < n) (hJ3 : J s < 3 ^ a) (hJ : zjt a (zac v s) C (J s) = true) : zpj (zpw v a C J n 0) C s a = J s := by
  have h81 := za_81 ha
  have hWw := zpw_WF (C := C) (J := J) (s0 := n) (i0 := 0) ha hW
  have hsm : zsm a n v (zpw v a C J n 0) := zpw_sm ha
  obtain ⟨h1, h2⟩ := of_decide_eq_true hJ
  have hp : ∀ i, i < a → zpl (zpw v a C J n 0) s i ≤ 2 := fun i hi => (hWw.pl hs hi).2
  refine zdg_inj (zpj_le _ _ _ _ hp) hJ3 fun i hi => ?_
  rw [zpj_dg _ _ _ _ hp i hi]
  cases hb : bt C i
  · rw [if_neg (by decide), h2 i hi hb]
  · rw [if_pos rfl]
    have e1 : zpl (zpw v a C J n 0) s i = zdg (J s) i := by
      unfold zpl
      rw [zpw_pl ha hi, if_pos ⟨Or.inl hs, hb⟩]
      exact nI_clamp (by have := zdg_lt (J s) i; omega)
    have e2 : zac (zpw v a C J n 0) s i = zac v s i := zac_ext ((hsm s hs).2.1 i hi)
    unfold zpa
    rw [e1, e2, if_pos ((zpm_t.mp h1).2 i hi)]
theorem zL_key {F G : Int32 → Int32} {p g : Int32} (hz : ∀ k i, i < 32 → k < 12 → bt p i = true → bt (F (zL F p g k)) i = true → bt (zL F p g 12) i = true → zRk F p g (-9) 12 i = nI (k + 1) → zsb (zL F p g k) (zL G p g k) → bt (G (zL G p g k)) i = true) : ∀ k, k ≤ 12 → zsb (zL F p g k) (zL G p g k)
  | 0, _ => zsb.rf
  | k + 1, hk12 => fun i hi hb => by
    have ih := zL_key hz k (by omega)
    have hb2 := hb
    rw [zL_s, b_or, Bool.or_eq_true] at hb2
    rcases hb2 with hb2 | hb2
    · exact zsb_or i hi (ih i hi hb2)
    · obtain ⟨n1, n2, n3⟩ := zadd_new hi hb2
      obtain ⟨j, hj⟩ := Nat.le.dest hk12
      have hW12 := zL_mono hb j
      have rk := zRk_keep hi hb (-9) j
      rw [hj] at hW12 rk
      have rk2 : zRk F p g (-9) (k + 1) i = nI (k + 1) := by rw [zRk_s, if_pos hb2]
      exact zL_next hi n2 (hz k i hi (by omega) n2 n3 hW12 (rk.trans rk2) ih)
theorem zbl_in {F : Int32 → Int32} {p g : Int32} {f : zFd} {len k : Nat} (hn : n ≤ 12) (hk : k < 12) (q3 : ∀ d q, zgk v a n f len d q = zRk F p g d 12 q) : zsb (zbl v a n f len (nI (k + 1))) (zL F p g k) := fun q hq hm => by
  unfold zbl at hm
  rw [zmk_bt (by omega) hq, Bool.and_eq_true] at hm
  obtain ⟨m1, m2⟩ := of_decide_eq_true hm.2
  rcases zgk_two (v := v) (a := a) (n := n) (f := f) (len := len) (s := q) with ⟨r, hr, hd⟩ | hd
  · rw [hd] at m2
    have hrk : r < k + 1 := zgt (by omega) (by omega) m2
    have h1 := hd (-9)
    rw [q3] at h1
    have h2 := zRk_in (by decide) (by omega) h1
    obtain ⟨d, hd2⟩ := Nat.le.dest (show r ≤ k by omega)
    have h3 := zL_mono h2 d
    rw [hd2] at h3
    exact h3
  · exact absurd (hd (-9)) m1
/-- the strategy, adopted, enforces its goal just where it holds -/
theorem z_enf (hW : zWF a n v) (ha : a ≤ 4) {f : zFd} {len : Nat} (hf : zFok a len f) (hgo : zisg f len = true) {J : Nat → Nat} (hJ : ∀ s, s < n → zst v a n f len s = nI (J s) ∧ J s < 3 ^ a) : zgl (zpw v a (nI (f.2.2.2 (len - 1))) J n 0) a n f len true (nI (f.2.2.2 (len - 1))) = zgl v a n f len false (nI (f.2.2.2 (len - 1))) := by
  have hn := hW.1
  obtain ⟨h6, h9⟩ := zisg_t hgo
  generalize hC : nI (f.2.2.2 (len - 1)) = C
  have hsm : zsm a n v (zpw v a C J n 0) := zpw_sm ha
  have hWw := zpw_WF (C := C) (J := J) (s0 := n) (i0 := 0) ha hW
  have hsp := fun s (hs : s < n) => zst_sp hW ha hgo hs (hJ s hs).1 (hJ s hs).2
  rw [hC] at hsp
  have hG : ∀ X s, s < n → bt (zF (zpw v a C J n 0) a n true C X) s = zfo (zoc v a C s (J s)) X := fun X s hs => by
    rw [zF_bt hn hs, if_pos rfl]
    unfold zcanP
    rw [zpw_pj hW ha hs (hJ s hs).2 (hsp s hs).1, zoc_sm hsm hs]
  have hGm : ∀ X Y, zsb X Y → zsb (zF (zpw v a C J n 0) a n true C X) (zF (zpw v a C J n 0) a n true C Y) := fun X Y h => zF_m hn h
  have e1 : zop1 (zpw v a C J n 0) a n f len = zop1 v a n f len := by unfold zop1; rw [zev_sm hsm]
  have e2 : zop2 (zpw v a C J n 0) a n f len = zop2 v a n f len := by unfold zop2; rw [zev_sm hsm]
  have hWin : zsb (zgl v a n f len false C) (zall n) := zgoal_in (fun X => zsb_F hn) (zop1_in hn hf) (zop2_in hn hf) h6 (by omega)
  have lt_n : ∀ {X : Int32} {i : Nat}, zsb X (zall n) → i < 32 → bt X i = true → i < n := fun h hi hb => by
    have := h _ hi hb
    rw [zall_bt hn hi] at this
    exact of_decide_eq_true this
  refine zsb.an ?_ ?_
  · rw [← zgl_sm hsm f len C]
    exact zgl_tf hWw ha hgo C
  have hk : f.1 (len - 1) = 6 ∨ f.1 (len - 1) = 8 ∨ f.1 (len - 1) = 7 ∨ f.1 (len - 1) = 9 := by omega
  rcases hk with k6 | k8 | k79
  · intro i hi hb
    have hin := lt_n hWin hi hb
    have := ((hsp i hin).2 hb).1 k6
    unfold zgl
    rw [k6, zgoal_6, e1, hG _ i hin]
    exact this
  · have hZ : zsb (zgl v a n f len false C) (zop1 v a n f len) := by
      unfold zgl
      rw [k8, zgoal_8]
      exact zsb_Z 13
    have hZ2 : zsb (zgl v a n f len false C) (zF (zpw v a C J n 0) a n true C (zgl v a n f len false C)) := fun i hi hb => by
      have hin := lt_n hWin hi hb
      rw [hG _ i hin]
      exact ((hsp i hin).2 hb).2.1 k8
    have := zZ_great hGm hZ hZ2 13
    have e3 : zgl (zpw v a C J n 0) a n f len true C = zZ (zF (zpw v a C J n 0) a n true C) (zop1 v a n f len) 13 := by
      unfold zgl
      rw [k8, zgoal_8, e1]
    rw [e3]
    exact this
  · obtain ⟨p, g, q1, q2, q3⟩ : ∃ p g, zgl v a n f len false C = zL (zF v a n false C) p g 12 ∧ zgl (zpw v a C J n 0) a n f len true C = zL (zF (zpw v a C J n 0) a n true C) p g 12 ∧ (∀ d q, zgk v a n f len d q = zRk (zF v a n false C) p g d 12 q) := by
      rcases k79 with k | k
      · refine ⟨zall n, zop1 v a n f len, ?_, ?_, fun d q => ?_⟩
        · unfold zgl; rw [k, zgoal_7]
        · unfold zgl; rw [k, zgoal_7, e1]
        · unfold zgk; rw [k, zrk_7, hC]
      · refine ⟨zop1 v a n f len, zop2 v a n f len, ?_, ?_, fun d q => ?_⟩
        · unfold zgl; rw [k, zgoal_9]
        · unfold zgl; rw [k, zgoal_9, e1, e2]
        · unfold zgk; rw [k, zrk_9, hC]
    rw [q1, q2]
    rw [q1] at hsp
    refine zL_key ?_ 12 (Nat.le_refl _)
    intro k i hi hk n2 n3 hW12 rk ih
    have hin : i < n := lt_n (zsb_F hn) hi n3
    have rk2 : zgk v a n f len (-9) i = nI (k + 1) := (q3 _ _).trans rk
    have hz := ((hsp i hin).2 hW12).2.2 k79 (by rw [rk2]; exact zne0 (by omega) (by omega))
    rw [rk2] at hz
    rw [hG _ i hin]
    exact zfo_m ((zbl_in hn hk q3).tr ih) hz
/-- ranks -/
theorem zgk_holds (hW : zWF a n v) {f : zFd} {len s : Nat} (hgo : zisg f len = true) (hs : s < n) (h79 : f.1 (len - 1) = 7 ∨ f.1 (len - 1) = 9) : zgk v a n f len (-9) s = -9 ↔ bt (zgl v a n f len false (nI (f.2.2.2 (len - 1)))) s = false := by
  have hn := hW.1
  obtain ⟨p, g, q1, q3⟩ : ∃ p g, zgl v a n f len false (nI (f.2.2.2 (len - 1))) = zL (zF v a n false (nI (f.2.2.2 (len - 1)))) p g 12 ∧ (∀ d q, zgk v a n f len d q = zRk (zF v a n false (nI (f.2.2.2 (len - 1)))) p g d 12 q) := by
    rcases h79 with k | k
    · refine ⟨zall n, zop1 v a n f len, ?_, fun d q => ?_⟩
      · unfold zgl; rw [k, zgoal_7]
      · unfold zgk; rw [k, zrk_7]
    · refine ⟨zop1 v a n f len, zop2 v a n f len, ?_, fun d q => ?_⟩
      · unfold zgl; rw [k, zgoal_9]
      · unfold zgk; rw [k, zrk_9]
  rw [q1]
  constructor
  · intro e
    cases hb : bt (zL (zF v a n false (nI (f.2.2.2 (len - 1)))) p g 12) s
    · rfl
    · obtain ⟨r, hr, hd⟩ := zRk_mem hb
      rw [q3, hd] at e
      exact absurd e (znm9 (by omega))
  · intro e
    rcases zgk_two (v := v) (a := a) (n := n) (f := f) (len := len) (s := s) with ⟨r, hr, hd⟩ | hd
    · have := zRk_in (F := zF v a n false (nI (f.2.2.2 (len - 1)))) (p := p) (g := g) (k := 12) (r := r) (s := s) (by decide) (by omega) (by rw [← q3]; exact hd (-9))
      obtain ⟨d, hd2⟩ := Nat.le.dest hr
      have := zL_mono this d
      rw [hd2, e] at this
      cases this
    · exact hd (-9)
end EN
