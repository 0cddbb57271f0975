/-! SMALLEST, PLAY, FINGERPRINT -/
def zpc (c : Nat) : Nat := fb_ct (bt (nI c)) 4
theorem z_bitc : ∀ c, c < 16 → m_J6_bitCount_0f7a4 (nI c) = nI (zpc c) := by decide +kernel
theorem zpc_le (c : Nat) : zpc c ≤ 4 := fb_ct_le _ 4
def zsmF (G : Nat → Bool) (N : Nat) : Nat → Nat → Int32
  | 0, _ => -9
  | k + 1, z => if zfs (fun c => decide (zpc c = z) && G c) N 0 = -9 then zsmF G N k (z + 1) else zfs (fun c => decide (zpc c = z) && G c) N 0
section SM
variable {a n : Nat} {v : Nat → Int32} {σ : St}
theorem z_fewest (hK : zK a σ) (hW : zWF a n v) (hR : zRS a n v σ 0) {t len s : Nat} {f : zFd} (ht : isF t = true) (hf : zFok a len f) (hc : zFc σ t len f) (hg9 : zisg f len = true) (hs : s < n) :
    zP (fun u => u.1 = zsmF (fun c => bt (zgl v a n f len false (nI c)) s) (2 ^ a) (a + 1) 0 ∧ zag [72, 79, 80] σ u.2) (m_X8_fewest σ t (nI s)) := by
  have hn := hW.1
  have ha := hK.2.1
  have h81 := za_81 ha
  have hnL : ∀ k, 25 ≤ k → k < 65 → k ∉ [72, 79, 80] := fun k h1 h2 h => by simp at h; omega
  generalize hG : (fun c => bt (zgl v a n f len false (nI c)) s) = G
  have hGv : ∀ c, G c = bt (zgl v a n f len false (nI c)) s := fun c => by rw [← hG]
  generalize hT : zsmF G (2 ^ a) (a + 1) 0 = T
  unfold m_X8_fewest
  refine zbind (z_look hK hW hR ht hf hc) ?_
  rintro τ0 ⟨hg0, hd0⟩
  refine zl (P := zP _) (fun z y => y.2 = nI z ∧ zag [72, 79, 80] σ y.1 ∧ (∀ q, q < len → y.1 79 q = zev v a n f len q) ∧ zsmF G (2 ^ a) (a + 1 - z) z = T) (a + 1) (by omega) ⟨nI_0.symm, hg0, hd0, hT⟩ ?_
  rintro k z ⟨τ, x⟩ hz ⟨hx, hg, hd, hI⟩ hk
  dsimp only at hx hg hd ⊢
  subst hx
  unfold m_X8_fewest_b10
  rw [hg 0 (by decide), hK.2.2.1]
  rcases Nat.lt_or_ge z (a + 1) with q | q
  · rw [if_neg (znlt (by omega) (by omega) (by omega))]
    obtain ⟨r, hr⟩ : ∃ r, a + 1 - z = r + 1 := ⟨a - z, by omega⟩
    rw [hr] at hI
    have hI2 : (if zfs (fun c => decide (zpc c = z) && G c) (2 ^ a) 0 = -9 then zsmF G (2 ^ a) r (z + 1) else zfs (fun c => decide (zpc c = z) && G c) (2 ^ a) 0) = T := hI
    generalize hp : (fun c => decide (zpc c = z) && G c) = p at hI2
    have hpv : ∀ c, p c = (decide (zpc c = z) && G c) := fun c => by rw [← hp]
    refine zl (P := zP _) (fun c y => y.2 = nI c ∧ zag [72, 79, 80] σ y.1 ∧ (∀ q, q < len → y.1 79 q = zev v a n f len q) ∧ ∀ j, j < c → p j = false) (2 ^ a) (by omega) ⟨nI_0.symm, hg, hd, fun j hj => absurd hj (Nat.not_lt_zero j)⟩ ?_
    clear hg hd τ
    rintro k2 c ⟨τ, x⟩ hc2 ⟨hx, hg, hd, hno⟩ hk2
    dsimp only at hx hg hd ⊢
    subst hx
    unfold m_X8_fewest_b24
    rw [hg 0 (by decide), hK.2.2.2.1]
    rcases Nat.lt_or_ge c (2 ^ a) with w | w
    · have step : ∀ ρ : St, zag [72, 79, 80] σ ρ → (∀ q, q < len → ρ 79 q = zev v a n f len q) → p c = false → zP (fun u => u.1 = T ∧ zag [72, 79, 80] σ u.2) (k2 (ρ, nI c + 1)) := by
        intro ρ h1 h2 h3
        rw [nI_1]
        refine hk2 w _ ⟨rfl, h1, h2, fun j hj => ?_⟩
        rcases Nat.lt_or_ge j c with e | e
        · exact hno j e
        · have : j = c := by omega
          subst this; exact h3
      rw [if_neg (znle (by omega) (by omega) w), z_bitc c (by omega)]
      have := zpc_le c
      by_cases e : zpc c = z
      · rw [if_pos (by rw [e])]
        refine zbind (z_goalSet (bp := false) (hK.g hg (by decide)) hW (hR.g hg (by decide)) hf (hc.g ht hg hnL) hg9 hd w) ?_
        rintro ⟨o, ρ⟩ ⟨ho, hg2, -⟩
        dsimp only at ho hg2 ⊢
        have hg3 : zag [72, 79, 80] σ ρ := hg.tr (hg2.sub (fun k hk => by simp at hk ⊢; omega))
        rw [ho, zsh1 _ (by omega), ← hGv]
        cases hb : G c
        · rw [if_pos zbIf]
          exact step ρ hg3 (fun q hq => by rw [hg2 79 (by decide)]; exact hd q hq) (by rw [hpv, hb, Bool.and_false])
        · rw [if_neg zbIt]
          have hit : zfs p (2 ^ a) 0 = nI c := zfs_hit (Nat.zero_le _) (by omega) (by rw [hpv, hb, decide_eq_true e]; rfl) (fun k _ hk => hno k hk)
          rw [hit, if_neg (znm9 (by omega))] at hI2
          exact zP_some ⟨hI2, hg3⟩
      · rw [if_neg (zne (by omega) (by omega) e)]
        exact step τ hg hd (by rw [hpv, decide_eq_false e, Bool.false_and])
    · have : c = 2 ^ a := by omega
      subst this
      rw [if_pos (zle (by omega) (by omega) w), nI_1]
      rw [if_pos (zfs_no (fun k _ hk => hno k (by omega)))] at hI2
      refine hk q _ ⟨rfl, hg, hd, ?_⟩
      rw [show a + 1 - (z + 1) = r by omega]
      exact hI2
  · have : z = a + 1 := by omega
    subst this
    rw [if_pos (zlt (by omega) (by omega) (by omega))]
    refine zP_some ⟨?_, hg⟩
    rw [← hI, show a + 1 - (a + 1) = 0 by omega]
    rfl
/-! play -/
/-- a move is put together of a coalition's part and the others' -/
theorem zpt_sum {a : Nat} {c o : Int32} (ho : ∀ i, i < a → bt o i = !bt c i) (m : Nat) : ∀ b, b ≤ a → zpt b c m + zpt b o m = m % 3 ^ b
  | 0, _ => (Nat.mod_one m).symm
  | b + 1, hb => by
    have ih := zpt_sum ho m b (by omega)
    have e1 : zpt (b + 1) c m = zpt b c m + (if bt c b then 3 ^ b * zdg m b else 0) := rfl
    have e2 : zpt (b + 1) o m = zpt b o m + (if bt o b then 3 ^ b * zdg m b else 0) := rfl
    rw [e1, e2, Nat.mod_pow_succ, ho b (by omega), ← ih]
    show _ = _ + 3 ^ b * zdg m b
    cases bt c b <;> simp <;> omega
theorem zplay_i {A : Nat → Nat} (hA : ∀ i, i < a → 1 ≤ A i) {c o : Int32} (ho : ∀ i, i < a → bt o i = !bt c i) {J : Nat} (hJ : zjt a A c J = true) (k : Nat) : (zpm a A (J + k) = true ∧ zpt a c (J + k) = J) ↔ zjt a A o k = true := by
  have hJp := zjt_pt hJ
  obtain ⟨hJ1, hJ2⟩ := of_decide_eq_true hJ
  constructor
  · rintro ⟨h1, h2⟩
    have h3 := zpt_sum ho (J + k) a (Nat.le_refl a)
    rw [h2, Nat.mod_eq_of_lt (zpm_lt h1)] at h3
    have : zpt a o (J + k) = k := by omega
    have h4 := zpm_zpt (c := o) hA h1
    rw [this] at h4
    exact h4
  · intro h
    have hkp := zjt_pt h
    obtain ⟨hk1, hk2⟩ := of_decide_eq_true h
    have hq : ∀ i, i < a → (if bt c i then zdg J i else zdg k i) ≤ 2 := fun i _ => by
      have := zdg_lt J i
      have := zdg_lt k i
      split <;> omega
    have hdg := fun i (hi : i < a) => zds_dg (q := fun i => if bt c i then zdg J i else zdg k i) hq hi
    have hlt := zds_lt (q := fun i => if bt c i then zdg J i else zdg k i) hq
    generalize zds (fun i => if bt c i then zdg J i else zdg k i) a = M at hdg hlt
    have e1 : zpt a c M = J := by
      rw [← hJp, zpt_ds, zpt_ds]
      exact zds_ext fun i hi => by
        rw [hdg i hi]
        cases bt c i <;> rfl
    have e2 : zpt a o M = k := by
      rw [← hkp, zpt_ds, zpt_ds]
      exact zds_ext fun i hi => by
        rw [hdg i hi, ho i hi]
        cases bt c i <;> rfl
    have h3 := zpt_sum ho M a (Nat.le_refl a)
    rw [e1, e2, Nat.mod_eq_of_lt hlt] at h3
    rw [h3]
    refine ⟨zpm_t.mpr ⟨hlt, fun i hi => ?_⟩, e1⟩
    rw [hdg i hi]
    have := (zpm_t.mp hJ1).2 i hi
    have := (zpm_t.mp hk1).2 i hi
    split <;> omega
def zcp (a : Nat) (A : Nat → Nat) (c : Int32) (J : Nat) (m : Nat) : Bool := decide (zpm a A m = true ∧ zpt a c m = J)
theorem zplay_ct {A : Nat → Nat} (hA : ∀ i, i < a → 1 ≤ A i) {c o : Int32} (ho : ∀ i, i < a → bt o i = !bt c i) {J : Nat} (hJ : zjt a A c J = true) (K : Nat) : fb_ct (zcp a A c J) (J + K) = fb_ct (zjt a A o) K := by
  have h0 : fb_ct (zcp a A c J) J = 0 := fb_ct_zero.mpr (fun k hk => decide_eq_false fun q => by
    have := zpt_le a c k
    omega)
  rw [fb_ct_split, h0, Nat.zero_add]
  apply fb_ct_cong
  intro k _
  apply Bool.eq_iff_iff.mpr
  exact ⟨fun h => (zplay_i hA ho hJ k).mp (of_decide_eq_true h), fun h => decide_eq_true ((zplay_i hA ho hJ k).mpr h)⟩
theorem zjt_cut {A : Nat → Nat} {o : Int32} {K M : Nat} (h : K ≤ M) (hz : ∀ k, K ≤ k → zjt a A o k = false) : fb_ct (zjt a A o) M = fb_ct (zjt a A o) K := by
  obtain ⟨d, rfl⟩ := Nat.le.dest h
  rw [fb_ct_split, fb_ct_zero.mpr (fun k _ => hz (K + k) (by omega)), Nat.add_zero]
theorem zjt_hi {A : Nat → Nat} {o : Int32} {k : Nat} (h : 3 ^ a ≤ k) : zjt a A o k = false := decide_eq_false fun q => absurd (zpm_lt q.1) (by omega)
theorem zplay_all {A : Nat → Nat} (hA : ∀ i, i < a → 1 ≤ A i) {c o : Int32} (ho : ∀ i, i < a → bt o i = !bt c i) {J : Nat} (hJ : zjt a A c J = true) : fb_ct (zcp a A c J) (3 ^ a) = fb_ct (zjt a A o) (3 ^ a) := by
  have hl := zpm_lt (of_decide_eq_true hJ).1
  have h1 := zplay_ct hA ho hJ (3 ^ a - J)
  rw [show J + (3 ^ a - J) = 3 ^ a by omega] at h1
  rw [h1]
  refine (zjt_cut (by omega) fun k hk => ?_).symm
  cases e : zjt a A o k
  · rfl
  · have := zpm_lt ((zplay_i hA ho hJ k).mpr e).1
    omega
theorem zjt_pm {A : Nat → Nat} (hA : ∀ i, i < a → 1 ≤ A i) (o : Int32) (j : Nat) : zjt a A o j = zpm a (fun i => if bt o i then A i else 1) j := by
  apply Bool.eq_iff_iff.mpr
  unfold zjt
  rw [decide_eq_true_iff, zpm_t, zpm_t]
  constructor
  · rintro ⟨⟨h1, h2⟩, h3⟩
    refine ⟨h1, fun i hi => ?_⟩
    cases hb : bt o i
    · rw [if_neg (by decide), h3 i hi hb]; decide
    · rw [if_pos rfl]; exact h2 i hi
  · rintro ⟨h1, h2⟩
    refine ⟨⟨h1, fun i hi => ?_⟩, fun i hi hb => ?_⟩
    · have := h2 i hi
      have := hA i hi
      split at * <;> omega
    · have := h2 i hi
      rw [hb, if_neg (by decide)] at this
      omega
theorem z_follow (hK : zK a σ) (hW : zWF a n v) (hR : zRS a n v σ 0) {c s d : Nat} (hc : c < 2 ^ a) (hs : s < n) (hd : d < 2 ^ 31) :
    zP (fun r => ∃ m, m < 3 ^ a ∧ zcp a (zac v s) (nI c) (zpj v (nI c) s a) m = true ∧ fb_ct (zcp a (zac v s) (nI c) (zpj v (nI c) s a)) m = d % fb_ct (zcp a (zac v s) (nI c) (zpj v (nI c) s a)) (3 ^ a) ∧ r = nI (znx v s m)) (m_X6_follow σ (nI c) (nI s) (nI d)) := by
  have hn := hW.1
  have ha := hK.2.1
  have h81 := za_81 ha
  have hjt := zpj_jt hW (c := nI c) hs
  have hJ3 := zpm_lt (of_decide_eq_true hjt).1
  generalize hJ : zpj v (nI c) s a = J at hjt hJ3
  have hpJ : zcp a (zac v s) (nI c) J J = true := decide_eq_true ⟨(of_decide_eq_true hjt).1, zjt_pt hjt⟩
  have hpv : ∀ m, zcp a (zac v s) (nI c) J m = decide (zpm a (zac v s) m = true ∧ zpt a (nI c) m = J) := fun _ => rfl
  generalize zcp a (zac v s) (nI c) J = p at hpJ hpv
  have hpos : 0 < fb_ct p (3 ^ a) := fb_ct_pos.mpr ⟨J, hJ3, hpJ⟩
  have hle := fb_ct_le p (3 ^ a)
  -- whether a move has the part
  have tst : ∀ {α : Type} (x y : α) (i : Nat), i < 3 ^ a → (if m_X7_target σ (nI s) (nI i) = -1 then x else if m_X6_jointPart σ (nI c) (nI i) = nI J then y else x) = if p i = true then y else x := by
    intro α x y i hi
    unfold m_X6_jointPart
    rw [z_target ha hn hK.2.2.2.2.1 hR hs hi, z_joint hK hc hi, hpv]
    have h3 : zpt a (nI c) i < 81 := Nat.lt_of_lt_of_le zpt_lt h81.1
    by_cases h1 : zpm a (zac v s) i = true
    · have hx := hW.nx hs (show i < 81 by omega)
      rw [if_pos h1, hx.1, if_neg (znm1 (by omega))]
      by_cases h2 : zpt a (nI c) i = J
      · rw [if_pos (by rw [h2]), decide_eq_true ⟨h1, h2⟩, if_pos rfl]
      · rw [if_neg (zne (by omega) (by omega) h2), decide_eq_false (fun q => h2 q.2), if_neg (by decide)]
    · rw [if_neg h1, if_pos rfl, decide_eq_false (fun q => h1 q.1), if_neg (by decide)]
  unfold m_X6_follow
  refine zbe (z_chosen hK hW hR hs) ?_
  rw [hJ]
  refine zl (P := zP _) (fun i z => z.2 = nI i ∧ z.1 = nI (fb_ct p i)) (3 ^ a) (by omega) ⟨nI_0.symm, rfl⟩ ?_
  rintro k i ⟨x, y⟩ hi ⟨hy, hx⟩ hk
  dsimp only at hx hy ⊢
  subst hx hy
  unfold m_X6_follow_b14
  rw [hK.2.2.2.2.1]
  rcases Nat.lt_or_ge i (3 ^ a) with q | q
  · rw [if_neg (znle (by omega) (by omega) q), tst _ _ i q]
    have e := fb_ct_succ p i
    cases hp : p i
    · rw [if_neg (by decide), nI_1]
      rw [hp] at e
      exact hk q _ ⟨rfl, by rw [e]; rfl⟩
    · rw [if_pos rfl, nI_1, nI_1]
      rw [hp] at e
      exact hk q _ ⟨rfl, by rw [e]; rfl⟩
  · have : i = 3 ^ a := by omega
    subst this
    have hmod := Nat.mod_lt d hpos
    rw [if_pos (zle (by omega) (by omega) q), if_neg (show ¬ nI (fb_ct p (3 ^ a)) ≤ 0 from znle (b := 0) (by omega) (by decide) hpos)]
    unfold dvz
    rw [if_neg (zne0 (by omega) (by omega)), pk_rem hd hpos (by omega)]
    clear hk
    generalize hw : d % fb_ct p (3 ^ a) = w at hmod
    refine zl (P := zP _) (fun i z => z.2 = nI i ∧ fb_ct p i ≤ w ∧ z.1 = nI (w - fb_ct p i)) (3 ^ a) (by omega) ⟨nI_0.symm, Nat.zero_le _, rfl⟩ ?_
    clear q hi k
    rintro k i ⟨x, y⟩ hi ⟨hy, hfw, hx⟩ hk
    dsimp only at hx hy ⊢
    subst hx hy
    unfold m_X6_follow_b79
    rw [hK.2.2.2.2.1]
    rcases Nat.lt_or_ge i (3 ^ a) with q | q
    · rw [if_neg (znle (by omega) (by omega) q), tst _ _ i q, nI_1]
      have e := fb_ct_succ p i
      cases hp : p i
      · rw [if_neg (by decide)]
        rw [hp] at e
        exact hk q _ ⟨rfl, by rw [e]; exact hfw, by dsimp only; rw [e]; rfl⟩
      · rw [if_pos rfl]
        rw [hp] at e
        by_cases e0 : w - fb_ct p i = 0
        · rw [if_pos (by rw [e0]; rfl)]
          have hp2 := hp
          rw [hpv] at hp2
          have hx := hW.nx hs (show i < 81 by omega)
          rw [z_target ha hn hK.2.2.2.2.1 hR hs q, if_pos (of_decide_eq_true hp2).1, hx.1]
          exact zP_some ⟨i, q, hp, by omega, rfl⟩
        · rw [if_neg (zne0 (by omega) e0)]
          obtain ⟨r, hr⟩ : ∃ r, w - fb_ct p i = r + 1 := ⟨w - fb_ct p i - 1, by omega⟩
          rw [hr, pk_m1]
          rw [if_pos rfl] at e
          exact hk q _ ⟨rfl, by omega, by dsimp only; rw [show w - fb_ct p (i + 1) = r by omega]⟩
    · have : i = 3 ^ a := by omega
      subst this
      omega
theorem zseed (x : Int32) : ∃ k, k < 2 ^ 31 ∧ m_X8_nextSeed x = nI k := pk_andE _ 31 (by decide)
theorem zcompl {a : Nat} (ha : a ≤ 4) (c : Int32) : ∀ i, i < a → bt (((1 : Int32) <<< (nI a &&& 31) - 1) &&& (c ^^^ (-1))) i = !bt c i := fun i hi => by
  rw [b_and, znot _ (by omega), show bt ((1 : Int32) <<< (nI a &&& 31) - 1) i = decide (i < a) from zall_bt (by omega) (by omega), decide_eq_true hi, Bool.true_and]
end SM
section SM2
variable {a : Nat} {σ : St}
end SM2
