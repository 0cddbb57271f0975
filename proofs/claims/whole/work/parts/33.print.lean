section SY
variable {a : Nat} {σ : St}
theorem s_playstep {n : Nat} {v : Nat → Int32} (hK : zK a σ) (hW : zWF a n v) (hR : zRS a n v σ 0) (h : zR a n v σ) {c : Nat} (hc : c < 2 ^ a) {s d : Nat} (hs : s < n) (hd : d < 2 ^ 31) :
    ∃ m J j cnt, m < 3 ^ a ∧ m_X6_follow σ (nI c) (nI s) (nI d) = some (nI (znx v s m)) ∧ m_X10_plannedJoint σ (nI c) (nI s) = some (nI J) ∧ m_X10_jointMany σ ((((1 : Int32) <<< (nI a &&& 31)) - 1) &&& (nI c ^^^ (-1))) (nI s) = some (nI cnt) ∧ cnt ≠ 0 ∧ cnt ≤ 81 ∧ m_X10_jointAt σ ((((1 : Int32) <<< (nI a &&& 31)) - 1) &&& (nI c ^^^ (-1))) (nI s) (nI (d % cnt)) = some (nI j) ∧ J + j = m := by
  have ha := hK.2.1
  have h81 := za_81 ha
  have hcp := zcompl ha (nI c)
  generalize ((((1 : Int32) <<< (nI a &&& 31)) - 1) &&& (nI c ^^^ (-1))) = o at hcp
  have hA : ∀ i, i < a → 1 ≤ zac v s i := fun i hi => (hW.ac hs hi).2.1
  have hA3 : ∀ i, i < a → (if bt o i then zac v s i else 1) ≤ 3 := fun i hi => by
    have := (hW.ac hs hi).2.2
    split <;> omega
  have hA1 : ∀ i, i < a → 1 ≤ (if bt o i then zac v s i else 1) := fun i hi => by
    have := hA i hi
    split <;> omega
  have hjt := zpj_jt hW (c := nI c) hs
  obtain ⟨r, e1, m, hm, hp, hct, rfl⟩ := z_follow hK hW hR hc hs hd
  have hall := zplay_all hA hcp hjt
  have hcnt : fb_ct (zjt a (zac v s) o) (3 ^ a) = zpr (fun i => if bt o i then zac v s i else 1) a := by
    rw [fb_ct_cong (fun k _ => zjt_pm hA o k), zpm_cnt hA3]
  have hpos := zpr_pos (a := a) hA1
  have hle := zpr_le (a := a) hA3
  have h81c : fb_ct (zjt a (zac v s) o) 81 = fb_ct (zjt a (zac v s) o) (3 ^ a) := zjt_cut h81.1 (fun k hk => zjt_hi hk)
  obtain ⟨r2, e2, j, hj, hj2, hjc, rfl⟩ := r_jointAt (w := d % zpr (fun i => if bt o i then zac v s i else 1) a) h hs o (by rw [h81c, hcnt]; exact Nat.mod_lt _ hpos)
  refine ⟨m, _, j, _, hm, e1, r_plannedJoint h hs (nI c), r_jointMany h hs o, by omega, by omega, e2, ?_⟩
  have h1 := decide_eq_true ((zplay_i hA hcp hjt j).mpr hj2)
  refine fb_ct_kth_one (p := zcp a (zac v s) (nI c) (zpj v (nI c) s a)) h1 hp ?_
  rw [zplay_ct hA hcp hjt, hjc, hct, hall, hcnt]
theorem s_playloop {n : Nat} {v : Nat → Int32} (hK : zK a σ) (hW : zWF a n v) (hR : zRS a n v σ 0) (h : zR a n v σ) {c : Nat} (hc : c < 2 ^ a) {R : Nat} (hRd : R ≤ 200) : ∀ (k f1 f2 i s d : Nat), i + k = R → k < f1 → k < f2 → s < n → d < 2 ^ 31 →
    ∃ r, loopF (fun k z => m_X8_run_b13 σ (nI c) (nI R) z.1 z.2.1 z.2.2 k) f1 (nI s, nI d, nI i) = some r ∧ loopF (fun k z => m_X10_play_b80 σ (nI R) (nI c) ((((1 : Int32) <<< ((σ 87 0) &&& 31)) - 1) &&& (nI c ^^^ (-1))) z.1 z.2.1 z.2.2 k) f2 (nI s, nI d, nI i) = some r
  | 0, f1 + 1, f2 + 1, i, s, d, hi, _, _, hs, hd => by
    have : i = R := by omega
    subst this
    refine ⟨nI s, ?_, ?_⟩
    · show m_X8_run_b13 σ (nI c) (nI i) (nI s) (nI d) (nI i) _ = _
      unfold m_X8_run_b13
      rw [if_pos (zle (by omega) (by omega) (Nat.le_refl _))]
    · show m_X10_play_b80 σ (nI i) (nI c) _ (nI s) (nI d) (nI i) _ = _
      unfold m_X10_play_b80
      rw [if_pos (zle (by omega) (by omega) (Nat.le_refl _))]
  | k + 1, f1 + 1, f2 + 1, i, s, d, hi, h1, h2, hs, hd => by
    have hn := hW.1
    have h81 := za_81 hK.2.1
    obtain ⟨m, J, j, cnt, hm, e1, e2, e3, hc0, hc8, e4, rfl⟩ := s_playstep hK hW hR h hc hs hd
    obtain ⟨d', hd', ed⟩ := zseed (nI d)
    have hx := hW.nx hs (show J + j < 81 by omega)
    obtain ⟨r, q1, q2⟩ := s_playloop hK hW hR h hc hRd k f1 f2 (i + 1) (znx v s (J + j)) d' (by omega) (by omega) (by omega) hx.2 hd'
    refine ⟨r, ?_, ?_⟩
    · show m_X8_run_b13 σ (nI c) (nI R) (nI s) (nI d) (nI i) _ = _
      unfold m_X8_run_b13
      rw [if_neg (znle (by omega) (by omega) (by omega)), e1, Option.bind_some, ed, nI_1]
      exact q1
    · have key : ∀ kk : (Int32 × Int32 × Int32) → Option Int32, kk (nI (znx v s (J + j)), nI d', nI (i + 1)) = some r → m_X10_play_b80 σ (nI R) (nI c) ((((1 : Int32) <<< ((σ 87 0) &&& 31)) - 1) &&& (nI c ^^^ (-1))) (nI s) (nI d) (nI i) kk = some r := by
        intro kk q2
        unfold m_X10_play_b80
        rw [if_neg (znle (by omega) (by omega) (by omega)), e2, Option.bind_some, h.2.2.1, e3, Option.bind_some]
        unfold dvz
        rw [if_neg (zne0 (by omega) hc0), pk_rem hd (by omega) (by omega), e4, Option.bind_some, nI_add, show (10 : Int32) = nI 10 from rfl, z100, zck (by decide) (by omega), nI_clamp (by omega), h.2.2.2.1, hx.1, nI_1, show m_X10_stirred (nI d) = m_X8_nextSeed (nI d) from rfl, ed]
        exact q2
      exact key _ q2
  | 0, 0, _, _, _, _, _, h1, _, _, _ => absurd h1 (Nat.not_lt_zero _)
  | _, _, 0, _, _, _, _, _, h2, _, _ => absurd h2 (Nat.not_lt_zero _)
  | _ + 1, 0, _, _, _, _, _, h1, _, _, _ => absurd h1 (Nat.not_lt_zero _)
theorem s_play (H : INV a σ) (x y w z : Int32) : ∃ r, m_X9_play σ x y w z = some r ∧ m_X10_play σ x y w z = some r := by
  obtain ⟨n, hW, hR, hC, hr⟩ := H.zR
  have hn := hW.1
  unfold m_X9_play m_X10_play
  rcases s_formulaOf H x with ⟨i, len, f, hi, rfl, f1, f2, f3, ht, e1, e2⟩ | ⟨e1, e2⟩
  · have l1 := f1.1
    have l2 := f1.2.1
    rw [e1, Option.bind_some, zoFm ht, z_hasState hR.1, z_hasStr f1 f2, e2, if_neg zbIt, r_isState hr, Option.bind_some, r_isGoal (by omega) f1 f3]
    refine zin_any (x := y) (n := n) (by omega) ?_ (fun h => ⟨-1, by rw [h, if_pos zbIf], by rw [h, if_pos zbIf]⟩)
    rintro s hs rfl
    rw [zin_nI (by omega) hs, if_neg zbIt, if_neg zbIt, show m_X10_in w 0 200 = zin w 201 from zin_in (n := 201) (by decide)]
    refine zin_any (x := w) (n := 201) (by decide) ?_ ?_
    · rintro R hRd rfl
      rw [zin_nI (by decide) hRd, if_neg (nI_pos (by omega)), if_pos (show nI R ≤ 200 from zle (b := 200) (by omega) (by decide) (by omega)), if_neg zbIt]
      cases hgo : zisg f len
      · exact ⟨-3, by rw [if_pos zbIf], by rw [Option.bind_some, if_pos zbIf]⟩
      obtain ⟨hco, hc2⟩ := r_coal f1 f3 hgo
      rw [if_neg zbIt, Option.bind_some, if_neg zbIt, r_top (by omega) f1 f3, Option.bind_some, zck (by decide) (by omega), nI_clamp (by omega), hco, z_topCoal f1 f2 (zisg_t hgo).1]
      obtain ⟨d', hd', ed⟩ := zseed z
      obtain ⟨r, q1, q2⟩ := s_playloop H.1 hW hR hr hc2 (show R ≤ 200 by omega) R cFu cFu 0 s d' (by omega) (by unfold cFu; omega) (by unfold cFu; omega) hs hd'
      refine ⟨r, ?_, ?_⟩
      · unfold m_X8_run
        rw [ed, show (0 : Int32) = nI 0 from rfl, q1]
        rfl
      · rw [show m_X10_stirred z = m_X8_nextSeed z from rfl, ed]
        exact q2
    · intro h
      refine ⟨-1, ?_, by rw [h, if_pos zbIf]⟩
      rcases zin_f h with q | q
      · rw [if_pos q]
      · by_cases u : w < 0
        · rw [if_pos u]
        · rw [if_neg u, if_neg]
          intro e
          rw [fa_le] at e q
          rw [show (200 : Int32).toInt = 200 from by decide] at e
          rw [nI_toInt (by decide)] at q
          omega
  · rw [e1, e2, Option.bind_some, if_pos zbIf]
    exact ⟨-1, rfl, rfl⟩
/-! fingerprint -/
def zmA (v : Nat → Int32) (s : Nat) (h : Int64) : Nat → Int64
  | 0 => h
  | i + 1 => ((zmA v s h i * 31 + (v (100 * s + 1 + i)).toInt64) * 31) + (v (100 * s + 5 + i)).toInt64
def zmM (v : Nat → Int32) (a s : Nat) (h : Int64) : Nat → Int64
  | 0 => h
  | m + 1 => if zpm a (zac v s) m = true then zmM v a s h m * 31 + (v (100 * s + 10 + m)).toInt64 else zmM v a s h m
def zmS (v : Nat → Int32) (a : Nat) (h : Int64) : Nat → Int64
  | 0 => h
  | s + 1 => zmM v a s (zmA v s (zmS v a h s * 31 + (v (100 * s)).toInt64) a) 81
theorem zmM_cut (v : Nat → Int32) (a s : Nat) (h : Int64) : ∀ k, zmM v a s h (3 ^ a + k) = zmM v a s h (3 ^ a)
  | 0 => rfl
  | k + 1 => by
    have e : zmM v a s h (3 ^ a + (k + 1)) = if zpm a (zac v s) (3 ^ a + k) = true then zmM v a s h (3 ^ a + k) * 31 + (v (100 * s + 10 + (3 ^ a + k))).toInt64 else zmM v a s h (3 ^ a + k) := rfl
    rw [e, if_neg (fun q => absurd (zpm_lt q) (by omega)), zmM_cut v a s h k]
theorem z_mix {n : Nat} {v : Nat → Int32} (hK : zK a σ) (hW : zWF a n v) (hR : zRS a n v σ 0) (h0 : Int64) : m_X7_mix σ h0 = some (zmS v a (h0 * 31 + (nI n).toInt64) n) := by
  have hn := hW.1
  have ha := hK.2.1
  have h81 := za_81 ha
  unfold m_X7_mix
  rw [hR.1]
  generalize h0 * 31 + (nI n).toInt64 = h1
  refine zl_e (fun s => (zmS v a h1 s, nI s)) n (by omega) rfl ?_
  intro k s hs hk
  unfold m_X7_mix_b15
  rw [hR.1]
  dsimp only
  rcases Nat.lt_or_ge s n with q | q
  · have hk := hk q
    rw [if_neg (znle (by omega) (by omega) q), z_labelSet hn hR q]
    have ez : zmS v a h1 (s + 1) = zmM v a s (zmA v s (zmS v a h1 s * 31 + (v (100 * s)).toInt64) a) 81 := rfl
    rw [ez] at hk
    generalize zmS v a h1 s * 31 + (v (100 * s)).toInt64 = h2 at hk ⊢
    refine zl_e (fun i => (zmA v s h2 i, nI i)) a (by omega) rfl ?_
    intro k2 i hi hk2
    unfold m_X7_mix_b41
    rw [hK.2.2.1]
    dsimp only
    rcases Nat.lt_or_ge i a with w | w
    · rw [if_neg (znle (by omega) (by omega) w), z_actionCount ha hn hR q w, z_plannedAction ha hn hR q w, nI_1]
      exact hk2 w
    · have : i = a := by omega
      subst this
      rw [if_pos (zle (by omega) (by omega) w)]
      obtain ⟨d, hd⟩ := Nat.le.dest h81.1
      have ec := zmM_cut v i s (zmA v s h2 i) d
      rw [hd] at ec
      rw [ec] at hk
      generalize zmA v s h2 i = h3 at hk ⊢
      refine zl_e (fun m => (zmM v i s h3 m, nI m)) (3 ^ i) (by omega) rfl ?_
      intro k3 m hm hk3
      unfold m_X7_mix_b91
      rw [hK.2.2.2.2.1]
      dsimp only
      rcases Nat.lt_or_ge m (3 ^ i) with u | u
      · have hk3 := hk3 u
        have ez : zmM v i s h3 (m + 1) = if zpm i (zac v s) m = true then zmM v i s h3 m * 31 + (v (100 * s + 10 + m)).toInt64 else zmM v i s h3 m := rfl
        rw [ez] at hk3
        rw [if_neg (znle (by omega) (by omega) u), z_target ha hn hK.2.2.2.2.1 hR q u, nI_1]
        by_cases hp : zpm i (zac v s) m = true
        · rw [if_pos hp] at hk3 ⊢
          rw [if_neg (by rw [(hW.nx q (show m < 81 by omega)).1]; exact znm1 (by have := (hW.nx q (show m < 81 by omega)).2; omega))]
          exact hk3
        · rw [if_neg hp] at hk3 ⊢
          rw [if_pos rfl]
          exact hk3
      · have : m = 3 ^ i := by omega
        subst this
        rw [if_pos (zle (by omega) (by omega) u), nI_1]
        exact hk
  · have : s = n := by omega
    subst this
    rw [if_pos (zle (by omega) (by omega) q)]
theorem s_fingerprint (H : INV a σ) : ∃ r, m_X9_fingerprint σ = some r ∧ m_X10_fingerprint σ = some r := by
  obtain ⟨n, hW, hR, hC, hr⟩ := H.zR
  have hn := hW.1
  have ha := H.1.2.1
  have h81 := za_81 ha
  obtain ⟨-, -, -, -, mf, hmf, hf1, hf2, -⟩ := id H
  generalize hv : σ 88 = v at hW hR hC hr
  unfold m_X9_fingerprint m_X10_fingerprint
  rw [z_mix H.1 hW hR, hf1]
  refine ⟨_, rfl, ?_⟩
  rw [show (1200 : Int32) = nI 1200 from rfl, zck (by decide) (by decide), hv, hW.2.1, show (41 : Int64) * 31 + (nI n).toInt64 = 1271 + (nI n).toInt64 from rfl]
  generalize (1271 : Int64) + (nI n).toInt64 = h1
  refine zl_e (fun s => (zmS v a h1 s, nI s)) n (by omega) rfl ?_
  intro k s hs hk
  unfold m_X10_fingerprint_b16
  rw [show (1200 : Int32) = nI 1200 from rfl, zck (by decide) (by decide), hv, hW.2.1]
  dsimp only
  rcases Nat.lt_or_ge s n with q | q
  · have hk := hk q
    rw [if_neg (znle (by omega) (by omega) q), z100_0, zck (by decide) (by omega), nI_clamp (by omega)]
    have ez : zmS v a h1 (s + 1) = zmM v a s (zmA v s (zmS v a h1 s * 31 + (v (100 * s)).toInt64) a) 81 := rfl
    rw [ez] at hk
    rw [Int64.mul_comm 31]
    generalize zmS v a h1 s * 31 + (v (100 * s)).toInt64 = h2 at hk ⊢
    refine zl_e (fun i => (zmA v s h2 i, nI i)) a (by omega) rfl ?_
    intro k2 i hi hk2
    unfold m_X10_fingerprint_b50
    rw [hr.2.2.1]
    dsimp only
    rcases Nat.lt_or_ge i a with w | w
    · have hk2 := hk2 w
      rw [if_neg (znle (by omega) (by omega) w), show (1 : Int32) = nI 1 from rfl, show (5 : Int32) = nI 5 from rfl, z100, z100, zck (by decide) (by omega), zck (by decide) (by omega), nI_clamp (by omega), nI_clamp (by omega), hv, Int64.mul_comm 31, Int64.mul_comm 31, nI_add]
      exact hk2
    · have : i = a := by omega
      subst this
      rw [if_pos (zle (by omega) (by omega) w)]
      generalize zmA v s h2 i = h3 at hk ⊢
      refine zl_e (fun m => (zmM v i s h3 m, nI m)) 81 (by omega) rfl ?_
      intro k3 m hm hk3
      unfold m_X10_fingerprint_b110
      dsimp only
      rcases Nat.lt_or_ge m 81 with u | u
      · have hk3 := hk3 u
        have ez : zmM v i s h3 (m + 1) = if zpm i (zac v s) m = true then zmM v i s h3 m * 31 + (v (100 * s + 10 + m)).toInt64 else zmM v i s h3 m := rfl
        rw [ez] at hk3
        rw [if_neg (show ¬ (81 : Int32) ≤ nI m from znle (a := 81) (by decide) (by omega) u), r_isMove hr q u, Option.bind_some]
        unfold m_X10_fingerprint_b153
        cases hp : zpm i (zac v s) m
        · rw [hp, if_neg (by decide)] at hk3
          rw [if_pos zbIf, nI_1]
          exact hk3
        · rw [hp, if_pos rfl] at hk3
          rw [if_neg zbIt, show (10 : Int32) = nI 10 from rfl, z100, zck (by decide) (by omega), nI_clamp (by omega), hv, Int64.mul_comm 31, nI_1]
          exact hk3
      · have : m = 81 := by omega
        subst this
        rw [if_pos (show (81 : Int32) ≤ nI 81 by decide), nI_1]
        exact hk
  · have : s = n := by omega
    subst this
    rw [if_pos (zle (by omega) (by omega) q), hf2, Int64.mul_comm 31]
end SY
