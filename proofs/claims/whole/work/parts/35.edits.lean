/-! EDITS -/
theorem zh1_le {h : Nat} (hh : h ≤ 4) : zh1 h ≤ 4 := by unfold zh1; split <;> omega
section SE
variable {a : Nat} {σ : St}
theorem e_start (H : INV a σ) {n : Nat} (hW : zWF a n (σ 88)) (hR : zRS a n (σ 88) σ 0) : ∃ h τ, h ≤ 4 ∧ σ 87 3 = nI h ∧ m_X1_keep σ = some τ ∧ zag zkc σ τ ∧ zHc a τ (zpush (zpast σ) h (σ 88)) (zh1 h) ∧ zK a τ ∧ zRS a n (σ 88) τ 0 := by
  obtain ⟨hK, -, ⟨h, hh, hHc, h3⟩, -, -⟩ := id H
  obtain ⟨τ, e, hg, hH⟩ := z_keep hK.2.1 hh hHc hW hR
  refine ⟨h, τ, hh, h3, e, hg, hH, hK.g hg (by decide), hR.g hg (by decide)⟩
theorem e_ref {h : Nat} {v : Nat → Int32} {P : Nat → Nat → Int32} {σ1 : St} (hh : h ≤ 4) (h3 : σ1 87 3 = nI h) (h88 : σ1 88 = v) (hp : zpast σ1 = P) : ∃ ρ, m_X10_edit σ1 = some ρ ∧ zah [89] [3, 5] σ1 ρ ∧ ρ 87 3 = nI (zh1 h) ∧ ρ 87 5 = 0 ∧ ∀ k i, k < zh1 h → i < 1201 → zpast ρ k i = zpush P h v k i := by
  subst h88 hp
  exact r_edit hh h3
theorem e_hc {σ τ σ1 : St} (hg : zag zkc σ τ) (hg1 : zag [0, 1, 2, 3, 4] τ σ1) {k : Nat} (h : 25 ≤ k) (h2 : k ≠ 67) : σ1 k = σ k := by
  rw [hg1 k (fun q => by simp at q; omega)]
  exact hg k (zkc_out (Or.inr ⟨h, h2⟩))
theorem e_end (H : INV a σ) {h m : Nat} {τ σ1 ρ ρ' : St} (hh : h ≤ 4) (hg : zag zkc σ τ) (hH : zHc a τ (zpush (zpast σ) h (σ 88)) (zh1 h)) (hg1 : zag [0, 1, 2, 3, 4] τ σ1) (hf : σ1 0 0 = τ 0 0 ∧ σ1 0 1 = τ 0 1 ∧ σ1 0 2 = τ 0 2)
    (hgr : zah [89] [3, 5] σ1 ρ) (t3 : ρ 87 3 = nI (zh1 h)) (t5 : ρ 87 5 = 0) (tp : ∀ k i, k < zh1 h → i < 1201 → zpast ρ k i = zpush (zpast σ) h (σ 88) k i) (hg2 : zah [88] [] ρ ρ') (hW : zWF a m (ρ' 88)) (hR : zRS a m (ρ' 88) σ1 0) : INV a ρ' := by
  have e0 : τ 0 = σ 0 := hg 0 (by decide)
  refine H.ed (Q := zpush (zpast σ) h (σ 88)) (L := [88, 89]) (J := [3, 5]) (zh1_le hh) (fun k h1 h2 _ => e_hc hg hg1 h1 h2) (by rw [hf.1, hf.2.1, hf.2.2, e0]; exact ⟨rfl, rfl, rfl⟩) (hH.ag (fun k hk => hg1 k (fun q => by simp at q; omega))) ((hgr.sub (fun k hk => by simp at hk ⊢; omega) (fun _ h => h)).tr (hg2.sub (fun k hk => by simp at hk ⊢; omega) (fun k hk => absurd hk List.not_mem_nil))) (fun k hk => by simp at hk; omega) (by decide) (by rw [hg2.2 3 (by decide)]; exact t3) (fun k i hk hi => ?_) hW hR (Or.inl (by rw [hg2.2 5 (by decide)]; exact t5))
  have : zpast ρ' = zpast ρ := by unfold zpast; rw [hg2.1 89 (by decide) (by decide)]
  rw [this]
  exact tp k i hk hi
theorem r_leadsBack {s : Nat} (hs : s < 12) : zP (fun τ => zah [88] [] σ τ ∧ ∀ k, τ 88 k = if 100 * s + 10 ≤ k ∧ k < 100 * s + 91 then nI s else σ 88 k) (m_X10_leadsBack σ (nI s)) := by
  unfold m_X10_leadsBack
  refine zl (P := zP _) (fun i z => z.2 = nI i ∧ zah [88] [] σ z.1 ∧ ∀ k, z.1 88 k = if 100 * s + 10 ≤ k ∧ k < 100 * s + 10 + i then nI s else σ 88 k) 81 (by decide) ⟨nI_0.symm, zah.rf, fun k => by rw [if_neg (by omega)]⟩ ?_
  rintro k i ⟨τ, x⟩ hi ⟨hx, hg, hd⟩ hk
  dsimp only at hx hg hd ⊢
  subst hx
  unfold m_X10_leadsBack_b2
  rcases Nat.lt_or_ge i 81 with q | q
  · rw [if_neg (show ¬ (81 : Int32) ≤ nI i from znle (a := 81) (by decide) (by omega) q), show (10 : Int32) = nI 10 from rfl, z100, zck (by decide) (by omega), nI_clamp (by omega), nI_1]
    refine hk q _ ⟨rfl, hg.st (by simp) (by simp), fun k => ?_⟩
    dsimp only
    rw [zup_v, hd]
    by_cases e : k = 100 * s + 10 + i
    · rw [if_pos ⟨rfl, e⟩, if_pos (by omega)]
    · rw [if_neg (fun r => e r.2)]
      by_cases e2 : 100 * s + 10 ≤ k ∧ k < 100 * s + 10 + i
      · rw [if_pos e2, if_pos (by omega)]
      · rw [if_neg e2, if_neg (by omega)]
  · have : i = 81 := by omega
    subst this
    rw [if_pos (show (81 : Int32) ≤ nI 81 by decide)]
    exact zP_some ⟨hg, fun k => hd k⟩
theorem s_setActions (H : INV a σ) (x y z : Int32) : ∃ r σ1 σ2, m_X9_setActions σ x y z = some (r, σ1) ∧ m_X10_setActions σ1 x y z = some (r, σ2) ∧ INV a σ2 := by
  obtain ⟨n, hW, hR, hC, hr⟩ := H.zR
  have hn := hW.1
  have ha := H.1.2.1
  have h81 := za_81 ha
  unfold m_X9_setActions
  rw [z_hasPlace hR.1 H.1.2.2.1]
  have ez : m_X10_in z 1 3 = true ↔ ∃ q, 1 ≤ q ∧ q ≤ 3 ∧ z = nI q := by
    unfold m_X10_in
    constructor
    · intro h
      by_cases h1 : z < 1
      · rw [if_pos h1] at h; cases h
      · rw [if_neg h1] at h
        by_cases h2 : (3 : Int32) < z
        · rw [if_pos h2] at h; cases h
        · have : ¬ z < 0 := fun q => h1 (by rw [fa_lt] at q ⊢; rw [show (0 : Int32).toInt = 0 from by decide] at q; rw [show (1 : Int32).toInt = 1 from by decide]; omega)
          obtain ⟨q, hq, rfl⟩ := nI_of this
          exact ⟨q, zngt (b := 1) hq (by decide) h1, zngt (a := 3) (by decide) hq h2, rfl⟩
    · rintro ⟨q, h1, h2, rfl⟩
      rw [if_neg (show ¬ nI q < 1 from znlt (b := 1) (by omega) (by decide) h1), if_neg (show ¬ (3 : Int32) < nI q from znlt (a := 3) (by decide) (by omega) h2)]
  by_cases hall : (zin x n && zin y a && m_X10_in z 1 3) = false
  · refine ⟨-1, σ, σ, ?_, ?_, H⟩
    · cases h1 : (zin x n && zin y a)
      · rw [if_pos zbIf]
      · rw [if_neg zbIt]
        rw [h1, Bool.true_and] at hall
        unfold m_X10_in at hall
        by_cases q : z < 1
        · rw [if_pos q]
        · rw [if_neg q] at hall ⊢
          by_cases w : (3 : Int32) < z
          · rw [if_neg (fun e => by rw [fa_lt] at w; rw [fa_le] at e; omega)]
          · rw [if_neg w] at hall; cases hall
    · unfold m_X10_setActions
      rw [r_isState hr, r_isAgent hr, Option.bind_some]
      cases h1 : zin x n
      · rw [if_pos zbIf]
      · rw [if_neg zbIt]
        cases h2 : zin y a
        · rw [if_pos zbIf]
        · rw [if_neg zbIt]
          rw [h1, h2, Bool.true_and, Bool.true_and] at hall
          rw [hall, if_pos zbIf]
  rw [Bool.not_eq_false, Bool.and_eq_true, Bool.and_eq_true] at hall
  obtain ⟨⟨hx, hy⟩, hz⟩ := hall
  obtain ⟨s, hs, rfl⟩ := zin_t (by omega) hx
  obtain ⟨i, hi, rfl⟩ := zin_t (by omega) hy
  obtain ⟨q, hq1, hq3, rfl⟩ := ez.mp hz
  obtain ⟨h, τ, hh, h3, ek, hg, hH, hKτ, hRτ⟩ := e_start H hW hR
  rw [hx, hy, Bool.true_and, if_neg zbIt, if_neg (show ¬ nI q < 1 from znlt (b := 1) (by omega) (by decide) hq1), if_pos (show nI q ≤ 3 from zle (b := 3) (by omega) (by decide) hq3), ek, Option.bind_some]
  unfold m_X7_setActionCount
  rw [z_actionCount ha hn hRτ hs hi, z_ix4, zrP (by decide) (by omega)]
  -- the new row
  obtain ⟨w, hw⟩ : ∃ w : Nat → Int32, ∀ k, w k = if 100 * s + 10 ≤ k ∧ k < 100 * s + 91 then nI s else if k = 100 * s + 1 + i then nI q else σ 88 k := ⟨_, fun _ => rfl⟩
  have hwA : ∀ s' i', s' < n → i' < a → w (100 * s' + 1 + i') = if s' = s ∧ i' = i then nI q else σ 88 (100 * s' + 1 + i') := fun s' i' h1 h2 => by
    rw [hw, if_neg (by omega)]
    by_cases e : s' = s ∧ i' = i
    · rw [if_pos e, if_pos (by omega)]
    · rw [if_neg e, if_neg (by omega)]
  have hwW : zWF a n w := by
    refine ⟨hn, by rw [hw, if_neg (by omega), if_neg (by omega)]; exact hW.2.1, fun s' hs' => ⟨fun i' hi' => ?_, fun i' hi' => ?_, fun m hm => ?_⟩⟩
    · rw [hwA s' i' hs' hi']
      split
      · exact ⟨q, hq1, hq3, rfl⟩
      · exact (hW.2.2 s' hs').1 i' hi'
    · rw [hw, if_neg (by omega), if_neg (by omega)]
      exact (hW.2.2 s' hs').2.1 i' hi'
    · rw [hw]
      by_cases e : s' = s
      · rw [if_pos (by omega)]; exact ⟨s, hs, rfl⟩
      · rw [if_neg (by omega), if_neg (by omega)]
        exact (hW.2.2 s' hs').2.2 m hm
  have hac : ∀ s' i', s' < n → i' < a → zac w s' i' = if s' = s ∧ i' = i then q else zac (σ 88) s' i' := fun s' i' h1 h2 => by
    unfold zac
    rw [hwA s' i' h1 h2]
    split
    · exact nI_clamp (by omega)
    · rfl
  obtain ⟨σ1, e1, hg1, hl1, hl2⟩ := z_leadBack (σ := up τ 2 (s * 4 + i) (nI q)) (A := zac w s) ha hn (by rw [zup_n (by decide)]; exact hKτ.2.2.1) (by rw [zup_n (by decide)]; exact hKτ.2.2.2.2.1) hs (fun i' hi' => by
    rw [zup_v, hac s i' hs hi']
    by_cases e : i' = i
    · subst e
      rw [if_pos ⟨rfl, rfl⟩, if_pos ⟨rfl, rfl⟩]
      exact ⟨rfl, hq3⟩
    · rw [if_neg (fun r => e (by omega)), if_neg (fun r => e r.2), hRτ.2.2.1 s i' hs hi']
      exact ⟨(hW.ac hs hi').1, (hW.ac hs hi').2.2⟩)
  have hg01 : zag [0, 1, 2, 3, 4] τ σ1 := (zag.rf.up (by simp)).tr (hg1.sub (fun k hk => by simp at hk ⊢; omega))
  have c0 : σ1 0 = τ 0 := by rw [hg1 0 (by decide), zup_n (by decide)]
  have c1 : σ1 1 = τ 1 := by rw [hg1 1 (by decide), zup_n (by decide)]
  have c2 : σ1 2 = upd (τ 2) (s * 4 + i) (nI q) := by rw [hg1 2 (by decide), zup_s]
  have c3 : σ1 3 = τ 3 := by rw [hg1 3 (by decide), zup_n (by decide)]
  have hR1 : zRS a n w σ1 0 := by
    refine ⟨by rw [c0]; exact hRτ.1, fun s' hs' => ?_, fun s' i' hs' hi' => ?_, fun s' i' hs' hi' => ?_, fun s' m hs' hm => ?_⟩
    · rw [show (0 : Nat) + 1 = 1 from rfl, c1, hw, if_neg (by omega), if_neg (by omega)]
      exact hRτ.2.1 s' hs'
    · rw [show (0 : Nat) + 2 = 2 from rfl, c2, hwA s' i' hs' hi']
      by_cases e : s' = s ∧ i' = i
      · obtain ⟨rfl, rfl⟩ := e
        rw [pk_us, if_pos ⟨rfl, rfl⟩]
      · rw [pk_un (by omega), if_neg e]
        exact hRτ.2.2.1 s' i' hs' hi'
    · rw [show (0 : Nat) + 3 = 3 from rfl, c3, hw, if_neg (by omega), if_neg (by omega)]
      exact hRτ.2.2.2.1 s' i' hs' hi'
    · rw [show (0 : Nat) + 4 = 4 from rfl]
      by_cases e : s' = s
      · subst e
        have e2 : w (100 * s' + 10 + m) = nI s' := by rw [hw, if_pos (by omega)]
        rw [hl1 m hm, e2]
      · have e2 : w (100 * s' + 10 + m) = σ 88 (100 * s' + 10 + m) := by rw [hw, if_neg (by omega), if_neg (by omega)]
        rw [hl2 _ (fun m' hm' => by omega), zup_n (by decide), e2, zpm_ext (fun i' hi' => show zac w s' i' = zac (σ 88) s' i' by rw [hac s' i' hs' hi', if_neg (fun r => e r.1)])]
        exact hRτ.2.2.2.2 s' m hs' hm
  have o88 : σ1 88 = σ 88 := e_hc hg hg01 (by decide) (by decide)
  have o87 : σ1 87 = σ 87 := e_hc hg hg01 (by decide) (by decide)
  obtain ⟨ρ, e2, hgr, t3, t5, tp⟩ := e_ref (P := zpast σ) hh (by rw [o87]; exact h3) o88 (by unfold zpast; rw [e_hc hg hg01 (k := 89) (by decide) (by decide)])
  have r88 : ρ 88 = σ 88 := (hgr.1 88 (by decide) (by decide)).trans o88
  obtain ⟨ρ', e3, hg3, hw3⟩ := r_leadsBack (σ := up ρ 88 (100 * s + 1 + i) (nI q)) (s := s) (by omega)
  have hr' : ρ' 88 = w := by
    funext k
    rw [hw3, hw, zup_s, r88]
    split
    · rfl
    · by_cases e : k = 100 * s + 1 + i
      · rw [if_pos e, e, pk_us]
      · rw [if_neg e, pk_un e]
  have hr1 : zR a n (σ 88) σ1 := ⟨H.1.1, ha, by rw [o87]; exact hr.2.2.1, o88, hW⟩
  refine ⟨σ 88 (100 * s + 1 + i), σ1, ρ', ?_, ?_, e_end H hh hg hH hg01 (by rw [c0]; exact ⟨rfl, rfl, rfl⟩) hgr t3 t5 tp ((zah.rf.st (by simp) (by simp)).tr hg3) (by rw [hr']; exact hwW) (by rw [hr']; exact hR1)⟩
  · rw [e1]; rfl
  · unfold m_X10_setActions
    rw [r_isState hr1, r_isAgent hr1, hx, hy, Option.bind_some, if_neg zbIt, if_neg zbIt, hz, if_neg zbIt, e2, Option.bind_some, show (1 : Int32) = nI 1 from rfl, z100, zck (by decide) (by omega), zck (by decide) (by omega), nI_clamp (by omega), r88, e3]
    rfl
/-- an edit of one number of the row, in both systems -/
theorem e_one (H : INV a σ) {n h : Nat} {τ σ1 : St} (hW : zWF a n (σ 88)) (hh : h ≤ 4) (h3 : σ 87 3 = nI h) (hg : zag zkc σ τ) (hH : zHc a τ (zpush (zpast σ) h (σ 88)) (zh1 h)) (hg1 : zag [1, 2, 3, 4] τ σ1) (k : Nat) (x : Int32)
    (hW' : zWF a n (upd (σ 88) k x)) (hR' : zRS a n (upd (σ 88) k x) σ1 0) : zR a n (σ 88) σ1 ∧ ∃ ρ, m_X10_edit σ1 = some ρ ∧ ρ 88 = σ 88 ∧ INV a (up ρ 88 k x) := by
  have hg01 : zag [0, 1, 2, 3, 4] τ σ1 := hg1.sub (fun k hk => by simp at hk ⊢; omega)
  have c0 : σ1 0 = τ 0 := hg1 0 (by decide)
  have o88 : σ1 88 = σ 88 := e_hc hg hg01 (by decide) (by decide)
  have o87 : σ1 87 = σ 87 := e_hc hg hg01 (by decide) (by decide)
  obtain ⟨ρ, e2, hgr, t3, t5, tp⟩ := e_ref (P := zpast σ) hh (by rw [o87]; exact h3) o88 (by unfold zpast; rw [e_hc hg hg01 (k := 89) (by decide) (by decide)])
  have r88 : ρ 88 = σ 88 := (hgr.1 88 (by decide) (by decide)).trans o88
  refine ⟨⟨H.1.1, H.1.2.1, by rw [o87]; exact H.1.2.2.2.2.2.2.1, o88, hW⟩, ρ, e2, r88, e_end (m := n) H hh hg hH hg01 (by rw [c0]; exact ⟨rfl, rfl, rfl⟩) hgr t3 t5 tp (zah.rf.st (by simp) (by simp)) ?_ ?_⟩
  · rw [zup_s, r88]; exact hW'
  · rw [zup_s, r88]; exact hR'
theorem s_label (H : INV a σ) (x y z : Int32) : ∃ r σ1 σ2, m_X9_label σ x y z = some (r, σ1) ∧ m_X10_label σ1 x y z = some (r, σ2) ∧ INV a σ2 := by
  obtain ⟨n, hW, hR, hC, hr⟩ := H.zR
  have hn := hW.1
  have ha := H.1.2.1
  have h81 := za_81 ha
  unfold m_X9_label
  rw [z_hasState hR.1]
  by_cases hall : (zin x n && m_X10_in y 97 122) = false
  · refine ⟨-1, σ, σ, ?_, ?_, H⟩
    · cases h1 : zin x n
      · rw [if_pos zbIf]
      · rw [if_neg zbIt]
        rw [h1, Bool.true_and] at hall
        unfold m_X10_in at hall
        by_cases q : y < 97
        · rw [if_pos q]
        · rw [if_neg q] at hall ⊢
          by_cases w : (122 : Int32) < y
          · rw [if_neg (fun e => by rw [fa_lt] at w; rw [fa_le] at e; omega)]
          · rw [if_neg w] at hall; cases hall
    · unfold m_X10_label
      rw [r_isState hr, Option.bind_some]
      cases h1 : zin x n
      · rw [if_pos zbIf]
      · rw [if_neg zbIt]
        rw [h1, Bool.true_and] at hall
        rw [hall, if_pos zbIf]
  rw [Bool.not_eq_false, Bool.and_eq_true] at hall
  obtain ⟨hx, hy⟩ := hall
  obtain ⟨s, hs, rfl⟩ := zin_t (by omega) hx
  obtain ⟨h, τ, hh, h3, ek, hg, hH, hKτ, hRτ⟩ := e_start H hW hR
  have y1 : ¬ y < 97 := fun q => by unfold m_X10_in at hy; rw [if_pos q] at hy; cases hy
  have y2 : y ≤ 122 := by
    unfold m_X10_in at hy
    rw [if_neg y1] at hy
    by_cases w : (122 : Int32) < y
    · rw [if_pos w] at hy; cases hy
    · rw [fa_le]; rw [fa_lt] at w; omega
  rw [hx, if_neg zbIt, if_neg y1, if_pos y2, ek, Option.bind_some, z_labelSet hn hRτ hs]
  have key : ∀ w : Int32, ∃ ρ, m_X10_edit (up τ 1 s w) = some ρ ∧ ρ 88 = σ 88 ∧ INV a (up ρ 88 (100 * s) w) ∧ zR a n (σ 88) (up τ 1 s w) := by
    intro w
    have hac : ∀ s' i', s' < n → i' < a → zac (upd (σ 88) (100 * s) w) s' i' = zac (σ 88) s' i' := fun s' i' _ _ => zac_ext (pk_un (by omega))
    obtain ⟨h1, ρ, e1, e2, e3⟩ := e_one H hW hh h3 hg hH (σ1 := up τ 1 s w) (zag.rf.up (by simp)) (100 * s) w (by
      refine ⟨hn, by rw [pk_un (by omega)]; exact hW.2.1, fun s' hs' => ⟨fun i' hi' => ?_, fun i' hi' => ?_, fun m hm => ?_⟩⟩
      · rw [pk_un (by omega)]; exact (hW.2.2 s' hs').1 i' hi'
      · rw [pk_un (by omega)]; exact (hW.2.2 s' hs').2.1 i' hi'
      · rw [pk_un (by omega)]; exact (hW.2.2 s' hs').2.2 m hm) (by
      refine ⟨by rw [zup_n (by decide)]; exact hRτ.1, fun s' hs' => ?_, fun s' i' hs' hi' => ?_, fun s' i' hs' hi' => ?_, fun s' m hs' hm => ?_⟩
      · rw [show (0 : Nat) + 1 = 1 from rfl, zup_s]
        by_cases e : s' = s
        · subst e; rw [pk_us, pk_us]
        · rw [pk_un e, pk_un (by omega)]; exact hRτ.2.1 s' hs'
      · rw [zup_n (by decide), pk_un (by omega)]; exact hRτ.2.2.1 s' i' hs' hi'
      · rw [zup_n (by decide), pk_un (by omega)]; exact hRτ.2.2.2.1 s' i' hs' hi'
      · rw [zup_n (by decide), pk_un (by omega), zpm_ext (fun i' hi' => hac s' i' hs' hi')]; exact hRτ.2.2.2.2 s' m hs' hm)
    exact ⟨ρ, e1, e2, e3, h1⟩
  have fin : ∀ w : Int32, ∃ r σ1 σ2, m_X9_label_b78 τ ((1 : Int32) <<< ((y - 97) &&& 31)) (σ 88 (100 * s)) w (nI s) = some (r, σ1) ∧ (∃ ρ, m_X10_edit σ1 = some ρ ∧ ρ 88 = σ 88 ∧ m_X10_label_b75 ρ ((1 : Int32) <<< ((y - 97) &&& 31)) (σ 88 (100 * s)) w (nI (100 * s)) = some (r, σ2)) ∧ INV a σ2 ∧ zR a n (σ 88) σ1 := by
    intro w
    obtain ⟨ρ, e1, e2, e3, e4⟩ := key w
    unfold m_X9_label_b78 m_X7_setLabelSet
    rw [zrP (by decide) (by omega)]
    by_cases q : (σ 88 (100 * s) &&& ((1 : Int32) <<< ((y - 97) &&& 31))) = 0
    · refine ⟨0, _, up ρ 88 (100 * s) w, by rw [if_pos q], ⟨ρ, e1, e2, ?_⟩, e3, e4⟩
      unfold m_X10_label_b75
      rw [zck (by decide) (by omega), nI_clamp (by omega), if_pos q]
    · refine ⟨1, _, up ρ 88 (100 * s) w, by rw [if_neg q], ⟨ρ, e1, e2, ?_⟩, e3, e4⟩
      unfold m_X10_label_b75
      rw [zck (by decide) (by omega), nI_clamp (by omega), if_neg q]
  by_cases hz : z = 0
  · obtain ⟨r, σ1, σ2, f1, ⟨ρ, f2, f3, f4⟩, f5, f6⟩ := fin (σ 88 (100 * s) &&& (((1 : Int32) <<< ((y - 97) &&& 31)) ^^^ (-1)))
    refine ⟨r, σ1, σ2, by rw [if_pos hz]; exact f1, ?_, f5⟩
    unfold m_X10_label
    rw [r_isState f6, hx, Option.bind_some, if_neg zbIt, hy, if_neg zbIt, f2, Option.bind_some, z100_0, zck (by decide) (by omega), nI_clamp (by omega), f3, if_pos hz]
    exact f4
  · obtain ⟨r, σ1, σ2, f1, ⟨ρ, f2, f3, f4⟩, f5, f6⟩ := fin (σ 88 (100 * s) ||| ((1 : Int32) <<< ((y - 97) &&& 31)))
    refine ⟨r, σ1, σ2, by rw [if_neg hz]; exact f1, ?_, f5⟩
    unfold m_X10_label
    rw [r_isState f6, hx, Option.bind_some, if_neg zbIt, hy, if_neg zbIt, f2, Option.bind_some, z100_0, zck (by decide) (by omega), nI_clamp (by omega), f3, if_neg hz]
    exact f4
theorem s_plan (H : INV a σ) (x y z : Int32) : ∃ r σ1 σ2, m_X9_plan σ x y z = some (r, σ1) ∧ m_X10_plan σ1 x y z = some (r, σ2) ∧ INV a σ2 := by
  obtain ⟨n, hW, hR, hC, hr⟩ := H.zR
  have hn := hW.1
  have ha := H.1.2.1
  have h81 := za_81 ha
  unfold m_X9_plan
  rw [z_hasPlace hR.1 H.1.2.2.1]
  have e3 : m_X10_in z 0 2 = zin z 3 := zin_in (n := 3) (by decide)
  by_cases hall : (zin x n && zin y a && zin z 3) = false
  · refine ⟨-1, σ, σ, ?_, ?_, H⟩
    · cases h1 : (zin x n && zin y a)
      · rw [if_pos zbIf]
      · rw [if_neg zbIt]
        rw [h1, Bool.true_and] at hall
        rcases zin_f hall with q | q
        · rw [if_pos q]
        · by_cases w : z < 0
          · rw [if_pos w]
          · rw [if_neg w, if_neg (fun e => by rw [fa_lt] at e; rw [fa_le, show nI 3 = 3 from rfl] at q; omega)]
    · unfold m_X10_plan
      rw [r_isState hr, r_isAgent hr, Option.bind_some]
      cases h1 : zin x n
      · rw [if_pos zbIf]
      · rw [if_neg zbIt]
        cases h2 : zin y a
        · rw [if_pos zbIf]
        · rw [if_neg zbIt]
          rw [h1, h2, Bool.true_and, Bool.true_and] at hall
          rw [e3, hall, if_pos zbIf]
  rw [Bool.not_eq_false, Bool.and_eq_true, Bool.and_eq_true] at hall
  obtain ⟨⟨hx, hy⟩, hz⟩ := hall
  obtain ⟨s, hs, rfl⟩ := zin_t (by omega) hx
  obtain ⟨i, hi, rfl⟩ := zin_t (by omega) hy
  obtain ⟨q, hq3, rfl⟩ := zin_t (by decide) hz
  obtain ⟨h, τ, hh, h3, ek, hg, hH, hKτ, hRτ⟩ := e_start H hW hR
  rw [hx, hy, Bool.true_and, if_neg zbIt, if_neg (nI_pos (by omega)), if_pos (show nI q < 3 from zlt (b := 3) (by omega) (by decide) hq3), ek, Option.bind_some]
  unfold m_X7_setPlannedAction
  rw [z_plannedAction ha hn hRτ hs hi, z_ix4, zrP (by decide) (by omega)]
  have hac : ∀ s' i', s' < n → i' < a → zac (upd (σ 88) (100 * s + 5 + i) (nI q)) s' i' = zac (σ 88) s' i' := fun s' i' _ _ => zac_ext (pk_un (by omega))
  obtain ⟨h1, ρ, e1, e2, e4⟩ := e_one H hW hh h3 hg hH (σ1 := up τ 3 (s * 4 + i) (nI q)) (zag.rf.up (by simp)) (100 * s + 5 + i) (nI q) (by
    refine ⟨hn, by rw [pk_un (by omega)]; exact hW.2.1, fun s' hs' => ⟨fun i' hi' => ?_, fun i' hi' => ?_, fun m hm => ?_⟩⟩
    · rw [pk_un (by omega)]; exact (hW.2.2 s' hs').1 i' hi'
    · by_cases e : s' = s ∧ i' = i
      · obtain ⟨rfl, rfl⟩ := e
        rw [pk_us]; exact ⟨q, by omega, rfl⟩
      · rw [pk_un (by omega)]; exact (hW.2.2 s' hs').2.1 i' hi'
    · rw [pk_un (by omega)]; exact (hW.2.2 s' hs').2.2 m hm) (by
    refine ⟨by rw [zup_n (by decide)]; exact hRτ.1, fun s' hs' => ?_, fun s' i' hs' hi' => ?_, fun s' i' hs' hi' => ?_, fun s' m hs' hm => ?_⟩
    · rw [zup_n (by decide), pk_un (by omega)]; exact hRτ.2.1 s' hs'
    · rw [zup_n (by decide), pk_un (by omega)]; exact hRτ.2.2.1 s' i' hs' hi'
    · rw [show (0 : Nat) + 3 = 3 from rfl, zup_s]
      by_cases e : s' = s ∧ i' = i
      · obtain ⟨rfl, rfl⟩ := e
        rw [pk_us, pk_us]
      · rw [pk_un (by omega), pk_un (by omega)]; exact hRτ.2.2.2.1 s' i' hs' hi'
    · rw [zup_n (by decide), pk_un (by omega), zpm_ext (fun i' hi' => hac s' i' hs' hi')]; exact hRτ.2.2.2.2 s' m hs' hm)
  refine ⟨_, _, up ρ 88 (100 * s + 5 + i) (nI q), rfl, ?_, e4⟩
  unfold m_X10_plan
  rw [r_isState h1, r_isAgent h1, hx, hy, Option.bind_some, if_neg zbIt, if_neg zbIt, e3, hz, if_neg zbIt, e1, Option.bind_some, show (5 : Int32) = nI 5 from rfl, z100, zck (by decide) (by omega), zck (by decide) (by omega), nI_clamp (by omega), e2]
theorem s_setMove (H : INV a σ) (x y z : Int32) : ∃ r σ1 σ2, m_X9_setMove σ x y z = some (r, σ1) ∧ m_X10_setMove σ1 x y z = some (r, σ2) ∧ INV a σ2 := by
  obtain ⟨n, hW, hR, hC, hr⟩ := H.zR
  have hn := hW.1
  have ha := H.1.2.1
  have h81 := za_81 ha
  unfold m_X9_setMove
  rw [z_hasState hR.1]
  have bad : ∀ {P : Prop}, P → (∃ r σ1 σ2, (some ((-1 : Int32), σ)) = some (r, σ1) ∧ (some ((-1 : Int32), σ1)) = some (r, σ2) ∧ INV a σ2) := fun _ => ⟨-1, σ, σ, rfl, rfl, H⟩
  refine zin_any (x := x) (n := n) (by omega) ?_ (fun h => ?_)
  · rintro s hs rfl
    have hx := zin_nI (show n < 2 ^ 31 by omega) hs
    rcases s_target H hW hR hr hs y with ⟨m, hm, rfl, hp, e1, e2⟩ | ⟨e1, e2⟩
    · obtain ⟨hx1, hx2⟩ := hW.nx hs (show m < 81 by omega)
      rw [e2, hx1, if_neg (nI_pos (by omega))]
      refine zin_any (x := z) (n := n) (by omega) ?_ (fun h => ⟨-1, σ, σ, by rw [h, if_pos zbIf], by unfold m_X10_setMove; rw [r_isState hr, r_isState hr, hx, h, Option.bind_some, if_neg zbIt, Option.bind_some, if_pos zbIf], H⟩)
      rintro q hq rfl
      have hz := zin_nI (show n < 2 ^ 31 by omega) hq
      obtain ⟨h, τ, hh, h3, ek, hg, hH, hKτ, hRτ⟩ := e_start H hW hR
      rw [hz, if_neg zbIt, ek, Option.bind_some]
      unfold m_X7_setTarget
      rw [z_ix81, zrP (by decide) (by omega)]
      have hac : ∀ s' i', s' < n → i' < a → zac (upd (σ 88) (100 * s + 10 + m) (nI q)) s' i' = zac (σ 88) s' i' := fun s' i' _ _ => zac_ext (pk_un (by omega))
      obtain ⟨h1, ρ, e3, e4, e5⟩ := e_one H hW hh h3 hg hH (σ1 := up τ 4 (s * 81 + m) (nI q)) (zag.rf.up (by simp)) (100 * s + 10 + m) (nI q) (by
        refine ⟨hn, by rw [pk_un (by omega)]; exact hW.2.1, fun s' hs' => ⟨fun i' hi' => ?_, fun i' hi' => ?_, fun m' hm' => ?_⟩⟩
        · rw [pk_un (by omega)]; exact (hW.2.2 s' hs').1 i' hi'
        · rw [pk_un (by omega)]; exact (hW.2.2 s' hs').2.1 i' hi'
        · by_cases e : s' = s ∧ m' = m
          · obtain ⟨rfl, rfl⟩ := e
            rw [pk_us]; exact ⟨q, hq, rfl⟩
          · rw [pk_un (by omega)]; exact (hW.2.2 s' hs').2.2 m' hm') (by
        refine ⟨by rw [zup_n (by decide)]; exact hRτ.1, fun s' hs' => ?_, fun s' i' hs' hi' => ?_, fun s' i' hs' hi' => ?_, fun s' m' hs' hm' => ?_⟩
        · rw [zup_n (by decide), pk_un (by omega)]; exact hRτ.2.1 s' hs'
        · rw [zup_n (by decide), pk_un (by omega)]; exact hRτ.2.2.1 s' i' hs' hi'
        · rw [zup_n (by decide), pk_un (by omega)]; exact hRτ.2.2.2.1 s' i' hs' hi'
        · rw [show (0 : Nat) + 4 = 4 from rfl, zup_s, zpm_ext (fun i' hi' => hac s' i' hs' hi')]
          by_cases e : s' = s ∧ m' = m
          · obtain ⟨rfl, rfl⟩ := e
            rw [pk_us, pk_us, if_pos hp]
          · rw [pk_un (by omega), pk_un (by omega)]; exact hRτ.2.2.2.2 s' m' hs' hm')
      refine ⟨nI (znx (σ 88) s m), _, up ρ 88 (100 * s + 10 + m) (nI q), rfl, ?_, e5⟩
      unfold m_X10_setMove
      rw [r_isState h1, r_isState h1, hx, hz, Option.bind_some, if_neg zbIt, Option.bind_some, if_neg zbIt, r_isMove h1 hs (by omega), hp, Option.bind_some, if_neg zbIt, e3, Option.bind_some, show (10 : Int32) = nI 10 from rfl, z100, zck (by decide) (by omega), zck (by decide) (by omega), nI_clamp (by omega), e4, hx1]
    · refine ⟨-1, σ, σ, by rw [e2, if_pos (by decide)], ?_, H⟩
      unfold m_X10_setMove
      rw [r_isState hr, r_isState hr, hx, Option.bind_some, if_neg zbIt, Option.bind_some]
      cases zin z n
      · rw [if_pos zbIf]
      · rw [if_neg zbIt, e1, Option.bind_some, if_pos zbIf]
  · refine ⟨-1, σ, σ, by rw [z_target_no ha H.1.2.2.2.2.1 hR (Or.inl h), if_pos (by decide)], ?_, H⟩
    unfold m_X10_setMove
    rw [r_isState hr, h, Option.bind_some, if_pos zbIf]
end SE
