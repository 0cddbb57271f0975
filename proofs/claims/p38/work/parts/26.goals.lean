/-! FIXED POINTS of both systems -/
theorem zag2 {σ τ : St} (h : zag [72] σ τ) : zag [72, 80] σ τ := h.sub (fun k hk => by simp at hk ⊢; exact Or.inl hk)
section ZG
variable {a n : Nat} {v : Nat → Int32} {σ : St}
theorem z_reached (hK : zK a σ) (hW : zWF a n v) (hR : zRS a n v σ 0) {c : Nat} (hc : c < 2 ^ a) (p g : Int32) (bp : Bool) :
    zP (fun u => u.1 = zL (zF v a n bp (nI c)) p g 12 ∧ zag [72, 80] σ u.2 ∧ ∀ s, s < 12 → u.2 80 s = zRk (zF v a n bp (nI c)) p g (-1) 12 s) (m_X3_reached σ (nI c) p g (bI bp)) := by
  generalize hF : zF v a n bp (nI c) = F
  unfold m_X3_reached
  refine zl (P := zP _) (fun i z => z.2 = nI i ∧ zag [72, 80] σ z.1 ∧ ∀ s, s < i → z.1 80 s = zRk F p g (-1) 0 s) 12 (by decide) ⟨nI_0.symm, zag.rf, fun j hj => absurd hj (Nat.not_lt_zero j)⟩ ?_
  rintro k i ⟨τ, x⟩ hi ⟨hx, hg, hd⟩ hk
  dsimp only at hx hg hd ⊢
  subst hx
  unfold m_X3_reached_b3
  rcases Nat.lt_or_ge i 12 with q | q
  · rw [if_neg (show ¬ (12 : Int32) ≤ nI i from znle (a := 12) (by decide) (by omega) q), zsh1 _ (by omega)]
    have key : ∀ w : Int32, w = zRk F p g (-1) 0 i → zP (fun u => u.1 = zL F p g 12 ∧ zag [72, 80] σ u.2 ∧ ∀ s, s < 12 → u.2 80 s = zRk F p g (-1) 12 s) (m_X3_reached_b30 τ (nI c) p g (bI bp) (nI i) w (nI i) k) := by
      intro w hw
      unfold m_X3_reached_b30
      rw [zrP (by decide) q, nI_1]
      refine hk q _ ⟨rfl, hg.up (by simp), fun s hs => ?_⟩
      dsimp only
      rw [zup_v]
      by_cases e : s = i
      · subst e; rw [if_pos ⟨rfl, rfl⟩, hw]
      · rw [if_neg (fun r => e r.2)]
        exact hd s (by omega)
    have e0 : zRk F p g (-1) 0 i = if bt g i = true then 0 else -1 := rfl
    cases hb : bt g i
    · rw [if_pos zbIf]
      exact key _ (by rw [e0, hb]; rfl)
    · rw [if_neg zbIt]
      exact key _ (by rw [e0, hb]; rfl)
  have : i = 12 := by omega
  subst this
  rw [if_pos (show (12 : Int32) ≤ nI 12 by decide)]
  refine zl (P := zP _) (fun k z => z.2.2 = nI (k + 1) ∧ z.2.1 = zL F p g k ∧ zag [72, 80] σ z.1 ∧ ∀ s, s < 12 → z.1 80 s = zRk F p g (-1) k s) 12 (by decide) ⟨rfl, rfl, hg, hd⟩ ?_
  clear hk hd hg hi q τ k
  rintro k j ⟨τ, x, y⟩ hj ⟨hy, hx, hg, hd⟩ hk
  dsimp only at hx hy hg hd ⊢
  subst hx hy
  unfold m_X3_reached_b45
  rcases Nat.lt_or_ge j 12 with q | q
  · rw [if_neg (show ¬ (12 : Int32) < nI (j + 1) from znlt (a := 12) (by decide) (by omega) (by omega))]
    refine zbind (z_forcing (hK.g hg (by decide)) hW (hR.g hg (by decide)) hc (zL F p g j) bp) ?_
    rintro ⟨o, ρ⟩ ⟨ho, hg2⟩
    dsimp only at ho hg2 ⊢
    rw [hF] at ho
    subst ho
    have hg3 := hg.tr (zag2 hg2)
    have hd3 : ∀ s, s < 12 → ρ 80 s = zRk F p g (-1) j s := fun s hs => by rw [hg2 80 (by decide)]; exact hd s hs
    refine zite (fun e => zP_some ?_) (fun e => ?_)
    · obtain ⟨h1, h2⟩ := zL_end (d := -1) (show j ≤ 12 by omega) e
      exact ⟨h1.symm, hg3, fun s hs => by rw [h2]; exact hd3 s hs⟩
    · rw [show ((p &&& (zL F p g j ^^^ (-1))) &&& F (zL F p g j)) = zadd F p (zL F p g j) from rfl]
      refine zl (P := zP _) (fun i z => z.2 = nI i ∧ zag [72, 80] σ z.1 ∧ ∀ s, s < 12 → z.1 80 s = if s < i then zRk F p g (-1) (j + 1) s else zRk F p g (-1) j s) 12 (by decide) ⟨nI_0.symm, hg3, fun s hs => by rw [if_neg (Nat.not_lt_zero s)]; exact hd3 s hs⟩ ?_
      clear hd3 hg3 hg2 hg hd
      rintro k2 i ⟨τ2, x⟩ hi ⟨hx, hg, hd⟩ hk2
      dsimp only at hx hg hd ⊢
      subst hx
      unfold m_X3_reached_b84
      rcases Nat.lt_or_ge i 12 with w | w
      · rw [if_neg (show ¬ (12 : Int32) ≤ nI i from znle (a := 12) (by decide) (by omega) w), zsh1 _ (by omega)]
        have e1 := zRk_s (F := F) (p := p) (g := g) (d := -1) j i
        cases hb : bt (zadd F p (zL F p g j)) i
        · rw [if_pos zbIf, nI_1]
          refine hk2 w _ ⟨rfl, hg, fun s hs => ?_⟩
          dsimp only
          rw [hd s hs]
          by_cases e3 : s = i
          · subst e3; rw [if_neg (by omega), if_pos (by omega), e1, hb]; rfl
          · by_cases e4 : s < i
            · rw [if_pos e4, if_pos (by omega)]
            · rw [if_neg e4, if_neg (by omega)]
        · rw [if_neg zbIt, nI_1, zrP (by decide) w]
          refine hk2 w _ ⟨rfl, hg.up (by simp), fun s hs => ?_⟩
          dsimp only
          rw [zup_v]
          by_cases e3 : s = i
          · subst e3; rw [if_pos ⟨rfl, rfl⟩, if_pos (by omega), e1, hb]; rfl
          · rw [if_neg (fun r => e3 r.2), hd s hs]
            by_cases e4 : s < i
            · rw [if_pos e4, if_pos (by omega)]
            · rw [if_neg e4, if_neg (by omega)]
      · have : i = 12 := by omega
        subst this
        rw [if_pos (show (12 : Int32) ≤ nI 12 by decide), nI_1]
        refine hk q _ ⟨rfl, rfl, hg, fun s hs => ?_⟩
        dsimp only
        rw [hd s hs, if_pos hs]
  · have : j = 12 := by omega
    subst this
    rw [if_pos (show (12 : Int32) < nI (12 + 1) by decide)]
    exact zP_some ⟨rfl, hg, hd⟩
theorem z_kept (hK : zK a σ) (hW : zWF a n v) (hR : zRS a n v σ 0) {c : Nat} (hc : c < 2 ^ a) (S : Int32) (bp : Bool) :
    zP (fun u => u.1 = zZ (zF v a n bp (nI c)) S 13 ∧ zag [72, 80] σ u.2) (m_X3_kept σ (nI c) S (bI bp)) := by
  generalize hF : zF v a n bp (nI c) = F
  unfold m_X3_kept
  refine zl (P := zP _) (fun k z => z.2.2 = nI k ∧ z.2.1 = zZ F S k ∧ zag [72, 80] σ z.1) 13 (by decide) ⟨rfl, rfl, zag.rf⟩ ?_
  rintro k j ⟨τ, x, y⟩ hj ⟨hy, hx, hg⟩ hk
  dsimp only at hx hy hg ⊢
  subst hx hy
  unfold m_X3_kept_b6
  rcases Nat.lt_or_ge j 13 with q | q
  · rw [if_neg (show ¬ (12 : Int32) < nI j from znlt (a := 12) (by decide) (by omega) (by omega))]
    refine zbind (z_forcing (hK.g hg (by decide)) hW (hR.g hg (by decide)) hc (zZ F S j) bp) ?_
    rintro ⟨o, ρ⟩ ⟨ho, hg2⟩
    dsimp only at ho hg2 ⊢
    rw [hF] at ho
    subst ho
    have hg3 := hg.tr (zag2 hg2)
    refine zite (fun e => zP_some ⟨(zZ_end (by omega) e).symm, hg3⟩) (fun e => ?_)
    rw [nI_1]
    exact hk q _ ⟨rfl, rfl, hg3⟩
  · have : j = 13 := by omega
    subst this
    rw [if_pos (show (12 : Int32) < nI 13 by decide)]
    exact zP_some ⟨rfl, hg⟩
theorem z_unavoidable (hK : zK a σ) (hW : zWF a n v) (hR : zRS a n v σ 0) {c : Nat} (hc : c < 2 ^ a) (p g : Int32) :
    zP (fun u => u.1 = zU (zF v a n false (nI c)) (zall n) p g 13 ∧ zag [72, 80] σ u.2) (m_X3_unavoidable σ (nI c) p g) := by
  generalize hF : zF v a n false (nI c) = F
  unfold m_X3_unavoidable
  rw [z_allStates hR.1]
  refine zl (P := zP _) (fun k z => z.2.2 = nI k ∧ z.2.1 = zU F (zall n) p g k ∧ zag [72, 80] σ z.1) 13 (by decide) ⟨rfl, rfl, zag.rf⟩ ?_
  rintro k j ⟨τ, x, y⟩ hj ⟨hy, hx, hg⟩ hk
  dsimp only at hx hy hg ⊢
  subst hx hy
  unfold m_X3_unavoidable_b15
  rcases Nat.lt_or_ge j 13 with q | q
  · rw [if_neg (show ¬ (12 : Int32) < nI j from znlt (a := 12) (by decide) (by omega) (by omega))]
    refine zbind (z_forcing (hK.g hg (by decide)) hW (hR.g hg (by decide)) hc (zall n &&& (zU F (zall n) p g j ^^^ (-1))) false) ?_
    rintro ⟨o, ρ⟩ ⟨ho, hg2⟩
    dsimp only at ho hg2 ⊢
    rw [hF] at ho
    subst ho
    have hg3 := hg.tr (zag2 hg2)
    refine zite (fun e => zP_some ⟨(zU_end (by omega) e).symm, hg3⟩) (fun e => ?_)
    rw [nI_1]
    exact hk q _ ⟨rfl, rfl, hg3⟩
  · have : j = 13 := by omega
    subst this
    rw [if_pos (show (12 : Int32) < nI 13 by decide)]
    exact zP_some ⟨rfl, hg⟩
/-- the states where a goal is reached -/
def zgoal (F : Int32 → Int32) (al : Int32) (kd : Nat) (s t : Int32) : Int32 :=
  if kd = 6 then F s else if kd = 7 then zL F al s 12 else if kd = 8 then zZ F s 13 else if kd = 9 then zL F s t 12 else
  if kd = 10 then al &&& (F (al &&& (s ^^^ (-1))) ^^^ (-1)) else if kd = 11 then al &&& (zZ F (al &&& (s ^^^ (-1))) 13 ^^^ (-1)) else
  if kd = 12 then al &&& (zL F al (al &&& (s ^^^ (-1))) 12 ^^^ (-1)) else zU F al s t 13
/-- a goal that has ranks: the path, the end -/
def zrk (F : Int32 → Int32) (al : Int32) (kd : Nat) (s t d : Int32) (q : Nat) : Int32 := if kd = 9 then zRk F s t d 12 q else zRk F al s d 12 q
theorem zgoal_6 (F : Int32 → Int32) (al s t : Int32) : zgoal F al 6 s t = F s := by unfold zgoal; rw [if_pos rfl]
theorem zgoal_7 (F : Int32 → Int32) (al s t : Int32) : zgoal F al 7 s t = zL F al s 12 := by unfold zgoal; rw [if_neg (by decide), if_pos rfl]
theorem zgoal_8 (F : Int32 → Int32) (al s t : Int32) : zgoal F al 8 s t = zZ F s 13 := by unfold zgoal; rw [if_neg (by decide), if_neg (by decide), if_pos rfl]
theorem zgoal_9 (F : Int32 → Int32) (al s t : Int32) : zgoal F al 9 s t = zL F s t 12 := by unfold zgoal; rw [if_neg (by decide), if_neg (by decide), if_neg (by decide), if_pos rfl]
theorem zgoal_10 (F : Int32 → Int32) (al s t : Int32) : zgoal F al 10 s t = al &&& (F (al &&& (s ^^^ (-1))) ^^^ (-1)) := by unfold zgoal; rw [if_neg (by decide), if_neg (by decide), if_neg (by decide), if_neg (by decide), if_pos rfl]
theorem zgoal_11 (F : Int32 → Int32) (al s t : Int32) : zgoal F al 11 s t = al &&& (zZ F (al &&& (s ^^^ (-1))) 13 ^^^ (-1)) := by unfold zgoal; rw [if_neg (by decide), if_neg (by decide), if_neg (by decide), if_neg (by decide), if_neg (by decide), if_pos rfl]
theorem zgoal_12 (F : Int32 → Int32) (al s t : Int32) : zgoal F al 12 s t = al &&& (zL F al (al &&& (s ^^^ (-1))) 12 ^^^ (-1)) := by unfold zgoal; rw [if_neg (by decide), if_neg (by decide), if_neg (by decide), if_neg (by decide), if_neg (by decide), if_neg (by decide), if_pos rfl]
theorem zgoal_13 (F : Int32 → Int32) (al s t : Int32) : zgoal F al 13 s t = zU F al s t 13 := by unfold zgoal; rw [if_neg (by decide), if_neg (by decide), if_neg (by decide), if_neg (by decide), if_neg (by decide), if_neg (by decide), if_neg (by decide)]
theorem zrk_7 (F : Int32 → Int32) (al s t d : Int32) (q : Nat) : zrk F al 7 s t d q = zRk F al s d 12 q := by unfold zrk; rw [if_neg (by decide)]
theorem zrk_9 (F : Int32 → Int32) (al s t d : Int32) (q : Nat) : zrk F al 9 s t d q = zRk F s t d 12 q := by unfold zrk; rw [if_pos rfl]
theorem z_strongSet (hK : zK a σ) (hW : zWF a n v) (hR : zRS a n v σ 0) {c : Nat} (hc : c < 2 ^ a) {kd : Nat} (h6 : 6 ≤ kd) (h9 : kd ≤ 9) (s t : Int32) (bp : Bool) :
    zP (fun u => u.1 = zgoal (zF v a n bp (nI c)) (zall n) kd s t ∧ zag [72, 80] σ u.2 ∧ ((kd = 7 ∨ kd = 9) → ∀ q, q < 12 → u.2 80 q = zrk (zF v a n bp (nI c)) (zall n) kd s t (-1) q)) (m_X3_strongSet σ (nI kd) (nI c) s t (bI bp)) := by
  unfold m_X3_strongSet
  have hk : kd = 6 ∨ kd = 7 ∨ kd = 8 ∨ kd = 9 := by omega
  rcases hk with rfl | rfl | rfl | rfl
  · rw [if_pos (by decide)]
    refine zbind (z_forcing hK hW hR hc s bp) ?_
    rintro ⟨o, ρ⟩ ⟨ho, hg⟩
    exact zP_some ⟨by rw [zgoal_6]; exact ho, zag2 hg, fun h => absurd h (by decide)⟩
  · rw [if_neg (by decide), if_pos (by decide), z_allStates hR.1]
    refine zbind (z_reached hK hW hR hc (zall n) s bp) ?_
    rintro ⟨o, ρ⟩ ⟨ho, hg, hr⟩
    exact zP_some ⟨by rw [zgoal_7]; exact ho, hg, fun _ q hq => by rw [zrk_7]; exact hr q hq⟩
  · rw [if_neg (by decide), if_neg (by decide), if_pos (by decide)]
    refine zbind (z_kept hK hW hR hc s bp) ?_
    rintro ⟨o, ρ⟩ ⟨ho, hg⟩
    exact zP_some ⟨by rw [zgoal_8]; exact ho, hg, fun h => absurd h (by decide)⟩
  · rw [if_neg (by decide), if_neg (by decide), if_neg (by decide), if_pos (by decide)]
    refine zbind (z_reached hK hW hR hc s t bp) ?_
    rintro ⟨o, ρ⟩ ⟨ho, hg, hr⟩
    exact zP_some ⟨by rw [zgoal_9]; exact ho, hg, fun _ q hq => by rw [zrk_9]; exact hr q hq⟩
theorem z_boxSet (hK : zK a σ) (hW : zWF a n v) (hR : zRS a n v σ 0) {c : Nat} (hc : c < 2 ^ a) {kd : Nat} (h6 : 10 ≤ kd) (h9 : kd ≤ 13) (s t : Int32) :
    zP (fun u => u.1 = zgoal (zF v a n false (nI c)) (zall n) kd s t ∧ zag [72, 80] σ u.2) (m_X3_boxSet σ (nI kd - 4) (nI c) s t) := by
  unfold m_X3_boxSet
  rw [z_allStates hR.1]
  have hk : kd = 10 ∨ kd = 11 ∨ kd = 12 ∨ kd = 13 := by omega
  rcases hk with rfl | rfl | rfl | rfl
  · rw [if_pos (by decide)]
    refine zbind (z_forcing hK hW hR hc (zall n &&& (s ^^^ (-1))) false) ?_
    rintro ⟨o, ρ⟩ ⟨ho, hg⟩
    dsimp only at ho
    subst ho
    exact zP_some ⟨by rw [zgoal_10], zag2 hg⟩
  · rw [if_neg (by decide), if_pos (by decide)]
    refine zbind (z_kept hK hW hR hc (zall n &&& (s ^^^ (-1))) false) ?_
    rintro ⟨o, ρ⟩ ⟨ho, hg⟩
    dsimp only at ho
    subst ho
    exact zP_some ⟨by rw [zgoal_11], hg⟩
  · rw [if_neg (by decide), if_neg (by decide), if_pos (by decide)]
    refine zbind (z_reached hK hW hR hc (zall n) (zall n &&& (s ^^^ (-1))) false) ?_
    rintro ⟨o, ρ⟩ ⟨ho, hg, hr⟩
    dsimp only at ho
    subst ho
    exact zP_some ⟨by rw [zgoal_12], hg⟩
  · rw [if_neg (by decide), if_neg (by decide), if_neg (by decide), if_pos (by decide)]
    refine zbind (z_unavoidable hK hW hR hc s t) ?_
    rintro ⟨o, ρ⟩ ⟨ho, hg⟩
    exact zP_some ⟨by rw [zgoal_13]; exact ho, hg⟩
/-! the reference -/
theorem zadd_c (F : Int32 → Int32) (p L : Int32) : ((F L &&& p) &&& (L ^^^ (-1))) = zadd F p L := by
  apply b_ext
  intro i hi
  unfold zadd
  rw [b_and, b_and, b_and, b_and]
  cases bt (F L) i <;> cases bt p i <;> cases bt (L ^^^ (-1)) i <;> rfl
end ZG
