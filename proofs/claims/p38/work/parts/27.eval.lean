/-! FORMULAS and where their parts hold -/
abbrev zFd : Type := (Nat → Nat) × (Nat → Nat) × (Nat → Nat) × (Nat → Nat)
def zbin (k : Nat) : Prop := k = 4 ∨ k = 5 ∨ k = 9 ∨ k = 13
def zFok (a len : Nat) (f : zFd) : Prop := 1 ≤ len ∧ len ≤ 60 ∧ ∀ p, p < len → f.1 p ≤ 13 ∧ (f.1 p = 2 → f.2.2.2 p < 26) ∧ (3 ≤ f.1 p → f.2.1 p < p) ∧ (zbin (f.1 p) → f.2.2.1 p < p) ∧ (6 ≤ f.1 p → f.2.2.2 p < 2 ^ a)
def zFc (σ : St) (t len : Nat) (f : zFd) : Prop := σ t 4 = nI len ∧ ∀ p, p < len → σ (t + 1) p = nI (f.1 p) ∧ ((f.1 p = 2 ∨ 6 ≤ f.1 p) → σ (t + 4) p = nI (f.2.2.2 p)) ∧ (3 ≤ f.1 p → σ (t + 2) p = nI (f.2.1 p)) ∧ (zbin (f.1 p) → σ (t + 3) p = nI (f.2.2.1 p))
theorem zFc.g {σ τ : St} {L : List Nat} {t len : Nat} {f : zFd} (h : zFc σ t len f) (ht : isF t = true) (hg : zag L σ τ) (hL : ∀ k, 25 ≤ k → k < 65 → k ∉ L) : zFc τ t len f := by
  have := isF_cases ht
  unfold zFc at h ⊢
  rw [hg t (hL _ (by omega) (by omega)), hg (t + 1) (hL _ (by omega) (by omega)), hg (t + 2) (hL _ (by omega) (by omega)), hg (t + 3) (hL _ (by omega) (by omega)), hg (t + 4) (hL _ (by omega) (by omega))]
  exact h
def zlab (v : Nat → Int32) (n l : Nat) : Int32 := zmk (fun s => bt (v (100 * s)) l) n
def zpv (v : Nat → Int32) (a n : Nat) (f : zFd) (S : Nat → Int32) (p : Nat) : Int32 :=
  if f.1 p = 0 then 0 else if f.1 p = 1 then zall n else if f.1 p = 2 then zlab v n (f.2.2.2 p) else if f.1 p = 3 then zall n &&& (S (f.2.1 p) ^^^ (-1)) else
  if f.1 p = 4 then S (f.2.1 p) &&& S (f.2.2.1 p) else if f.1 p = 5 then S (f.2.1 p) ||| S (f.2.2.1 p) else
  zgoal (zF v a n false (nI (f.2.2.2 p))) (zall n) (f.1 p) (S (f.2.1 p)) (if f.1 p = 9 ∨ f.1 p = 13 then S (f.2.2.1 p) else 0)
def zev (v : Nat → Int32) (a n : Nat) (f : zFd) : Nat → Nat → Int32
  | 0 => fun _ => 0
  | p + 1 => upd (zev v a n f p) p (zpv v a n f (zev v a n f p) p)
theorem zev_s {v : Nat → Int32} {a n : Nat} {f : zFd} (p q : Nat) : zev v a n f (p + 1) q = if q = p then zpv v a n f (zev v a n f p) p else zev v a n f p q := rfl
theorem zgoal_t {F : Int32 → Int32} {al s t t' : Int32} {kd : Nat} (h : ¬ (kd = 9 ∨ kd = 13)) (h6 : 6 ≤ kd) (h13 : kd ≤ 13) : zgoal F al kd s t = zgoal F al kd s t' := by
  have : kd = 6 ∨ kd = 7 ∨ kd = 8 ∨ kd = 10 ∨ kd = 11 ∨ kd = 12 := by omega
  rcases this with rfl | rfl | rfl | rfl | rfl | rfl
  · rw [zgoal_6, zgoal_6]
  · rw [zgoal_7, zgoal_7]
  · rw [zgoal_8, zgoal_8]
  · rw [zgoal_10, zgoal_10]
  · rw [zgoal_11, zgoal_11]
  · rw [zgoal_12, zgoal_12]
/-! sets of states -/
theorem zsb_0 (x : Int32) : zsb 0 x := fun i _ h => by rw [b_0] at h; cases h
theorem zsb_F {v : Nat → Int32} {a n : Nat} {bp : Bool} {c X : Int32} (hn : n ≤ 12) : zsb (zF v a n bp c X) (zall n) := fun i hi h => by
  rw [zall_bt hn hi]
  exact decide_eq_true (zF_in hn hi h)
theorem zsb_mk {p : Nat → Bool} {n : Nat} (hn : n ≤ 12) : zsb (zmk p n) (zall n) := fun i hi h => by
  rw [zmk_bt (by omega) hi, Bool.and_eq_true] at h
  rw [zall_bt hn hi]
  exact h.1
theorem zsb_o {x y z : Int32} (h : zsb x z) (h2 : zsb y z) : zsb (x ||| y) z := fun i hi q => by
  rw [b_or, Bool.or_eq_true] at q
  rcases q with q | q
  · exact h i hi q
  · exact h2 i hi q
theorem zsb_L {F : Int32 → Int32} {al p g : Int32} (hF : ∀ X, zsb (F X) al) (hg : zsb g al) : ∀ k, zsb (zL F p g k) al
  | 0 => hg
  | k + 1 => zsb_o (zsb_L hF hg k) (zsb_and2.tr (hF _))
theorem zsb_Z {F : Int32 → Int32} {S : Int32} : ∀ k, zsb (zZ F S k) S
  | 0 => zsb.rf
  | k + 1 => zsb_and.tr (zsb_Z k)
theorem zsb_U {F : Int32 → Int32} {al p g : Int32} (hp : zsb p al) (hg : zsb g al) : ∀ k, zsb (zU F al p g k) al
  | 0 => hg
  | _ + 1 => zsb_o hg (zsb_and.tr hp)
theorem zgoal_in {F : Int32 → Int32} {al s t : Int32} {kd : Nat} (hF : ∀ X, zsb (F X) al) (hs : zsb s al) (ht : zsb t al) (h6 : 6 ≤ kd) (h13 : kd ≤ 13) : zsb (zgoal F al kd s t) al := by
  have : kd = 6 ∨ kd = 7 ∨ kd = 8 ∨ kd = 9 ∨ kd = 10 ∨ kd = 11 ∨ kd = 12 ∨ kd = 13 := by omega
  rcases this with rfl | rfl | rfl | rfl | rfl | rfl | rfl | rfl
  · rw [zgoal_6]; exact hF _
  · rw [zgoal_7]; exact zsb_L hF hs _
  · rw [zgoal_8]; exact (zsb_Z _).tr hs
  · rw [zgoal_9]; exact zsb_L hF ht _
  · rw [zgoal_10]; exact zsb_and
  · rw [zgoal_11]; exact zsb_and
  · rw [zgoal_12]; exact zsb_and
  · rw [zgoal_13]; exact zsb_U hs ht _
theorem zev_in {v : Nat → Int32} {a n : Nat} {f : zFd} {len : Nat} (hn : n ≤ 12) (hf : zFok a len f) : ∀ p, p ≤ len → ∀ q, zsb (zev v a n f p q) (zall n)
  | 0, _, q => zsb_0 _
  | p + 1, hp, q => by
    have ih := zev_in (v := v) hn hf p (by omega)
    rw [zev_s]
    split
    · obtain ⟨h13, -⟩ := hf.2.2 p (by omega)
      unfold zpv
      split
      · exact zsb_0 _
      split
      · exact zsb.rf
      split
      · exact zsb_mk hn
      split
      · exact zsb_and
      split
      · exact zsb_and.tr (ih _)
      split
      · exact zsb_o (ih _) (ih _)
      · refine zgoal_in (fun X => zsb_F hn) (ih _) ?_ (by omega) h13
        split
        · exact ih _
        · exact zsb_0 _
    · exact ih q
theorem zshb (b : Bool) {i : Nat} (hi : i < 32) : bI b <<< (nI i &&& 31) = if b then zbit i else 0 := by
  cases b
  · apply b_ext
    intro j hj
    rw [b_shl i hi _ hj, show bI false = 0 from rfl, b_0, if_neg (by decide), b_0, Bool.and_false]
  · rfl
section ZE
variable {a n : Nat} {v : Nat → Int32} {σ : St}
theorem z_labelled (hn : n ≤ 12) (hR : zRS a n v σ 0) {l : Nat} (hl : l < 26) : m_X3_labelled σ (nI l) = some (zlab v n l) := by
  unfold m_X3_labelled zlab
  refine zl_e (fun i => (zmk (fun s => bt (v (100 * s)) l) i, nI i)) n (by omega) rfl ?_
  intro k i hi hk
  unfold m_X3_labelled_b4
  rw [hR.1]
  dsimp only
  rcases Nat.lt_or_ge i n with q | q
  · have hk := hk q
    rw [zmk_s] at hk
    rw [if_neg (znle (by omega) (by omega) q), z_labelSet hn hR q, zsh1 _ (by omega), zshb _ (by omega), nI_1, ← hk]
    cases bt (v (100 * i)) l
    · rw [if_neg (by decide), if_neg (by decide), Int32.or_zero]
    · rfl
  · have : i = n := by omega
    subst this
    rw [if_pos (zle (by omega) (by omega) q)]
theorem z_look (hK : zK a σ) (hW : zWF a n v) (hR : zRS a n v σ 0) {t len : Nat} {f : zFd} (ht : isF t = true) (hf : zFok a len f) (hc : zFc σ t len f) :
    zP (fun τ => zag [72, 79, 80] σ τ ∧ ∀ q, q < len → τ 79 q = zev v a n f len q) (m_X3_look σ t) := by
  have hn := hW.1
  have hnL : ∀ k, 25 ≤ k → k < 65 → k ∉ [72, 79, 80] := fun k h1 h2 h => by simp at h; omega
  unfold m_X3_look
  refine zl (P := zP _) (fun i z => z.2 = nI i ∧ zag [72, 79, 80] σ z.1 ∧ ∀ q, q < i → z.1 79 q = zev v a n f i q) len (by have := hf.2.1; omega) ⟨nI_0.symm, zag.rf, fun j hj => absurd hj (Nat.not_lt_zero j)⟩ ?_
  rintro k i ⟨τ, x⟩ hi ⟨hx, hg, hd⟩ hk
  dsimp only at hx hg hd ⊢
  subst hx
  have hl60 := hf.2.1
  have hcτ : zFc τ t len f := hc.g ht hg hnL
  unfold m_X3_look_b2
  rw [hcτ.1]
  rcases Nat.lt_or_ge i len with q | q
  · rw [if_neg (znle (by omega) (by omega) q)]
    obtain ⟨o1, o2, o3, o4, o5⟩ := hf.2.2 i q
    obtain ⟨c1, c2, c3, c4⟩ := hcτ.2 i q
    have ek : m_X0_kind τ t (nI i) = nI (f.1 i) := by unfold m_X0_kind; rw [zrA (by decide) (by omega)]; exact c1
    have hKτ := hK.g hg (by decide)
    have hRτ := hR.g hg (by decide)
    have fin : ∀ (ρ : St) (w : Int32), zag [72, 80] τ ρ → w = zpv v a n f (zev v a n f i) i → zP (fun τ => zag [72, 79, 80] σ τ ∧ ∀ q, q < len → τ 79 q = zev v a n f len q) (m_X3_look_b127 ρ t (nI i) w k) := by
      intro ρ w hg2 hw
      unfold m_X3_look_b127
      rw [zrP (by decide) (by omega), nI_1]
      have hg3 : zag [72, 79, 80] σ ρ := hg.tr (hg2.sub (fun k hk => by simp at hk ⊢; omega))
      refine hk q _ ⟨rfl, hg3.up (by simp), fun s hs => ?_⟩
      dsimp only
      rw [zup_v, zev_s]
      by_cases e : s = i
      · subst e; rw [if_pos ⟨rfl, rfl⟩, if_pos rfl, hw]
      · rw [if_neg (fun r => e r.2), if_neg e, hg2 79 (by decide)]
        exact hd s (by omega)
    rw [ek]
    have es : ∀ {u : Nat}, u < i → rAt 60 (τ 79) (nI u) = zev v a n f i u := fun hu => by rw [zrA (by decide) (by omega)]; exact hd _ hu
    have e1 : 3 ≤ f.1 i → rAt 60 (τ 79) (m_X0_first τ t (nI i)) = zev v a n f i (f.2.1 i) := fun h3 => by
      have : m_X0_first τ t (nI i) = nI (f.2.1 i) := by unfold m_X0_first; rw [zrA (by decide) (by omega)]; exact c3 h3
      rw [this, es (o3 h3)]
    have e2 : zbin (f.1 i) → rAt 60 (τ 79) (m_X0_second τ t (nI i)) = zev v a n f i (f.2.2.1 i) := fun h3 => by
      have : m_X0_second τ t (nI i) = nI (f.2.2.1 i) := by unfold m_X0_second; rw [zrA (by decide) (by omega)]; exact c4 h3
      rw [this, es (o4 h3)]
    have e3 : (f.1 i = 2 ∨ 6 ≤ f.1 i) → m_X0_detail τ t (nI i) = nI (f.2.2.2 i) := fun h3 => by unfold m_X0_detail; rw [zrA (by decide) (by omega)]; exact c2 h3
    by_cases k2 : f.1 i = 2
    · rw [if_pos (by rw [k2]; rfl), e3 (Or.inl k2)]
      refine zbe (z_labelled hn hRτ (o2 k2)) (fin _ _ zag.rf ?_)
      unfold zpv
      rw [if_neg (by omega), if_neg (by omega), if_pos k2]
    rw [if_neg (show ¬ nI (f.1 i) = 2 from zne (b := 2) (by omega) (by decide) k2)]
    rcases Nat.lt_or_ge (f.1 i) 6 with k6 | k6
    · rw [if_neg (show ¬ (6 : Int32) ≤ nI (f.1 i) from znle (a := 6) (by decide) (by omega) k6)]
      refine fin _ _ zag.rf ?_
      unfold m_X3_plainSet zpv
      rw [z_allStates hRτ.1]
      have hcs : f.1 i = 0 ∨ f.1 i = 1 ∨ f.1 i = 3 ∨ f.1 i = 4 ∨ f.1 i = 5 := by omega
      rcases hcs with h | h | h | h | h
      · rw [h]; rfl
      · rw [h]; rfl
      · rw [e1 (by omega), h]; rfl
      · rw [e1 (by omega), e2 (by unfold zbin; omega), h]; rfl
      · rw [e1 (by omega), e2 (by unfold zbin; omega), h]; rfl
    · rw [if_pos (show (6 : Int32) ≤ nI (f.1 i) from zle (a := 6) (by decide) (by omega) k6), e1 (by omega), e3 (Or.inr k6)]
      have hz : zpv v a n f (zev v a n f i) i = zgoal (zF v a n false (nI (f.2.2.2 i))) (zall n) (f.1 i) (zev v a n f i (f.2.1 i)) (if f.1 i = 9 ∨ f.1 i = 13 then zev v a n f i (f.2.2.1 i) else 0) := by
        unfold zpv
        rw [if_neg (by omega), if_neg (by omega), if_neg (by omega), if_neg (by omega), if_neg (by omega), if_neg (by omega)]
      have hz2 : zgoal (zF v a n false (nI (f.2.2.2 i))) (zall n) (f.1 i) (zev v a n f i (f.2.1 i)) (rAt 60 (τ 79) (m_X0_second τ t (nI i))) = zpv v a n f (zev v a n f i) i := by
        rw [hz]
        by_cases e : f.1 i = 9 ∨ f.1 i = 13
        · rw [if_pos e, e2 (by unfold zbin; omega)]
        · exact zgoal_t e k6 o1
      rcases Nat.lt_or_ge 9 (f.1 i) with k9 | k9
      · rw [if_pos (show (9 : Int32) < nI (f.1 i) from zlt (a := 9) (by decide) (by omega) k9)]
        refine zbind (z_boxSet hKτ hW hRτ (o5 k6) k9 o1 _ _) ?_
        rintro ⟨o, ρ⟩ ⟨ho, hg2⟩
        dsimp only at ho hg2 ⊢
        exact fin ρ o hg2 (ho.trans hz2)
      · rw [if_neg (show ¬ (9 : Int32) < nI (f.1 i) from znlt (a := 9) (by decide) (by omega) k9)]
        refine zbind (z_strongSet (bp := false) hKτ hW hRτ (o5 k6) k6 k9 _ _) ?_
        rintro ⟨o, ρ⟩ ⟨ho, hg2, -⟩
        dsimp only at ho hg2 ⊢
        exact fin ρ o hg2 (ho.trans hz2)
  · have : i = len := by omega
    subst this
    rw [if_pos (zle (by omega) (by omega) q)]
    exact zP_some ⟨hg, hd⟩
/-! the reference -/
theorem z60 (i p : Nat) : 60 * nI i + nI p = nI (60 * i + p) := by
  rw [show (60 : Int32) = nI 60 from rfl, pk_mul, nI_add]
end ZE
