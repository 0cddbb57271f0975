section SY
variable {a : Nat} {σ : St}
/-! fingerprint -/
def zmA (v : Nat → Int32) (s : Nat) (h : Int64) : Nat → Int64
  | 0 => h
  | i + 1 => ((zmA v s h i * 31 + (v (100 * s + 1 + i)).toInt64) * 31) + (v (100 * s + 5 + i)).toInt64
def zmM (v : Nat → Int32) (a s : Nat) (h : Int64) : Nat → Int64
  | 0 => h
  | m + 1 => if zpm a (zac v s) m = true then zmM v a s h m * 31 + (v (100 * s + 10 + m)).toInt64 else zmM v a s h m
def zmS (v : Nat → Int32) (a : Nat) (h : Int64) : Nat → Int64
  | 0 => h
  | s + 1 => zmM v a s (zmA v s (zmS v a h s * 31 + (v (100 * s)).toInt64) a) 81
theorem zmM_cut (v : Nat → Int32) (a s : Nat) (h : Int64) : ∀ k, zmM v a s h (3 ^ a + k) = zmM v a s h (3 ^ a)
  | 0 => rfl
  | k + 1 => by
    have e : zmM v a s h (3 ^ a + (k + 1)) = if zpm a (zac v s) (3 ^ a + k) = true then zmM v a s h (3 ^ a + k) * 31 + (v (100 * s + 10 + (3 ^ a + k))).toInt64 else zmM v a s h (3 ^ a + k) := rfl
    rw [e, if_neg (fun q => absurd (zpm_lt q) (by omega)), zmM_cut v a s h k]
theorem z_mix {n : Nat} {v : Nat → Int32} (hK : zK a σ) (hW : zWF a n v) (hR : zRS a n v σ 0) (h0 : Int64) : m_X7_mix σ h0 = some (zmS v a (h0 * 31 + (nI n).toInt64) n) := by
  have hn := hW.1
  have ha := hK.2.1
  have h81 := za_81 ha
  unfold m_X7_mix
  rw [hR.1]
  generalize h0 * 31 + (nI n).toInt64 = h1
  refine zl_e (fun s => (zmS v a h1 s, nI s)) n (by omega) rfl ?_
  intro k s hs hk
  unfold m_X7_mix_b15
  rw [hR.1]
  dsimp only
  rcases Nat.lt_or_ge s n with q | q
  · have hk := hk q
    rw [if_neg (znle (by omega) (by omega) q), z_labelSet hn hR q]
    have ez : zmS v a h1 (s + 1) = zmM v a s (zmA v s (zmS v a h1 s * 31 + (v (100 * s)).toInt64) a) 81 := rfl
    rw [ez] at hk
    generalize zmS v a h1 s * 31 + (v (100 * s)).toInt64 = h2 at hk ⊢
    refine zl_e (fun i => (zmA v s h2 i, nI i)) a (by omega) rfl ?_
    intro k2 i hi hk2
    unfold m_X7_mix_b41
    rw [hK.2.2.1]
    dsimp only
    rcases Nat.lt_or_ge i a with w | w
    · rw [if_neg (znle (by omega) (by omega) w), z_actionCount ha hn hR q w, z_plannedAction ha hn hR q w, nI_1]
      exact hk2 w
    · have : i = a := by omega
      subst this
      rw [if_pos (zle (by omega) (by omega) w)]
      obtain ⟨d, hd⟩ := Nat.le.dest h81.1
      have ec := zmM_cut v i s (zmA v s h2 i) d
      rw [hd] at ec
      rw [ec] at hk
      generalize zmA v s h2 i = h3 at hk ⊢
      refine zl_e (fun m => (zmM v i s h3 m, nI m)) (3 ^ i) (by omega) rfl ?_
      intro k3 m hm hk3
      unfold m_X7_mix_b91
      rw [hK.2.2.2.2.1]
      dsimp only
      rcases Nat.lt_or_ge m (3 ^ i) with u | u
      · have hk3 := hk3 u
        have ez : zmM v i s h3 (m + 1) = if zpm i (zac v s) m = true then zmM v i s h3 m * 31 + (v (100 * s + 10 + m)).toInt64 else zmM v i s h3 m := rfl
        rw [ez] at hk3
        rw [if_neg (znle (by omega) (by omega) u), z_target ha hn hK.2.2.2.2.1 hR q u, nI_1]
        by_cases hp : zpm i (zac v s) m = true
        · rw [if_pos hp] at hk3 ⊢
          rw [if_neg (by rw [(hW.nx q (show m < 81 by omega)).1]; exact znm1 (by have := (hW.nx q (show m < 81 by omega)).2; omega))]
          exact hk3
        · rw [if_neg hp] at hk3 ⊢
          rw [if_pos rfl]
          exact hk3
      · have : m = 3 ^ i := by omega
        subst this
        rw [if_pos (zle (by omega) (by omega) u), nI_1]
        exact hk
  · have : s = n := by omega
    subst this
    rw [if_pos (zle (by omega) (by omega) q)]
end SY
