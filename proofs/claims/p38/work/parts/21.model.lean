/-! THE MODEL: both systems are read as one row v (the reference's own): 100 s: labels, 100 s + 1 + i: actions, 100 s + 5 + i: plan, 100 s + 10 + m: next, 1200: how many states; a agents -/
def zdg (m i : Nat) : Nat := m / 3 ^ i % 3
def zac (v : Nat → Int32) (s i : Nat) : Nat := (v (100 * s + 1 + i)).toNatClampNeg
def zpl (v : Nat → Int32) (s i : Nat) : Nat := (v (100 * s + 5 + i)).toNatClampNeg
def znx (v : Nat → Int32) (s m : Nat) : Nat := (v (100 * s + 10 + m)).toNatClampNeg
/-- a possible move -/
def zpm (a : Nat) (A : Nat → Nat) (m : Nat) : Bool := decide (m < 3 ^ a ∧ ∀ i, i < a → zdg m i < A i)
/-- the part of a move that a coalition has -/
def zpt : Nat → Int32 → Nat → Nat
  | 0, _, _ => 0
  | a + 1, c, m => zpt a c m + (if bt c a then 3 ^ a * zdg m a else 0)
def zWF (a n : Nat) (v : Nat → Int32) : Prop :=
  n ≤ 12 ∧ v 1200 = nI n ∧ ∀ s, s < n → (∀ i, i < a → ∃ q, 1 ≤ q ∧ q ≤ 3 ∧ v (100 * s + 1 + i) = nI q) ∧ (∀ i, i < a → ∃ q, q ≤ 2 ∧ v (100 * s + 5 + i) = nI q) ∧ (∀ m, m < 81 → ∃ q, q < n ∧ v (100 * s + 10 + m) = nI q)
theorem zWF.ac {a n : Nat} {v : Nat → Int32} (h : zWF a n v) {s i : Nat} (hs : s < n) (hi : i < a) : v (100 * s + 1 + i) = nI (zac v s i) ∧ 1 ≤ zac v s i ∧ zac v s i ≤ 3 := by
  obtain ⟨q, h1, h2, h3⟩ := (h.2.2 s hs).1 i hi
  have e : zac v s i = q := by unfold zac; rw [h3, nI_clamp (by omega)]
  rw [e]
  exact ⟨h3, h1, h2⟩
theorem zWF.pl {a n : Nat} {v : Nat → Int32} (h : zWF a n v) {s i : Nat} (hs : s < n) (hi : i < a) : v (100 * s + 5 + i) = nI (zpl v s i) ∧ zpl v s i ≤ 2 := by
  obtain ⟨q, h2, h3⟩ := (h.2.2 s hs).2.1 i hi
  have e : zpl v s i = q := by unfold zpl; rw [h3, nI_clamp (by omega)]
  rw [e]
  exact ⟨h3, h2⟩
theorem zWF.nx {a n : Nat} {v : Nat → Int32} (h : zWF a n v) {s m : Nat} (hs : s < n) (hm : m < 81) : v (100 * s + 10 + m) = nI (znx v s m) ∧ znx v s m < n := by
  have hn := h.1
  obtain ⟨q, h2, h3⟩ := (h.2.2 s hs).2.2 m hm
  have e : znx v s m = q := by unfold znx; rw [h3, nI_clamp (by omega)]
  rw [e]
  exact ⟨h3, h2⟩
theorem za_81 {a : Nat} (h : a ≤ 4) : 3 ^ a ≤ 81 ∧ 2 ^ a ≤ 16 ∧ 1 ≤ 3 ^ a ∧ 1 ≤ 2 ^ a := (by decide : ∀ a, a < 5 → 3 ^ a ≤ 81 ∧ 2 ^ a ≤ 16 ∧ 1 ≤ 3 ^ a ∧ 1 ≤ 2 ^ a) a (by omega)
theorem zpm_t {a : Nat} {A : Nat → Nat} {m : Nat} : zpm a A m = true ↔ m < 3 ^ a ∧ ∀ i, i < a → zdg m i < A i := ⟨fun h => of_decide_eq_true h, fun h => decide_eq_true h⟩
theorem zpm_ext {a : Nat} {A B : Nat → Nat} {m : Nat} (h : ∀ i, i < a → A i = B i) : zpm a A m = zpm a B m := by
  unfold zpm
  congr 1
  apply propext
  exact ⟨fun q => ⟨q.1, fun i hi => by rw [← h i hi]; exact q.2 i hi⟩, fun q => ⟨q.1, fun i hi => by rw [h i hi]; exact q.2 i hi⟩⟩
theorem zpm_lt {a : Nat} {A : Nat → Nat} {m : Nat} (h : zpm a A m = true) : m < 3 ^ a := (zpm_t.mp h).1
theorem zdg_lt (m i : Nat) : zdg m i < 3 := Nat.mod_lt _ (by decide)
theorem zdg_0 {m i a : Nat} (h : m < 3 ^ a) (hi : a ≤ i) : zdg m i = 0 := by
  unfold zdg
  rw [Nat.div_eq_of_lt (Nat.lt_of_lt_of_le h (Nat.pow_le_pow_right (by decide) hi))]
theorem zpt_mod (a : Nat) (c : Int32) (m : Nat) : zpt a c m ≤ m % 3 ^ a := by
  induction a with
  | zero => exact Nat.zero_le _
  | succ a ih =>
    unfold zpt
    rw [Nat.mod_pow_succ]
    have : (if bt c a = true then 3 ^ a * zdg m a else 0) ≤ 3 ^ a * (m / 3 ^ a % 3) := by
      split
      · exact Nat.le_refl _
      · exact Nat.zero_le _
    omega
theorem zpt_le (a : Nat) (c : Int32) (m : Nat) : zpt a c m ≤ m := Nat.le_trans (zpt_mod a c m) (Nat.mod_le _ _)
theorem zpt_hi {a : Nat} {c : Int32} {m : Nat} (h : m < 3 ^ a) : ∀ b, zpt (a + b) c m = zpt a c m
  | 0 => rfl
  | b + 1 => by
    have e : zpt (a + (b + 1)) c m = zpt (a + b) c m + (if bt c (a + b) then 3 ^ (a + b) * zdg m (a + b) else 0) := rfl
    rw [e, zpt_hi h b, zdg_0 h (Nat.le_add_right a b)]
    simp
theorem zpt_4 {a : Nat} {c : Int32} {m : Nat} (ha : a ≤ 4) (h : m < 3 ^ a) : zpt 4 c m = zpt a c m := by
  obtain ⟨b, hb⟩ := Nat.le.dest ha
  rw [← hb]
  exact zpt_hi h b
/-! one step: the states to which a joint action leads -/
def zoF (a : Nat) (A : Nat → Nat) (c : Int32) (j : Nat) (b : Nat → Int32) : Nat → Int32
  | 0 => 0
  | m + 1 => if zpm a A m = true ∧ zpt a c m = j then zoF a A c j b m ||| b m else zoF a A c j b m
theorem zoF_s (a : Nat) (A : Nat → Nat) (c : Int32) (j : Nat) (b : Nat → Int32) (m : Nat) : zoF a A c j b (m + 1) = if zpm a A m = true ∧ zpt a c m = j then zoF a A c j b m ||| b m else zoF a A c j b m := rfl
theorem zoF_bt {a : Nat} {A : Nat → Nat} {c : Int32} {j : Nat} {b : Nat → Int32} {i : Nat} : ∀ {M : Nat}, bt (zoF a A c j b M) i = true ↔ ∃ m, m < M ∧ zpm a A m = true ∧ zpt a c m = j ∧ bt (b m) i = true
  | 0 => by
    rw [show zoF a A c j b 0 = 0 from rfl, b_0]
    exact ⟨fun h => absurd h (by decide), fun ⟨m, h, _⟩ => absurd h (Nat.not_lt_zero m)⟩
  | M + 1 => by
    have ih := zoF_bt (a := a) (A := A) (c := c) (j := j) (b := b) (i := i) (M := M)
    unfold zoF
    by_cases h : zpm a A M = true ∧ zpt a c M = j
    · rw [if_pos h, b_or, Bool.or_eq_true, ih]
      constructor
      · rintro (⟨m, h1, h2⟩ | h2)
        · exact ⟨m, by omega, h2⟩
        · exact ⟨M, by omega, h.1, h.2, h2⟩
      · rintro ⟨m, h1, h2, h3, h4⟩
        rcases Nat.lt_or_ge m M with q | q
        · exact Or.inl ⟨m, q, h2, h3, h4⟩
        · have : m = M := by omega
          subst this
          exact Or.inr h4
    · rw [if_neg h, ih]
      constructor
      · rintro ⟨m, h1, h2⟩
        exact ⟨m, by omega, h2⟩
      · rintro ⟨m, h1, h2, h3, h4⟩
        rcases Nat.lt_or_ge m M with q | q
        · exact ⟨m, q, h2, h3, h4⟩
        · have : m = M := by omega
          subst this
          exact absurd ⟨h2, h3⟩ h
theorem zoF_out {a : Nat} {A : Nat → Nat} {c : Int32} {j : Nat} {b : Nat → Int32} : ∀ {M : Nat}, (∀ m, m < M → ¬ (zpm a A m = true ∧ zpt a c m = j)) → zoF a A c j b M = 0
  | 0, _ => rfl
  | M + 1, h => by
    unfold zoF
    rw [if_neg (h M (by omega))]
    exact zoF_out (fun m hm => h m (by omega))
theorem zoF_cut {a : Nat} {A : Nat → Nat} {c : Int32} {j : Nat} {b : Nat → Int32} {M : Nat} (h : 3 ^ a ≤ M) : ∀ k, zoF a A c j b (M + k) = zoF a A c j b M
  | 0 => rfl
  | k + 1 => by
    show zoF a A c j b (M + k + 1) = _
    rw [zoF_s, if_neg (fun q => absurd (zpm_lt q.1) (by omega))]
    exact zoF_cut h k
theorem zoF_81 {a : Nat} {A : Nat → Nat} {c : Int32} {j : Nat} {b : Nat → Int32} (ha : a ≤ 4) : zoF a A c j b (3 ^ a) = zoF a A c j b 81 := by
  obtain ⟨k, hk⟩ := Nat.le.dest (za_81 ha).1
  rw [← hk, zoF_cut (Nat.le_refl _)]
theorem zoF_hi {a : Nat} {A : Nat → Nat} {c : Int32} {j : Nat} {b : Nat → Int32} {M : Nat} (h : 3 ^ a ≤ j) : zoF a A c j b M = 0 :=
  zoF_out (fun m _ q => by
    have h1 := zpm_lt q.1
    have h2 := zpt_le a c m
    rw [q.2] at h2
    omega)
theorem zoF_ext {a : Nat} {A : Nat → Nat} {c : Int32} {j : Nat} {b b' : Nat → Int32} : ∀ {M : Nat}, (∀ m, m < M → zpm a A m = true → b m = b' m) → zoF a A c j b M = zoF a A c j b' M
  | 0, _ => rfl
  | M + 1, h => by
    unfold zoF
    by_cases q : zpm a A M = true ∧ zpt a c M = j
    · rw [if_pos q, if_pos q, h M (by omega) q.1, zoF_ext (fun m hm => h m (by omega))]
    · rw [if_neg q, if_neg q, zoF_ext (fun m hm => h m (by omega))]
def zoc (v : Nat → Int32) (a : Nat) (c : Int32) (s j : Nat) : Int32 := zoF a (zac v s) c j (fun m => zbit (znx v s m)) 81
/-- an outcome that is within a set -/
def zfo (o X : Int32) : Bool := decide (¬ o = 0 ∧ (o &&& (X ^^^ (-1))) = 0)
theorem zfo_0 (X : Int32) : zfo 0 X = false := decide_eq_false (fun h => h.1 rfl)
theorem zfo_m {o X Y : Int32} (h : zsb X Y) (q : zfo o X = true) : zfo o Y = true := by
  obtain ⟨h1, h2⟩ := of_decide_eq_true q
  exact decide_eq_true ⟨h1, (zsb_iff o Y).mpr (((zsb_iff o X).mp h2).tr h)⟩
def zlf (v : Nat → Int32) (a : Nat) (c : Int32) (s : Nat) (X : Int32) : Int32 := zfs (fun j => zfo (zoc v a c s j) X) 81 0
def zcan (v : Nat → Int32) (a : Nat) (c : Int32) (s : Nat) (X : Int32) : Bool := decide (¬ zlf v a c s X = -9)
theorem zcan_t {v : Nat → Int32} {a : Nat} {c : Int32} {s : Nat} {X : Int32} : zcan v a c s X = true ↔ ∃ j, j < 81 ∧ zfo (zoc v a c s j) X = true := by
  unfold zcan
  constructor
  · intro h
    have h := of_decide_eq_true h
    refine Classical.byContradiction fun hx => h ?_
    exact (zfs_m9 (by decide)).mpr (fun k hk => by
      cases e : zfo (zoc v a c s k) X
      · rfl
      · exact absurd ⟨k, hk, e⟩ hx)
  · rintro ⟨j, hj, h⟩
    refine decide_eq_true fun q => ?_
    have := (zfs_m9 (by decide)).mp q j hj
    rw [h] at this
    cases this
/-- the joint action that the plan tells -/
def zpa (v : Nat → Int32) (s i : Nat) : Nat := if zpl v s i < zac v s i then zpl v s i else 0
def zpj (v : Nat → Int32) (c : Int32) (s : Nat) : Nat → Nat
  | 0 => 0
  | i + 1 => zpj v c s i + (if bt c i then 3 ^ i * zpa v s i else 0)
theorem zpj_le (v : Nat → Int32) (c : Int32) (s : Nat) : ∀ a, (∀ i, i < a → zpl v s i ≤ 2) → zpj v c s a < 3 ^ a
  | 0, _ => (by decide : 0 < 1)
  | a + 1, h => by
    have ih := zpj_le v c s a (fun i hi => h i (by omega))
    unfold zpj
    have h2 : zpa v s a ≤ 2 := by unfold zpa; have := h a (by omega); split <;> omega
    have h3 : 3 ^ a * zpa v s a ≤ 3 ^ a * 2 := Nat.mul_le_mul_left _ h2
    rw [Nat.pow_succ]
    split <;> omega
theorem zpj_dg (v : Nat → Int32) (c : Int32) (s : Nat) : ∀ a, (∀ i, i < a → zpl v s i ≤ 2) → ∀ i, i < a → zdg (zpj v c s a) i = if bt c i then zpa v s i else 0
  | 0, _, i, hi => absurd hi (Nat.not_lt_zero i)
  | a + 1, h, i, hi => by
    have ih := zpj_dg v c s a (fun i hi => h i (by omega))
    have hl := zpj_le v c s a (fun i hi => h i (by omega))
    have h2 : zpa v s a ≤ 2 := by unfold zpa; have := h a (by omega); split <;> omega
    unfold zpj
    generalize hz : (if bt c a = true then 3 ^ a * zpa v s a else 0) = z
    have hz2 : ∃ q, q ≤ 2 ∧ z = 3 ^ a * q ∧ q = if bt c a = true then zpa v s a else 0 := by
      by_cases hb : bt c a = true
      · rw [if_pos hb] at hz ⊢; exact ⟨_, h2, hz.symm, rfl⟩
      · rw [if_neg hb] at hz ⊢; exact ⟨0, by omega, by omega, rfl⟩
    obtain ⟨q, hq, rfl, he⟩ := hz2
    rcases Nat.lt_or_ge i a with w | w
    · rw [← ih i w]
      unfold zdg
      obtain ⟨d, rfl⟩ : ∃ d, a = i + 1 + d := ⟨a - (i + 1), by omega⟩
      rw [show 3 ^ (i + 1 + d) * q = 3 ^ i * (3 * (3 ^ d * q)) by rw [Nat.pow_add, Nat.pow_succ]; simp only [Nat.mul_assoc]]
      rw [Nat.add_mul_div_left _ _ (Nat.pow_pos (by decide)), Nat.add_mul_mod_self_left]
    · have : i = a := by omega
      subst this
      unfold zdg
      rw [Nat.add_mul_div_left _ _ (Nat.pow_pos (by decide)), Nat.div_eq_of_lt hl, Nat.zero_add, Nat.mod_eq_of_lt (by omega)]
      exact he
def zcanP (v : Nat → Int32) (a : Nat) (c : Int32) (s : Nat) (X : Int32) : Bool := zfo (zoc v a c s (zpj v c s a)) X
/-- the states in which a coalition (or its plan) can force a set -/
def zF (v : Nat → Int32) (a n : Nat) (bp : Bool) (c : Int32) (X : Int32) : Int32 := zmk (fun s => if bp then zcanP v a c s X else zcan v a c s X) n
theorem zF_m {v : Nat → Int32} {a n : Nat} {bp : Bool} {c X Y : Int32} (hn : n ≤ 12) (h : zsb X Y) : zsb (zF v a n bp c X) (zF v a n bp c Y) := by
  intro i hi q
  unfold zF at q ⊢
  rw [zmk_bt (by omega) hi, Bool.and_eq_true] at q ⊢
  refine ⟨q.1, ?_⟩
  have q2 := q.2
  cases bp
  · simp only [Bool.false_eq_true, if_false] at q2 ⊢
    obtain ⟨j, h1, h2⟩ := zcan_t.mp q2
    exact zcan_t.mpr ⟨j, h1, zfo_m h h2⟩
  · simp only [if_true] at q2 ⊢
    exact zfo_m h q2
theorem zF_in {v : Nat → Int32} {a n : Nat} {bp : Bool} {c X : Int32} (hn : n ≤ 12) {i : Nat} (hi : i < 32) (h : bt (zF v a n bp c X) i = true) : i < n := by
  unfold zF at h
  rw [zmk_bt (by omega) hi, Bool.and_eq_true] at h
  exact of_decide_eq_true h.1
theorem zF_bt {v : Nat → Int32} {a n : Nat} {bp : Bool} {c X : Int32} (hn : n ≤ 12) {i : Nat} (hi : i < n) : bt (zF v a n bp c X) i = if bp then zcanP v a c i X else zcan v a c i X := by
  unfold zF
  rw [zmk_bt (by omega) (by omega), decide_eq_true hi, Bool.true_and]
