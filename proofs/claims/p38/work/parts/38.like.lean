/-! LIKENESS: divisions into numbered classes (fb_holes: from the kit page of rows to paste) -/
theorem fb_holes : ∀ (m n : Nat) (f : Nat → Nat), (∀ i, i < n → f i < m) → (∀ i j, i < j → j < n → f i ≠ f j) → n ≤ m := by
  intro m
  induction m with
  | zero =>
    intro n f h1 _
    rcases Nat.eq_zero_or_pos n with h | h
    · omega
    · exact absurd (h1 0 h) (Nat.not_lt_zero _)
  | succ m ih =>
    intro n f h1 h2
    by_cases hx : ∃ i, i < n ∧ f i = m
    · obtain ⟨a, ha, hfa⟩ := hx
      have hg := ih (n - 1) (fun i => if i < a then f i else f (i + 1)) (by
        intro i hi
        by_cases q : i < a
        · simp only [if_pos q]
          have b1 := h1 i (by omega)
          have b2 := h2 i a q ha
          omega
        · simp only [if_neg q]
          have b1 := h1 (i + 1) (by omega)
          have b2 := h2 a (i + 1) (by omega) (by omega)
          omega) (by
        intro i j hij hj
        by_cases q : i < a
        · by_cases r : j < a
          · simp only [if_pos q, if_pos r]
            exact h2 i j hij (by omega)
          · simp only [if_pos q, if_neg r]
            exact h2 i (j + 1) (by omega) (by omega)
        · have r : ¬ j < a := by omega
          simp only [if_neg q, if_neg r]
          exact h2 (i + 1) (j + 1) (by omega) (by omega))
      omega
    · have hg := ih n f (fun i hi => by
        have b1 := h1 i hi
        have b2 : f i ≠ m := fun e => hx ⟨i, hi, e⟩
        omega) h2
      omega
/-- the first that is like s, or s -/
def zflF (r : Nat → Nat → Bool) (s : Nat) : Nat → Nat → Nat
  | 0, t => t
  | k + 1, t => if r t s then t else zflF r s k (t + 1)
def zfl (r : Nat → Nat → Bool) (s : Nat) : Nat := zflF r s s 0
theorem zflF_le (r : Nat → Nat → Bool) (s : Nat) : ∀ k t, zflF r s k t ≤ t + k
  | 0, t => Nat.le_refl _
  | k + 1, t => by
    unfold zflF
    split
    · omega
    · have := zflF_le r s k (t + 1)
      omega
theorem zflF_r {r : Nat → Nat → Bool} {s : Nat} : ∀ {k t}, zflF r s k t < t + k → r (zflF r s k t) s = true
  | 0, t, h => absurd h (Nat.lt_irrefl _)
  | k + 1, t, h => by
    unfold zflF at h ⊢
    by_cases q : r t s = true
    · rw [if_pos q]; exact q
    · rw [if_neg q] at h ⊢
      exact zflF_r (by omega)
theorem zflF_ext {r q : Nat → Nat → Bool} {s : Nat} : ∀ {k t}, (∀ u, t ≤ u → u < t + k → r u s = q u s) → zflF r s k t = zflF q s k t
  | 0, _, _ => rfl
  | k + 1, t, h => by
    unfold zflF
    rw [h t (Nat.le_refl _) (by omega), zflF_ext (fun u a b => h u (by omega) (by omega))]
theorem zfl_le (r : Nat → Nat → Bool) (s : Nat) : zfl r s ≤ s := by
  have := zflF_le r s s 0
  unfold zfl
  omega
theorem zfl_r {r : Nat → Nat → Bool} {s : Nat} (h : zfl r s < s) : r (zfl r s) s = true := zflF_r (by unfold zfl at h; omega)
theorem zfl_ext {r q : Nat → Nat → Bool} {s : Nat} (h : ∀ u, u < s → r u s = q u s) : zfl r s = zfl q s := zflF_ext (fun u _ b => h u (by omega))
/-- the division by a likeness: how many classes, the class of each -/
def zrf (r : Nat → Nat → Bool) : Nat → Nat × (Nat → Nat)
  | 0 => (0, fun _ => 0)
  | s + 1 => if zfl r s < s then ((zrf r s).1, va_up (zrf r s).2 s ((zrf r s).2 (zfl r s))) else ((zrf r s).1 + 1, va_up (zrf r s).2 s (zrf r s).1)
theorem zva_s {f : Nat → Nat} {k x : Nat} : va_up f k x k = x := by simp [va_up]
theorem zva_n {f : Nat → Nat} {k x j : Nat} (h : j ≠ k) : va_up f k x j = f j := va_up_ne _ _ h
theorem zrf_ext {r q : Nat → Nat → Bool} : ∀ {n : Nat}, (∀ s, s < n → ∀ t, t < s → r t s = q t s) → zrf r n = zrf q n
  | 0, _ => rfl
  | n + 1, h => by
    unfold zrf
    rw [zrf_ext (fun s hs => h s (by omega)), zfl_ext (h n (by omega))]
theorem zrf_old {r : Nat → Nat → Bool} {s : Nat} : ∀ {k : Nat}, (zrf r (s + 1 + k)).2 s = (zrf r (s + 1)).2 s
  | 0 => rfl
  | k + 1 => by
    rw [← zrf_old (k := k)]
    have e : zrf r (s + 1 + (k + 1)) = if zfl r (s + 1 + k) < s + 1 + k then ((zrf r (s + 1 + k)).1, va_up (zrf r (s + 1 + k)).2 (s + 1 + k) ((zrf r (s + 1 + k)).2 (zfl r (s + 1 + k)))) else ((zrf r (s + 1 + k)).1 + 1, va_up (zrf r (s + 1 + k)).2 (s + 1 + k) (zrf r (s + 1 + k)).1) := rfl
    rw [e]
    split
    · exact zva_n (by omega)
    · exact zva_n (by omega)
/-- all numbers of classes are used, none else -/
theorem zrf_ok (r : Nat → Nat → Bool) : ∀ n, (zrf r n).1 ≤ n ∧ (∀ s, s < n → (zrf r n).2 s < (zrf r n).1) ∧ (∀ i, i < (zrf r n).1 → ∃ s, s < n ∧ (zrf r n).2 s = i)
  | 0 => ⟨Nat.le_refl _, fun s h => absurd h (Nat.not_lt_zero s), fun i h => absurd h (Nat.not_lt_zero i)⟩
  | n + 1 => by
    obtain ⟨h1, h2, h3⟩ := zrf_ok r n
    have e : zrf r (n + 1) = if zfl r n < n then ((zrf r n).1, va_up (zrf r n).2 n ((zrf r n).2 (zfl r n))) else ((zrf r n).1 + 1, va_up (zrf r n).2 n (zrf r n).1) := rfl
    rw [e]
    by_cases q : zfl r n < n
    · rw [if_pos q]
      refine ⟨Nat.le_succ_of_le h1, fun s hs => ?_, fun i hi => ?_⟩
      · dsimp only
        by_cases w : s = n
        · subst w; rw [zva_s]; exact h2 _ q
        · rw [zva_n w]; exact h2 s (by omega)
      · obtain ⟨s, a1, a2⟩ := h3 i hi
        exact ⟨s, by omega, by dsimp only; rw [zva_n (by omega)]; exact a2⟩
    · rw [if_neg q]
      refine ⟨Nat.succ_le_succ h1, fun s hs => ?_, fun i hi => ?_⟩
      · dsimp only
        by_cases w : s = n
        · subst w; rw [zva_s]; omega
        · rw [zva_n w]
          have := h2 s (by omega)
          omega
      · dsimp only at hi
        by_cases w : i = (zrf r n).1
        · exact ⟨n, by omega, by dsimp only; rw [zva_s, w]⟩
        · obtain ⟨s, a1, a2⟩ := h3 i (by omega)
          exact ⟨s, by omega, by dsimp only; rw [zva_n (by omega)]; exact a2⟩
/-- what those that are like share, a class shares -/
theorem zrf_g {β : Type} {r : Nat → Nat → Bool} {g : Nat → β} : ∀ {n : Nat}, (∀ s, s < n → ∀ t, t < s → r t s = true → g t = g s) → ∀ u w, u < n → w < n → (zrf r n).2 u = (zrf r n).2 w → g u = g w
  | 0, _, u, _, hu, _, _ => absurd hu (Nat.not_lt_zero u)
  | n + 1, h, u, w, hu, hw, he => by
    have ih := fun u w a b => zrf_g (r := r) (g := g) (n := n) (fun s hs => h s (by omega)) u w a b
    obtain ⟨-, h2, -⟩ := zrf_ok r n
    have e : zrf r (n + 1) = if zfl r n < n then ((zrf r n).1, va_up (zrf r n).2 n ((zrf r n).2 (zfl r n))) else ((zrf r n).1 + 1, va_up (zrf r n).2 n (zrf r n).1) := rfl
    rw [e] at he
    by_cases q : zfl r n < n
    · rw [if_pos q] at he
      dsimp only at he
      have hg := h n (by omega) _ q (zfl_r q)
      by_cases c1 : u = n
      · by_cases c2 : w = n
        · rw [c1, c2]
        · rw [c1, zva_s, zva_n c2] at he
          rw [c1, ← hg]
          exact ih _ w q (by omega) he
      · by_cases c2 : w = n
        · rw [c2, zva_s, zva_n c1] at he
          rw [c2, ← hg]
          exact ih u _ (by omega) q he
        · rw [zva_n c1, zva_n c2] at he
          exact ih u w (by omega) (by omega) he
    · rw [if_neg q] at he
      dsimp only at he
      by_cases c1 : u = n
      · by_cases c2 : w = n
        · rw [c1, c2]
        · rw [c1, zva_s, zva_n c2] at he
          have := h2 w (by omega)
          omega
      · by_cases c2 : w = n
        · rw [c2, zva_s, zva_n c1] at he
          have := h2 u (by omega)
          omega
        · rw [zva_n c1, zva_n c2] at he
          exact ih u w (by omega) (by omega) he
/-- a finer division has no fewer classes -/
theorem zrf_more {r q : Nat → Nat → Bool} {n : Nat} (h : ∀ s, s < n → ∀ t, t < s → q t s = true → (zrf r n).2 t = (zrf r n).2 s) : (zrf r n).1 ≤ (zrf q n).1 := by
  obtain ⟨-, -, h3⟩ := zrf_ok r n
  obtain ⟨-, k2, -⟩ := zrf_ok q n
  have hc : ∀ i, ∃ s, i < (zrf r n).1 → s < n ∧ (zrf r n).2 s = i := fun i => by
    by_cases hi : i < (zrf r n).1
    · obtain ⟨s, hs⟩ := h3 i hi
      exact ⟨s, fun _ => hs⟩
    · exact ⟨0, fun w => absurd w hi⟩
  refine fb_holes _ _ (fun i => (zrf q n).2 (Classical.choose (hc i))) (fun i hi => k2 _ (Classical.choose_spec (hc i) hi).1) (fun i j hij hj he => ?_)
  obtain ⟨a1, a2⟩ := Classical.choose_spec (hc i) (by omega)
  obtain ⟨b1, b2⟩ := Classical.choose_spec (hc j) hj
  have := zrf_g (g := fun s => (zrf r n).2 s) h _ _ a1 b1 he
  rw [a2, b2] at this
  omega
theorem zrf_all {r : Nat → Nat → Bool} : ∀ {n : Nat}, (∀ s, s < n → ∀ t, t < s → r t s = true) → (zrf r n).1 = min 1 n ∧ ∀ s, s < n → (zrf r n).2 s = 0
  | 0, _ => ⟨rfl, fun s h => absurd h (Nat.not_lt_zero s)⟩
  | n + 1, h => by
    obtain ⟨h1, h2⟩ := zrf_all (r := r) (n := n) (fun s hs => h s (by omega))
    have e : zrf r (n + 1) = if zfl r n < n then ((zrf r n).1, va_up (zrf r n).2 n ((zrf r n).2 (zfl r n))) else ((zrf r n).1 + 1, va_up (zrf r n).2 n (zrf r n).1) := rfl
    rw [e]
    rcases Nat.eq_zero_or_pos n with z | z
    · subst z
      rw [if_neg (Nat.not_lt_zero _)]
      exact ⟨rfl, fun s hs => by
        have : s = 0 := by omega
        subst this
        exact zva_s (f := (zrf r 0).2) (k := 0) (x := (zrf r 0).1)⟩
    · have hz : zfl r n = 0 := by
        unfold zfl
        obtain ⟨k, rfl⟩ : ∃ k, n = k + 1 := ⟨n - 1, by omega⟩
        unfold zflF
        rw [if_pos (h (k + 1) (by omega) 0 (by omega))]
      rw [hz, if_pos z]
      refine ⟨by dsimp only; omega, fun s hs => ?_⟩
      dsimp only
      by_cases w : s = n
      · subst w; rw [zva_s]; exact h2 0 z
      · rw [zva_n w]; exact h2 s (by omega)
/-! likeness of states -/
def zoC (v : Nat → Int32) (a : Nat) (cl : Nat → Nat) (c : Int32) (s j : Nat) : Int32 := zoF a (zac v s) c j (fun m => zbit (cl (znx v s m))) 81
def zmt (v : Nat → Int32) (a : Nat) (cl : Nat → Nat) (c : Int32) (s t : Nat) : Bool := (List.range 81).all fun j => decide (zoC v a cl c s j = 0) || (List.range 81).any fun k => zfo (zoC v a cl c t k) (zoC v a cl c s j)
theorem zmt_t {v : Nat → Int32} {a : Nat} {cl : Nat → Nat} {c : Int32} {s t : Nat} : zmt v a cl c s t = true ↔ ∀ j, j < 81 → ¬ zoC v a cl c s j = 0 → ∃ k, k < 81 ∧ zfo (zoC v a cl c t k) (zoC v a cl c s j) = true := by
  unfold zmt
  simp only [List.all_eq_true, List.mem_range, Bool.or_eq_true, decide_eq_true_eq, List.any_eq_true]
  constructor
  · intro h j hj hne
    rcases h j hj with q | q
    · exact absurd q hne
    · exact q
  · intro h j hj
    by_cases q : zoC v a cl c s j = 0
    · exact Or.inl q
    · exact Or.inr (h j hj q)
def zak (v : Nat → Int32) (a : Nat) (cl : Nat → Nat) (s t : Nat) : Bool := decide (∀ c, c < 2 ^ a → zmt v a cl (nI c) s t = true ∧ zmt v a cl (nI c) t s = true)
theorem zak_t {v : Nat → Int32} {a : Nat} {cl : Nat → Nat} {s t : Nat} : zak v a cl s t = true ↔ ∀ c, c < 2 ^ a → zmt v a cl (nI c) s t = true ∧ zmt v a cl (nI c) t s = true := ⟨fun h => of_decide_eq_true h, fun h => decide_eq_true h⟩
def zrR (v : Nat → Int32) (a : Nat) (cl : Nat → Nat) (t s : Nat) : Bool := decide (cl t = cl s ∧ zak v a cl t s = true)
def zrC (v : Nat → Int32) (a : Nat) (cl : Nat → Nat) (t s : Nat) : Bool := decide (cl t = cl s ∧ v (100 * t) = v (100 * s) ∧ zak v a cl t s = true)
def zr0 (v : Nat → Int32) (t s : Nat) : Bool := decide (v (100 * t) = v (100 * s))
theorem zoC_ext {v : Nat → Int32} {a n : Nat} (hW : zWF a n v) {cl cm : Nat → Nat} (h : ∀ s, s < n → cl s = cm s) {s : Nat} (hs : s < n) (c : Int32) (j : Nat) : zoC v a cl c s j = zoC v a cm c s j :=
  zoF_ext (fun m hm _ => by rw [h _ (hW.nx hs hm).2])
theorem zmt_ext {v : Nat → Int32} {a n : Nat} (hW : zWF a n v) {cl cm : Nat → Nat} (h : ∀ s, s < n → cl s = cm s) {s t : Nat} (hs : s < n) (ht : t < n) (c : Int32) : zmt v a cl c s t = zmt v a cm c s t := by
  apply Bool.eq_iff_iff.mpr
  rw [zmt_t, zmt_t]
  constructor
  · intro q j hj hne
    rw [← zoC_ext hW h hs] at hne ⊢
    obtain ⟨k, hk, hz⟩ := q j hj hne
    exact ⟨k, hk, by rw [← zoC_ext hW h ht]; exact hz⟩
  · intro q j hj hne
    rw [zoC_ext hW h hs] at hne ⊢
    obtain ⟨k, hk, hz⟩ := q j hj hne
    exact ⟨k, hk, by rw [zoC_ext hW h ht]; exact hz⟩
theorem zak_ext {v : Nat → Int32} {a n : Nat} (hW : zWF a n v) {cl cm : Nat → Nat} (h : ∀ s, s < n → cl s = cm s) {s t : Nat} (hs : s < n) (ht : t < n) : zak v a cl s t = zak v a cm s t := by
  apply Bool.eq_iff_iff.mpr
  rw [zak_t, zak_t]
  exact ⟨fun q c hc => by rw [← zmt_ext hW h hs ht, ← zmt_ext hW h ht hs]; exact q c hc, fun q c hc => by rw [zmt_ext hW h hs ht, zmt_ext hW h ht hs]; exact q c hc⟩
/-- with one class for all, all are alike -/
theorem zak_0 {v : Nat → Int32} {a n : Nat} (hW : zWF a n v) (ha : a ≤ 4) {cl : Nat → Nat} (h : ∀ s, s < n → cl s = 0) {s t : Nat} (hs : s < n) (ht : t < n) : zak v a cl s t = true := by
  have h81 := za_81 ha
  have key : ∀ s t, s < n → t < n → ∀ c, zmt v a cl c s t = true := by
    intro s t hs ht c
    refine zmt_t.mpr fun j hj hne => ⟨0, by decide, ?_⟩
    have e1 : ∀ u, u < n → ∀ i, bt (zoC v a cl c u i) = bt (zoF a (zac v u) c i (fun _ => zbit 0) 81) := fun u hu i => by
      unfold zoC
      rw [zoF_ext (fun m hm _ => by rw [h _ (hW.nx hu hm).2])]
    have ne : ¬ zoC v a cl c t 0 = 0 := fun q => by
      have hp : zpm a (zac v t) 0 = true := zpm_t.mpr ⟨by omega, fun i hi => by
        have := (hW.ac ht hi).2.1
        unfold zdg
        rw [Nat.zero_div, Nat.zero_mod]
        omega⟩
      have h0 : zpt a c 0 = 0 := Nat.le_zero.mp (zpt_le a c 0)
      have := (zoF_bt (a := a) (A := zac v t) (c := c) (j := 0) (b := fun _ => zbit 0) (i := 0) (M := 81)).mpr ⟨0, by decide, hp, h0, by decide⟩
      rw [← e1 t ht 0, q, b_0] at this
      cases this
    refine decide_eq_true ⟨ne, (zsb_iff _ _).mpr fun i hi hb => ?_⟩
    rw [e1 t ht 0] at hb
    obtain ⟨m, -, -, -, hm⟩ := zoF_bt.mp hb
    rw [zbit_bt (by decide) hi] at hm
    have hi0 : i = 0 := of_decide_eq_true hm
    subst hi0
    refine Classical.byContradiction fun w => hne ?_
    apply b_ext
    intro i hi2
    rw [b_0]
    cases hq : bt (zoC v a cl c s j) i
    · rfl
    · rw [e1 s hs j] at hq
      obtain ⟨m, h1, h2, h3, hm⟩ := zoF_bt.mp hq
      rw [zbit_bt (by decide) hi2] at hm
      have : i = 0 := of_decide_eq_true hm
      subst this
      exact absurd (by rw [e1 s hs j]; exact hq) w
  exact decide_eq_true fun c _ => ⟨key s t hs ht _, key t s ht hs _⟩
/-- the divisions, one after another -/
def zdv (v : Nat → Int32) (a n : Nat) : Nat → Nat × (Nat → Nat)
  | 0 => zrf (zr0 v) n
  | k + 1 => zrf (zrR v a (zdv v a n k).2) n
theorem zdv_ok (v : Nat → Int32) (a n : Nat) (k : Nat) : (zdv v a n k).1 ≤ n ∧ (∀ s, s < n → (zdv v a n k).2 s < (zdv v a n k).1) := by
  cases k with
  | zero => exact ⟨(zrf_ok _ n).1, (zrf_ok _ n).2.1⟩
  | succ k => exact ⟨(zrf_ok _ n).1, (zrf_ok _ n).2.1⟩
theorem zdv_lab (v : Nat → Int32) (a n : Nat) : ∀ k u w, u < n → w < n → (zdv v a n k).2 u = (zdv v a n k).2 w → v (100 * u) = v (100 * w)
  | 0, u, w, hu, hw, he => zrf_g (r := zr0 v) (g := fun s => v (100 * s)) (fun s _ t _ hr => of_decide_eq_true hr) u w hu hw he
  | k + 1, u, w, hu, hw, he => zdv_lab v a n k u w hu hw (zrf_g (r := zrR v a (zdv v a n k).2) (g := fun s => (zdv v a n k).2 s) (fun s _ t _ hr => (of_decide_eq_true hr).1) u w hu hw he)
theorem zdv_up (v : Nat → Int32) (a n : Nat) (k : Nat) : (zdv v a n k).1 ≤ (zdv v a n (k + 1)).1 := by
  cases k with
  | zero => exact zrf_more (r := zr0 v) (fun s _ t _ hr => (of_decide_eq_true hr).1)
  | succ k => exact zrf_more (r := zrR v a (zdv v a n k).2) (fun s _ t _ hr => (of_decide_eq_true hr).1)
theorem zdv_C {v : Nat → Int32} {a n : Nat} (k : Nat) : zrf (zrC v a (zdv v a n k).2) n = zdv v a n (k + 1) := by
  refine zrf_ext (fun s hs t ht => ?_)
  unfold zrC zrR
  congr 1
  apply propext
  exact ⟨fun q => ⟨q.1, q.2.2⟩, fun q => ⟨q.1, zdv_lab v a n k t s (by omega) hs q.1, q.2⟩⟩
theorem zdv_C0 {v : Nat → Int32} {a n : Nat} (hW : zWF a n v) (ha : a ≤ 4) {cl : Nat → Nat} (h : ∀ s, s < n → cl s = 0) : zrf (zrC v a cl) n = zdv v a n 0 := by
  refine zrf_ext (fun s hs t ht => ?_)
  unfold zrC zr0
  congr 1
  apply propext
  exact ⟨fun q => q.2.1, fun q => ⟨by rw [h t (by omega), h s hs], q, zak_0 hW ha h (by omega) hs⟩⟩
theorem zdv_one {v : Nat → Int32} {a n : Nat} (hW : zWF a n v) (ha : a ≤ 4) (h : (zdv v a n 0).1 = min 1 n) : (zdv v a n 1).1 = (zdv v a n 0).1 ∧ ∀ s, s < n → (zdv v a n 1).2 s = (zdv v a n 0).2 s := by
  have hz : ∀ s, s < n → (zdv v a n 0).2 s = 0 := fun s hs => by
    have := (zdv_ok v a n 0).2 s hs
    omega
  have := zrf_all (r := zrR v a (zdv v a n 0).2) (n := n) (fun s hs t ht => decide_eq_true ⟨by rw [hz t (by omega), hz s hs], zak_0 hW ha hz (by omega) hs⟩)
  exact ⟨by rw [h]; exact this.1, fun s hs => by rw [hz s hs]; exact this.2 s hs⟩
