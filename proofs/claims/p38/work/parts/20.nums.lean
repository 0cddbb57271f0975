/-! NUMBERS: bits of an int32 (begun from the kit page of rows to paste), counts, loops, stores that agree -/
def bt (x : Int32) (i : Nat) : Bool := x.toBitVec.getLsbD i
theorem b_ext {x y : Int32} (h : ∀ i, i < 32 → bt x i = bt y i) : x = y := Int32.toBitVec_inj.mp (BitVec.eq_of_getLsbD_eq (fun i hi => h i hi))
theorem b_or (x y : Int32) (i : Nat) : bt (x ||| y) i = (bt x i || bt y i) := by unfold bt; rw [Int32.toBitVec_or, BitVec.getLsbD_or]
theorem b_and (x y : Int32) (i : Nat) : bt (x &&& y) i = (bt x i && bt y i) := by unfold bt; rw [Int32.toBitVec_and, BitVec.getLsbD_and]
theorem b_xor (x y : Int32) (i : Nat) : bt (x ^^^ y) i = (bt x i ^^ bt y i) := by unfold bt; rw [Int32.toBitVec_xor, BitVec.getLsbD_xor]
theorem b_big {x : Int32} {i : Nat} (h : 32 ≤ i) : bt x i = false := BitVec.getLsbD_of_ge _ _ h
theorem b_m1 : ∀ i, i < 32 → bt (-1) i = true := by decide +kernel
theorem b_0 (i : Nat) : bt 0 i = false := BitVec.getLsbD_zero
theorem s_l : ∀ n, n < 32 → ((nI n &&& 31).toBitVec.smod 32).toNat = n := by decide +kernel
theorem s_u : ∀ n, n < 32 → (((nI n).toUInt32 &&& Int32.toUInt32 31).toBitVec % 32).toNat = n := by decide +kernel
theorem b_shl (n : Nat) (hn : n < 32) (x : Int32) {i : Nat} (hi : i < 32) : bt (x <<< (nI n &&& 31)) i = (decide (n ≤ i) && bt x (i - n)) := by
  unfold bt
  rw [Int32.toBitVec_shiftLeft]
  show (x.toBitVec <<< ((nI n &&& 31).toBitVec.smod 32).toNat).getLsbD i = _
  rw [s_l n hn, BitVec.getLsbD_shiftLeft]
  rcases Nat.lt_or_ge i n with h | h
  · simp [h, Nat.not_le.mpr h]
  · simp [hi, h, Nat.not_lt.mpr h]
theorem b_ushr (n : Nat) (hn : n < 32) (x : Int32) (i : Nat) : bt ((x.toUInt32 >>> ((nI n).toUInt32 &&& Int32.toUInt32 31)).toInt32) i = bt x (n + i) := by
  show (x.toUInt32 >>> ((nI n).toUInt32 &&& Int32.toUInt32 31)).toBitVec.getLsbD i = x.toUInt32.toBitVec.getLsbD (n + i)
  rw [UInt32.toBitVec_shiftRight]
  show (x.toUInt32.toBitVec >>> (((nI n).toUInt32 &&& Int32.toUInt32 31).toBitVec % 32).toNat).getLsbD i = _
  rw [s_u n hn, BitVec.getLsbD_ushiftRight]
theorem b_sshr (n : Nat) (hn : n < 32) (x : Int32) {i : Nat} (hi : i < 32) : bt (x >>> (nI n &&& 31)) i = if n + i < 32 then bt x (n + i) else bt x 31 := by
  unfold bt
  rw [Int32.toBitVec_shiftRight]
  show (x.toBitVec.sshiftRight ((nI n &&& 31).toBitVec.smod 32).toNat).getLsbD i = _
  rw [s_l n hn, BitVec.getLsbD_sshiftRight, BitVec.msb_eq_getLsbD_last]
  simp [hi]
def fb_ct (p : Nat → Bool) : Nat → Nat
  | 0 => 0
  | n + 1 => fb_ct p n + (if p n then 1 else 0)
theorem fb_ct_succ (p : Nat → Bool) (n : Nat) : fb_ct p (n + 1) = fb_ct p n + (if p n then 1 else 0) := rfl
theorem fb_ct_le (p : Nat → Bool) : ∀ n, fb_ct p n ≤ n
  | 0 => Nat.le_refl _
  | n + 1 => by
    have h := fb_ct_le p n
    rw [fb_ct_succ]
    split <;> omega
theorem fb_ct_step (p : Nat → Bool) (m : Nat) : ∀ n, fb_ct p m ≤ fb_ct p (m + n)
  | 0 => Nat.le_refl _
  | n + 1 => by
    have h := fb_ct_step p m n
    show fb_ct p m ≤ fb_ct p (m + n + 1)
    rw [fb_ct_succ]
    omega
theorem fb_ct_mono (p : Nat → Bool) {m n : Nat} (h : m ≤ n) : fb_ct p m ≤ fb_ct p n := by
  have := fb_ct_step p m (n - m)
  rwa [Nat.add_sub_cancel' h] at this
theorem fb_ct_cong {p q : Nat → Bool} : ∀ {n : Nat}, (∀ k, k < n → p k = q k) → fb_ct p n = fb_ct q n
  | 0, _ => rfl
  | n + 1, h => by
    rw [fb_ct_succ, fb_ct_succ, fb_ct_cong (fun k hk => h k (by omega)), h n (by omega)]
/-- one place changed -/
theorem fb_ct_out (p : Nat → Bool) (b : Bool) {i n : Nat} (h : n ≤ i) : fb_ct (fun k => if k = i then b else p k) n = fb_ct p n :=
  fb_ct_cong fun k hk => if_neg (by omega)
theorem fb_ct_upd (p : Nat → Bool) (b : Bool) {i : Nat} : ∀ {n : Nat}, i < n → fb_ct (fun k => if k = i then b else p k) n + (if p i then 1 else 0) = fb_ct p n + (if b then 1 else 0)
  | 0, h => absurd h (Nat.not_lt_zero i)
  | n + 1, h => by
    rw [fb_ct_succ, fb_ct_succ]
    rcases Nat.lt_or_ge i n with q | q
    · have := fb_ct_upd p b q
      have e : (if n = i then b else p n) = p n := if_neg (by omega)
      rw [e]
      omega
    · have e : i = n := by omega
      subst e
      rw [fb_ct_out p b (Nat.le_refl _)]
      simp only [if_true]
      omega
theorem fb_ct_sub {p q : Nat → Bool} : ∀ {n : Nat}, (∀ k, k < n → p k = true → q k = true) → fb_ct p n ≤ fb_ct q n
  | 0, _ => Nat.le_refl _
  | n + 1, h => by
    have h1 := fb_ct_sub (n := n) (p := p) (q := q) (fun k hk => h k (by omega))
    have h2 := h n (by omega)
    rw [fb_ct_succ, fb_ct_succ]
    cases hp : p n <;> cases hq : q n <;> simp_all <;> omega
theorem fb_ct_or {p q : Nat → Bool} : ∀ {n : Nat}, (∀ k, k < n → ¬ (p k = true ∧ q k = true)) → fb_ct (fun k => p k || q k) n = fb_ct p n + fb_ct q n
  | 0, _ => rfl
  | n + 1, h => by
    have h1 := fb_ct_or (n := n) (p := p) (q := q) (fun k hk => h k (by omega))
    have h2 := h n (by omega)
    rw [fb_ct_succ, fb_ct_succ, fb_ct_succ, h1]
    cases hp : p n <;> cases hq : q n <;> simp_all <;> omega
theorem fb_ct_not (p : Nat → Bool) : ∀ n, fb_ct p n + fb_ct (fun k => !p k) n = n
  | 0 => rfl
  | n + 1 => by
    have h := fb_ct_not p n
    rw [fb_ct_succ, fb_ct_succ]
    cases p n <;> simp <;> omega
theorem fb_ct_split (p : Nat → Bool) (m : Nat) : ∀ n, fb_ct p (m + n) = fb_ct p m + fb_ct (fun k => p (m + k)) n
  | 0 => rfl
  | n + 1 => by
    have h := fb_ct_split p m n
    show fb_ct p (m + n + 1) = _
    rw [fb_ct_succ, fb_ct_succ, h, Nat.add_assoc]
theorem fb_ct_zero {p : Nat → Bool} : ∀ {n : Nat}, fb_ct p n = 0 ↔ ∀ k, k < n → p k = false
  | 0 => ⟨fun _ k hk => absurd hk (Nat.not_lt_zero k), fun _ => rfl⟩
  | n + 1 => by
    have h := fb_ct_zero (p := p) (n := n)
    rw [fb_ct_succ]
    constructor
    · intro e k hk
      have e1 : fb_ct p n = 0 := by omega
      rcases Nat.lt_or_ge k n with q | q
      · exact h.mp e1 k q
      · have ek : k = n := by omega
        subst ek
        cases hp : p k
        · rfl
        · simp [hp] at e
    · intro a
      rw [h.mpr (fun k hk => a k (by omega)), a n (by omega)]
      rfl
theorem fb_ct_pos {p : Nat → Bool} {n : Nat} : 0 < fb_ct p n ↔ ∃ k, k < n ∧ p k = true := by
  constructor
  · intro h
    refine Classical.byContradiction fun hx => ?_
    have := fb_ct_zero.mpr (fun k hk => by
      cases hp : p k
      · rfl
      · exact absurd ⟨k, hk, hp⟩ hx : ∀ k, k < n → p k = false)
    omega
  · rintro ⟨k, hk, hp⟩
    rcases Nat.eq_zero_or_pos (fb_ct p n) with e | e
    · have := fb_ct_zero.mp e k hk
      rw [this] at hp
      cases hp
    · exact e
theorem fb_ct_all {p : Nat → Bool} {n : Nat} : fb_ct p n = n ↔ ∀ k, k < n → p k = true := by
  have h := fb_ct_not p n
  constructor
  · intro e k hk
    have z : fb_ct (fun k => !p k) n = 0 := by omega
    have := fb_ct_zero.mp z k hk
    cases hp : p k
    · simp [hp] at this
    · rfl
  · intro a
    have z : fb_ct (fun k => !p k) n = 0 := fb_ct_zero.mpr (fun k hk => by simp [a k hk])
    omega
/-- the k-th place with the property -/
theorem fb_ct_kth {p : Nat → Bool} {k : Nat} : ∀ {n : Nat}, k < fb_ct p n → ∃ i, i < n ∧ p i = true ∧ fb_ct p i = k
  | 0, h => absurd h (Nat.not_lt_zero k)
  | n + 1, h => by
    rcases Nat.lt_or_ge k (fb_ct p n) with q | q
    · obtain ⟨i, h1, h2⟩ := fb_ct_kth q
      exact ⟨i, by omega, h2⟩
    · rw [fb_ct_succ] at h
      cases hp : p n
      · simp [hp] at h; omega
      · simp [hp] at h
        exact ⟨n, by omega, hp, by omega⟩
theorem fb_ct_kth_one {p : Nat → Bool} {i j : Nat} (hi : p i = true) (hj : p j = true) (e : fb_ct p i = fb_ct p j) : i = j := by
  have key : ∀ a b : Nat, a < b → p a = true → fb_ct p a < fb_ct p b := by
    intro a b hab ha
    have h := fb_ct_mono p (show a + 1 ≤ b from hab)
    rw [fb_ct_succ, ha] at h
    simp at h
    omega
  rcases Nat.lt_trichotomy i j with q | q | q
  · have := key i j q hi; omega
  · exact q
  · have := key j i q hj; omega
theorem fa_lt (a b : Int32) : a < b ↔ a.toInt < b.toInt := Int32.lt_iff_toInt_lt
theorem fa_le (a b : Int32) : a ≤ b ↔ a.toInt ≤ b.toInt := Int32.le_iff_toInt_le
theorem fa_eq (a b : Int32) : a = b ↔ a.toInt = b.toInt := Int32.toInt_inj.symm
theorem fb_rng (x : Int32) : -2147483648 ≤ x.toInt ∧ x.toInt < 2147483648 := by
  have h1 := Int32.le_toInt x
  have h2 := Int32.toInt_lt x
  omega
theorem fb_bmod {z : Int} (h1 : -2147483648 ≤ z) (h2 : z < 2147483648) : z.bmod (2 ^ 32) = z := by
  rw [Int.bmod_eq_of_le (by omega) (by omega)]
theorem fb_addI {x y : Int32} (h1 : -2147483648 ≤ x.toInt + y.toInt) (h2 : x.toInt + y.toInt < 2147483648) : (x + y).toInt = x.toInt + y.toInt := by
  rw [Int32.toInt_add, fb_bmod h1 h2]
theorem fb_subI {x y : Int32} (h1 : -2147483648 ≤ x.toInt - y.toInt) (h2 : x.toInt - y.toInt < 2147483648) : (x - y).toInt = x.toInt - y.toInt := by
  rw [Int32.toInt_sub, fb_bmod h1 h2]
theorem fb_first {p : Nat → Prop} [DecidablePred p] : ∀ {n : Nat}, (∃ i, i < n ∧ p i) → ∃ i, i < n ∧ p i ∧ ∀ j, j < i → ¬ p j
  | 0, h => by obtain ⟨i, hi, -⟩ := h; exact absurd hi (Nat.not_lt_zero i)
  | n + 1, h => by
    by_cases q : ∃ i, i < n ∧ p i
    · obtain ⟨i, h1, h2⟩ := fb_first q
      exact ⟨i, by omega, h2⟩
    · obtain ⟨i, h1, h2⟩ := h
      have e : i = n := by
        rcases Nat.lt_or_ge i n with r | r
        · exact absurd ⟨i, r, h2⟩ q
        · omega
      subst e
      exact ⟨i, by omega, h2, fun j hj hp => q ⟨j, hj, hp⟩⟩
theorem fb_first_one {p : Nat → Prop} {i j : Nat} (hi : p i) (hi2 : ∀ k, k < i → ¬ p k) (hj : p j) (hj2 : ∀ k, k < j → ¬ p k) : i = j := by
  rcases Nat.lt_trichotomy i j with q | q | q
  · exact absurd hi (hj2 i q)
  · exact q
  · exact absurd hj (hi2 j q)
/-! loops -/
def zP {O : Type} (Q : O → Prop) : Option O → Prop := fun r => ∃ o, r = some o ∧ Q o
theorem zP_some {O : Type} {Q : O → Prop} {o : O} (h : Q o) : zP Q (some o) := ⟨o, rfl, h⟩
theorem zP_mono {O : Type} {Q Q' : O → Prop} {r : Option O} (h : zP Q r) (hq : ∀ o, Q o → Q' o) : zP Q' r := by
  obtain ⟨o, e, h⟩ := h
  exact ⟨o, e, hq o h⟩
theorem zbind {A B : Type} {x : Option A} {f : A → Option B} {Q : A → Prop} {P : Option B → Prop} (h : zP Q x) (hf : ∀ u, Q u → P (f u)) : P (x.bind f) := by
  obtain ⟨u, rfl, hu⟩ := h
  exact hf u hu
theorem zbe {A B : Type} {x : Option A} {f : A → Option B} {u : A} {P : Option B → Prop} (h : x = some u) (hf : P (f u)) : P (x.bind f) := by
  subst h
  exact hf
theorem zite {A : Type} {P : A → Prop} {c : Prop} [Decidable c] {a b : A} (ht : c → P a) (hf : ¬ c → P b) : P (if c then a else b) := by
  by_cases h : c
  · rw [if_pos h]; exact ht h
  · rw [if_neg h]; exact hf h
theorem zit {A : Type} {P : A → Prop} {c : Prop} [Decidable c] {a b : A} (h : c) (k : P a) : P (if c then a else b) := by rw [if_pos h]; exact k
theorem zif {A : Type} {P : A → Prop} {c : Prop} [Decidable c] {a b : A} (h : ¬ c) (k : P b) : P (if c then a else b) := by rw [if_neg h]; exact k
theorem zl_inv {S O : Type} {step : (S → Option O) → S → Option O} (P : Option O → Prop) (I : Nat → S → Prop) (N : Nat)
    (hs : ∀ (k : S → Option O) (i : Nat) (s : S), i ≤ N → I i s → (i < N → ∀ s', I (i + 1) s' → P (k s')) → P (step k s)) :
    ∀ (n i : Nat) (s : S), i ≤ N → N - i < n → I i s → P (loopF step n s)
  | 0, _, _, _, h2, _ => absurd h2 (Nat.not_lt_zero _)
  | n + 1, i, s, h1, h2, h3 => hs (loopF step n) i s h1 h3 (fun hl s' hi => zl_inv P I N hs n (i + 1) s' hl (by omega) hi)
theorem zl {S O : Type} {step : (S → Option O) → S → Option O} {P : Option O → Prop} (I : Nat → S → Prop) (N : Nat) (hN : N < 100000) {s : S} (h0 : I 0 s)
    (hs : ∀ (k : S → Option O) (i : Nat) (s : S), i ≤ N → I i s → (i < N → ∀ s', I (i + 1) s' → P (k s')) → P (step k s)) : P (loopF step cFu s) :=
  zl_inv P I N hs cFu 0 s (Nat.zero_le _) (by show N - 0 < 100000; omega) h0
theorem zl_mu {S O : Type} {step : (S → Option O) → S → Option O} (P : Option O → Prop) (I : S → Prop) (μ : S → Nat)
    (hs : ∀ (k : S → Option O) (s : S), I s → (∀ s', I s' → μ s' < μ s → P (k s')) → P (step k s)) :
    ∀ (n : Nat) (s : S), μ s < n → I s → P (loopF step n s)
  | 0, _, h2, _ => absurd h2 (Nat.not_lt_zero _)
  | n + 1, s, h2, h3 => hs (loopF step n) s h3 (fun s' hi hl => zl_mu P I μ hs n s' (by omega) hi)
theorem zl_ei {S O : Type} {step : (S → Option O) → S → Option O} (r : Option O) (f : Nat → S) (N : Nat)
    (hs : ∀ (k : S → Option O) (i : Nat), i ≤ N → (i < N → k (f (i + 1)) = r) → step k (f i) = r) :
    ∀ (n i : Nat), i ≤ N → N - i < n → loopF step n (f i) = r
  | 0, _, _, h2 => absurd h2 (Nat.not_lt_zero _)
  | n + 1, i, h1, h2 => hs (loopF step n) i h1 (fun hl => zl_ei r f N hs n (i + 1) hl (by omega))
/-- a loop whose states are a row -/
theorem zl_e {S O : Type} {step : (S → Option O) → S → Option O} {r : Option O} (f : Nat → S) (N : Nat) (hN : N < 100000) {s : S} (h0 : s = f 0)
    (hs : ∀ (k : S → Option O) (i : Nat), i ≤ N → (i < N → k (f (i + 1)) = r) → step k (f i) = r) : loopF step cFu s = r := by
  subst h0
  exact zl_ei r f N hs cFu 0 (Nat.zero_le _) (by show N - 0 < 100000; omega)
/-! numbers -/
theorem zni (n : Nat) : (OfNat.ofNat n : Int32) = nI n := rfl
theorem zne {a b : Nat} (ha : a < 2 ^ 31) (hb : b < 2 ^ 31) (h : a ≠ b) : ¬ nI a = nI b := fun q => h ((nI_eq ha hb).mp q)
theorem znle {a b : Nat} (ha : a < 2 ^ 31) (hb : b < 2 ^ 31) (h : b < a) : ¬ nI a ≤ nI b := fun q => absurd ((nI_leI ha hb).mp q) (by omega)
theorem znlt {a b : Nat} (ha : a < 2 ^ 31) (hb : b < 2 ^ 31) (h : b ≤ a) : ¬ nI a < nI b := fun q => absurd ((nI_ltI ha hb).mp q) (by omega)
theorem zle {a b : Nat} (ha : a < 2 ^ 31) (hb : b < 2 ^ 31) (h : a ≤ b) : nI a ≤ nI b := (nI_leI ha hb).mpr h
theorem zlt {a b : Nat} (ha : a < 2 ^ 31) (hb : b < 2 ^ 31) (h : a < b) : nI a < nI b := (nI_ltI ha hb).mpr h
theorem znm1 {n : Nat} (h : n < 2 ^ 31) : ¬ nI n = -1 := fun q => by
  have := congrArg Int32.toInt q
  rw [nI_toInt h, show (-1 : Int32).toInt = -1 from by decide] at this
  omega
theorem znm9 {n : Nat} (h : n < 2 ^ 31) : ¬ nI n = -9 := fun q => by
  have := congrArg Int32.toInt q
  rw [nI_toInt h, show (-9 : Int32).toInt = -9 from by decide] at this
  omega
theorem zbI0 {b : Bool} : bI b = 0 ↔ b = false := by cases b <;> decide
theorem zbI1 {b : Bool} : bI b = 1 ↔ b = true := by cases b <;> decide
theorem zbIt : ¬ bI true = 0 := by decide
theorem zbIf : bI false = 0 := by decide
theorem zix (s c m : Nat) : nI s * nI c + nI m = nI (s * c + m) := by rw [pk_mul, nI_add]
/-- a number of 0 .. n - 1 -/
def zin (x : Int32) (n : Nat) : Bool := decide (¬ x < 0 ∧ ¬ nI n ≤ x)
theorem zin_nI {s n : Nat} (hn : n < 2 ^ 31) (h : s < n) : zin (nI s) n = true := decide_eq_true ⟨nI_pos (by omega), nI_ge h hn⟩
theorem zin_t {x : Int32} {n : Nat} (hn : n < 2 ^ 31) (h : zin x n = true) : ∃ s, s < n ∧ x = nI s := by
  obtain ⟨h1, h2⟩ := of_decide_eq_true h
  rcases pk_ix x hn with q | q | q
  · exact absurd q h1
  · exact absurd q h2
  · exact q
theorem zin_f {x : Int32} {n : Nat} (h : zin x n = false) : x < 0 ∨ nI n ≤ x := by
  have := of_decide_eq_false h
  by_cases q : x < 0
  · exact Or.inl q
  · exact Or.inr (Classical.byContradiction fun w => this ⟨q, w⟩)
theorem zin_any {x : Int32} {n : Nat} (hn : n < 2 ^ 31) {P : Prop} (ht : ∀ s, s < n → x = nI s → P) (hf : zin x n = false → P) : P := by
  cases h : zin x n
  · exact hf h
  · obtain ⟨s, h1, h2⟩ := zin_t hn h
    exact ht s h1 h2
/-! rows -/
theorem zrA {n i : Nat} {f : Nat → Int32} (hn : n < 2 ^ 31) (h : i < n) : rAt n f (nI i) = f i := by
  unfold rAt
  rw [if_neg (nI_pos (by omega)), if_neg (show ¬ Int32.ofNat n ≤ nI i from nI_ge h hn), nI_clamp (by omega)]
theorem zrP {n i k : Nat} {σ : St} {v : Int32} (hn : n < 2 ^ 31) (h : i < n) : rPut σ k n (nI i) v = up σ k i v := by
  unfold rPut
  rw [if_neg (nI_pos (by omega)), if_neg (show ¬ Int32.ofNat n ≤ nI i from nI_ge h hn), nI_clamp (by omega)]
theorem zck {α : Type} {n i : Nat} {a : Option α} (hn : n < 2 ^ 31) (h : i < n) : chk (nI i) n a = a := by
  unfold chk
  rw [if_neg]
  exact nI_in h hn
theorem zup_s (σ : St) (k j : Nat) (v : Int32) : up σ k j v k = upd (σ k) j v := by simp [up, va_up]
theorem zup_n {σ : St} {k j c : Nat} {v : Int32} (h : c ≠ k) : up σ k j v c = σ c := va_up_ne _ _ h
theorem zup_ss (σ : St) (k j : Nat) (v : Int32) : up σ k j v k j = v := by rw [zup_s, pk_us]
theorem zup_sn {σ : St} {k j i : Nat} {v : Int32} (h : i ≠ j) : up σ k j v k i = σ k i := by rw [zup_s, pk_un h]
theorem zup_v (σ : St) (k j : Nat) (v : Int32) (c i : Nat) : up σ k j v c i = if c = k ∧ i = j then v else σ c i := by
  by_cases h : c = k
  · subst h
    by_cases h2 : i = j
    · subst h2; rw [zup_ss, if_pos ⟨rfl, rfl⟩]
    · rw [zup_sn h2, if_neg (fun q => h2 q.2)]
  · rw [zup_n h, if_neg (fun q => h q.1)]
/-! stores that agree but for some cells -/
def zag (L : List Nat) (σ τ : St) : Prop := ∀ k, k ∉ L → τ k = σ k
theorem zag.rf {L : List Nat} {σ : St} : zag L σ σ := fun _ _ => rfl
theorem zag.tr {L : List Nat} {σ τ ρ : St} (h : zag L σ τ) (h2 : zag L τ ρ) : zag L σ ρ := fun k hk => (h2 k hk).trans (h k hk)
theorem zag.sub {L L' : List Nat} {σ τ : St} (h : zag L σ τ) (hs : ∀ k, k ∈ L → k ∈ L') : zag L' σ τ := fun k hk => h k (fun q => hk (hs k q))
theorem zag.up {L : List Nat} {σ τ : St} {k j : Nat} {v : Int32} (h : zag L σ τ) (hk : k ∈ L) : zag L σ (up τ k j v) := fun c hc => by
  rw [zup_n (fun q => hc (by rw [q]; exact hk))]
  exact h c hc
/-! masks -/
def zbit (k : Nat) : Int32 := (1 : Int32) <<< (nI k &&& 31)
theorem zbit_bt {k i : Nat} (hk : k < 32) (hi : i < 32) : bt (zbit k) i = decide (i = k) :=
  (by decide +kernel : ∀ k, k < 32 → ∀ i, i < 32 → bt (zbit k) i = decide (i = k)) k hk i hi
def zmk (p : Nat → Bool) : Nat → Int32
  | 0 => 0
  | n + 1 => if p n then zmk p n ||| zbit n else zmk p n
theorem zmk_bt {p : Nat → Bool} : ∀ {n : Nat}, n ≤ 32 → ∀ {i : Nat}, i < 32 → bt (zmk p n) i = (decide (i < n) && p i)
  | 0, _, i, _ => by rw [show zmk p 0 = 0 from rfl, b_0]; simp
  | n + 1, hn, i, hi => by
    have h := zmk_bt (p := p) (n := n) (by omega) hi
    unfold zmk
    by_cases hp : p n = true
    · rw [if_pos hp, b_or, h, zbit_bt (by omega) hi]
      by_cases e : i = n
      · subst e; simp [hp]
      · simp [e, show (i < n + 1) = (i < n) from propext ⟨fun q => by omega, fun q => by omega⟩]
    · rw [if_neg hp, h]
      by_cases e : i = n
      · subst e; simp [hp]
      · simp [show (i < n + 1) = (i < n) from propext ⟨fun q => by omega, fun q => by omega⟩]
theorem zmk_ext {p q : Nat → Bool} : ∀ {n : Nat}, (∀ i, i < n → p i = q i) → zmk p n = zmk q n
  | 0, _ => rfl
  | n + 1, h => by
    unfold zmk
    rw [h n (by omega), zmk_ext (fun i hi => h i (by omega))]
theorem zsh1 (x : Int32) {i : Nat} (hi : i < 32) : ((x >>> (nI i &&& 31)) &&& 1) = bI (bt x i) := by
  have h1 : ∀ j, j < 32 → bt (1 : Int32) j = decide (j = 0) := by decide +kernel
  apply b_ext
  intro j hj
  rw [b_and, b_sshr i hi x hj, h1 j hj]
  by_cases e : j = 0
  · subst e
    simp only [Nat.add_zero, if_pos hi, decide_true, Bool.and_true]
    cases hb : bt x i
    · rw [show bI false = 0 from rfl, b_0]
    · rw [show bI true = 1 from rfl, h1 0 hj]; rfl
  · rw [decide_eq_false e, Bool.and_false]
    cases hb : bt x i
    · rw [show bI false = 0 from rfl, b_0]
    · rw [show bI true = 1 from rfl, h1 j hj, decide_eq_false e]
theorem znot (x : Int32) {i : Nat} (hi : i < 32) : bt (x ^^^ (-1)) i = !bt x i := by rw [b_xor, b_m1 i hi]; cases bt x i <;> rfl
def zall (n : Nat) : Int32 := (1 : Int32) <<< (nI n &&& 31) - 1
theorem zall_bt {n i : Nat} (hn : n ≤ 12) (hi : i < 32) : bt (zall n) i = decide (i < n) :=
  (by decide +kernel : ∀ n, n < 13 → ∀ i, i < 32 → bt (zall n) i = decide (i < n)) n (by omega) i hi
theorem zbit_n {n : Nat} (h : n ≤ 12) : zbit n = nI (2 ^ n) := (by decide +kernel : ∀ n, n < 13 → zbit n = nI (2 ^ n)) n (by omega)
/-- one set lies within another -/
def zsb (x y : Int32) : Prop := ∀ i, i < 32 → bt x i = true → bt y i = true
theorem zsb_iff (x y : Int32) : (x &&& (y ^^^ (-1))) = 0 ↔ zsb x y := by
  constructor
  · intro h i hi hx
    have h2 : bt (x &&& (y ^^^ (-1))) i = false := by rw [h, b_0]
    rw [b_and, znot y hi, hx] at h2
    cases hy : bt y i
    · rw [hy] at h2; cases h2
    · rfl
  · intro h
    apply b_ext
    intro i hi
    rw [b_and, znot y hi, b_0]
    cases hx : bt x i
    · rfl
    · rw [h i hi hx]; rfl
theorem zsb.tr {x y z : Int32} (h : zsb x y) (h2 : zsb y z) : zsb x z := fun i hi q => h2 i hi (h i hi q)
theorem zsb.rf {x : Int32} : zsb x x := fun _ _ q => q
theorem zsb.an {x y : Int32} (h : zsb x y) (h2 : zsb y x) : x = y := b_ext fun i hi => by
  cases hx : bt x i <;> cases hy : bt y i
  · rfl
  · rw [h2 i hi hy] at hx; cases hx
  · rw [h i hi hx] at hy; cases hy
  · rfl
/-- how many bits -/
def zct (x : Int32) : Nat := fb_ct (bt x) 32
theorem zct_lt {x y : Int32} (h : zsb x y) (hn : x ≠ y) : zct x < zct y := by
  have e : zct y = zct x + fb_ct (fun i => bt y i && !bt x i) 32 := by
    unfold zct
    rw [← fb_ct_or (fun k hk q => by simp at q; rw [q.1] at q; exact absurd q.2.2 (by decide))]
    apply fb_ct_cong
    intro k hk
    have := h k hk
    cases hx : bt x k <;> cases hy : bt y k <;> simp_all
  rcases Nat.eq_zero_or_pos (fb_ct (fun i => bt y i && !bt x i) 32) with z | z
  · refine absurd (zsb.an h fun i hi hy => ?_) hn
    have := fb_ct_zero.mp z i hi
    simp only [hy, Bool.true_and, Bool.not_eq_false'] at this
    exact this
  · omega
theorem zct_le {x : Int32} (h : ∀ i, 12 ≤ i → i < 32 → bt x i = false) : zct x ≤ 12 := by
  have h1 := fb_ct_split (bt x) 12 20
  have h2 : fb_ct (fun k => bt x (12 + k)) 20 = 0 := fb_ct_zero.mpr (fun k hk => h (12 + k) (by omega) (by omega))
  have h3 := fb_ct_le (bt x) 12
  unfold zct
  rw [show 32 = 12 + 20 from rfl, h1, h2]
  omega
/-! the first of some numbers -/
def zfs (p : Nat → Bool) : Nat → Nat → Int32
  | 0, _ => -9
  | n + 1, j => if p j then nI j else zfs p n (j + 1)
theorem zfs_hit {p : Nat → Bool} : ∀ {n j i : Nat}, j ≤ i → i < j + n → p i = true → (∀ k, j ≤ k → k < i → p k = false) → zfs p n j = nI i
  | 0, j, i, h1, h2, _, _ => by omega
  | n + 1, j, i, h1, h2, hp, hk => by
    unfold zfs
    by_cases e : i = j
    · subst e; rw [if_pos hp]
    · rw [hk j (Nat.le_refl _) (by omega)]
      exact zfs_hit (n := n) (by omega) (by omega) hp (fun k a b => hk k (by omega) b)
theorem zfs_no {p : Nat → Bool} : ∀ {n j : Nat}, (∀ k, j ≤ k → k < j + n → p k = false) → zfs p n j = -9
  | 0, _, _ => rfl
  | n + 1, j, h => by
    unfold zfs
    rw [h j (Nat.le_refl _) (by omega)]
    exact zfs_no (fun k a b => h k (by omega) (by omega))
theorem zfs_cut {p : Nat → Bool} {N M : Nat} (h : N ≤ M) (hp : ∀ k, N ≤ k → k < M → p k = false) : zfs p N 0 = zfs p M 0 := by
  by_cases h2 : ∃ i, i < N ∧ p i = true
  · obtain ⟨i, hi, hq, hl⟩ := fb_first (p := fun i => p i = true) h2
    have hl : ∀ k, 0 ≤ k → k < i → p k = false := fun k _ hk => by
      have := hl k hk
      cases e : p k
      · rfl
      · exact absurd e this
    rw [zfs_hit (Nat.zero_le _) (by omega) hq hl, zfs_hit (Nat.zero_le _) (by omega) hq hl]
  · have hn : ∀ k, k < N → p k = false := fun k hk => by
      cases e : p k
      · rfl
      · exact absurd ⟨k, hk, e⟩ h2
    rw [zfs_no (fun k _ hk => hn k (by omega)), zfs_no (fun k _ hk => by
      rcases Nat.lt_or_ge k N with q | q
      · exact hn k q
      · exact hp k q (by omega))]
theorem zfs_m9 {p : Nat → Bool} {N : Nat} (hN : N < 2 ^ 31) : zfs p N 0 = -9 ↔ ∀ k, k < N → p k = false := by
  constructor
  · intro h
    refine Classical.byContradiction fun hx => ?_
    have h2 : ∃ i, i < N ∧ p i = true := Classical.byContradiction fun hy => hx (fun k hk => by
      cases e : p k
      · rfl
      · exact absurd ⟨k, hk, e⟩ hy)
    obtain ⟨i, hi, hq, hl⟩ := fb_first (p := fun i => p i = true) h2
    have hl : ∀ k, 0 ≤ k → k < i → p k = false := fun k _ hk => by
      have := hl k hk
      cases e : p k
      · rfl
      · exact absurd e this
    rw [zfs_hit (Nat.zero_le _) (by omega) hq hl] at h
    exact znm9 (by omega) h
  · intro h
    exact zfs_no (fun k _ hk => h k (by omega))
theorem zfs_ext {p q : Nat → Bool} : ∀ {n j : Nat}, (∀ k, j ≤ k → k < j + n → p k = q k) → zfs p n j = zfs q n j
  | 0, _, _ => rfl
  | n + 1, j, h => by
    unfold zfs
    rw [h j (Nat.le_refl _) (by omega), zfs_ext (fun k a b => h k (by omega) (by omega))]
