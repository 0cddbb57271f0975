/-! FIXED POINTS -/
def zadd (F : Int32 → Int32) (p L : Int32) : Int32 := (p &&& (L ^^^ (-1))) &&& F L
def zL (F : Int32 → Int32) (p g : Int32) : Nat → Int32
  | 0 => g
  | k + 1 => zL F p g k ||| zadd F p (zL F p g k)
def zRk (F : Int32 → Int32) (p g d : Int32) : Nat → Nat → Int32
  | 0, s => if bt g s = true then 0 else d
  | k + 1, s => if bt (zadd F p (zL F p g k)) s = true then nI (k + 1) else zRk F p g d k s
def zZ (F : Int32 → Int32) (S : Int32) : Nat → Int32
  | 0 => S
  | k + 1 => zZ F S k &&& F (zZ F S k)
def zU (F : Int32 → Int32) (al p g : Int32) : Nat → Int32
  | 0 => g
  | k + 1 => g ||| (p &&& (F (al &&& (zU F al p g k ^^^ (-1))) ^^^ (-1)))
/-- within the first twelve bits -/
def z12 (x : Int32) : Prop := ∀ i, 12 ≤ i → i < 32 → bt x i = false
theorem z12_0 : z12 0 := fun i _ _ => b_0 i
theorem z12.or {x y : Int32} (h : z12 x) (h2 : z12 y) : z12 (x ||| y) := fun i a b => by rw [b_or, h i a b, h2 i a b]; rfl
theorem z12.and {x y : Int32} (h : z12 x) : z12 (x &&& y) := fun i a b => by rw [b_and, h i a b]; rfl
theorem z12.and2 {x y : Int32} (h : z12 y) : z12 (x &&& y) := fun i a b => by rw [b_and, h i a b]; exact Bool.and_false _
theorem z12_all {n : Nat} (hn : n ≤ 12) : z12 (zall n) := fun i a b => by rw [zall_bt hn b]; exact decide_eq_false (by omega)
theorem z12_sb {x y : Int32} (h : zsb x y) (hy : z12 y) : z12 x := fun i a b => by
  cases e : bt x i
  · rfl
  · have := h i b e
    rw [hy i a b] at this
    cases this
theorem z12_F {v : Nat → Int32} {a n : Nat} {bp : Bool} {c X : Int32} (hn : n ≤ 12) : z12 (zF v a n bp c X) := fun i h1 h2 => by
  cases e : bt (zF v a n bp c X) i
  · rfl
  · have := zF_in hn h2 e
    omega
theorem zsb_or {x y : Int32} : zsb x (x ||| y) := fun i _ h => by rw [b_or, h]; rfl
theorem zsb_and {x y : Int32} : zsb (x &&& y) x := fun i _ h => by rw [b_and, Bool.and_eq_true] at h; exact h.1
theorem zsb_and2 {x y : Int32} : zsb (x &&& y) y := fun i _ h => by rw [b_and, Bool.and_eq_true] at h; exact h.2
section ZF
variable {F : Int32 → Int32} {p g d S al : Int32}
theorem zL_s (k : Nat) : zL F p g (k + 1) = zL F p g k ||| zadd F p (zL F p g k) := rfl
theorem zRk_s (k s : Nat) : zRk F p g d (k + 1) s = if bt (zadd F p (zL F p g k)) s = true then nI (k + 1) else zRk F p g d k s := rfl
theorem zL_12 (hg : z12 g) (hF : ∀ X, z12 (F X)) : ∀ k, z12 (zL F p g k)
  | 0 => hg
  | k + 1 => (zL_12 hg hF k).or (z12.and2 (hF _))
theorem zL_fix {k : Nat} (h : zadd F p (zL F p g k) = 0) : ∀ j, zL F p g (k + j) = zL F p g k ∧ ∀ s, zRk F p g d (k + j) s = zRk F p g d k s
  | 0 => ⟨rfl, fun _ => rfl⟩
  | j + 1 => by
    obtain ⟨h1, h2⟩ := zL_fix h j
    have e : zL F p g (k + (j + 1)) = zL F p g (k + j) ||| zadd F p (zL F p g (k + j)) := rfl
    refine ⟨by rw [e, h1, h, Int32.or_zero], fun s => ?_⟩
    have e2 : zRk F p g d (k + (j + 1)) s = if bt (zadd F p (zL F p g (k + j))) s = true then nI (k + j + 1) else zRk F p g d (k + j) s := rfl
    rw [e2, h1, h, b_0, if_neg (by decide), h2]
theorem zL_end {k : Nat} (hk : k ≤ 12) (h : zadd F p (zL F p g k) = 0) : zL F p g 12 = zL F p g k ∧ ∀ s, zRk F p g d 12 s = zRk F p g d k s := by
  obtain ⟨j, hj⟩ := Nat.le.dest hk
  rw [← hj]
  exact zL_fix h j
theorem zadd_new {L : Int32} {i : Nat} (hi : i < 32) (h : bt (zadd F p L) i = true) : bt L i = false ∧ bt p i = true ∧ bt (F L) i = true := by
  unfold zadd at h
  rw [b_and, b_and, znot _ hi, Bool.and_eq_true, Bool.and_eq_true] at h
  refine ⟨?_, h.1.1, h.2⟩
  have := h.1.2
  cases e : bt L i
  · rfl
  · rw [e] at this; cases this
theorem zL_grow {k : Nat} (h : ¬ zadd F p (zL F p g k) = 0) : zct (zL F p g k) < zct (zL F p g (k + 1)) := by
  refine zct_lt zsb_or fun e => h ?_
  apply b_ext
  intro i hi
  rw [b_0]
  cases q : bt (zadd F p (zL F p g k)) i
  · rfl
  · have h1 := (zadd_new hi q).1
    rw [e, zL_s, b_or, q, Bool.or_true] at h1
    cases h1
theorem zL_count {k : Nat} (h : ∀ j, j < k → ¬ zadd F p (zL F p g j) = 0) : k ≤ zct (zL F p g k) := by
  induction k with
  | zero => exact Nat.zero_le _
  | succ k ih =>
    have h1 := ih (fun j hj => h j (by omega))
    have h2 := zL_grow (h k (by omega))
    omega
theorem zL_bound (hg : z12 g) (hF : ∀ X, z12 (F X)) {k : Nat} (h : ∀ j, j < k → ¬ zadd F p (zL F p g j) = 0) : k ≤ 12 :=
  Nat.le_trans (zL_count h) (zct_le (zL_12 hg hF k))
/-- the rank of a state that was added -/
theorem zRk_pos {s r : Nat} (hr : r < 2 ^ 30) (hd : ¬ d = nI (r + 1)) : ∀ {k : Nat}, k < 2 ^ 30 → zRk F p g d k s = nI (r + 1) → bt (zadd F p (zL F p g r)) s = true ∧ r < k
  | 0, _, h => by
    unfold zRk at h
    split at h
    · exact absurd h.symm (zne0 (by omega) (by omega))
    · exact absurd h hd
  | k + 1, hk, h => by
    rw [zRk_s] at h
    split at h
    · have e : k + 1 = r + 1 := (nI_eq (by omega) (by omega)).mp h
      have : k = r := by omega
      subst this
      exact ⟨by assumption, by omega⟩
    · have := zRk_pos hr hd (k := k) (by omega) h
      exact ⟨this.1, by omega⟩
theorem zZ_s (k : Nat) : zZ F S (k + 1) = zZ F S k &&& F (zZ F S k) := rfl
theorem zZ_fix {k : Nat} (h : zZ F S (k + 1) = zZ F S k) : ∀ j, zZ F S (k + j) = zZ F S k
  | 0 => rfl
  | j + 1 => by
    have h1 := zZ_fix h j
    have e : zZ F S (k + (j + 1)) = zZ F S (k + j) &&& F (zZ F S (k + j)) := rfl
    rw [e, h1]
    exact h
theorem zZ_end {k : Nat} (hk : k ≤ 13) (h : zZ F S (k + 1) = zZ F S k) : zZ F S 13 = zZ F S k := by
  obtain ⟨j, hj⟩ := Nat.le.dest hk
  rw [← hj]
  exact zZ_fix h j
theorem zZ_count {k : Nat} (h : ∀ j, j < k → ¬ zZ F S (j + 1) = zZ F S j) : zct (zZ F S k) + k ≤ zct S := by
  induction k with
  | zero => exact Nat.le_refl _
  | succ k ih =>
    have h1 := ih (fun j hj => h j (by omega))
    have h2 : zct (zZ F S (k + 1)) < zct (zZ F S k) := zct_lt (by rw [zZ_s]; exact zsb_and) (h k (by omega))
    omega
theorem zZ_bound (hS : z12 S) {k : Nat} (h : ∀ j, j < k → ¬ zZ F S (j + 1) = zZ F S j) : k ≤ 12 := by
  have := zZ_count h
  have := zct_le hS
  omega
theorem zZ_14 (hS : z12 S) : zZ F S 14 = zZ F S 13 := by
  by_cases h : ∃ k, k ≤ 12 ∧ zZ F S (k + 1) = zZ F S k
  · obtain ⟨k, hk, h⟩ := h
    rw [show 14 = k + (14 - k) by omega, zZ_fix h, zZ_end (by omega) h]
  · have := zZ_bound (F := F) (k := 13) hS (fun j hj e => h ⟨j, by omega, e⟩)
    omega
theorem zZ_in (hS : z12 S) : zsb (zZ F S 13) (F (zZ F S 13)) := by
  have h := zZ_14 (F := F) hS
  rw [zZ_s] at h
  intro i hi hb
  rw [← h, b_and, Bool.and_eq_true] at hb
  exact hb.2
theorem zU_s (k : Nat) : zU F al p g (k + 1) = g ||| (p &&& (F (al &&& (zU F al p g k ^^^ (-1))) ^^^ (-1))) := rfl
theorem zU_up (hm : ∀ X Y, zsb X Y → zsb (F X) (F Y)) : ∀ k, zsb (zU F al p g k) (zU F al p g (k + 1))
  | 0 => zsb_or
  | k + 1 => by
    have ih := zU_up hm k
    rw [zU_s (k + 1)]
    generalize hy : zU F al p g (k + 1) = y at ih
    intro i hi hb
    rw [← hy, zU_s] at hb
    generalize zU F al p g k = x at ih hb
    rw [b_or, Bool.or_eq_true] at hb ⊢
    rcases hb with hb | hb
    · exact Or.inl hb
    · refine Or.inr ?_
      rw [b_and, znot _ hi, Bool.and_eq_true] at hb ⊢
      refine ⟨hb.1, ?_⟩
      have h2 := hm (al &&& (y ^^^ (-1))) (al &&& (x ^^^ (-1))) (fun j hj q => by
        rw [b_and, znot _ hj, Bool.and_eq_true] at q ⊢
        refine ⟨q.1, ?_⟩
        have := ih j hj
        cases e : bt x j
        · rfl
        · rw [this e] at q; exact absurd q.2 (by decide)) i hi
      cases e : bt (F (al &&& (y ^^^ (-1)))) i
      · rfl
      · rw [h2 e] at hb; exact absurd hb.2 (by decide)
theorem zU_12 (hg : z12 g) (hp : z12 p) : ∀ k, z12 (zU F al p g k)
  | 0 => hg
  | _ + 1 => hg.or hp.and
theorem zU_fix {k : Nat} (h : zU F al p g (k + 1) = zU F al p g k) : ∀ j, zU F al p g (k + j) = zU F al p g k
  | 0 => rfl
  | j + 1 => by
    have h1 := zU_fix h j
    have e : zU F al p g (k + (j + 1)) = g ||| (p &&& (F (al &&& (zU F al p g (k + j) ^^^ (-1))) ^^^ (-1))) := rfl
    rw [e, h1]
    exact h
theorem zU_end {k : Nat} (hk : k ≤ 13) (h : zU F al p g (k + 1) = zU F al p g k) : zU F al p g 13 = zU F al p g k := by
  obtain ⟨j, hj⟩ := Nat.le.dest hk
  rw [← hj]
  exact zU_fix h j
theorem zU_count (hm : ∀ X Y, zsb X Y → zsb (F X) (F Y)) {k : Nat} (h : ∀ j, j < k → ¬ zU F al p g (j + 1) = zU F al p g j) : k ≤ zct (zU F al p g k) := by
  induction k with
  | zero => exact Nat.zero_le _
  | succ k ih =>
    have h1 := ih (fun j hj => h j (by omega))
    have h2 := zct_lt (zU_up (F := F) (al := al) (p := p) (g := g) hm k) (fun e => h k (by omega) e.symm)
    omega
theorem zU_bound (hm : ∀ X Y, zsb X Y → zsb (F X) (F Y)) (hg : z12 g) (hp : z12 p) {k : Nat} (h : ∀ j, j < k → ¬ zU F al p g (j + 1) = zU F al p g j) : k ≤ 12 :=
  Nat.le_trans (zU_count hm h) (zct_le (zU_12 hg hp k))
end ZF
theorem zF_0 {v : Nat → Int32} {a n : Nat} {bp : Bool} {c : Int32} (hn : n ≤ 12) : zF v a n bp c 0 = 0 := by
  have h0 : ∀ o, zfo o 0 = false := fun o => decide_eq_false fun q => q.1 (by
    have h := (zsb_iff o 0).mp q.2
    apply b_ext
    intro i hi
    rw [b_0]
    cases e : bt o i
    · rfl
    · have := h i hi e
      rw [b_0] at this
      cases this)
  apply b_ext
  intro i hi
  rw [b_0]
  cases e : bt (zF v a n bp c 0) i
  · rfl
  · have h1 := zF_in hn hi e
    rw [zF_bt hn h1] at e
    cases bp
    · rw [if_neg (by decide)] at e
      obtain ⟨j, _, h2⟩ := zcan_t.mp e
      rw [h0] at h2
      cases h2
    · rw [if_pos rfl] at e
      unfold zcanP at e
      rw [h0] at e
      cases e
