/-! READING A TEXT: the first system's stacks -/
def zSk (r s : Nat → Int32) : List (Nat × Nat) → Prop
  | [] => True
  | x :: l => r l.length = nI x.1 ∧ s l.length = nI x.2 ∧ zSk r s l
def zS1 (r : Nat → Int32) : List Nat → Prop
  | [] => True
  | x :: l => r l.length = nI x ∧ zS1 r l
theorem zSk.g {r s r' s' : Nat → Int32} : ∀ {l : List (Nat × Nat)}, zSk r s l → (∀ j, j < l.length → r' j = r j) → (∀ j, j < l.length → s' j = s j) → zSk r' s' l
  | [], _, _, _ => trivial
  | _ :: l, ⟨h1, h2, h3⟩, e, e' => ⟨by rw [e _ (by simp)]; exact h1, by rw [e' _ (by simp)]; exact h2, h3.g (fun j hj => e j (by simp; omega)) (fun j hj => e' j (by simp; omega))⟩
theorem zS1.g {r r' : Nat → Int32} : ∀ {l : List Nat}, zS1 r l → (∀ j, j < l.length → r' j = r j) → zS1 r' l
  | [], _, _ => trivial
  | _ :: l, ⟨h1, h3⟩, e => ⟨by rw [e _ (by simp)]; exact h1, h3.g (fun j hj => e j (by simp; omega))⟩
theorem zs1 (n : Nat) : nI (n + 1) - 1 = nI n := pk_sub (a := n + 1) (b := 1) (by omega)
/-- a part more -/
def zad (f : zFd) (n k x y c : Nat) : zFd := (fun p => if p = n then k else f.1 p, fun p => if p = n then x else f.2.1 p, fun p => if p = n then y else f.2.2.1 p, fun p => if p = n then c else f.2.2.2 p)
def zOk (a len : Nat) (f : zFd) : Prop := ∀ p, p < len → f.1 p ≤ 13 ∧ (f.1 p = 2 → f.2.2.2 p < 26) ∧ (3 ≤ f.1 p → f.2.1 p < p) ∧ (zbin (f.1 p) → f.2.2.1 p < p) ∧ (6 ≤ f.1 p → f.2.2.2 p < 2 ^ a)
theorem zOk.ad {a len : Nat} {f : zFd} (h : zOk a len f) {k x y c : Nat} (h1 : k ≤ 13) (h2 : k = 2 → c < 26) (h3 : 3 ≤ k → x < len) (h4 : zbin k → y < len) (h5 : 6 ≤ k → c < 2 ^ a) : zOk a (len + 1) (zad f len k x y c) := by
  intro p hp
  unfold zad
  dsimp only
  by_cases e : p = len
  · subst e
    simp only [if_true]
    exact ⟨h1, h2, h3, h4, h5⟩
  · simp only [if_neg e]
    exact h p (by omega)
theorem z_add {σ : St} {t len : Nat} {f : zFd} (h : zFc σ t len f) (hl : len < 60) {k x y c : Nat} {D X Y : Int32} (hd : (k = 2 ∨ 6 ≤ k) → D = nI c) (hx : 3 ≤ k → X = nI x) (hy : zbin k → Y = nI y) :
    (m_X0_add σ t (nI k) D X Y).1 = nI len ∧ zFc (m_X0_add σ t (nI k) D X Y).2 t (len + 1) (zad f len k x y c) ∧ ∀ q, (q < t ∨ t + 5 ≤ q) → (m_X0_add σ t (nI k) D X Y).2 q = σ q := by
  have e1 : ∀ (τ : St) (j : Nat) (v : Int32), up τ (t + 1) j v t = τ t := fun τ j v => zup_n (by omega)
  have e2 : ∀ (τ : St) (j : Nat) (v : Int32), up τ (t + 2) j v t = τ t := fun τ j v => zup_n (by omega)
  have e3 : ∀ (τ : St) (j : Nat) (v : Int32), up τ (t + 3) j v t = τ t := fun τ j v => zup_n (by omega)
  have e4 : ∀ (τ : St) (j : Nat) (v : Int32), up τ (t + 4) j v t = τ t := fun τ j v => zup_n (by omega)
  unfold m_X0_add
  simp only [zrP (n := 60) (by decide) hl, h.1, e1, e2, e3, e4, nI_1, zup_ss]
  refine ⟨zs1 _, ⟨zup_ss _ _ _ _, fun p hp => ?_⟩, fun q hq => ?_⟩
  · have c1 : ∀ (τ : St) (v : Int32), up τ t 4 v (t + 1) = τ (t + 1) := fun τ v => zup_n (by omega)
    have c2 : ∀ (τ : St) (v : Int32), up τ t 4 v (t + 2) = τ (t + 2) := fun τ v => zup_n (by omega)
    have c3 : ∀ (τ : St) (v : Int32), up τ t 4 v (t + 3) = τ (t + 3) := fun τ v => zup_n (by omega)
    have c4 : ∀ (τ : St) (v : Int32), up τ t 4 v (t + 4) = τ (t + 4) := fun τ v => zup_n (by omega)
    have n1 : ∀ (τ : St) (i j j' : Nat) (v : Int32), i ≠ j → up τ (t + i) j' v (t + j) = τ (t + j) := fun τ i j j' v q => zup_n (by omega)
    simp only [c1, c2, c3, c4, zup_s, n1 _ 3 1 _ _ (by decide), n1 _ 2 1 _ _ (by decide), n1 _ 4 1 _ _ (by decide), n1 _ 3 2 _ _ (by decide), n1 _ 4 2 _ _ (by decide), n1 _ 1 2 _ _ (by decide), n1 _ 3 4 _ _ (by decide), n1 _ 2 4 _ _ (by decide), n1 _ 1 4 _ _ (by decide), n1 _ 1 3 _ _ (by decide), n1 _ 2 3 _ _ (by decide), n1 _ 4 3 _ _ (by decide)]
    unfold zad
    dsimp only
    by_cases e : p = len
    · subst e
      simp only [pk_us, if_true]
      exact ⟨trivial, hd, hx, hy⟩
    · simp only [pk_un e, if_neg e]
      exact h.2 p (by omega)
  · rw [zup_n (by omega), zup_n (by omega), zup_n (by omega), zup_n (by omega), zup_n (by omega)]
def zcf (m : Nat) (σ τ : St) : Prop := (∀ k, k ≠ 73 → k ≠ 75 → k ≠ 76 → k ≠ 77 → (k < 25 + 5 * m ∨ 30 + 5 * m ≤ k) → τ k = σ k) ∧ τ 73 0 = σ 73 0 ∧ τ 73 5 = σ 73 5
theorem zcf.rf {m : Nat} {σ : St} : zcf m σ σ := ⟨fun _ _ _ _ _ _ => rfl, rfl, rfl⟩
theorem zcf.tr {m : Nat} {σ τ ρ : St} (h : zcf m σ τ) (h2 : zcf m τ ρ) : zcf m σ ρ := ⟨fun k a b c d e => (h2.1 k a b c d e).trans (h.1 k a b c d e), h2.2.1.trans h.2.1, h2.2.2.trans h.2.2⟩
theorem zcf.u {m : Nat} {σ τ : St} (h : zcf m σ τ) {k j : Nat} {v : Int32} (hk : (k = 73 ∧ j ≠ 0 ∧ j ≠ 5) ∨ k = 75 ∨ k = 76 ∨ k = 77) : zcf m σ (up τ k j v) := by
  refine h.tr ⟨fun q a b c d e => zup_n (by omega), ?_, ?_⟩
  · rw [zup_v, if_neg (by omega)]
  · rw [zup_v, if_neg (by omega)]
/-- the stacks O and P, the parts made, the mode -/
def zcS (m : Nat) (σ0 σ : St) (O : List (Nat × Nat)) (P : List Nat) (len : Nat) (f : zFd) (md : Nat) : Prop :=
  m < 8 ∧ zcf m σ0 σ ∧ σ 73 6 = nI O.length ∧ zSk (σ 75) (σ 76) O ∧ σ 73 7 = nI P.length ∧ zS1 (σ 77) P ∧ σ 73 11 = nI (25 + 5 * m) ∧ zFc σ (25 + 5 * m) len f ∧ P.length ≤ len ∧ len + O.length ≤ 60 ∧ σ 73 8 = nI md
theorem z_isF {m : Nat} (h : m < 8) : isF (25 + 5 * m) = true := (by decide : ∀ m, m < 8 → isF (25 + 5 * m) = true) m h
theorem zFc.e {σ τ : St} {t len : Nat} {f : zFd} (h : zFc σ t len f) (e : ∀ k, t ≤ k → k < t + 5 → τ k = σ k) : zFc τ t len f := by
  unfold zFc at h ⊢
  rw [e t (by omega) (by omega), e (t + 1) (by omega) (by omega), e (t + 2) (by omega) (by omega), e (t + 3) (by omega) (by omega), e (t + 4) (by omega) (by omega)]
  exact h
section RC
variable {m len md : Nat} {σ0 σ : St} {O : List (Nat × Nat)} {P : List Nat} {f : zFd}
theorem zcS.setm (h : zcS m σ0 σ O P len f md) (d : Nat) : zcS m σ0 (up σ 73 8 (nI d)) O P len f d := by
  obtain ⟨hm, h1, h2, h3, h4, h5, h6, h7, h8, h9, h10⟩ := h
  refine ⟨hm, h1.u (by omega), ?_, ?_, ?_, ?_, ?_, h7.e (fun k a b => zup_n (by omega)), h8, h9, zup_ss _ _ _ _⟩
  · rw [zup_sn (by decide)]; exact h2
  · rw [zup_n (by decide), zup_n (by decide)]; exact h3
  · rw [zup_sn (by decide)]; exact h4
  · rw [zup_n (by decide)]; exact h5
  · rw [zup_sn (by decide)]; exact h6
theorem z_push (h : zcS m σ0 σ O P len f md) (hl : len + O.length < 60) (k c : Nat) : ∃ τ, m_X4_push σ (nI k) (nI c) = (true, τ) ∧ zcS m σ0 τ ((k, c) :: O) P len f 0 := by
  obtain ⟨hm, h1, h2, h3, h4, h5, h6, h7, h8, h9, h10⟩ := h
  refine ⟨_, rfl, hm, ?_⟩
  have e1 : ∀ (τ : St) (j : Nat) (v : Int32), up τ 75 j v 73 = τ 73 := fun τ j v => zup_n (by decide)
  have e2 : ∀ (τ : St) (j : Nat) (v : Int32), up τ 76 j v 73 = τ 73 := fun τ j v => zup_n (by decide)
  rw [h2, zrP (n := 60) (by decide) (by omega), e1, h2, zrP (n := 60) (by decide) (by omega), e2, e1, h2, nI_1]
  refine ⟨(((h1.u (by omega)).u (by omega)).u (by omega)).u (by omega), ?_, ⟨?_, ?_, ?_⟩, ?_, ?_, ?_, h7.e (fun k a b => ?_), h8, by simp; omega, zup_ss _ _ _ _⟩
  · rw [zup_sn (by decide), zup_ss]; simp
  · rw [zup_n (by decide), zup_n (by decide), zup_n (by decide), zup_ss]
  · rw [zup_n (by decide), zup_n (by decide), zup_ss]
  · exact h3.g (fun j hj => by rw [zup_n (by decide), zup_n (by decide), zup_n (by decide), zup_sn (by omega)]) (fun j hj => by rw [zup_n (by decide), zup_n (by decide), zup_sn (by omega), zup_n (by decide)])
  · rw [zup_sn (by decide), zup_sn (by decide), e2, e1]; exact h4
  · rw [zup_n (by decide), zup_n (by decide), zup_n (by decide), zup_n (by decide)]; exact h5
  · rw [zup_sn (by decide), zup_sn (by decide), e2, e1]; exact h6
  · rw [zup_n (by omega), zup_n (by omega), zup_n (by omega), zup_n (by omega)]
/-- what adds a part and puts its number on the stack -/
theorem z_made (h : zcS m σ0 σ O P len f md) (hl : len < 60) (ho : len + 1 + O.length ≤ 60) {k x y c : Nat} {D X Y : Int32} (hd : (k = 2 ∨ 6 ≤ k) → D = nI c) (hx : 3 ≤ k → X = nI x) (hy : zbin k → Y = nI y) :
    zcS m σ0 (m_X4_pushOperand (m_X0_add σ (25 + 5 * m) (nI k) D X Y).2 (m_X0_add σ (25 + 5 * m) (nI k) D X Y).1) O (len :: P) (len + 1) (zad f len k x y c) md := by
  obtain ⟨hm, h1, h2, h3, h4, h5, h6, h7, h8, h9, h10⟩ := h
  obtain ⟨a1, a2, a3⟩ := z_add h7 hl hd hx hy
  generalize m_X0_add σ (25 + 5 * m) (nI k) D X Y = A at a1 a2 a3 ⊢
  obtain ⟨r, τ⟩ := A
  dsimp only at a1 a2 a3 ⊢
  subst a1
  have e73 : τ 73 = σ 73 := a3 73 (by omega)
  unfold m_X4_pushOperand
  rw [e73, h4, zrP (n := 60) (by decide) (by omega), zup_n (by decide), e73, h4, nI_1]
  refine ⟨hm, ((h1.tr ⟨fun q _ _ _ _ e => a3 q (by omega), by rw [e73], by rw [e73]⟩).u (by omega)).u (by omega), ?_, ?_, ?_, ⟨?_, ?_⟩, ?_, a2.e (fun q _ _ => ?_), by simp; omega, by omega, ?_⟩
  · rw [zup_sn (by decide), zup_n (by decide), e73]; exact h2
  · rw [zup_n (by decide), zup_n (by decide), zup_n (by decide), zup_n (by decide), a3 75 (by omega), a3 76 (by omega)]; exact h3
  · rw [zup_ss]; simp
  · rw [zup_n (by decide), zup_ss]
  · rw [zup_n (by decide)]
    exact h5.g (fun j hj => by rw [zup_sn (by omega), a3 77 (by omega)])
  · rw [zup_sn (by decide), zup_n (by decide), e73]; exact h6
  · rw [zup_n (by omega), zup_n (by omega)]
  · rw [zup_sn (by decide), zup_n (by decide), e73]; exact h10
theorem z_leaf (h : zcS m σ0 σ O P len f md) (ho : len + 1 + O.length ≤ 60) {k c : Nat} {D : Int32} (hk : k < 3) (hd : k = 2 → D = nI c) :
    ∃ τ, m_X4_addLeaf σ (nI k) D = some (true, τ) ∧ zcS m σ0 τ O (len :: P) (len + 1) (zad f len k 0 0 c) 3 := by
  unfold m_X4_addLeaf
  rw [h.2.2.2.2.2.2.1, nI_isF (z_isF h.1), zoFm (z_isF h.1)]
  exact ⟨_, rfl, (z_made h (by omega) ho (x := 0) (y := 0) (fun q => hd (by omega)) (fun q => by omega) (fun q => by unfold zbin at q; omega)).setm 3⟩
theorem z_rt {x : Nat × Nat} (h : zcS m σ0 σ (x :: O) P len f md) : m_X4_topOpen σ = nI x.1 ∧ rAt 60 (σ 76) (σ 73 6 - 1) = nI x.2 ∧ σ 73 6 = nI (O.length + 1) := by
  obtain ⟨hm, h1, h2, h3, h4, h5, h6, h7, h8, h9, h10⟩ := h
  have h2 : σ 73 6 = nI (O.length + 1) := h2
  have h9 : len + (O.length + 1) ≤ 60 := h9
  unfold m_X4_topOpen
  rw [h2, zs1, if_neg (show ¬ nI (O.length + 1) ≤ 0 from znle (b := 0) (by omega) (by decide) (by omega)), zrA (n := 60) (by decide) (by omega), zrA (n := 60) (by decide) (by omega)]
  exact ⟨h3.1, h3.2.1, rfl⟩
theorem z_rt0 (h : zcS m σ0 σ [] P len f md) : m_X4_topOpen σ = -1 := by
  unfold m_X4_topOpen
  rw [h.2.2.1, if_pos (by decide)]
theorem zcS.drop {x : Nat × Nat} (h : zcS m σ0 σ (x :: O) P len f md) : zcS m σ0 (up σ 73 6 (σ 73 6 - 1)) O P len f md := by
  rw [(z_rt h).2.2, zs1]
  obtain ⟨hm, h1, h2, h3, h4, h5, h6, h7, h8, h9, h10⟩ := h
  have h9 : len + (O.length + 1) ≤ 60 := h9
  refine ⟨hm, h1.u (by omega), zup_ss _ _ _ _, ?_, ?_, ?_, ?_, h7.e (fun k a b => zup_n (by omega)), h8, by omega, ?_⟩
  · rw [zup_n (by decide), zup_n (by decide)]; exact h3.2.2
  · rw [zup_sn (by decide)]; exact h4
  · rw [zup_n (by decide)]; exact h5
  · rw [zup_sn (by decide)]; exact h6
  · rw [zup_sn (by decide)]; exact h10
theorem z_pop {u : Nat} (h : zcS m σ0 σ O (u :: P) len f md) : (m_X4_popOperand σ).1 = nI u ∧ zcS m σ0 (m_X4_popOperand σ).2 O P len f md := by
  obtain ⟨hm, h1, h2, h3, h4, h5, h6, h7, h8, h9, h10⟩ := h
  have h4 : σ 73 7 = nI (P.length + 1) := h4
  have h8 : P.length + 1 ≤ len := h8
  unfold m_X4_popOperand
  rw [h4, zs1, zup_n (by decide), zup_ss, zrA (n := 60) (by decide) (by omega)]
  dsimp only
  refine ⟨h5.1, hm, h1.u (by omega), ?_, ?_, zup_ss _ _ _ _, ?_, ?_, h7.e (fun k a b => zup_n (by omega)), by omega, h9, ?_⟩
  · rw [zup_sn (by decide)]; exact h2
  · rw [zup_n (by decide), zup_n (by decide)]; exact h3
  · rw [zup_n (by decide)]; exact h5.2
  · rw [zup_sn (by decide)]; exact h6
  · rw [zup_sn (by decide)]; exact h10
/-- what stands before one unit -/
def zpx (k : Nat) : Prop := k = 3 ∨ k = 6 ∨ k = 7 ∨ k = 8 ∨ k = 10 ∨ k = 11 ∨ k = 12
theorem z_px {k : Nat} (h : zpx k) : m_X4_isPrefix (nI k) = true := by
  unfold zpx at h
  rcases h with rfl | rfl | rfl | rfl | rfl | rfl | rfl <;> decide
theorem z_npx {k : Nat} (h : k = 4 ∨ k = 5 ∨ k = 9 ∨ k = 13 ∨ k = 14 ∨ k = 15 ∨ k = 19) : m_X4_isPrefix (nI k) = false := by
  rcases h with rfl | rfl | rfl | rfl | rfl | rfl | rfl <;> decide
theorem z_clo1 {k c u : Nat} (h : zcS m σ0 σ ((k, c) :: O) (u :: P) len f md) (hk : zpx k) : ∃ τ, m_X4_close σ = some τ ∧ zcS m σ0 τ O (len :: P) (len + 1) (zad f len k u 0 c) md := by
  obtain ⟨t1, t2, -⟩ := z_rt h
  have h9 : len + (O.length + 1) ≤ 60 := h.2.2.2.2.2.2.2.2.2.1
  unfold m_X4_close
  rw [t1, t2, z_px hk, if_neg zbIt]
  obtain ⟨p1, p2⟩ := z_pop h.drop
  unfold m_X4_close_b44
  rw [p1, p2.2.2.2.2.2.2.1, nI_isF (z_isF h.1), zoFm (z_isF h.1)]
  exact ⟨_, rfl, z_made p2 (by omega) (by omega) (fun _ => rfl) (fun _ => rfl) (fun q => by unfold zpx at hk; unfold zbin at q; omega)⟩
theorem z_clo2 {k c x y : Nat} (h : zcS m σ0 σ ((k, c) :: O) (y :: x :: P) len f md) (hk : zbin k) : ∃ τ, m_X4_close σ = some τ ∧ zcS m σ0 τ O (len :: P) (len + 1) (zad f len k x y c) md := by
  obtain ⟨t1, t2, -⟩ := z_rt h
  have h9 : len + (O.length + 1) ≤ 60 := h.2.2.2.2.2.2.2.2.2.1
  unfold m_X4_close
  rw [t1, t2, z_npx (by unfold zbin at hk; omega), if_pos zbIf]
  obtain ⟨p1, p2⟩ := z_pop h.drop
  obtain ⟨q1, q2⟩ := z_pop p2
  unfold m_X4_close_b44
  rw [p1, q1, q2.2.2.2.2.2.2.1, nI_isF (z_isF h.1), zoFm (z_isF h.1)]
  exact ⟨_, rfl, z_made q2 (by omega) (by omega) (fun _ => rfl) (fun _ => rfl) (fun _ => rfl)⟩
abbrev zLv : Type := Nat × Nat × Nat × Nat × Option Nat × Option Nat × List (Nat × Nat)
def zo4 : Option Nat → List (Nat × Nat)
  | none => []
  | some _ => [(4, 0)]
def zo5 : Option Nat → List (Nat × Nat)
  | none => []
  | some _ => [(5, 0)]
def zop (fr uk uc : Nat) : List (Nat × Nat) := if fr = 1 then [(14, 0)] else if fr = 2 then [(uk + 6, uc)] else if fr = 3 then [(uk, uc)] else []
def zl3 (fr lf : Nat) : List Nat := if fr = 3 then [lf] else []
def zO : List zLv → List (Nat × Nat)
  | [] => []
  | (fr, uk, uc, _, o, n, ah) :: Ls => ah ++ (zo4 n ++ (zo5 o ++ (zop fr uk uc ++ zO Ls)))
def zRq : List zLv → List Nat
  | [] => []
  | (fr, _, _, lf, o, n, _) :: Ls => n.toList ++ (o.toList ++ (zl3 fr lf ++ zRq Ls))
def zA : List zLv → List (Nat × Nat)
  | [] => []
  | (_, _, _, _, _, _, ah) :: Ls => ah ++ zA Ls
def zpre : List (Nat × Nat) → Nat × Nat × zFd → Nat × Nat × zFd
  | [], t => t
  | x :: l, (u, n, f) => zpre l (n, n + 1, zad f n x.1 u 0 x.2)
def zun (k : Nat) : Option Nat → Nat × Nat × zFd → Nat × Nat × zFd
  | none, t => t
  | some x, (u, n, f) => (n, n + 1, zad f n k x u 0)
theorem z_clp (hO : ∀ x l, O = x :: l → m_X4_isPrefix (nI x.1) = false) : ∀ (ah : List (Nat × Nat)) (F : Nat) (σ : St) (u len : Nat) (f : zFd), (∀ x, x ∈ ah → zpx x.1) → ah.length < F → zcS m σ0 σ (ah ++ O) (u :: P) len f md →
    ∃ τ, loopF (fun k z => m_X4_closePrefixes_b5 z.1 z.2 k) F (σ, nI (ah.length + O.length)) = some τ ∧ zcS m σ0 τ O ((zpre ah (u, len, f)).1 :: P) (zpre ah (u, len, f)).2.1 (zpre ah (u, len, f)).2.2 md
  | _, 0, _, _, _, _, _, hF, _ => absurd hF (Nat.not_lt_zero _)
  | [], F + 1, σ, u, len, f, _, _, h => by
    refine ⟨σ, ?_, h⟩
    show m_X4_closePrefixes_b5 σ (nI (0 + O.length)) _ = _
    unfold m_X4_closePrefixes_b5
    cases O with
    | nil => rw [if_pos (by decide)]
    | cons x l =>
      have h9 : len + (l.length + 1) ≤ 60 := h.2.2.2.2.2.2.2.2.2.1
      rw [show 0 + (x :: l).length = 0 + (l.length + 1) from rfl, if_neg (show ¬ nI (0 + (l.length + 1)) ≤ 0 from znle (b := 0) (by omega) (by decide) (by omega)), (z_rt (O := l) h).1, hO x l rfl, if_pos zbIf]
  | (k, c) :: ah, F + 1, σ, u, len, f, ha, hF, h => by
    obtain ⟨τ, e1, h1⟩ := z_clo1 (O := ah ++ O) h (ha (k, c) (by simp))
    obtain ⟨ρ, e2, h2⟩ := z_clp hO ah F τ len (len + 1) (zad f len k u 0 c) (fun x hx => ha x (by simp [hx])) (by simp at hF; omega) h1
    refine ⟨ρ, ?_, h2⟩
    show m_X4_closePrefixes_b5 σ (nI ((ah.length + 1) + O.length)) _ = _
    have h9 : len + ((ah ++ O).length + 1) ≤ 60 := h.2.2.2.2.2.2.2.2.2.1
    rw [List.length_append] at h9
    unfold m_X4_closePrefixes_b5
    rw [if_neg (show ¬ nI ((ah.length + 1) + O.length) ≤ 0 from znle (b := 0) (by omega) (by decide) (by omega)), (z_rt (O := ah ++ O) h).1, z_px (ha (k, c) (by simp)), if_neg zbIt, e1, Option.bind_some, show ah.length + 1 + O.length = (ah.length + O.length) + 1 by omega, pk_m1]
    exact e2
/-- what opens a level is no prefix, no 4, no 5 -/
theorem zop_hd {fr uk uc : Nat} {Ls : List zLv} (h3 : fr ≤ 3) (h0 : fr = 0 → Ls = []) (hk : 2 ≤ fr → uk = 9 ∨ uk = 13) : ∀ x l, zop fr uk uc ++ zO Ls = x :: l → x.1 = 14 ∨ x.1 = 9 ∨ x.1 = 13 ∨ x.1 = 15 ∨ x.1 = 19 := by
  intro x l e
  have : fr = 0 ∨ fr = 1 ∨ fr = 2 ∨ fr = 3 := by omega
  rcases this with rfl | rfl | rfl | rfl
  · rw [h0 rfl] at e; simp [zop, zO] at e
  · simp [zop] at e; rw [← e.1]; exact Or.inl rfl
  · simp [zop] at e; rw [← e.1]; have := hk (by omega); dsimp only; omega
  · simp [zop] at e; rw [← e.1]; have := hk (by omega); dsimp only; omega
theorem z_cif {k : Nat} (hk : k < 20) (h : zcS m σ0 σ O P len f md) (hO : ∀ x l, O = x :: l → x.1 < 20 ∧ x.1 ≠ k) : m_X4_closeIf σ (nI k) = some σ := by
  unfold m_X4_closeIf
  cases O with
  | nil => rw [z_rt0 h, if_neg (fun q => znm1 (by omega) q.symm)]
  | cons x l =>
    obtain ⟨a, b⟩ := hO x l rfl
    rw [(z_rt h).1, if_neg (zne (by omega) (by omega) b)]
theorem z_cun {k : Nat} (hk : k = 4 ∨ k = 5) {o : Option Nat} {u : Nat} {R : List (Nat × Nat)} (hR : ∀ x l, R = x :: l → x.1 < 20 ∧ x.1 ≠ k) (h : zcS m σ0 σ ((if o.isSome then [(k, 0)] else []) ++ R) (u :: (o.toList ++ P)) len f md) :
    ∃ τ, m_X4_closeIf σ (nI k) = some τ ∧ zcS m σ0 τ R ((zun k o (u, len, f)).1 :: P) (zun k o (u, len, f)).2.1 (zun k o (u, len, f)).2.2 md := by
  cases o with
  | none => exact ⟨σ, z_cif (by omega) h hR, h⟩
  | some x =>
    have h : zcS m σ0 σ ((k, 0) :: R) (u :: x :: P) len f md := h
    obtain ⟨τ, e, h1⟩ := z_clo2 h (by unfold zbin; omega)
    refine ⟨τ, ?_, h1⟩
    unfold m_X4_closeIf
    rw [(z_rt h).1, if_pos rfl, e]
    rfl
theorem zo4_e (o : Option Nat) : zo4 o = if o.isSome then [(4, 0)] else [] := by cases o <;> rfl
theorem zo5_e (o : Option Nat) : zo5 o = if o.isSome then [(5, 0)] else [] := by cases o <;> rfl
/-- a unit is whole: the first system -/
theorem z_cu {fr uk uc lf u : Nat} {o n : Option Nat} {ah : List (Nat × Nat)} {Ls : List zLv} (h3 : fr ≤ 3) (h0 : fr = 0 → Ls = []) (hk : 2 ≤ fr → uk = 9 ∨ uk = 13) (ha : ∀ x, x ∈ ah → zpx x.1)
    (h : zcS m σ0 σ (zO ((fr, uk, uc, lf, o, n, ah) :: Ls)) (u :: zRq ((fr, uk, uc, lf, o, n, ah) :: Ls)) len f 3) :
    ∃ σ' τ, m_X4_closePrefixes σ = some σ' ∧ zcf m σ0 σ' ∧ σ' 73 8 = 3 ∧ m_X4_closeIf σ' 4 = some τ ∧ zcS m σ0 τ (zo5 o ++ (zop fr uk uc ++ zO Ls)) ((zun 4 n (zpre ah (u, len, f))).1 :: (o.toList ++ (zl3 fr lf ++ zRq Ls))) (zun 4 n (zpre ah (u, len, f))).2.1 (zun 4 n (zpre ah (u, len, f))).2.2 3 := by
  have hd := zop_hd (uc := uc) h3 h0 hk
  have hd5 : ∀ x l, zo5 o ++ (zop fr uk uc ++ zO Ls) = x :: l → (x.1 = 14 ∨ x.1 = 9 ∨ x.1 = 13 ∨ x.1 = 15 ∨ x.1 = 19) ∨ x.1 = 5 := by
    intro x l e
    cases o with
    | none => exact Or.inl (hd x l e)
    | some y => simp [zo5] at e; rw [← e.1]; exact Or.inr rfl
  have hd4 : ∀ x l, zo4 n ++ (zo5 o ++ (zop fr uk uc ++ zO Ls)) = x :: l → m_X4_isPrefix (nI x.1) = false := by
    intro x l e
    cases n with
    | none => have := hd5 x l e; exact z_npx (by omega)
    | some y => simp [zo4] at e; rw [← e.1]; exact z_npx (Or.inl rfl)
  have h9 : len + (ah ++ (zo4 n ++ (zo5 o ++ (zop fr uk uc ++ zO Ls)))).length ≤ 60 := h.2.2.2.2.2.2.2.2.2.1
  rw [List.length_append] at h9
  obtain ⟨σ', e1, h1⟩ := z_clp hd4 ah cFu σ u len f ha (by unfold cFu; omega) h
  have e1 : m_X4_closePrefixes σ = some σ' := by
    unfold m_X4_closePrefixes
    rw [h.2.2.1, ← e1]
    show loopF _ cFu (σ, nI (List.length (ah ++ _))) = _
    rw [List.length_append]
  rw [zo4_e] at h1
  obtain ⟨τ, e2, h2⟩ := z_cun (Or.inl rfl) (fun x l e => by have := hd5 x l e; omega) h1
  exact ⟨σ', τ, e1, h1.2.1, h1.2.2.2.2.2.2.2.2.2.2, e2, h2⟩
/-- what is joined is whole: the first system -/
theorem z_c5 {fr uk uc u : Nat} {o : Option Nat} {Ls : List zLv} (h3 : fr ≤ 3) (h0 : fr = 0 → Ls = []) (hk : 2 ≤ fr → uk = 9 ∨ uk = 13)
    (h : zcS m σ0 σ (zo5 o ++ (zop fr uk uc ++ zO Ls)) (u :: (o.toList ++ P)) len f md) :
    ∃ τ, m_X4_closeIf σ 5 = some τ ∧ zcS m σ0 τ (zop fr uk uc ++ zO Ls) ((zun 5 o (u, len, f)).1 :: P) (zun 5 o (u, len, f)).2.1 (zun 5 o (u, len, f)).2.2 md := by
  have hd := zop_hd (uc := uc) h3 h0 hk
  rw [zo5_e] at h
  exact z_cun (Or.inr rfl) (fun x l e => by have := hd x l e; omega) h
end RC
