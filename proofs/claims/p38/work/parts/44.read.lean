/-! TYPING AND READING the law's own texts -/
theorem z_until {m len md k c : Nat} {σ0 σ : St} {O : List (Nat × Nat)} {P : List Nat} {f : zFd} (hk : k = 9 ∨ k = 13) (h : zcS m σ0 σ ((k + 6, c) :: O) P len f md) : ∃ τ, m_X4_takeUntil σ = (true, τ) ∧ zcS m σ0 τ ((k, c) :: O) P len f 0 := by
  obtain ⟨t1, t2, t3⟩ := z_rt h
  have t1 : m_X4_topOpen σ = nI (k + 6) := t1
  obtain ⟨hm, h1, h2, h3, h4, h5, h6, h7, h8, h9, h10⟩ := h
  have h9 : len + (O.length + 1) ≤ 60 := h9
  have e : m_X4_takeUntil σ = m_X4_takeUntil_b19 σ (nI (k + 6)) := by
    unfold m_X4_takeUntil
    rw [t1]
    rcases hk with rfl | rfl
    · rw [if_pos (by decide)]
    · rw [if_neg (by decide), if_pos (by decide)]
  have e2 : (nI (k + 6) - 15) + 9 = nI k := by rcases hk with rfl | rfl <;> decide
  rw [e]
  unfold m_X4_takeUntil_b19
  rw [e2, t3, zs1, zrP (n := 60) (by decide) (by omega)]
  refine ⟨_, rfl, zcS.setm (O := (k, c) :: O) (md := md) ⟨hm, h1.u (by omega), ?_, ⟨?_, ?_, ?_⟩, ?_, ?_, ?_, h7.e (fun k a b => zup_n (by omega)), h8, h9, ?_⟩ 0⟩
  · rw [zup_n (by decide)]; exact h2
  · exact zup_ss _ _ _ _
  · rw [zup_n (by decide)]; exact h3.2.1
  · exact h3.2.2.g (fun j hj => zup_sn (by omega)) (fun j hj => by rw [zup_n (by decide)])
  · rw [zup_n (by decide)]; exact h4
  · rw [zup_n (by decide)]; exact h5
  · rw [zup_n (by decide)]; exact h6
  · rw [zup_n (by decide)]; exact h10
theorem rd_bpe {α β : Type} (x : Option (α × β)) : (x.bind fun u => some (u.1, u.2)) = x := by cases x <;> rfl
theorem rd_sh : ∀ x, x < 4 → ∀ co, co < 16 → ((nI co >>> (nI x &&& 31) = 0) ↔ co < 2 ^ x) ∧ (co < 2 ^ x → nI co ||| ((1 : Int32) <<< (nI x &&& 31)) = nI (co + 2 ^ x)) := by decide +kernel
/-- the text -/
def tx (σ : St) (T : List Nat) : Prop := T.length ≤ 60 ∧ σ 73 5 = nI T.length ∧ ∀ i c, T[i]? = some c → σ 74 i = nI c
theorem tx.g {σ τ : St} {T : List Nat} {L : List Nat} (h : tx σ T) (hg : zag L σ τ) (hL : 73 ∉ L ∧ 74 ∉ L) : tx τ T := by
  unfold tx at h ⊢
  rw [hg 73 hL.1, hg 74 hL.2]
  exact h
/-- the digits of a coalition from i on -/
def dg2 (c : Nat) : Nat → Nat → List Nat
  | 0, _ => []
  | k + 1, i => (if c.testBit i then [48 + i] else []) ++ dg2 c k (i + 1)
theorem dg2_len (c : Nat) : ∀ k i, (dg2 c k i).length ≤ k
  | 0, _ => Nat.le_refl _
  | k + 1, i => by
    have := dg2_len c k (i + 1)
    unfold dg2
    rw [List.length_append]
    split <;> simp <;> omega
def glT (g : Nat) : List Nat := if g = 0 then [88, 97] else if g = 1 then [70, 97] else if g = 2 then [71, 97] else [40, 97, 85, 98, 41]
def txT (a c g : Nat) : List Nat := 60 :: (dg2 c a 0 ++ 62 :: glT g)
def f00 : zFd := (fun _ => 0, fun _ => 0, fun _ => 0, fun _ => 0)
/-- the formula read -/
def fG (c g : Nat) : zFd := if g = 3 then zad (zad (zad f00 0 2 0 0 0) 1 2 0 0 1) 2 9 0 1 c else zad (zad f00 0 2 0 0 0) 1 (6 + g) 0 0 c
def lG (g : Nat) : Nat := if g = 3 then 3 else 2
section TY
variable {a n h m : Nat} {v : Nat → Int32} {P : Nat → Nat → Int32} {σ : St}
theorem q_type_no {x : Int32} (hx : x < 32) : m_X9_type σ x = (-1, σ) := by
  unfold m_X9_type
  rw [if_pos hx]
theorem q_type {T : List Nat} (hT : tx σ T) (hl : T.length < 60) {c : Nat} (h1 : 32 ≤ c) (h2 : c ≤ 126) : (m_X9_type σ (nI c)).1 = nI (T.length + 1) ∧ tx (m_X9_type σ (nI c)).2 (T ++ [c]) ∧ (∀ k, k ≠ 73 → k ≠ 74 → (m_X9_type σ (nI c)).2 k = σ k) ∧ ∀ j, j ≠ 5 → (m_X9_type σ (nI c)).2 73 j = σ 73 j := by
  obtain ⟨t0, t1, t2⟩ := hT
  have e : m_X9_type σ (nI c) = (nI (T.length + 1), up (up σ 74 T.length (nI c)) 73 5 (nI (T.length + 1))) := by
    unfold m_X9_type m_X4_append
    rw [if_neg (show ¬ nI c < 32 from znlt (b := 32) (by omega) (by decide) h1), if_pos (show nI c ≤ 126 from zle (b := 126) (by omega) (by decide) h2), t1, if_pos (show nI T.length < 60 from zlt (b := 60) (by omega) (by decide) hl), if_neg zbIt, zrP (by decide) hl, zup_n (by decide), t1, nI_1]
    dsimp only
    rw [zup_ss]
  rw [e]
  refine ⟨rfl, ⟨by simp; omega, ?_, fun i d hi => ?_⟩, fun k a1 a2 => ?_, fun j hj => ?_⟩
  · dsimp only
    rw [zup_ss]; simp
  · dsimp only
    rw [zup_n (by decide)]
    rcases Nat.lt_or_ge i T.length with q | q
    · rw [List.getElem?_append_left q] at hi
      rw [zup_sn (by omega)]
      exact t2 i d hi
    · rw [List.getElem?_append_right q] at hi
      obtain ⟨k, hk⟩ := Nat.le.dest q
      subst hk
      rw [Nat.add_sub_cancel_left] at hi
      cases k with
      | zero =>
        cases hi
        exact zup_ss _ _ _ _
      | succ k => simp at hi
  · dsimp only
    rw [zup_n a1, zup_n a2]
  · dsimp only
    rw [zup_sn hj, zup_n (by decide)]
end TY
/-! reading, step by step -/
section RD
variable {m : Nat} {σ0 σ : St}
def lpR (m : Nat) (F : Nat) (σ : St) (i : Nat) : Option (Int32 × St) := loopF (fun k z => m_X4_parse_b36 z.1 (25 + 5 * m) z.2 k) F (σ, nI i)
theorem lp_s {T1 R : List Nat} {c : Nat} (h : zcf m σ0 σ) (hm : m < 8) (hT : tx σ0 (T1 ++ c :: R)) (F : Nat) : lpR m (F + 1) σ T1.length = (m_X4_take σ (nI c)).bind fun u => if bI u.1 = 0 then some (nI T1.length, u.2) else if u.2 73 8 = 3 then (m_X4_closePrefixes u.2).bind fun w => lpR m F w (T1.length + 1) else lpR m F u.2 (T1.length + 1) := by
  obtain ⟨t0, t1, t2⟩ := hT
  have hl : T1.length < (T1 ++ c :: R).length := by simp
  have e74 : σ 74 T1.length = nI c := by
    rw [h.1 74 (by decide) (by decide) (by decide) (by decide) (by omega)]
    exact t2 _ _ (by rw [List.getElem?_append_right (Nat.le_refl _)]; simp)
  show m_X4_parse_b36 σ (25 + 5 * m) (nI T1.length) _ = _
  unfold m_X4_parse_b36
  rw [h.2.2, t1, if_neg (znle (by omega) (by omega) hl), zrA (by decide) (by omega), e74, nI_1]
  rfl
/-- a character that leaves no unit behind -/
theorem lp_0 {T1 R : List Nat} {c : Nat} {τ : St} (h : zcf m σ0 σ) (hm : m < 8) (hT : tx σ0 (T1 ++ c :: R)) (F : Nat) (ht : m_X4_take σ (nI c) = some (true, τ)) (h3 : ¬ τ 73 8 = 3) : lpR m (F + 1) σ T1.length = lpR m F τ (T1 ++ [c]).length := by
  rw [lp_s h hm hT F, ht, Option.bind_some]
  dsimp only
  rw [if_neg zbIt, if_neg h3]
  simp
/-- one that leaves a unit behind -/
theorem lp_3 {T1 R : List Nat} {c : Nat} {τ ρ : St} (h : zcf m σ0 σ) (hm : m < 8) (hT : tx σ0 (T1 ++ c :: R)) (F : Nat) (ht : m_X4_take σ (nI c) = some (true, τ)) (h3 : τ 73 8 = 3) (hp : m_X4_closePrefixes τ = some ρ) : lpR m (F + 1) σ T1.length = lpR m F ρ (T1 ++ [c]).length := by
  rw [lp_s h hm hT F, ht, Option.bind_some]
  dsimp only
  rw [if_neg zbIt, if_pos h3, hp, Option.bind_some]
  simp
theorem lp_e {T : List Nat} {P : List Nat} {len : Nat} {f : zFd} (h : zcS m σ0 σ [] P len f 3) (hT : tx σ0 T) (F : Nat) : lpR m (F + 1) σ T.length = some (-1, σ) := by
  have hc := h.2.1
  show m_X4_parse_b36 σ (25 + 5 * m) (nI T.length) _ = _
  unfold m_X4_parse_b36
  rw [hc.2.2, hT.2.1, if_pos (zle (by have := hT.1; omega) (by have := hT.1; omega) (Nat.le_refl _)), h.2.2.2.2.2.2.2.2.2.2, if_pos (show nI 3 = 3 from rfl), show (4 : Int32) = nI 4 from rfl, z_cif (by decide) h (fun x l e => by cases e), Option.bind_some, show (5 : Int32) = nI 5 from rfl, z_cif (by decide) h (fun x l e => by cases e), Option.bind_some, h.2.2.1, if_pos (show nI ([] : List (Nat × Nat)).length = 0 from rfl)]
theorem rd_t0 (h : σ 73 8 = 0) (x : Int32) : m_X4_take σ x = m_X4_takeUnit σ x := by
  unfold m_X4_take
  rw [if_pos h, rd_bpe]
theorem rd_t1 (h : σ 73 8 = nI 1) (x : Int32) : m_X4_take σ x = some (m_X4_takeAgent σ x) := by
  unfold m_X4_take
  rw [h, if_neg (by decide), if_pos (show nI 1 = 1 from rfl)]
theorem rd_t2 (h : σ 73 8 = nI 2) (x : Int32) : m_X4_take σ x = some (m_X4_takeGoal σ x) := by
  unfold m_X4_take
  rw [h, if_neg (by decide), if_neg (by decide), if_pos (show nI 2 = 2 from rfl)]
theorem rd_t3 (h : σ 73 8 = nI 3) (x : Int32) : m_X4_take σ x = m_X4_takeAfterUnit σ x := by
  unfold m_X4_take
  rw [h, if_neg (by decide), if_neg (by decide), if_neg (by decide), rd_bpe]
theorem zcS.u9 {O : List (Nat × Nat)} {P : List Nat} {len md : Nat} {f : zFd} (h : zcS m σ0 σ O P len f md) {j : Nat} (hj : j = 9 ∨ j = 10) (x : Int32) : zcS m σ0 (up σ 73 j x) O P len f md := by
  obtain ⟨hm, y1, y2, y3, y4, y5, y6, y7, y8, y9, y10⟩ := h
  refine ⟨hm, y1.u (by omega), ?_, ?_, ?_, ?_, ?_, y7.e (fun k a b => zup_n (by omega)), y8, y9, ?_⟩
  · rw [zup_sn (by omega)]; exact y2
  · rw [zup_n (by decide), zup_n (by decide)]; exact y3
  · rw [zup_sn (by omega)]; exact y4
  · rw [zup_n (by decide)]; exact y5
  · rw [zup_sn (by omega)]; exact y6
  · rw [zup_sn (by omega)]; exact y10
theorem zcS.md {O : List (Nat × Nat)} {P : List Nat} {len md : Nat} {f : zFd} (h : zcS m σ0 σ O P len f md) : σ 73 8 = nI md := h.2.2.2.2.2.2.2.2.2.2
/-- a letter -/
theorem rd_leaf {O : List (Nat × Nat)} {P : List Nat} {len l : Nat} {f : zFd} (h : zcS m σ0 σ O P len f 0) (ho : len + 1 + O.length ≤ 60) (hl : l < 26) : ∃ τ, m_X4_take σ (nI (97 + l)) = some (true, τ) ∧ zcS m σ0 τ O (len :: P) (len + 1) (zad f len 2 0 0 l) 3 := by
  obtain ⟨τ, e, h1⟩ := z_leaf h ho (k := 2) (c := l) (D := nI l) (by decide) (fun _ => rfl)
  refine ⟨τ, ?_, h1⟩
  rw [rd_t0 h.md]
  unfold m_X4_takeUnit
  rw [if_neg (show ¬ nI (97 + l) < 97 from znlt (b := 97) (by omega) (by decide) (by omega)), if_neg (show ¬ 122 < nI (97 + l) from znlt (a := 122) (by decide) (by omega) (by omega)), show nI (97 + l) - 97 = nI l from (pk_sub (a := 97 + l) (b := 97) (by omega)).trans (by rw [Nat.add_sub_cancel_left]), show (2 : Int32) = nI 2 from rfl, e]
  rfl
/-- what stands before a unit is closed -/
theorem rd_clp {ah O : List (Nat × Nat)} {P : List Nat} {u len : Nat} {f : zFd} (hO : ∀ x l, O = x :: l → m_X4_isPrefix (nI x.1) = false) (ha : ∀ x, x ∈ ah → zpx x.1) (hl : ah.length ≤ 1) (h : zcS m σ0 σ (ah ++ O) (u :: P) len f 3) : ∃ τ, m_X4_closePrefixes σ = some τ ∧ zcS m σ0 τ O ((zpre ah (u, len, f)).1 :: P) (zpre ah (u, len, f)).2.1 (zpre ah (u, len, f)).2.2 3 := by
  obtain ⟨τ, e, h1⟩ := z_clp hO ah cFu σ u len f ha (by unfold cFu; omega) h
  refine ⟨τ, ?_, h1⟩
  unfold m_X4_closePrefixes
  rw [h.2.2.1, ← e, List.length_append]
/-- a goal of one operand -/
theorem rd_go1 {T1 : List Nat} {c g F : Nat} (hg : g < 3) (h : zcS m σ0 σ [] [] 0 f00 2) (h9 : σ 73 9 = nI c) (h10 : σ 73 10 = 0) (hT : tx σ0 (T1 ++ glT g)) : ∃ τ, lpR m (F + 3) σ T1.length = some (-1, τ) ∧ zcS m σ0 τ [] [1] 2 (fG c g) 3 := by
  have hm := h.1
  obtain ⟨b, hb, hgl, hb2⟩ : ∃ b, (b = 88 ∨ b = 70 ∨ b = 71) ∧ glT g = [b, 97] ∧ m_X4_takeGoal σ (nI b) = m_X4_push σ (nI (6 + g)) (nI c) := by
    have : g = 0 ∨ g = 1 ∨ g = 2 := by omega
    rcases this with rfl | rfl | rfl
    · refine ⟨88, by decide, rfl, ?_⟩
      unfold m_X4_takeGoal
      rw [h9, h10, if_neg (by decide), if_neg (by decide), if_neg (by decide), if_pos (by decide)]
      rfl
    · refine ⟨70, by decide, rfl, ?_⟩
      unfold m_X4_takeGoal
      rw [h9, h10, if_neg (by decide), if_pos (by decide)]
      rfl
    · refine ⟨71, by decide, rfl, ?_⟩
      unfold m_X4_takeGoal
      rw [h9, h10, if_neg (by decide), if_neg (by decide), if_pos (by decide)]
      rfl
  rw [hgl] at hT
  obtain ⟨τ1, p1, s1⟩ := z_push h (by decide) (6 + g) c
  have e1 := lp_0 h.2.1 hm hT (F + 2) (by rw [rd_t2 h.md, hb2, p1]) (by rw [s1.md]; decide)
  obtain ⟨τ2, p2, s2⟩ := rd_leaf (l := 0) s1 (show 0 + 1 + 1 ≤ 60 by decide) (by decide)
  obtain ⟨τ3, p3, s3⟩ := rd_clp (ah := [(6 + g, c)]) (O := []) (fun x l e => by cases e) (fun x hx => by simp at hx; subst hx; unfold zpx; dsimp only; omega) (Nat.le_refl 1) s2
  have hT2 : tx σ0 ((T1 ++ [b]) ++ 97 :: []) := by rw [List.append_assoc]; exact hT
  have e2 := lp_3 s1.2.1 hm hT2 (F + 1) p2 s2.md p3
  have s3 : zcS m σ0 τ3 [] [1] 2 (fG c g) 3 := by
    have : fG c g = zad (zad f00 0 2 0 0 0) 1 (6 + g) 0 0 c := by unfold fG; rw [if_neg (by omega)]
    rw [this]
    exact s3
  have e3 := lp_e s3 hT2 F
  exact ⟨τ3, by rw [e1, e2, e3], s3⟩
/-- a goal of two -/
theorem rd_go2 {T1 : List Nat} {c F : Nat} (h : zcS m σ0 σ [] [] 0 f00 2) (h9 : σ 73 9 = nI c) (h10 : σ 73 10 = 0) (hT : tx σ0 (T1 ++ glT 3)) : ∃ τ, lpR m (F + 6) σ T1.length = some (-1, τ) ∧ zcS m σ0 τ [] [2] 3 (fG c 3) 3 := by
  have hm := h.1
  have hT : tx σ0 (T1 ++ [40, 97, 85, 98, 41]) := hT
  have np15 : ∀ (x : Nat × Nat) l, [(15, c)] = x :: l → m_X4_isPrefix (nI x.1) = false := fun x l e => by cases e; exact z_npx (k := 15) (by decide)
  have np9 : ∀ (x : Nat × Nat) l, [(9, c)] = x :: l → m_X4_isPrefix (nI x.1) = false := fun x l e => by cases e; exact z_npx (k := 9) (by decide)
  have hb2 : m_X4_takeGoal σ (nI 40) = m_X4_push σ (nI 15) (nI c) := by
    unfold m_X4_takeGoal
    rw [h9, h10, if_pos (by decide)]
    rfl
  obtain ⟨τ1, p1, s1⟩ := z_push h (by decide) 15 c
  have e1 := lp_0 h.2.1 hm hT (F + 5) (by rw [rd_t2 h.md, hb2, p1]) (by rw [s1.md]; decide)
  obtain ⟨τ2, p2, s2⟩ := rd_leaf (l := 0) s1 (show 0 + 1 + 1 ≤ 60 by decide) (by decide)
  obtain ⟨τ3, p3, s3⟩ := rd_clp (ah := []) (O := [(15, c)]) np15 (fun x hx => by simp at hx) (by decide) s2
  have s3 : zcS m σ0 τ3 [(15, c)] [0] 1 (zad f00 0 2 0 0 0) 3 := s3
  have hT2 : tx σ0 ((T1 ++ [40]) ++ 97 :: [85, 98, 41]) := by rw [List.append_assoc]; exact hT
  have e2 := lp_3 s1.2.1 hm hT2 (F + 4) p2 s2.md p3
  have hT3 : tx σ0 (((T1 ++ [40]) ++ [97]) ++ 85 :: [98, 41]) := by rw [List.append_assoc]; exact hT2
  obtain ⟨τ4, p4, s4⟩ := z_until (k := 9) (Or.inl rfl) s3
  have t4 : m_X4_take τ3 (nI 85) = some (true, τ4) := by
    rw [rd_t3 s3.md]
    unfold m_X4_takeAfterUnit
    rw [show (4 : Int32) = nI 4 from rfl, z_cif (by decide) s3 (fun x l e => by cases e; exact ⟨show 15 < 20 by decide, show 15 ≠ 4 by decide⟩), Option.bind_some, if_neg (by decide), show (5 : Int32) = nI 5 from rfl, z_cif (by decide) s3 (fun x l e => by cases e; exact ⟨show 15 < 20 by decide, show 15 ≠ 5 by decide⟩), Option.bind_some, if_neg (by decide), if_pos (by decide), p4]
  have e3 := lp_0 s3.2.1 hm hT3 (F + 3) t4 (by rw [s4.md]; decide)
  obtain ⟨τ5, p5, s5⟩ := rd_leaf (l := 1) s4 (show 1 + 1 + 1 ≤ 60 by decide) (by decide)
  obtain ⟨τ6, p6, s6⟩ := rd_clp (ah := []) (O := [(9, c)]) np9 (fun x hx => by simp at hx) (by decide) s5
  have s6 : zcS m σ0 τ6 [(9, c)] [1, 0] 2 (zad (zad f00 0 2 0 0 0) 1 2 0 0 1) 3 := s6
  have hT4 : tx σ0 ((((T1 ++ [40]) ++ [97]) ++ [85]) ++ 98 :: [41]) := by rw [List.append_assoc]; exact hT3
  have e4 := lp_3 s4.2.1 hm hT4 (F + 2) p5 s5.md p6
  have hT5 : tx σ0 (((((T1 ++ [40]) ++ [97]) ++ [85]) ++ [98]) ++ 41 :: []) := by rw [List.append_assoc]; exact hT4
  obtain ⟨τ7, p7, s7⟩ := z_clo2 s6 (by unfold zbin; decide)
  have s8 := s7.setm 3
  have t7 : m_X4_take τ6 (nI 41) = some (true, up τ7 73 8 (nI 3)) := by
    rw [rd_t3 s6.md]
    unfold m_X4_takeAfterUnit
    rw [show (4 : Int32) = nI 4 from rfl, z_cif (by decide) s6 (fun x l e => by cases e; exact ⟨show 9 < 20 by decide, show 9 ≠ 4 by decide⟩), Option.bind_some, if_neg (by decide), show (5 : Int32) = nI 5 from rfl, z_cif (by decide) s6 (fun x l e => by cases e; exact ⟨show 9 < 20 by decide, show 9 ≠ 5 by decide⟩), Option.bind_some, if_pos (by decide)]
    unfold m_X4_takeBracket
    rw [show m_X4_topOpen τ6 = nI 9 from (z_rt s6).1, if_neg (by decide), if_pos (show nI 9 = 9 from rfl)]
    unfold m_X4_takeBracket_b36 m_X4_takeBracket_b45
    rw [p7]
    rfl
  obtain ⟨τ9, p9, s9⟩ := rd_clp (ah := []) (O := []) (fun x l e => by cases e) (fun x hx => by simp at hx) (by decide) s8
  have s9 : zcS m σ0 τ9 [] [2] 3 (fG c 3) 3 := s9
  have e5 := lp_3 s6.2.1 hm hT5 (F + 1) t7 (zup_ss _ _ _ _) p9
  have e6 := lp_e s9 hT5 F
  exact ⟨τ9, by rw [e1, e2, e3, e4, e5, e6], s9⟩
/-- the agents -/
theorem rd_ag {a c : Nat} (ha : a ≤ 4) (hc : c < 2 ^ a) {R : List Nat} {Q : Option (Int32 × St) → Prop} (h0 : σ0 73 0 = nI a)
    (hQ : ∀ (T1 : List Nat) (σ : St) (F : Nat), zcS m σ0 σ [] [] 0 f00 2 → σ 73 9 = nI c → σ 73 10 = 0 → tx σ0 (T1 ++ R) → 100 ≤ F → Q (lpR m F σ T1.length)) :
    ∀ (k i : Nat) (σ : St) (T1 : List Nat) (F : Nat), i + k = a → zcS m σ0 σ [] [] 0 f00 1 → σ 73 9 = nI (c % 2 ^ i) → σ 73 10 = 0 → tx σ0 (T1 ++ (dg2 c k i ++ 62 :: R)) → 101 + k ≤ F → Q (lpR m F σ T1.length)
  | 0, i, σ, T1, F, hi, h, h9, h10, hT, hF => by
    have hm := h.1
    have : i = a := by omega
    subst this
    obtain ⟨F, rfl⟩ : ∃ k, F = k + 1 := ⟨F - 1, by omega⟩
    have hT : tx σ0 (T1 ++ 62 :: R) := hT
    have t : m_X4_take σ (nI 62) = some (true, up σ 73 8 (nI 2)) := by
      rw [rd_t1 h.md]
      unfold m_X4_takeAgent m_X4_takeAgent_b15
      rw [h10, if_pos rfl, if_pos (show nI 62 = 62 from rfl)]
      rfl
    rw [lp_0 h.2.1 hm hT F t (by rw [zup_ss]; decide)]
    refine hQ (T1 ++ [62]) _ F (h.setm 2) ?_ ?_ (by rw [List.append_assoc]; exact hT) (by omega)
    · rw [zup_sn (by decide), h9, Nat.mod_eq_of_lt hc]
    · rw [zup_sn (by decide)]; exact h10
  | k + 1, i, σ, T1, F, hi, h, h9, h10, hT, hF => by
    have hm := h.1
    have hmod := Nat.mod_pow_succ (b := 2) (x := c) (k := i)
    cases hb : c.testBit i
    · have hT : tx σ0 (T1 ++ (dg2 c k (i + 1) ++ 62 :: R)) := by
        unfold dg2 at hT
        rw [hb] at hT
        exact hT
      refine rd_ag ha hc h0 hQ k (i + 1) σ T1 F (by omega) h ?_ h10 hT (by omega)
      have hz : c / 2 ^ i % 2 = 0 := by
        rw [Nat.testBit_eq_decide_div_mod_eq] at hb
        have := of_decide_eq_false hb
        omega
      rw [h9, hmod, hz, Nat.mul_zero, Nat.add_zero]
    · have hT : tx σ0 (T1 ++ (48 + i) :: (dg2 c k (i + 1) ++ 62 :: R)) := by
        unfold dg2 at hT
        rw [hb] at hT
        exact hT
      obtain ⟨F, rfl⟩ : ∃ k, F = k + 1 := ⟨F - 1, by omega⟩
      have hz : c / 2 ^ i % 2 = 1 := by
        rw [Nat.testBit_eq_decide_div_mod_eq] at hb
        exact of_decide_eq_true hb
      have hlt : c % 2 ^ i < 2 ^ i := Nat.mod_lt _ (Nat.pow_pos (by decide))
      have hi4 : i < 4 := by omega
      have h16 : 2 ^ i ≤ 8 := (by decide : ∀ i, i < 4 → 2 ^ i ≤ 8) i hi4
      obtain ⟨s1, s2⟩ := rd_sh i hi4 (c % 2 ^ i) (by omega)
      have e48 : nI (48 + i) - 48 = nI i := (pk_sub (a := 48 + i) (b := 48) (by omega)).trans (by rw [Nat.add_sub_cancel_left])
      have t : m_X4_take σ (nI (48 + i)) = some (true, up σ 73 9 (nI (c % 2 ^ (i + 1)))) := by
        rw [rd_t1 h.md]
        unfold m_X4_takeAgent m_X4_takeAgent_b15
        rw [h10, if_pos rfl, if_neg (show ¬ nI (48 + i) = 62 from zne (b := 62) (by omega) (by decide) (by omega)), e48, if_neg (nI_pos (by omega)), h.2.1.2.1, h0, if_neg (znle (by omega) (by omega) (by omega)), h9, if_pos (s1.mpr hlt), s2 hlt, hmod, hz, Nat.mul_one]
      have hne : ¬ up σ 73 9 (nI (c % 2 ^ (i + 1))) 73 8 = 3 := by rw [zup_sn (by decide), h.md]; decide
      rw [lp_0 h.2.1 hm hT F t hne]
      refine rd_ag ha hc h0 hQ k (i + 1) _ (T1 ++ [48 + i]) F (by omega) (h.u9 (Or.inl rfl) _) (zup_ss _ _ _ _) ?_ (by rw [List.append_assoc]; exact hT) (by omega)
      rw [zup_sn (by decide)]; exact h10
theorem rd_parse {a c g : Nat} (ha : a ≤ 4) (hc : c < 2 ^ a) (hg : g < 4) (hm : m < 8) (h0 : σ 73 0 = nI a) (hT : tx σ (txT a c g)) : ∃ τ, m_X4_parse σ (25 + 5 * m) = some (-1, τ) ∧ ∃ P, zcS m σ τ [] P (lG g) (fG c g) 3 := by
  have hcS : zcS m σ (up (up (up (up (up σ 73 11 (nI (25 + 5 * m))) (25 + 5 * m) 4 0) 73 6 0) 73 7 0) 73 8 0) [] [] 0 f00 0 := by
    refine ⟨hm, ?_, ?_, trivial, ?_, trivial, ?_, ⟨?_, fun p hp => absurd hp (Nat.not_lt_zero p)⟩, Nat.le_refl _, by decide, zup_ss _ _ _ _⟩
    · refine (((zcf.tr (zcf.rf.u (k := 73) (j := 11) (v := nI (25 + 5 * m)) (by omega)) ⟨fun k a b c d e => zup_n (by omega), ?_, ?_⟩).u (by omega)).u (by omega)).u (by omega)
      · rw [zup_n (by omega)]
      · rw [zup_n (by omega)]
    · rw [zup_sn (by decide), zup_sn (by decide), zup_ss]; rfl
    · rw [zup_sn (by decide), zup_ss]; rfl
    · rw [zup_sn (by decide), zup_sn (by decide), zup_sn (by decide), zup_n (by omega), zup_ss]
    · rw [zup_n (by omega), zup_n (by omega), zup_n (by omega), zup_ss]; rfl
  unfold m_X4_parse
  rw [zup_ss, nI_isF (z_isF hm), zoFm (z_isF hm)]
  generalize up (up (up (up (up σ 73 11 (nI (25 + 5 * m))) (25 + 5 * m) 4 0) 73 6 0) 73 7 0) 73 8 0 = ρ at hcS
  have hT0 : tx σ ([] ++ 60 :: (dg2 c a 0 ++ 62 :: glT g)) := hT
  have t : m_X4_take ρ (nI 60) = some (true, up (up (up ρ 73 9 0) 73 10 0) 73 8 1) := by
    rw [rd_t0 hcS.md]
    unfold m_X4_takeUnit m_X4_takeUnit_b22 m_X4_takeUnit_b109 m_X4_takeUnit_b126
    rw [if_pos (by decide), if_neg (by decide), if_neg (by decide), if_neg (by decide), if_neg (by decide), if_pos (by decide), if_neg (by decide)]
  have e1 := lp_0 hcS.2.1 hm hT0 99999 t (by rw [zup_ss]; decide)
  have e1 : loopF (fun k z => m_X4_parse_b36 z.1 (25 + 5 * m) z.2 k) cFu (ρ, 0) = _ := e1
  rw [e1]
  refine rd_ag (m := m) (σ0 := σ) ha hc (R := glT g) (Q := fun r => ∃ τ, r = some (-1, τ) ∧ ∃ P, zcS m σ τ [] P (lG g) (fG c g) 3) h0 ?_ a 0 _ ([] ++ [60]) 99999 (by omega) (((hcS.u9 (Or.inl rfl) 0).u9 (Or.inr rfl) 0).setm 1) ?_ ?_ hT0 (by omega)
  · intro T1 τ F h h9 h10 hT hF
    by_cases q : g = 3
    · subst q
      obtain ⟨F, rfl⟩ : ∃ k, F = k + 6 := ⟨F - 6, by omega⟩
      obtain ⟨τ, e, s⟩ := rd_go2 (F := F) h h9 h10 hT
      exact ⟨τ, e, _, s⟩
    · obtain ⟨F, rfl⟩ : ∃ k, F = k + 3 := ⟨F - 3, by omega⟩
      obtain ⟨τ, e, s⟩ := rd_go1 (F := F) (g := g) (by omega) h h9 h10 hT
      refine ⟨τ, e, [1], ?_⟩
      unfold lG
      rw [if_neg q]
      exact s
  · rw [zup_sn (by decide), zup_sn (by decide), zup_ss, Nat.pow_zero, Nat.mod_one]; rfl
  · rw [zup_sn (by decide), zup_ss]
end RD
theorem fG_ok {a c g : Nat} (hc : c < 2 ^ a) (hg : g < 4) : zFok a (lG g) (fG c g) := by
  have z0 : zOk a 0 f00 := fun p hp => absurd hp (Nat.not_lt_zero p)
  have z1 : zOk a 1 (zad f00 0 2 0 0 0) := z0.ad (by decide) (fun _ => by decide) (fun q => absurd q (by decide)) (fun q => by unfold zbin at q; omega) (fun q => absurd q (by decide))
  unfold lG fG
  by_cases q : g = 3
  · rw [if_pos q, if_pos q]
    have z2 : zOk a 2 (zad (zad f00 0 2 0 0 0) 1 2 0 0 1) := z1.ad (by decide) (fun _ => by decide) (fun q => absurd q (by decide)) (fun q => by unfold zbin at q; omega) (fun q => absurd q (by decide))
    exact ⟨by decide, by decide, z2.ad (by decide) (fun q => absurd q (by decide)) (fun _ => by decide) (fun _ => by decide) (fun _ => hc)⟩
  · rw [if_neg q, if_neg q]
    exact ⟨by decide, by decide, z1.ad (by omega) (fun q => by omega) (fun _ => by decide) (fun q => by unfold zbin at q; omega) (fun _ => hc)⟩
theorem q_read {a n h m c g : Nat} {v : Nat → Int32} {P : Nat → Nat → Int32} {σ : St} (H : PI a n v h P m σ) (hm : m < 8) (hc : c < 2 ^ a) (hg : g < 4) (hT : tx σ (txT a c g)) : ∃ τ, m_X9_read σ = some (nI m, τ) ∧ PI a n v h P (m + 1) τ ∧ tx τ [] ∧ QF a τ m (lG g) (fG c g) := by
  obtain ⟨hK, hW, hR, hh, hH, hm8, h65⟩ := H
  obtain ⟨τ, e, P', s⟩ := rd_parse hK.2.1 hc hg hm hK.2.2.2.2.2.1 hT
  have hcf := s.2.1
  have f : ∀ k, k < 25 ∨ (65 ≤ k ∧ k ≠ 65 ∧ k ≠ 73 ∧ k ≠ 75 ∧ k ≠ 76 ∧ k ≠ 77) → up (up τ 73 5 0) 65 8 (nI (m + 1)) k = σ k := fun k hk => by
    rw [zup_n (by omega), zup_n (by omega)]
    exact hcf.1 k (by omega) (by omega) (by omega) (by omega) (by omega)
  have e65 : τ 65 8 = nI m := by rw [hcf.1 65 (by decide) (by decide) (by decide) (by decide) (by omega)]; exact h65
  refine ⟨up (up τ 73 5 0) 65 8 (nI (m + 1)), ?_, ⟨?_, hW, hR.ag (by rw [f 0 (by omega)]) (f 1 (by omega)) (f 2 (by omega)) (f 3 (by omega)) (f 4 (by omega)), hh, hH.ag (fun k hk => f k (by omega)), by omega, zup_ss _ _ _ _⟩, ⟨by decide, ?_, fun i c hi => by simp at hi⟩, fG_ok hc hg, ?_, z_isF hm⟩
  · unfold m_X9_read
    rw [h65, if_neg (nI_pos (by omega)), if_pos (show nI m < 8 from zlt (b := 8) (by omega) (by decide) hm), zck (by decide) hm, nI_clamp (by omega), e, Option.bind_some]
    dsimp only
    have e7 : up τ 73 5 0 65 8 = nI m := by rw [zup_n (by decide)]; exact e65
    rw [if_pos (by decide), e7, nI_1, zup_ss, show nI (m + 1) - 1 = nI m from zs1 m]
  · refine hK.ag (f 0 (by omega)) (f 70 (by omega)) (f 71 (by omega)) ?_ (by rw [f 87 (by omega)])
    rw [zup_n (by decide), zup_sn (by decide)]
    exact hcf.2.1
  · rw [zup_n (by decide), zup_ss]; rfl
  · have h7 := s.2.2.2.2.2.2.2.1
    exact h7.e (fun k a b => by rw [zup_n (by omega), zup_n (by omega)])
theorem q_forget {a n h m : Nat} {v : Nat → Int32} {P : Nat → Nat → Int32} {σ : St} (H : PI a n v h P m σ) : (m_X9_forget σ).1 = nI m ∧ PI a n v h P 0 (m_X9_forget σ).2 := by
  obtain ⟨hK, hW, hR, hh, hH, hm8, h65⟩ := H
  unfold m_X9_forget
  dsimp only
  have f : ∀ k, k ≠ 65 → up σ 65 8 0 k = σ k := fun k hk => zup_n hk
  exact ⟨h65, hK.ag (f 0 (by decide)) (f 70 (by decide)) (f 71 (by decide)) (by rw [f 73 (by decide)]) (by rw [f 87 (by decide)]), hW, hR.ag (by rw [f 0 (by decide)]) (f 1 (by decide)) (f 2 (by decide)) (f 3 (by decide)) (f 4 (by decide)), hh, hH.ag (fun k hk => f k (by omega)), by decide, zup_ss _ _ _ _⟩
/-- the text of a coalition and a goal is typed and read -/
theorem l_reads {a n h m c g : Nat} {v : Nat → Int32} {P : Nat → Nat → Int32} {σ : St} (H : PI a n v h P m σ) (hm : m < 8) (hc : c < 2 ^ a) (hg : g < 4) (hT : tx σ []) : ∃ τ, m_L_reads σ (nI a) (nI c) (nI g) = some (nI m, τ) ∧ PI a n v h P (m + 1) τ ∧ tx τ [] ∧ QF a τ m (lG g) (fG c g) := by
  have ha := H.1.2.1
  -- what typing leaves
  have ty : ∀ (σ : St) (T : List Nat) (c : Nat), PI a n v h P m σ → tx σ T → T.length < 60 → 32 ≤ c → c ≤ 126 → PI a n v h P m (m_X9_type σ (nI c)).2 ∧ tx (m_X9_type σ (nI c)).2 (T ++ [c]) ∧ (m_X9_type σ (nI c)).1 = nI (T.length + 1) := by
    intro σ T c H hT hl h1 h2
    obtain ⟨t1, t2, t3, t4⟩ := q_type hT hl h1 h2
    obtain ⟨hK, hW, hR, hh, hH, hm8, h65⟩ := H
    refine ⟨⟨hK.ag (t3 0 (by decide) (by decide)) (t3 70 (by decide) (by decide)) (t3 71 (by decide) (by decide)) (t4 0 (by decide)) (by rw [t3 87 (by decide) (by decide)]), hW, hR.ag (by rw [t3 0 (by decide) (by decide)]) (t3 1 (by decide) (by decide)) (t3 2 (by decide) (by decide)) (t3 3 (by decide) (by decide)) (t3 4 (by decide) (by decide)), hh, hH.ag (fun k hk => t3 k (by omega) (by omega)), hm8, by rw [t3 65 (by decide) (by decide)]; exact h65⟩, t2, t1⟩
  have fin : ∀ (σ : St) (x : Int32), PI a n v h P m σ → tx σ (txT a c g) → ¬ x ≤ 0 → ∃ τ, m_L_reads_b131 σ x = some (nI m, τ) ∧ PI a n v h P (m + 1) τ ∧ tx τ [] ∧ QF a τ m (lG g) (fG c g) := by
    intro σ x H hT hx
    obtain ⟨τ, e, r⟩ := q_read H hm hc hg hT
    refine ⟨τ, ?_, r⟩
    unfold m_L_reads_b131
    rw [if_neg hx, e]
    rfl
  have pos : ∀ k, k < 100 → ¬ nI (k + 1) ≤ 0 := fun k hk => znle (b := 0) (by omega) (by decide) (by omega)
  have hlen := dg2_len c a 0
  unfold m_L_reads
  obtain ⟨H1, T1, -⟩ := ty σ [] 60 H hT (by decide) (by decide) (by decide)
  refine zl (P := fun r => ∃ τ, r = some (nI m, τ) ∧ PI a n v h P (m + 1) τ ∧ tx τ [] ∧ QF a τ m (lG g) (fG c g)) (fun i z => z.2.2 = nI i ∧ PI a n v h P m z.1 ∧ ∃ T, tx z.1 T ∧ T ++ dg2 c (a - i) i = 60 :: dg2 c a 0) a (by omega) ⟨nI_0.symm, H1, [60], T1, rfl⟩ ?_
  rintro k i ⟨τ, x, y⟩ hi ⟨hy, Hτ, T, hT, hd⟩ hk
  dsimp only at hy Hτ hT ⊢
  subst hy
  have hTl : T.length ≤ 1 + a := by
    have := congrArg List.length hd
    rw [List.length_append, List.length_cons] at this
    omega
  unfold m_L_reads_b11
  rcases Nat.lt_or_ge i a with q | q
  · rw [if_neg (znle (by omega) (by omega) q), zsh1 _ (by omega), zbt_nI c i (by omega)]
    obtain ⟨r, hr⟩ : ∃ r, a - i = r + 1 := ⟨a - i - 1, by omega⟩
    rw [hr] at hd
    have hd2 : T ++ ((if c.testBit i then [48 + i] else []) ++ dg2 c r (i + 1)) = 60 :: dg2 c a 0 := hd
    cases hb : c.testBit i
    · rw [hb] at hd2
      rw [if_neg (show ¬ bI false = 1 by decide), nI_1]
      exact hk q _ ⟨rfl, Hτ, T, hT, by rw [show a - (i + 1) = r by omega]; exact hd2⟩
    · rw [hb] at hd2
      rw [if_pos (show bI true = 1 from rfl), show (48 : Int32) = nI 48 from rfl, nI_add, nI_1]
      obtain ⟨H2, T2, -⟩ := ty τ T (48 + i) Hτ hT (by omega) (by omega) (by omega)
      exact hk q _ ⟨rfl, H2, T ++ [48 + i], T2, by rw [show a - (i + 1) = r by omega, List.append_assoc]; exact hd2⟩
  · have : i = a := by omega
    subst this
    rw [Nat.sub_self] at hd
    have hd : T = 60 :: dg2 c i 0 := by rw [← hd]; exact (List.append_nil T).symm
    rw [if_pos (zle (by omega) (by omega) q)]
    obtain ⟨H2, T2, -⟩ := ty τ T 62 Hτ hT (by omega) (by decide) (by decide)
    have g1 : ∀ b, 32 ≤ b → b ≤ 126 → glT g = [b, 97] → ¬ g = 3 → ∃ τ', m_L_reads_b89 (m_X9_type τ (nI 62)).2 (nI g) (nI b) = some (nI m, τ') ∧ PI i n v h P (m + 1) τ' ∧ tx τ' [] ∧ QF i τ' m (lG g) (fG c g) := by
      intro b b1 b2 hgl h3
      obtain ⟨H3, T3, -⟩ := ty _ _ b H2 T2 (by simp; omega) b1 b2
      obtain ⟨H4, T4, e4⟩ := ty _ _ 97 H3 T3 (by simp; omega) (by decide) (by decide)
      unfold m_L_reads_b89
      rw [if_neg (show ¬ nI g = 3 from zne (b := 3) (by omega) (by decide) h3)]
      refine fin _ _ H4 ?_ ?_
      · have : txT i c g = ((T ++ [62]) ++ [b]) ++ [97] := by
          unfold txT
          rw [hgl, hd]
          simp
        rw [this]
        exact T4
      · rw [show (97 : Int32) = nI 97 from rfl, e4]
        exact pos _ (by simp; omega)
    have hgc : g = 0 ∨ g = 1 ∨ g = 2 ∨ g = 3 := by omega
    rcases hgc with rfl | rfl | rfl | rfl
    · rw [if_pos (show nI 0 = 0 from rfl)]
      exact g1 88 (by decide) (by decide) rfl (by decide)
    · rw [if_neg (show ¬ nI 1 = 0 by decide), if_pos (show nI 1 = 1 from rfl)]
      exact g1 70 (by decide) (by decide) rfl (by decide)
    · rw [if_neg (show ¬ nI 2 = 0 by decide), if_neg (show ¬ nI 2 = 1 by decide), if_pos (show nI 2 = 2 from rfl)]
      exact g1 71 (by decide) (by decide) rfl (by decide)
    · rw [if_neg (show ¬ nI 3 = 0 by decide), if_neg (show ¬ nI 3 = 1 by decide), if_neg (show ¬ nI 3 = 2 by decide)]
      obtain ⟨H3, T3, -⟩ := ty _ _ 40 H2 T2 (by simp; omega) (by decide) (by decide)
      obtain ⟨H4, T4, -⟩ := ty _ _ 97 H3 T3 (by simp; omega) (by decide) (by decide)
      obtain ⟨H5, T5, -⟩ := ty _ _ 85 H4 T4 (by simp; omega) (by decide) (by decide)
      obtain ⟨H6, T6, -⟩ := ty _ _ 98 H5 T5 (by simp; omega) (by decide) (by decide)
      obtain ⟨H7, T7, e7⟩ := ty _ _ 41 H6 T6 (by simp; omega) (by decide) (by decide)
      unfold m_L_reads_b89
      rw [if_pos (show nI 3 = 3 from rfl)]
      refine fin _ _ H7 ?_ ?_
      · have : txT i c 3 = (((((T ++ [62]) ++ [40]) ++ [97]) ++ [85]) ++ [98]) ++ [41] := by
          unfold txT
          rw [show glT 3 = [40, 97, 85, 98, 41] from rfl, hd]
          simp
        rw [this]
        exact T7
      · rw [show (41 : Int32) = nI 41 from rfl]
        refine fun q => ?_
        rw [show (m_X9_type (m_X9_type (m_X9_type (m_X9_type (m_X9_type (m_X9_type τ 62).2 40).2 97).2 85).2 98).2 (nI 41)).1 = _ from e7] at q
        exact pos _ (by simp; omega) q
