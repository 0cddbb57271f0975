-- ===== end of PART A; then your names; then what follows =====
/-! THE CLAIM OUT OF ONE WALK OF THE LAW'S BODY. Your part is whole_start (and what it stands on); all else here is the same for every law, but numbers. -/
def R_law : String := "CoalitionCheckerLaw"
def lw_P (b : Addr) (xs : List Int32) (args : Array Value) (s : State) : Prop := args = #[.ref b] ∧ s.IntsAt b xs ∧ xs.length ≤ 260 ∧ (Jvm.Cond.and given_1 narrow_1).before args s = true
def lw_Q (_ : Array Value) (s : State) (o : Outcome) (t : State) : Prop := o = .returned (some (.int 1)) ∧ Framed s o t [] 600000 7302250
def lw_Z (below : List Frame) (a : Array Value) (s : State) : State → Prop := fun t => ∃ o, t.status = .running ∧ Ended t below o ∧ lw_Q a s o t
/-- the law's own end, with 1 on the stack, nothing written that was there before, its room as the claim has it -/
theorem lw_ret {p : Program} {l : Launch} {e : Env} {s : State} {m : MethodId} {below : List Frame} {meth : Method} {c : Code} {b : Nat} (hx : p.tables.exec = Jvm.exec) (hb : c.code = code) (hr : meth.sig.returnType = ret) (hlocks : meth.locks = false) {pc : Nat} {H : Heap} {ls : Array Slot} (hdg : decode code pc = .ok (.ireturn, 1)) : W p l e room_1 s m #[Value.ref b] below meth c H [] 600000 7302250 (lw_Z below #[Value.ref b] s) (F0 m pc ls [.int 1]) := by
  intro T hT X
  obtain ⟨fs, hret, hrun, hended, hW, hframe⟩ := X.leave (v := some (.int 1)) (hlocks := hlocks) (fun h => by rw [hr] at h; cases h)
  have hmeth' : T.vm.method? m = some meth := X.method'
  refine ⟨T.setFrames fs, ?_, .returned (some (.int 1)), hrun, hended, rfl, ⟨_, rfl⟩, hW, hframe⟩
  jvm_step X.here [X.here.top, hx, hb, hdg, hmeth', hr, ret, narrow_b1]
  (try refine ⟨rfl, ?_⟩); (try refine ⟨rfl, ?_⟩)
  first | (intro acts; rw [hret _ acts rfl rfl rfl]) | rw [hret _ _ rfl rfl rfl]
  exact Steps.refl _
/-- what holds at the law's entry: the machine, the code, the tables' words (any of lw_tbl by 'hts w (by decide +kernel)'), the script of L ints xs at the cell b, what the Statement gives of the start (any of its parts by flat_of_before) -/
def lw_At (p : Program) (s : State) (m : MethodId) (meth : Method) (c : Code) (b L : Nat) (xs : Nat → Int32) : Prop :=
  p.tables.exec = Jvm.exec ∧ c.code = code ∧ meth.sig.returnType = ret ∧ c.maxLocals = 8 ∧ s.vm.findClass R_law = some m.cls ∧ (∀ w ∈ lw_tbl, w.before #[Value.ref b] s = true) ∧ va_X b L xs s s.heap ∧ b < s.heap.size ∧ meth.locks = false ∧ (Jvm.Cond.and given_1 narrow_1).before #[Value.ref b] s = true
set_option maxHeartbeats 8000000 in
set_option maxRecDepth 100000 in
theorem whole_start {p : Program} {e : Env} {s : State} {m : MethodId} {below : List Frame} {meth : Method} {c : Code} (l : Launch) (hflags : l.flags = flags0) {b L : Nat} {xs : Nat → Int32} (hL : L ≤ 260) (C0 : lw_At p s m meth c b L xs) : W p l e room_1 s m #[Value.ref b] below meth c s.heap [] 0 0 (lw_Z below #[Value.ref b] s) (entryFrame m ([Value.ref b] : List Value).toArray 8) := by
  obtain ⟨hx, hb, hr, hml, hown, htsL, hX, hbl, hlocks, hgv⟩ := id C0
  have hts : ∀ w ∈ tG, w.before #[Value.ref b] s = true := fun w hw => htsL w (List.mem_filter.mp hw).1
  have hown : s.vm.findClass RL = some m.cls := hown
  have hA : ∀ q : Nat, s.heap.size ≤ q → (fun q : Nat => s.heap.size ≤ q) q := fun _ h => h
  have hbA : ¬ (fun q : Nat => s.heap.size ≤ q) b := Nat.not_le.mpr hbl
  obtain ⟨c0, iS0, hKn0⟩ := u_known (C := RX0) (T := TX0) (N := 5) (n := 5) hts nn_X0 (hts _ bnX0)
  obtain ⟨c1, iS1, hKn1⟩ := u_known (C := RX1) (T := TX1) (N := 3) (n := 3) hts nn_X1 (hts _ bnX1)
  obtain ⟨c2, iS2, hKn2⟩ := u_known (C := RX2) (T := TX2) (N := 6) (n := 6) hts nn_X2 (hts _ bnX2)
  obtain ⟨c3, iS3, hKn3⟩ := u_known (C := RX3) (T := TX3) (N := 4) (n := 4) hts nn_X3 (hts _ bnX3)
  obtain ⟨c4, iS4, hKn4⟩ := u_known (C := RX4) (T := TX4) (N := 12) (n := 12) hts nn_X4 (hts _ bnX4)
  obtain ⟨c5, iS5, hKn5⟩ := u_known (C := RX6) (T := TX6) (N := 4) (n := 4) hts nn_X6 (hts _ bnX6)
  obtain ⟨c6, iS6, hKn6⟩ := u_known (C := RX7) (T := TX7) (N := 8) (n := 8) hts nn_X7 (hts _ bnX7)
  obtain ⟨c7, iS7, hKn7⟩ := u_known (C := RX8) (T := TX8) (N := 4) (n := 4) hts nn_X8 (hts _ bnX8)
  obtain ⟨c8, iS8, hKn8⟩ := u_known (C := RX9) (T := TX9) (N := 9) (n := 9) hts nn_X9 (hts _ bnX9)
  obtain ⟨dC, dI, hKc⟩ : ∃ (dC : Nat → ClassId) (dI : Nat → Nat → Nat), ∀ (k : Nat) (q : vw_C), vwCl[k]? = some q → u_Kn s q.1 q.2.1 q.2.2 (dC k) (dI k) := by
    refine ⟨fun k => if k = 0 then c0 else if k = 1 then c1 else if k = 2 then c2 else if k = 3 then c3 else if k = 4 then c4 else if k = 5 then c5 else if k = 6 then c6 else if k = 7 then c7 else c8, fun k => if k = 0 then iS0 else if k = 1 then iS1 else if k = 2 then iS2 else if k = 3 then iS3 else if k = 4 then iS4 else if k = 5 then iS5 else if k = 6 then iS6 else if k = 7 then iS7 else iS8, ?_⟩
    intro k q hq
    match k, hq with
    | 0, hq => cases hq; exact hKn0
    | 1, hq => cases hq; exact hKn1
    | 2, hq => cases hq; exact hKn2
    | 3, hq => cases hq; exact hKn3
    | 4, hq => cases hq; exact hKn4
    | 5, hq => cases hq; exact hKn5
    | 6, hq => cases hq; exact hKn6
    | 7, hq => cases hq; exact hKn7
    | 8, hq => cases hq; exact hKn8
    | k + 9, hq => simp [vwCl] at hq
  have hOF : va_AO RX0 s := va_AO.of (htsL _ ar_F)
  have hOS : va_AO RX7 s := va_AO.of (htsL _ ar_S)
  have hNest : va_Nw (.methodLinkNest RX9 85 yX0_init RX9) s := va_Nw.of rfl (htsL _ (tb_in (List.mem_append_left _ (List.mem_of_getElem? (l := tables_1_1) (i := 227) rfl))))
  obtain ⟨cI, aI1, aI2⟩ := aI_of (hts _ ar_I)
  obtain ⟨cF, aF1, aF2⟩ := aO_of hOF
  obtain ⟨cS, aS1, aS2⟩ := aO_of hOS
  obtain ⟨d, hd⟩ : ∃ d : cY, d = ((dC, dI), (cI, cF, cS)) := ⟨_, rfl⟩
  have hK : va_K d.1 vwCl (yTys d) s := by
    subst hd
    refine ⟨hKc, fun k q h => ?_⟩
    match k, h with
    | 0, h => cases h; exact ⟨aI1, aI2⟩
    | 1, h => cases h; exact ⟨aF1, aF2⟩
    | 2, h => cases h; exact ⟨aS1, aS2⟩
    | k + 3, h => simp [yTys] at h
  clear hd
  have hS : va_S (fun q : Nat => s.heap.size ≤ q) s.heap s.heap [] := va_S.rf
  have hl := lv_entry ([.ref b]) (n := 8) (Nat.le_of_ble_eq_true rfl)
  rw [lg_entry_eq]
  generalize (lg_sl ([.ref b]) ++ List.replicate (8 - (lg_sl ([.ref b])).length) Slot.unset).toArray = ls at hl ⊢
  have hl : lv_has ls 8 [(0, .ref b)] := hl
  generalize hQ : lw_Z below #[Value.ref b] s = Q
  obtain ⟨k1, hk1, eu1⟩ := l_up (cellF L xs 0) (q := 3) (by decide) (by decide)
  have eu1 : m_L_up (cellF L xs 0) 3 = some (nI k1) := eu1
  obtain ⟨k2, hk2, eu2⟩ := l_up (cellF L xs 1) (q := 5) (by decide) (by decide)
  have eu2 : m_L_up (cellF L xs 1) 5 = some (nI k2) := eu2
  have hC0 : XOk (p, l, e, room_1, s, m, #[Value.ref b], below, meth, c, 0, 0, 8, fun q : Nat => s.heap.size ≤ q) cL_law RL tG room_1 := ⟨hx, hb, hml, hown, hts, rfl, Nat.zero_le _, Nat.zero_le _⟩
  have hs0 := fun g => (show lwS (p, l, e, room_1, s, m, #[Value.ref b], below, meth, c, 0, 0, 8, fun q : Nat => s.heap.size ≤ q) g b L xs from ⟨hX, hbl, hbA, hL⟩)
  have key : Xs (p, l, e, room_1, s, m, #[Value.ref b], below, meth, c, 0, 0, 8, fun q : Nat => s.heap.size ≤ q) (fun _ H => H = s.heap) Q (fun _ _ => 0) 0 [(0, .ref b)] [] := by
    refine x_iconst hC0 dL_law_0 (v := 1) (by decide) (q := 1) rfl ?_
    refine x_aload_n hC0 dL_law_1 rfl 0 rfl (q := 2) rfl ?_
    refine x_iconst hC0 dL_law_2 (v := 0) (by decide) (q := 3) rfl ?_
    refine x_callW (rest := [.int 1]) hC0 (hs0 ((dC, dI), (cI, cF, cS), fun _ => 0)) (vp_in_nI (n := 0) (by decide) (by decide)) ml_L_69 ⟨Nat.le_of_ble_eq_true rfl, Nat.le_of_ble_eq_true rfl⟩ (Nat.le_of_ble_eq_true rfl) dL_law_3 ?_
    refine x_iconst hC0 dL_law_6 (v := 3) (by decide) (q := 7) rfl ?_
    refine x_callPi (As := [.int (cellF L xs 0), .int 3]) (rest := [.int 1]) hC0 (c_L_up l _ _ _ eu1) ml_L_75 biL_up rfl rfl hdL_up ⟨Nat.le_of_ble_eq_true rfl, Nat.le_of_ble_eq_true rfl⟩ rfl rfl (Nat.le_of_ble_eq_true rfl) dL_law_7 ?_
    refine x_iadd hC0 dL_law_10 (q := 11) rfl ?_
    refine x_istore_n (lv' := [(1, .int (1 + nI k1)), (0, .ref b)]) hC0 dL_law_11 rfl (nL := 8) rfl (by decide) rfl (q := 12) rfl ?_
    refine x_iconst hC0 dL_law_12 (v := 1) (by decide) (q := 13) rfl ?_
    refine x_aload_n hC0 dL_law_13 rfl 1 rfl (q := 14) rfl ?_
    refine x_iconst hC0 dL_law_14 (v := 1) (by decide) (q := 15) rfl ?_
    refine x_callW (rest := [.int 1]) hC0 (hs0 ((dC, dI), (cI, cF, cS), fun _ => 0)) (vp_in_nI (n := 1) (by decide) (by decide)) ml_L_69 ⟨Nat.le_of_ble_eq_true rfl, Nat.le_of_ble_eq_true rfl⟩ (Nat.le_of_ble_eq_true rfl) dL_law_15 ?_
    refine x_iconst hC0 dL_law_18 (v := 5) (by decide) (q := 19) rfl ?_
    refine x_callPi (As := [.int (cellF L xs 1), .int 5]) (rest := [.int 1]) hC0 (c_L_up l _ _ _ eu2) ml_L_75 biL_up rfl rfl hdL_up ⟨Nat.le_of_ble_eq_true rfl, Nat.le_of_ble_eq_true rfl⟩ rfl rfl (Nat.le_of_ble_eq_true rfl) dL_law_19 ?_
    refine x_iadd hC0 dL_law_22 (q := 23) rfl ?_
    refine x_istore_n (lv' := [(2, .int (1 + nI k2)), (1, .int (1 + nI k1)), (0, .ref b)]) hC0 dL_law_23 rfl (nL := 8) rfl (by decide) rfl (q := 24) rfl ?_
    intro H locs ls hWd hS hl
    have hWd : H = s.heap := hWd
    have hS : va_S (fun q : Nat => s.heap.size ≤ q) s.heap H locs := hS
    have hl : lv_has ls 8 [(2, .int (1 + nI k2)), (1, .int (1 + nI k1)), (0, .ref b)] := hl
    rw [show (1 : Int32) + nI k1 = nI (1 + k1) from nI_add 1 k1, show (1 : Int32) + nI k2 = nI (1 + k2) from nI_add 1 k2] at hl
    obtain ⟨a, ha⟩ : ∃ a, a = 1 + k1 := ⟨_, rfl⟩
    obtain ⟨n, hn⟩ : ∃ n, n = 1 + k2 := ⟨_, rfl⟩
    rw [← ha, ← hn] at hl
    show W p l e room_1 s m #[Value.ref b] below meth c H locs 0 0 Q (F0 m 24 ls [])
    have hP : va_P d.1 vwCl [] H := fun k q h => by simp at h
    have hD : va_D (fun q : Nat => s.heap.size ≤ q) [] := ⟨fun i j p q h => by simp at h, fun k q h => by simp at h⟩
    refine va_new (R := room_1) (ci := 8) (fs := [.null, .null, .null, .null, .null, .null, .null, .null, .int 0]) (C := RX9) (T := TX9) (N := 9) hx hb hts nn_X9 tyX9 tyX9_ok hown (hts _ kl_L_10) (hts _ bnX9) (hts _ ki_X9) hK hP hD hS hA rfl (fun j hj => by match j, hj with | 0, _ => rfl | 1, _ => rfl | 2, _ => rfl | 3, _ => rfl | 4, _ => rfl | 5, _ => rfl | 6, _ => rfl | 7, _ => rfl | 8, _ => rfl | z + 9, hz => exact absurd hz (by omega)) (Nat.le_of_ble_eq_true rfl) (Nat.le_of_ble_eq_true rfl) dL_law_24 (fun h0 H hP hD hS => ?_)
    have hP : va_P d.1 vwCl [(h0, .inr (8, [.null, .null, .null, .null, .null, .null, .null, .null, .int 0]))] H := hP
    have hD : va_D (fun q : Nat => s.heap.size ≤ q) [(h0, .inr (8, [.null, .null, .null, .null, .null, .null, .null, .null, .int 0]))] := hD
    refine W.widen (k := 1) (n := 9) (Nat.le_of_ble_eq_true rfl) (Nat.le_of_ble_eq_true rfl) ?_
    refine lv_dup hx hb dL_law_27 rfl ?_
    refine lv_iload_n hx hb dL_law_28 rfl (lv_at hl 1 rfl) ?_
    have hPc := hP.sub (ws' := [(h0, .inr (8, [.null, .null, .null, .null, .null, .null, .null, .null, .int 0]))]) [0] rfl
    have hDc := hD.sub (ws' := [(h0, .inr (8, [.null, .null, .null, .null, .null, .null, .null, .null, .int 0]))]) [0] (by decide) rfl
    have hFc := va_free (wc := [(h0, .inr (8, [.null, .null, .null, .null, .null, .null, .null, .null, .int 0]))]) hD hS hA [0] rfl
    refine va_callv (va_runI (As := [.int (nI a)]) (rest := [.ref h0]) ⟨hx, hb, hml, hown, hts⟩ (c_X9_init l d h0 H.size (nI a)) (cwI 1 hts (gdG (gdW bcX9_init.2.2)) rfl rfl rfl (hts _ bcX9_init.2.1) (hts _ ml_L_117) (hts _ bcX9_init.1) rfl hdX9_init ⟨Nat.le_of_ble_eq_true rfl, Nat.le_of_ble_eq_true rfl⟩) ⟨yPre9_blind, fun U hU hW => ⟨rfl, ⟨⟨by rw [hU], by rw [hU]; exact hPc, va_K.moved hW.alike hK, hDc.weaken (fun _ _ _ _ => trivial), va_AO.moved hW.alike hOF, va_AO.moved hW.alike hOS⟩, va_Nw.warmM hW hNest⟩⟩⟩ rfl rfl hl.1 rfl (lv_room (Nat.le_of_ble_eq_true rfl)) dL_law_29 ⟨Nat.le_of_ble_eq_true rfl, Nat.le_of_ble_eq_true rfl⟩) hS (fun q _ h => hFc q h) hFc (fun u t H1 locs ht hvm hw hB hz1 hk1 hS => ?_)
    obtain ⟨hP1, -, hD1⟩ := hB
    rw [ht] at hP1
    obtain ⟨hP, hD⟩ := va_join (wr := []) (w1 := (W9 d (nI a) h0 u)) hP hD [0] [] rfl rfl (by decide) (by decide) hk1 hFc hP1 hD1
    generalize H1 = H at hP hS ⊢
    refine W.widen (k := 87) (n := 9341) (Nat.le_of_ble_eq_true rfl) (Nat.le_of_ble_eq_true rfl) ?_
    have hP : va_P d.1 vwCl (W9 d (nI a) h0 u) H := hP
    have hD : va_D (fun q : Nat => s.heap.size ≤ q) (W9 d (nI a) h0 u) := hD
    refine lv_astore_n (lv' := [(3, .ref h0), (2, .int (nI n)), (1, .int (nI a)), (0, .ref b)]) hx hb dL_law_32 rfl hl (by decide) rfl (fun ls hl => ?_)
    have hWW := w0_W hP
    have hgI := w0_inj hD
    have hgA := w0_A hD
    obtain ⟨g, hg⟩ : ∃ g, g = g0 d h0 u := ⟨_, rfl⟩
    have e65 : gA g 65 = h0 := by rw [hg]; rfl
    have hKg : va_K g.1 vwCl (gTys g) s := by rw [hg]; exact hK
    rw [← hg] at hWW hgI hgA
    have hOk : XOk (p, l, e, room_1, s, m, #[Value.ref b], below, meth, c, 87, 9341, 8, cA g) cL_law RL tG room_1 := ⟨hx, hb, hml, hown, hts, rfl, Nat.le_of_ble_eq_true rfl, Nat.le_of_ble_eq_true rfl⟩
    have hXG : XG (p, l, e, room_1, s, m, #[Value.ref b], below, meth, c, 87, 9341, 8, cA g) g := ⟨hKg, hgI, rfl⟩
    have hsS : lwS (p, l, e, room_1, s, m, #[Value.ref b], below, meth, c, 87, 9341, 8, cA g) g b L xs := ⟨hX, hbl, fun q => hbA (hgA b q), hL⟩
    have hend : lwE (p, l, e, room_1, s, m, #[Value.ref b], below, meth, c, 87, 9341, 8, cA g) g Q := by
      intro τ pc lv hdg H locs ls hW hS hl
      refine va_forget (fun q hq => hgA _ (hS.2.2 q hq)) ?_
      refine W.widen (k := 600000) (n := 7302250) (Nat.le_of_ble_eq_true rfl) (Nat.le_of_ble_eq_true rfl) ?_
      rw [← hQ]
      exact lw_ret hx hb hr hlocks hdg
    have hS2 : va_S (cA g) s.heap H [] := ⟨hS.1, fun q h1 _ => hS.2.1 q h1 (Nat.not_le.mpr h1), fun l h => absurd h List.not_mem_nil⟩
    refine va_forget (fun q hq => hS.2.2 q hq) ?_
    have hl : lv_has ls 8 [(3, .ref h0), (2, .int (nI n)), (1, .int (nI a)), (0, .ref b)] := hl
    have hl2 : lv_has ls 8 [(0, .ref b), (1, .int (nI a)), (2, .int (nI n)), (3, .ref (gA g 65))] := by
      rw [e65]
      exact lv_sub (l' := [(0, .ref b), (1, .int (nI a)), (2, .int (nI n)), (3, .ref h0)]) hl [3, 2, 1, 0] rfl
    obtain ⟨HI, HT⟩ := w0_I (a := a) (by omega) (by omega)
    obtain ⟨o, ho1, ho2⟩ := l_law (n := n) (b := b) (L := L) (xs := xs) HI HT (by omega) (by omega) (by omega)
    exact w_L_law (s0 (nI a)) b L xs (nI a) (nI n) o hOk hXG rfl hend hsS ho2 ho1 H [] ls hWW hS2 hl2
  exact key s.heap [] ls rfl hS hl
-- ===== YOUR PART ENDS =====
set_option maxHeartbeats 4000000 in
theorem lw_walk (l : Launch) (hflags : l.flags = flags0) (b : Addr) (xs : List Int32) : MetFree l x (headSpec (Jvm.Cond.code x code maxLocals ret :: tables_1) room_1) (lw_P b xs) (fun _ _ _ _ _ => True) lw_Q := by
  refine MetFree.of_bodyS (code := code) (maxLocals := maxLocals) (ret := ret) (by decide) ?_ ?_
  · intro args s m h hn
    obtain ⟨meth, c, h1, h2, h3, h4, h5, h6, -, -⟩ := Cond.code_spec hn (atoms_spec (ws := Jvm.Cond.code x code maxLocals ret :: tables_1) h _ List.mem_cons_self)
    exact ⟨meth, c, h1, h2, h3, h4, h5, h6⟩
  · intro p e s m args below meth c s₁ B hml0 hP _
    obtain ⟨rfl, hx, hbd, hgv⟩ := hP
    obtain ⟨scr, harrAt, hlist, hof, hsmall⟩ := hx
    obtain ⟨hcb, hkn, -, -⟩ := State.arrayAt?_spec harrAt
    have hown : s.vm.findClass R_law = some m.cls := findClass_of_methodNamed B.named
    have hts0 : ∀ c ∈ (Jvm.Cond.code x code maxLocals ret :: tables_1), c.before #[Value.ref b] s = true := atoms_spec (ws := Jvm.Cond.code x code maxLocals ret :: tables_1) B.pre
    have hts : ∀ w ∈ lw_tbl, w.before #[Value.ref b] s = true := k2_hts_sels lw_privs (fun w hw => hts0 w (List.mem_cons_of_mem _ hw)) lw_privs_ok
    have hml : c.maxLocals = 8 := B.maxLocals_eq (hts0 _ List.mem_cons_self)
    have X₀ : Stand p l e room_1 s m #[Value.ref b] below meth c s₁ [] 0 0 := Stand.of_body B
    have hh0 : s₁.heap = s.heap := by rw [B.state]; rfl
    have hsz : scr.slots.size = xs.length := by rw [← Array.length_toList, hlist, List.length_map]
    have hval : ∀ j : Nat, j < xs.length → scr.slots[j]? = some (.int (xs.getD j 0)) := fun j hj => by
      rw [← Array.getElem?_toList, hlist]
      simp [hj]
    have hbl : b < s.heap.size := (Array.getElem?_eq_some_iff.mp hcb).1
    have hX : va_X b xs.length (fun j => xs.getD j 0) s s.heap := ⟨scr, hcb, hof, hkn, hsz, hval⟩
    have K : W p l e room_1 s m #[Value.ref b] below meth c s₁.heap [] 0 0 (lw_Z below #[Value.ref b] s) (entryFrame m ([Value.ref b] : List Value).toArray 8) := by
      rw [hh0]
      exact whole_start l hflags hbd ⟨B.exec, B.bytes, B.returns, hml, hown, hts, hX, hbl, B.notSynchronized, hgv⟩
    obtain ⟨t, a1, o, b1, b2, b3⟩ := K s₁ rfl X₀
    exact ⟨t, o, a1, b1, b2, b3⟩
theorem lw_pre_spec {args : Array Value} {s : State} (h : (Jvm.Cond.and given_1 narrow_1).before args s = true) (hr : rest_1_c.before args s = true) : ∃ (b : Addr) (xs : List Int32), lw_P b xs args s := by
  have hs := flat_of_before _ h
  have hq := flat_of_before _ hr
  have hc : (Cond.count 1).before args s = true := hs _ (by decide +kernel)
  have harr : (Cond.arrayOf (.arg 0) .int).before args s = true := hs _ (by decide +kernel)
  have hle : (Cond.le (.length (.arg 0)) (.int 260)).before args s = true := hs _ (by decide +kernel)
  have hlen : (Cond.isInt (.length (.arg 0))).before args s = true := hq _ (by decide +kernel)
  have hall : (Cond.all (.arg 0) (.isInt (.elem (.arg 0) (.index 0)))).before args s = true := hq _ (by decide +kernel)
  obtain ⟨b, xs, hb, hx⟩ := State.ints_of_pre rfl harr hlen hall
  have hsm : xs.length < 2 ^ 31 := hx.choose_spec.2.2.2
  have hev : (Term.length (.arg 0)).eval args s none [] s = some (.int xs.length.toInt32) := hx.length_eval hb
  have hv := Cond.le_ints hev (show (Term.int 260).eval args s none [] s = some (.int 260) from rfl)
  have hd : xs.length.toInt32 ≤ 260 := by
    simpa [Cond.before, Cond.holds, hv] using hle
  have hN : xs.length ≤ 260 := (Int32.ofNat_le_ofNat hsm (by decide)).mp (show Int32.ofNat xs.length ≤ Int32.ofNat 260 from hd)
  exact ⟨b, xs, Cond.one_arg hc (show args[0]? = some (.ref b) from hb), hx, hN, h⟩
theorem lw_comes (l : Launch) (hflags : l.flags = flags0) : Comes l x (Jvm.Cond.code x code maxLocals ret :: tables_1) room_1 (fun tb e args s => Calls_1 tb e args s ∧ rest_1 tb e args s ∧ Pre_1 tb e args s)
    (fun _ _ args s o t => lw_Q args s o t) := by
  intro p e ha hc hk s m args below hf hfit hheap happ hpre
  obtain ⟨b, xs, hP⟩ := lw_pre_spec hpre.2.2 hpre.2.1
  obtain ⟨k, o, h1, h2, h3, hQ⟩ := lw_walk l hflags b xs p e ha hc hk s m args below hf ((Spec.applies_iff_loose hf).mp happ).1 hP trivial
  exact ⟨k, o, h1, h2, h3, hQ⟩
theorem lw_frame {s t : State} {o : Outcome} {args : Array Value} (h : Framed s o t [] 600000 7302250) :
    Framed s o t (fieldLocs frame_1_writes args s ++ arrayLocs frame_1_arrays args s ++ staticLocs frame_1_statics s) 600000 7302250 := h
theorem lw_limb (L : Cond) (hL : ∀ (args : Array Value) (s t : State), L.after args s (.returned (some (.int 1))) t = true) :
    ArmFor flags0 classFile x code maxLocals ret World_1 tables_1 room_1 Calls_1 rest_1 Pre_1
      (fun tb e a s o t => postC L tb e a s o t ∧ Framed s o t (fieldLocs frame_1_writes a s ++ arrayLocs frame_1_arrays a s ++ staticLocs frame_1_statics s) 600000 7302250) := by
  intro l hflags _ _ p e ha hc hk s m args below hf hfit hheap happ hpre
  obtain ⟨k, o, h1, h2, h3, rfl, hF⟩ := lw_comes l hflags p e ha hc hk s m args below hf hfit hheap happ hpre
  exact ⟨k, _, h1, h2, h3, hL args s _, lw_frame hF⟩
theorem i_vc : Claimed_1_1 ∧ Claimed_1_2 := ⟨lw_limb limb_1_1 (fun args s t => by simp [limb_1_1, Cond.after, Cond.holds, Cond.value]), lw_limb limb_1_2 (fun args s t => Cond.after_iff.mpr (by
  first | (rw [show limb_1_2 = Cond.eq .result (.int 1) from rfl, Cond.eq_ints (x := 1) (y := 1) rfl rfl]; simp; done) | (simp [limb_1_2, Cond.value, Term.eval]; done)))⟩
