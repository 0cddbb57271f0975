theorem aI_of {args : Array Value} {s : State} (h : (Cond.arrayClass .int).before args s = true) : ∃ cA, ArrOfT s cA .int ∧ va_RA s cA .int := by
  obtain ⟨c, k, comp, h1, h2, h3⟩ := Cond.arrayClass_spec h
  exact ⟨c, fun n z => ⟨fun k h => (by cases h), k, h2, comp, h3⟩, h1⟩
theorem aO_of {C : String} {s : State} (h : va_AO C s) : ∃ cA, ArrOfT s cA (.object C) ∧ va_RA s cA (.object C) := by
  obtain ⟨comp, c, k, h1, h2, h3, h4, h5⟩ := Cond.arrayOver_spec h
  exact ⟨c, fun N z => ⟨(fun k h => by cases h), k, h3, comp, h4⟩, k, comp, h3, h4, h1, h5⟩
theorem hdL_cell : yL_cell.cls ≠ "java/lang/invoke/MethodHandle" ∧ yL_cell.cls ≠ "java/lang/invoke/VarHandle" ∧ (parseMethodDescriptor yL_cell.desc).map (fun d => d.parameters.length) = some 2 := by decide +kernel
abbrev rmL_cell : Room := { frames := 1, cells := 0, slots := 0, locals := 20 }
theorem c_L_cell (l : Launch) (b L : Nat) (xs : Nat → Int32) (hL : L ≤ 2561) : Met l yL_cell (wT yL_cell cL_cell 2 (some .int)) rmL_cell (va_Pc [.ref b, .int 0] (fun U => va_X b L xs U U.heap ∧ b < U.heap.size)) (XQp (some (.int (if 0 < L then xs 0 else 0)))) 0 0 (fun _ => False) := by
  obtain ⟨z, hz⟩ : ∃ z, z = if 0 < L then xs 0 else 0 := ⟨_, rfl⟩
  rw [← hz]
  refine Met.ofW (cc := cL_cell) (maxL := 2) (ret := some .int) (by decide +kernel) rfl ?_
  intro p e s m args below meth c s₁ B hml hv
  obtain ⟨rfl, hX, hb0⟩ := hv
  have hx := B.exec
  have hb := B.bytes
  have hr := B.returns
  have hlocks := B.notSynchronized
  have hS : va_S (fun _ => False) s.heap s.heap [] := va_S.rf
  have hl := lv_entry ([.ref b, .int 0]) (n := 2) (Nat.le_of_ble_eq_true rfl)
  rw [lg_entry_eq]
  generalize (lg_sl ([.ref b, .int 0]) ++ List.replicate (2 - (lg_sl ([.ref b, .int 0])).length) Slot.unset).toArray = ls at hl ⊢
  have hl : lv_has ls 2 [(0, .ref b), (1, .int 0)] := hl
  refine lv_iload_n hx hb dL_cell_0 rfl (lv_at hl 1 rfl) ?_
  refine lv_aload_n hx hb dL_cell_1 rfl (lv_at hl 0 rfl) ?_
  refine va_slen hx hb hX hb0 (fun h => h) hS dL_cell_2 ?_
  refine lv_icmp_ge (tgt := 12) hx hb dL_cell_3 (by decide) (fun hc => ?_) (fun hc => ?_)
  · refine lv_iconst (v := 0) hx hb dL_cell_12 (by decide) ?_
    have h0 : ¬ 0 < L := fun q => znle (a := L) (b := 0) (by omega) (by decide) q hc
    rw [if_neg h0] at hz
    exact W.iret (v := 0) hx hb hr (fun t ht _ => ⟨by rw [hz], ht⟩) hS.2.2 dL_cell_13 hlocks
  · have h0 : 0 < L := Nat.pos_of_ne_zero fun q => hc (by subst q; decide)
    rw [if_pos h0] at hz
    refine lv_aload_n hx hb dL_cell_6 rfl (lv_at hl 0 rfl) ?_
    refine lv_iload_n hx hb dL_cell_7 rfl (lv_at hl 1 rfl) ?_
    refine va_sld hx hb hX hb0 (fun h => h) hS (vp_in_nI (n := 0) h0 (by omega)) dL_cell_8 ?_
    refine lv_goto (tgt := 13) hx hb dL_cell_9 (by decide) ?_
    exact W.iret hx hb hr (fun t ht _ => ⟨by rw [hz]; rfl, ht⟩) hS.2.2 dL_cell_13 hlocks
theorem y_cell {p : Program} {l : Launch} {e : Env} {s : State} {m : MethodId} {args : Array Value} {below : List Frame} {meth : Method} {c : Code} {H : Heap} {locs : List Loc} {ls : Array Slot} {rest : List Value} {Q : State → Prop} {A : Nat → Prop} {cells slots pc b L : Nat} {xs : Nat → Int32} (hx : p.tables.exec = Jvm.exec) (hb : c.code = cL_law) (hml : c.maxLocals = 4) (hown : s.vm.findClass RL = some m.cls) (hts : ∀ w ∈ tG, w.before args s = true) (hX : va_X b L xs s s.heap) (hbl : b < s.heap.size) (hbA : ¬ A b) (hS : va_S A s.heap H locs) (hL : L ≤ 2561) (hls : ls.size = 4) (hdg : decode cL_law pc = .ok (.invokestatic 9, 3)) (hcat : (rest.map fun v => v.category).sum ≤ 8) (hcap : cells ≤ 600000 ∧ slots ≤ 7302250)
    (kk : W p l e room_1 s m args below meth c H locs cells slots Q (F0 m (pc + 3) ls (.int (if 0 < L then xs 0 else 0) :: rest))) : W p l e room_1 s m args below meth c H locs cells slots Q (F0 m pc ls (.int 0 :: .ref b :: rest)) := by
  intro T hT X
  have hr : va_Run p l e room_1 s m args below meth c H locs cells slots 0 0 (F0 m pc ls (.int 0 :: .ref b :: rest)) rest (XQp (some (.int (if 0 < L then xs 0 else 0))) ([.ref b, .int 0] : List Value).toArray) (fun _ => False) := by
    refine va_runS (Ts := tG) (As := [.ref b, .int 0]) ⟨hx, hb, hml, hown, hts⟩ (c_L_cell l b L xs hL) (va_cwS 2 hts (gdS ml_L_9 biL_cell) rfl rfl rfl hdL_cell ⟨Nat.le_of_ble_eq_true rfl, Nat.le_of_ble_eq_true rfl⟩) ⟨fun a U g mk h => ⟨h.1, va_X.moved (u := U) (U := U.calling g mk a) (Vm.Alike.refl U.vm) h.2.1, h.2.2⟩, fun U hU hWm => ⟨rfl, ?_, ?_⟩⟩ rfl rfl hls rfl (lv_room hcat) hdg hcap
    · rw [hU]
      exact (va_X.moved hWm.alike hX).kept (hS.2.1 b hbl hbA)
    · rw [hU]
      exact Nat.lt_of_lt_of_le hbl hS.1
  obtain ⟨v, st₀, t, T', L', h0, X', hL', e1, e2, ⟨hv, hP⟩, st'⟩ := hr T hT X
  cases hv
  have hH : T'.heap = H := by rw [e1, hP, h0]
  obtain ⟨t2, a1, b1⟩ := kk T' hH (Stand.forget X' (fun q h => (hL' q h).elim))
  exact ⟨t2, st' t2 a1, b1⟩
section LP
variable {C : XC} {g : cG} {b L : Nat} {xs : Nat → Int32} {Q : State → Prop}
theorem lw_loop (HL : lwH C g b L xs) (hend : ∀ σ i, Xs C (wW g) Q σ 1214 (lwV g b i) []) : ∀ (n i : Nat) (σ : St), L ≤ i + n → i ≤ L + 5 → (∃ a, INV a σ) → Xs C (wW g) Q σ 28 (lwV g b i) [] := by
  have h := HL.1
  have hL := HL.2.2.2.2.2.1
  have h4 := HL.2.2.2.2.2.2
  have gtI : ∀ i, i ≤ L + 5 → (nI L - 5 < nI i ↔ L < i + 5) := fun i hi => by
    rw [fa_lt, nI_toInt (by omega), show nI L - 5 = nI L - nI 5 from rfl, pk_sub_toInt (by omega) (by decide)]
    omega
  intro n
  induction n with
  | zero =>
    intro i σ h1 h2 H2
    refine x_iload_n h dL_law_28 rfl 3 rfl (q := 29) rfl ?_
    refine x_aload_n h dL_law_29 rfl 0 rfl (q := 30) rfl ?_
    refine x_slen HL dL_law_30 (q := 31) rfl ?_
    refine x_iconst h dL_law_31 (v := 5) (by decide) (q := 32) rfl ?_
    refine x_isub h dL_law_32 (q := 33) rfl ?_
    refine x_icmp_gt (a := ()) (b := ()) (o := ()) h dL_law_33 (tgt := 1214) (by decide) (q := 36) rfl (ite_self _) (fun _ _ => hend σ i) (fun hc _ => absurd ((gtI i h2).mpr (by omega)) hc)
  | succ n ih =>
    intro i σ h1 h2 H2
    refine x_iload_n h dL_law_28 rfl 3 rfl (q := 29) rfl ?_
    refine x_aload_n h dL_law_29 rfl 0 rfl (q := 30) rfl ?_
    refine x_slen HL dL_law_30 (q := 31) rfl ?_
    refine x_iconst h dL_law_31 (v := 5) (by decide) (q := 32) rfl ?_
    refine x_isub h dL_law_32 (q := 33) rfl ?_
    refine x_icmp_gt (a := ()) (b := ()) (o := ()) h dL_law_33 (tgt := 1214) (by decide) (q := 36) rfl (ite_self _) (fun _ _ => hend σ i) (fun hc _ => ?_)
    have hi : i + 5 ≤ L := Nat.not_lt.mp fun q => hc ((gtI i h2).mpr q)
    have k : ∀ τ, (∃ a, INV a τ) → Xs C (wW g) Q τ 1208 (lwV g b i) [] := by
      intro τ Hτ
      refine x_iinc (j := 3) (v := nI (i + 5)) (lv' := [(3, .int (nI (i + 5))), (0, .ref b), (1, .ref (gA g 65)), (2, .ref (gA g 87))]) h dL_law_1208 rfl (nI_add i 5) h4 (by decide) rfl (q := 1211) rfl ?_
      refine x_goto h dL_law_1211 (q := 28) (by decide) ?_
      refine x_sub (lv' := lwV g b (i + 5)) [1, 2, 3, 0] rfl ?_
      exact ih (i + 5) τ (by omega) (by omega) Hτ
    refine x_aload_n h dL_law_36 rfl 0 rfl (q := 37) rfl ?_
    refine x_iload_n h dL_law_37 rfl 3 rfl (q := 38) rfl ?_
    refine x_sld HL (j := i) (by omega) dL_law_38 (q := 39) rfl ?_
    refine x_bipush h dL_law_39 (v := 63) (by decide) (q := 41) rfl ?_
    refine x_iand h dL_law_41 (q := 42) rfl ?_
    generalize xs i &&& 63 = y
    obtain ⟨a, H2⟩ := H2
    have k' : ∀ τ, INV a τ → Xs C (wW g) Q τ 1208 (lwV g b i) [] := fun τ Hτ => k τ ⟨a, Hτ⟩
    by_cases hy : y.toInt < 0 ∨ 34 < y.toInt
    · exact x_tableOut h dL_law_42 hy (tgt := 1208) (by decide) (k σ ⟨a, H2⟩)
    · obtain ⟨j, hj⟩ : ∃ j : Nat, (j : Int) = y.toInt := ⟨y.toInt.toNat, by omega⟩
      have hj34 : j ≤ 34 := by omega
      have ey : y = nI j := Int32.toInt_inj.mp (by rw [nI_toInt (by omega)]; exact hj.symm)
      subst ey
      have : j = 0 ∨ j = 1 ∨ j = 2 ∨ j = 3 ∨ j = 4 ∨ j = 5 ∨ j = 6 ∨ j = 7 ∨ j = 8 ∨ j = 9 ∨ j = 10 ∨ j = 11 ∨ j = 12 ∨ j = 13 ∨ j = 14 ∨ j = 15 ∨ j = 16 ∨ j = 17 ∨ j = 18 ∨ j = 19 ∨ j = 20 ∨ j = 21 ∨ j = 22 ∨ j = 23 ∨ j = 24 ∨ j = 25 ∨ j = 26 ∨ j = 27 ∨ j = 28 ∨ j = 29 ∨ j = 30 ∨ j = 31 ∨ j = 32 ∨ j = 33 ∨ j = 34 := by omega
      rcases this with rfl | rfl | rfl | rfl | rfl | rfl | rfl | rfl | rfl | rfl | rfl | rfl | rfl | rfl | rfl | rfl | rfl | rfl | rfl | rfl | rfl | rfl | rfl | rfl | rfl | rfl | rfl | rfl | rfl | rfl | rfl | rfl | rfl | rfl | rfl
      · exact x_tableIn (off := 154) (tgt := 196) h dL_law_42 (by decide) (by decide) (by decide) (by decide) (lw_c0 HL H2 hi k')
      · exact x_tableIn (off := 167) (tgt := 209) h dL_law_42 (by decide) (by decide) (by decide) (by decide) (lw_c1 HL H2 hi k')
      · exact x_tableIn (off := 180) (tgt := 222) h dL_law_42 (by decide) (by decide) (by decide) (by decide) (lw_c2 HL H2 hi k')
      · exact x_tableIn (off := 193) (tgt := 235) h dL_law_42 (by decide) (by decide) (by decide) (by decide) (lw_c3 HL H2 hi k')
      · exact x_tableIn (off := 236) (tgt := 278) h dL_law_42 (by decide) (by decide) (by decide) (by decide) (lw_c4 HL H2 hi k')
      · exact x_tableIn (off := 269) (tgt := 311) h dL_law_42 (by decide) (by decide) (by decide) (by decide) (lw_c5 HL H2 hi k')
      · exact x_tableIn (off := 328) (tgt := 370) h dL_law_42 (by decide) (by decide) (by decide) (by decide) (lw_c6 HL H2 hi k')
      · exact x_tableIn (off := 351) (tgt := 393) h dL_law_42 (by decide) (by decide) (by decide) (by decide) (lw_c7 HL H2 hi k')
      · exact x_tableIn (off := 394) (tgt := 436) h dL_law_42 (by decide) (by decide) (by decide) (by decide) (lw_c8 HL H2 hi k')
      · exact x_tableIn (off := 447) (tgt := 489) h dL_law_42 (by decide) (by decide) (by decide) (by decide) (lw_c9 HL H2 hi k')
      · exact x_tableIn (off := 480) (tgt := 522) h dL_law_42 (by decide) (by decide) (by decide) (by decide) (lw_c10 HL H2 hi k')
      · exact x_tableIn (off := 503) (tgt := 545) h dL_law_42 (by decide) (by decide) (by decide) (by decide) (lw_c11 HL H2 hi k')
      · exact x_tableIn (off := 546) (tgt := 588) h dL_law_42 (by decide) (by decide) (by decide) (by decide) (lw_c12 HL H2 hi k')
      · exact x_tableIn (off := 599) (tgt := 641) h dL_law_42 (by decide) (by decide) (by decide) (by decide) (lw_c13 HL H2 hi k')
      · exact x_tableIn (off := 632) (tgt := 674) h dL_law_42 (by decide) (by decide) (by decide) (by decide) (lw_c14 HL H2 hi k')
      · exact x_tableIn (off := 655) (tgt := 697) h dL_law_42 (by decide) (by decide) (by decide) (by decide) (lw_c15 HL H2 hi k')
      · exact x_tableIn (off := 668) (tgt := 710) h dL_law_42 (by decide) (by decide) (by decide) (by decide) (lw_c16 HL H2 hi k')
      · exact x_tableIn (off := 681) (tgt := 723) h dL_law_42 (by decide) (by decide) (by decide) (by decide) (lw_c17 HL H2 hi k')
      · exact x_tableIn (off := 694) (tgt := 736) h dL_law_42 (by decide) (by decide) (by decide) (by decide) (lw_c18 HL H2 hi k')
      · exact x_tableIn (off := 707) (tgt := 749) h dL_law_42 (by decide) (by decide) (by decide) (by decide) (lw_c19 HL H2 hi k')
      · exact x_tableIn (off := 730) (tgt := 772) h dL_law_42 (by decide) (by decide) (by decide) (by decide) (lw_c20 HL H2 hi k')
      · exact x_tableIn (off := 763) (tgt := 805) h dL_law_42 (by decide) (by decide) (by decide) (by decide) (lw_c21 HL H2 hi k')
      · exact x_tableIn (off := 796) (tgt := 838) h dL_law_42 (by decide) (by decide) (by decide) (by decide) (lw_c22 HL H2 hi k')
      · exact x_tableIn (off := 829) (tgt := 871) h dL_law_42 (by decide) (by decide) (by decide) (by decide) (lw_c23 HL H2 hi k')
      · exact x_tableIn (off := 862) (tgt := 904) h dL_law_42 (by decide) (by decide) (by decide) (by decide) (lw_c24 HL H2 hi k')
      · exact x_tableIn (off := 895) (tgt := 937) h dL_law_42 (by decide) (by decide) (by decide) (by decide) (lw_c25 HL H2 hi k')
      · exact x_tableIn (off := 938) (tgt := 980) h dL_law_42 (by decide) (by decide) (by decide) (by decide) (lw_c26 HL H2 hi k')
      · exact x_tableIn (off := 961) (tgt := 1003) h dL_law_42 (by decide) (by decide) (by decide) (by decide) (lw_c27 HL H2 hi k')
      · exact x_tableIn (off := 994) (tgt := 1036) h dL_law_42 (by decide) (by decide) (by decide) (by decide) (lw_c28 HL H2 hi k')
      · exact x_tableIn (off := 1017) (tgt := 1059) h dL_law_42 (by decide) (by decide) (by decide) (by decide) (lw_c29 HL H2 hi k')
      · exact x_tableIn (off := 1070) (tgt := 1112) h dL_law_42 (by decide) (by decide) (by decide) (by decide) (lw_c30 HL H2 hi k')
      · exact x_tableIn (off := 1103) (tgt := 1145) h dL_law_42 (by decide) (by decide) (by decide) (by decide) (lw_c31 HL H2 hi k')
      · exact x_tableIn (off := 1116) (tgt := 1158) h dL_law_42 (by decide) (by decide) (by decide) (by decide) (lw_c32 HL H2 hi k')
      · exact x_tableIn (off := 1139) (tgt := 1181) h dL_law_42 (by decide) (by decide) (by decide) (by decide) (lw_c33 HL H2 hi k')
      · exact x_tableIn (off := 1152) (tgt := 1194) h dL_law_42 (by decide) (by decide) (by decide) (by decide) (lw_c34 HL H2 hi k')
end LP
