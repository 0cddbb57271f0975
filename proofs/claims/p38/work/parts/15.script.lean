/-! THE SCRIPT: a row of ints that no one changes; the law's cell(); calls that hand it on; two rows for longs -/
section XL
variable {C : XC} {cc : ByteArray} {own : String} {Ts : List Cond} {R0 : Room} {g : cG} {Wd : St → Heap → Prop} {Q : State → Prop} {σ : St} {lv lv' : List (Nat × Value)} {rest : List Value} {pc q : Nat}
theorem x_lload {i : Nat} {z : Int64} (h : XOk C cc own Ts R0) (hdg : decode cc pc = .ok (.lload i, 2)) (j : Nat) (hj : lv[j]? = some (i, .long z)) (hq : pc + 2 = q) (k : Xs C Wd Q σ q lv (.long z :: rest)) : Xs C Wd Q σ pc lv rest := by
  subst hq; exact fun H locs ls hW hS hl => lv_lload h.1 h.2.1 hdg (lv_at hl j hj) (k H locs ls hW hS hl)
theorem x_lstore {i : Nat} {z : Int64} (h : XOk C cc own Ts R0) (hdg : decode cc pc = .ok (.lstore i, 2)) {nL : Nat} (hL : C.2.2.2.2.2.2.2.2.2.2.2.2.1 = nL) (hn : i + 1 < nL) (hl : (i, Value.long z) :: lv.filter (fun q => !(q.1 == i) && (!(q.1 == i + 1) && !(q.1 + 1 == i && q.2.category == 2))) = lv') (hq : pc + 2 = q) (k : Xs C Wd Q σ q lv' rest) : Xs C Wd Q σ pc lv (.long z :: rest) := by
  subst hq; subst hL; exact fun H locs ls hW hS hl' => lv_lstore h.1 h.2.1 hdg hl' hn hl (fun ls' h' => k H locs ls' hW hS h')
end XL
/-- the script at the place's start -/
def lwS (C : XC) (g : cG) (b L : Nat) (xs : Nat → Int32) : Prop := va_X b L xs C.2.2.2.2.1 C.2.2.2.2.1.heap ∧ b < C.2.2.2.2.1.heap.size ∧ ¬ C.2.2.2.2.2.2.2.2.2.2.2.2.2 b ∧ L ≤ 260
theorem lwS_nb {C : XC} {g : cG} {b L : Nat} {xs : Nat → Int32} (hg : XG C g) (hs : lwS C g b L xs) : ¬ cA g b := by rw [← hg.2.2]; exact hs.2.2.1
/-- the end of the law -/
def lwE (C : XC) (g : cG) (Q : State → Prop) : Prop := ∀ (τ : St) (pc : Nat) (lv : List (Nat × Value)), decode cL_law pc = .ok (.ireturn, 1) → Xs C (wW g) Q τ pc lv [.int 1]
def XPreB (g : cG) (σ : St) (b L : Nat) (xs : Nat → Int32) (U : State) : Prop := XPre g σ U ∧ va_X b L xs U U.heap ∧ b < U.heap.size
def cellF (L : Nat) (xs : Nat → Int32) (k : Int32) : Int32 := if nI L ≤ k then 763049417 * (k + 3) else xs k.toNatClampNeg
theorem hdL_cell : yL_cell.cls ≠ "java/lang/invoke/MethodHandle" ∧ yL_cell.cls ≠ "java/lang/invoke/VarHandle" ∧ (parseMethodDescriptor yL_cell.desc).map (fun d => d.parameters.length) = some 2 := by decide +kernel
abbrev rmL_cell : Room := { frames := 1, cells := 0, slots := 0, locals := 20 }
theorem c_L_cell (l : Launch) (b L : Nat) (xs : Nat → Int32) (i : Int32) (hL : L ≤ 260) (hi : vp_in i 2147483647) : Met l yL_cell (wT yL_cell cL_cell 2 (some .int)) rmL_cell (va_Pc [.ref b, .int i] (fun U => va_X b L xs U U.heap ∧ b < U.heap.size)) (XQp (some (.int (cellF L xs i)))) 0 0 (fun _ => False) := by
  obtain ⟨z, hz⟩ : ∃ z, z = cellF L xs i := ⟨_, rfl⟩
  rw [← hz]
  refine Met.ofW (cc := cL_cell) (maxL := 2) (ret := some .int) (by decide +kernel) rfl ?_
  intro p e s m args below meth c s₁ B hml hv
  obtain ⟨rfl, hX, hb0⟩ := hv
  have hx := B.exec
  have hb := B.bytes
  have hr := B.returns
  have hlocks := B.notSynchronized
  have hts : ∀ w ∈ tG, w.before ([.ref b, .int i] : List Value).toArray s = true := fun w hw => atoms_spec (ws := wT yL_cell cL_cell 2 (some .int)) B.pre w (List.mem_cons_of_mem _ hw)
  have hown : s.vm.findClass RL = some m.cls := findClass_of_methodNamed B.named
  have hS : va_S (fun _ => False) s.heap s.heap [] := va_S.rf
  have hl := lv_entry ([.ref b, .int i]) (n := 2) (Nat.le_of_ble_eq_true rfl)
  rw [lg_entry_eq]
  generalize (lg_sl ([.ref b, .int i]) ++ List.replicate (2 - (lg_sl ([.ref b, .int i])).length) Slot.unset).toArray = ls at hl ⊢
  have hl : lv_has ls 2 [(0, .ref b), (1, .int i)] := hl
  refine lv_iload_n hx hb dL_cell_0 rfl (lv_at hl 1 rfl) ?_
  refine lv_aload_n hx hb dL_cell_1 rfl (lv_at hl 0 rfl) ?_
  refine va_slen hx hb hX hb0 (fun h => h) hS dL_cell_2 ?_
  refine lv_icmp_ge (tgt := 12) hx hb dL_cell_3 (by decide) (fun hc => ?_) (fun hc => ?_)
  · refine lv_ldc (v := 763049417) hx hb hown (hts _ kc_L_7) dL_cell_12 ?_
    refine lv_iload_n hx hb dL_cell_14 rfl (lv_at hl 1 rfl) ?_
    refine lv_iconst (v := 3) hx hb dL_cell_15 (by decide) ?_
    refine lv_iadd hx hb dL_cell_16 ?_
    refine lv_imul hx hb dL_cell_17 ?_
    exact W.iret hx hb hr (fun t ht _ => ⟨by rw [hz]; unfold cellF; rw [if_pos (show nI L ≤ i from hc)], ht⟩) hS.2.2 dL_cell_18 hlocks
  · refine lv_aload_n hx hb dL_cell_6 rfl (lv_at hl 0 rfl) ?_
    refine lv_iload_n hx hb dL_cell_7 rfl (lv_at hl 1 rfl) ?_
    have hin : vp_in i L := fun q => q.elim (fun q => hi (Or.inl q)) (fun q => hc (by
      obtain ⟨j, hj, rfl⟩ := vp_in_of hi (by decide)
      rw [nI_clamp (by omega)] at q
      exact (nI_leI (by omega) (by omega)).mpr q))
    refine va_sld hx hb hX hb0 (fun h => h) hS hin dL_cell_8 ?_
    refine lv_goto (tgt := 18) hx hb dL_cell_9 (by decide) ?_
    exact W.iret hx hb hr (fun t ht _ => ⟨by rw [hz]; unfold cellF; rw [if_neg (show ¬ nI L ≤ i from hc)], ht⟩) hS.2.2 dL_cell_18 hlocks
section XC2
variable {C : XC} {cc : ByteArray} {own : String} {Ts : List Cond} {R0 : Room} {g : cG} {Q : State → Prop} {σ : St} {lv : List (Nat × Value)} {rest : List Value} {pc b L : Nat} {xs : Nat → Int32}
theorem x_callC {i : Int32} {index : Nat} (h : XOk C cc RL tG R0) (hg : XG C g) (hs : lwS C g b L xs) (hi : vp_in i 2147483647) (hml : Cond.methodLink RL index yL_cell ∈ tG) (hR : rmL_cell.frames + 1 ≤ R0.frames ∧ 8 + (2 + 11) + rmL_cell.locals ≤ R0.locals) (hcat : (rest.map fun v => v.category).sum ≤ 8) (hdg : decode cc pc = .ok (.invokestatic index, 3)) (k : Xs C (wW g) Q σ (pc + 3) lv (.int (cellF L xs i) :: rest)) : Xs C (wW g) Q σ pc lv (.int i :: .ref b :: rest) := by
  obtain ⟨hX, hbl, hbA, hL⟩ := hs
  intro H locs ls hW hS hl' T hT X
  have hr : va_Run C.1 C.2.1 C.2.2.1 C.2.2.2.1 C.2.2.2.2.1 C.2.2.2.2.2.1 C.2.2.2.2.2.2.1 C.2.2.2.2.2.2.2.1 C.2.2.2.2.2.2.2.2.1 C.2.2.2.2.2.2.2.2.2.1 H locs C.2.2.2.2.2.2.2.2.2.2.1 C.2.2.2.2.2.2.2.2.2.2.2.1 0 0 (F0 C.2.2.2.2.2.1 pc ls (.int i :: .ref b :: rest)) rest (XQp (some (.int (cellF L xs i))) ([.ref b, .int i] : List Value).toArray) (fun _ => False) := by
    refine va_runS (Ts := tG) (As := [.ref b, .int i]) ⟨h.1, h.2.1, h.2.2.1, h.2.2.2.1, h.2.2.2.2.1⟩ (c_L_cell C.2.1 b L xs i hL hi) (va_cwS 2 h.2.2.2.2.1 (gdS hml biL_cell) rfl rfl rfl hdL_cell (by rw [h.2.2.2.2.2.1]; exact hR)) ⟨fun a U g mk h => ⟨h.1, va_X.moved (u := U) (U := U.calling g mk a) (Vm.Alike.refl U.vm) h.2.1, h.2.2⟩, fun U hU hWm => ⟨rfl, ?_, ?_⟩⟩ rfl rfl hl'.1 rfl (lv_room (pc := pc) (ls := ls) (m := C.2.2.2.2.2.1) (rest := rest) hcat) hdg ?_
    · rw [hU]
      exact (va_X.moved hWm.alike hX).kept (hS.2.1 b hbl hbA)
    · rw [hU]
      exact Nat.lt_of_lt_of_le hbl hS.1
    · rw [h.2.2.2.2.2.1]
      exact ⟨h.2.2.2.2.2.2.1, h.2.2.2.2.2.2.2⟩
  obtain ⟨v, st₀, t, T', L', h0, X', hL', e1, e2, ⟨hv, hP⟩, st'⟩ := hr T hT X
  cases hv
  have hH : T'.heap = H := by rw [e1, hP, h0]
  obtain ⟨t2, a1, b1⟩ := k H locs ls hW hS hl' T' hH (Stand.forget X' (fun q h => (hL' q h).elim))
  exact ⟨t2, st' t2 a1, b1⟩
theorem x_callB {σ' : St} {r : Int32} {y : MethodName} {bytes : ByteArray} {maxL n index : Nat} {ret : Option FieldType} {rm : Room} {As st : List Value} (h : XOk C cc own tG R0) (hg : XG C g) (hs : lwS C g b L xs) (hM : Met C.2.1 y (wT y bytes maxL ret) rm (va_Pc As (XPreB g σ b L xs)) (XQ g (some (.int r)) σ') 0 0 (cA g)) (hml : Cond.methodLink own index y ∈ tG) (hbi : biS y bytes maxL ret) (hrc : rm.cells = 0) (hrs : rm.slots = 0) (hd : y.cls ≠ "java/lang/invoke/MethodHandle" ∧ y.cls ≠ "java/lang/invoke/VarHandle" ∧ (parseMethodDescriptor y.desc).map (fun d => d.parameters.length) = some n) (hR : rm.frames + 1 ≤ R0.frames ∧ 8 + (maxL + 11) + rm.locals ≤ R0.locals) (hn : As.length = n) (hst : st = As.reverse ++ rest) (hcat : (rest.map fun v => v.category).sum ≤ 8) (hdg : decode cc pc = .ok (.invokestatic index, 3)) (k : Xs C (wW g) Q σ' (pc + 3) lv (.int r :: rest)) : Xs C (wW g) Q σ pc lv st := by
  obtain ⟨hX, hbl, hbA, hL⟩ := hs
  intro H locs ls hW hS hl' T hT X
  have hA := hg.2.2
  have hr : va_Run C.1 C.2.1 C.2.2.1 C.2.2.2.1 C.2.2.2.2.1 C.2.2.2.2.2.1 C.2.2.2.2.2.2.1 C.2.2.2.2.2.2.2.1 C.2.2.2.2.2.2.2.2.1 C.2.2.2.2.2.2.2.2.2.1 H locs C.2.2.2.2.2.2.2.2.2.2.1 C.2.2.2.2.2.2.2.2.2.2.2.1 0 0 (F0 C.2.2.2.2.2.1 pc ls st) rest (XQ g (some (.int r)) σ' As.toArray) (cA g) := by
    refine va_runS (Ts := tG) ⟨h.1, h.2.1, h.2.2.1, h.2.2.2.1, h.2.2.2.2.1⟩ hM (va_cwS n h.2.2.2.2.1 (gdS hml hbi) rfl hrc hrs hd (by rw [h.2.2.2.2.2.1]; exact hR)) ⟨fun a U gg mk h => ⟨h.1, ⟨h.2.1.1, va_K.moved (u := U) (U := U.calling gg mk a) (Vm.Alike.refl U.vm) h.2.1.2⟩, va_X.moved (u := U) (U := U.calling gg mk a) (Vm.Alike.refl U.vm) h.2.2.1, h.2.2.2⟩, fun U hU hWm => ⟨rfl, ⟨by rw [hU]; exact hW, va_K.moved hWm.alike hg.1⟩, ?_, ?_⟩⟩ rfl hn hl'.1 hst (lv_room (pc := pc) (ls := ls) (m := C.2.2.2.2.2.1) (rest := st) hcat) hdg ?_
    · rw [hU]
      exact (va_X.moved hWm.alike hX).kept (hS.2.1 b hbl hbA)
    · rw [hU]
      exact Nat.lt_of_lt_of_le hbl hS.1
    · rw [h.2.2.2.2.2.1]
      exact ⟨h.2.2.2.2.2.2.1, h.2.2.2.2.2.2.2⟩
  obtain ⟨v, st₀, t, T', L', h0, X', hL', e1, e2, ⟨hv, hP, hz, hk⟩, st'⟩ := hr T hT X
  cases hv
  rw [h0] at hz hk
  rw [hA] at hS
  obtain ⟨t2, a1, b1⟩ := k T'.heap (locs ++ L') ls (by rw [e1]; exact hP) (by
    rw [hA]
    exact ⟨Nat.le_trans hS.1 (by rw [e1]; exact hz), fun q h1 h2 => by rw [e1, hk q (Nat.lt_of_lt_of_le h1 hS.1) h2]; exact hS.2.1 q h1 h2, fun q hq => by
      rcases List.mem_append.mp hq with h | h
      · exact hS.2.2 q h
      · exact hL' q h⟩) hl' T' rfl X'
  exact ⟨t2, st' t2 a1, b1⟩
end XC2
theorem X_metB {l : Launch} {y : MethodName} {rm : Room} {cc : ByteArray} {maxL : Nat} {ret : Option FieldType} {g : cG} {σ σ' : St} {rv : Option Value} {av : List Value} {lv : List (Nat × Value)} {b L : Nat} {xs : Nat → Int32} (own : String) (hi : gInj g) (hb : ¬ cA g b) (hL : L ≤ 260) (hy : plainName y.cls = true) (ho : y.cls = own) (hn : (lg_sl av).length ≤ maxL) (hlv : lv_args 0 av = lv)
    (body : ∀ (C : XC) (Q : State → Prop), C.2.1 = l → XOk C cc own tG rm → XG C g → C.2.2.2.2.2.2.2.2.2.2.2.2.1 = maxL → XEnd C ret Q (XQ g rv σ') (cA g) → lwS C g b L xs → Xs C (wW g) Q σ 0 lv []) : Met l y (wT y cc maxL ret) rm (va_Pc av (XPreB g σ b L xs)) (XQ g rv σ') 0 0 (cA g) := by
  refine Met.ofW (cc := cc) (maxL := maxL) (ret := ret) hy rfl ?_
  intro p e s m args below meth c s₁ B hml hv
  obtain ⟨rfl, ⟨hP, hK⟩, hX, hbl⟩ := hv
  have hts : ∀ w ∈ tG, w.before av.toArray s = true := fun w hw => atoms_spec (ws := wT y cc maxL ret) B.pre w (List.mem_cons_of_mem _ hw)
  have hown : s.vm.findClass own = some m.cls := by rw [← ho]; exact findClass_of_methodNamed B.named
  have hl := lv_entry av (n := maxL) hn
  rw [lg_entry_eq]
  rw [hlv] at hl
  exact body (p, l, e, rm, s, m, av.toArray, below, meth, c, 0, 0, maxL, cA g) _ rfl ⟨B.exec, B.bytes, hml, hown, hts, rfl, Nat.zero_le _, Nat.zero_le _⟩ ⟨hK, hi, rfl⟩ rfl ⟨B.returns, B.notSynchronized, rfl, rfl⟩ ⟨hX, hbl, hb, hL⟩ s.heap [] _ hP va_S.rf hl
