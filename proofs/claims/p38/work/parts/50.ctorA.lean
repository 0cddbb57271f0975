section YR
variable {p : Program} {l : Launch} {e : Env} {R : Room} {s : State} {m : MethodId} {args : Array Value} {below : List Frame} {meth : Method} {c : Code} {H : Heap} {locs : List Loc} {cells slots : Nat} {Q : State → Prop}
variable {cc : ByteArray} {pc : Nat} {ls : Array Slot} {rest : List Value} {D : va_G} {cl : List vw_C} {A : Nat → Prop} {a : Nat} {tys : List (ClassId × FieldType)} {ws : va_W} {H0 : Heap}
theorem va_K_same {D : va_G} {cl : List vw_C} {tys : List (ClassId × FieldType)} {s : State} {cA cB : ClassId} {t0 : Nat} (hK : va_K D cl (tys ++ [(cA, .int)]) s) (ht : tys[t0]? = some (cB, .int)) : cA = cB := by
  have h1 := (hK.2 tys.length (cA, .int) (by simp)).2
  have h2 := (hK.2 t0 (cB, .int) (by rw [List.getElem?_append_left (List.getElem?_eq_some_iff.mp ht).1]; exact ht)).2
  exact Option.some.inj (Eq.trans (Eq.symm h1) h2)
theorem va_K_sameO {D : va_G} {cl : List vw_C} {tys : List (ClassId × FieldType)} {s : State} {cA cB : ClassId} {t0 : Nat} {n : String} (hK : va_K D cl (tys ++ [(cA, .object n)]) s) (ht : tys[t0]? = some (cB, .object n)) : cA = cB := by
  obtain ⟨_, _, _, _, _, h1⟩ := (hK.2 tys.length (cA, .object n) (by simp)).2
  obtain ⟨_, _, _, _, _, h2⟩ := (hK.2 t0 (cB, .object n) (by rw [List.getElem?_append_left (List.getElem?_eq_some_iff.mp ht).1]; exact ht)).2
  exact Option.some.inj (Eq.trans (Eq.symm h1) h2)
theorem y_newa {cI : ClassId} {n : Int32} (N' : Nat) (hexec : p.tables.exec = Jvm.exec) (hb : c.code = cc) (harr : (Cond.arrayClass .int).before args s = true) (hK : va_K D cl tys s) (ht : tys[0]? = some (cI, .int)) (hP : va_P D cl ws H) (hD : va_D A ws) (hS : va_S A H0 H locs) (hA : ∀ q, H0.size ≤ q → A q) (hn : ¬ n < 0) (hN : n.toNatClampNeg = N') (hbytes : N' * componentBytes .int ≤ 536870912) (hcells : cells + 1 ≤ R.cells) (hslots : slots + N' ≤ R.slots) (hdg : decode cc pc = .ok (.newarray .int, 2))
    (kk : ∀ (q : Nat) (H1 : Heap), va_P D cl (ws ++ [(q, .inl (cI, N', .inl (fun _ => 0)))]) H1 → va_D A (ws ++ [(q, .inl (cI, N', .inl (fun _ => 0)))]) → va_S A H0 H1 locs → W p l e R s m args below meth c H1 locs (cells + 1) (slots + N') Q (F0 m (pc + 2) ls (.ref q :: rest))) : W p l e R s m args below meth c H locs cells slots Q (F0 m pc ls (.int n :: rest)) := by
  refine va_newa (a0 := (N', .inl (fun _ => 0))) (atype := .int) hexec hb harr rfl hK hP hD hS hA (fun cA => rfl) hn hN hbytes hcells hslots hdg (fun q cA H1 hK1 hP1 hD1 hS1 => ?_)
  have he : cA = cI := va_K_same hK1 ht
  subst he
  exact kk q H1 hP1 hD1 hS1
theorem y_newq {own C : String} {index : Nat} {cQ : ClassId} {n : Int32} (t0 N' : Nat) (hexec : p.tables.exec = Jvm.exec) (hb : c.code = cc) (hown : s.vm.findClass own = some m.cls) (hclink : (Cond.classLink own index C).before args s = true) (hover : va_AO C s) (hK : va_K D cl tys s) (ht : tys[t0]? = some (cQ, .object C)) (hP : va_P D cl ws H) (hD : va_D A ws) (hS : va_S A H0 H locs) (hA : ∀ q, H0.size ≤ q → A q) (hn : ¬ n < 0) (hN : n.toNatClampNeg = N') (hbytes : N' * 4 ≤ 536870912) (hcells : cells + 1 ≤ R.cells) (hslots : slots + N' ≤ R.slots) (hdg : decode cc pc = .ok (.anewarray index, 3))
    (kk : ∀ (q : Nat) (H1 : Heap), va_P D cl (ws ++ [(q, .inl (cQ, N', .inr (.inr (.inr (.inr (fun _ => none))))))]) H1 → va_D A (ws ++ [(q, .inl (cQ, N', .inr (.inr (.inr (.inr (fun _ => none))))))]) → va_S A H0 H1 locs → W p l e R s m args below meth c H1 locs (cells + 1) (slots + N') Q (F0 m (pc + 3) ls (.ref q :: rest))) : W p l e R s m args below meth c H locs cells slots Q (F0 m pc ls (.int n :: rest)) := by
  refine va_newq hexec hb hown hclink hover hK hP hD hS hA hn hN hbytes hcells hslots hdg (fun q cA H1 hK1 hP1 hD1 hS1 => ?_)
  have he : cA = cQ := va_K_sameO hK1 ht
  subst he
  exact kk q H1 hP1 hD1 hS1
end YR
abbrev cY : Type := va_G × (ClassId × ClassId × ClassId)
def yTys (d : cY) : List (ClassId × FieldType) := [(d.2.1, .int), (d.2.2.1, .object "CoalitionChecker$Formula"), (d.2.2.2, .object "CoalitionChecker$Structure")]
def yPre (d : cY) (sz : Nat) (ws : va_W) (U : State) : Prop := U.heap.size = sz ∧ va_P d.1 vwCl ws U.heap ∧ va_K d.1 vwCl (yTys d) U ∧ va_D (fun _ => True) ws ∧ va_AO RX0 U ∧ va_AO RX7 U
def yB (d : cY) (W0 : va_W) (sz : Nat) (W1 : (Nat → Nat) → va_W) (u : Nat → Nat) (t : State) : Prop := va_P d.1 vwCl (W1 u) t.heap ∧ va_K d.1 vwCl (yTys d) t ∧ va_D (va_A W0 sz) (W1 u)
/-- a constructor's end: no answer, the world W1 at new addresses u, and post u -/
def yQ (d : cY) (W0 : va_W) (sz : Nat) (W1 : (Nat → Nat) → va_W) : Array Value → State → Outcome → State → Prop := va_Qv (fun _ : Nat → Nat => True) (yB d W0 sz W1) (va_A W0 sz)
theorem yPre_blind {d : cY} {sz : Nat} {ws : va_W} {av : List Value} : FrameBlind (va_Pc av (yPre d sz ws)) := fun a U g mk h => ⟨h.1, h.2.1, h.2.2.1, va_K.moved (u := U) (U := U.calling g mk a) (Vm.Alike.refl U.vm) h.2.2.2.1, h.2.2.2.2.1, va_AO.moved (u := U) (U := U.calling g mk a) (Vm.Alike.refl U.vm) h.2.2.2.2.2.1, va_AO.moved (u := U) (U := U.calling g mk a) (Vm.Alike.refl U.vm) h.2.2.2.2.2.2⟩
def p3 (n : Int32) : Int32 := if n = 1 then 3 else if n = 2 then 9 else if n = 3 then 27 else 81

theorem ob_im : Cond.instanceMethod objectInit ∈ tG := t1_in (List.mem_of_getElem? (i := 20) rfl) rfl
theorem ob_co : Cond.code objectInit ⟨#[0xb1]⟩ 1 none ∈ tG := t1_in (List.mem_of_getElem? (i := 21) rfl) rfl
theorem ar_I : Cond.arrayClass .int ∈ tG := t1_in (List.mem_of_getElem? (i := 76) rfl) rfl
theorem ar_F : Cond.arrayOver (.object "CoalitionChecker$Formula") ∈ lw_tbl := tb_in (List.mem_append_left _ (List.mem_of_getElem? (l := tables_1_1) (i := 23) rfl))
theorem ar_S : Cond.arrayOver (.object "CoalitionChecker$Structure") ∈ lw_tbl := tb_in (List.mem_append_left _ (List.mem_of_getElem? (l := tables_1_1) (i := 84) rfl))
theorem bcX0_init : Cond.instanceMethod yX0_init ∈ tG ∧ Cond.initialized RX0 ∈ tG ∧ Cond.code yX0_init cX0_init 1 none ∈ tG := ⟨t1_in (List.mem_of_getElem? (i := 228) rfl) rfl, ki_X0, t1_in (List.mem_of_getElem? (i := 229) rfl) rfl⟩
theorem bnX0 : Cond.instantiable RX0 5 ∈ tG := t1_in (List.mem_of_getElem? (i := 226) rfl) rfl
theorem hdX0_init : yX0_init.cls ≠ "java/lang/invoke/MethodHandle" ∧ yX0_init.cls ≠ "java/lang/invoke/VarHandle" ∧ (parseMethodDescriptor yX0_init.desc).map (fun d => d.parameters.length) = some 0 := by decide +kernel
theorem bcX7_init : Cond.instanceMethod yX7_init ∈ tG ∧ Cond.initialized RX7 ∈ tG ∧ Cond.code yX7_init cX7_init 4 none ∈ tG := ⟨t1_in (List.mem_of_getElem? (i := 33) rfl) rfl, ki_X7, t1_in (List.mem_of_getElem? (i := 34) rfl) rfl⟩
theorem bnX7 : Cond.instantiable RX7 8 ∈ tG := t1_in (List.mem_of_getElem? (i := 31) rfl) rfl
theorem hdX7_init : yX7_init.cls ≠ "java/lang/invoke/MethodHandle" ∧ yX7_init.cls ≠ "java/lang/invoke/VarHandle" ∧ (parseMethodDescriptor yX7_init.desc).map (fun d => d.parameters.length) = some 1 := by decide +kernel
theorem bcX1_init : Cond.instanceMethod yX1_init ∈ tG ∧ Cond.initialized RX1 ∈ tG ∧ Cond.code yX1_init cX1_init 3 none ∈ tG := ⟨t1_in (List.mem_of_getElem? (i := 80) rfl) rfl, ki_X1, t1_in (List.mem_of_getElem? (i := 81) rfl) rfl⟩
theorem bnX1 : Cond.instantiable RX1 3 ∈ tG := t1_in (List.mem_of_getElem? (i := 78) rfl) rfl
theorem hdX1_init : yX1_init.cls ≠ "java/lang/invoke/MethodHandle" ∧ yX1_init.cls ≠ "java/lang/invoke/VarHandle" ∧ (parseMethodDescriptor yX1_init.desc).map (fun d => d.parameters.length) = some 1 := by decide +kernel
theorem bcX6_init : Cond.instanceMethod yX6_init ∈ tG ∧ Cond.initialized RX6 ∈ tG ∧ Cond.code yX6_init cX6_init 3 none ∈ tG := ⟨t1_in (List.mem_of_getElem? (i := 100) rfl) rfl, ki_X6, t1_in (List.mem_of_getElem? (i := 101) rfl) rfl⟩
theorem bnX6 : Cond.instantiable RX6 4 ∈ tG := t1_in (List.mem_of_getElem? (i := 98) rfl) rfl
theorem hdX6_init : yX6_init.cls ≠ "java/lang/invoke/MethodHandle" ∧ yX6_init.cls ≠ "java/lang/invoke/VarHandle" ∧ (parseMethodDescriptor yX6_init.desc).map (fun d => d.parameters.length) = some 1 := by decide +kernel
theorem bcX4_init : Cond.instanceMethod yX4_init ∈ tG ∧ Cond.initialized RX4 ∈ tG ∧ Cond.code yX4_init cX4_init 2 none ∈ tG := ⟨t1_in (List.mem_of_getElem? (i := 122) rfl) rfl, ki_X4, t1_in (List.mem_of_getElem? (i := 123) rfl) rfl⟩
theorem bnX4 : Cond.instantiable RX4 12 ∈ tG := t1_in (List.mem_of_getElem? (i := 120) rfl) rfl
theorem hdX4_init : yX4_init.cls ≠ "java/lang/invoke/MethodHandle" ∧ yX4_init.cls ≠ "java/lang/invoke/VarHandle" ∧ (parseMethodDescriptor yX4_init.desc).map (fun d => d.parameters.length) = some 1 := by decide +kernel
theorem bcX3_init : Cond.instanceMethod yX3_init ∈ tG ∧ Cond.initialized RX3 ∈ tG ∧ Cond.code yX3_init cX3_init 3 none ∈ tG := ⟨t1_in (List.mem_of_getElem? (i := 166) rfl) rfl, ki_X3, t1_in (List.mem_of_getElem? (i := 167) rfl) rfl⟩
theorem bnX3 : Cond.instantiable RX3 4 ∈ tG := t1_in (List.mem_of_getElem? (i := 164) rfl) rfl
theorem hdX3_init : yX3_init.cls ≠ "java/lang/invoke/MethodHandle" ∧ yX3_init.cls ≠ "java/lang/invoke/VarHandle" ∧ (parseMethodDescriptor yX3_init.desc).map (fun d => d.parameters.length) = some 2 := by decide +kernel
theorem bcX8_init : Cond.instanceMethod yX8_init ∈ tG ∧ Cond.initialized RX8 ∈ tG ∧ Cond.code yX8_init cX8_init 4 none ∈ tG := ⟨t1_in (List.mem_of_getElem? (i := 185) rfl) rfl, ki_X8, t1_in (List.mem_of_getElem? (i := 186) rfl) rfl⟩
theorem bnX8 : Cond.instantiable RX8 4 ∈ tG := t1_in (List.mem_of_getElem? (i := 183) rfl) rfl
theorem hdX8_init : yX8_init.cls ≠ "java/lang/invoke/MethodHandle" ∧ yX8_init.cls ≠ "java/lang/invoke/VarHandle" ∧ (parseMethodDescriptor yX8_init.desc).map (fun d => d.parameters.length) = some 3 := by decide +kernel
theorem bcX2_init : Cond.instanceMethod yX2_init ∈ tG ∧ Cond.initialized RX2 ∈ tG ∧ Cond.code yX2_init cX2_init 3 none ∈ tG := ⟨t1_in (List.mem_of_getElem? (i := 204) rfl) rfl, ki_X2, t1_in (List.mem_of_getElem? (i := 205) rfl) rfl⟩
theorem bnX2 : Cond.instantiable RX2 6 ∈ tG := t1_in (List.mem_of_getElem? (i := 202) rfl) rfl
theorem hdX2_init : yX2_init.cls ≠ "java/lang/invoke/MethodHandle" ∧ yX2_init.cls ≠ "java/lang/invoke/VarHandle" ∧ (parseMethodDescriptor yX2_init.desc).map (fun d => d.parameters.length) = some 2 := by decide +kernel
theorem bcX9_init : Cond.instanceMethod yX9_init ∈ tG ∧ Cond.initialized RX9 ∈ tG ∧ Cond.code yX9_init cX9_init 4 none ∈ tG := ⟨t1_in (List.mem_of_getElem? (i := 17) rfl) rfl, ki_X9, t1_in (List.mem_of_getElem? (i := 18) rfl) rfl⟩
theorem bnX9 : Cond.instantiable RX9 9 ∈ tG := t1_in (List.mem_of_getElem? (i := 15) rfl) rfl
theorem hdX9_init : yX9_init.cls ≠ "java/lang/invoke/MethodHandle" ∧ yX9_init.cls ≠ "java/lang/invoke/VarHandle" ∧ (parseMethodDescriptor yX9_init.desc).map (fun d => d.parameters.length) = some 1 := by decide +kernel
theorem kl_X1_9 : Cond.classLink RX1 9 RX7 ∈ tG := t1_in (List.mem_of_getElem? (i := 83) rfl) rfl
theorem kl_X9_9 : Cond.classLink RX9 9 RX0 ∈ tG := t1_in (List.mem_of_getElem? (i := 22) rfl) rfl
theorem kl_X9_28 : Cond.classLink RX9 28 RX7 ∈ tG := t1_in (List.mem_of_getElem? (i := 30) rfl) rfl
theorem kl_X9_37 : Cond.classLink RX9 37 RX1 ∈ tG := t1_in (List.mem_of_getElem? (i := 77) rfl) rfl
theorem kl_X9_44 : Cond.classLink RX9 44 RX6 ∈ tG := t1_in (List.mem_of_getElem? (i := 97) rfl) rfl
theorem kl_X9_53 : Cond.classLink RX9 53 RX4 ∈ tG := t1_in (List.mem_of_getElem? (i := 119) rfl) rfl
theorem kl_X9_60 : Cond.classLink RX9 60 RX3 ∈ tG := t1_in (List.mem_of_getElem? (i := 163) rfl) rfl
theorem kl_X9_69 : Cond.classLink RX9 69 RX8 ∈ tG := t1_in (List.mem_of_getElem? (i := 182) rfl) rfl
theorem kl_X9_78 : Cond.classLink RX9 78 RX2 ∈ tG := t1_in (List.mem_of_getElem? (i := 201) rfl) rfl
theorem kl_L_10 : Cond.classLink RL 10 RX9 ∈ tG := t1_in (List.mem_of_getElem? (i := 14) rfl) rfl
theorem ml_L_117 : Cond.methodLink RL 117 yX9_init ∈ tG := t1_in (List.mem_of_getElem? (i := 16) rfl) rfl
theorem mo_X0 : Cond.methodLink RX0 3 objectInit ∈ tG := t1_in (List.mem_of_getElem? (i := 230) rfl) rfl
theorem mo_X1 : Cond.methodLink RX1 3 objectInit ∈ tG := t1_in (List.mem_of_getElem? (i := 82) rfl) rfl
theorem ml_X1_24 : Cond.methodLink RX1 24 yX7_init ∈ tG := t1_in (List.mem_of_getElem? (i := 85) rfl) rfl
theorem mo_X2 : Cond.methodLink RX2 3 objectInit ∈ tG := t1_in (List.mem_of_getElem? (i := 206) rfl) rfl
theorem mo_X3 : Cond.methodLink RX3 3 objectInit ∈ tG := t1_in (List.mem_of_getElem? (i := 168) rfl) rfl
theorem mo_X4 : Cond.methodLink RX4 3 objectInit ∈ tG := t1_in (List.mem_of_getElem? (i := 124) rfl) rfl
theorem mo_X6 : Cond.methodLink RX6 3 objectInit ∈ tG := t1_in (List.mem_of_getElem? (i := 102) rfl) rfl
theorem mo_X7 : Cond.methodLink RX7 3 objectInit ∈ tG := t1_in (List.mem_of_getElem? (i := 35) rfl) rfl
theorem mo_X8 : Cond.methodLink RX8 3 objectInit ∈ tG := t1_in (List.mem_of_getElem? (i := 187) rfl) rfl
theorem mo_X9 : Cond.methodLink RX9 1 objectInit ∈ tG := t1_in (List.mem_of_getElem? (i := 19) rfl) rfl
theorem ml_X9_30 : Cond.methodLink RX9 30 yX7_init ∈ tG := t1_in (List.mem_of_getElem? (i := 32) rfl) rfl
theorem ml_X9_39 : Cond.methodLink RX9 39 yX1_init ∈ tG := t1_in (List.mem_of_getElem? (i := 79) rfl) rfl
theorem ml_X9_46 : Cond.methodLink RX9 46 yX6_init ∈ tG := t1_in (List.mem_of_getElem? (i := 99) rfl) rfl
theorem ml_X9_55 : Cond.methodLink RX9 55 yX4_init ∈ tG := t1_in (List.mem_of_getElem? (i := 121) rfl) rfl
theorem ml_X9_62 : Cond.methodLink RX9 62 yX3_init ∈ tG := t1_in (List.mem_of_getElem? (i := 165) rfl) rfl
theorem ml_X9_71 : Cond.methodLink RX9 71 yX8_init ∈ tG := t1_in (List.mem_of_getElem? (i := 184) rfl) rfl
theorem ml_X9_80 : Cond.methodLink RX9 80 yX2_init ∈ tG := t1_in (List.mem_of_getElem? (i := 203) rfl) rfl
def nAg (n : Int32) : Int32 := if 1 < (if n < 4 then n else 4) then (if n < 4 then n else 4) else 1
abbrev rmcX0 : Room := { frames := 1, cells := 4, slots := 240, locals := 20 }
set_option maxHeartbeats 8000000 in
set_option maxRecDepth 100000 in
theorem c_X0_init (l : Launch) (d : cY) (h0 sz : Nat) : Met l yX0_init (wT yX0_init cX0_init 1 none) rmcX0 (va_Pc [.ref h0] (yPre d sz [(h0, .inr (0, [.null, .null, .null, .null, .int 0]))])) (yQ d [(h0, .inr (0, [.null, .null, .null, .null, .int 0]))] sz (fun u => [(h0, .inr (0, [.ref (u 0), .ref (u 1), .ref (u 2), .ref (u 3), .int 0])), ((u 0), .inl (d.2.1, 60, .inl (fun _ => 0))), ((u 1), .inl (d.2.1, 60, .inl (fun _ => 0))), ((u 2), .inl (d.2.1, 60, .inl (fun _ => 0))), ((u 3), .inl (d.2.1, 60, .inl (fun _ => 0)))])) 4 240 (va_A [(h0, .inr (0, [.null, .null, .null, .null, .int 0]))] sz) := by
  refine Met.ofW (cc := cX0_init) (maxL := 1) (ret := none) plX0 rfl ?_
  intro p e s m args below meth c s₁ B hml hv
  obtain ⟨rfl, hsz, hP, hK, hD0, hOF, hOS⟩ := hv
  have hx := B.exec
  have hb := B.bytes
  have hr := B.returns
  have hts : ∀ w ∈ tG, w.before ([.ref h0] : List Value).toArray s = true := fun w hw => atoms_spec (ws := wT yX0_init cX0_init 1 none) B.pre w (List.mem_cons_of_mem _ hw)
  have hown : s.vm.findClass RX0 = some m.cls := findClass_of_methodNamed B.named
  have hlocks := B.notSynchronized
  have hin : meth.name = "<init>" := (name_of_methodNamed B.named B.method).1
  subst hsz
  have hD := hD0.self (sz := s.heap.size)
  generalize hAe : va_A [(h0, .inr (0, [.null, .null, .null, .null, .int 0]))] s.heap.size = A at hD ⊢
  have hA : ∀ q : Nat, s.heap.size ≤ q → A q := fun q h => by rw [← hAe]; exact Or.inr h
  have hS : va_S A s.heap s.heap [] := va_S.rf
  have hP : va_P d.1 vwCl [(h0, .inr (0, [.null, .null, .null, .null, .int 0]))] s.heap := hP
  have hl := lv_entry ([.ref h0]) (n := 1) (Nat.le_of_ble_eq_true rfl)
  rw [lg_entry_eq]
  generalize (lg_sl ([.ref h0]) ++ List.replicate (1 - (lg_sl ([.ref h0])).length) Slot.unset).toArray = ls at hl ⊢
  have hl : lv_has ls 1 [(0, .ref h0)] := hl
  refine lv_aload_n hx hb dX0_init_0 rfl (lv_at hl 0 rfl) ?_
  refine W.objInit hx hb hown (hts _ mo_X0) (hts _ ob_im) (hts _ ob_co) rfl (by rw [hml]; exact hl.1) rfl dX0_init_1 (Nat.le_of_ble_eq_true rfl) (Nat.le_of_ble_eq_true rfl) ?_
  refine W.eq (g2 := F0 m 4 ls []) rfl ?_
  refine lv_aload_n hx hb dX0_init_4 rfl (lv_at hl 0 rfl) ?_
  refine lv_bipush (v := 60) hx hb dX0_init_5 (by decide) ?_
  refine y_newa (R := rmcX0) 60 hx hb (hts _ ar_I) hK rfl hP hD hS hA (by decide) (by decide) (Nat.le_of_ble_eq_true rfl) (Nat.le_of_ble_eq_true rfl) (Nat.le_of_ble_eq_true rfl) dX0_init_7 (fun q1 H hP hD hS => ?_)
  have hP : va_P d.1 vwCl [(h0, .inr (0, [.null, .null, .null, .null, .int 0])), (q1, .inl (d.2.1, 60, .inl (fun _ => 0)))] H := hP
  have hD : va_D A [(h0, .inr (0, [.null, .null, .null, .null, .int 0])), (q1, .inl (d.2.1, 60, .inl (fun _ => 0)))] := hD
  refine W.widen (k := 1) (n := 60) (Nat.le_of_ble_eq_true rfl) (Nat.le_of_ble_eq_true rfl) ?_
  refine va_putF (D := d.1) (ci := 0) (v := .ref q1) (ty := tyX0 0) (C := RX0) (T := TX0) (N := 5) hx hb hts nn_X0 tyX0 tyX0_ok nmX0 hown hK hP hD hS 0 rfl rfl 0 (by decide) (hts _ kf_X0_9) (fun _ h9 => h9) rfl hin rfl (by decide +kernel) rfl rfl (Nat.le_of_ble_eq_true rfl) dX0_init_9 (fun H locs hP hD hS => ?_)
  have hP : va_P d.1 vwCl [(h0, .inr (0, [.ref q1, .null, .null, .null, .int 0])), (q1, .inl (d.2.1, 60, .inl (fun _ => 0)))] H := hP
  have hD : va_D A [(h0, .inr (0, [.ref q1, .null, .null, .null, .int 0])), (q1, .inl (d.2.1, 60, .inl (fun _ => 0)))] := hD
  refine lv_aload_n hx hb dX0_init_12 rfl (lv_at hl 0 rfl) ?_
  refine lv_bipush (v := 60) hx hb dX0_init_13 (by decide) ?_
  refine y_newa (R := rmcX0) 60 hx hb (hts _ ar_I) hK rfl hP hD hS hA (by decide) (by decide) (Nat.le_of_ble_eq_true rfl) (Nat.le_of_ble_eq_true rfl) (Nat.le_of_ble_eq_true rfl) dX0_init_15 (fun q2 H hP hD hS => ?_)
  have hP : va_P d.1 vwCl [(h0, .inr (0, [.ref q1, .null, .null, .null, .int 0])), (q1, .inl (d.2.1, 60, .inl (fun _ => 0))), (q2, .inl (d.2.1, 60, .inl (fun _ => 0)))] H := hP
  have hD : va_D A [(h0, .inr (0, [.ref q1, .null, .null, .null, .int 0])), (q1, .inl (d.2.1, 60, .inl (fun _ => 0))), (q2, .inl (d.2.1, 60, .inl (fun _ => 0)))] := hD
  refine W.widen (k := 2) (n := 120) (Nat.le_of_ble_eq_true rfl) (Nat.le_of_ble_eq_true rfl) ?_
  refine va_putF (D := d.1) (ci := 0) (v := .ref q2) (ty := tyX0 1) (C := RX0) (T := TX0) (N := 5) hx hb hts nn_X0 tyX0 tyX0_ok nmX0 hown hK hP hD hS 0 rfl rfl 1 (by decide) (hts _ kf_X0_15) (fun _ h9 => h9) rfl hin rfl (by decide +kernel) rfl rfl (Nat.le_of_ble_eq_true rfl) dX0_init_17 (fun H locs hP hD hS => ?_)
  have hP : va_P d.1 vwCl [(h0, .inr (0, [.ref q1, .ref q2, .null, .null, .int 0])), (q1, .inl (d.2.1, 60, .inl (fun _ => 0))), (q2, .inl (d.2.1, 60, .inl (fun _ => 0)))] H := hP
  have hD : va_D A [(h0, .inr (0, [.ref q1, .ref q2, .null, .null, .int 0])), (q1, .inl (d.2.1, 60, .inl (fun _ => 0))), (q2, .inl (d.2.1, 60, .inl (fun _ => 0)))] := hD
  refine lv_aload_n hx hb dX0_init_20 rfl (lv_at hl 0 rfl) ?_
  refine lv_bipush (v := 60) hx hb dX0_init_21 (by decide) ?_
  refine y_newa (R := rmcX0) 60 hx hb (hts _ ar_I) hK rfl hP hD hS hA (by decide) (by decide) (Nat.le_of_ble_eq_true rfl) (Nat.le_of_ble_eq_true rfl) (Nat.le_of_ble_eq_true rfl) dX0_init_23 (fun q3 H hP hD hS => ?_)
  have hP : va_P d.1 vwCl [(h0, .inr (0, [.ref q1, .ref q2, .null, .null, .int 0])), (q1, .inl (d.2.1, 60, .inl (fun _ => 0))), (q2, .inl (d.2.1, 60, .inl (fun _ => 0))), (q3, .inl (d.2.1, 60, .inl (fun _ => 0)))] H := hP
  have hD : va_D A [(h0, .inr (0, [.ref q1, .ref q2, .null, .null, .int 0])), (q1, .inl (d.2.1, 60, .inl (fun _ => 0))), (q2, .inl (d.2.1, 60, .inl (fun _ => 0))), (q3, .inl (d.2.1, 60, .inl (fun _ => 0)))] := hD
  refine W.widen (k := 3) (n := 180) (Nat.le_of_ble_eq_true rfl) (Nat.le_of_ble_eq_true rfl) ?_
  refine va_putF (D := d.1) (ci := 0) (v := .ref q3) (ty := tyX0 2) (C := RX0) (T := TX0) (N := 5) hx hb hts nn_X0 tyX0 tyX0_ok nmX0 hown hK hP hD hS 0 rfl rfl 2 (by decide) (hts _ kf_X0_18) (fun _ h9 => h9) rfl hin rfl (by decide +kernel) rfl rfl (Nat.le_of_ble_eq_true rfl) dX0_init_25 (fun H locs hP hD hS => ?_)
  have hP : va_P d.1 vwCl [(h0, .inr (0, [.ref q1, .ref q2, .ref q3, .null, .int 0])), (q1, .inl (d.2.1, 60, .inl (fun _ => 0))), (q2, .inl (d.2.1, 60, .inl (fun _ => 0))), (q3, .inl (d.2.1, 60, .inl (fun _ => 0)))] H := hP
  have hD : va_D A [(h0, .inr (0, [.ref q1, .ref q2, .ref q3, .null, .int 0])), (q1, .inl (d.2.1, 60, .inl (fun _ => 0))), (q2, .inl (d.2.1, 60, .inl (fun _ => 0))), (q3, .inl (d.2.1, 60, .inl (fun _ => 0)))] := hD
  refine lv_aload_n hx hb dX0_init_28 rfl (lv_at hl 0 rfl) ?_
  refine lv_bipush (v := 60) hx hb dX0_init_29 (by decide) ?_
  refine y_newa (R := rmcX0) 60 hx hb (hts _ ar_I) hK rfl hP hD hS hA (by decide) (by decide) (Nat.le_of_ble_eq_true rfl) (Nat.le_of_ble_eq_true rfl) (Nat.le_of_ble_eq_true rfl) dX0_init_31 (fun q4 H hP hD hS => ?_)
  have hP : va_P d.1 vwCl [(h0, .inr (0, [.ref q1, .ref q2, .ref q3, .null, .int 0])), (q1, .inl (d.2.1, 60, .inl (fun _ => 0))), (q2, .inl (d.2.1, 60, .inl (fun _ => 0))), (q3, .inl (d.2.1, 60, .inl (fun _ => 0))), (q4, .inl (d.2.1, 60, .inl (fun _ => 0)))] H := hP
  have hD : va_D A [(h0, .inr (0, [.ref q1, .ref q2, .ref q3, .null, .int 0])), (q1, .inl (d.2.1, 60, .inl (fun _ => 0))), (q2, .inl (d.2.1, 60, .inl (fun _ => 0))), (q3, .inl (d.2.1, 60, .inl (fun _ => 0))), (q4, .inl (d.2.1, 60, .inl (fun _ => 0)))] := hD
  refine W.widen (k := 4) (n := 240) (Nat.le_of_ble_eq_true rfl) (Nat.le_of_ble_eq_true rfl) ?_
  refine va_putF (D := d.1) (ci := 0) (v := .ref q4) (ty := tyX0 3) (C := RX0) (T := TX0) (N := 5) hx hb hts nn_X0 tyX0 tyX0_ok nmX0 hown hK hP hD hS 0 rfl rfl 3 (by decide) (hts _ kf_X0_21) (fun _ h9 => h9) rfl hin rfl (by decide +kernel) rfl rfl (Nat.le_of_ble_eq_true rfl) dX0_init_33 (fun H locs hP hD hS => ?_)
  have hP : va_P d.1 vwCl [(h0, .inr (0, [.ref q1, .ref q2, .ref q3, .ref q4, .int 0])), (q1, .inl (d.2.1, 60, .inl (fun _ => 0))), (q2, .inl (d.2.1, 60, .inl (fun _ => 0))), (q3, .inl (d.2.1, 60, .inl (fun _ => 0))), (q4, .inl (d.2.1, 60, .inl (fun _ => 0)))] H := hP
  have hD : va_D A [(h0, .inr (0, [.ref q1, .ref q2, .ref q3, .ref q4, .int 0])), (q1, .inl (d.2.1, 60, .inl (fun _ => 0))), (q2, .inl (d.2.1, 60, .inl (fun _ => 0))), (q3, .inl (d.2.1, 60, .inl (fun _ => 0))), (q4, .inl (d.2.1, 60, .inl (fun _ => 0)))] := hD
  refine lv_aload_n hx hb dX0_init_36 rfl (lv_at hl 0 rfl) ?_
  refine lv_iconst (v := 0) hx hb dX0_init_37 (by decide) ?_
  refine va_put (D := d.1) (ci := 0) (v := .int 0) (ty := tyX0 4) (C := RX0) (T := TX0) (N := 5) hx hb hts nn_X0 tyX0 tyX0_ok nmX0 hown hK hP hD hS 0 rfl rfl 4 (by decide) (hts _ kf_X0_24) (fun _ h9 => h9) rfl (by decide +kernel) rfl rfl (Nat.le_of_ble_eq_true rfl) dX0_init_38 (fun H locs hP hD hS => ?_)
  have hP : va_P d.1 vwCl [(h0, .inr (0, [.ref q1, .ref q2, .ref q3, .ref q4, .int 0])), (q1, .inl (d.2.1, 60, .inl (fun _ => 0))), (q2, .inl (d.2.1, 60, .inl (fun _ => 0))), (q3, .inl (d.2.1, 60, .inl (fun _ => 0))), (q4, .inl (d.2.1, 60, .inl (fun _ => 0)))] H := hP
  have hD : va_D A [(h0, .inr (0, [.ref q1, .ref q2, .ref q3, .ref q4, .int 0])), (q1, .inl (d.2.1, 60, .inl (fun _ => 0))), (q2, .inl (d.2.1, 60, .inl (fun _ => 0))), (q3, .inl (d.2.1, 60, .inl (fun _ => 0))), (q4, .inl (d.2.1, 60, .inl (fun _ => 0)))] := hD
  have hP9 := hP.sub (ws' := [(h0, .inr (0, [.ref q1, .ref q2, .ref q3, .ref q4, .int 0])), (q1, .inl (d.2.1, 60, .inl (fun _ => 0))), (q2, .inl (d.2.1, 60, .inl (fun _ => 0))), (q3, .inl (d.2.1, 60, .inl (fun _ => 0))), (q4, .inl (d.2.1, 60, .inl (fun _ => 0)))]) [0, 1, 2, 3, 4] rfl
  have hD9 := hD.sub (ws' := [(h0, .inr (0, [.ref q1, .ref q2, .ref q3, .ref q4, .int 0])), (q1, .inl (d.2.1, 60, .inl (fun _ => 0))), (q2, .inl (d.2.1, 60, .inl (fun _ => 0))), (q3, .inl (d.2.1, 60, .inl (fun _ => 0))), (q4, .inl (d.2.1, 60, .inl (fun _ => 0)))]) [0, 1, 2, 3, 4] (by decide) rfl
  exact W.vret hx hb hr (fun t ht hW => ⟨⟨(fun i : Nat => if i = 0 then q1 else if i = 1 then q2 else if i = 2 then q3 else if i = 3 then q4 else 0), rfl, trivial, by rw [ht]; exact hP9, va_K.moved hW.alike hK, by rw [hAe]; exact hD9⟩, by rw [hAe]; exact hS.F ht⟩) hS.2.2 dX0_init_41
abbrev rmcX4 : Room := { frames := 1, cells := 4, slots := 240, locals := 20 }
set_option maxHeartbeats 8000000 in
set_option maxRecDepth 100000 in
theorem c_X4_init (l : Launch) (d : cY) (h0 sz : Nat) (n : Int32) : Met l yX4_init (wT yX4_init cX4_init 2 none) rmcX4 (va_Pc [.ref h0, .int n] (yPre d sz [(h0, .inr (4, [.int 0, .null, .null, .null, .null, .int 0, .int 0, .int 0, .int 0, .int 0, .int 0, .null]))])) (yQ d [(h0, .inr (4, [.int 0, .null, .null, .null, .null, .int 0, .int 0, .int 0, .int 0, .int 0, .int 0, .null]))] sz (fun u => [(h0, .inr (4, [.int n, .ref (u 0), .ref (u 1), .ref (u 2), .ref (u 3), .int 0, .int 0, .int 0, .int 0, .int 0, .int 0, .null])), ((u 0), .inl (d.2.1, 60, .inl (fun _ => 0))), ((u 1), .inl (d.2.1, 60, .inl (fun _ => 0))), ((u 2), .inl (d.2.1, 60, .inl (fun _ => 0))), ((u 3), .inl (d.2.1, 60, .inl (fun _ => 0)))])) 4 240 (va_A [(h0, .inr (4, [.int 0, .null, .null, .null, .null, .int 0, .int 0, .int 0, .int 0, .int 0, .int 0, .null]))] sz) := by
  refine Met.ofW (cc := cX4_init) (maxL := 2) (ret := none) plX4 rfl ?_
  intro p e s m args below meth c s₁ B hml hv
  obtain ⟨rfl, hsz, hP, hK, hD0, hOF, hOS⟩ := hv
  have hx := B.exec
  have hb := B.bytes
  have hr := B.returns
  have hts : ∀ w ∈ tG, w.before ([.ref h0, .int n] : List Value).toArray s = true := fun w hw => atoms_spec (ws := wT yX4_init cX4_init 2 none) B.pre w (List.mem_cons_of_mem _ hw)
  have hown : s.vm.findClass RX4 = some m.cls := findClass_of_methodNamed B.named
  have hlocks := B.notSynchronized
  have hin : meth.name = "<init>" := (name_of_methodNamed B.named B.method).1
  subst hsz
  have hD := hD0.self (sz := s.heap.size)
  generalize hAe : va_A [(h0, .inr (4, [.int 0, .null, .null, .null, .null, .int 0, .int 0, .int 0, .int 0, .int 0, .int 0, .null]))] s.heap.size = A at hD ⊢
  have hA : ∀ q : Nat, s.heap.size ≤ q → A q := fun q h => by rw [← hAe]; exact Or.inr h
  have hS : va_S A s.heap s.heap [] := va_S.rf
  have hP : va_P d.1 vwCl [(h0, .inr (4, [.int 0, .null, .null, .null, .null, .int 0, .int 0, .int 0, .int 0, .int 0, .int 0, .null]))] s.heap := hP
  have hl := lv_entry ([.ref h0, .int n]) (n := 2) (Nat.le_of_ble_eq_true rfl)
  rw [lg_entry_eq]
  generalize (lg_sl ([.ref h0, .int n]) ++ List.replicate (2 - (lg_sl ([.ref h0, .int n])).length) Slot.unset).toArray = ls at hl ⊢
  have hl : lv_has ls 2 [(0, .ref h0), (1, .int n)] := hl
  refine lv_aload_n hx hb dX4_init_0 rfl (lv_at hl 0 rfl) ?_
  refine W.objInit hx hb hown (hts _ mo_X4) (hts _ ob_im) (hts _ ob_co) rfl (by rw [hml]; exact hl.1) rfl dX4_init_1 (Nat.le_of_ble_eq_true rfl) (Nat.le_of_ble_eq_true rfl) ?_
  refine W.eq (g2 := F0 m 4 ls []) rfl ?_
  refine lv_aload_n hx hb dX4_init_4 rfl (lv_at hl 0 rfl) ?_
  refine lv_bipush (v := 60) hx hb dX4_init_5 (by decide) ?_
  refine y_newa (R := rmcX4) 60 hx hb (hts _ ar_I) hK rfl hP hD hS hA (by decide) (by decide) (Nat.le_of_ble_eq_true rfl) (Nat.le_of_ble_eq_true rfl) (Nat.le_of_ble_eq_true rfl) dX4_init_7 (fun q1 H hP hD hS => ?_)
  have hP : va_P d.1 vwCl [(h0, .inr (4, [.int 0, .null, .null, .null, .null, .int 0, .int 0, .int 0, .int 0, .int 0, .int 0, .null])), (q1, .inl (d.2.1, 60, .inl (fun _ => 0)))] H := hP
  have hD : va_D A [(h0, .inr (4, [.int 0, .null, .null, .null, .null, .int 0, .int 0, .int 0, .int 0, .int 0, .int 0, .null])), (q1, .inl (d.2.1, 60, .inl (fun _ => 0)))] := hD
  refine W.widen (k := 1) (n := 60) (Nat.le_of_ble_eq_true rfl) (Nat.le_of_ble_eq_true rfl) ?_
  refine va_putF (D := d.1) (ci := 4) (v := .ref q1) (ty := tyX4 1) (C := RX4) (T := TX4) (N := 12) hx hb hts nn_X4 tyX4 tyX4_ok nmX4 hown hK hP hD hS 0 rfl rfl 1 (by decide) (hts _ kf_X4_9) (fun _ h9 => h9) rfl hin rfl (by decide +kernel) rfl rfl (Nat.le_of_ble_eq_true rfl) dX4_init_9 (fun H locs hP hD hS => ?_)
  have hP : va_P d.1 vwCl [(h0, .inr (4, [.int 0, .ref q1, .null, .null, .null, .int 0, .int 0, .int 0, .int 0, .int 0, .int 0, .null])), (q1, .inl (d.2.1, 60, .inl (fun _ => 0)))] H := hP
  have hD : va_D A [(h0, .inr (4, [.int 0, .ref q1, .null, .null, .null, .int 0, .int 0, .int 0, .int 0, .int 0, .int 0, .null])), (q1, .inl (d.2.1, 60, .inl (fun _ => 0)))] := hD
  refine lv_aload_n hx hb dX4_init_12 rfl (lv_at hl 0 rfl) ?_
  refine lv_bipush (v := 60) hx hb dX4_init_13 (by decide) ?_
  refine y_newa (R := rmcX4) 60 hx hb (hts _ ar_I) hK rfl hP hD hS hA (by decide) (by decide) (Nat.le_of_ble_eq_true rfl) (Nat.le_of_ble_eq_true rfl) (Nat.le_of_ble_eq_true rfl) dX4_init_15 (fun q2 H hP hD hS => ?_)
  have hP : va_P d.1 vwCl [(h0, .inr (4, [.int 0, .ref q1, .null, .null, .null, .int 0, .int 0, .int 0, .int 0, .int 0, .int 0, .null])), (q1, .inl (d.2.1, 60, .inl (fun _ => 0))), (q2, .inl (d.2.1, 60, .inl (fun _ => 0)))] H := hP
  have hD : va_D A [(h0, .inr (4, [.int 0, .ref q1, .null, .null, .null, .int 0, .int 0, .int 0, .int 0, .int 0, .int 0, .null])), (q1, .inl (d.2.1, 60, .inl (fun _ => 0))), (q2, .inl (d.2.1, 60, .inl (fun _ => 0)))] := hD
  refine W.widen (k := 2) (n := 120) (Nat.le_of_ble_eq_true rfl) (Nat.le_of_ble_eq_true rfl) ?_
  refine va_putF (D := d.1) (ci := 4) (v := .ref q2) (ty := tyX4 2) (C := RX4) (T := TX4) (N := 12) hx hb hts nn_X4 tyX4 tyX4_ok nmX4 hown hK hP hD hS 0 rfl rfl 2 (by decide) (hts _ kf_X4_15) (fun _ h9 => h9) rfl hin rfl (by decide +kernel) rfl rfl (Nat.le_of_ble_eq_true rfl) dX4_init_17 (fun H locs hP hD hS => ?_)
  have hP : va_P d.1 vwCl [(h0, .inr (4, [.int 0, .ref q1, .ref q2, .null, .null, .int 0, .int 0, .int 0, .int 0, .int 0, .int 0, .null])), (q1, .inl (d.2.1, 60, .inl (fun _ => 0))), (q2, .inl (d.2.1, 60, .inl (fun _ => 0)))] H := hP
  have hD : va_D A [(h0, .inr (4, [.int 0, .ref q1, .ref q2, .null, .null, .int 0, .int 0, .int 0, .int 0, .int 0, .int 0, .null])), (q1, .inl (d.2.1, 60, .inl (fun _ => 0))), (q2, .inl (d.2.1, 60, .inl (fun _ => 0)))] := hD
  refine lv_aload_n hx hb dX4_init_20 rfl (lv_at hl 0 rfl) ?_
  refine lv_bipush (v := 60) hx hb dX4_init_21 (by decide) ?_
  refine y_newa (R := rmcX4) 60 hx hb (hts _ ar_I) hK rfl hP hD hS hA (by decide) (by decide) (Nat.le_of_ble_eq_true rfl) (Nat.le_of_ble_eq_true rfl) (Nat.le_of_ble_eq_true rfl) dX4_init_23 (fun q3 H hP hD hS => ?_)
  have hP : va_P d.1 vwCl [(h0, .inr (4, [.int 0, .ref q1, .ref q2, .null, .null, .int 0, .int 0, .int 0, .int 0, .int 0, .int 0, .null])), (q1, .inl (d.2.1, 60, .inl (fun _ => 0))), (q2, .inl (d.2.1, 60, .inl (fun _ => 0))), (q3, .inl (d.2.1, 60, .inl (fun _ => 0)))] H := hP
  have hD : va_D A [(h0, .inr (4, [.int 0, .ref q1, .ref q2, .null, .null, .int 0, .int 0, .int 0, .int 0, .int 0, .int 0, .null])), (q1, .inl (d.2.1, 60, .inl (fun _ => 0))), (q2, .inl (d.2.1, 60, .inl (fun _ => 0))), (q3, .inl (d.2.1, 60, .inl (fun _ => 0)))] := hD
  refine W.widen (k := 3) (n := 180) (Nat.le_of_ble_eq_true rfl) (Nat.le_of_ble_eq_true rfl) ?_
  refine va_putF (D := d.1) (ci := 4) (v := .ref q3) (ty := tyX4 3) (C := RX4) (T := TX4) (N := 12) hx hb hts nn_X4 tyX4 tyX4_ok nmX4 hown hK hP hD hS 0 rfl rfl 3 (by decide) (hts _ kf_X4_18) (fun _ h9 => h9) rfl hin rfl (by decide +kernel) rfl rfl (Nat.le_of_ble_eq_true rfl) dX4_init_25 (fun H locs hP hD hS => ?_)
  have hP : va_P d.1 vwCl [(h0, .inr (4, [.int 0, .ref q1, .ref q2, .ref q3, .null, .int 0, .int 0, .int 0, .int 0, .int 0, .int 0, .null])), (q1, .inl (d.2.1, 60, .inl (fun _ => 0))), (q2, .inl (d.2.1, 60, .inl (fun _ => 0))), (q3, .inl (d.2.1, 60, .inl (fun _ => 0)))] H := hP
  have hD : va_D A [(h0, .inr (4, [.int 0, .ref q1, .ref q2, .ref q3, .null, .int 0, .int 0, .int 0, .int 0, .int 0, .int 0, .null])), (q1, .inl (d.2.1, 60, .inl (fun _ => 0))), (q2, .inl (d.2.1, 60, .inl (fun _ => 0))), (q3, .inl (d.2.1, 60, .inl (fun _ => 0)))] := hD
  refine lv_aload_n hx hb dX4_init_28 rfl (lv_at hl 0 rfl) ?_
  refine lv_bipush (v := 60) hx hb dX4_init_29 (by decide) ?_
  refine y_newa (R := rmcX4) 60 hx hb (hts _ ar_I) hK rfl hP hD hS hA (by decide) (by decide) (Nat.le_of_ble_eq_true rfl) (Nat.le_of_ble_eq_true rfl) (Nat.le_of_ble_eq_true rfl) dX4_init_31 (fun q4 H hP hD hS => ?_)
  have hP : va_P d.1 vwCl [(h0, .inr (4, [.int 0, .ref q1, .ref q2, .ref q3, .null, .int 0, .int 0, .int 0, .int 0, .int 0, .int 0, .null])), (q1, .inl (d.2.1, 60, .inl (fun _ => 0))), (q2, .inl (d.2.1, 60, .inl (fun _ => 0))), (q3, .inl (d.2.1, 60, .inl (fun _ => 0))), (q4, .inl (d.2.1, 60, .inl (fun _ => 0)))] H := hP
  have hD : va_D A [(h0, .inr (4, [.int 0, .ref q1, .ref q2, .ref q3, .null, .int 0, .int 0, .int 0, .int 0, .int 0, .int 0, .null])), (q1, .inl (d.2.1, 60, .inl (fun _ => 0))), (q2, .inl (d.2.1, 60, .inl (fun _ => 0))), (q3, .inl (d.2.1, 60, .inl (fun _ => 0))), (q4, .inl (d.2.1, 60, .inl (fun _ => 0)))] := hD
  refine W.widen (k := 4) (n := 240) (Nat.le_of_ble_eq_true rfl) (Nat.le_of_ble_eq_true rfl) ?_
  refine va_putF (D := d.1) (ci := 4) (v := .ref q4) (ty := tyX4 4) (C := RX4) (T := TX4) (N := 12) hx hb hts nn_X4 tyX4 tyX4_ok nmX4 hown hK hP hD hS 0 rfl rfl 4 (by decide) (hts _ kf_X4_21) (fun _ h9 => h9) rfl hin rfl (by decide +kernel) rfl rfl (Nat.le_of_ble_eq_true rfl) dX4_init_33 (fun H locs hP hD hS => ?_)
  have hP : va_P d.1 vwCl [(h0, .inr (4, [.int 0, .ref q1, .ref q2, .ref q3, .ref q4, .int 0, .int 0, .int 0, .int 0, .int 0, .int 0, .null])), (q1, .inl (d.2.1, 60, .inl (fun _ => 0))), (q2, .inl (d.2.1, 60, .inl (fun _ => 0))), (q3, .inl (d.2.1, 60, .inl (fun _ => 0))), (q4, .inl (d.2.1, 60, .inl (fun _ => 0)))] H := hP
  have hD : va_D A [(h0, .inr (4, [.int 0, .ref q1, .ref q2, .ref q3, .ref q4, .int 0, .int 0, .int 0, .int 0, .int 0, .int 0, .null])), (q1, .inl (d.2.1, 60, .inl (fun _ => 0))), (q2, .inl (d.2.1, 60, .inl (fun _ => 0))), (q3, .inl (d.2.1, 60, .inl (fun _ => 0))), (q4, .inl (d.2.1, 60, .inl (fun _ => 0)))] := hD
  refine lv_aload_n hx hb dX4_init_36 rfl (lv_at hl 0 rfl) ?_
  refine lv_iconst (v := 0) hx hb dX4_init_37 (by decide) ?_
  refine va_put (D := d.1) (ci := 4) (v := .int 0) (ty := tyX4 5) (C := RX4) (T := TX4) (N := 12) hx hb hts nn_X4 tyX4 tyX4_ok nmX4 hown hK hP hD hS 0 rfl rfl 5 (by decide) (hts _ kf_X4_24) (fun _ h9 => h9) rfl (by decide +kernel) rfl rfl (Nat.le_of_ble_eq_true rfl) dX4_init_38 (fun H locs hP hD hS => ?_)
  have hP : va_P d.1 vwCl [(h0, .inr (4, [.int 0, .ref q1, .ref q2, .ref q3, .ref q4, .int 0, .int 0, .int 0, .int 0, .int 0, .int 0, .null])), (q1, .inl (d.2.1, 60, .inl (fun _ => 0))), (q2, .inl (d.2.1, 60, .inl (fun _ => 0))), (q3, .inl (d.2.1, 60, .inl (fun _ => 0))), (q4, .inl (d.2.1, 60, .inl (fun _ => 0)))] H := hP
  have hD : va_D A [(h0, .inr (4, [.int 0, .ref q1, .ref q2, .ref q3, .ref q4, .int 0, .int 0, .int 0, .int 0, .int 0, .int 0, .null])), (q1, .inl (d.2.1, 60, .inl (fun _ => 0))), (q2, .inl (d.2.1, 60, .inl (fun _ => 0))), (q3, .inl (d.2.1, 60, .inl (fun _ => 0))), (q4, .inl (d.2.1, 60, .inl (fun _ => 0)))] := hD
  refine lv_aload_n hx hb dX4_init_41 rfl (lv_at hl 0 rfl) ?_
  refine lv_iload_n hx hb dX4_init_42 rfl (lv_at hl 1 rfl) ?_
  refine va_putF (D := d.1) (ci := 4) (v := .int n) (ty := tyX4 0) (C := RX4) (T := TX4) (N := 12) hx hb hts nn_X4 tyX4 tyX4_ok nmX4 hown hK hP hD hS 0 rfl rfl 0 (by decide) (hts _ kf_X4_28) (fun _ h9 => h9) rfl hin rfl (by decide +kernel) rfl rfl (Nat.le_of_ble_eq_true rfl) dX4_init_43 (fun H locs hP hD hS => ?_)
  have hP : va_P d.1 vwCl [(h0, .inr (4, [.int n, .ref q1, .ref q2, .ref q3, .ref q4, .int 0, .int 0, .int 0, .int 0, .int 0, .int 0, .null])), (q1, .inl (d.2.1, 60, .inl (fun _ => 0))), (q2, .inl (d.2.1, 60, .inl (fun _ => 0))), (q3, .inl (d.2.1, 60, .inl (fun _ => 0))), (q4, .inl (d.2.1, 60, .inl (fun _ => 0)))] H := hP
  have hD : va_D A [(h0, .inr (4, [.int n, .ref q1, .ref q2, .ref q3, .ref q4, .int 0, .int 0, .int 0, .int 0, .int 0, .int 0, .null])), (q1, .inl (d.2.1, 60, .inl (fun _ => 0))), (q2, .inl (d.2.1, 60, .inl (fun _ => 0))), (q3, .inl (d.2.1, 60, .inl (fun _ => 0))), (q4, .inl (d.2.1, 60, .inl (fun _ => 0)))] := hD
  have hP9 := hP.sub (ws' := [(h0, .inr (4, [.int n, .ref q1, .ref q2, .ref q3, .ref q4, .int 0, .int 0, .int 0, .int 0, .int 0, .int 0, .null])), (q1, .inl (d.2.1, 60, .inl (fun _ => 0))), (q2, .inl (d.2.1, 60, .inl (fun _ => 0))), (q3, .inl (d.2.1, 60, .inl (fun _ => 0))), (q4, .inl (d.2.1, 60, .inl (fun _ => 0)))]) [0, 1, 2, 3, 4] rfl
  have hD9 := hD.sub (ws' := [(h0, .inr (4, [.int n, .ref q1, .ref q2, .ref q3, .ref q4, .int 0, .int 0, .int 0, .int 0, .int 0, .int 0, .null])), (q1, .inl (d.2.1, 60, .inl (fun _ => 0))), (q2, .inl (d.2.1, 60, .inl (fun _ => 0))), (q3, .inl (d.2.1, 60, .inl (fun _ => 0))), (q4, .inl (d.2.1, 60, .inl (fun _ => 0)))]) [0, 1, 2, 3, 4] (by decide) rfl
  exact W.vret hx hb hr (fun t ht hW => ⟨⟨(fun i : Nat => if i = 0 then q1 else if i = 1 then q2 else if i = 2 then q3 else if i = 3 then q4 else 0), rfl, trivial, by rw [ht]; exact hP9, va_K.moved hW.alike hK, by rw [hAe]; exact hD9⟩, by rw [hAe]; exact hS.F ht⟩) hS.2.2 dX4_init_46
abbrev rmcX3 : Room := { frames := 1, cells := 2, slots := 72, locals := 20 }
set_option maxHeartbeats 8000000 in
set_option maxRecDepth 100000 in
theorem c_X3_init (l : Launch) (d : cY) (h0 sz : Nat) (st : Nat) (sp : Nat) : Met l yX3_init (wT yX3_init cX3_init 3 none) rmcX3 (va_Pc [.ref h0, .ref st, .ref sp] (yPre d sz [(h0, .inr (3, [.null, .null, .null, .null]))])) (yQ d [(h0, .inr (3, [.null, .null, .null, .null]))] sz (fun u => [(h0, .inr (3, [.ref st, .ref sp, .ref (u 0), .ref (u 1)])), ((u 0), .inl (d.2.1, 60, .inl (fun _ => 0))), ((u 1), .inl (d.2.1, 12, .inl (fun _ => 0)))])) 2 72 (va_A [(h0, .inr (3, [.null, .null, .null, .null]))] sz) := by
  refine Met.ofW (cc := cX3_init) (maxL := 3) (ret := none) plX3 rfl ?_
  intro p e s m args below meth c s₁ B hml hv
  obtain ⟨rfl, hsz, hP, hK, hD0, hOF, hOS⟩ := hv
  have hx := B.exec
  have hb := B.bytes
  have hr := B.returns
  have hts : ∀ w ∈ tG, w.before ([.ref h0, .ref st, .ref sp] : List Value).toArray s = true := fun w hw => atoms_spec (ws := wT yX3_init cX3_init 3 none) B.pre w (List.mem_cons_of_mem _ hw)
  have hown : s.vm.findClass RX3 = some m.cls := findClass_of_methodNamed B.named
  have hlocks := B.notSynchronized
  have hin : meth.name = "<init>" := (name_of_methodNamed B.named B.method).1
  subst hsz
  have hD := hD0.self (sz := s.heap.size)
  generalize hAe : va_A [(h0, .inr (3, [.null, .null, .null, .null]))] s.heap.size = A at hD ⊢
  have hA : ∀ q : Nat, s.heap.size ≤ q → A q := fun q h => by rw [← hAe]; exact Or.inr h
  have hS : va_S A s.heap s.heap [] := va_S.rf
  have hP : va_P d.1 vwCl [(h0, .inr (3, [.null, .null, .null, .null]))] s.heap := hP
  have hl := lv_entry ([.ref h0, .ref st, .ref sp]) (n := 3) (Nat.le_of_ble_eq_true rfl)
  rw [lg_entry_eq]
  generalize (lg_sl ([.ref h0, .ref st, .ref sp]) ++ List.replicate (3 - (lg_sl ([.ref h0, .ref st, .ref sp])).length) Slot.unset).toArray = ls at hl ⊢
  have hl : lv_has ls 3 [(0, .ref h0), (1, .ref st), (2, .ref sp)] := hl
  refine lv_aload_n hx hb dX3_init_0 rfl (lv_at hl 0 rfl) ?_
  refine W.objInit hx hb hown (hts _ mo_X3) (hts _ ob_im) (hts _ ob_co) rfl (by rw [hml]; exact hl.1) rfl dX3_init_1 (Nat.le_of_ble_eq_true rfl) (Nat.le_of_ble_eq_true rfl) ?_
  refine W.eq (g2 := F0 m 4 ls []) rfl ?_
  refine lv_aload_n hx hb dX3_init_4 rfl (lv_at hl 0 rfl) ?_
  refine lv_bipush (v := 60) hx hb dX3_init_5 (by decide) ?_
  refine y_newa (R := rmcX3) 60 hx hb (hts _ ar_I) hK rfl hP hD hS hA (by decide) (by decide) (Nat.le_of_ble_eq_true rfl) (Nat.le_of_ble_eq_true rfl) (Nat.le_of_ble_eq_true rfl) dX3_init_7 (fun q1 H hP hD hS => ?_)
  have hP : va_P d.1 vwCl [(h0, .inr (3, [.null, .null, .null, .null])), (q1, .inl (d.2.1, 60, .inl (fun _ => 0)))] H := hP
  have hD : va_D A [(h0, .inr (3, [.null, .null, .null, .null])), (q1, .inl (d.2.1, 60, .inl (fun _ => 0)))] := hD
  refine W.widen (k := 1) (n := 60) (Nat.le_of_ble_eq_true rfl) (Nat.le_of_ble_eq_true rfl) ?_
  refine va_putF (D := d.1) (ci := 3) (v := .ref q1) (ty := tyX3 2) (C := RX3) (T := TX3) (N := 4) hx hb hts nn_X3 tyX3 tyX3_ok nmX3 hown hK hP hD hS 0 rfl rfl 2 (by decide) (hts _ kf_X3_9) (fun _ h9 => h9) rfl hin rfl (by decide +kernel) rfl rfl (Nat.le_of_ble_eq_true rfl) dX3_init_9 (fun H locs hP hD hS => ?_)
  have hP : va_P d.1 vwCl [(h0, .inr (3, [.null, .null, .ref q1, .null])), (q1, .inl (d.2.1, 60, .inl (fun _ => 0)))] H := hP
  have hD : va_D A [(h0, .inr (3, [.null, .null, .ref q1, .null])), (q1, .inl (d.2.1, 60, .inl (fun _ => 0)))] := hD
  refine lv_aload_n hx hb dX3_init_12 rfl (lv_at hl 0 rfl) ?_
  refine lv_bipush (v := 12) hx hb dX3_init_13 (by decide) ?_
  refine y_newa (R := rmcX3) 12 hx hb (hts _ ar_I) hK rfl hP hD hS hA (by decide) (by decide) (Nat.le_of_ble_eq_true rfl) (Nat.le_of_ble_eq_true rfl) (Nat.le_of_ble_eq_true rfl) dX3_init_15 (fun q2 H hP hD hS => ?_)
  have hP : va_P d.1 vwCl [(h0, .inr (3, [.null, .null, .ref q1, .null])), (q1, .inl (d.2.1, 60, .inl (fun _ => 0))), (q2, .inl (d.2.1, 12, .inl (fun _ => 0)))] H := hP
  have hD : va_D A [(h0, .inr (3, [.null, .null, .ref q1, .null])), (q1, .inl (d.2.1, 60, .inl (fun _ => 0))), (q2, .inl (d.2.1, 12, .inl (fun _ => 0)))] := hD
  refine W.widen (k := 2) (n := 72) (Nat.le_of_ble_eq_true rfl) (Nat.le_of_ble_eq_true rfl) ?_
  refine va_putF (D := d.1) (ci := 3) (v := .ref q2) (ty := tyX3 3) (C := RX3) (T := TX3) (N := 4) hx hb hts nn_X3 tyX3 tyX3_ok nmX3 hown hK hP hD hS 0 rfl rfl 3 (by decide) (hts _ kf_X3_15) (fun _ h9 => h9) rfl hin rfl (by decide +kernel) rfl rfl (Nat.le_of_ble_eq_true rfl) dX3_init_17 (fun H locs hP hD hS => ?_)
  have hP : va_P d.1 vwCl [(h0, .inr (3, [.null, .null, .ref q1, .ref q2])), (q1, .inl (d.2.1, 60, .inl (fun _ => 0))), (q2, .inl (d.2.1, 12, .inl (fun _ => 0)))] H := hP
  have hD : va_D A [(h0, .inr (3, [.null, .null, .ref q1, .ref q2])), (q1, .inl (d.2.1, 60, .inl (fun _ => 0))), (q2, .inl (d.2.1, 12, .inl (fun _ => 0)))] := hD
  refine lv_aload_n hx hb dX3_init_20 rfl (lv_at hl 0 rfl) ?_
  refine lv_aload_n hx hb dX3_init_21 rfl (lv_at hl 1 rfl) ?_
  refine va_putF (D := d.1) (ci := 3) (v := .ref st) (ty := tyX3 0) (C := RX3) (T := TX3) (N := 4) hx hb hts nn_X3 tyX3 tyX3_ok nmX3 hown hK hP hD hS 0 rfl rfl 0 (by decide) (hts _ kf_X3_18) (fun _ h9 => h9) rfl hin rfl (by decide +kernel) rfl rfl (Nat.le_of_ble_eq_true rfl) dX3_init_22 (fun H locs hP hD hS => ?_)
  have hP : va_P d.1 vwCl [(h0, .inr (3, [.ref st, .null, .ref q1, .ref q2])), (q1, .inl (d.2.1, 60, .inl (fun _ => 0))), (q2, .inl (d.2.1, 12, .inl (fun _ => 0)))] H := hP
  have hD : va_D A [(h0, .inr (3, [.ref st, .null, .ref q1, .ref q2])), (q1, .inl (d.2.1, 60, .inl (fun _ => 0))), (q2, .inl (d.2.1, 12, .inl (fun _ => 0)))] := hD
  refine lv_aload_n hx hb dX3_init_25 rfl (lv_at hl 0 rfl) ?_
  refine lv_aload_n hx hb dX3_init_26 rfl (lv_at hl 2 rfl) ?_
  refine va_putF (D := d.1) (ci := 3) (v := .ref sp) (ty := tyX3 1) (C := RX3) (T := TX3) (N := 4) hx hb hts nn_X3 tyX3 tyX3_ok nmX3 hown hK hP hD hS 0 rfl rfl 1 (by decide) (hts _ kf_X3_22) (fun _ h9 => h9) rfl hin rfl (by decide +kernel) rfl rfl (Nat.le_of_ble_eq_true rfl) dX3_init_27 (fun H locs hP hD hS => ?_)
  have hP : va_P d.1 vwCl [(h0, .inr (3, [.ref st, .ref sp, .ref q1, .ref q2])), (q1, .inl (d.2.1, 60, .inl (fun _ => 0))), (q2, .inl (d.2.1, 12, .inl (fun _ => 0)))] H := hP
  have hD : va_D A [(h0, .inr (3, [.ref st, .ref sp, .ref q1, .ref q2])), (q1, .inl (d.2.1, 60, .inl (fun _ => 0))), (q2, .inl (d.2.1, 12, .inl (fun _ => 0)))] := hD
  have hP9 := hP.sub (ws' := [(h0, .inr (3, [.ref st, .ref sp, .ref q1, .ref q2])), (q1, .inl (d.2.1, 60, .inl (fun _ => 0))), (q2, .inl (d.2.1, 12, .inl (fun _ => 0)))]) [0, 1, 2] rfl
  have hD9 := hD.sub (ws' := [(h0, .inr (3, [.ref st, .ref sp, .ref q1, .ref q2])), (q1, .inl (d.2.1, 60, .inl (fun _ => 0))), (q2, .inl (d.2.1, 12, .inl (fun _ => 0)))]) [0, 1, 2] (by decide) rfl
  exact W.vret hx hb hr (fun t ht hW => ⟨⟨(fun i : Nat => if i = 0 then q1 else if i = 1 then q2 else 0), rfl, trivial, by rw [ht]; exact hP9, va_K.moved hW.alike hK, by rw [hAe]; exact hD9⟩, by rw [hAe]; exact hS.F ht⟩) hS.2.2 dX3_init_30
abbrev rmcX8 : Room := { frames := 1, cells := 0, slots := 0, locals := 20 }
set_option maxHeartbeats 8000000 in
set_option maxRecDepth 100000 in
theorem c_X8_init (l : Launch) (d : cY) (h0 sz : Nat) (st : Nat) (sp : Nat) (me : Nat) : Met l yX8_init (wT yX8_init cX8_init 4 none) rmcX8 (va_Pc [.ref h0, .ref st, .ref sp, .ref me] (yPre d sz [(h0, .inr (7, [.null, .null, .null, .int 0]))])) (yQ d [(h0, .inr (7, [.null, .null, .null, .int 0]))] sz (fun u => [(h0, .inr (7, [.ref st, .ref sp, .ref me, .int 0]))])) 0 0 (va_A [(h0, .inr (7, [.null, .null, .null, .int 0]))] sz) := by
  refine Met.ofW (cc := cX8_init) (maxL := 4) (ret := none) plX8 rfl ?_
  intro p e s m args below meth c s₁ B hml hv
  obtain ⟨rfl, hsz, hP, hK, hD0, hOF, hOS⟩ := hv
  have hx := B.exec
  have hb := B.bytes
  have hr := B.returns
  have hts : ∀ w ∈ tG, w.before ([.ref h0, .ref st, .ref sp, .ref me] : List Value).toArray s = true := fun w hw => atoms_spec (ws := wT yX8_init cX8_init 4 none) B.pre w (List.mem_cons_of_mem _ hw)
  have hown : s.vm.findClass RX8 = some m.cls := findClass_of_methodNamed B.named
  have hlocks := B.notSynchronized
  have hin : meth.name = "<init>" := (name_of_methodNamed B.named B.method).1
  subst hsz
  have hD := hD0.self (sz := s.heap.size)
  generalize hAe : va_A [(h0, .inr (7, [.null, .null, .null, .int 0]))] s.heap.size = A at hD ⊢
  have hA : ∀ q : Nat, s.heap.size ≤ q → A q := fun q h => by rw [← hAe]; exact Or.inr h
  have hS : va_S A s.heap s.heap [] := va_S.rf
  have hP : va_P d.1 vwCl [(h0, .inr (7, [.null, .null, .null, .int 0]))] s.heap := hP
  have hl := lv_entry ([.ref h0, .ref st, .ref sp, .ref me]) (n := 4) (Nat.le_of_ble_eq_true rfl)
  rw [lg_entry_eq]
  generalize (lg_sl ([.ref h0, .ref st, .ref sp, .ref me]) ++ List.replicate (4 - (lg_sl ([.ref h0, .ref st, .ref sp, .ref me])).length) Slot.unset).toArray = ls at hl ⊢
  have hl : lv_has ls 4 [(0, .ref h0), (1, .ref st), (2, .ref sp), (3, .ref me)] := hl
  refine lv_aload_n hx hb dX8_init_0 rfl (lv_at hl 0 rfl) ?_
  refine W.objInit hx hb hown (hts _ mo_X8) (hts _ ob_im) (hts _ ob_co) rfl (by rw [hml]; exact hl.1) rfl dX8_init_1 (Nat.le_of_ble_eq_true rfl) (Nat.le_of_ble_eq_true rfl) ?_
  refine W.eq (g2 := F0 m 4 ls []) rfl ?_
  refine lv_aload_n hx hb dX8_init_4 rfl (lv_at hl 0 rfl) ?_
  refine lv_iconst (v := 0) hx hb dX8_init_5 (by decide) ?_
  refine va_put (D := d.1) (ci := 7) (v := .int 0) (ty := tyX8 3) (C := RX8) (T := TX8) (N := 4) hx hb hts nn_X8 tyX8 tyX8_ok nmX8 hown hK hP hD hS 0 rfl rfl 3 (by decide) (hts _ kf_X8_9) (fun _ h9 => h9) rfl (by decide +kernel) rfl rfl (Nat.le_of_ble_eq_true rfl) dX8_init_6 (fun H locs hP hD hS => ?_)
  have hP : va_P d.1 vwCl [(h0, .inr (7, [.null, .null, .null, .int 0]))] H := hP
  have hD : va_D A [(h0, .inr (7, [.null, .null, .null, .int 0]))] := hD
  refine lv_aload_n hx hb dX8_init_9 rfl (lv_at hl 0 rfl) ?_
  refine lv_aload_n hx hb dX8_init_10 rfl (lv_at hl 1 rfl) ?_
  refine va_putF (D := d.1) (ci := 7) (v := .ref st) (ty := tyX8 0) (C := RX8) (T := TX8) (N := 4) hx hb hts nn_X8 tyX8 tyX8_ok nmX8 hown hK hP hD hS 0 rfl rfl 0 (by decide) (hts _ kf_X8_15) (fun _ h9 => h9) rfl hin rfl (by decide +kernel) rfl rfl (Nat.le_of_ble_eq_true rfl) dX8_init_11 (fun H locs hP hD hS => ?_)
  have hP : va_P d.1 vwCl [(h0, .inr (7, [.ref st, .null, .null, .int 0]))] H := hP
  have hD : va_D A [(h0, .inr (7, [.ref st, .null, .null, .int 0]))] := hD
  refine lv_aload_n hx hb dX8_init_14 rfl (lv_at hl 0 rfl) ?_
  refine lv_aload_n hx hb dX8_init_15 rfl (lv_at hl 2 rfl) ?_
  refine va_putF (D := d.1) (ci := 7) (v := .ref sp) (ty := tyX8 1) (C := RX8) (T := TX8) (N := 4) hx hb hts nn_X8 tyX8 tyX8_ok nmX8 hown hK hP hD hS 0 rfl rfl 1 (by decide) (hts _ kf_X8_19) (fun _ h9 => h9) rfl hin rfl (by decide +kernel) rfl rfl (Nat.le_of_ble_eq_true rfl) dX8_init_16 (fun H locs hP hD hS => ?_)
  have hP : va_P d.1 vwCl [(h0, .inr (7, [.ref st, .ref sp, .null, .int 0]))] H := hP
  have hD : va_D A [(h0, .inr (7, [.ref st, .ref sp, .null, .int 0]))] := hD
  refine lv_aload_n hx hb dX8_init_19 rfl (lv_at hl 0 rfl) ?_
  refine lv_aload_n hx hb dX8_init_20 rfl (lv_at hl 3 rfl) ?_
  refine va_putF (D := d.1) (ci := 7) (v := .ref me) (ty := tyX8 2) (C := RX8) (T := TX8) (N := 4) hx hb hts nn_X8 tyX8 tyX8_ok nmX8 hown hK hP hD hS 0 rfl rfl 2 (by decide) (hts _ kf_X8_23) (fun _ h9 => h9) rfl hin rfl (by decide +kernel) rfl rfl (Nat.le_of_ble_eq_true rfl) dX8_init_21 (fun H locs hP hD hS => ?_)
  have hP : va_P d.1 vwCl [(h0, .inr (7, [.ref st, .ref sp, .ref me, .int 0]))] H := hP
  have hD : va_D A [(h0, .inr (7, [.ref st, .ref sp, .ref me, .int 0]))] := hD
  have hP9 := hP.sub (ws' := [(h0, .inr (7, [.ref st, .ref sp, .ref me, .int 0]))]) [0] rfl
  have hD9 := hD.sub (ws' := [(h0, .inr (7, [.ref st, .ref sp, .ref me, .int 0]))]) [0] (by decide) rfl
  exact W.vret hx hb hr (fun t ht hW => ⟨⟨(fun i : Nat => 0), rfl, trivial, by rw [ht]; exact hP9, va_K.moved hW.alike hK, by rw [hAe]; exact hD9⟩, by rw [hAe]; exact hS.F ht⟩) hS.2.2 dX8_init_24
abbrev rmcX2 : Room := { frames := 1, cells := 4, slots := 186, locals := 20 }
set_option maxHeartbeats 8000000 in
set_option maxRecDepth 100000 in
theorem c_X2_init (l : Launch) (d : cY) (h0 sz : Nat) (st : Nat) (sp : Nat) : Met l yX2_init (wT yX2_init cX2_init 3 none) rmcX2 (va_Pc [.ref h0, .ref st, .ref sp] (yPre d sz [(h0, .inr (2, [.null, .null, .null, .null, .null, .null]))])) (yQ d [(h0, .inr (2, [.null, .null, .null, .null, .null, .null]))] sz (fun u => [(h0, .inr (2, [.ref st, .ref sp, .ref (u 0), .ref (u 1), .ref (u 2), .ref (u 3)])), ((u 0), .inl (d.2.1, 12, .inl (fun _ => 0))), ((u 1), .inl (d.2.1, 12, .inl (fun _ => 0))), ((u 2), .inl (d.2.1, 81, .inl (fun _ => 0))), ((u 3), .inl (d.2.1, 81, .inl (fun _ => 0)))])) 4 186 (va_A [(h0, .inr (2, [.null, .null, .null, .null, .null, .null]))] sz) := by
  refine Met.ofW (cc := cX2_init) (maxL := 3) (ret := none) plX2 rfl ?_
  intro p e s m args below meth c s₁ B hml hv
  obtain ⟨rfl, hsz, hP, hK, hD0, hOF, hOS⟩ := hv
  have hx := B.exec
  have hb := B.bytes
  have hr := B.returns
  have hts : ∀ w ∈ tG, w.before ([.ref h0, .ref st, .ref sp] : List Value).toArray s = true := fun w hw => atoms_spec (ws := wT yX2_init cX2_init 3 none) B.pre w (List.mem_cons_of_mem _ hw)
  have hown : s.vm.findClass RX2 = some m.cls := findClass_of_methodNamed B.named
  have hlocks := B.notSynchronized
  have hin : meth.name = "<init>" := (name_of_methodNamed B.named B.method).1
  subst hsz
  have hD := hD0.self (sz := s.heap.size)
  generalize hAe : va_A [(h0, .inr (2, [.null, .null, .null, .null, .null, .null]))] s.heap.size = A at hD ⊢
  have hA : ∀ q : Nat, s.heap.size ≤ q → A q := fun q h => by rw [← hAe]; exact Or.inr h
  have hS : va_S A s.heap s.heap [] := va_S.rf
  have hP : va_P d.1 vwCl [(h0, .inr (2, [.null, .null, .null, .null, .null, .null]))] s.heap := hP
  have hl := lv_entry ([.ref h0, .ref st, .ref sp]) (n := 3) (Nat.le_of_ble_eq_true rfl)
  rw [lg_entry_eq]
  generalize (lg_sl ([.ref h0, .ref st, .ref sp]) ++ List.replicate (3 - (lg_sl ([.ref h0, .ref st, .ref sp])).length) Slot.unset).toArray = ls at hl ⊢
  have hl : lv_has ls 3 [(0, .ref h0), (1, .ref st), (2, .ref sp)] := hl
  refine lv_aload_n hx hb dX2_init_0 rfl (lv_at hl 0 rfl) ?_
  refine W.objInit hx hb hown (hts _ mo_X2) (hts _ ob_im) (hts _ ob_co) rfl (by rw [hml]; exact hl.1) rfl dX2_init_1 (Nat.le_of_ble_eq_true rfl) (Nat.le_of_ble_eq_true rfl) ?_
  refine W.eq (g2 := F0 m 4 ls []) rfl ?_
  refine lv_aload_n hx hb dX2_init_4 rfl (lv_at hl 0 rfl) ?_
  refine lv_bipush (v := 12) hx hb dX2_init_5 (by decide) ?_
  refine y_newa (R := rmcX2) 12 hx hb (hts _ ar_I) hK rfl hP hD hS hA (by decide) (by decide) (Nat.le_of_ble_eq_true rfl) (Nat.le_of_ble_eq_true rfl) (Nat.le_of_ble_eq_true rfl) dX2_init_7 (fun q1 H hP hD hS => ?_)
  have hP : va_P d.1 vwCl [(h0, .inr (2, [.null, .null, .null, .null, .null, .null])), (q1, .inl (d.2.1, 12, .inl (fun _ => 0)))] H := hP
  have hD : va_D A [(h0, .inr (2, [.null, .null, .null, .null, .null, .null])), (q1, .inl (d.2.1, 12, .inl (fun _ => 0)))] := hD
  refine W.widen (k := 1) (n := 12) (Nat.le_of_ble_eq_true rfl) (Nat.le_of_ble_eq_true rfl) ?_
  refine va_putF (D := d.1) (ci := 2) (v := .ref q1) (ty := tyX2 2) (C := RX2) (T := TX2) (N := 6) hx hb hts nn_X2 tyX2 tyX2_ok nmX2 hown hK hP hD hS 0 rfl rfl 2 (by decide) (hts _ kf_X2_9) (fun _ h9 => h9) rfl hin rfl (by decide +kernel) rfl rfl (Nat.le_of_ble_eq_true rfl) dX2_init_9 (fun H locs hP hD hS => ?_)
  have hP : va_P d.1 vwCl [(h0, .inr (2, [.null, .null, .ref q1, .null, .null, .null])), (q1, .inl (d.2.1, 12, .inl (fun _ => 0)))] H := hP
  have hD : va_D A [(h0, .inr (2, [.null, .null, .ref q1, .null, .null, .null])), (q1, .inl (d.2.1, 12, .inl (fun _ => 0)))] := hD
  refine lv_aload_n hx hb dX2_init_12 rfl (lv_at hl 0 rfl) ?_
  refine lv_bipush (v := 12) hx hb dX2_init_13 (by decide) ?_
  refine y_newa (R := rmcX2) 12 hx hb (hts _ ar_I) hK rfl hP hD hS hA (by decide) (by decide) (Nat.le_of_ble_eq_true rfl) (Nat.le_of_ble_eq_true rfl) (Nat.le_of_ble_eq_true rfl) dX2_init_15 (fun q2 H hP hD hS => ?_)
  have hP : va_P d.1 vwCl [(h0, .inr (2, [.null, .null, .ref q1, .null, .null, .null])), (q1, .inl (d.2.1, 12, .inl (fun _ => 0))), (q2, .inl (d.2.1, 12, .inl (fun _ => 0)))] H := hP
  have hD : va_D A [(h0, .inr (2, [.null, .null, .ref q1, .null, .null, .null])), (q1, .inl (d.2.1, 12, .inl (fun _ => 0))), (q2, .inl (d.2.1, 12, .inl (fun _ => 0)))] := hD
  refine W.widen (k := 2) (n := 24) (Nat.le_of_ble_eq_true rfl) (Nat.le_of_ble_eq_true rfl) ?_
  refine va_putF (D := d.1) (ci := 2) (v := .ref q2) (ty := tyX2 3) (C := RX2) (T := TX2) (N := 6) hx hb hts nn_X2 tyX2 tyX2_ok nmX2 hown hK hP hD hS 0 rfl rfl 3 (by decide) (hts _ kf_X2_15) (fun _ h9 => h9) rfl hin rfl (by decide +kernel) rfl rfl (Nat.le_of_ble_eq_true rfl) dX2_init_17 (fun H locs hP hD hS => ?_)
  have hP : va_P d.1 vwCl [(h0, .inr (2, [.null, .null, .ref q1, .ref q2, .null, .null])), (q1, .inl (d.2.1, 12, .inl (fun _ => 0))), (q2, .inl (d.2.1, 12, .inl (fun _ => 0)))] H := hP
  have hD : va_D A [(h0, .inr (2, [.null, .null, .ref q1, .ref q2, .null, .null])), (q1, .inl (d.2.1, 12, .inl (fun _ => 0))), (q2, .inl (d.2.1, 12, .inl (fun _ => 0)))] := hD
  refine lv_aload_n hx hb dX2_init_20 rfl (lv_at hl 0 rfl) ?_
  refine lv_bipush (v := 81) hx hb dX2_init_21 (by decide) ?_
  refine y_newa (R := rmcX2) 81 hx hb (hts _ ar_I) hK rfl hP hD hS hA (by decide) (by decide) (Nat.le_of_ble_eq_true rfl) (Nat.le_of_ble_eq_true rfl) (Nat.le_of_ble_eq_true rfl) dX2_init_23 (fun q3 H hP hD hS => ?_)
  have hP : va_P d.1 vwCl [(h0, .inr (2, [.null, .null, .ref q1, .ref q2, .null, .null])), (q1, .inl (d.2.1, 12, .inl (fun _ => 0))), (q2, .inl (d.2.1, 12, .inl (fun _ => 0))), (q3, .inl (d.2.1, 81, .inl (fun _ => 0)))] H := hP
  have hD : va_D A [(h0, .inr (2, [.null, .null, .ref q1, .ref q2, .null, .null])), (q1, .inl (d.2.1, 12, .inl (fun _ => 0))), (q2, .inl (d.2.1, 12, .inl (fun _ => 0))), (q3, .inl (d.2.1, 81, .inl (fun _ => 0)))] := hD
  refine W.widen (k := 3) (n := 105) (Nat.le_of_ble_eq_true rfl) (Nat.le_of_ble_eq_true rfl) ?_
  refine va_putF (D := d.1) (ci := 2) (v := .ref q3) (ty := tyX2 4) (C := RX2) (T := TX2) (N := 6) hx hb hts nn_X2 tyX2 tyX2_ok nmX2 hown hK hP hD hS 0 rfl rfl 4 (by decide) (hts _ kf_X2_18) (fun _ h9 => h9) rfl hin rfl (by decide +kernel) rfl rfl (Nat.le_of_ble_eq_true rfl) dX2_init_25 (fun H locs hP hD hS => ?_)
  have hP : va_P d.1 vwCl [(h0, .inr (2, [.null, .null, .ref q1, .ref q2, .ref q3, .null])), (q1, .inl (d.2.1, 12, .inl (fun _ => 0))), (q2, .inl (d.2.1, 12, .inl (fun _ => 0))), (q3, .inl (d.2.1, 81, .inl (fun _ => 0)))] H := hP
  have hD : va_D A [(h0, .inr (2, [.null, .null, .ref q1, .ref q2, .ref q3, .null])), (q1, .inl (d.2.1, 12, .inl (fun _ => 0))), (q2, .inl (d.2.1, 12, .inl (fun _ => 0))), (q3, .inl (d.2.1, 81, .inl (fun _ => 0)))] := hD
  refine lv_aload_n hx hb dX2_init_28 rfl (lv_at hl 0 rfl) ?_
  refine lv_bipush (v := 81) hx hb dX2_init_29 (by decide) ?_
  refine y_newa (R := rmcX2) 81 hx hb (hts _ ar_I) hK rfl hP hD hS hA (by decide) (by decide) (Nat.le_of_ble_eq_true rfl) (Nat.le_of_ble_eq_true rfl) (Nat.le_of_ble_eq_true rfl) dX2_init_31 (fun q4 H hP hD hS => ?_)
  have hP : va_P d.1 vwCl [(h0, .inr (2, [.null, .null, .ref q1, .ref q2, .ref q3, .null])), (q1, .inl (d.2.1, 12, .inl (fun _ => 0))), (q2, .inl (d.2.1, 12, .inl (fun _ => 0))), (q3, .inl (d.2.1, 81, .inl (fun _ => 0))), (q4, .inl (d.2.1, 81, .inl (fun _ => 0)))] H := hP
  have hD : va_D A [(h0, .inr (2, [.null, .null, .ref q1, .ref q2, .ref q3, .null])), (q1, .inl (d.2.1, 12, .inl (fun _ => 0))), (q2, .inl (d.2.1, 12, .inl (fun _ => 0))), (q3, .inl (d.2.1, 81, .inl (fun _ => 0))), (q4, .inl (d.2.1, 81, .inl (fun _ => 0)))] := hD
  refine W.widen (k := 4) (n := 186) (Nat.le_of_ble_eq_true rfl) (Nat.le_of_ble_eq_true rfl) ?_
  refine va_putF (D := d.1) (ci := 2) (v := .ref q4) (ty := tyX2 5) (C := RX2) (T := TX2) (N := 6) hx hb hts nn_X2 tyX2 tyX2_ok nmX2 hown hK hP hD hS 0 rfl rfl 5 (by decide) (hts _ kf_X2_21) (fun _ h9 => h9) rfl hin rfl (by decide +kernel) rfl rfl (Nat.le_of_ble_eq_true rfl) dX2_init_33 (fun H locs hP hD hS => ?_)
  have hP : va_P d.1 vwCl [(h0, .inr (2, [.null, .null, .ref q1, .ref q2, .ref q3, .ref q4])), (q1, .inl (d.2.1, 12, .inl (fun _ => 0))), (q2, .inl (d.2.1, 12, .inl (fun _ => 0))), (q3, .inl (d.2.1, 81, .inl (fun _ => 0))), (q4, .inl (d.2.1, 81, .inl (fun _ => 0)))] H := hP
  have hD : va_D A [(h0, .inr (2, [.null, .null, .ref q1, .ref q2, .ref q3, .ref q4])), (q1, .inl (d.2.1, 12, .inl (fun _ => 0))), (q2, .inl (d.2.1, 12, .inl (fun _ => 0))), (q3, .inl (d.2.1, 81, .inl (fun _ => 0))), (q4, .inl (d.2.1, 81, .inl (fun _ => 0)))] := hD
  refine lv_aload_n hx hb dX2_init_36 rfl (lv_at hl 0 rfl) ?_
  refine lv_aload_n hx hb dX2_init_37 rfl (lv_at hl 1 rfl) ?_
  refine va_putF (D := d.1) (ci := 2) (v := .ref st) (ty := tyX2 0) (C := RX2) (T := TX2) (N := 6) hx hb hts nn_X2 tyX2 tyX2_ok nmX2 hown hK hP hD hS 0 rfl rfl 0 (by decide) (hts _ kf_X2_24) (fun _ h9 => h9) rfl hin rfl (by decide +kernel) rfl rfl (Nat.le_of_ble_eq_true rfl) dX2_init_38 (fun H locs hP hD hS => ?_)
  have hP : va_P d.1 vwCl [(h0, .inr (2, [.ref st, .null, .ref q1, .ref q2, .ref q3, .ref q4])), (q1, .inl (d.2.1, 12, .inl (fun _ => 0))), (q2, .inl (d.2.1, 12, .inl (fun _ => 0))), (q3, .inl (d.2.1, 81, .inl (fun _ => 0))), (q4, .inl (d.2.1, 81, .inl (fun _ => 0)))] H := hP
  have hD : va_D A [(h0, .inr (2, [.ref st, .null, .ref q1, .ref q2, .ref q3, .ref q4])), (q1, .inl (d.2.1, 12, .inl (fun _ => 0))), (q2, .inl (d.2.1, 12, .inl (fun _ => 0))), (q3, .inl (d.2.1, 81, .inl (fun _ => 0))), (q4, .inl (d.2.1, 81, .inl (fun _ => 0)))] := hD
  refine lv_aload_n hx hb dX2_init_41 rfl (lv_at hl 0 rfl) ?_
  refine lv_aload_n hx hb dX2_init_42 rfl (lv_at hl 2 rfl) ?_
  refine va_putF (D := d.1) (ci := 2) (v := .ref sp) (ty := tyX2 1) (C := RX2) (T := TX2) (N := 6) hx hb hts nn_X2 tyX2 tyX2_ok nmX2 hown hK hP hD hS 0 rfl rfl 1 (by decide) (hts _ kf_X2_28) (fun _ h9 => h9) rfl hin rfl (by decide +kernel) rfl rfl (Nat.le_of_ble_eq_true rfl) dX2_init_43 (fun H locs hP hD hS => ?_)
  have hP : va_P d.1 vwCl [(h0, .inr (2, [.ref st, .ref sp, .ref q1, .ref q2, .ref q3, .ref q4])), (q1, .inl (d.2.1, 12, .inl (fun _ => 0))), (q2, .inl (d.2.1, 12, .inl (fun _ => 0))), (q3, .inl (d.2.1, 81, .inl (fun _ => 0))), (q4, .inl (d.2.1, 81, .inl (fun _ => 0)))] H := hP
  have hD : va_D A [(h0, .inr (2, [.ref st, .ref sp, .ref q1, .ref q2, .ref q3, .ref q4])), (q1, .inl (d.2.1, 12, .inl (fun _ => 0))), (q2, .inl (d.2.1, 12, .inl (fun _ => 0))), (q3, .inl (d.2.1, 81, .inl (fun _ => 0))), (q4, .inl (d.2.1, 81, .inl (fun _ => 0)))] := hD
  have hP9 := hP.sub (ws' := [(h0, .inr (2, [.ref st, .ref sp, .ref q1, .ref q2, .ref q3, .ref q4])), (q1, .inl (d.2.1, 12, .inl (fun _ => 0))), (q2, .inl (d.2.1, 12, .inl (fun _ => 0))), (q3, .inl (d.2.1, 81, .inl (fun _ => 0))), (q4, .inl (d.2.1, 81, .inl (fun _ => 0)))]) [0, 1, 2, 3, 4] rfl
  have hD9 := hD.sub (ws' := [(h0, .inr (2, [.ref st, .ref sp, .ref q1, .ref q2, .ref q3, .ref q4])), (q1, .inl (d.2.1, 12, .inl (fun _ => 0))), (q2, .inl (d.2.1, 12, .inl (fun _ => 0))), (q3, .inl (d.2.1, 81, .inl (fun _ => 0))), (q4, .inl (d.2.1, 81, .inl (fun _ => 0)))]) [0, 1, 2, 3, 4] (by decide) rfl
  exact W.vret hx hb hr (fun t ht hW => ⟨⟨(fun i : Nat => if i = 0 then q1 else if i = 1 then q2 else if i = 2 then q3 else if i = 3 then q4 else 0), rfl, trivial, by rw [ht]; exact hP9, va_K.moved hW.alike hK, by rw [hAe]; exact hD9⟩, by rw [hAe]; exact hS.F ht⟩) hS.2.2 dX2_init_46
abbrev rmcX7 : Room := { frames := 1, cells := 4, slots := 1080, locals := 20 }
set_option maxHeartbeats 8000000 in
set_option maxRecDepth 100000 in
theorem c_X7_init (l : Launch) (d : cY) (h0 sz : Nat) (n : Int32) (hn : n = 1 ∨ n = 2 ∨ n = 3 ∨ n = 4) : Met l yX7_init (wT yX7_init cX7_init 4 none) rmcX7 (va_Pc [.ref h0, .int n] (yPre d sz [(h0, .inr (6, [.int 0, .int 0, .int 0, .null, .null, .null, .null, .int 0]))])) (yQ d [(h0, .inr (6, [.int 0, .int 0, .int 0, .null, .null, .null, .null, .int 0]))] sz (fun u => [(h0, .inr (6, [.int n, .int ((1 : Int32) <<< ((n : Int32) &&& 31)), .int (p3 n), .ref (u 0), .ref (u 1), .ref (u 2), .ref (u 3), .int 0])), ((u 0), .inl (d.2.1, 12, .inl (fun _ => 0))), ((u 1), .inl (d.2.1, 48, .inl (fun _ => 0))), ((u 2), .inl (d.2.1, 48, .inl (fun _ => 0))), ((u 3), .inl (d.2.1, 972, .inl (fun _ => 0)))])) 4 1080 (va_A [(h0, .inr (6, [.int 0, .int 0, .int 0, .null, .null, .null, .null, .int 0]))] sz) := by
  refine Met.ofW (cc := cX7_init) (maxL := 4) (ret := none) plX7 rfl ?_
  intro p e s m args below meth c s₁ B hml hv
  obtain ⟨rfl, hsz, hP, hK, hD0, hOF, hOS⟩ := hv
  have hx := B.exec
  have hb := B.bytes
  have hr := B.returns
  have hts : ∀ w ∈ tG, w.before ([.ref h0, .int n] : List Value).toArray s = true := fun w hw => atoms_spec (ws := wT yX7_init cX7_init 4 none) B.pre w (List.mem_cons_of_mem _ hw)
  have hown : s.vm.findClass RX7 = some m.cls := findClass_of_methodNamed B.named
  have hlocks := B.notSynchronized
  have hin : meth.name = "<init>" := (name_of_methodNamed B.named B.method).1
  subst hsz
  have hD := hD0.self (sz := s.heap.size)
  generalize hAe : va_A [(h0, .inr (6, [.int 0, .int 0, .int 0, .null, .null, .null, .null, .int 0]))] s.heap.size = A at hD ⊢
  have hA : ∀ q : Nat, s.heap.size ≤ q → A q := fun q h => by rw [← hAe]; exact Or.inr h
  have hS : va_S A s.heap s.heap [] := va_S.rf
  have hP : va_P d.1 vwCl [(h0, .inr (6, [.int 0, .int 0, .int 0, .null, .null, .null, .null, .int 0]))] s.heap := hP
  have hl := lv_entry ([.ref h0, .int n]) (n := 4) (Nat.le_of_ble_eq_true rfl)
  rw [lg_entry_eq]
  generalize (lg_sl ([.ref h0, .int n]) ++ List.replicate (4 - (lg_sl ([.ref h0, .int n])).length) Slot.unset).toArray = ls at hl ⊢
  have hl : lv_has ls 4 [(0, .ref h0), (1, .int n)] := hl
  rcases hn with rfl | rfl | rfl | rfl
  · skip
    refine lv_aload_n hx hb dX7_init_0 rfl (lv_at hl 0 rfl) ?_
    refine W.objInit hx hb hown (hts _ mo_X7) (hts _ ob_im) (hts _ ob_co) rfl (by rw [hml]; exact hl.1) rfl dX7_init_1 (Nat.le_of_ble_eq_true rfl) (Nat.le_of_ble_eq_true rfl) ?_
    refine W.eq (g2 := F0 m 4 ls []) rfl ?_
    refine lv_aload_n hx hb dX7_init_4 rfl (lv_at hl 0 rfl) ?_
    refine lv_bipush (v := 12) hx hb dX7_init_5 (by decide) ?_
    refine y_newa (R := rmcX7) 12 hx hb (hts _ ar_I) hK rfl hP hD hS hA (by decide) (by decide) (Nat.le_of_ble_eq_true rfl) (Nat.le_of_ble_eq_true rfl) (Nat.le_of_ble_eq_true rfl) dX7_init_7 (fun q1 H hP hD hS => ?_)
    have hP : va_P d.1 vwCl [(h0, .inr (6, [.int 0, .int 0, .int 0, .null, .null, .null, .null, .int 0])), (q1, .inl (d.2.1, 12, .inl (fun _ => 0)))] H := hP
    have hD : va_D A [(h0, .inr (6, [.int 0, .int 0, .int 0, .null, .null, .null, .null, .int 0])), (q1, .inl (d.2.1, 12, .inl (fun _ => 0)))] := hD
    refine W.widen (k := 1) (n := 12) (Nat.le_of_ble_eq_true rfl) (Nat.le_of_ble_eq_true rfl) ?_
    refine va_putF (D := d.1) (ci := 6) (v := .ref q1) (ty := tyX7 3) (C := RX7) (T := TX7) (N := 8) hx hb hts nn_X7 tyX7 tyX7_ok nmX7 hown hK hP hD hS 0 rfl rfl 3 (by decide) (hts _ kf_X7_9) (fun _ h9 => h9) rfl hin rfl (by decide +kernel) rfl rfl (Nat.le_of_ble_eq_true rfl) dX7_init_9 (fun H locs hP hD hS => ?_)
    have hP : va_P d.1 vwCl [(h0, .inr (6, [.int 0, .int 0, .int 0, .ref q1, .null, .null, .null, .int 0])), (q1, .inl (d.2.1, 12, .inl (fun _ => 0)))] H := hP
    have hD : va_D A [(h0, .inr (6, [.int 0, .int 0, .int 0, .ref q1, .null, .null, .null, .int 0])), (q1, .inl (d.2.1, 12, .inl (fun _ => 0)))] := hD
    refine lv_aload_n hx hb dX7_init_12 rfl (lv_at hl 0 rfl) ?_
    refine lv_bipush (v := 48) hx hb dX7_init_13 (by decide) ?_
    refine y_newa (R := rmcX7) 48 hx hb (hts _ ar_I) hK rfl hP hD hS hA (by decide) (by decide) (Nat.le_of_ble_eq_true rfl) (Nat.le_of_ble_eq_true rfl) (Nat.le_of_ble_eq_true rfl) dX7_init_15 (fun q2 H hP hD hS => ?_)
    have hP : va_P d.1 vwCl [(h0, .inr (6, [.int 0, .int 0, .int 0, .ref q1, .null, .null, .null, .int 0])), (q1, .inl (d.2.1, 12, .inl (fun _ => 0))), (q2, .inl (d.2.1, 48, .inl (fun _ => 0)))] H := hP
    have hD : va_D A [(h0, .inr (6, [.int 0, .int 0, .int 0, .ref q1, .null, .null, .null, .int 0])), (q1, .inl (d.2.1, 12, .inl (fun _ => 0))), (q2, .inl (d.2.1, 48, .inl (fun _ => 0)))] := hD
    refine W.widen (k := 2) (n := 60) (Nat.le_of_ble_eq_true rfl) (Nat.le_of_ble_eq_true rfl) ?_
    refine va_putF (D := d.1) (ci := 6) (v := .ref q2) (ty := tyX7 4) (C := RX7) (T := TX7) (N := 8) hx hb hts nn_X7 tyX7 tyX7_ok nmX7 hown hK hP hD hS 0 rfl rfl 4 (by decide) (hts _ kf_X7_15) (fun _ h9 => h9) rfl hin rfl (by decide +kernel) rfl rfl (Nat.le_of_ble_eq_true rfl) dX7_init_17 (fun H locs hP hD hS => ?_)
    have hP : va_P d.1 vwCl [(h0, .inr (6, [.int 0, .int 0, .int 0, .ref q1, .ref q2, .null, .null, .int 0])), (q1, .inl (d.2.1, 12, .inl (fun _ => 0))), (q2, .inl (d.2.1, 48, .inl (fun _ => 0)))] H := hP
    have hD : va_D A [(h0, .inr (6, [.int 0, .int 0, .int 0, .ref q1, .ref q2, .null, .null, .int 0])), (q1, .inl (d.2.1, 12, .inl (fun _ => 0))), (q2, .inl (d.2.1, 48, .inl (fun _ => 0)))] := hD
    refine lv_aload_n hx hb dX7_init_20 rfl (lv_at hl 0 rfl) ?_
    refine lv_bipush (v := 48) hx hb dX7_init_21 (by decide) ?_
    refine y_newa (R := rmcX7) 48 hx hb (hts _ ar_I) hK rfl hP hD hS hA (by decide) (by decide) (Nat.le_of_ble_eq_true rfl) (Nat.le_of_ble_eq_true rfl) (Nat.le_of_ble_eq_true rfl) dX7_init_23 (fun q3 H hP hD hS => ?_)
    have hP : va_P d.1 vwCl [(h0, .inr (6, [.int 0, .int 0, .int 0, .ref q1, .ref q2, .null, .null, .int 0])), (q1, .inl (d.2.1, 12, .inl (fun _ => 0))), (q2, .inl (d.2.1, 48, .inl (fun _ => 0))), (q3, .inl (d.2.1, 48, .inl (fun _ => 0)))] H := hP
    have hD : va_D A [(h0, .inr (6, [.int 0, .int 0, .int 0, .ref q1, .ref q2, .null, .null, .int 0])), (q1, .inl (d.2.1, 12, .inl (fun _ => 0))), (q2, .inl (d.2.1, 48, .inl (fun _ => 0))), (q3, .inl (d.2.1, 48, .inl (fun _ => 0)))] := hD
    refine W.widen (k := 3) (n := 108) (Nat.le_of_ble_eq_true rfl) (Nat.le_of_ble_eq_true rfl) ?_
    refine va_putF (D := d.1) (ci := 6) (v := .ref q3) (ty := tyX7 5) (C := RX7) (T := TX7) (N := 8) hx hb hts nn_X7 tyX7 tyX7_ok nmX7 hown hK hP hD hS 0 rfl rfl 5 (by decide) (hts _ kf_X7_18) (fun _ h9 => h9) rfl hin rfl (by decide +kernel) rfl rfl (Nat.le_of_ble_eq_true rfl) dX7_init_25 (fun H locs hP hD hS => ?_)
    have hP : va_P d.1 vwCl [(h0, .inr (6, [.int 0, .int 0, .int 0, .ref q1, .ref q2, .ref q3, .null, .int 0])), (q1, .inl (d.2.1, 12, .inl (fun _ => 0))), (q2, .inl (d.2.1, 48, .inl (fun _ => 0))), (q3, .inl (d.2.1, 48, .inl (fun _ => 0)))] H := hP
    have hD : va_D A [(h0, .inr (6, [.int 0, .int 0, .int 0, .ref q1, .ref q2, .ref q3, .null, .int 0])), (q1, .inl (d.2.1, 12, .inl (fun _ => 0))), (q2, .inl (d.2.1, 48, .inl (fun _ => 0))), (q3, .inl (d.2.1, 48, .inl (fun _ => 0)))] := hD
    refine lv_aload_n hx hb dX7_init_28 rfl (lv_at hl 0 rfl) ?_
    refine lv_sipush (v := 972) hx hb dX7_init_29 (by decide) ?_
    refine y_newa (R := rmcX7) 972 hx hb (hts _ ar_I) hK rfl hP hD hS hA (by decide) (by decide) (Nat.le_of_ble_eq_true rfl) (Nat.le_of_ble_eq_true rfl) (Nat.le_of_ble_eq_true rfl) dX7_init_32 (fun q4 H hP hD hS => ?_)
    have hP : va_P d.1 vwCl [(h0, .inr (6, [.int 0, .int 0, .int 0, .ref q1, .ref q2, .ref q3, .null, .int 0])), (q1, .inl (d.2.1, 12, .inl (fun _ => 0))), (q2, .inl (d.2.1, 48, .inl (fun _ => 0))), (q3, .inl (d.2.1, 48, .inl (fun _ => 0))), (q4, .inl (d.2.1, 972, .inl (fun _ => 0)))] H := hP
    have hD : va_D A [(h0, .inr (6, [.int 0, .int 0, .int 0, .ref q1, .ref q2, .ref q3, .null, .int 0])), (q1, .inl (d.2.1, 12, .inl (fun _ => 0))), (q2, .inl (d.2.1, 48, .inl (fun _ => 0))), (q3, .inl (d.2.1, 48, .inl (fun _ => 0))), (q4, .inl (d.2.1, 972, .inl (fun _ => 0)))] := hD
    refine W.widen (k := 4) (n := 1080) (Nat.le_of_ble_eq_true rfl) (Nat.le_of_ble_eq_true rfl) ?_
    refine va_putF (D := d.1) (ci := 6) (v := .ref q4) (ty := tyX7 6) (C := RX7) (T := TX7) (N := 8) hx hb hts nn_X7 tyX7 tyX7_ok nmX7 hown hK hP hD hS 0 rfl rfl 6 (by decide) (hts _ kf_X7_21) (fun _ h9 => h9) rfl hin rfl (by decide +kernel) rfl rfl (Nat.le_of_ble_eq_true rfl) dX7_init_34 (fun H locs hP hD hS => ?_)
    have hP : va_P d.1 vwCl [(h0, .inr (6, [.int 0, .int 0, .int 0, .ref q1, .ref q2, .ref q3, .ref q4, .int 0])), (q1, .inl (d.2.1, 12, .inl (fun _ => 0))), (q2, .inl (d.2.1, 48, .inl (fun _ => 0))), (q3, .inl (d.2.1, 48, .inl (fun _ => 0))), (q4, .inl (d.2.1, 972, .inl (fun _ => 0)))] H := hP
    have hD : va_D A [(h0, .inr (6, [.int 0, .int 0, .int 0, .ref q1, .ref q2, .ref q3, .ref q4, .int 0])), (q1, .inl (d.2.1, 12, .inl (fun _ => 0))), (q2, .inl (d.2.1, 48, .inl (fun _ => 0))), (q3, .inl (d.2.1, 48, .inl (fun _ => 0))), (q4, .inl (d.2.1, 972, .inl (fun _ => 0)))] := hD
    refine lv_aload_n hx hb dX7_init_37 rfl (lv_at hl 0 rfl) ?_
    refine lv_iconst (v := 0) hx hb dX7_init_38 (by decide) ?_
    refine va_put (D := d.1) (ci := 6) (v := .int 0) (ty := tyX7 7) (C := RX7) (T := TX7) (N := 8) hx hb hts nn_X7 tyX7 tyX7_ok nmX7 hown hK hP hD hS 0 rfl rfl 7 (by decide) (hts _ kf_X7_24) (fun _ h9 => h9) rfl (by decide +kernel) rfl rfl (Nat.le_of_ble_eq_true rfl) dX7_init_39 (fun H locs hP hD hS => ?_)
    have hP : va_P d.1 vwCl [(h0, .inr (6, [.int 0, .int 0, .int 0, .ref q1, .ref q2, .ref q3, .ref q4, .int 0])), (q1, .inl (d.2.1, 12, .inl (fun _ => 0))), (q2, .inl (d.2.1, 48, .inl (fun _ => 0))), (q3, .inl (d.2.1, 48, .inl (fun _ => 0))), (q4, .inl (d.2.1, 972, .inl (fun _ => 0)))] H := hP
    have hD : va_D A [(h0, .inr (6, [.int 0, .int 0, .int 0, .ref q1, .ref q2, .ref q3, .ref q4, .int 0])), (q1, .inl (d.2.1, 12, .inl (fun _ => 0))), (q2, .inl (d.2.1, 48, .inl (fun _ => 0))), (q3, .inl (d.2.1, 48, .inl (fun _ => 0))), (q4, .inl (d.2.1, 972, .inl (fun _ => 0)))] := hD
    refine lv_aload_n hx hb dX7_init_42 rfl (lv_at hl 0 rfl) ?_
    refine lv_iload_n hx hb dX7_init_43 rfl (lv_at hl 1 rfl) ?_
    refine va_putF (D := d.1) (ci := 6) (v := .int 1) (ty := tyX7 0) (C := RX7) (T := TX7) (N := 8) hx hb hts nn_X7 tyX7 tyX7_ok nmX7 hown hK hP hD hS 0 rfl rfl 0 (by decide) (hts _ kf_X7_28) (fun _ h9 => h9) rfl hin rfl (by decide +kernel) rfl rfl (Nat.le_of_ble_eq_true rfl) dX7_init_44 (fun H locs hP hD hS => ?_)
    have hP : va_P d.1 vwCl [(h0, .inr (6, [.int 1, .int 0, .int 0, .ref q1, .ref q2, .ref q3, .ref q4, .int 0])), (q1, .inl (d.2.1, 12, .inl (fun _ => 0))), (q2, .inl (d.2.1, 48, .inl (fun _ => 0))), (q3, .inl (d.2.1, 48, .inl (fun _ => 0))), (q4, .inl (d.2.1, 972, .inl (fun _ => 0)))] H := hP
    have hD : va_D A [(h0, .inr (6, [.int 1, .int 0, .int 0, .ref q1, .ref q2, .ref q3, .ref q4, .int 0])), (q1, .inl (d.2.1, 12, .inl (fun _ => 0))), (q2, .inl (d.2.1, 48, .inl (fun _ => 0))), (q3, .inl (d.2.1, 48, .inl (fun _ => 0))), (q4, .inl (d.2.1, 972, .inl (fun _ => 0)))] := hD
    refine lv_aload_n hx hb dX7_init_47 rfl (lv_at hl 0 rfl) ?_
    refine lv_iconst (v := 1) hx hb dX7_init_48 (by decide) ?_
    refine lv_iload_n hx hb dX7_init_49 rfl (lv_at hl 1 rfl) ?_
    refine lv_ishl hx hb dX7_init_50 ?_
    refine va_putF (D := d.1) (ci := 6) (v := .int ((1 : Int32) <<< ((1 : Int32) &&& 31))) (ty := tyX7 1) (C := RX7) (T := TX7) (N := 8) hx hb hts nn_X7 tyX7 tyX7_ok nmX7 hown hK hP hD hS 0 rfl rfl 1 (by decide) (hts _ kf_X7_31) (fun _ h9 => h9) rfl hin rfl (by decide +kernel) rfl rfl (Nat.le_of_ble_eq_true rfl) dX7_init_51 (fun H locs hP hD hS => ?_)
    have hP : va_P d.1 vwCl [(h0, .inr (6, [.int 1, .int ((1 : Int32) <<< ((1 : Int32) &&& 31)), .int 0, .ref q1, .ref q2, .ref q3, .ref q4, .int 0])), (q1, .inl (d.2.1, 12, .inl (fun _ => 0))), (q2, .inl (d.2.1, 48, .inl (fun _ => 0))), (q3, .inl (d.2.1, 48, .inl (fun _ => 0))), (q4, .inl (d.2.1, 972, .inl (fun _ => 0)))] H := hP
    have hD : va_D A [(h0, .inr (6, [.int 1, .int ((1 : Int32) <<< ((1 : Int32) &&& 31)), .int 0, .ref q1, .ref q2, .ref q3, .ref q4, .int 0])), (q1, .inl (d.2.1, 12, .inl (fun _ => 0))), (q2, .inl (d.2.1, 48, .inl (fun _ => 0))), (q3, .inl (d.2.1, 48, .inl (fun _ => 0))), (q4, .inl (d.2.1, 972, .inl (fun _ => 0)))] := hD
    refine lv_iconst (v := 1) hx hb dX7_init_54 (by decide) ?_
    refine lv_istore_n (lv' := [(2, .int 1), (0, .ref h0), (1, .int 1)]) hx hb dX7_init_55 rfl hl (by decide) rfl (fun ls hl => ?_)
    refine lv_iconst (v := 0) hx hb dX7_init_56 (by decide) ?_
    refine lv_istore_n (lv' := [(3, .int 0), (2, .int 1), (0, .ref h0), (1, .int 1)]) hx hb dX7_init_57 rfl hl (by decide) rfl (fun ls hl => ?_)
    refine lv_iload_n hx hb dX7_init_58 rfl (lv_at hl 0 rfl) ?_
    refine lv_iload_n hx hb dX7_init_59 rfl (lv_at hl 3 rfl) ?_
    refine lv_icmp_ge (tgt := 73) hx hb dX7_init_60 (by decide) (fun hc => absurd hc (show ¬ (1 : Int32) ≤ 0 by decide)) (fun _ => ?_)
    refine lv_iload_n hx hb dX7_init_63 rfl (lv_at hl 1 rfl) ?_
    refine lv_iconst (v := 3) hx hb dX7_init_64 (by decide) ?_
    refine lv_imul hx hb dX7_init_65 ?_
    refine W.eq (g2 := F0 m 66 ls [.int 3]) rfl ?_
    refine lv_istore_n (lv' := [(2, .int 3), (3, .int 0), (0, .ref h0), (1, .int 1)]) hx hb dX7_init_66 rfl hl (by decide) rfl (fun ls hl => ?_)
    refine lv_iinc (v := 1) (lv' := [(3, .int 1), (2, .int 3), (0, .ref h0), (1, .int 1)]) hx hb dX7_init_67 hl (k := 1) rfl (by decide) (by decide) rfl (fun ls hl => ?_)
    refine lv_goto (tgt := 58) hx hb dX7_init_70 (by decide) ?_
    refine lv_iload_n hx hb dX7_init_58 rfl (lv_at hl 0 rfl) ?_
    refine lv_iload_n hx hb dX7_init_59 rfl (lv_at hl 3 rfl) ?_
    refine lv_icmp_ge (tgt := 73) hx hb dX7_init_60 (by decide) (fun _ => ?_) (fun hc => absurd (show (1 : Int32) ≤ 1 by decide) hc)
    refine lv_aload_n hx hb dX7_init_73 rfl (lv_at hl 2 rfl) ?_
    refine lv_iload_n hx hb dX7_init_74 rfl (lv_at hl 1 rfl) ?_
    refine va_putF (D := d.1) (ci := 6) (v := .int 3) (ty := tyX7 2) (C := RX7) (T := TX7) (N := 8) hx hb hts nn_X7 tyX7 tyX7_ok nmX7 hown hK hP hD hS 0 rfl rfl 2 (by decide) (hts _ kf_X7_34) (fun _ h9 => h9) rfl hin rfl (by decide +kernel) rfl rfl (Nat.le_of_ble_eq_true rfl) dX7_init_75 (fun H locs hP hD hS => ?_)
    have hP : va_P d.1 vwCl [(h0, .inr (6, [.int 1, .int ((1 : Int32) <<< ((1 : Int32) &&& 31)), .int 3, .ref q1, .ref q2, .ref q3, .ref q4, .int 0])), (q1, .inl (d.2.1, 12, .inl (fun _ => 0))), (q2, .inl (d.2.1, 48, .inl (fun _ => 0))), (q3, .inl (d.2.1, 48, .inl (fun _ => 0))), (q4, .inl (d.2.1, 972, .inl (fun _ => 0)))] H := hP
    have hD : va_D A [(h0, .inr (6, [.int 1, .int ((1 : Int32) <<< ((1 : Int32) &&& 31)), .int 3, .ref q1, .ref q2, .ref q3, .ref q4, .int 0])), (q1, .inl (d.2.1, 12, .inl (fun _ => 0))), (q2, .inl (d.2.1, 48, .inl (fun _ => 0))), (q3, .inl (d.2.1, 48, .inl (fun _ => 0))), (q4, .inl (d.2.1, 972, .inl (fun _ => 0)))] := hD
    have hP9 := hP.sub (ws' := [(h0, .inr (6, [.int 1, .int ((1 : Int32) <<< ((1 : Int32) &&& 31)), .int 3, .ref q1, .ref q2, .ref q3, .ref q4, .int 0])), (q1, .inl (d.2.1, 12, .inl (fun _ => 0))), (q2, .inl (d.2.1, 48, .inl (fun _ => 0))), (q3, .inl (d.2.1, 48, .inl (fun _ => 0))), (q4, .inl (d.2.1, 972, .inl (fun _ => 0)))]) [0, 1, 2, 3, 4] rfl
    have hD9 := hD.sub (ws' := [(h0, .inr (6, [.int 1, .int ((1 : Int32) <<< ((1 : Int32) &&& 31)), .int 3, .ref q1, .ref q2, .ref q3, .ref q4, .int 0])), (q1, .inl (d.2.1, 12, .inl (fun _ => 0))), (q2, .inl (d.2.1, 48, .inl (fun _ => 0))), (q3, .inl (d.2.1, 48, .inl (fun _ => 0))), (q4, .inl (d.2.1, 972, .inl (fun _ => 0)))]) [0, 1, 2, 3, 4] (by decide) rfl
    exact W.vret hx hb hr (fun t ht hW => ⟨⟨(fun i : Nat => if i = 0 then q1 else if i = 1 then q2 else if i = 2 then q3 else if i = 3 then q4 else 0), rfl, trivial, by rw [ht]; exact hP9, va_K.moved hW.alike hK, by rw [hAe]; exact hD9⟩, by rw [hAe]; exact hS.F ht⟩) hS.2.2 dX7_init_78
  · skip
    refine lv_aload_n hx hb dX7_init_0 rfl (lv_at hl 0 rfl) ?_
    refine W.objInit hx hb hown (hts _ mo_X7) (hts _ ob_im) (hts _ ob_co) rfl (by rw [hml]; exact hl.1) rfl dX7_init_1 (Nat.le_of_ble_eq_true rfl) (Nat.le_of_ble_eq_true rfl) ?_
    refine W.eq (g2 := F0 m 4 ls []) rfl ?_
    refine lv_aload_n hx hb dX7_init_4 rfl (lv_at hl 0 rfl) ?_
    refine lv_bipush (v := 12) hx hb dX7_init_5 (by decide) ?_
    refine y_newa (R := rmcX7) 12 hx hb (hts _ ar_I) hK rfl hP hD hS hA (by decide) (by decide) (Nat.le_of_ble_eq_true rfl) (Nat.le_of_ble_eq_true rfl) (Nat.le_of_ble_eq_true rfl) dX7_init_7 (fun q1 H hP hD hS => ?_)
    have hP : va_P d.1 vwCl [(h0, .inr (6, [.int 0, .int 0, .int 0, .null, .null, .null, .null, .int 0])), (q1, .inl (d.2.1, 12, .inl (fun _ => 0)))] H := hP
    have hD : va_D A [(h0, .inr (6, [.int 0, .int 0, .int 0, .null, .null, .null, .null, .int 0])), (q1, .inl (d.2.1, 12, .inl (fun _ => 0)))] := hD
    refine W.widen (k := 1) (n := 12) (Nat.le_of_ble_eq_true rfl) (Nat.le_of_ble_eq_true rfl) ?_
    refine va_putF (D := d.1) (ci := 6) (v := .ref q1) (ty := tyX7 3) (C := RX7) (T := TX7) (N := 8) hx hb hts nn_X7 tyX7 tyX7_ok nmX7 hown hK hP hD hS 0 rfl rfl 3 (by decide) (hts _ kf_X7_9) (fun _ h9 => h9) rfl hin rfl (by decide +kernel) rfl rfl (Nat.le_of_ble_eq_true rfl) dX7_init_9 (fun H locs hP hD hS => ?_)
    have hP : va_P d.1 vwCl [(h0, .inr (6, [.int 0, .int 0, .int 0, .ref q1, .null, .null, .null, .int 0])), (q1, .inl (d.2.1, 12, .inl (fun _ => 0)))] H := hP
    have hD : va_D A [(h0, .inr (6, [.int 0, .int 0, .int 0, .ref q1, .null, .null, .null, .int 0])), (q1, .inl (d.2.1, 12, .inl (fun _ => 0)))] := hD
    refine lv_aload_n hx hb dX7_init_12 rfl (lv_at hl 0 rfl) ?_
    refine lv_bipush (v := 48) hx hb dX7_init_13 (by decide) ?_
    refine y_newa (R := rmcX7) 48 hx hb (hts _ ar_I) hK rfl hP hD hS hA (by decide) (by decide) (Nat.le_of_ble_eq_true rfl) (Nat.le_of_ble_eq_true rfl) (Nat.le_of_ble_eq_true rfl) dX7_init_15 (fun q2 H hP hD hS => ?_)
    have hP : va_P d.1 vwCl [(h0, .inr (6, [.int 0, .int 0, .int 0, .ref q1, .null, .null, .null, .int 0])), (q1, .inl (d.2.1, 12, .inl (fun _ => 0))), (q2, .inl (d.2.1, 48, .inl (fun _ => 0)))] H := hP
    have hD : va_D A [(h0, .inr (6, [.int 0, .int 0, .int 0, .ref q1, .null, .null, .null, .int 0])), (q1, .inl (d.2.1, 12, .inl (fun _ => 0))), (q2, .inl (d.2.1, 48, .inl (fun _ => 0)))] := hD
    refine W.widen (k := 2) (n := 60) (Nat.le_of_ble_eq_true rfl) (Nat.le_of_ble_eq_true rfl) ?_
    refine va_putF (D := d.1) (ci := 6) (v := .ref q2) (ty := tyX7 4) (C := RX7) (T := TX7) (N := 8) hx hb hts nn_X7 tyX7 tyX7_ok nmX7 hown hK hP hD hS 0 rfl rfl 4 (by decide) (hts _ kf_X7_15) (fun _ h9 => h9) rfl hin rfl (by decide +kernel) rfl rfl (Nat.le_of_ble_eq_true rfl) dX7_init_17 (fun H locs hP hD hS => ?_)
    have hP : va_P d.1 vwCl [(h0, .inr (6, [.int 0, .int 0, .int 0, .ref q1, .ref q2, .null, .null, .int 0])), (q1, .inl (d.2.1, 12, .inl (fun _ => 0))), (q2, .inl (d.2.1, 48, .inl (fun _ => 0)))] H := hP
    have hD : va_D A [(h0, .inr (6, [.int 0, .int 0, .int 0, .ref q1, .ref q2, .null, .null, .int 0])), (q1, .inl (d.2.1, 12, .inl (fun _ => 0))), (q2, .inl (d.2.1, 48, .inl (fun _ => 0)))] := hD
    refine lv_aload_n hx hb dX7_init_20 rfl (lv_at hl 0 rfl) ?_
    refine lv_bipush (v := 48) hx hb dX7_init_21 (by decide) ?_
    refine y_newa (R := rmcX7) 48 hx hb (hts _ ar_I) hK rfl hP hD hS hA (by decide) (by decide) (Nat.le_of_ble_eq_true rfl) (Nat.le_of_ble_eq_true rfl) (Nat.le_of_ble_eq_true rfl) dX7_init_23 (fun q3 H hP hD hS => ?_)
    have hP : va_P d.1 vwCl [(h0, .inr (6, [.int 0, .int 0, .int 0, .ref q1, .ref q2, .null, .null, .int 0])), (q1, .inl (d.2.1, 12, .inl (fun _ => 0))), (q2, .inl (d.2.1, 48, .inl (fun _ => 0))), (q3, .inl (d.2.1, 48, .inl (fun _ => 0)))] H := hP
    have hD : va_D A [(h0, .inr (6, [.int 0, .int 0, .int 0, .ref q1, .ref q2, .null, .null, .int 0])), (q1, .inl (d.2.1, 12, .inl (fun _ => 0))), (q2, .inl (d.2.1, 48, .inl (fun _ => 0))), (q3, .inl (d.2.1, 48, .inl (fun _ => 0)))] := hD
    refine W.widen (k := 3) (n := 108) (Nat.le_of_ble_eq_true rfl) (Nat.le_of_ble_eq_true rfl) ?_
    refine va_putF (D := d.1) (ci := 6) (v := .ref q3) (ty := tyX7 5) (C := RX7) (T := TX7) (N := 8) hx hb hts nn_X7 tyX7 tyX7_ok nmX7 hown hK hP hD hS 0 rfl rfl 5 (by decide) (hts _ kf_X7_18) (fun _ h9 => h9) rfl hin rfl (by decide +kernel) rfl rfl (Nat.le_of_ble_eq_true rfl) dX7_init_25 (fun H locs hP hD hS => ?_)
    have hP : va_P d.1 vwCl [(h0, .inr (6, [.int 0, .int 0, .int 0, .ref q1, .ref q2, .ref q3, .null, .int 0])), (q1, .inl (d.2.1, 12, .inl (fun _ => 0))), (q2, .inl (d.2.1, 48, .inl (fun _ => 0))), (q3, .inl (d.2.1, 48, .inl (fun _ => 0)))] H := hP
    have hD : va_D A [(h0, .inr (6, [.int 0, .int 0, .int 0, .ref q1, .ref q2, .ref q3, .null, .int 0])), (q1, .inl (d.2.1, 12, .inl (fun _ => 0))), (q2, .inl (d.2.1, 48, .inl (fun _ => 0))), (q3, .inl (d.2.1, 48, .inl (fun _ => 0)))] := hD
    refine lv_aload_n hx hb dX7_init_28 rfl (lv_at hl 0 rfl) ?_
    refine lv_sipush (v := 972) hx hb dX7_init_29 (by decide) ?_
    refine y_newa (R := rmcX7) 972 hx hb (hts _ ar_I) hK rfl hP hD hS hA (by decide) (by decide) (Nat.le_of_ble_eq_true rfl) (Nat.le_of_ble_eq_true rfl) (Nat.le_of_ble_eq_true rfl) dX7_init_32 (fun q4 H hP hD hS => ?_)
    have hP : va_P d.1 vwCl [(h0, .inr (6, [.int 0, .int 0, .int 0, .ref q1, .ref q2, .ref q3, .null, .int 0])), (q1, .inl (d.2.1, 12, .inl (fun _ => 0))), (q2, .inl (d.2.1, 48, .inl (fun _ => 0))), (q3, .inl (d.2.1, 48, .inl (fun _ => 0))), (q4, .inl (d.2.1, 972, .inl (fun _ => 0)))] H := hP
    have hD : va_D A [(h0, .inr (6, [.int 0, .int 0, .int 0, .ref q1, .ref q2, .ref q3, .null, .int 0])), (q1, .inl (d.2.1, 12, .inl (fun _ => 0))), (q2, .inl (d.2.1, 48, .inl (fun _ => 0))), (q3, .inl (d.2.1, 48, .inl (fun _ => 0))), (q4, .inl (d.2.1, 972, .inl (fun _ => 0)))] := hD
    refine W.widen (k := 4) (n := 1080) (Nat.le_of_ble_eq_true rfl) (Nat.le_of_ble_eq_true rfl) ?_
    refine va_putF (D := d.1) (ci := 6) (v := .ref q4) (ty := tyX7 6) (C := RX7) (T := TX7) (N := 8) hx hb hts nn_X7 tyX7 tyX7_ok nmX7 hown hK hP hD hS 0 rfl rfl 6 (by decide) (hts _ kf_X7_21) (fun _ h9 => h9) rfl hin rfl (by decide +kernel) rfl rfl (Nat.le_of_ble_eq_true rfl) dX7_init_34 (fun H locs hP hD hS => ?_)
    have hP : va_P d.1 vwCl [(h0, .inr (6, [.int 0, .int 0, .int 0, .ref q1, .ref q2, .ref q3, .ref q4, .int 0])), (q1, .inl (d.2.1, 12, .inl (fun _ => 0))), (q2, .inl (d.2.1, 48, .inl (fun _ => 0))), (q3, .inl (d.2.1, 48, .inl (fun _ => 0))), (q4, .inl (d.2.1, 972, .inl (fun _ => 0)))] H := hP
    have hD : va_D A [(h0, .inr (6, [.int 0, .int 0, .int 0, .ref q1, .ref q2, .ref q3, .ref q4, .int 0])), (q1, .inl (d.2.1, 12, .inl (fun _ => 0))), (q2, .inl (d.2.1, 48, .inl (fun _ => 0))), (q3, .inl (d.2.1, 48, .inl (fun _ => 0))), (q4, .inl (d.2.1, 972, .inl (fun _ => 0)))] := hD
    refine lv_aload_n hx hb dX7_init_37 rfl (lv_at hl 0 rfl) ?_
    refine lv_iconst (v := 0) hx hb dX7_init_38 (by decide) ?_
    refine va_put (D := d.1) (ci := 6) (v := .int 0) (ty := tyX7 7) (C := RX7) (T := TX7) (N := 8) hx hb hts nn_X7 tyX7 tyX7_ok nmX7 hown hK hP hD hS 0 rfl rfl 7 (by decide) (hts _ kf_X7_24) (fun _ h9 => h9) rfl (by decide +kernel) rfl rfl (Nat.le_of_ble_eq_true rfl) dX7_init_39 (fun H locs hP hD hS => ?_)
    have hP : va_P d.1 vwCl [(h0, .inr (6, [.int 0, .int 0, .int 0, .ref q1, .ref q2, .ref q3, .ref q4, .int 0])), (q1, .inl (d.2.1, 12, .inl (fun _ => 0))), (q2, .inl (d.2.1, 48, .inl (fun _ => 0))), (q3, .inl (d.2.1, 48, .inl (fun _ => 0))), (q4, .inl (d.2.1, 972, .inl (fun _ => 0)))] H := hP
    have hD : va_D A [(h0, .inr (6, [.int 0, .int 0, .int 0, .ref q1, .ref q2, .ref q3, .ref q4, .int 0])), (q1, .inl (d.2.1, 12, .inl (fun _ => 0))), (q2, .inl (d.2.1, 48, .inl (fun _ => 0))), (q3, .inl (d.2.1, 48, .inl (fun _ => 0))), (q4, .inl (d.2.1, 972, .inl (fun _ => 0)))] := hD
    refine lv_aload_n hx hb dX7_init_42 rfl (lv_at hl 0 rfl) ?_
    refine lv_iload_n hx hb dX7_init_43 rfl (lv_at hl 1 rfl) ?_
    refine va_putF (D := d.1) (ci := 6) (v := .int 2) (ty := tyX7 0) (C := RX7) (T := TX7) (N := 8) hx hb hts nn_X7 tyX7 tyX7_ok nmX7 hown hK hP hD hS 0 rfl rfl 0 (by decide) (hts _ kf_X7_28) (fun _ h9 => h9) rfl hin rfl (by decide +kernel) rfl rfl (Nat.le_of_ble_eq_true rfl) dX7_init_44 (fun H locs hP hD hS => ?_)
    have hP : va_P d.1 vwCl [(h0, .inr (6, [.int 2, .int 0, .int 0, .ref q1, .ref q2, .ref q3, .ref q4, .int 0])), (q1, .inl (d.2.1, 12, .inl (fun _ => 0))), (q2, .inl (d.2.1, 48, .inl (fun _ => 0))), (q3, .inl (d.2.1, 48, .inl (fun _ => 0))), (q4, .inl (d.2.1, 972, .inl (fun _ => 0)))] H := hP
    have hD : va_D A [(h0, .inr (6, [.int 2, .int 0, .int 0, .ref q1, .ref q2, .ref q3, .ref q4, .int 0])), (q1, .inl (d.2.1, 12, .inl (fun _ => 0))), (q2, .inl (d.2.1, 48, .inl (fun _ => 0))), (q3, .inl (d.2.1, 48, .inl (fun _ => 0))), (q4, .inl (d.2.1, 972, .inl (fun _ => 0)))] := hD
    refine lv_aload_n hx hb dX7_init_47 rfl (lv_at hl 0 rfl) ?_
    refine lv_iconst (v := 1) hx hb dX7_init_48 (by decide) ?_
    refine lv_iload_n hx hb dX7_init_49 rfl (lv_at hl 1 rfl) ?_
    refine lv_ishl hx hb dX7_init_50 ?_
    refine va_putF (D := d.1) (ci := 6) (v := .int ((1 : Int32) <<< ((2 : Int32) &&& 31))) (ty := tyX7 1) (C := RX7) (T := TX7) (N := 8) hx hb hts nn_X7 tyX7 tyX7_ok nmX7 hown hK hP hD hS 0 rfl rfl 1 (by decide) (hts _ kf_X7_31) (fun _ h9 => h9) rfl hin rfl (by decide +kernel) rfl rfl (Nat.le_of_ble_eq_true rfl) dX7_init_51 (fun H locs hP hD hS => ?_)
    have hP : va_P d.1 vwCl [(h0, .inr (6, [.int 2, .int ((1 : Int32) <<< ((2 : Int32) &&& 31)), .int 0, .ref q1, .ref q2, .ref q3, .ref q4, .int 0])), (q1, .inl (d.2.1, 12, .inl (fun _ => 0))), (q2, .inl (d.2.1, 48, .inl (fun _ => 0))), (q3, .inl (d.2.1, 48, .inl (fun _ => 0))), (q4, .inl (d.2.1, 972, .inl (fun _ => 0)))] H := hP
    have hD : va_D A [(h0, .inr (6, [.int 2, .int ((1 : Int32) <<< ((2 : Int32) &&& 31)), .int 0, .ref q1, .ref q2, .ref q3, .ref q4, .int 0])), (q1, .inl (d.2.1, 12, .inl (fun _ => 0))), (q2, .inl (d.2.1, 48, .inl (fun _ => 0))), (q3, .inl (d.2.1, 48, .inl (fun _ => 0))), (q4, .inl (d.2.1, 972, .inl (fun _ => 0)))] := hD
    refine lv_iconst (v := 1) hx hb dX7_init_54 (by decide) ?_
    refine lv_istore_n (lv' := [(2, .int 1), (0, .ref h0), (1, .int 2)]) hx hb dX7_init_55 rfl hl (by decide) rfl (fun ls hl => ?_)
    refine lv_iconst (v := 0) hx hb dX7_init_56 (by decide) ?_
    refine lv_istore_n (lv' := [(3, .int 0), (2, .int 1), (0, .ref h0), (1, .int 2)]) hx hb dX7_init_57 rfl hl (by decide) rfl (fun ls hl => ?_)
    refine lv_iload_n hx hb dX7_init_58 rfl (lv_at hl 0 rfl) ?_
    refine lv_iload_n hx hb dX7_init_59 rfl (lv_at hl 3 rfl) ?_
    refine lv_icmp_ge (tgt := 73) hx hb dX7_init_60 (by decide) (fun hc => absurd hc (show ¬ (2 : Int32) ≤ 0 by decide)) (fun _ => ?_)
    refine lv_iload_n hx hb dX7_init_63 rfl (lv_at hl 1 rfl) ?_
    refine lv_iconst (v := 3) hx hb dX7_init_64 (by decide) ?_
    refine lv_imul hx hb dX7_init_65 ?_
    refine W.eq (g2 := F0 m 66 ls [.int 3]) rfl ?_
    refine lv_istore_n (lv' := [(2, .int 3), (3, .int 0), (0, .ref h0), (1, .int 2)]) hx hb dX7_init_66 rfl hl (by decide) rfl (fun ls hl => ?_)
    refine lv_iinc (v := 1) (lv' := [(3, .int 1), (2, .int 3), (0, .ref h0), (1, .int 2)]) hx hb dX7_init_67 hl (k := 1) rfl (by decide) (by decide) rfl (fun ls hl => ?_)
    refine lv_goto (tgt := 58) hx hb dX7_init_70 (by decide) ?_
    refine lv_iload_n hx hb dX7_init_58 rfl (lv_at hl 0 rfl) ?_
    refine lv_iload_n hx hb dX7_init_59 rfl (lv_at hl 3 rfl) ?_
    refine lv_icmp_ge (tgt := 73) hx hb dX7_init_60 (by decide) (fun hc => absurd hc (show ¬ (2 : Int32) ≤ 1 by decide)) (fun _ => ?_)
    refine lv_iload_n hx hb dX7_init_63 rfl (lv_at hl 1 rfl) ?_
    refine lv_iconst (v := 3) hx hb dX7_init_64 (by decide) ?_
    refine lv_imul hx hb dX7_init_65 ?_
    refine W.eq (g2 := F0 m 66 ls [.int 9]) rfl ?_
    refine lv_istore_n (lv' := [(2, .int 9), (3, .int 1), (0, .ref h0), (1, .int 2)]) hx hb dX7_init_66 rfl hl (by decide) rfl (fun ls hl => ?_)
    refine lv_iinc (v := 2) (lv' := [(3, .int 2), (2, .int 9), (0, .ref h0), (1, .int 2)]) hx hb dX7_init_67 hl (k := 1) rfl (by decide) (by decide) rfl (fun ls hl => ?_)
    refine lv_goto (tgt := 58) hx hb dX7_init_70 (by decide) ?_
    refine lv_iload_n hx hb dX7_init_58 rfl (lv_at hl 0 rfl) ?_
    refine lv_iload_n hx hb dX7_init_59 rfl (lv_at hl 3 rfl) ?_
    refine lv_icmp_ge (tgt := 73) hx hb dX7_init_60 (by decide) (fun _ => ?_) (fun hc => absurd (show (2 : Int32) ≤ 2 by decide) hc)
    refine lv_aload_n hx hb dX7_init_73 rfl (lv_at hl 2 rfl) ?_
    refine lv_iload_n hx hb dX7_init_74 rfl (lv_at hl 1 rfl) ?_
    refine va_putF (D := d.1) (ci := 6) (v := .int 9) (ty := tyX7 2) (C := RX7) (T := TX7) (N := 8) hx hb hts nn_X7 tyX7 tyX7_ok nmX7 hown hK hP hD hS 0 rfl rfl 2 (by decide) (hts _ kf_X7_34) (fun _ h9 => h9) rfl hin rfl (by decide +kernel) rfl rfl (Nat.le_of_ble_eq_true rfl) dX7_init_75 (fun H locs hP hD hS => ?_)
    have hP : va_P d.1 vwCl [(h0, .inr (6, [.int 2, .int ((1 : Int32) <<< ((2 : Int32) &&& 31)), .int 9, .ref q1, .ref q2, .ref q3, .ref q4, .int 0])), (q1, .inl (d.2.1, 12, .inl (fun _ => 0))), (q2, .inl (d.2.1, 48, .inl (fun _ => 0))), (q3, .inl (d.2.1, 48, .inl (fun _ => 0))), (q4, .inl (d.2.1, 972, .inl (fun _ => 0)))] H := hP
    have hD : va_D A [(h0, .inr (6, [.int 2, .int ((1 : Int32) <<< ((2 : Int32) &&& 31)), .int 9, .ref q1, .ref q2, .ref q3, .ref q4, .int 0])), (q1, .inl (d.2.1, 12, .inl (fun _ => 0))), (q2, .inl (d.2.1, 48, .inl (fun _ => 0))), (q3, .inl (d.2.1, 48, .inl (fun _ => 0))), (q4, .inl (d.2.1, 972, .inl (fun _ => 0)))] := hD
    have hP9 := hP.sub (ws' := [(h0, .inr (6, [.int 2, .int ((1 : Int32) <<< ((2 : Int32) &&& 31)), .int 9, .ref q1, .ref q2, .ref q3, .ref q4, .int 0])), (q1, .inl (d.2.1, 12, .inl (fun _ => 0))), (q2, .inl (d.2.1, 48, .inl (fun _ => 0))), (q3, .inl (d.2.1, 48, .inl (fun _ => 0))), (q4, .inl (d.2.1, 972, .inl (fun _ => 0)))]) [0, 1, 2, 3, 4] rfl
    have hD9 := hD.sub (ws' := [(h0, .inr (6, [.int 2, .int ((1 : Int32) <<< ((2 : Int32) &&& 31)), .int 9, .ref q1, .ref q2, .ref q3, .ref q4, .int 0])), (q1, .inl (d.2.1, 12, .inl (fun _ => 0))), (q2, .inl (d.2.1, 48, .inl (fun _ => 0))), (q3, .inl (d.2.1, 48, .inl (fun _ => 0))), (q4, .inl (d.2.1, 972, .inl (fun _ => 0)))]) [0, 1, 2, 3, 4] (by decide) rfl
    exact W.vret hx hb hr (fun t ht hW => ⟨⟨(fun i : Nat => if i = 0 then q1 else if i = 1 then q2 else if i = 2 then q3 else if i = 3 then q4 else 0), rfl, trivial, by rw [ht]; exact hP9, va_K.moved hW.alike hK, by rw [hAe]; exact hD9⟩, by rw [hAe]; exact hS.F ht⟩) hS.2.2 dX7_init_78
  · skip
    refine lv_aload_n hx hb dX7_init_0 rfl (lv_at hl 0 rfl) ?_
    refine W.objInit hx hb hown (hts _ mo_X7) (hts _ ob_im) (hts _ ob_co) rfl (by rw [hml]; exact hl.1) rfl dX7_init_1 (Nat.le_of_ble_eq_true rfl) (Nat.le_of_ble_eq_true rfl) ?_
    refine W.eq (g2 := F0 m 4 ls []) rfl ?_
    refine lv_aload_n hx hb dX7_init_4 rfl (lv_at hl 0 rfl) ?_
    refine lv_bipush (v := 12) hx hb dX7_init_5 (by decide) ?_
    refine y_newa (R := rmcX7) 12 hx hb (hts _ ar_I) hK rfl hP hD hS hA (by decide) (by decide) (Nat.le_of_ble_eq_true rfl) (Nat.le_of_ble_eq_true rfl) (Nat.le_of_ble_eq_true rfl) dX7_init_7 (fun q1 H hP hD hS => ?_)
    have hP : va_P d.1 vwCl [(h0, .inr (6, [.int 0, .int 0, .int 0, .null, .null, .null, .null, .int 0])), (q1, .inl (d.2.1, 12, .inl (fun _ => 0)))] H := hP
    have hD : va_D A [(h0, .inr (6, [.int 0, .int 0, .int 0, .null, .null, .null, .null, .int 0])), (q1, .inl (d.2.1, 12, .inl (fun _ => 0)))] := hD
    refine W.widen (k := 1) (n := 12) (Nat.le_of_ble_eq_true rfl) (Nat.le_of_ble_eq_true rfl) ?_
    refine va_putF (D := d.1) (ci := 6) (v := .ref q1) (ty := tyX7 3) (C := RX7) (T := TX7) (N := 8) hx hb hts nn_X7 tyX7 tyX7_ok nmX7 hown hK hP hD hS 0 rfl rfl 3 (by decide) (hts _ kf_X7_9) (fun _ h9 => h9) rfl hin rfl (by decide +kernel) rfl rfl (Nat.le_of_ble_eq_true rfl) dX7_init_9 (fun H locs hP hD hS => ?_)
    have hP : va_P d.1 vwCl [(h0, .inr (6, [.int 0, .int 0, .int 0, .ref q1, .null, .null, .null, .int 0])), (q1, .inl (d.2.1, 12, .inl (fun _ => 0)))] H := hP
    have hD : va_D A [(h0, .inr (6, [.int 0, .int 0, .int 0, .ref q1, .null, .null, .null, .int 0])), (q1, .inl (d.2.1, 12, .inl (fun _ => 0)))] := hD
    refine lv_aload_n hx hb dX7_init_12 rfl (lv_at hl 0 rfl) ?_
    refine lv_bipush (v := 48) hx hb dX7_init_13 (by decide) ?_
    refine y_newa (R := rmcX7) 48 hx hb (hts _ ar_I) hK rfl hP hD hS hA (by decide) (by decide) (Nat.le_of_ble_eq_true rfl) (Nat.le_of_ble_eq_true rfl) (Nat.le_of_ble_eq_true rfl) dX7_init_15 (fun q2 H hP hD hS => ?_)
    have hP : va_P d.1 vwCl [(h0, .inr (6, [.int 0, .int 0, .int 0, .ref q1, .null, .null, .null, .int 0])), (q1, .inl (d.2.1, 12, .inl (fun _ => 0))), (q2, .inl (d.2.1, 48, .inl (fun _ => 0)))] H := hP
    have hD : va_D A [(h0, .inr (6, [.int 0, .int 0, .int 0, .ref q1, .null, .null, .null, .int 0])), (q1, .inl (d.2.1, 12, .inl (fun _ => 0))), (q2, .inl (d.2.1, 48, .inl (fun _ => 0)))] := hD
    refine W.widen (k := 2) (n := 60) (Nat.le_of_ble_eq_true rfl) (Nat.le_of_ble_eq_true rfl) ?_
    refine va_putF (D := d.1) (ci := 6) (v := .ref q2) (ty := tyX7 4) (C := RX7) (T := TX7) (N := 8) hx hb hts nn_X7 tyX7 tyX7_ok nmX7 hown hK hP hD hS 0 rfl rfl 4 (by decide) (hts _ kf_X7_15) (fun _ h9 => h9) rfl hin rfl (by decide +kernel) rfl rfl (Nat.le_of_ble_eq_true rfl) dX7_init_17 (fun H locs hP hD hS => ?_)
    have hP : va_P d.1 vwCl [(h0, .inr (6, [.int 0, .int 0, .int 0, .ref q1, .ref q2, .null, .null, .int 0])), (q1, .inl (d.2.1, 12, .inl (fun _ => 0))), (q2, .inl (d.2.1, 48, .inl (fun _ => 0)))] H := hP
    have hD : va_D A [(h0, .inr (6, [.int 0, .int 0, .int 0, .ref q1, .ref q2, .null, .null, .int 0])), (q1, .inl (d.2.1, 12, .inl (fun _ => 0))), (q2, .inl (d.2.1, 48, .inl (fun _ => 0)))] := hD
    refine lv_aload_n hx hb dX7_init_20 rfl (lv_at hl 0 rfl) ?_
    refine lv_bipush (v := 48) hx hb dX7_init_21 (by decide) ?_
    refine y_newa (R := rmcX7) 48 hx hb (hts _ ar_I) hK rfl hP hD hS hA (by decide) (by decide) (Nat.le_of_ble_eq_true rfl) (Nat.le_of_ble_eq_true rfl) (Nat.le_of_ble_eq_true rfl) dX7_init_23 (fun q3 H hP hD hS => ?_)
    have hP : va_P d.1 vwCl [(h0, .inr (6, [.int 0, .int 0, .int 0, .ref q1, .ref q2, .null, .null, .int 0])), (q1, .inl (d.2.1, 12, .inl (fun _ => 0))), (q2, .inl (d.2.1, 48, .inl (fun _ => 0))), (q3, .inl (d.2.1, 48, .inl (fun _ => 0)))] H := hP
    have hD : va_D A [(h0, .inr (6, [.int 0, .int 0, .int 0, .ref q1, .ref q2, .null, .null, .int 0])), (q1, .inl (d.2.1, 12, .inl (fun _ => 0))), (q2, .inl (d.2.1, 48, .inl (fun _ => 0))), (q3, .inl (d.2.1, 48, .inl (fun _ => 0)))] := hD
    refine W.widen (k := 3) (n := 108) (Nat.le_of_ble_eq_true rfl) (Nat.le_of_ble_eq_true rfl) ?_
    refine va_putF (D := d.1) (ci := 6) (v := .ref q3) (ty := tyX7 5) (C := RX7) (T := TX7) (N := 8) hx hb hts nn_X7 tyX7 tyX7_ok nmX7 hown hK hP hD hS 0 rfl rfl 5 (by decide) (hts _ kf_X7_18) (fun _ h9 => h9) rfl hin rfl (by decide +kernel) rfl rfl (Nat.le_of_ble_eq_true rfl) dX7_init_25 (fun H locs hP hD hS => ?_)
    have hP : va_P d.1 vwCl [(h0, .inr (6, [.int 0, .int 0, .int 0, .ref q1, .ref q2, .ref q3, .null, .int 0])), (q1, .inl (d.2.1, 12, .inl (fun _ => 0))), (q2, .inl (d.2.1, 48, .inl (fun _ => 0))), (q3, .inl (d.2.1, 48, .inl (fun _ => 0)))] H := hP
    have hD : va_D A [(h0, .inr (6, [.int 0, .int 0, .int 0, .ref q1, .ref q2, .ref q3, .null, .int 0])), (q1, .inl (d.2.1, 12, .inl (fun _ => 0))), (q2, .inl (d.2.1, 48, .inl (fun _ => 0))), (q3, .inl (d.2.1, 48, .inl (fun _ => 0)))] := hD
    refine lv_aload_n hx hb dX7_init_28 rfl (lv_at hl 0 rfl) ?_
    refine lv_sipush (v := 972) hx hb dX7_init_29 (by decide) ?_
    refine y_newa (R := rmcX7) 972 hx hb (hts _ ar_I) hK rfl hP hD hS hA (by decide) (by decide) (Nat.le_of_ble_eq_true rfl) (Nat.le_of_ble_eq_true rfl) (Nat.le_of_ble_eq_true rfl) dX7_init_32 (fun q4 H hP hD hS => ?_)
    have hP : va_P d.1 vwCl [(h0, .inr (6, [.int 0, .int 0, .int 0, .ref q1, .ref q2, .ref q3, .null, .int 0])), (q1, .inl (d.2.1, 12, .inl (fun _ => 0))), (q2, .inl (d.2.1, 48, .inl (fun _ => 0))), (q3, .inl (d.2.1, 48, .inl (fun _ => 0))), (q4, .inl (d.2.1, 972, .inl (fun _ => 0)))] H := hP
    have hD : va_D A [(h0, .inr (6, [.int 0, .int 0, .int 0, .ref q1, .ref q2, .ref q3, .null, .int 0])), (q1, .inl (d.2.1, 12, .inl (fun _ => 0))), (q2, .inl (d.2.1, 48, .inl (fun _ => 0))), (q3, .inl (d.2.1, 48, .inl (fun _ => 0))), (q4, .inl (d.2.1, 972, .inl (fun _ => 0)))] := hD
    refine W.widen (k := 4) (n := 1080) (Nat.le_of_ble_eq_true rfl) (Nat.le_of_ble_eq_true rfl) ?_
    refine va_putF (D := d.1) (ci := 6) (v := .ref q4) (ty := tyX7 6) (C := RX7) (T := TX7) (N := 8) hx hb hts nn_X7 tyX7 tyX7_ok nmX7 hown hK hP hD hS 0 rfl rfl 6 (by decide) (hts _ kf_X7_21) (fun _ h9 => h9) rfl hin rfl (by decide +kernel) rfl rfl (Nat.le_of_ble_eq_true rfl) dX7_init_34 (fun H locs hP hD hS => ?_)
    have hP : va_P d.1 vwCl [(h0, .inr (6, [.int 0, .int 0, .int 0, .ref q1, .ref q2, .ref q3, .ref q4, .int 0])), (q1, .inl (d.2.1, 12, .inl (fun _ => 0))), (q2, .inl (d.2.1, 48, .inl (fun _ => 0))), (q3, .inl (d.2.1, 48, .inl (fun _ => 0))), (q4, .inl (d.2.1, 972, .inl (fun _ => 0)))] H := hP
    have hD : va_D A [(h0, .inr (6, [.int 0, .int 0, .int 0, .ref q1, .ref q2, .ref q3, .ref q4, .int 0])), (q1, .inl (d.2.1, 12, .inl (fun _ => 0))), (q2, .inl (d.2.1, 48, .inl (fun _ => 0))), (q3, .inl (d.2.1, 48, .inl (fun _ => 0))), (q4, .inl (d.2.1, 972, .inl (fun _ => 0)))] := hD
    refine lv_aload_n hx hb dX7_init_37 rfl (lv_at hl 0 rfl) ?_
    refine lv_iconst (v := 0) hx hb dX7_init_38 (by decide) ?_
    refine va_put (D := d.1) (ci := 6) (v := .int 0) (ty := tyX7 7) (C := RX7) (T := TX7) (N := 8) hx hb hts nn_X7 tyX7 tyX7_ok nmX7 hown hK hP hD hS 0 rfl rfl 7 (by decide) (hts _ kf_X7_24) (fun _ h9 => h9) rfl (by decide +kernel) rfl rfl (Nat.le_of_ble_eq_true rfl) dX7_init_39 (fun H locs hP hD hS => ?_)
    have hP : va_P d.1 vwCl [(h0, .inr (6, [.int 0, .int 0, .int 0, .ref q1, .ref q2, .ref q3, .ref q4, .int 0])), (q1, .inl (d.2.1, 12, .inl (fun _ => 0))), (q2, .inl (d.2.1, 48, .inl (fun _ => 0))), (q3, .inl (d.2.1, 48, .inl (fun _ => 0))), (q4, .inl (d.2.1, 972, .inl (fun _ => 0)))] H := hP
    have hD : va_D A [(h0, .inr (6, [.int 0, .int 0, .int 0, .ref q1, .ref q2, .ref q3, .ref q4, .int 0])), (q1, .inl (d.2.1, 12, .inl (fun _ => 0))), (q2, .inl (d.2.1, 48, .inl (fun _ => 0))), (q3, .inl (d.2.1, 48, .inl (fun _ => 0))), (q4, .inl (d.2.1, 972, .inl (fun _ => 0)))] := hD
    refine lv_aload_n hx hb dX7_init_42 rfl (lv_at hl 0 rfl) ?_
    refine lv_iload_n hx hb dX7_init_43 rfl (lv_at hl 1 rfl) ?_
    refine va_putF (D := d.1) (ci := 6) (v := .int 3) (ty := tyX7 0) (C := RX7) (T := TX7) (N := 8) hx hb hts nn_X7 tyX7 tyX7_ok nmX7 hown hK hP hD hS 0 rfl rfl 0 (by decide) (hts _ kf_X7_28) (fun _ h9 => h9) rfl hin rfl (by decide +kernel) rfl rfl (Nat.le_of_ble_eq_true rfl) dX7_init_44 (fun H locs hP hD hS => ?_)
    have hP : va_P d.1 vwCl [(h0, .inr (6, [.int 3, .int 0, .int 0, .ref q1, .ref q2, .ref q3, .ref q4, .int 0])), (q1, .inl (d.2.1, 12, .inl (fun _ => 0))), (q2, .inl (d.2.1, 48, .inl (fun _ => 0))), (q3, .inl (d.2.1, 48, .inl (fun _ => 0))), (q4, .inl (d.2.1, 972, .inl (fun _ => 0)))] H := hP
    have hD : va_D A [(h0, .inr (6, [.int 3, .int 0, .int 0, .ref q1, .ref q2, .ref q3, .ref q4, .int 0])), (q1, .inl (d.2.1, 12, .inl (fun _ => 0))), (q2, .inl (d.2.1, 48, .inl (fun _ => 0))), (q3, .inl (d.2.1, 48, .inl (fun _ => 0))), (q4, .inl (d.2.1, 972, .inl (fun _ => 0)))] := hD
    refine lv_aload_n hx hb dX7_init_47 rfl (lv_at hl 0 rfl) ?_
    refine lv_iconst (v := 1) hx hb dX7_init_48 (by decide) ?_
    refine lv_iload_n hx hb dX7_init_49 rfl (lv_at hl 1 rfl) ?_
    refine lv_ishl hx hb dX7_init_50 ?_
    refine va_putF (D := d.1) (ci := 6) (v := .int ((1 : Int32) <<< ((3 : Int32) &&& 31))) (ty := tyX7 1) (C := RX7) (T := TX7) (N := 8) hx hb hts nn_X7 tyX7 tyX7_ok nmX7 hown hK hP hD hS 0 rfl rfl 1 (by decide) (hts _ kf_X7_31) (fun _ h9 => h9) rfl hin rfl (by decide +kernel) rfl rfl (Nat.le_of_ble_eq_true rfl) dX7_init_51 (fun H locs hP hD hS => ?_)
    have hP : va_P d.1 vwCl [(h0, .inr (6, [.int 3, .int ((1 : Int32) <<< ((3 : Int32) &&& 31)), .int 0, .ref q1, .ref q2, .ref q3, .ref q4, .int 0])), (q1, .inl (d.2.1, 12, .inl (fun _ => 0))), (q2, .inl (d.2.1, 48, .inl (fun _ => 0))), (q3, .inl (d.2.1, 48, .inl (fun _ => 0))), (q4, .inl (d.2.1, 972, .inl (fun _ => 0)))] H := hP
    have hD : va_D A [(h0, .inr (6, [.int 3, .int ((1 : Int32) <<< ((3 : Int32) &&& 31)), .int 0, .ref q1, .ref q2, .ref q3, .ref q4, .int 0])), (q1, .inl (d.2.1, 12, .inl (fun _ => 0))), (q2, .inl (d.2.1, 48, .inl (fun _ => 0))), (q3, .inl (d.2.1, 48, .inl (fun _ => 0))), (q4, .inl (d.2.1, 972, .inl (fun _ => 0)))] := hD
    refine lv_iconst (v := 1) hx hb dX7_init_54 (by decide) ?_
    refine lv_istore_n (lv' := [(2, .int 1), (0, .ref h0), (1, .int 3)]) hx hb dX7_init_55 rfl hl (by decide) rfl (fun ls hl => ?_)
    refine lv_iconst (v := 0) hx hb dX7_init_56 (by decide) ?_
    refine lv_istore_n (lv' := [(3, .int 0), (2, .int 1), (0, .ref h0), (1, .int 3)]) hx hb dX7_init_57 rfl hl (by decide) rfl (fun ls hl => ?_)
    refine lv_iload_n hx hb dX7_init_58 rfl (lv_at hl 0 rfl) ?_
    refine lv_iload_n hx hb dX7_init_59 rfl (lv_at hl 3 rfl) ?_
    refine lv_icmp_ge (tgt := 73) hx hb dX7_init_60 (by decide) (fun hc => absurd hc (show ¬ (3 : Int32) ≤ 0 by decide)) (fun _ => ?_)
    refine lv_iload_n hx hb dX7_init_63 rfl (lv_at hl 1 rfl) ?_
    refine lv_iconst (v := 3) hx hb dX7_init_64 (by decide) ?_
    refine lv_imul hx hb dX7_init_65 ?_
    refine W.eq (g2 := F0 m 66 ls [.int 3]) rfl ?_
    refine lv_istore_n (lv' := [(2, .int 3), (3, .int 0), (0, .ref h0), (1, .int 3)]) hx hb dX7_init_66 rfl hl (by decide) rfl (fun ls hl => ?_)
    refine lv_iinc (v := 1) (lv' := [(3, .int 1), (2, .int 3), (0, .ref h0), (1, .int 3)]) hx hb dX7_init_67 hl (k := 1) rfl (by decide) (by decide) rfl (fun ls hl => ?_)
    refine lv_goto (tgt := 58) hx hb dX7_init_70 (by decide) ?_
    refine lv_iload_n hx hb dX7_init_58 rfl (lv_at hl 0 rfl) ?_
    refine lv_iload_n hx hb dX7_init_59 rfl (lv_at hl 3 rfl) ?_
    refine lv_icmp_ge (tgt := 73) hx hb dX7_init_60 (by decide) (fun hc => absurd hc (show ¬ (3 : Int32) ≤ 1 by decide)) (fun _ => ?_)
    refine lv_iload_n hx hb dX7_init_63 rfl (lv_at hl 1 rfl) ?_
    refine lv_iconst (v := 3) hx hb dX7_init_64 (by decide) ?_
    refine lv_imul hx hb dX7_init_65 ?_
    refine W.eq (g2 := F0 m 66 ls [.int 9]) rfl ?_
    refine lv_istore_n (lv' := [(2, .int 9), (3, .int 1), (0, .ref h0), (1, .int 3)]) hx hb dX7_init_66 rfl hl (by decide) rfl (fun ls hl => ?_)
    refine lv_iinc (v := 2) (lv' := [(3, .int 2), (2, .int 9), (0, .ref h0), (1, .int 3)]) hx hb dX7_init_67 hl (k := 1) rfl (by decide) (by decide) rfl (fun ls hl => ?_)
    refine lv_goto (tgt := 58) hx hb dX7_init_70 (by decide) ?_
    refine lv_iload_n hx hb dX7_init_58 rfl (lv_at hl 0 rfl) ?_
    refine lv_iload_n hx hb dX7_init_59 rfl (lv_at hl 3 rfl) ?_
    refine lv_icmp_ge (tgt := 73) hx hb dX7_init_60 (by decide) (fun hc => absurd hc (show ¬ (3 : Int32) ≤ 2 by decide)) (fun _ => ?_)
    refine lv_iload_n hx hb dX7_init_63 rfl (lv_at hl 1 rfl) ?_
    refine lv_iconst (v := 3) hx hb dX7_init_64 (by decide) ?_
    refine lv_imul hx hb dX7_init_65 ?_
    refine W.eq (g2 := F0 m 66 ls [.int 27]) rfl ?_
    refine lv_istore_n (lv' := [(2, .int 27), (3, .int 2), (0, .ref h0), (1, .int 3)]) hx hb dX7_init_66 rfl hl (by decide) rfl (fun ls hl => ?_)
    refine lv_iinc (v := 3) (lv' := [(3, .int 3), (2, .int 27), (0, .ref h0), (1, .int 3)]) hx hb dX7_init_67 hl (k := 1) rfl (by decide) (by decide) rfl (fun ls hl => ?_)
    refine lv_goto (tgt := 58) hx hb dX7_init_70 (by decide) ?_
    refine lv_iload_n hx hb dX7_init_58 rfl (lv_at hl 0 rfl) ?_
    refine lv_iload_n hx hb dX7_init_59 rfl (lv_at hl 3 rfl) ?_
    refine lv_icmp_ge (tgt := 73) hx hb dX7_init_60 (by decide) (fun _ => ?_) (fun hc => absurd (show (3 : Int32) ≤ 3 by decide) hc)
    refine lv_aload_n hx hb dX7_init_73 rfl (lv_at hl 2 rfl) ?_
    refine lv_iload_n hx hb dX7_init_74 rfl (lv_at hl 1 rfl) ?_
    refine va_putF (D := d.1) (ci := 6) (v := .int 27) (ty := tyX7 2) (C := RX7) (T := TX7) (N := 8) hx hb hts nn_X7 tyX7 tyX7_ok nmX7 hown hK hP hD hS 0 rfl rfl 2 (by decide) (hts _ kf_X7_34) (fun _ h9 => h9) rfl hin rfl (by decide +kernel) rfl rfl (Nat.le_of_ble_eq_true rfl) dX7_init_75 (fun H locs hP hD hS => ?_)
    have hP : va_P d.1 vwCl [(h0, .inr (6, [.int 3, .int ((1 : Int32) <<< ((3 : Int32) &&& 31)), .int 27, .ref q1, .ref q2, .ref q3, .ref q4, .int 0])), (q1, .inl (d.2.1, 12, .inl (fun _ => 0))), (q2, .inl (d.2.1, 48, .inl (fun _ => 0))), (q3, .inl (d.2.1, 48, .inl (fun _ => 0))), (q4, .inl (d.2.1, 972, .inl (fun _ => 0)))] H := hP
    have hD : va_D A [(h0, .inr (6, [.int 3, .int ((1 : Int32) <<< ((3 : Int32) &&& 31)), .int 27, .ref q1, .ref q2, .ref q3, .ref q4, .int 0])), (q1, .inl (d.2.1, 12, .inl (fun _ => 0))), (q2, .inl (d.2.1, 48, .inl (fun _ => 0))), (q3, .inl (d.2.1, 48, .inl (fun _ => 0))), (q4, .inl (d.2.1, 972, .inl (fun _ => 0)))] := hD
    have hP9 := hP.sub (ws' := [(h0, .inr (6, [.int 3, .int ((1 : Int32) <<< ((3 : Int32) &&& 31)), .int 27, .ref q1, .ref q2, .ref q3, .ref q4, .int 0])), (q1, .inl (d.2.1, 12, .inl (fun _ => 0))), (q2, .inl (d.2.1, 48, .inl (fun _ => 0))), (q3, .inl (d.2.1, 48, .inl (fun _ => 0))), (q4, .inl (d.2.1, 972, .inl (fun _ => 0)))]) [0, 1, 2, 3, 4] rfl
    have hD9 := hD.sub (ws' := [(h0, .inr (6, [.int 3, .int ((1 : Int32) <<< ((3 : Int32) &&& 31)), .int 27, .ref q1, .ref q2, .ref q3, .ref q4, .int 0])), (q1, .inl (d.2.1, 12, .inl (fun _ => 0))), (q2, .inl (d.2.1, 48, .inl (fun _ => 0))), (q3, .inl (d.2.1, 48, .inl (fun _ => 0))), (q4, .inl (d.2.1, 972, .inl (fun _ => 0)))]) [0, 1, 2, 3, 4] (by decide) rfl
    exact W.vret hx hb hr (fun t ht hW => ⟨⟨(fun i : Nat => if i = 0 then q1 else if i = 1 then q2 else if i = 2 then q3 else if i = 3 then q4 else 0), rfl, trivial, by rw [ht]; exact hP9, va_K.moved hW.alike hK, by rw [hAe]; exact hD9⟩, by rw [hAe]; exact hS.F ht⟩) hS.2.2 dX7_init_78
  · skip
    refine lv_aload_n hx hb dX7_init_0 rfl (lv_at hl 0 rfl) ?_
    refine W.objInit hx hb hown (hts _ mo_X7) (hts _ ob_im) (hts _ ob_co) rfl (by rw [hml]; exact hl.1) rfl dX7_init_1 (Nat.le_of_ble_eq_true rfl) (Nat.le_of_ble_eq_true rfl) ?_
    refine W.eq (g2 := F0 m 4 ls []) rfl ?_
    refine lv_aload_n hx hb dX7_init_4 rfl (lv_at hl 0 rfl) ?_
    refine lv_bipush (v := 12) hx hb dX7_init_5 (by decide) ?_
    refine y_newa (R := rmcX7) 12 hx hb (hts _ ar_I) hK rfl hP hD hS hA (by decide) (by decide) (Nat.le_of_ble_eq_true rfl) (Nat.le_of_ble_eq_true rfl) (Nat.le_of_ble_eq_true rfl) dX7_init_7 (fun q1 H hP hD hS => ?_)
    have hP : va_P d.1 vwCl [(h0, .inr (6, [.int 0, .int 0, .int 0, .null, .null, .null, .null, .int 0])), (q1, .inl (d.2.1, 12, .inl (fun _ => 0)))] H := hP
    have hD : va_D A [(h0, .inr (6, [.int 0, .int 0, .int 0, .null, .null, .null, .null, .int 0])), (q1, .inl (d.2.1, 12, .inl (fun _ => 0)))] := hD
    refine W.widen (k := 1) (n := 12) (Nat.le_of_ble_eq_true rfl) (Nat.le_of_ble_eq_true rfl) ?_
    refine va_putF (D := d.1) (ci := 6) (v := .ref q1) (ty := tyX7 3) (C := RX7) (T := TX7) (N := 8) hx hb hts nn_X7 tyX7 tyX7_ok nmX7 hown hK hP hD hS 0 rfl rfl 3 (by decide) (hts _ kf_X7_9) (fun _ h9 => h9) rfl hin rfl (by decide +kernel) rfl rfl (Nat.le_of_ble_eq_true rfl) dX7_init_9 (fun H locs hP hD hS => ?_)
    have hP : va_P d.1 vwCl [(h0, .inr (6, [.int 0, .int 0, .int 0, .ref q1, .null, .null, .null, .int 0])), (q1, .inl (d.2.1, 12, .inl (fun _ => 0)))] H := hP
    have hD : va_D A [(h0, .inr (6, [.int 0, .int 0, .int 0, .ref q1, .null, .null, .null, .int 0])), (q1, .inl (d.2.1, 12, .inl (fun _ => 0)))] := hD
    refine lv_aload_n hx hb dX7_init_12 rfl (lv_at hl 0 rfl) ?_
    refine lv_bipush (v := 48) hx hb dX7_init_13 (by decide) ?_
    refine y_newa (R := rmcX7) 48 hx hb (hts _ ar_I) hK rfl hP hD hS hA (by decide) (by decide) (Nat.le_of_ble_eq_true rfl) (Nat.le_of_ble_eq_true rfl) (Nat.le_of_ble_eq_true rfl) dX7_init_15 (fun q2 H hP hD hS => ?_)
    have hP : va_P d.1 vwCl [(h0, .inr (6, [.int 0, .int 0, .int 0, .ref q1, .null, .null, .null, .int 0])), (q1, .inl (d.2.1, 12, .inl (fun _ => 0))), (q2, .inl (d.2.1, 48, .inl (fun _ => 0)))] H := hP
    have hD : va_D A [(h0, .inr (6, [.int 0, .int 0, .int 0, .ref q1, .null, .null, .null, .int 0])), (q1, .inl (d.2.1, 12, .inl (fun _ => 0))), (q2, .inl (d.2.1, 48, .inl (fun _ => 0)))] := hD
    refine W.widen (k := 2) (n := 60) (Nat.le_of_ble_eq_true rfl) (Nat.le_of_ble_eq_true rfl) ?_
    refine va_putF (D := d.1) (ci := 6) (v := .ref q2) (ty := tyX7 4) (C := RX7) (T := TX7) (N := 8) hx hb hts nn_X7 tyX7 tyX7_ok nmX7 hown hK hP hD hS 0 rfl rfl 4 (by decide) (hts _ kf_X7_15) (fun _ h9 => h9) rfl hin rfl (by decide +kernel) rfl rfl (Nat.le_of_ble_eq_true rfl) dX7_init_17 (fun H locs hP hD hS => ?_)
    have hP : va_P d.1 vwCl [(h0, .inr (6, [.int 0, .int 0, .int 0, .ref q1, .ref q2, .null, .null, .int 0])), (q1, .inl (d.2.1, 12, .inl (fun _ => 0))), (q2, .inl (d.2.1, 48, .inl (fun _ => 0)))] H := hP
    have hD : va_D A [(h0, .inr (6, [.int 0, .int 0, .int 0, .ref q1, .ref q2, .null, .null, .int 0])), (q1, .inl (d.2.1, 12, .inl (fun _ => 0))), (q2, .inl (d.2.1, 48, .inl (fun _ => 0)))] := hD
    refine lv_aload_n hx hb dX7_init_20 rfl (lv_at hl 0 rfl) ?_
    refine lv_bipush (v := 48) hx hb dX7_init_21 (by decide) ?_
    refine y_newa (R := rmcX7) 48 hx hb (hts _ ar_I) hK rfl hP hD hS hA (by decide) (by decide) (Nat.le_of_ble_eq_true rfl) (Nat.le_of_ble_eq_true rfl) (Nat.le_of_ble_eq_true rfl) dX7_init_23 (fun q3 H hP hD hS => ?_)
    have hP : va_P d.1 vwCl [(h0, .inr (6, [.int 0, .int 0, .int 0, .ref q1, .ref q2, .null, .null, .int 0])), (q1, .inl (d.2.1, 12, .inl (fun _ => 0))), (q2, .inl (d.2.1, 48, .inl (fun _ => 0))), (q3, .inl (d.2.1, 48, .inl (fun _ => 0)))] H := hP
    have hD : va_D A [(h0, .inr (6, [.int 0, .int 0, .int 0, .ref q1, .ref q2, .null, .null, .int 0])), (q1, .inl (d.2.1, 12, .inl (fun _ => 0))), (q2, .inl (d.2.1, 48, .inl (fun _ => 0))), (q3, .inl (d.2.1, 48, .inl (fun _ => 0)))] := hD
    refine W.widen (k := 3) (n := 108) (Nat.le_of_ble_eq_true rfl) (Nat.le_of_ble_eq_true rfl) ?_
    refine va_putF (D := d.1) (ci := 6) (v := .ref q3) (ty := tyX7 5) (C := RX7) (T := TX7) (N := 8) hx hb hts nn_X7 tyX7 tyX7_ok nmX7 hown hK hP hD hS 0 rfl rfl 5 (by decide) (hts _ kf_X7_18) (fun _ h9 => h9) rfl hin rfl (by decide +kernel) rfl rfl (Nat.le_of_ble_eq_true rfl) dX7_init_25 (fun H locs hP hD hS => ?_)
    have hP : va_P d.1 vwCl [(h0, .inr (6, [.int 0, .int 0, .int 0, .ref q1, .ref q2, .ref q3, .null, .int 0])), (q1, .inl (d.2.1, 12, .inl (fun _ => 0))), (q2, .inl (d.2.1, 48, .inl (fun _ => 0))), (q3, .inl (d.2.1, 48, .inl (fun _ => 0)))] H := hP
    have hD : va_D A [(h0, .inr (6, [.int 0, .int 0, .int 0, .ref q1, .ref q2, .ref q3, .null, .int 0])), (q1, .inl (d.2.1, 12, .inl (fun _ => 0))), (q2, .inl (d.2.1, 48, .inl (fun _ => 0))), (q3, .inl (d.2.1, 48, .inl (fun _ => 0)))] := hD
    refine lv_aload_n hx hb dX7_init_28 rfl (lv_at hl 0 rfl) ?_
    refine lv_sipush (v := 972) hx hb dX7_init_29 (by decide) ?_
    refine y_newa (R := rmcX7) 972 hx hb (hts _ ar_I) hK rfl hP hD hS hA (by decide) (by decide) (Nat.le_of_ble_eq_true rfl) (Nat.le_of_ble_eq_true rfl) (Nat.le_of_ble_eq_true rfl) dX7_init_32 (fun q4 H hP hD hS => ?_)
    have hP : va_P d.1 vwCl [(h0, .inr (6, [.int 0, .int 0, .int 0, .ref q1, .ref q2, .ref q3, .null, .int 0])), (q1, .inl (d.2.1, 12, .inl (fun _ => 0))), (q2, .inl (d.2.1, 48, .inl (fun _ => 0))), (q3, .inl (d.2.1, 48, .inl (fun _ => 0))), (q4, .inl (d.2.1, 972, .inl (fun _ => 0)))] H := hP
    have hD : va_D A [(h0, .inr (6, [.int 0, .int 0, .int 0, .ref q1, .ref q2, .ref q3, .null, .int 0])), (q1, .inl (d.2.1, 12, .inl (fun _ => 0))), (q2, .inl (d.2.1, 48, .inl (fun _ => 0))), (q3, .inl (d.2.1, 48, .inl (fun _ => 0))), (q4, .inl (d.2.1, 972, .inl (fun _ => 0)))] := hD
    refine W.widen (k := 4) (n := 1080) (Nat.le_of_ble_eq_true rfl) (Nat.le_of_ble_eq_true rfl) ?_
    refine va_putF (D := d.1) (ci := 6) (v := .ref q4) (ty := tyX7 6) (C := RX7) (T := TX7) (N := 8) hx hb hts nn_X7 tyX7 tyX7_ok nmX7 hown hK hP hD hS 0 rfl rfl 6 (by decide) (hts _ kf_X7_21) (fun _ h9 => h9) rfl hin rfl (by decide +kernel) rfl rfl (Nat.le_of_ble_eq_true rfl) dX7_init_34 (fun H locs hP hD hS => ?_)
    have hP : va_P d.1 vwCl [(h0, .inr (6, [.int 0, .int 0, .int 0, .ref q1, .ref q2, .ref q3, .ref q4, .int 0])), (q1, .inl (d.2.1, 12, .inl (fun _ => 0))), (q2, .inl (d.2.1, 48, .inl (fun _ => 0))), (q3, .inl (d.2.1, 48, .inl (fun _ => 0))), (q4, .inl (d.2.1, 972, .inl (fun _ => 0)))] H := hP
    have hD : va_D A [(h0, .inr (6, [.int 0, .int 0, .int 0, .ref q1, .ref q2, .ref q3, .ref q4, .int 0])), (q1, .inl (d.2.1, 12, .inl (fun _ => 0))), (q2, .inl (d.2.1, 48, .inl (fun _ => 0))), (q3, .inl (d.2.1, 48, .inl (fun _ => 0))), (q4, .inl (d.2.1, 972, .inl (fun _ => 0)))] := hD
    refine lv_aload_n hx hb dX7_init_37 rfl (lv_at hl 0 rfl) ?_
    refine lv_iconst (v := 0) hx hb dX7_init_38 (by decide) ?_
    refine va_put (D := d.1) (ci := 6) (v := .int 0) (ty := tyX7 7) (C := RX7) (T := TX7) (N := 8) hx hb hts nn_X7 tyX7 tyX7_ok nmX7 hown hK hP hD hS 0 rfl rfl 7 (by decide) (hts _ kf_X7_24) (fun _ h9 => h9) rfl (by decide +kernel) rfl rfl (Nat.le_of_ble_eq_true rfl) dX7_init_39 (fun H locs hP hD hS => ?_)
    have hP : va_P d.1 vwCl [(h0, .inr (6, [.int 0, .int 0, .int 0, .ref q1, .ref q2, .ref q3, .ref q4, .int 0])), (q1, .inl (d.2.1, 12, .inl (fun _ => 0))), (q2, .inl (d.2.1, 48, .inl (fun _ => 0))), (q3, .inl (d.2.1, 48, .inl (fun _ => 0))), (q4, .inl (d.2.1, 972, .inl (fun _ => 0)))] H := hP
    have hD : va_D A [(h0, .inr (6, [.int 0, .int 0, .int 0, .ref q1, .ref q2, .ref q3, .ref q4, .int 0])), (q1, .inl (d.2.1, 12, .inl (fun _ => 0))), (q2, .inl (d.2.1, 48, .inl (fun _ => 0))), (q3, .inl (d.2.1, 48, .inl (fun _ => 0))), (q4, .inl (d.2.1, 972, .inl (fun _ => 0)))] := hD
    refine lv_aload_n hx hb dX7_init_42 rfl (lv_at hl 0 rfl) ?_
    refine lv_iload_n hx hb dX7_init_43 rfl (lv_at hl 1 rfl) ?_
    refine va_putF (D := d.1) (ci := 6) (v := .int 4) (ty := tyX7 0) (C := RX7) (T := TX7) (N := 8) hx hb hts nn_X7 tyX7 tyX7_ok nmX7 hown hK hP hD hS 0 rfl rfl 0 (by decide) (hts _ kf_X7_28) (fun _ h9 => h9) rfl hin rfl (by decide +kernel) rfl rfl (Nat.le_of_ble_eq_true rfl) dX7_init_44 (fun H locs hP hD hS => ?_)
    have hP : va_P d.1 vwCl [(h0, .inr (6, [.int 4, .int 0, .int 0, .ref q1, .ref q2, .ref q3, .ref q4, .int 0])), (q1, .inl (d.2.1, 12, .inl (fun _ => 0))), (q2, .inl (d.2.1, 48, .inl (fun _ => 0))), (q3, .inl (d.2.1, 48, .inl (fun _ => 0))), (q4, .inl (d.2.1, 972, .inl (fun _ => 0)))] H := hP
    have hD : va_D A [(h0, .inr (6, [.int 4, .int 0, .int 0, .ref q1, .ref q2, .ref q3, .ref q4, .int 0])), (q1, .inl (d.2.1, 12, .inl (fun _ => 0))), (q2, .inl (d.2.1, 48, .inl (fun _ => 0))), (q3, .inl (d.2.1, 48, .inl (fun _ => 0))), (q4, .inl (d.2.1, 972, .inl (fun _ => 0)))] := hD
    refine lv_aload_n hx hb dX7_init_47 rfl (lv_at hl 0 rfl) ?_
    refine lv_iconst (v := 1) hx hb dX7_init_48 (by decide) ?_
    refine lv_iload_n hx hb dX7_init_49 rfl (lv_at hl 1 rfl) ?_
    refine lv_ishl hx hb dX7_init_50 ?_
    refine va_putF (D := d.1) (ci := 6) (v := .int ((1 : Int32) <<< ((4 : Int32) &&& 31))) (ty := tyX7 1) (C := RX7) (T := TX7) (N := 8) hx hb hts nn_X7 tyX7 tyX7_ok nmX7 hown hK hP hD hS 0 rfl rfl 1 (by decide) (hts _ kf_X7_31) (fun _ h9 => h9) rfl hin rfl (by decide +kernel) rfl rfl (Nat.le_of_ble_eq_true rfl) dX7_init_51 (fun H locs hP hD hS => ?_)
    have hP : va_P d.1 vwCl [(h0, .inr (6, [.int 4, .int ((1 : Int32) <<< ((4 : Int32) &&& 31)), .int 0, .ref q1, .ref q2, .ref q3, .ref q4, .int 0])), (q1, .inl (d.2.1, 12, .inl (fun _ => 0))), (q2, .inl (d.2.1, 48, .inl (fun _ => 0))), (q3, .inl (d.2.1, 48, .inl (fun _ => 0))), (q4, .inl (d.2.1, 972, .inl (fun _ => 0)))] H := hP
    have hD : va_D A [(h0, .inr (6, [.int 4, .int ((1 : Int32) <<< ((4 : Int32) &&& 31)), .int 0, .ref q1, .ref q2, .ref q3, .ref q4, .int 0])), (q1, .inl (d.2.1, 12, .inl (fun _ => 0))), (q2, .inl (d.2.1, 48, .inl (fun _ => 0))), (q3, .inl (d.2.1, 48, .inl (fun _ => 0))), (q4, .inl (d.2.1, 972, .inl (fun _ => 0)))] := hD
    refine lv_iconst (v := 1) hx hb dX7_init_54 (by decide) ?_
    refine lv_istore_n (lv' := [(2, .int 1), (0, .ref h0), (1, .int 4)]) hx hb dX7_init_55 rfl hl (by decide) rfl (fun ls hl => ?_)
    refine lv_iconst (v := 0) hx hb dX7_init_56 (by decide) ?_
    refine lv_istore_n (lv' := [(3, .int 0), (2, .int 1), (0, .ref h0), (1, .int 4)]) hx hb dX7_init_57 rfl hl (by decide) rfl (fun ls hl => ?_)
    refine lv_iload_n hx hb dX7_init_58 rfl (lv_at hl 0 rfl) ?_
    refine lv_iload_n hx hb dX7_init_59 rfl (lv_at hl 3 rfl) ?_
    refine lv_icmp_ge (tgt := 73) hx hb dX7_init_60 (by decide) (fun hc => absurd hc (show ¬ (4 : Int32) ≤ 0 by decide)) (fun _ => ?_)
    refine lv_iload_n hx hb dX7_init_63 rfl (lv_at hl 1 rfl) ?_
    refine lv_iconst (v := 3) hx hb dX7_init_64 (by decide) ?_
    refine lv_imul hx hb dX7_init_65 ?_
    refine W.eq (g2 := F0 m 66 ls [.int 3]) rfl ?_
    refine lv_istore_n (lv' := [(2, .int 3), (3, .int 0), (0, .ref h0), (1, .int 4)]) hx hb dX7_init_66 rfl hl (by decide) rfl (fun ls hl => ?_)
    refine lv_iinc (v := 1) (lv' := [(3, .int 1), (2, .int 3), (0, .ref h0), (1, .int 4)]) hx hb dX7_init_67 hl (k := 1) rfl (by decide) (by decide) rfl (fun ls hl => ?_)
    refine lv_goto (tgt := 58) hx hb dX7_init_70 (by decide) ?_
    refine lv_iload_n hx hb dX7_init_58 rfl (lv_at hl 0 rfl) ?_
    refine lv_iload_n hx hb dX7_init_59 rfl (lv_at hl 3 rfl) ?_
    refine lv_icmp_ge (tgt := 73) hx hb dX7_init_60 (by decide) (fun hc => absurd hc (show ¬ (4 : Int32) ≤ 1 by decide)) (fun _ => ?_)
    refine lv_iload_n hx hb dX7_init_63 rfl (lv_at hl 1 rfl) ?_
    refine lv_iconst (v := 3) hx hb dX7_init_64 (by decide) ?_
    refine lv_imul hx hb dX7_init_65 ?_
    refine W.eq (g2 := F0 m 66 ls [.int 9]) rfl ?_
    refine lv_istore_n (lv' := [(2, .int 9), (3, .int 1), (0, .ref h0), (1, .int 4)]) hx hb dX7_init_66 rfl hl (by decide) rfl (fun ls hl => ?_)
    refine lv_iinc (v := 2) (lv' := [(3, .int 2), (2, .int 9), (0, .ref h0), (1, .int 4)]) hx hb dX7_init_67 hl (k := 1) rfl (by decide) (by decide) rfl (fun ls hl => ?_)
    refine lv_goto (tgt := 58) hx hb dX7_init_70 (by decide) ?_
    refine lv_iload_n hx hb dX7_init_58 rfl (lv_at hl 0 rfl) ?_
    refine lv_iload_n hx hb dX7_init_59 rfl (lv_at hl 3 rfl) ?_
    refine lv_icmp_ge (tgt := 73) hx hb dX7_init_60 (by decide) (fun hc => absurd hc (show ¬ (4 : Int32) ≤ 2 by decide)) (fun _ => ?_)
    refine lv_iload_n hx hb dX7_init_63 rfl (lv_at hl 1 rfl) ?_
    refine lv_iconst (v := 3) hx hb dX7_init_64 (by decide) ?_
    refine lv_imul hx hb dX7_init_65 ?_
    refine W.eq (g2 := F0 m 66 ls [.int 27]) rfl ?_
    refine lv_istore_n (lv' := [(2, .int 27), (3, .int 2), (0, .ref h0), (1, .int 4)]) hx hb dX7_init_66 rfl hl (by decide) rfl (fun ls hl => ?_)
    refine lv_iinc (v := 3) (lv' := [(3, .int 3), (2, .int 27), (0, .ref h0), (1, .int 4)]) hx hb dX7_init_67 hl (k := 1) rfl (by decide) (by decide) rfl (fun ls hl => ?_)
    refine lv_goto (tgt := 58) hx hb dX7_init_70 (by decide) ?_
    refine lv_iload_n hx hb dX7_init_58 rfl (lv_at hl 0 rfl) ?_
    refine lv_iload_n hx hb dX7_init_59 rfl (lv_at hl 3 rfl) ?_
    refine lv_icmp_ge (tgt := 73) hx hb dX7_init_60 (by decide) (fun hc => absurd hc (show ¬ (4 : Int32) ≤ 3 by decide)) (fun _ => ?_)
    refine lv_iload_n hx hb dX7_init_63 rfl (lv_at hl 1 rfl) ?_
    refine lv_iconst (v := 3) hx hb dX7_init_64 (by decide) ?_
    refine lv_imul hx hb dX7_init_65 ?_
    refine W.eq (g2 := F0 m 66 ls [.int 81]) rfl ?_
    refine lv_istore_n (lv' := [(2, .int 81), (3, .int 3), (0, .ref h0), (1, .int 4)]) hx hb dX7_init_66 rfl hl (by decide) rfl (fun ls hl => ?_)
    refine lv_iinc (v := 4) (lv' := [(3, .int 4), (2, .int 81), (0, .ref h0), (1, .int 4)]) hx hb dX7_init_67 hl (k := 1) rfl (by decide) (by decide) rfl (fun ls hl => ?_)
    refine lv_goto (tgt := 58) hx hb dX7_init_70 (by decide) ?_
    refine lv_iload_n hx hb dX7_init_58 rfl (lv_at hl 0 rfl) ?_
    refine lv_iload_n hx hb dX7_init_59 rfl (lv_at hl 3 rfl) ?_
    refine lv_icmp_ge (tgt := 73) hx hb dX7_init_60 (by decide) (fun _ => ?_) (fun hc => absurd (show (4 : Int32) ≤ 4 by decide) hc)
    refine lv_aload_n hx hb dX7_init_73 rfl (lv_at hl 2 rfl) ?_
    refine lv_iload_n hx hb dX7_init_74 rfl (lv_at hl 1 rfl) ?_
    refine va_putF (D := d.1) (ci := 6) (v := .int 81) (ty := tyX7 2) (C := RX7) (T := TX7) (N := 8) hx hb hts nn_X7 tyX7 tyX7_ok nmX7 hown hK hP hD hS 0 rfl rfl 2 (by decide) (hts _ kf_X7_34) (fun _ h9 => h9) rfl hin rfl (by decide +kernel) rfl rfl (Nat.le_of_ble_eq_true rfl) dX7_init_75 (fun H locs hP hD hS => ?_)
    have hP : va_P d.1 vwCl [(h0, .inr (6, [.int 4, .int ((1 : Int32) <<< ((4 : Int32) &&& 31)), .int 81, .ref q1, .ref q2, .ref q3, .ref q4, .int 0])), (q1, .inl (d.2.1, 12, .inl (fun _ => 0))), (q2, .inl (d.2.1, 48, .inl (fun _ => 0))), (q3, .inl (d.2.1, 48, .inl (fun _ => 0))), (q4, .inl (d.2.1, 972, .inl (fun _ => 0)))] H := hP
    have hD : va_D A [(h0, .inr (6, [.int 4, .int ((1 : Int32) <<< ((4 : Int32) &&& 31)), .int 81, .ref q1, .ref q2, .ref q3, .ref q4, .int 0])), (q1, .inl (d.2.1, 12, .inl (fun _ => 0))), (q2, .inl (d.2.1, 48, .inl (fun _ => 0))), (q3, .inl (d.2.1, 48, .inl (fun _ => 0))), (q4, .inl (d.2.1, 972, .inl (fun _ => 0)))] := hD
    have hP9 := hP.sub (ws' := [(h0, .inr (6, [.int 4, .int ((1 : Int32) <<< ((4 : Int32) &&& 31)), .int 81, .ref q1, .ref q2, .ref q3, .ref q4, .int 0])), (q1, .inl (d.2.1, 12, .inl (fun _ => 0))), (q2, .inl (d.2.1, 48, .inl (fun _ => 0))), (q3, .inl (d.2.1, 48, .inl (fun _ => 0))), (q4, .inl (d.2.1, 972, .inl (fun _ => 0)))]) [0, 1, 2, 3, 4] rfl
    have hD9 := hD.sub (ws' := [(h0, .inr (6, [.int 4, .int ((1 : Int32) <<< ((4 : Int32) &&& 31)), .int 81, .ref q1, .ref q2, .ref q3, .ref q4, .int 0])), (q1, .inl (d.2.1, 12, .inl (fun _ => 0))), (q2, .inl (d.2.1, 48, .inl (fun _ => 0))), (q3, .inl (d.2.1, 48, .inl (fun _ => 0))), (q4, .inl (d.2.1, 972, .inl (fun _ => 0)))]) [0, 1, 2, 3, 4] (by decide) rfl
    exact W.vret hx hb hr (fun t ht hW => ⟨⟨(fun i : Nat => if i = 0 then q1 else if i = 1 then q2 else if i = 2 then q3 else if i = 3 then q4 else 0), rfl, trivial, by rw [ht]; exact hP9, va_K.moved hW.alike hK, by rw [hAe]; exact hD9⟩, by rw [hAe]; exact hS.F ht⟩) hS.2.2 dX7_init_78
abbrev rmcX1 : Room := { frames := 2, cells := 21, slots := 4356, locals := 43 }
set_option maxHeartbeats 8000000 in
set_option maxRecDepth 100000 in
theorem c_X1_init (l : Launch) (d : cY) (h0 sz : Nat) (n : Int32) (hn : n = 1 ∨ n = 2 ∨ n = 3 ∨ n = 4) : Met l yX1_init (wT yX1_init cX1_init 3 none) rmcX1 (va_Pc [.ref h0, .int n] (yPre d sz [(h0, .inr (1, [.null, .int 0, .int 0]))])) (yQ d [(h0, .inr (1, [.null, .int 0, .int 0]))] sz (fun u => [(h0, .inr (1, [.ref (u 0), .int 0, .int 0])), ((u 0), .inl (d.2.2.2, 4, .inr (.inr (.inr (.inr (va_up (va_up (va_up (va_up (fun _ => none) 0 (some (u 1))) 1 (some (u 6))) 2 (some (u 11))) 3 (some (u 16)))))))), ((u 1), .inr (6, [.int n, .int ((1 : Int32) <<< ((n : Int32) &&& 31)), .int (p3 n), .ref (u 2), .ref (u 3), .ref (u 4), .ref (u 5), .int 0])), ((u 2), .inl (d.2.1, 12, .inl (fun _ => 0))), ((u 3), .inl (d.2.1, 48, .inl (fun _ => 0))), ((u 4), .inl (d.2.1, 48, .inl (fun _ => 0))), ((u 5), .inl (d.2.1, 972, .inl (fun _ => 0))), ((u 6), .inr (6, [.int n, .int ((1 : Int32) <<< ((n : Int32) &&& 31)), .int (p3 n), .ref (u 7), .ref (u 8), .ref (u 9), .ref (u 10), .int 0])), ((u 7), .inl (d.2.1, 12, .inl (fun _ => 0))), ((u 8), .inl (d.2.1, 48, .inl (fun _ => 0))), ((u 9), .inl (d.2.1, 48, .inl (fun _ => 0))), ((u 10), .inl (d.2.1, 972, .inl (fun _ => 0))), ((u 11), .inr (6, [.int n, .int ((1 : Int32) <<< ((n : Int32) &&& 31)), .int (p3 n), .ref (u 12), .ref (u 13), .ref (u 14), .ref (u 15), .int 0])), ((u 12), .inl (d.2.1, 12, .inl (fun _ => 0))), ((u 13), .inl (d.2.1, 48, .inl (fun _ => 0))), ((u 14), .inl (d.2.1, 48, .inl (fun _ => 0))), ((u 15), .inl (d.2.1, 972, .inl (fun _ => 0))), ((u 16), .inr (6, [.int n, .int ((1 : Int32) <<< ((n : Int32) &&& 31)), .int (p3 n), .ref (u 17), .ref (u 18), .ref (u 19), .ref (u 20), .int 0])), ((u 17), .inl (d.2.1, 12, .inl (fun _ => 0))), ((u 18), .inl (d.2.1, 48, .inl (fun _ => 0))), ((u 19), .inl (d.2.1, 48, .inl (fun _ => 0))), ((u 20), .inl (d.2.1, 972, .inl (fun _ => 0)))])) 21 4356 (va_A [(h0, .inr (1, [.null, .int 0, .int 0]))] sz) := by
  refine Met.ofW (cc := cX1_init) (maxL := 3) (ret := none) plX1 rfl ?_
  intro p e s m args below meth c s₁ B hml hv
  obtain ⟨rfl, hsz, hP, hK, hD0, hOF, hOS⟩ := hv
  have hx := B.exec
  have hb := B.bytes
  have hr := B.returns
  have hts : ∀ w ∈ tG, w.before ([.ref h0, .int n] : List Value).toArray s = true := fun w hw => atoms_spec (ws := wT yX1_init cX1_init 3 none) B.pre w (List.mem_cons_of_mem _ hw)
  have hown : s.vm.findClass RX1 = some m.cls := findClass_of_methodNamed B.named
  have hlocks := B.notSynchronized
  have hin : meth.name = "<init>" := (name_of_methodNamed B.named B.method).1
  subst hsz
  have hD := hD0.self (sz := s.heap.size)
  generalize hAe : va_A [(h0, .inr (1, [.null, .int 0, .int 0]))] s.heap.size = A at hD ⊢
  have hA : ∀ q : Nat, s.heap.size ≤ q → A q := fun q h => by rw [← hAe]; exact Or.inr h
  have hS : va_S A s.heap s.heap [] := va_S.rf
  have hP : va_P d.1 vwCl [(h0, .inr (1, [.null, .int 0, .int 0]))] s.heap := hP
  have hl := lv_entry ([.ref h0, .int n]) (n := 3) (Nat.le_of_ble_eq_true rfl)
  rw [lg_entry_eq]
  generalize (lg_sl ([.ref h0, .int n]) ++ List.replicate (3 - (lg_sl ([.ref h0, .int n])).length) Slot.unset).toArray = ls at hl ⊢
  have hl : lv_has ls 3 [(0, .ref h0), (1, .int n)] := hl
  refine lv_aload_n hx hb dX1_init_0 rfl (lv_at hl 0 rfl) ?_
  refine W.objInit hx hb hown (hts _ mo_X1) (hts _ ob_im) (hts _ ob_co) rfl (by rw [hml]; exact hl.1) rfl dX1_init_1 (Nat.le_of_ble_eq_true rfl) (Nat.le_of_ble_eq_true rfl) ?_
  refine W.eq (g2 := F0 m 4 ls []) rfl ?_
  refine lv_aload_n hx hb dX1_init_4 rfl (lv_at hl 0 rfl) ?_
  refine lv_iconst (v := 4) hx hb dX1_init_5 (by decide) ?_
  refine y_newq (R := rmcX1) (C := RX7) 2 4 hx hb hown (hts _ kl_X1_9) hOS hK rfl hP hD hS hA (by decide) (by decide) (Nat.le_of_ble_eq_true rfl) (Nat.le_of_ble_eq_true rfl) (Nat.le_of_ble_eq_true rfl) dX1_init_6 (fun q1 H hP hD hS => ?_)
  have hP : va_P d.1 vwCl [(h0, .inr (1, [.null, .int 0, .int 0])), (q1, .inl (d.2.2.2, 4, .inr (.inr (.inr (.inr (fun _ => none))))))] H := hP
  have hD : va_D A [(h0, .inr (1, [.null, .int 0, .int 0])), (q1, .inl (d.2.2.2, 4, .inr (.inr (.inr (.inr (fun _ => none))))))] := hD
  refine W.widen (k := 1) (n := 4) (Nat.le_of_ble_eq_true rfl) (Nat.le_of_ble_eq_true rfl) ?_
  refine va_putF (D := d.1) (ci := 1) (v := .ref q1) (ty := tyX1 0) (C := RX1) (T := TX1) (N := 3) hx hb hts nn_X1 tyX1 tyX1_ok nmX1 hown hK hP hD hS 0 rfl rfl 0 (by decide) (hts _ kf_X1_11) (fun _ h9 => h9) rfl hin rfl (by decide +kernel) rfl rfl (Nat.le_of_ble_eq_true rfl) dX1_init_9 (fun H locs hP hD hS => ?_)
  have hP : va_P d.1 vwCl [(h0, .inr (1, [.ref q1, .int 0, .int 0])), (q1, .inl (d.2.2.2, 4, .inr (.inr (.inr (.inr (fun _ => none))))))] H := hP
  have hD : va_D A [(h0, .inr (1, [.ref q1, .int 0, .int 0])), (q1, .inl (d.2.2.2, 4, .inr (.inr (.inr (.inr (fun _ => none))))))] := hD
  refine lv_aload_n hx hb dX1_init_12 rfl (lv_at hl 0 rfl) ?_
  refine lv_iconst (v := 0) hx hb dX1_init_13 (by decide) ?_
  refine va_put (D := d.1) (ci := 1) (v := .int 0) (ty := tyX1 1) (C := RX1) (T := TX1) (N := 3) hx hb hts nn_X1 tyX1 tyX1_ok nmX1 hown hK hP hD hS 0 rfl rfl 1 (by decide) (hts _ kf_X1_17) (fun _ h9 => h9) rfl (by decide +kernel) rfl rfl (Nat.le_of_ble_eq_true rfl) dX1_init_14 (fun H locs hP hD hS => ?_)
  have hP : va_P d.1 vwCl [(h0, .inr (1, [.ref q1, .int 0, .int 0])), (q1, .inl (d.2.2.2, 4, .inr (.inr (.inr (.inr (fun _ => none))))))] H := hP
  have hD : va_D A [(h0, .inr (1, [.ref q1, .int 0, .int 0])), (q1, .inl (d.2.2.2, 4, .inr (.inr (.inr (.inr (fun _ => none))))))] := hD
  refine lv_aload_n hx hb dX1_init_17 rfl (lv_at hl 0 rfl) ?_
  refine lv_iconst (v := 0) hx hb dX1_init_18 (by decide) ?_
  refine va_put (D := d.1) (ci := 1) (v := .int 0) (ty := tyX1 2) (C := RX1) (T := TX1) (N := 3) hx hb hts nn_X1 tyX1 tyX1_ok nmX1 hown hK hP hD hS 0 rfl rfl 2 (by decide) (hts _ kf_X1_21) (fun _ h9 => h9) rfl (by decide +kernel) rfl rfl (Nat.le_of_ble_eq_true rfl) dX1_init_19 (fun H locs hP hD hS => ?_)
  have hP : va_P d.1 vwCl [(h0, .inr (1, [.ref q1, .int 0, .int 0])), (q1, .inl (d.2.2.2, 4, .inr (.inr (.inr (.inr (fun _ => none))))))] H := hP
  have hD : va_D A [(h0, .inr (1, [.ref q1, .int 0, .int 0])), (q1, .inl (d.2.2.2, 4, .inr (.inr (.inr (.inr (fun _ => none))))))] := hD
  refine lv_iconst (v := 0) hx hb dX1_init_22 (by decide) ?_
  refine lv_istore_n (lv' := [(2, .int 0), (0, .ref h0), (1, .int n)]) hx hb dX1_init_23 rfl hl (by decide) rfl (fun ls hl => ?_)
  refine lv_iload_n hx hb dX1_init_24 rfl (lv_at hl 0 rfl) ?_
  refine lv_aload_n hx hb dX1_init_25 rfl (lv_at hl 1 rfl) ?_
  refine va_get (D := d.1) (ci := 1) (v := .ref q1) (C := RX1) (T := TX1) (N := 3) hx hb hts nn_X1 hown hK hP 0 rfl rfl 0 (by decide) (hts _ kf_X1_11) (fun _ h9 => h9) rfl dX1_init_26 ?_
  refine va_alen (v := 4) hx hb hK hP 1 2 rfl rfl rfl dX1_init_29 ?_
  refine lv_icmp_ge (tgt := 53) hx hb dX1_init_30 (by decide) (fun hc => absurd hc (show ¬ (4 : Int32) ≤ 0 by decide)) (fun _ => ?_)
  refine lv_aload_n hx hb dX1_init_33 rfl (lv_at hl 1 rfl) ?_
  refine va_get (D := d.1) (ci := 1) (v := .ref q1) (C := RX1) (T := TX1) (N := 3) hx hb hts nn_X1 hown hK hP 0 rfl rfl 0 (by decide) (hts _ kf_X1_11) (fun _ h9 => h9) rfl dX1_init_34 ?_
  refine lv_iload_n hx hb dX1_init_37 rfl (lv_at hl 0 rfl) ?_
  refine va_new (R := rmcX1) (ci := 6) (fs := [.int 0, .int 0, .int 0, .null, .null, .null, .null, .int 0]) (C := RX7) (T := TX7) (N := 8) hx hb hts nn_X7 tyX7 tyX7_ok hown (hts _ kl_X1_9) (hts _ bnX7) (hts _ ki_X7) hK hP hD hS hA rfl (fun j hj => by match j, hj with | 0, _ => rfl | 1, _ => rfl | 2, _ => rfl | 3, _ => rfl | 4, _ => rfl | 5, _ => rfl | 6, _ => rfl | 7, _ => rfl | z + 8, hz => exact absurd hz (by omega)) (Nat.le_of_ble_eq_true rfl) (Nat.le_of_ble_eq_true rfl) dX1_init_38 (fun q2 H hP hD hS => ?_)
  have hP : va_P d.1 vwCl [(h0, .inr (1, [.ref q1, .int 0, .int 0])), (q1, .inl (d.2.2.2, 4, .inr (.inr (.inr (.inr (fun _ => none)))))), (q2, .inr (6, [.int 0, .int 0, .int 0, .null, .null, .null, .null, .int 0]))] H := hP
  have hD : va_D A [(h0, .inr (1, [.ref q1, .int 0, .int 0])), (q1, .inl (d.2.2.2, 4, .inr (.inr (.inr (.inr (fun _ => none)))))), (q2, .inr (6, [.int 0, .int 0, .int 0, .null, .null, .null, .null, .int 0]))] := hD
  refine W.widen (k := 2) (n := 12) (Nat.le_of_ble_eq_true rfl) (Nat.le_of_ble_eq_true rfl) ?_
  refine lv_dup hx hb dX1_init_41 rfl ?_
  refine lv_iload_n hx hb dX1_init_42 rfl (lv_at hl 2 rfl) ?_
  have hPc := hP.sub (ws' := [(q2, .inr (6, [.int 0, .int 0, .int 0, .null, .null, .null, .null, .int 0]))]) [2] rfl
  have hDc := hD.sub (ws' := [(q2, .inr (6, [.int 0, .int 0, .int 0, .null, .null, .null, .null, .int 0]))]) [2] (by decide) rfl
  have hFc := va_free (wc := [(q2, .inr (6, [.int 0, .int 0, .int 0, .null, .null, .null, .null, .int 0]))]) hD hS hA [2] rfl
  refine va_callv (va_runI (As := [.int n]) (rest := [.ref q2, .int 0, .ref q1]) ⟨hx, hb, hml, hown, hts⟩ (c_X7_init l d q2 H.size n hn) (cwI 1 hts (gdG (gdW bcX7_init.2.2)) rfl rfl rfl (hts _ bcX7_init.2.1) (hts _ ml_X1_24) (hts _ bcX7_init.1) rfl hdX7_init ⟨Nat.le_of_ble_eq_true rfl, Nat.le_of_ble_eq_true rfl⟩) ⟨yPre_blind, fun U hU hW => ⟨rfl, by rw [hU], by rw [hU]; exact hPc, va_K.moved hW.alike hK, hDc.weaken (fun _ _ _ _ => trivial), va_AO.moved hW.alike hOF, va_AO.moved hW.alike hOS⟩⟩ rfl rfl hl.1 rfl (lv_room (Nat.le_of_ble_eq_true rfl)) dX1_init_43 ⟨Nat.le_of_ble_eq_true rfl, Nat.le_of_ble_eq_true rfl⟩) hS (fun q _ h => hFc q h) hFc (fun u3 t H1 locs ht hvm hw hB hz1 hk1 hS => ?_)
  obtain ⟨hP1, -, hD1⟩ := hB
  rw [ht] at hP1
  obtain ⟨hP, hD⟩ := va_join (wr := [(h0, .inr (1, [.ref q1, .int 0, .int 0])), (q1, .inl (d.2.2.2, 4, .inr (.inr (.inr (.inr (fun _ => none))))))]) (w1 := [(q2, .inr (6, [.int n, .int ((1 : Int32) <<< ((n : Int32) &&& 31)), .int (p3 n), .ref (u3 0), .ref (u3 1), .ref (u3 2), .ref (u3 3), .int 0])), ((u3 0), .inl (d.2.1, 12, .inl (fun _ => 0))), ((u3 1), .inl (d.2.1, 48, .inl (fun _ => 0))), ((u3 2), .inl (d.2.1, 48, .inl (fun _ => 0))), ((u3 3), .inl (d.2.1, 972, .inl (fun _ => 0)))]) hP hD [2] [0, 1] rfl rfl (by decide) (by decide) hk1 hFc hP1 hD1
  generalize H1 = H at hP hS ⊢
  have hP : va_P d.1 vwCl [(h0, .inr (1, [.ref q1, .int 0, .int 0])), (q1, .inl (d.2.2.2, 4, .inr (.inr (.inr (.inr (fun _ => none)))))), (q2, .inr (6, [.int n, .int ((1 : Int32) <<< ((n : Int32) &&& 31)), .int (p3 n), .ref (u3 0), .ref (u3 1), .ref (u3 2), .ref (u3 3), .int 0])), ((u3 0), .inl (d.2.1, 12, .inl (fun _ => 0))), ((u3 1), .inl (d.2.1, 48, .inl (fun _ => 0))), ((u3 2), .inl (d.2.1, 48, .inl (fun _ => 0))), ((u3 3), .inl (d.2.1, 972, .inl (fun _ => 0)))] H := hP
  have hD : va_D A [(h0, .inr (1, [.ref q1, .int 0, .int 0])), (q1, .inl (d.2.2.2, 4, .inr (.inr (.inr (.inr (fun _ => none)))))), (q2, .inr (6, [.int n, .int ((1 : Int32) <<< ((n : Int32) &&& 31)), .int (p3 n), .ref (u3 0), .ref (u3 1), .ref (u3 2), .ref (u3 3), .int 0])), ((u3 0), .inl (d.2.1, 12, .inl (fun _ => 0))), ((u3 1), .inl (d.2.1, 48, .inl (fun _ => 0))), ((u3 2), .inl (d.2.1, 48, .inl (fun _ => 0))), ((u3 3), .inl (d.2.1, 972, .inl (fun _ => 0)))] := hD
  refine W.widen (k := 6) (n := 1092) (Nat.le_of_ble_eq_true rfl) (Nat.le_of_ble_eq_true rfl) ?_
  refine va_astq (r := (RX7, TX7, 8)) hx hb hK hP hD hS 1 2 2 6 rfl rfl rfl rfl (i := 0) (vp_in_nI (n := 0) (by decide) (by decide)) dX1_init_46 (fun H locs hP hD hS => ?_)
  have hP : va_P d.1 vwCl [(h0, .inr (1, [.ref q1, .int 0, .int 0])), (q1, .inl (d.2.2.2, 4, .inr (.inr (.inr (.inr (va_up (fun _ => none) 0 (some q2))))))), (q2, .inr (6, [.int n, .int ((1 : Int32) <<< ((n : Int32) &&& 31)), .int (p3 n), .ref (u3 0), .ref (u3 1), .ref (u3 2), .ref (u3 3), .int 0])), ((u3 0), .inl (d.2.1, 12, .inl (fun _ => 0))), ((u3 1), .inl (d.2.1, 48, .inl (fun _ => 0))), ((u3 2), .inl (d.2.1, 48, .inl (fun _ => 0))), ((u3 3), .inl (d.2.1, 972, .inl (fun _ => 0)))] H := hP
  have hD : va_D A [(h0, .inr (1, [.ref q1, .int 0, .int 0])), (q1, .inl (d.2.2.2, 4, .inr (.inr (.inr (.inr (va_up (fun _ => none) 0 (some q2))))))), (q2, .inr (6, [.int n, .int ((1 : Int32) <<< ((n : Int32) &&& 31)), .int (p3 n), .ref (u3 0), .ref (u3 1), .ref (u3 2), .ref (u3 3), .int 0])), ((u3 0), .inl (d.2.1, 12, .inl (fun _ => 0))), ((u3 1), .inl (d.2.1, 48, .inl (fun _ => 0))), ((u3 2), .inl (d.2.1, 48, .inl (fun _ => 0))), ((u3 3), .inl (d.2.1, 972, .inl (fun _ => 0)))] := hD
  refine lv_iinc (v := 1) (lv' := [(2, .int 1), (0, .ref h0), (1, .int n)]) hx hb dX1_init_47 hl (k := 0) rfl (by decide) (by decide) rfl (fun ls hl => ?_)
  refine lv_goto (tgt := 24) hx hb dX1_init_50 (by decide) ?_
  refine lv_iload_n hx hb dX1_init_24 rfl (lv_at hl 0 rfl) ?_
  refine lv_aload_n hx hb dX1_init_25 rfl (lv_at hl 1 rfl) ?_
  refine va_get (D := d.1) (ci := 1) (v := .ref q1) (C := RX1) (T := TX1) (N := 3) hx hb hts nn_X1 hown hK hP 0 rfl rfl 0 (by decide) (hts _ kf_X1_11) (fun _ h9 => h9) rfl dX1_init_26 ?_
  refine va_alen (v := 4) hx hb hK hP 1 2 rfl rfl rfl dX1_init_29 ?_
  refine lv_icmp_ge (tgt := 53) hx hb dX1_init_30 (by decide) (fun hc => absurd hc (show ¬ (4 : Int32) ≤ 1 by decide)) (fun _ => ?_)
  refine lv_aload_n hx hb dX1_init_33 rfl (lv_at hl 1 rfl) ?_
  refine va_get (D := d.1) (ci := 1) (v := .ref q1) (C := RX1) (T := TX1) (N := 3) hx hb hts nn_X1 hown hK hP 0 rfl rfl 0 (by decide) (hts _ kf_X1_11) (fun _ h9 => h9) rfl dX1_init_34 ?_
  refine lv_iload_n hx hb dX1_init_37 rfl (lv_at hl 0 rfl) ?_
  refine va_new (R := rmcX1) (ci := 6) (fs := [.int 0, .int 0, .int 0, .null, .null, .null, .null, .int 0]) (C := RX7) (T := TX7) (N := 8) hx hb hts nn_X7 tyX7 tyX7_ok hown (hts _ kl_X1_9) (hts _ bnX7) (hts _ ki_X7) hK hP hD hS hA rfl (fun j hj => by match j, hj with | 0, _ => rfl | 1, _ => rfl | 2, _ => rfl | 3, _ => rfl | 4, _ => rfl | 5, _ => rfl | 6, _ => rfl | 7, _ => rfl | z + 8, hz => exact absurd hz (by omega)) (Nat.le_of_ble_eq_true rfl) (Nat.le_of_ble_eq_true rfl) dX1_init_38 (fun q4 H hP hD hS => ?_)
  have hP : va_P d.1 vwCl [(h0, .inr (1, [.ref q1, .int 0, .int 0])), (q1, .inl (d.2.2.2, 4, .inr (.inr (.inr (.inr (va_up (fun _ => none) 0 (some q2))))))), (q2, .inr (6, [.int n, .int ((1 : Int32) <<< ((n : Int32) &&& 31)), .int (p3 n), .ref (u3 0), .ref (u3 1), .ref (u3 2), .ref (u3 3), .int 0])), ((u3 0), .inl (d.2.1, 12, .inl (fun _ => 0))), ((u3 1), .inl (d.2.1, 48, .inl (fun _ => 0))), ((u3 2), .inl (d.2.1, 48, .inl (fun _ => 0))), ((u3 3), .inl (d.2.1, 972, .inl (fun _ => 0))), (q4, .inr (6, [.int 0, .int 0, .int 0, .null, .null, .null, .null, .int 0]))] H := hP
  have hD : va_D A [(h0, .inr (1, [.ref q1, .int 0, .int 0])), (q1, .inl (d.2.2.2, 4, .inr (.inr (.inr (.inr (va_up (fun _ => none) 0 (some q2))))))), (q2, .inr (6, [.int n, .int ((1 : Int32) <<< ((n : Int32) &&& 31)), .int (p3 n), .ref (u3 0), .ref (u3 1), .ref (u3 2), .ref (u3 3), .int 0])), ((u3 0), .inl (d.2.1, 12, .inl (fun _ => 0))), ((u3 1), .inl (d.2.1, 48, .inl (fun _ => 0))), ((u3 2), .inl (d.2.1, 48, .inl (fun _ => 0))), ((u3 3), .inl (d.2.1, 972, .inl (fun _ => 0))), (q4, .inr (6, [.int 0, .int 0, .int 0, .null, .null, .null, .null, .int 0]))] := hD
  refine W.widen (k := 7) (n := 1100) (Nat.le_of_ble_eq_true rfl) (Nat.le_of_ble_eq_true rfl) ?_
  refine lv_dup hx hb dX1_init_41 rfl ?_
  refine lv_iload_n hx hb dX1_init_42 rfl (lv_at hl 2 rfl) ?_
  have hPc := hP.sub (ws' := [(q4, .inr (6, [.int 0, .int 0, .int 0, .null, .null, .null, .null, .int 0]))]) [7] rfl
  have hDc := hD.sub (ws' := [(q4, .inr (6, [.int 0, .int 0, .int 0, .null, .null, .null, .null, .int 0]))]) [7] (by decide) rfl
  have hFc := va_free (wc := [(q4, .inr (6, [.int 0, .int 0, .int 0, .null, .null, .null, .null, .int 0]))]) hD hS hA [7] rfl
  refine va_callv (va_runI (As := [.int n]) (rest := [.ref q4, .int 1, .ref q1]) ⟨hx, hb, hml, hown, hts⟩ (c_X7_init l d q4 H.size n hn) (cwI 1 hts (gdG (gdW bcX7_init.2.2)) rfl rfl rfl (hts _ bcX7_init.2.1) (hts _ ml_X1_24) (hts _ bcX7_init.1) rfl hdX7_init ⟨Nat.le_of_ble_eq_true rfl, Nat.le_of_ble_eq_true rfl⟩) ⟨yPre_blind, fun U hU hW => ⟨rfl, by rw [hU], by rw [hU]; exact hPc, va_K.moved hW.alike hK, hDc.weaken (fun _ _ _ _ => trivial), va_AO.moved hW.alike hOF, va_AO.moved hW.alike hOS⟩⟩ rfl rfl hl.1 rfl (lv_room (Nat.le_of_ble_eq_true rfl)) dX1_init_43 ⟨Nat.le_of_ble_eq_true rfl, Nat.le_of_ble_eq_true rfl⟩) hS (fun q _ h => hFc q h) hFc (fun u5 t H1 locs ht hvm hw hB hz1 hk1 hS => ?_)
  obtain ⟨hP1, -, hD1⟩ := hB
  rw [ht] at hP1
  obtain ⟨hP, hD⟩ := va_join (wr := [(h0, .inr (1, [.ref q1, .int 0, .int 0])), (q1, .inl (d.2.2.2, 4, .inr (.inr (.inr (.inr (va_up (fun _ => none) 0 (some q2))))))), (q2, .inr (6, [.int n, .int ((1 : Int32) <<< ((n : Int32) &&& 31)), .int (p3 n), .ref (u3 0), .ref (u3 1), .ref (u3 2), .ref (u3 3), .int 0])), ((u3 0), .inl (d.2.1, 12, .inl (fun _ => 0))), ((u3 1), .inl (d.2.1, 48, .inl (fun _ => 0))), ((u3 2), .inl (d.2.1, 48, .inl (fun _ => 0))), ((u3 3), .inl (d.2.1, 972, .inl (fun _ => 0)))]) (w1 := [(q4, .inr (6, [.int n, .int ((1 : Int32) <<< ((n : Int32) &&& 31)), .int (p3 n), .ref (u5 0), .ref (u5 1), .ref (u5 2), .ref (u5 3), .int 0])), ((u5 0), .inl (d.2.1, 12, .inl (fun _ => 0))), ((u5 1), .inl (d.2.1, 48, .inl (fun _ => 0))), ((u5 2), .inl (d.2.1, 48, .inl (fun _ => 0))), ((u5 3), .inl (d.2.1, 972, .inl (fun _ => 0)))]) hP hD [7] [0, 1, 2, 3, 4, 5, 6] rfl rfl (by decide) (by decide) hk1 hFc hP1 hD1
  generalize H1 = H at hP hS ⊢
  have hP : va_P d.1 vwCl [(h0, .inr (1, [.ref q1, .int 0, .int 0])), (q1, .inl (d.2.2.2, 4, .inr (.inr (.inr (.inr (va_up (fun _ => none) 0 (some q2))))))), (q2, .inr (6, [.int n, .int ((1 : Int32) <<< ((n : Int32) &&& 31)), .int (p3 n), .ref (u3 0), .ref (u3 1), .ref (u3 2), .ref (u3 3), .int 0])), ((u3 0), .inl (d.2.1, 12, .inl (fun _ => 0))), ((u3 1), .inl (d.2.1, 48, .inl (fun _ => 0))), ((u3 2), .inl (d.2.1, 48, .inl (fun _ => 0))), ((u3 3), .inl (d.2.1, 972, .inl (fun _ => 0))), (q4, .inr (6, [.int n, .int ((1 : Int32) <<< ((n : Int32) &&& 31)), .int (p3 n), .ref (u5 0), .ref (u5 1), .ref (u5 2), .ref (u5 3), .int 0])), ((u5 0), .inl (d.2.1, 12, .inl (fun _ => 0))), ((u5 1), .inl (d.2.1, 48, .inl (fun _ => 0))), ((u5 2), .inl (d.2.1, 48, .inl (fun _ => 0))), ((u5 3), .inl (d.2.1, 972, .inl (fun _ => 0)))] H := hP
  have hD : va_D A [(h0, .inr (1, [.ref q1, .int 0, .int 0])), (q1, .inl (d.2.2.2, 4, .inr (.inr (.inr (.inr (va_up (fun _ => none) 0 (some q2))))))), (q2, .inr (6, [.int n, .int ((1 : Int32) <<< ((n : Int32) &&& 31)), .int (p3 n), .ref (u3 0), .ref (u3 1), .ref (u3 2), .ref (u3 3), .int 0])), ((u3 0), .inl (d.2.1, 12, .inl (fun _ => 0))), ((u3 1), .inl (d.2.1, 48, .inl (fun _ => 0))), ((u3 2), .inl (d.2.1, 48, .inl (fun _ => 0))), ((u3 3), .inl (d.2.1, 972, .inl (fun _ => 0))), (q4, .inr (6, [.int n, .int ((1 : Int32) <<< ((n : Int32) &&& 31)), .int (p3 n), .ref (u5 0), .ref (u5 1), .ref (u5 2), .ref (u5 3), .int 0])), ((u5 0), .inl (d.2.1, 12, .inl (fun _ => 0))), ((u5 1), .inl (d.2.1, 48, .inl (fun _ => 0))), ((u5 2), .inl (d.2.1, 48, .inl (fun _ => 0))), ((u5 3), .inl (d.2.1, 972, .inl (fun _ => 0)))] := hD
  refine W.widen (k := 11) (n := 2180) (Nat.le_of_ble_eq_true rfl) (Nat.le_of_ble_eq_true rfl) ?_
  refine va_astq (r := (RX7, TX7, 8)) hx hb hK hP hD hS 1 2 7 6 rfl rfl rfl rfl (i := 1) (vp_in_nI (n := 1) (by decide) (by decide)) dX1_init_46 (fun H locs hP hD hS => ?_)
  have hP : va_P d.1 vwCl [(h0, .inr (1, [.ref q1, .int 0, .int 0])), (q1, .inl (d.2.2.2, 4, .inr (.inr (.inr (.inr (va_up (va_up (fun _ => none) 0 (some q2)) 1 (some q4))))))), (q2, .inr (6, [.int n, .int ((1 : Int32) <<< ((n : Int32) &&& 31)), .int (p3 n), .ref (u3 0), .ref (u3 1), .ref (u3 2), .ref (u3 3), .int 0])), ((u3 0), .inl (d.2.1, 12, .inl (fun _ => 0))), ((u3 1), .inl (d.2.1, 48, .inl (fun _ => 0))), ((u3 2), .inl (d.2.1, 48, .inl (fun _ => 0))), ((u3 3), .inl (d.2.1, 972, .inl (fun _ => 0))), (q4, .inr (6, [.int n, .int ((1 : Int32) <<< ((n : Int32) &&& 31)), .int (p3 n), .ref (u5 0), .ref (u5 1), .ref (u5 2), .ref (u5 3), .int 0])), ((u5 0), .inl (d.2.1, 12, .inl (fun _ => 0))), ((u5 1), .inl (d.2.1, 48, .inl (fun _ => 0))), ((u5 2), .inl (d.2.1, 48, .inl (fun _ => 0))), ((u5 3), .inl (d.2.1, 972, .inl (fun _ => 0)))] H := hP
  have hD : va_D A [(h0, .inr (1, [.ref q1, .int 0, .int 0])), (q1, .inl (d.2.2.2, 4, .inr (.inr (.inr (.inr (va_up (va_up (fun _ => none) 0 (some q2)) 1 (some q4))))))), (q2, .inr (6, [.int n, .int ((1 : Int32) <<< ((n : Int32) &&& 31)), .int (p3 n), .ref (u3 0), .ref (u3 1), .ref (u3 2), .ref (u3 3), .int 0])), ((u3 0), .inl (d.2.1, 12, .inl (fun _ => 0))), ((u3 1), .inl (d.2.1, 48, .inl (fun _ => 0))), ((u3 2), .inl (d.2.1, 48, .inl (fun _ => 0))), ((u3 3), .inl (d.2.1, 972, .inl (fun _ => 0))), (q4, .inr (6, [.int n, .int ((1 : Int32) <<< ((n : Int32) &&& 31)), .int (p3 n), .ref (u5 0), .ref (u5 1), .ref (u5 2), .ref (u5 3), .int 0])), ((u5 0), .inl (d.2.1, 12, .inl (fun _ => 0))), ((u5 1), .inl (d.2.1, 48, .inl (fun _ => 0))), ((u5 2), .inl (d.2.1, 48, .inl (fun _ => 0))), ((u5 3), .inl (d.2.1, 972, .inl (fun _ => 0)))] := hD
  refine lv_iinc (v := 2) (lv' := [(2, .int 2), (0, .ref h0), (1, .int n)]) hx hb dX1_init_47 hl (k := 0) rfl (by decide) (by decide) rfl (fun ls hl => ?_)
  refine lv_goto (tgt := 24) hx hb dX1_init_50 (by decide) ?_
  refine lv_iload_n hx hb dX1_init_24 rfl (lv_at hl 0 rfl) ?_
  refine lv_aload_n hx hb dX1_init_25 rfl (lv_at hl 1 rfl) ?_
  refine va_get (D := d.1) (ci := 1) (v := .ref q1) (C := RX1) (T := TX1) (N := 3) hx hb hts nn_X1 hown hK hP 0 rfl rfl 0 (by decide) (hts _ kf_X1_11) (fun _ h9 => h9) rfl dX1_init_26 ?_
  refine va_alen (v := 4) hx hb hK hP 1 2 rfl rfl rfl dX1_init_29 ?_
  refine lv_icmp_ge (tgt := 53) hx hb dX1_init_30 (by decide) (fun hc => absurd hc (show ¬ (4 : Int32) ≤ 2 by decide)) (fun _ => ?_)
  refine lv_aload_n hx hb dX1_init_33 rfl (lv_at hl 1 rfl) ?_
  refine va_get (D := d.1) (ci := 1) (v := .ref q1) (C := RX1) (T := TX1) (N := 3) hx hb hts nn_X1 hown hK hP 0 rfl rfl 0 (by decide) (hts _ kf_X1_11) (fun _ h9 => h9) rfl dX1_init_34 ?_
  refine lv_iload_n hx hb dX1_init_37 rfl (lv_at hl 0 rfl) ?_
  refine va_new (R := rmcX1) (ci := 6) (fs := [.int 0, .int 0, .int 0, .null, .null, .null, .null, .int 0]) (C := RX7) (T := TX7) (N := 8) hx hb hts nn_X7 tyX7 tyX7_ok hown (hts _ kl_X1_9) (hts _ bnX7) (hts _ ki_X7) hK hP hD hS hA rfl (fun j hj => by match j, hj with | 0, _ => rfl | 1, _ => rfl | 2, _ => rfl | 3, _ => rfl | 4, _ => rfl | 5, _ => rfl | 6, _ => rfl | 7, _ => rfl | z + 8, hz => exact absurd hz (by omega)) (Nat.le_of_ble_eq_true rfl) (Nat.le_of_ble_eq_true rfl) dX1_init_38 (fun q6 H hP hD hS => ?_)
  have hP : va_P d.1 vwCl [(h0, .inr (1, [.ref q1, .int 0, .int 0])), (q1, .inl (d.2.2.2, 4, .inr (.inr (.inr (.inr (va_up (va_up (fun _ => none) 0 (some q2)) 1 (some q4))))))), (q2, .inr (6, [.int n, .int ((1 : Int32) <<< ((n : Int32) &&& 31)), .int (p3 n), .ref (u3 0), .ref (u3 1), .ref (u3 2), .ref (u3 3), .int 0])), ((u3 0), .inl (d.2.1, 12, .inl (fun _ => 0))), ((u3 1), .inl (d.2.1, 48, .inl (fun _ => 0))), ((u3 2), .inl (d.2.1, 48, .inl (fun _ => 0))), ((u3 3), .inl (d.2.1, 972, .inl (fun _ => 0))), (q4, .inr (6, [.int n, .int ((1 : Int32) <<< ((n : Int32) &&& 31)), .int (p3 n), .ref (u5 0), .ref (u5 1), .ref (u5 2), .ref (u5 3), .int 0])), ((u5 0), .inl (d.2.1, 12, .inl (fun _ => 0))), ((u5 1), .inl (d.2.1, 48, .inl (fun _ => 0))), ((u5 2), .inl (d.2.1, 48, .inl (fun _ => 0))), ((u5 3), .inl (d.2.1, 972, .inl (fun _ => 0))), (q6, .inr (6, [.int 0, .int 0, .int 0, .null, .null, .null, .null, .int 0]))] H := hP
  have hD : va_D A [(h0, .inr (1, [.ref q1, .int 0, .int 0])), (q1, .inl (d.2.2.2, 4, .inr (.inr (.inr (.inr (va_up (va_up (fun _ => none) 0 (some q2)) 1 (some q4))))))), (q2, .inr (6, [.int n, .int ((1 : Int32) <<< ((n : Int32) &&& 31)), .int (p3 n), .ref (u3 0), .ref (u3 1), .ref (u3 2), .ref (u3 3), .int 0])), ((u3 0), .inl (d.2.1, 12, .inl (fun _ => 0))), ((u3 1), .inl (d.2.1, 48, .inl (fun _ => 0))), ((u3 2), .inl (d.2.1, 48, .inl (fun _ => 0))), ((u3 3), .inl (d.2.1, 972, .inl (fun _ => 0))), (q4, .inr (6, [.int n, .int ((1 : Int32) <<< ((n : Int32) &&& 31)), .int (p3 n), .ref (u5 0), .ref (u5 1), .ref (u5 2), .ref (u5 3), .int 0])), ((u5 0), .inl (d.2.1, 12, .inl (fun _ => 0))), ((u5 1), .inl (d.2.1, 48, .inl (fun _ => 0))), ((u5 2), .inl (d.2.1, 48, .inl (fun _ => 0))), ((u5 3), .inl (d.2.1, 972, .inl (fun _ => 0))), (q6, .inr (6, [.int 0, .int 0, .int 0, .null, .null, .null, .null, .int 0]))] := hD
  refine W.widen (k := 12) (n := 2188) (Nat.le_of_ble_eq_true rfl) (Nat.le_of_ble_eq_true rfl) ?_
  refine lv_dup hx hb dX1_init_41 rfl ?_
  refine lv_iload_n hx hb dX1_init_42 rfl (lv_at hl 2 rfl) ?_
  have hPc := hP.sub (ws' := [(q6, .inr (6, [.int 0, .int 0, .int 0, .null, .null, .null, .null, .int 0]))]) [12] rfl
  have hDc := hD.sub (ws' := [(q6, .inr (6, [.int 0, .int 0, .int 0, .null, .null, .null, .null, .int 0]))]) [12] (by decide) rfl
  have hFc := va_free (wc := [(q6, .inr (6, [.int 0, .int 0, .int 0, .null, .null, .null, .null, .int 0]))]) hD hS hA [12] rfl
  refine va_callv (va_runI (As := [.int n]) (rest := [.ref q6, .int 2, .ref q1]) ⟨hx, hb, hml, hown, hts⟩ (c_X7_init l d q6 H.size n hn) (cwI 1 hts (gdG (gdW bcX7_init.2.2)) rfl rfl rfl (hts _ bcX7_init.2.1) (hts _ ml_X1_24) (hts _ bcX7_init.1) rfl hdX7_init ⟨Nat.le_of_ble_eq_true rfl, Nat.le_of_ble_eq_true rfl⟩) ⟨yPre_blind, fun U hU hW => ⟨rfl, by rw [hU], by rw [hU]; exact hPc, va_K.moved hW.alike hK, hDc.weaken (fun _ _ _ _ => trivial), va_AO.moved hW.alike hOF, va_AO.moved hW.alike hOS⟩⟩ rfl rfl hl.1 rfl (lv_room (Nat.le_of_ble_eq_true rfl)) dX1_init_43 ⟨Nat.le_of_ble_eq_true rfl, Nat.le_of_ble_eq_true rfl⟩) hS (fun q _ h => hFc q h) hFc (fun u7 t H1 locs ht hvm hw hB hz1 hk1 hS => ?_)
  obtain ⟨hP1, -, hD1⟩ := hB
  rw [ht] at hP1
  obtain ⟨hP, hD⟩ := va_join (wr := [(h0, .inr (1, [.ref q1, .int 0, .int 0])), (q1, .inl (d.2.2.2, 4, .inr (.inr (.inr (.inr (va_up (va_up (fun _ => none) 0 (some q2)) 1 (some q4))))))), (q2, .inr (6, [.int n, .int ((1 : Int32) <<< ((n : Int32) &&& 31)), .int (p3 n), .ref (u3 0), .ref (u3 1), .ref (u3 2), .ref (u3 3), .int 0])), ((u3 0), .inl (d.2.1, 12, .inl (fun _ => 0))), ((u3 1), .inl (d.2.1, 48, .inl (fun _ => 0))), ((u3 2), .inl (d.2.1, 48, .inl (fun _ => 0))), ((u3 3), .inl (d.2.1, 972, .inl (fun _ => 0))), (q4, .inr (6, [.int n, .int ((1 : Int32) <<< ((n : Int32) &&& 31)), .int (p3 n), .ref (u5 0), .ref (u5 1), .ref (u5 2), .ref (u5 3), .int 0])), ((u5 0), .inl (d.2.1, 12, .inl (fun _ => 0))), ((u5 1), .inl (d.2.1, 48, .inl (fun _ => 0))), ((u5 2), .inl (d.2.1, 48, .inl (fun _ => 0))), ((u5 3), .inl (d.2.1, 972, .inl (fun _ => 0)))]) (w1 := [(q6, .inr (6, [.int n, .int ((1 : Int32) <<< ((n : Int32) &&& 31)), .int (p3 n), .ref (u7 0), .ref (u7 1), .ref (u7 2), .ref (u7 3), .int 0])), ((u7 0), .inl (d.2.1, 12, .inl (fun _ => 0))), ((u7 1), .inl (d.2.1, 48, .inl (fun _ => 0))), ((u7 2), .inl (d.2.1, 48, .inl (fun _ => 0))), ((u7 3), .inl (d.2.1, 972, .inl (fun _ => 0)))]) hP hD [12] [0, 1, 2, 3, 4, 5, 6, 7, 8, 9, 10, 11] rfl rfl (by decide) (by decide) hk1 hFc hP1 hD1
  generalize H1 = H at hP hS ⊢
  have hP : va_P d.1 vwCl [(h0, .inr (1, [.ref q1, .int 0, .int 0])), (q1, .inl (d.2.2.2, 4, .inr (.inr (.inr (.inr (va_up (va_up (fun _ => none) 0 (some q2)) 1 (some q4))))))), (q2, .inr (6, [.int n, .int ((1 : Int32) <<< ((n : Int32) &&& 31)), .int (p3 n), .ref (u3 0), .ref (u3 1), .ref (u3 2), .ref (u3 3), .int 0])), ((u3 0), .inl (d.2.1, 12, .inl (fun _ => 0))), ((u3 1), .inl (d.2.1, 48, .inl (fun _ => 0))), ((u3 2), .inl (d.2.1, 48, .inl (fun _ => 0))), ((u3 3), .inl (d.2.1, 972, .inl (fun _ => 0))), (q4, .inr (6, [.int n, .int ((1 : Int32) <<< ((n : Int32) &&& 31)), .int (p3 n), .ref (u5 0), .ref (u5 1), .ref (u5 2), .ref (u5 3), .int 0])), ((u5 0), .inl (d.2.1, 12, .inl (fun _ => 0))), ((u5 1), .inl (d.2.1, 48, .inl (fun _ => 0))), ((u5 2), .inl (d.2.1, 48, .inl (fun _ => 0))), ((u5 3), .inl (d.2.1, 972, .inl (fun _ => 0))), (q6, .inr (6, [.int n, .int ((1 : Int32) <<< ((n : Int32) &&& 31)), .int (p3 n), .ref (u7 0), .ref (u7 1), .ref (u7 2), .ref (u7 3), .int 0])), ((u7 0), .inl (d.2.1, 12, .inl (fun _ => 0))), ((u7 1), .inl (d.2.1, 48, .inl (fun _ => 0))), ((u7 2), .inl (d.2.1, 48, .inl (fun _ => 0))), ((u7 3), .inl (d.2.1, 972, .inl (fun _ => 0)))] H := hP
  have hD : va_D A [(h0, .inr (1, [.ref q1, .int 0, .int 0])), (q1, .inl (d.2.2.2, 4, .inr (.inr (.inr (.inr (va_up (va_up (fun _ => none) 0 (some q2)) 1 (some q4))))))), (q2, .inr (6, [.int n, .int ((1 : Int32) <<< ((n : Int32) &&& 31)), .int (p3 n), .ref (u3 0), .ref (u3 1), .ref (u3 2), .ref (u3 3), .int 0])), ((u3 0), .inl (d.2.1, 12, .inl (fun _ => 0))), ((u3 1), .inl (d.2.1, 48, .inl (fun _ => 0))), ((u3 2), .inl (d.2.1, 48, .inl (fun _ => 0))), ((u3 3), .inl (d.2.1, 972, .inl (fun _ => 0))), (q4, .inr (6, [.int n, .int ((1 : Int32) <<< ((n : Int32) &&& 31)), .int (p3 n), .ref (u5 0), .ref (u5 1), .ref (u5 2), .ref (u5 3), .int 0])), ((u5 0), .inl (d.2.1, 12, .inl (fun _ => 0))), ((u5 1), .inl (d.2.1, 48, .inl (fun _ => 0))), ((u5 2), .inl (d.2.1, 48, .inl (fun _ => 0))), ((u5 3), .inl (d.2.1, 972, .inl (fun _ => 0))), (q6, .inr (6, [.int n, .int ((1 : Int32) <<< ((n : Int32) &&& 31)), .int (p3 n), .ref (u7 0), .ref (u7 1), .ref (u7 2), .ref (u7 3), .int 0])), ((u7 0), .inl (d.2.1, 12, .inl (fun _ => 0))), ((u7 1), .inl (d.2.1, 48, .inl (fun _ => 0))), ((u7 2), .inl (d.2.1, 48, .inl (fun _ => 0))), ((u7 3), .inl (d.2.1, 972, .inl (fun _ => 0)))] := hD
  refine W.widen (k := 16) (n := 3268) (Nat.le_of_ble_eq_true rfl) (Nat.le_of_ble_eq_true rfl) ?_
  refine va_astq (r := (RX7, TX7, 8)) hx hb hK hP hD hS 1 2 12 6 rfl rfl rfl rfl (i := 2) (vp_in_nI (n := 2) (by decide) (by decide)) dX1_init_46 (fun H locs hP hD hS => ?_)
  have hP : va_P d.1 vwCl [(h0, .inr (1, [.ref q1, .int 0, .int 0])), (q1, .inl (d.2.2.2, 4, .inr (.inr (.inr (.inr (va_up (va_up (va_up (fun _ => none) 0 (some q2)) 1 (some q4)) 2 (some q6))))))), (q2, .inr (6, [.int n, .int ((1 : Int32) <<< ((n : Int32) &&& 31)), .int (p3 n), .ref (u3 0), .ref (u3 1), .ref (u3 2), .ref (u3 3), .int 0])), ((u3 0), .inl (d.2.1, 12, .inl (fun _ => 0))), ((u3 1), .inl (d.2.1, 48, .inl (fun _ => 0))), ((u3 2), .inl (d.2.1, 48, .inl (fun _ => 0))), ((u3 3), .inl (d.2.1, 972, .inl (fun _ => 0))), (q4, .inr (6, [.int n, .int ((1 : Int32) <<< ((n : Int32) &&& 31)), .int (p3 n), .ref (u5 0), .ref (u5 1), .ref (u5 2), .ref (u5 3), .int 0])), ((u5 0), .inl (d.2.1, 12, .inl (fun _ => 0))), ((u5 1), .inl (d.2.1, 48, .inl (fun _ => 0))), ((u5 2), .inl (d.2.1, 48, .inl (fun _ => 0))), ((u5 3), .inl (d.2.1, 972, .inl (fun _ => 0))), (q6, .inr (6, [.int n, .int ((1 : Int32) <<< ((n : Int32) &&& 31)), .int (p3 n), .ref (u7 0), .ref (u7 1), .ref (u7 2), .ref (u7 3), .int 0])), ((u7 0), .inl (d.2.1, 12, .inl (fun _ => 0))), ((u7 1), .inl (d.2.1, 48, .inl (fun _ => 0))), ((u7 2), .inl (d.2.1, 48, .inl (fun _ => 0))), ((u7 3), .inl (d.2.1, 972, .inl (fun _ => 0)))] H := hP
  have hD : va_D A [(h0, .inr (1, [.ref q1, .int 0, .int 0])), (q1, .inl (d.2.2.2, 4, .inr (.inr (.inr (.inr (va_up (va_up (va_up (fun _ => none) 0 (some q2)) 1 (some q4)) 2 (some q6))))))), (q2, .inr (6, [.int n, .int ((1 : Int32) <<< ((n : Int32) &&& 31)), .int (p3 n), .ref (u3 0), .ref (u3 1), .ref (u3 2), .ref (u3 3), .int 0])), ((u3 0), .inl (d.2.1, 12, .inl (fun _ => 0))), ((u3 1), .inl (d.2.1, 48, .inl (fun _ => 0))), ((u3 2), .inl (d.2.1, 48, .inl (fun _ => 0))), ((u3 3), .inl (d.2.1, 972, .inl (fun _ => 0))), (q4, .inr (6, [.int n, .int ((1 : Int32) <<< ((n : Int32) &&& 31)), .int (p3 n), .ref (u5 0), .ref (u5 1), .ref (u5 2), .ref (u5 3), .int 0])), ((u5 0), .inl (d.2.1, 12, .inl (fun _ => 0))), ((u5 1), .inl (d.2.1, 48, .inl (fun _ => 0))), ((u5 2), .inl (d.2.1, 48, .inl (fun _ => 0))), ((u5 3), .inl (d.2.1, 972, .inl (fun _ => 0))), (q6, .inr (6, [.int n, .int ((1 : Int32) <<< ((n : Int32) &&& 31)), .int (p3 n), .ref (u7 0), .ref (u7 1), .ref (u7 2), .ref (u7 3), .int 0])), ((u7 0), .inl (d.2.1, 12, .inl (fun _ => 0))), ((u7 1), .inl (d.2.1, 48, .inl (fun _ => 0))), ((u7 2), .inl (d.2.1, 48, .inl (fun _ => 0))), ((u7 3), .inl (d.2.1, 972, .inl (fun _ => 0)))] := hD
  refine lv_iinc (v := 3) (lv' := [(2, .int 3), (0, .ref h0), (1, .int n)]) hx hb dX1_init_47 hl (k := 0) rfl (by decide) (by decide) rfl (fun ls hl => ?_)
  refine lv_goto (tgt := 24) hx hb dX1_init_50 (by decide) ?_
  refine lv_iload_n hx hb dX1_init_24 rfl (lv_at hl 0 rfl) ?_
  refine lv_aload_n hx hb dX1_init_25 rfl (lv_at hl 1 rfl) ?_
  refine va_get (D := d.1) (ci := 1) (v := .ref q1) (C := RX1) (T := TX1) (N := 3) hx hb hts nn_X1 hown hK hP 0 rfl rfl 0 (by decide) (hts _ kf_X1_11) (fun _ h9 => h9) rfl dX1_init_26 ?_
  refine va_alen (v := 4) hx hb hK hP 1 2 rfl rfl rfl dX1_init_29 ?_
  refine lv_icmp_ge (tgt := 53) hx hb dX1_init_30 (by decide) (fun hc => absurd hc (show ¬ (4 : Int32) ≤ 3 by decide)) (fun _ => ?_)
  refine lv_aload_n hx hb dX1_init_33 rfl (lv_at hl 1 rfl) ?_
  refine va_get (D := d.1) (ci := 1) (v := .ref q1) (C := RX1) (T := TX1) (N := 3) hx hb hts nn_X1 hown hK hP 0 rfl rfl 0 (by decide) (hts _ kf_X1_11) (fun _ h9 => h9) rfl dX1_init_34 ?_
  refine lv_iload_n hx hb dX1_init_37 rfl (lv_at hl 0 rfl) ?_
  refine va_new (R := rmcX1) (ci := 6) (fs := [.int 0, .int 0, .int 0, .null, .null, .null, .null, .int 0]) (C := RX7) (T := TX7) (N := 8) hx hb hts nn_X7 tyX7 tyX7_ok hown (hts _ kl_X1_9) (hts _ bnX7) (hts _ ki_X7) hK hP hD hS hA rfl (fun j hj => by match j, hj with | 0, _ => rfl | 1, _ => rfl | 2, _ => rfl | 3, _ => rfl | 4, _ => rfl | 5, _ => rfl | 6, _ => rfl | 7, _ => rfl | z + 8, hz => exact absurd hz (by omega)) (Nat.le_of_ble_eq_true rfl) (Nat.le_of_ble_eq_true rfl) dX1_init_38 (fun q8 H hP hD hS => ?_)
  have hP : va_P d.1 vwCl [(h0, .inr (1, [.ref q1, .int 0, .int 0])), (q1, .inl (d.2.2.2, 4, .inr (.inr (.inr (.inr (va_up (va_up (va_up (fun _ => none) 0 (some q2)) 1 (some q4)) 2 (some q6))))))), (q2, .inr (6, [.int n, .int ((1 : Int32) <<< ((n : Int32) &&& 31)), .int (p3 n), .ref (u3 0), .ref (u3 1), .ref (u3 2), .ref (u3 3), .int 0])), ((u3 0), .inl (d.2.1, 12, .inl (fun _ => 0))), ((u3 1), .inl (d.2.1, 48, .inl (fun _ => 0))), ((u3 2), .inl (d.2.1, 48, .inl (fun _ => 0))), ((u3 3), .inl (d.2.1, 972, .inl (fun _ => 0))), (q4, .inr (6, [.int n, .int ((1 : Int32) <<< ((n : Int32) &&& 31)), .int (p3 n), .ref (u5 0), .ref (u5 1), .ref (u5 2), .ref (u5 3), .int 0])), ((u5 0), .inl (d.2.1, 12, .inl (fun _ => 0))), ((u5 1), .inl (d.2.1, 48, .inl (fun _ => 0))), ((u5 2), .inl (d.2.1, 48, .inl (fun _ => 0))), ((u5 3), .inl (d.2.1, 972, .inl (fun _ => 0))), (q6, .inr (6, [.int n, .int ((1 : Int32) <<< ((n : Int32) &&& 31)), .int (p3 n), .ref (u7 0), .ref (u7 1), .ref (u7 2), .ref (u7 3), .int 0])), ((u7 0), .inl (d.2.1, 12, .inl (fun _ => 0))), ((u7 1), .inl (d.2.1, 48, .inl (fun _ => 0))), ((u7 2), .inl (d.2.1, 48, .inl (fun _ => 0))), ((u7 3), .inl (d.2.1, 972, .inl (fun _ => 0))), (q8, .inr (6, [.int 0, .int 0, .int 0, .null, .null, .null, .null, .int 0]))] H := hP
  have hD : va_D A [(h0, .inr (1, [.ref q1, .int 0, .int 0])), (q1, .inl (d.2.2.2, 4, .inr (.inr (.inr (.inr (va_up (va_up (va_up (fun _ => none) 0 (some q2)) 1 (some q4)) 2 (some q6))))))), (q2, .inr (6, [.int n, .int ((1 : Int32) <<< ((n : Int32) &&& 31)), .int (p3 n), .ref (u3 0), .ref (u3 1), .ref (u3 2), .ref (u3 3), .int 0])), ((u3 0), .inl (d.2.1, 12, .inl (fun _ => 0))), ((u3 1), .inl (d.2.1, 48, .inl (fun _ => 0))), ((u3 2), .inl (d.2.1, 48, .inl (fun _ => 0))), ((u3 3), .inl (d.2.1, 972, .inl (fun _ => 0))), (q4, .inr (6, [.int n, .int ((1 : Int32) <<< ((n : Int32) &&& 31)), .int (p3 n), .ref (u5 0), .ref (u5 1), .ref (u5 2), .ref (u5 3), .int 0])), ((u5 0), .inl (d.2.1, 12, .inl (fun _ => 0))), ((u5 1), .inl (d.2.1, 48, .inl (fun _ => 0))), ((u5 2), .inl (d.2.1, 48, .inl (fun _ => 0))), ((u5 3), .inl (d.2.1, 972, .inl (fun _ => 0))), (q6, .inr (6, [.int n, .int ((1 : Int32) <<< ((n : Int32) &&& 31)), .int (p3 n), .ref (u7 0), .ref (u7 1), .ref (u7 2), .ref (u7 3), .int 0])), ((u7 0), .inl (d.2.1, 12, .inl (fun _ => 0))), ((u7 1), .inl (d.2.1, 48, .inl (fun _ => 0))), ((u7 2), .inl (d.2.1, 48, .inl (fun _ => 0))), ((u7 3), .inl (d.2.1, 972, .inl (fun _ => 0))), (q8, .inr (6, [.int 0, .int 0, .int 0, .null, .null, .null, .null, .int 0]))] := hD
  refine W.widen (k := 17) (n := 3276) (Nat.le_of_ble_eq_true rfl) (Nat.le_of_ble_eq_true rfl) ?_
  refine lv_dup hx hb dX1_init_41 rfl ?_
  refine lv_iload_n hx hb dX1_init_42 rfl (lv_at hl 2 rfl) ?_
  have hPc := hP.sub (ws' := [(q8, .inr (6, [.int 0, .int 0, .int 0, .null, .null, .null, .null, .int 0]))]) [17] rfl
  have hDc := hD.sub (ws' := [(q8, .inr (6, [.int 0, .int 0, .int 0, .null, .null, .null, .null, .int 0]))]) [17] (by decide) rfl
  have hFc := va_free (wc := [(q8, .inr (6, [.int 0, .int 0, .int 0, .null, .null, .null, .null, .int 0]))]) hD hS hA [17] rfl
  refine va_callv (va_runI (As := [.int n]) (rest := [.ref q8, .int 3, .ref q1]) ⟨hx, hb, hml, hown, hts⟩ (c_X7_init l d q8 H.size n hn) (cwI 1 hts (gdG (gdW bcX7_init.2.2)) rfl rfl rfl (hts _ bcX7_init.2.1) (hts _ ml_X1_24) (hts _ bcX7_init.1) rfl hdX7_init ⟨Nat.le_of_ble_eq_true rfl, Nat.le_of_ble_eq_true rfl⟩) ⟨yPre_blind, fun U hU hW => ⟨rfl, by rw [hU], by rw [hU]; exact hPc, va_K.moved hW.alike hK, hDc.weaken (fun _ _ _ _ => trivial), va_AO.moved hW.alike hOF, va_AO.moved hW.alike hOS⟩⟩ rfl rfl hl.1 rfl (lv_room (Nat.le_of_ble_eq_true rfl)) dX1_init_43 ⟨Nat.le_of_ble_eq_true rfl, Nat.le_of_ble_eq_true rfl⟩) hS (fun q _ h => hFc q h) hFc (fun u9 t H1 locs ht hvm hw hB hz1 hk1 hS => ?_)
  obtain ⟨hP1, -, hD1⟩ := hB
  rw [ht] at hP1
  obtain ⟨hP, hD⟩ := va_join (wr := [(h0, .inr (1, [.ref q1, .int 0, .int 0])), (q1, .inl (d.2.2.2, 4, .inr (.inr (.inr (.inr (va_up (va_up (va_up (fun _ => none) 0 (some q2)) 1 (some q4)) 2 (some q6))))))), (q2, .inr (6, [.int n, .int ((1 : Int32) <<< ((n : Int32) &&& 31)), .int (p3 n), .ref (u3 0), .ref (u3 1), .ref (u3 2), .ref (u3 3), .int 0])), ((u3 0), .inl (d.2.1, 12, .inl (fun _ => 0))), ((u3 1), .inl (d.2.1, 48, .inl (fun _ => 0))), ((u3 2), .inl (d.2.1, 48, .inl (fun _ => 0))), ((u3 3), .inl (d.2.1, 972, .inl (fun _ => 0))), (q4, .inr (6, [.int n, .int ((1 : Int32) <<< ((n : Int32) &&& 31)), .int (p3 n), .ref (u5 0), .ref (u5 1), .ref (u5 2), .ref (u5 3), .int 0])), ((u5 0), .inl (d.2.1, 12, .inl (fun _ => 0))), ((u5 1), .inl (d.2.1, 48, .inl (fun _ => 0))), ((u5 2), .inl (d.2.1, 48, .inl (fun _ => 0))), ((u5 3), .inl (d.2.1, 972, .inl (fun _ => 0))), (q6, .inr (6, [.int n, .int ((1 : Int32) <<< ((n : Int32) &&& 31)), .int (p3 n), .ref (u7 0), .ref (u7 1), .ref (u7 2), .ref (u7 3), .int 0])), ((u7 0), .inl (d.2.1, 12, .inl (fun _ => 0))), ((u7 1), .inl (d.2.1, 48, .inl (fun _ => 0))), ((u7 2), .inl (d.2.1, 48, .inl (fun _ => 0))), ((u7 3), .inl (d.2.1, 972, .inl (fun _ => 0)))]) (w1 := [(q8, .inr (6, [.int n, .int ((1 : Int32) <<< ((n : Int32) &&& 31)), .int (p3 n), .ref (u9 0), .ref (u9 1), .ref (u9 2), .ref (u9 3), .int 0])), ((u9 0), .inl (d.2.1, 12, .inl (fun _ => 0))), ((u9 1), .inl (d.2.1, 48, .inl (fun _ => 0))), ((u9 2), .inl (d.2.1, 48, .inl (fun _ => 0))), ((u9 3), .inl (d.2.1, 972, .inl (fun _ => 0)))]) hP hD [17] [0, 1, 2, 3, 4, 5, 6, 7, 8, 9, 10, 11, 12, 13, 14, 15, 16] rfl rfl (by decide) (by decide) hk1 hFc hP1 hD1
  generalize H1 = H at hP hS ⊢
  have hP : va_P d.1 vwCl [(h0, .inr (1, [.ref q1, .int 0, .int 0])), (q1, .inl (d.2.2.2, 4, .inr (.inr (.inr (.inr (va_up (va_up (va_up (fun _ => none) 0 (some q2)) 1 (some q4)) 2 (some q6))))))), (q2, .inr (6, [.int n, .int ((1 : Int32) <<< ((n : Int32) &&& 31)), .int (p3 n), .ref (u3 0), .ref (u3 1), .ref (u3 2), .ref (u3 3), .int 0])), ((u3 0), .inl (d.2.1, 12, .inl (fun _ => 0))), ((u3 1), .inl (d.2.1, 48, .inl (fun _ => 0))), ((u3 2), .inl (d.2.1, 48, .inl (fun _ => 0))), ((u3 3), .inl (d.2.1, 972, .inl (fun _ => 0))), (q4, .inr (6, [.int n, .int ((1 : Int32) <<< ((n : Int32) &&& 31)), .int (p3 n), .ref (u5 0), .ref (u5 1), .ref (u5 2), .ref (u5 3), .int 0])), ((u5 0), .inl (d.2.1, 12, .inl (fun _ => 0))), ((u5 1), .inl (d.2.1, 48, .inl (fun _ => 0))), ((u5 2), .inl (d.2.1, 48, .inl (fun _ => 0))), ((u5 3), .inl (d.2.1, 972, .inl (fun _ => 0))), (q6, .inr (6, [.int n, .int ((1 : Int32) <<< ((n : Int32) &&& 31)), .int (p3 n), .ref (u7 0), .ref (u7 1), .ref (u7 2), .ref (u7 3), .int 0])), ((u7 0), .inl (d.2.1, 12, .inl (fun _ => 0))), ((u7 1), .inl (d.2.1, 48, .inl (fun _ => 0))), ((u7 2), .inl (d.2.1, 48, .inl (fun _ => 0))), ((u7 3), .inl (d.2.1, 972, .inl (fun _ => 0))), (q8, .inr (6, [.int n, .int ((1 : Int32) <<< ((n : Int32) &&& 31)), .int (p3 n), .ref (u9 0), .ref (u9 1), .ref (u9 2), .ref (u9 3), .int 0])), ((u9 0), .inl (d.2.1, 12, .inl (fun _ => 0))), ((u9 1), .inl (d.2.1, 48, .inl (fun _ => 0))), ((u9 2), .inl (d.2.1, 48, .inl (fun _ => 0))), ((u9 3), .inl (d.2.1, 972, .inl (fun _ => 0)))] H := hP
  have hD : va_D A [(h0, .inr (1, [.ref q1, .int 0, .int 0])), (q1, .inl (d.2.2.2, 4, .inr (.inr (.inr (.inr (va_up (va_up (va_up (fun _ => none) 0 (some q2)) 1 (some q4)) 2 (some q6))))))), (q2, .inr (6, [.int n, .int ((1 : Int32) <<< ((n : Int32) &&& 31)), .int (p3 n), .ref (u3 0), .ref (u3 1), .ref (u3 2), .ref (u3 3), .int 0])), ((u3 0), .inl (d.2.1, 12, .inl (fun _ => 0))), ((u3 1), .inl (d.2.1, 48, .inl (fun _ => 0))), ((u3 2), .inl (d.2.1, 48, .inl (fun _ => 0))), ((u3 3), .inl (d.2.1, 972, .inl (fun _ => 0))), (q4, .inr (6, [.int n, .int ((1 : Int32) <<< ((n : Int32) &&& 31)), .int (p3 n), .ref (u5 0), .ref (u5 1), .ref (u5 2), .ref (u5 3), .int 0])), ((u5 0), .inl (d.2.1, 12, .inl (fun _ => 0))), ((u5 1), .inl (d.2.1, 48, .inl (fun _ => 0))), ((u5 2), .inl (d.2.1, 48, .inl (fun _ => 0))), ((u5 3), .inl (d.2.1, 972, .inl (fun _ => 0))), (q6, .inr (6, [.int n, .int ((1 : Int32) <<< ((n : Int32) &&& 31)), .int (p3 n), .ref (u7 0), .ref (u7 1), .ref (u7 2), .ref (u7 3), .int 0])), ((u7 0), .inl (d.2.1, 12, .inl (fun _ => 0))), ((u7 1), .inl (d.2.1, 48, .inl (fun _ => 0))), ((u7 2), .inl (d.2.1, 48, .inl (fun _ => 0))), ((u7 3), .inl (d.2.1, 972, .inl (fun _ => 0))), (q8, .inr (6, [.int n, .int ((1 : Int32) <<< ((n : Int32) &&& 31)), .int (p3 n), .ref (u9 0), .ref (u9 1), .ref (u9 2), .ref (u9 3), .int 0])), ((u9 0), .inl (d.2.1, 12, .inl (fun _ => 0))), ((u9 1), .inl (d.2.1, 48, .inl (fun _ => 0))), ((u9 2), .inl (d.2.1, 48, .inl (fun _ => 0))), ((u9 3), .inl (d.2.1, 972, .inl (fun _ => 0)))] := hD
  refine W.widen (k := 21) (n := 4356) (Nat.le_of_ble_eq_true rfl) (Nat.le_of_ble_eq_true rfl) ?_
  refine va_astq (r := (RX7, TX7, 8)) hx hb hK hP hD hS 1 2 17 6 rfl rfl rfl rfl (i := 3) (vp_in_nI (n := 3) (by decide) (by decide)) dX1_init_46 (fun H locs hP hD hS => ?_)
  have hP : va_P d.1 vwCl [(h0, .inr (1, [.ref q1, .int 0, .int 0])), (q1, .inl (d.2.2.2, 4, .inr (.inr (.inr (.inr (va_up (va_up (va_up (va_up (fun _ => none) 0 (some q2)) 1 (some q4)) 2 (some q6)) 3 (some q8))))))), (q2, .inr (6, [.int n, .int ((1 : Int32) <<< ((n : Int32) &&& 31)), .int (p3 n), .ref (u3 0), .ref (u3 1), .ref (u3 2), .ref (u3 3), .int 0])), ((u3 0), .inl (d.2.1, 12, .inl (fun _ => 0))), ((u3 1), .inl (d.2.1, 48, .inl (fun _ => 0))), ((u3 2), .inl (d.2.1, 48, .inl (fun _ => 0))), ((u3 3), .inl (d.2.1, 972, .inl (fun _ => 0))), (q4, .inr (6, [.int n, .int ((1 : Int32) <<< ((n : Int32) &&& 31)), .int (p3 n), .ref (u5 0), .ref (u5 1), .ref (u5 2), .ref (u5 3), .int 0])), ((u5 0), .inl (d.2.1, 12, .inl (fun _ => 0))), ((u5 1), .inl (d.2.1, 48, .inl (fun _ => 0))), ((u5 2), .inl (d.2.1, 48, .inl (fun _ => 0))), ((u5 3), .inl (d.2.1, 972, .inl (fun _ => 0))), (q6, .inr (6, [.int n, .int ((1 : Int32) <<< ((n : Int32) &&& 31)), .int (p3 n), .ref (u7 0), .ref (u7 1), .ref (u7 2), .ref (u7 3), .int 0])), ((u7 0), .inl (d.2.1, 12, .inl (fun _ => 0))), ((u7 1), .inl (d.2.1, 48, .inl (fun _ => 0))), ((u7 2), .inl (d.2.1, 48, .inl (fun _ => 0))), ((u7 3), .inl (d.2.1, 972, .inl (fun _ => 0))), (q8, .inr (6, [.int n, .int ((1 : Int32) <<< ((n : Int32) &&& 31)), .int (p3 n), .ref (u9 0), .ref (u9 1), .ref (u9 2), .ref (u9 3), .int 0])), ((u9 0), .inl (d.2.1, 12, .inl (fun _ => 0))), ((u9 1), .inl (d.2.1, 48, .inl (fun _ => 0))), ((u9 2), .inl (d.2.1, 48, .inl (fun _ => 0))), ((u9 3), .inl (d.2.1, 972, .inl (fun _ => 0)))] H := hP
  have hD : va_D A [(h0, .inr (1, [.ref q1, .int 0, .int 0])), (q1, .inl (d.2.2.2, 4, .inr (.inr (.inr (.inr (va_up (va_up (va_up (va_up (fun _ => none) 0 (some q2)) 1 (some q4)) 2 (some q6)) 3 (some q8))))))), (q2, .inr (6, [.int n, .int ((1 : Int32) <<< ((n : Int32) &&& 31)), .int (p3 n), .ref (u3 0), .ref (u3 1), .ref (u3 2), .ref (u3 3), .int 0])), ((u3 0), .inl (d.2.1, 12, .inl (fun _ => 0))), ((u3 1), .inl (d.2.1, 48, .inl (fun _ => 0))), ((u3 2), .inl (d.2.1, 48, .inl (fun _ => 0))), ((u3 3), .inl (d.2.1, 972, .inl (fun _ => 0))), (q4, .inr (6, [.int n, .int ((1 : Int32) <<< ((n : Int32) &&& 31)), .int (p3 n), .ref (u5 0), .ref (u5 1), .ref (u5 2), .ref (u5 3), .int 0])), ((u5 0), .inl (d.2.1, 12, .inl (fun _ => 0))), ((u5 1), .inl (d.2.1, 48, .inl (fun _ => 0))), ((u5 2), .inl (d.2.1, 48, .inl (fun _ => 0))), ((u5 3), .inl (d.2.1, 972, .inl (fun _ => 0))), (q6, .inr (6, [.int n, .int ((1 : Int32) <<< ((n : Int32) &&& 31)), .int (p3 n), .ref (u7 0), .ref (u7 1), .ref (u7 2), .ref (u7 3), .int 0])), ((u7 0), .inl (d.2.1, 12, .inl (fun _ => 0))), ((u7 1), .inl (d.2.1, 48, .inl (fun _ => 0))), ((u7 2), .inl (d.2.1, 48, .inl (fun _ => 0))), ((u7 3), .inl (d.2.1, 972, .inl (fun _ => 0))), (q8, .inr (6, [.int n, .int ((1 : Int32) <<< ((n : Int32) &&& 31)), .int (p3 n), .ref (u9 0), .ref (u9 1), .ref (u9 2), .ref (u9 3), .int 0])), ((u9 0), .inl (d.2.1, 12, .inl (fun _ => 0))), ((u9 1), .inl (d.2.1, 48, .inl (fun _ => 0))), ((u9 2), .inl (d.2.1, 48, .inl (fun _ => 0))), ((u9 3), .inl (d.2.1, 972, .inl (fun _ => 0)))] := hD
  refine lv_iinc (v := 4) (lv' := [(2, .int 4), (0, .ref h0), (1, .int n)]) hx hb dX1_init_47 hl (k := 0) rfl (by decide) (by decide) rfl (fun ls hl => ?_)
  refine lv_goto (tgt := 24) hx hb dX1_init_50 (by decide) ?_
  refine lv_iload_n hx hb dX1_init_24 rfl (lv_at hl 0 rfl) ?_
  refine lv_aload_n hx hb dX1_init_25 rfl (lv_at hl 1 rfl) ?_
  refine va_get (D := d.1) (ci := 1) (v := .ref q1) (C := RX1) (T := TX1) (N := 3) hx hb hts nn_X1 hown hK hP 0 rfl rfl 0 (by decide) (hts _ kf_X1_11) (fun _ h9 => h9) rfl dX1_init_26 ?_
  refine va_alen (v := 4) hx hb hK hP 1 2 rfl rfl rfl dX1_init_29 ?_
  refine lv_icmp_ge (tgt := 53) hx hb dX1_init_30 (by decide) (fun _ => ?_) (fun hc => absurd (show (4 : Int32) ≤ 4 by decide) hc)
  have hP9 := hP.sub (ws' := [(h0, .inr (1, [.ref q1, .int 0, .int 0])), (q1, .inl (d.2.2.2, 4, .inr (.inr (.inr (.inr (va_up (va_up (va_up (va_up (fun _ => none) 0 (some q2)) 1 (some q4)) 2 (some q6)) 3 (some q8))))))), (q2, .inr (6, [.int n, .int ((1 : Int32) <<< ((n : Int32) &&& 31)), .int (p3 n), .ref (u3 0), .ref (u3 1), .ref (u3 2), .ref (u3 3), .int 0])), ((u3 0), .inl (d.2.1, 12, .inl (fun _ => 0))), ((u3 1), .inl (d.2.1, 48, .inl (fun _ => 0))), ((u3 2), .inl (d.2.1, 48, .inl (fun _ => 0))), ((u3 3), .inl (d.2.1, 972, .inl (fun _ => 0))), (q4, .inr (6, [.int n, .int ((1 : Int32) <<< ((n : Int32) &&& 31)), .int (p3 n), .ref (u5 0), .ref (u5 1), .ref (u5 2), .ref (u5 3), .int 0])), ((u5 0), .inl (d.2.1, 12, .inl (fun _ => 0))), ((u5 1), .inl (d.2.1, 48, .inl (fun _ => 0))), ((u5 2), .inl (d.2.1, 48, .inl (fun _ => 0))), ((u5 3), .inl (d.2.1, 972, .inl (fun _ => 0))), (q6, .inr (6, [.int n, .int ((1 : Int32) <<< ((n : Int32) &&& 31)), .int (p3 n), .ref (u7 0), .ref (u7 1), .ref (u7 2), .ref (u7 3), .int 0])), ((u7 0), .inl (d.2.1, 12, .inl (fun _ => 0))), ((u7 1), .inl (d.2.1, 48, .inl (fun _ => 0))), ((u7 2), .inl (d.2.1, 48, .inl (fun _ => 0))), ((u7 3), .inl (d.2.1, 972, .inl (fun _ => 0))), (q8, .inr (6, [.int n, .int ((1 : Int32) <<< ((n : Int32) &&& 31)), .int (p3 n), .ref (u9 0), .ref (u9 1), .ref (u9 2), .ref (u9 3), .int 0])), ((u9 0), .inl (d.2.1, 12, .inl (fun _ => 0))), ((u9 1), .inl (d.2.1, 48, .inl (fun _ => 0))), ((u9 2), .inl (d.2.1, 48, .inl (fun _ => 0))), ((u9 3), .inl (d.2.1, 972, .inl (fun _ => 0)))]) [0, 1, 2, 3, 4, 5, 6, 7, 8, 9, 10, 11, 12, 13, 14, 15, 16, 17, 18, 19, 20, 21] rfl
  have hD9 := hD.sub (ws' := [(h0, .inr (1, [.ref q1, .int 0, .int 0])), (q1, .inl (d.2.2.2, 4, .inr (.inr (.inr (.inr (va_up (va_up (va_up (va_up (fun _ => none) 0 (some q2)) 1 (some q4)) 2 (some q6)) 3 (some q8))))))), (q2, .inr (6, [.int n, .int ((1 : Int32) <<< ((n : Int32) &&& 31)), .int (p3 n), .ref (u3 0), .ref (u3 1), .ref (u3 2), .ref (u3 3), .int 0])), ((u3 0), .inl (d.2.1, 12, .inl (fun _ => 0))), ((u3 1), .inl (d.2.1, 48, .inl (fun _ => 0))), ((u3 2), .inl (d.2.1, 48, .inl (fun _ => 0))), ((u3 3), .inl (d.2.1, 972, .inl (fun _ => 0))), (q4, .inr (6, [.int n, .int ((1 : Int32) <<< ((n : Int32) &&& 31)), .int (p3 n), .ref (u5 0), .ref (u5 1), .ref (u5 2), .ref (u5 3), .int 0])), ((u5 0), .inl (d.2.1, 12, .inl (fun _ => 0))), ((u5 1), .inl (d.2.1, 48, .inl (fun _ => 0))), ((u5 2), .inl (d.2.1, 48, .inl (fun _ => 0))), ((u5 3), .inl (d.2.1, 972, .inl (fun _ => 0))), (q6, .inr (6, [.int n, .int ((1 : Int32) <<< ((n : Int32) &&& 31)), .int (p3 n), .ref (u7 0), .ref (u7 1), .ref (u7 2), .ref (u7 3), .int 0])), ((u7 0), .inl (d.2.1, 12, .inl (fun _ => 0))), ((u7 1), .inl (d.2.1, 48, .inl (fun _ => 0))), ((u7 2), .inl (d.2.1, 48, .inl (fun _ => 0))), ((u7 3), .inl (d.2.1, 972, .inl (fun _ => 0))), (q8, .inr (6, [.int n, .int ((1 : Int32) <<< ((n : Int32) &&& 31)), .int (p3 n), .ref (u9 0), .ref (u9 1), .ref (u9 2), .ref (u9 3), .int 0])), ((u9 0), .inl (d.2.1, 12, .inl (fun _ => 0))), ((u9 1), .inl (d.2.1, 48, .inl (fun _ => 0))), ((u9 2), .inl (d.2.1, 48, .inl (fun _ => 0))), ((u9 3), .inl (d.2.1, 972, .inl (fun _ => 0)))]) [0, 1, 2, 3, 4, 5, 6, 7, 8, 9, 10, 11, 12, 13, 14, 15, 16, 17, 18, 19, 20, 21] (by decide) rfl
  exact W.vret hx hb hr (fun t ht hW => ⟨⟨(fun i : Nat => if i = 0 then q1 else if i = 1 then q2 else if i = 2 then (u3 0) else if i = 3 then (u3 1) else if i = 4 then (u3 2) else if i = 5 then (u3 3) else if i = 6 then q4 else if i = 7 then (u5 0) else if i = 8 then (u5 1) else if i = 9 then (u5 2) else if i = 10 then (u5 3) else if i = 11 then q6 else if i = 12 then (u7 0) else if i = 13 then (u7 1) else if i = 14 then (u7 2) else if i = 15 then (u7 3) else if i = 16 then q8 else if i = 17 then (u9 0) else if i = 18 then (u9 1) else if i = 19 then (u9 2) else if i = 20 then (u9 3) else 0), rfl, trivial, by rw [ht]; exact hP9, va_K.moved hW.alike hK, by rw [hAe]; exact hD9⟩, by rw [hAe]; exact hS.F ht⟩) hS.2.2 dX1_init_53
