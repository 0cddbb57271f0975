abbrev rmX10_planned : Room := { frames := 2, cells := 0, slots := 0, locals := 43 }
theorem hdX10_planned : yX10_planned.cls = RX10 ∧ yX10_planned.cls ≠ "java/lang/invoke/MethodHandle" ∧ yX10_planned.cls ≠ "java/lang/invoke/VarHandle" ∧ (parseMethodDescriptor yX10_planned.desc).map (fun d => d.parameters.length) = some 2 := by decide +kernel
def m_X10_planned (σ : St) (x1 : Int32) (x2 : Int32) : Option (Int32) :=
  (m_X10_isState σ x1).bind fun u1 =>
  if (bI u1) = 0 then (
    some (-1)
  ) else (
    if (bI (m_X10_isAgent σ x2)) = 0 then (
      some (-1)
    ) else (
      chk (((100 * x1) + 5) + x2) 1201 <|
      some (σ 88 (Int32.toNatClampNeg (((100 * x1) + 5) + x2)))
    )
  )
set_option maxHeartbeats 4000000 in
set_option maxRecDepth 100000 in
theorem w_X10_planned {C : XC} {Q : State → Prop} {g : cG} (σ : St) (x1 : Int32) (x2 : Int32) (o : Int32) (h : XOk C cX10_planned RX10 tG rmX10_planned) (hg : XG C g) (hL : C.2.2.2.2.2.2.2.2.2.2.2.2.1 = 3) (hr : XEnd C (some .int) Q (XQ g (some (.int o)) σ) (cA g)) (hf : m_X10_planned σ x1 x2 = some o) : Xs C (wW g) Q σ 0 [(0, .ref (gA g 87)), (1, .int x1), (2, .int x2)] [] := by
  unfold m_X10_planned at hf
  refine x_aload_n h dX10_planned_0 rfl 0 rfl (q := 1) rfl ?_
  refine x_iload_n h dX10_planned_1 rfl 1 rfl (q := 2) rfl ?_
  obtain ⟨u1, hu1, hf2⟩ := bnd_inv hf
  refine x_callVi (As := [.int x1]) (rest := []) h hg (c_X10_isState C.2.1 hg.2.1 σ x1 _ hu1) ml_X10_129 biX10_isState rfl rfl hdX10_isState ⟨Nat.le_of_ble_eq_true rfl, Nat.le_of_ble_eq_true rfl⟩ (by decide) (cE_87 g _) rfl rfl rfl (Nat.le_of_ble_eq_true rfl) dX10_planned_2 ?_
  refine x_if_eq (tgt := 32) h dX10_planned_5 (by decide) (q := 8) rfl hf2 (fun hc3 hf4 => ?_) (fun hc3 hf4 => ?_)
  · skip
    refine x_iconst (v := (-1)) h dX10_planned_32 (by decide) (q := 33) rfl ?_
    have hz := Option.some.inj hf4
    subst hz
    exact x_iret h hg hr dX10_planned_33
  · skip
    refine x_aload_n h dX10_planned_8 rfl 0 rfl (q := 9) rfl ?_
    refine x_iload_n h dX10_planned_9 rfl 2 rfl (q := 10) rfl ?_
    refine x_callVi (As := [.int x2]) (rest := []) h hg (c_X10_isAgent C.2.1 hg.2.1 σ x2 _ rfl) ml_X10_133 biX10_isAgent rfl rfl hdX10_isAgent ⟨Nat.le_of_ble_eq_true rfl, Nat.le_of_ble_eq_true rfl⟩ (by decide) (cE_87 g _) rfl rfl rfl (Nat.le_of_ble_eq_true rfl) dX10_planned_10 ?_
    refine x_if_eq (tgt := 32) h dX10_planned_13 (by decide) (q := 16) rfl hf4 (fun hc5 hf6 => ?_) (fun hc5 hf6 => ?_)
    · skip
      refine x_iconst (v := (-1)) h dX10_planned_32 (by decide) (q := 33) rfl ?_
      have hz := Option.some.inj hf6
      subst hz
      exact x_iret h hg hr dX10_planned_33
    · skip
      refine x_aload_n h dX10_planned_16 rfl 0 rfl (q := 17) rfl ?_
      refine x_get_X10_87_1 h hg kf_X10_7 nn_X10 dX10_planned_17 ?_
      refine x_bipush (v := 100) h dX10_planned_20 (by decide) (q := 22) rfl ?_
      refine x_iload_n h dX10_planned_22 rfl 1 rfl (q := 23) rfl ?_
      refine x_imul h dX10_planned_23 (q := 24) rfl ?_
      refine x_iconst (v := 5) h dX10_planned_24 (by decide) (q := 25) rfl ?_
      refine x_iadd h dX10_planned_25 (q := 26) rfl ?_
      refine x_iload_n h dX10_planned_26 rfl 2 rfl (q := 27) rfl ?_
      refine x_iadd h dX10_planned_27 (q := 28) rfl ?_
      obtain ⟨hi7, hf8⟩ := chk_inv hf6
      refine x_iald (j := (Int32.toNatClampNeg (((100 * x1) + 5) + x2))) h hg a_88 hi7 rfl dX10_planned_28 (q := 29) rfl ?_
      refine x_goto (q := 33) h dX10_planned_29 (by decide) ?_
      have hz := Option.some.inj hf8
      subst hz
      exact x_iret h hg hr dX10_planned_33
theorem c_X10_planned (l : Launch) {g : cG} (hi : gInj g) (σ : St) (x1 : Int32) (x2 : Int32) (o : Int32) (hf : m_X10_planned σ x1 x2 = some o) : Met l yX10_planned (wT yX10_planned cX10_planned 3 (some .int)) rmX10_planned (va_Pc [.ref (gA g 87), .int x1, .int x2] (XPre g σ)) (XQ g (some (.int o)) σ) 0 0 (cA g) :=
  X_met RX10 hi plX10 rfl (Nat.le_of_ble_eq_true rfl) rfl (fun _ _ _ h hg hL hr => w_X10_planned σ x1 x2 o h hg hL hr hf)
abbrev rmX10_enforced : Room := { frames := 12, cells := 0, slots := 0, locals := 281 }
theorem hdX10_enforced : yX10_enforced.cls = RX10 ∧ yX10_enforced.cls ≠ "java/lang/invoke/MethodHandle" ∧ yX10_enforced.cls ≠ "java/lang/invoke/VarHandle" ∧ (parseMethodDescriptor yX10_enforced.desc).map (fun d => d.parameters.length) = some 1 := by decide +kernel
def m_X10_enforced_b53 (σ : St) (x1 : Int32) (x2 : Int32) (s0 : Int32) : Option (Int32 × St) :=
  chk x2 540 <|
  chk x2 540 <|
  (m_X10_operand (up σ 87 29 1) x1 0).bind fun u5 =>
  (m_X10_goalSet (up σ 87 29 1) ((up σ 87 29 1) 93 (Int32.toNatClampNeg x2)) ((up σ 87 29 1) 96 (Int32.toNatClampNeg x2)) u5 s0).bind fun u7 =>
  some (u7.1, (up u7.2 87 29 0))
set_option maxHeartbeats 4000000 in
set_option maxRecDepth 100000 in
theorem w_X10_enforced_b53 {C : XC} {Q : State → Prop} {g : cG} (σ : St) (x1 : Int32) (x2 : Int32) (s0 : Int32) (o : Int32 × St) (h : XOk C cX10_enforced RX10 tG rmX10_enforced) (hg : XG C g) (hL : C.2.2.2.2.2.2.2.2.2.2.2.2.1 = 5) (hr : XEnd C (some .int) Q (XQ g (some (.int o.1)) o.2) (cA g)) (hf : m_X10_enforced_b53 σ x1 x2 s0  = some o) : Xs C (wW g) Q σ 53 [(0, .ref (gA g 87)), (1, .int x1), (2, .int x2)] [.int s0] := by
  unfold m_X10_enforced_b53 at hf
  refine x_istore_n (lv' := [(3, .int s0), (0, .ref (gA g 87)), (1, .int x1), (2, .int x2)]) h dX10_enforced_53 rfl hL (by decide) rfl (q := 54) rfl ?_
  refine x_aload_n h dX10_enforced_54 rfl 1 rfl (q := 55) rfl ?_
  refine x_iconst (v := 1) h dX10_enforced_55 (by decide) (q := 56) rfl ?_
  refine x_put_X10_87_29 h hg kf_X10_209 nn_X10 dX10_enforced_56 (by decide) (by decide) ?_
  refine x_aload_n h dX10_enforced_59 rfl 1 rfl (q := 60) rfl ?_
  refine x_aload_n h dX10_enforced_60 rfl 1 rfl (q := 61) rfl ?_
  refine x_get_X10_87_9 h hg kf_X10_25 nn_X10 dX10_enforced_61 ?_
  refine x_iload_n h dX10_enforced_64 rfl 3 rfl (q := 65) rfl ?_
  obtain ⟨hi1, hf2⟩ := chk_inv hf
  refine x_iald (j := (Int32.toNatClampNeg x2)) h hg a_93 hi1 rfl dX10_enforced_65 (q := 66) rfl ?_
  refine x_aload_n h dX10_enforced_66 rfl 1 rfl (q := 67) rfl ?_
  refine x_get_X10_87_12 h hg kf_X10_34 nn_X10 dX10_enforced_67 ?_
  refine x_iload_n h dX10_enforced_70 rfl 3 rfl (q := 71) rfl ?_
  obtain ⟨hi3, hf4⟩ := chk_inv hf2
  refine x_iald (j := (Int32.toNatClampNeg x2)) h hg a_96 hi3 rfl dX10_enforced_71 (q := 72) rfl ?_
  refine x_aload_n h dX10_enforced_72 rfl 1 rfl (q := 73) rfl ?_
  refine x_iload_n h dX10_enforced_73 rfl 2 rfl (q := 74) rfl ?_
  refine x_iconst (v := 0) h dX10_enforced_74 (by decide) (q := 75) rfl ?_
  obtain ⟨u5, hu5, hf6⟩ := bnd_inv hf4
  refine x_callVi (As := [.int x1, .int 0]) (rest := [.int ((up σ 87 29 1) 96 (Int32.toNatClampNeg x2)), .int ((up σ 87 29 1) 93 (Int32.toNatClampNeg x2)), .ref (gA g 87)]) h hg (c_X10_operand C.2.1 hg.2.1 (up σ 87 29 1) x1 0 _ hu5) ml_X10_251 biX10_operand rfl rfl hdX10_operand ⟨Nat.le_of_ble_eq_true rfl, Nat.le_of_ble_eq_true rfl⟩ (by decide) (cE_87 g _) rfl rfl rfl (Nat.le_of_ble_eq_true rfl) dX10_enforced_75 ?_
  refine x_iload_n h dX10_enforced_78 rfl 0 rfl (q := 79) rfl ?_
  obtain ⟨u7, hu7, hf8⟩ := bnd_inv hf6
  refine x_callVi (As := [.int ((up σ 87 29 1) 93 (Int32.toNatClampNeg x2)), .int ((up σ 87 29 1) 96 (Int32.toNatClampNeg x2)), .int u5, .int s0]) (rest := []) h hg (c_X10_goalSet C.2.1 hg.2.1 (up σ 87 29 1) ((up σ 87 29 1) 93 (Int32.toNatClampNeg x2)) ((up σ 87 29 1) 96 (Int32.toNatClampNeg x2)) u5 s0 _ hu7) ml_X10_236 biX10_goalSet rfl rfl hdX10_goalSet ⟨Nat.le_of_ble_eq_true rfl, Nat.le_of_ble_eq_true rfl⟩ (by decide) (cE_87 g _) rfl rfl rfl (Nat.le_of_ble_eq_true rfl) dX10_enforced_79 ?_
  refine x_istore (lv' := [(4, .int u7.1), (3, .int s0), (0, .ref (gA g 87)), (1, .int x1), (2, .int x2)]) h dX10_enforced_82 hL (by decide) rfl (q := 84) rfl ?_
  refine x_aload_n h dX10_enforced_84 rfl 2 rfl (q := 85) rfl ?_
  refine x_iconst (v := 0) h dX10_enforced_85 (by decide) (q := 86) rfl ?_
  refine x_put_X10_87_29 h hg kf_X10_209 nn_X10 dX10_enforced_86 (by decide) (by decide) ?_
  refine x_iload h dX10_enforced_89 0 rfl (q := 91) rfl ?_
  have hz := Option.some.inj hf8
  subst hz
  exact x_iret h hg hr dX10_enforced_91
def m_X10_enforced (σ : St) (x1 : Int32) : Option (Int32 × St) :=
  if (bI (m_X10_isFormula σ x1)) = 0 then (
    some ((-1), σ)
  ) else (
    (m_X10_isGoal σ x1).bind fun u3 =>
    if (bI u3) = 0 then (
      some ((-3), σ)
    ) else (
      (m_X10_works σ x1).bind fun u7 =>
      (m_X10_top u7 x1).bind fun u9 =>
      chk u9 540 <|
      if (u7 93 (Int32.toNatClampNeg u9)) = 9 then (
        (m_X10_operand u7 x1 1).bind fun u15 =>
        m_X10_enforced_b53 u7 x1 u9 u15
      ) else (
        m_X10_enforced_b53 u7 x1 u9 0
      )
    )
  )
set_option maxHeartbeats 4000000 in
set_option maxRecDepth 100000 in
theorem w_X10_enforced {C : XC} {Q : State → Prop} {g : cG} (σ : St) (x1 : Int32) (o : Int32 × St) (h : XOk C cX10_enforced RX10 tG rmX10_enforced) (hg : XG C g) (hL : C.2.2.2.2.2.2.2.2.2.2.2.2.1 = 5) (hr : XEnd C (some .int) Q (XQ g (some (.int o.1)) o.2) (cA g)) (hf : m_X10_enforced σ x1 = some o) : Xs C (wW g) Q σ 0 [(0, .ref (gA g 87)), (1, .int x1)] [] := by
  unfold m_X10_enforced at hf
  refine x_aload_n h dX10_enforced_0 rfl 0 rfl (q := 1) rfl ?_
  refine x_iload_n h dX10_enforced_1 rfl 1 rfl (q := 2) rfl ?_
  refine x_callVi (As := [.int x1]) (rest := []) h hg (c_X10_isFormula C.2.1 hg.2.1 σ x1 _ rfl) ml_X10_203 biX10_isFormula rfl rfl hdX10_isFormula ⟨Nat.le_of_ble_eq_true rfl, Nat.le_of_ble_eq_true rfl⟩ (by decide) (cE_87 g _) rfl rfl rfl (Nat.le_of_ble_eq_true rfl) dX10_enforced_2 ?_
  refine x_if_ne (tgt := 10) h dX10_enforced_5 (by decide) (q := 8) rfl hf (fun hc1 hf2 => ?_) (fun hc1 hf2 => ?_)
  · skip
    refine x_aload_n h dX10_enforced_10 rfl 0 rfl (q := 11) rfl ?_
    refine x_iload_n h dX10_enforced_11 rfl 1 rfl (q := 12) rfl ?_
    obtain ⟨u3, hu3, hf4⟩ := bnd_inv hf2
    refine x_callVi (As := [.int x1]) (rest := []) h hg (c_X10_isGoal C.2.1 hg.2.1 σ x1 _ hu3) ml_X10_261 biX10_isGoal rfl rfl hdX10_isGoal ⟨Nat.le_of_ble_eq_true rfl, Nat.le_of_ble_eq_true rfl⟩ (by decide) (cE_87 g _) rfl rfl rfl (Nat.le_of_ble_eq_true rfl) dX10_enforced_12 ?_
    refine x_if_ne (tgt := 21) h dX10_enforced_15 (by decide) (q := 18) rfl hf4 (fun hc5 hf6 => ?_) (fun hc5 hf6 => ?_)
    · skip
      refine x_aload_n h dX10_enforced_21 rfl 0 rfl (q := 22) rfl ?_
      refine x_iload_n h dX10_enforced_22 rfl 1 rfl (q := 23) rfl ?_
      obtain ⟨u7, hu7, hf8⟩ := bnd_inv hf6
      refine x_callVv (As := [.int x1]) (rest := []) h hg (c_X10_works C.2.1 hg.2.1 σ x1 _ hu7) ml_X10_242 biX10_works rfl rfl hdX10_works ⟨Nat.le_of_ble_eq_true rfl, Nat.le_of_ble_eq_true rfl⟩ (by decide) (cE_87 g _) rfl rfl rfl (Nat.le_of_ble_eq_true rfl) dX10_enforced_23 ?_
      refine x_aload_n h dX10_enforced_26 rfl 0 rfl (q := 27) rfl ?_
      refine x_iload_n h dX10_enforced_27 rfl 1 rfl (q := 28) rfl ?_
      obtain ⟨u9, hu9, hf10⟩ := bnd_inv hf8
      refine x_callVi (As := [.int x1]) (rest := []) h hg (c_X10_top C.2.1 hg.2.1 u7 x1 _ hu9) ml_X10_248 biX10_top rfl rfl hdX10_top ⟨Nat.le_of_ble_eq_true rfl, Nat.le_of_ble_eq_true rfl⟩ (by decide) (cE_87 g _) rfl rfl rfl (Nat.le_of_ble_eq_true rfl) dX10_enforced_28 ?_
      refine x_istore_n (lv' := [(2, .int u9), (0, .ref (gA g 87)), (1, .int x1)]) h dX10_enforced_31 rfl hL (by decide) rfl (q := 32) rfl ?_
      refine x_aload_n h dX10_enforced_32 rfl 1 rfl (q := 33) rfl ?_
      refine x_get_X10_87_9 h hg kf_X10_25 nn_X10 dX10_enforced_33 ?_
      refine x_iload_n h dX10_enforced_36 rfl 0 rfl (q := 37) rfl ?_
      obtain ⟨hi11, hf12⟩ := chk_inv hf10
      refine x_iald (j := (Int32.toNatClampNeg u9)) h hg a_93 hi11 rfl dX10_enforced_37 (q := 38) rfl ?_
      refine x_bipush (v := 9) h dX10_enforced_38 (by decide) (q := 40) rfl ?_
      refine x_icmp_ne (tgt := 52) h dX10_enforced_40 (by decide) (q := 43) rfl hf12 (fun hc13 hf14 => ?_) (fun hc13 hf14 => ?_)
      · skip
        refine x_iconst (v := 0) h dX10_enforced_52 (by decide) (q := 53) rfl ?_
        refine x_sub (lv' := [(0, .ref (gA g 87)), (1, .int x1), (2, .int u9)]) [1, 2, 0] rfl ?_
        exact w_X10_enforced_b53 u7 x1 u9 0 o h hg hL hr hf14
      · skip
        refine x_aload_n h dX10_enforced_43 rfl 1 rfl (q := 44) rfl ?_
        refine x_iload_n h dX10_enforced_44 rfl 2 rfl (q := 45) rfl ?_
        refine x_iconst (v := 1) h dX10_enforced_45 (by decide) (q := 46) rfl ?_
        obtain ⟨u15, hu15, hf16⟩ := bnd_inv hf14
        refine x_callVi (As := [.int x1, .int 1]) (rest := []) h hg (c_X10_operand C.2.1 hg.2.1 u7 x1 1 _ hu15) ml_X10_251 biX10_operand rfl rfl hdX10_operand ⟨Nat.le_of_ble_eq_true rfl, Nat.le_of_ble_eq_true rfl⟩ (by decide) (cE_87 g _) rfl rfl rfl (Nat.le_of_ble_eq_true rfl) dX10_enforced_46 ?_
        refine x_goto (q := 53) h dX10_enforced_49 (by decide) ?_
        refine x_sub (lv' := [(0, .ref (gA g 87)), (1, .int x1), (2, .int u9)]) [1, 2, 0] rfl ?_
        exact w_X10_enforced_b53 u7 x1 u9 u15 o h hg hL hr hf16
    · skip
      refine x_bipush (v := (-3)) h dX10_enforced_18 (by decide) (q := 20) rfl ?_
      have hz := Option.some.inj hf6
      subst hz
      exact x_iret h hg hr dX10_enforced_20
  · skip
    refine x_iconst (v := (-1)) h dX10_enforced_8 (by decide) (q := 9) rfl ?_
    have hz := Option.some.inj hf2
    subst hz
    exact x_iret h hg hr dX10_enforced_9
theorem c_X10_enforced (l : Launch) {g : cG} (hi : gInj g) (σ : St) (x1 : Int32) (o : Int32 × St) (hf : m_X10_enforced σ x1 = some o) : Met l yX10_enforced (wT yX10_enforced cX10_enforced 5 (some .int)) rmX10_enforced (va_Pc [.ref (gA g 87), .int x1] (XPre g σ)) (XQ g (some (.int o.1)) o.2) 0 0 (cA g) :=
  X_met RX10 hi plX10 rfl (Nat.le_of_ble_eq_true rfl) rfl (fun _ _ _ h hg hL hr => w_X10_enforced σ x1 o h hg hL hr hf)
abbrev rmX10_stirred : Room := { frames := 0, cells := 0, slots := 0, locals := 0 }
theorem hdX10_stirred : yX10_stirred.cls ≠ "java/lang/invoke/MethodHandle" ∧ yX10_stirred.cls ≠ "java/lang/invoke/VarHandle" ∧ (parseMethodDescriptor yX10_stirred.desc).map (fun d => d.parameters.length) = some 1 := by decide +kernel
def m_X10_stirred (x0 : Int32) : Int32 :=
  (((1103515245 * x0) + 12345) &&& 2147483647)
set_option maxHeartbeats 4000000 in
set_option maxRecDepth 100000 in
theorem w_X10_stirred {C : XC} {Q : State → Prop} {H0 : Heap} {σ : St} (x0 : Int32) (o : Int32) (h : XOk C cX10_stirred RX10 tG rmX10_stirred) (hH : H0 = C.2.2.2.2.1.heap) (hL : C.2.2.2.2.2.2.2.2.2.2.2.2.1 = 1) (hr : XEnd C (some .int) Q (XQp (some (.int o))) (fun _ => False)) (hf : m_X10_stirred x0 = o) : Xs C (fun _ H => H = H0) Q σ 0 [(0, .int x0)] [] := by
  unfold m_X10_stirred at hf
  refine x_ldcw (v := 1103515245) h kc_X10_267 dX10_stirred_0 (q := 3) rfl ?_
  refine x_iload_n h dX10_stirred_3 rfl 0 rfl (q := 4) rfl ?_
  refine x_imul h dX10_stirred_4 (q := 5) rfl ?_
  refine x_sipush (v := 12345) h dX10_stirred_5 (by decide) (q := 8) rfl ?_
  refine x_iadd h dX10_stirred_8 (q := 9) rfl ?_
  refine x_ldcw (v := 2147483647) h kc_X10_268 dX10_stirred_9 (q := 12) rfl ?_
  refine x_iand h dX10_stirred_12 (q := 13) rfl ?_
  subst hf
  exact x_iretP h hr hH dX10_stirred_13
theorem c_X10_stirred (l : Launch) (x0 : Int32) (o : Int32) (hf : m_X10_stirred x0 = o) : Met l yX10_stirred (wT yX10_stirred cX10_stirred 1 (some .int)) rmX10_stirred (va_Pc [.int x0] (fun _ => True)) (XQp (some (.int o))) 0 0 (fun _ => False) :=
  X_metP RX10 plX10 rfl (Nat.le_of_ble_eq_true rfl) rfl (fun _ _ _ _ _ h hH hL hr => w_X10_stirred x0 o h hH hL hr hf)
abbrev rmX10_jointAt : Room := { frames := 4, cells := 0, slots := 0, locals := 90 }
theorem hdX10_jointAt : yX10_jointAt.cls = RX10 ∧ yX10_jointAt.cls ≠ "java/lang/invoke/MethodHandle" ∧ yX10_jointAt.cls ≠ "java/lang/invoke/VarHandle" ∧ (parseMethodDescriptor yX10_jointAt.desc).map (fun d => d.parameters.length) = some 3 := by decide +kernel
def m_X10_jointAt_b6 (σ : St) (x1 : Int32) (x2 : Int32) (x4 : Int32) (x5 : Int32) (k6 : (Int32 × Int32) → Option (Int32)) : Option (Int32) :=
  if 81 ≤ x5 then (
    some (-9)
  ) else (
    (m_X10_isJoint σ x1 x2 x5).bind fun u3 =>
    if (bI u3) = 0 then (
      k6 (x4, (x5 + 1))
    ) else (
      if x4 = 0 then (
        some x5
      ) else (
        k6 ((x4 + (-1)), (x5 + 1))
      )
    )
  )
set_option maxHeartbeats 4000000 in
set_option maxRecDepth 100000 in
theorem w_X10_jointAt_b6 {C : XC} {Q : State → Prop} {g : cG} (σ : St) (x1 : Int32) (x2 : Int32) (x4 : Int32) (x5 : Int32) (o : Int32) (h : XOk C cX10_jointAt RX10 tG rmX10_jointAt) (hg : XG C g) (hL : C.2.2.2.2.2.2.2.2.2.2.2.2.1 = 6) (hr : XEnd C (some .int) Q (XQ g (some (.int o)) σ) (cA g)) (k6 : (Int32 × Int32) → Option (Int32)) (hk6 : ∀ z : Int32 × Int32, k6 z = some o → Xs C (wW g) Q σ 6 [(0, .ref (gA g 87)), (1, .int x1), (2, .int x2), (4, .int z.1), (5, .int z.2)] []) (hf : m_X10_jointAt_b6 σ x1 x2 x4 x5 k6 = some o) : Xs C (wW g) Q σ 6 [(0, .ref (gA g 87)), (1, .int x1), (2, .int x2), (4, .int x4), (5, .int x5)] [] := by
  unfold m_X10_jointAt_b6 at hf
  refine x_iload h dX10_jointAt_6 4 rfl (q := 8) rfl ?_
  refine x_bipush (v := 81) h dX10_jointAt_8 (by decide) (q := 10) rfl ?_
  refine x_icmp_ge (tgt := 41) h dX10_jointAt_10 (by decide) (q := 13) rfl hf (fun hc1 hf2 => ?_) (fun hc1 hf2 => ?_)
  · skip
    refine x_bipush (v := (-9)) h dX10_jointAt_41 (by decide) (q := 43) rfl ?_
    have hz := Option.some.inj hf2
    subst hz
    exact x_iret h hg hr dX10_jointAt_43
  · skip
    refine x_aload_n h dX10_jointAt_13 rfl 0 rfl (q := 14) rfl ?_
    refine x_iload_n h dX10_jointAt_14 rfl 1 rfl (q := 15) rfl ?_
    refine x_iload_n h dX10_jointAt_15 rfl 2 rfl (q := 16) rfl ?_
    refine x_iload h dX10_jointAt_16 4 rfl (q := 18) rfl ?_
    obtain ⟨u3, hu3, hf4⟩ := bnd_inv hf2
    refine x_callVi (As := [.int x1, .int x2, .int x5]) (rest := []) h hg (c_X10_isJoint C.2.1 hg.2.1 σ x1 x2 x5 _ hu3) ml_X10_145 biX10_isJoint rfl rfl hdX10_isJoint ⟨Nat.le_of_ble_eq_true rfl, Nat.le_of_ble_eq_true rfl⟩ (by decide) (cE_87 g _) rfl rfl rfl (Nat.le_of_ble_eq_true rfl) dX10_jointAt_18 ?_
    refine x_if_eq (tgt := 35) h dX10_jointAt_21 (by decide) (q := 24) rfl hf4 (fun hc5 hf6 => ?_) (fun hc5 hf6 => ?_)
    · skip
      refine x_iinc (v := (x5 + 1)) (lv' := [(5, .int (x5 + 1)), (0, .ref (gA g 87)), (1, .int x1), (2, .int x2), (4, .int x4)]) (j := 4) h dX10_jointAt_35 rfl rfl hL (by decide) rfl (q := 38) rfl ?_
      refine x_goto (q := 6) h dX10_jointAt_38 (by decide) ?_
      refine x_sub (lv' := [(0, .ref (gA g 87)), (1, .int x1), (2, .int x2), (4, .int x4), (5, .int (x5 + 1))]) [1, 2, 3, 4, 0] rfl ?_
      exact hk6 (x4, (x5 + 1)) hf6
    · skip
      refine x_iload h dX10_jointAt_24 3 rfl (q := 26) rfl ?_
      refine x_if_ne (tgt := 32) h dX10_jointAt_26 (by decide) (q := 29) rfl hf6 (fun hc7 hf8 => ?_) (fun hc7 hf8 => ?_)
      · skip
        refine x_iinc (v := (x4 + (-1))) (lv' := [(4, .int (x4 + (-1))), (0, .ref (gA g 87)), (1, .int x1), (2, .int x2), (5, .int x5)]) (j := 3) h dX10_jointAt_32 rfl rfl hL (by decide) rfl (q := 35) rfl ?_
        refine x_iinc (v := (x5 + 1)) (lv' := [(5, .int (x5 + 1)), (4, .int (x4 + (-1))), (0, .ref (gA g 87)), (1, .int x1), (2, .int x2)]) (j := 4) h dX10_jointAt_35 rfl rfl hL (by decide) rfl (q := 38) rfl ?_
        refine x_goto (q := 6) h dX10_jointAt_38 (by decide) ?_
        refine x_sub (lv' := [(0, .ref (gA g 87)), (1, .int x1), (2, .int x2), (4, .int (x4 + (-1))), (5, .int (x5 + 1))]) [2, 3, 4, 1, 0] rfl ?_
        exact hk6 ((x4 + (-1)), (x5 + 1)) hf8
      · skip
        refine x_iload h dX10_jointAt_29 4 rfl (q := 31) rfl ?_
        have hz := Option.some.inj hf8
        subst hz
        exact x_iret h hg hr dX10_jointAt_31
set_option maxHeartbeats 4000000 in
set_option maxRecDepth 100000 in
theorem w_X10_jointAt_l6 {C : XC} {Q : State → Prop} {g : cG} (σ : St) (x1 : Int32) (x2 : Int32) (o : Int32) (h : XOk C cX10_jointAt RX10 tG rmX10_jointAt) (hg : XG C g) (hL : C.2.2.2.2.2.2.2.2.2.2.2.2.1 = 6) (hr : XEnd C (some .int) Q (XQ g (some (.int o)) σ) (cA g)) : ∀ (n : Nat) (z : Int32 × Int32), loopF (fun k z => m_X10_jointAt_b6 σ x1 x2 z.1 z.2 k) n z = some o → Xs C (wW g) Q σ 6 [(0, .ref (gA g 87)), (1, .int x1), (2, .int x2), (4, .int z.1), (5, .int z.2)] [] := by
  intro n z hf
  refine loopF_ind (S := Int32 × Int32) (O := Int32) (step := (fun k z => m_X10_jointAt_b6 σ x1 x2 z.1 z.2 k)) (o := o) (P := fun z => Xs C (wW g) Q σ 6 [(0, .ref (gA g 87)), (1, .int x1), (2, .int x2), (4, .int z.1), (5, .int z.2)] []) ?_ n z hf
  intro k hk z hf
  exact w_X10_jointAt_b6 σ x1 x2 z.1 z.2 o h hg hL hr k hk hf
def m_X10_jointAt (σ : St) (x1 : Int32) (x2 : Int32) (x3 : Int32) : Option (Int32) :=
  loopF (fun k z => m_X10_jointAt_b6 σ x1 x2 z.1 z.2 k) cFu (x3, 0)
set_option maxHeartbeats 4000000 in
set_option maxRecDepth 100000 in
theorem w_X10_jointAt {C : XC} {Q : State → Prop} {g : cG} (σ : St) (x1 : Int32) (x2 : Int32) (x3 : Int32) (o : Int32) (h : XOk C cX10_jointAt RX10 tG rmX10_jointAt) (hg : XG C g) (hL : C.2.2.2.2.2.2.2.2.2.2.2.2.1 = 6) (hr : XEnd C (some .int) Q (XQ g (some (.int o)) σ) (cA g)) (hf : m_X10_jointAt σ x1 x2 x3 = some o) : Xs C (wW g) Q σ 0 [(0, .ref (gA g 87)), (1, .int x1), (2, .int x2), (3, .int x3)] [] := by
  unfold m_X10_jointAt at hf
  refine x_iload_n h dX10_jointAt_0 rfl 3 rfl (q := 1) rfl ?_
  refine x_istore (lv' := [(4, .int x3), (0, .ref (gA g 87)), (1, .int x1), (2, .int x2), (3, .int x3)]) h dX10_jointAt_1 hL (by decide) rfl (q := 3) rfl ?_
  refine x_iconst (v := 0) h dX10_jointAt_3 (by decide) (q := 4) rfl ?_
  refine x_istore (lv' := [(5, .int 0), (4, .int x3), (0, .ref (gA g 87)), (1, .int x1), (2, .int x2), (3, .int x3)]) h dX10_jointAt_4 hL (by decide) rfl (q := 6) rfl ?_
  refine x_sub (lv' := [(0, .ref (gA g 87)), (1, .int x1), (2, .int x2), (4, .int x3), (5, .int 0)]) [2, 3, 4, 1, 0] rfl ?_
  exact w_X10_jointAt_l6 σ x1 x2 o h hg hL hr  cFu (x3, 0) hf
theorem c_X10_jointAt (l : Launch) {g : cG} (hi : gInj g) (σ : St) (x1 : Int32) (x2 : Int32) (x3 : Int32) (o : Int32) (hf : m_X10_jointAt σ x1 x2 x3 = some o) : Met l yX10_jointAt (wT yX10_jointAt cX10_jointAt 6 (some .int)) rmX10_jointAt (va_Pc [.ref (gA g 87), .int x1, .int x2, .int x3] (XPre g σ)) (XQ g (some (.int o)) σ) 0 0 (cA g) :=
  X_met RX10 hi plX10 rfl (Nat.le_of_ble_eq_true rfl) rfl (fun _ _ _ h hg hL hr => w_X10_jointAt σ x1 x2 x3 o h hg hL hr hf)
abbrev rmX10_jointMany : Room := { frames := 0, cells := 0, slots := 0, locals := 0 }
theorem hdX10_jointMany : yX10_jointMany.cls = RX10 ∧ yX10_jointMany.cls ≠ "java/lang/invoke/MethodHandle" ∧ yX10_jointMany.cls ≠ "java/lang/invoke/VarHandle" ∧ (parseMethodDescriptor yX10_jointMany.desc).map (fun d => d.parameters.length) = some 2 := by decide +kernel
def m_X10_jointMany_b5 (σ : St) (x1 : Int32) (x2 : Int32) (x3 : Int32) (x4 : Int32) (k5 : (Int32 × Int32) → Option (Int32)) : Option (Int32) :=
  if (σ 87 0) ≤ x4 then (
    some x3
  ) else (
    if ((x1 >>> (x4 &&& 31)) &&& 1) = 1 then (
      chk (((100 * x2) + 1) + x4) 1201 <|
      k5 ((x3 * (σ 88 (Int32.toNatClampNeg (((100 * x2) + 1) + x4)))), (x4 + 1))
    ) else (
      k5 ((x3 * 1), (x4 + 1))
    )
  )
set_option maxHeartbeats 4000000 in
set_option maxRecDepth 100000 in
theorem w_X10_jointMany_b5 {C : XC} {Q : State → Prop} {g : cG} (σ : St) (x1 : Int32) (x2 : Int32) (x3 : Int32) (x4 : Int32) (o : Int32) (h : XOk C cX10_jointMany RX10 tG rmX10_jointMany) (hg : XG C g) (hL : C.2.2.2.2.2.2.2.2.2.2.2.2.1 = 5) (hr : XEnd C (some .int) Q (XQ g (some (.int o)) σ) (cA g)) (k5 : (Int32 × Int32) → Option (Int32)) (hk5 : ∀ z : Int32 × Int32, k5 z = some o → Xs C (wW g) Q σ 5 [(0, .ref (gA g 87)), (1, .int x1), (2, .int x2), (3, .int z.1), (4, .int z.2)] []) (hf : m_X10_jointMany_b5 σ x1 x2 x3 x4 k5 = some o) : Xs C (wW g) Q σ 5 [(0, .ref (gA g 87)), (1, .int x1), (2, .int x2), (3, .int x3), (4, .int x4)] [] := by
  unfold m_X10_jointMany_b5 at hf
  refine x_iload h dX10_jointMany_5 4 rfl (q := 7) rfl ?_
  refine x_aload_n h dX10_jointMany_7 rfl 0 rfl (q := 8) rfl ?_
  refine x_get_X10_87_0 h hg kf_X10_82 nn_X10 dX10_jointMany_8 ?_
  refine x_icmp_ge (tgt := 51) h dX10_jointMany_11 (by decide) (q := 14) rfl hf (fun hc1 hf2 => ?_) (fun hc1 hf2 => ?_)
  · skip
    refine x_iload_n h dX10_jointMany_51 rfl 3 rfl (q := 52) rfl ?_
    have hz := Option.some.inj hf2
    subst hz
    exact x_iret h hg hr dX10_jointMany_52
  · skip
    refine x_iload_n h dX10_jointMany_14 rfl 3 rfl (q := 15) rfl ?_
    refine x_iload_n h dX10_jointMany_15 rfl 1 rfl (q := 16) rfl ?_
    refine x_iload h dX10_jointMany_16 4 rfl (q := 18) rfl ?_
    refine x_ishr h dX10_jointMany_18 (q := 19) rfl ?_
    refine x_iconst (v := 1) h dX10_jointMany_19 (by decide) (q := 20) rfl ?_
    refine x_iand h dX10_jointMany_20 (q := 21) rfl ?_
    refine x_iconst (v := 1) h dX10_jointMany_21 (by decide) (q := 22) rfl ?_
    refine x_icmp_ne (tgt := 42) h dX10_jointMany_22 (by decide) (q := 25) rfl hf2 (fun hc3 hf4 => ?_) (fun hc3 hf4 => ?_)
    · skip
      refine x_iconst (v := 1) h dX10_jointMany_42 (by decide) (q := 43) rfl ?_
      refine x_imul h dX10_jointMany_43 (q := 44) rfl ?_
      refine x_istore_n (lv' := [(3, .int (x3 * 1)), (0, .ref (gA g 87)), (1, .int x1), (2, .int x2), (4, .int x4)]) h dX10_jointMany_44 rfl hL (by decide) rfl (q := 45) rfl ?_
      refine x_iinc (v := (x4 + 1)) (lv' := [(4, .int (x4 + 1)), (3, .int (x3 * 1)), (0, .ref (gA g 87)), (1, .int x1), (2, .int x2)]) (j := 4) h dX10_jointMany_45 rfl rfl hL (by decide) rfl (q := 48) rfl ?_
      refine x_goto (q := 5) h dX10_jointMany_48 (by decide) ?_
      refine x_sub (lv' := [(0, .ref (gA g 87)), (1, .int x1), (2, .int x2), (3, .int (x3 * 1)), (4, .int (x4 + 1))]) [2, 3, 4, 1, 0] rfl ?_
      exact hk5 ((x3 * 1), (x4 + 1)) hf4
    · skip
      refine x_aload_n h dX10_jointMany_25 rfl 0 rfl (q := 26) rfl ?_
      refine x_get_X10_87_1 h hg kf_X10_7 nn_X10 dX10_jointMany_26 ?_
      refine x_bipush (v := 100) h dX10_jointMany_29 (by decide) (q := 31) rfl ?_
      refine x_iload_n h dX10_jointMany_31 rfl 2 rfl (q := 32) rfl ?_
      refine x_imul h dX10_jointMany_32 (q := 33) rfl ?_
      refine x_iconst (v := 1) h dX10_jointMany_33 (by decide) (q := 34) rfl ?_
      refine x_iadd h dX10_jointMany_34 (q := 35) rfl ?_
      refine x_iload h dX10_jointMany_35 4 rfl (q := 37) rfl ?_
      refine x_iadd h dX10_jointMany_37 (q := 38) rfl ?_
      obtain ⟨hi5, hf6⟩ := chk_inv hf4
      refine x_iald (j := (Int32.toNatClampNeg (((100 * x2) + 1) + x4))) h hg a_88 hi5 rfl dX10_jointMany_38 (q := 39) rfl ?_
      refine x_goto (q := 43) h dX10_jointMany_39 (by decide) ?_
      refine x_imul h dX10_jointMany_43 (q := 44) rfl ?_
      refine x_istore_n (lv' := [(3, .int (x3 * (σ 88 (Int32.toNatClampNeg (((100 * x2) + 1) + x4))))), (0, .ref (gA g 87)), (1, .int x1), (2, .int x2), (4, .int x4)]) h dX10_jointMany_44 rfl hL (by decide) rfl (q := 45) rfl ?_
      refine x_iinc (v := (x4 + 1)) (lv' := [(4, .int (x4 + 1)), (3, .int (x3 * (σ 88 (Int32.toNatClampNeg (((100 * x2) + 1) + x4))))), (0, .ref (gA g 87)), (1, .int x1), (2, .int x2)]) (j := 4) h dX10_jointMany_45 rfl rfl hL (by decide) rfl (q := 48) rfl ?_
      refine x_goto (q := 5) h dX10_jointMany_48 (by decide) ?_
      refine x_sub (lv' := [(0, .ref (gA g 87)), (1, .int x1), (2, .int x2), (3, .int (x3 * (σ 88 (Int32.toNatClampNeg (((100 * x2) + 1) + x4))))), (4, .int (x4 + 1))]) [2, 3, 4, 1, 0] rfl ?_
      exact hk5 ((x3 * (σ 88 (Int32.toNatClampNeg (((100 * x2) + 1) + x4)))), (x4 + 1)) hf6
set_option maxHeartbeats 4000000 in
set_option maxRecDepth 100000 in
theorem w_X10_jointMany_l5 {C : XC} {Q : State → Prop} {g : cG} (σ : St) (x1 : Int32) (x2 : Int32) (o : Int32) (h : XOk C cX10_jointMany RX10 tG rmX10_jointMany) (hg : XG C g) (hL : C.2.2.2.2.2.2.2.2.2.2.2.2.1 = 5) (hr : XEnd C (some .int) Q (XQ g (some (.int o)) σ) (cA g)) : ∀ (n : Nat) (z : Int32 × Int32), loopF (fun k z => m_X10_jointMany_b5 σ x1 x2 z.1 z.2 k) n z = some o → Xs C (wW g) Q σ 5 [(0, .ref (gA g 87)), (1, .int x1), (2, .int x2), (3, .int z.1), (4, .int z.2)] [] := by
  intro n z hf
  refine loopF_ind (S := Int32 × Int32) (O := Int32) (step := (fun k z => m_X10_jointMany_b5 σ x1 x2 z.1 z.2 k)) (o := o) (P := fun z => Xs C (wW g) Q σ 5 [(0, .ref (gA g 87)), (1, .int x1), (2, .int x2), (3, .int z.1), (4, .int z.2)] []) ?_ n z hf
  intro k hk z hf
  exact w_X10_jointMany_b5 σ x1 x2 z.1 z.2 o h hg hL hr k hk hf
def m_X10_jointMany (σ : St) (x1 : Int32) (x2 : Int32) : Option (Int32) :=
  loopF (fun k z => m_X10_jointMany_b5 σ x1 x2 z.1 z.2 k) cFu (1, 0)
set_option maxHeartbeats 4000000 in
set_option maxRecDepth 100000 in
theorem w_X10_jointMany {C : XC} {Q : State → Prop} {g : cG} (σ : St) (x1 : Int32) (x2 : Int32) (o : Int32) (h : XOk C cX10_jointMany RX10 tG rmX10_jointMany) (hg : XG C g) (hL : C.2.2.2.2.2.2.2.2.2.2.2.2.1 = 5) (hr : XEnd C (some .int) Q (XQ g (some (.int o)) σ) (cA g)) (hf : m_X10_jointMany σ x1 x2 = some o) : Xs C (wW g) Q σ 0 [(0, .ref (gA g 87)), (1, .int x1), (2, .int x2)] [] := by
  unfold m_X10_jointMany at hf
  refine x_iconst (v := 1) h dX10_jointMany_0 (by decide) (q := 1) rfl ?_
  refine x_istore_n (lv' := [(3, .int 1), (0, .ref (gA g 87)), (1, .int x1), (2, .int x2)]) h dX10_jointMany_1 rfl hL (by decide) rfl (q := 2) rfl ?_
  refine x_iconst (v := 0) h dX10_jointMany_2 (by decide) (q := 3) rfl ?_
  refine x_istore (lv' := [(4, .int 0), (3, .int 1), (0, .ref (gA g 87)), (1, .int x1), (2, .int x2)]) h dX10_jointMany_3 hL (by decide) rfl (q := 5) rfl ?_
  refine x_sub (lv' := [(0, .ref (gA g 87)), (1, .int x1), (2, .int x2), (3, .int 1), (4, .int 0)]) [2, 3, 4, 1, 0] rfl ?_
  exact w_X10_jointMany_l5 σ x1 x2 o h hg hL hr  cFu (1, 0) hf
theorem c_X10_jointMany (l : Launch) {g : cG} (hi : gInj g) (σ : St) (x1 : Int32) (x2 : Int32) (o : Int32) (hf : m_X10_jointMany σ x1 x2 = some o) : Met l yX10_jointMany (wT yX10_jointMany cX10_jointMany 5 (some .int)) rmX10_jointMany (va_Pc [.ref (gA g 87), .int x1, .int x2] (XPre g σ)) (XQ g (some (.int o)) σ) 0 0 (cA g) :=
  X_met RX10 hi plX10 rfl (Nat.le_of_ble_eq_true rfl) rfl (fun _ _ _ h hg hL hr => w_X10_jointMany σ x1 x2 o h hg hL hr hf)
abbrev rmX10_play : Room := { frames := 5, cells := 0, slots := 0, locals := 115 }
theorem hdX10_play : yX10_play.cls = RX10 ∧ yX10_play.cls ≠ "java/lang/invoke/MethodHandle" ∧ yX10_play.cls ≠ "java/lang/invoke/VarHandle" ∧ (parseMethodDescriptor yX10_play.desc).map (fun d => d.parameters.length) = some 4 := by decide +kernel
def m_X10_play_b80 (σ : St) (x3 : Int32) (x5 : Int32) (x6 : Int32) (x7 : Int32) (x8 : Int32) (x9 : Int32) (k80 : (Int32 × Int32 × Int32) → Option (Int32)) : Option (Int32) :=
  if x3 ≤ x9 then (
    some x7
  ) else (
    (m_X10_plannedJoint σ x5 x7).bind fun u3 =>
    (m_X10_jointMany σ x6 x7).bind fun u5 =>
    dvz u5 <|
    (m_X10_jointAt σ x6 x7 (x8 - x8 / u5 * u5)).bind fun u9 =>
    chk (((100 * x7) + 10) + (u3 + u9)) 1201 <|
    k80 ((σ 88 (Int32.toNatClampNeg (((100 * x7) + 10) + (u3 + u9)))), (m_X10_stirred x8), (x9 + 1))
  )
set_option maxHeartbeats 4000000 in
set_option maxRecDepth 100000 in
theorem w_X10_play_b80 {C : XC} {Q : State → Prop} {g : cG} (σ : St) (x3 : Int32) (x5 : Int32) (x6 : Int32) (x7 : Int32) (x8 : Int32) (x9 : Int32) (o : Int32) (h : XOk C cX10_play RX10 tG rmX10_play) (hg : XG C g) (hL : C.2.2.2.2.2.2.2.2.2.2.2.2.1 = 11) (hr : XEnd C (some .int) Q (XQ g (some (.int o)) σ) (cA g)) (k80 : (Int32 × Int32 × Int32) → Option (Int32)) (hk80 : ∀ z : Int32 × Int32 × Int32, k80 z = some o → Xs C (wW g) Q σ 80 [(0, .ref (gA g 87)), (3, .int x3), (5, .int x5), (6, .int x6), (7, .int z.1), (8, .int z.2.1), (9, .int z.2.2)] []) (hf : m_X10_play_b80 σ x3 x5 x6 x7 x8 x9 k80 = some o) : Xs C (wW g) Q σ 80 [(0, .ref (gA g 87)), (3, .int x3), (5, .int x5), (6, .int x6), (7, .int x7), (8, .int x8), (9, .int x9)] [] := by
  unfold m_X10_play_b80 at hf
  refine x_iload h dX10_play_80 6 rfl (q := 82) rfl ?_
  refine x_iload_n h dX10_play_82 rfl 1 rfl (q := 83) rfl ?_
  refine x_icmp_ge (tgt := 147) h dX10_play_83 (by decide) (q := 86) rfl hf (fun hc1 hf2 => ?_) (fun hc1 hf2 => ?_)
  · skip
    refine x_iload h dX10_play_147 4 rfl (q := 149) rfl ?_
    have hz := Option.some.inj hf2
    subst hz
    exact x_iret h hg hr dX10_play_149
  · skip
    refine x_aload_n h dX10_play_86 rfl 0 rfl (q := 87) rfl ?_
    refine x_iload h dX10_play_87 2 rfl (q := 89) rfl ?_
    refine x_iload h dX10_play_89 4 rfl (q := 91) rfl ?_
    obtain ⟨u3, hu3, hf4⟩ := bnd_inv hf2
    refine x_callVi (As := [.int x5, .int x7]) (rest := []) h hg (c_X10_plannedJoint C.2.1 hg.2.1 σ x5 x7 _ hu3) ml_X10_212 biX10_plannedJoint rfl rfl hdX10_plannedJoint ⟨Nat.le_of_ble_eq_true rfl, Nat.le_of_ble_eq_true rfl⟩ (by decide) (cE_87 g _) rfl rfl rfl (Nat.le_of_ble_eq_true rfl) dX10_play_91 ?_
    refine x_aload_n h dX10_play_94 rfl 0 rfl (q := 95) rfl ?_
    refine x_iload h dX10_play_95 3 rfl (q := 97) rfl ?_
    refine x_iload h dX10_play_97 4 rfl (q := 99) rfl ?_
    refine x_iload h dX10_play_99 5 rfl (q := 101) rfl ?_
    refine x_aload_n h dX10_play_101 rfl 0 rfl (q := 102) rfl ?_
    refine x_iload h dX10_play_102 3 rfl (q := 104) rfl ?_
    refine x_iload h dX10_play_104 4 rfl (q := 106) rfl ?_
    obtain ⟨u5, hu5, hf6⟩ := bnd_inv hf4
    refine x_callVi (As := [.int x6, .int x7]) (rest := [.int x8, .int x7, .int x6, .ref (gA g 87), .int u3]) h hg (c_X10_jointMany C.2.1 hg.2.1 σ x6 x7 _ hu5) ml_X10_272 biX10_jointMany rfl rfl hdX10_jointMany ⟨Nat.le_of_ble_eq_true rfl, Nat.le_of_ble_eq_true rfl⟩ (by decide) (cE_87 g _) rfl rfl rfl (Nat.le_of_ble_eq_true rfl) dX10_play_106 ?_
    obtain ⟨hd7, hf8⟩ := dvz_inv hf6
    refine x_irem h hd7 dX10_play_109 (q := 110) rfl ?_
    obtain ⟨u9, hu9, hf10⟩ := bnd_inv hf8
    refine x_callVi (As := [.int x6, .int x7, .int (x8 - x8 / u5 * u5)]) (rest := [.int u3]) h hg (c_X10_jointAt C.2.1 hg.2.1 σ x6 x7 (x8 - x8 / u5 * u5) _ hu9) ml_X10_275 biX10_jointAt rfl rfl hdX10_jointAt ⟨Nat.le_of_ble_eq_true rfl, Nat.le_of_ble_eq_true rfl⟩ (by decide) (cE_87 g _) rfl rfl rfl (Nat.le_of_ble_eq_true rfl) dX10_play_110 ?_
    refine x_iadd h dX10_play_113 (q := 114) rfl ?_
    refine x_istore (lv' := [(10, .int (u3 + u9)), (0, .ref (gA g 87)), (3, .int x3), (5, .int x5), (6, .int x6), (7, .int x7), (8, .int x8), (9, .int x9)]) h dX10_play_114 hL (by decide) rfl (q := 116) rfl ?_
    refine x_aload_n h dX10_play_116 rfl 1 rfl (q := 117) rfl ?_
    refine x_get_X10_87_1 h hg kf_X10_7 nn_X10 dX10_play_117 ?_
    refine x_bipush (v := 100) h dX10_play_120 (by decide) (q := 122) rfl ?_
    refine x_iload h dX10_play_122 5 rfl (q := 124) rfl ?_
    refine x_imul h dX10_play_124 (q := 125) rfl ?_
    refine x_bipush (v := 10) h dX10_play_125 (by decide) (q := 127) rfl ?_
    refine x_iadd h dX10_play_127 (q := 128) rfl ?_
    refine x_iload h dX10_play_128 0 rfl (q := 130) rfl ?_
    refine x_iadd h dX10_play_130 (q := 131) rfl ?_
    obtain ⟨hi11, hf12⟩ := chk_inv hf10
    refine x_iald (j := (Int32.toNatClampNeg (((100 * x7) + 10) + (u3 + u9)))) h hg a_88 hi11 rfl dX10_play_131 (q := 132) rfl ?_
    refine x_istore (lv' := [(7, .int (σ 88 (Int32.toNatClampNeg (((100 * x7) + 10) + (u3 + u9))))), (10, .int (u3 + u9)), (0, .ref (gA g 87)), (3, .int x3), (5, .int x5), (6, .int x6), (8, .int x8), (9, .int x9)]) h dX10_play_132 hL (by decide) rfl (q := 134) rfl ?_
    refine x_iload h dX10_play_134 6 rfl (q := 136) rfl ?_
    refine x_callPi (As := [.int x8]) (rest := []) h (c_X10_stirred C.2.1 x8 _ rfl) ml_X10_269 biX10_stirred rfl rfl hdX10_stirred ⟨Nat.le_of_ble_eq_true rfl, Nat.le_of_ble_eq_true rfl⟩ rfl rfl (Nat.le_of_ble_eq_true rfl) dX10_play_136 ?_
    refine x_istore (lv' := [(8, .int (m_X10_stirred x8)), (7, .int (σ 88 (Int32.toNatClampNeg (((100 * x7) + 10) + (u3 + u9))))), (10, .int (u3 + u9)), (0, .ref (gA g 87)), (3, .int x3), (5, .int x5), (6, .int x6), (9, .int x9)]) h dX10_play_139 hL (by decide) rfl (q := 141) rfl ?_
    refine x_iinc (v := (x9 + 1)) (lv' := [(9, .int (x9 + 1)), (8, .int (m_X10_stirred x8)), (7, .int (σ 88 (Int32.toNatClampNeg (((100 * x7) + 10) + (u3 + u9))))), (10, .int (u3 + u9)), (0, .ref (gA g 87)), (3, .int x3), (5, .int x5), (6, .int x6)]) (j := 7) h dX10_play_141 rfl rfl hL (by decide) rfl (q := 144) rfl ?_
    refine x_goto (q := 80) h dX10_play_144 (by decide) ?_
    refine x_sub (lv' := [(0, .ref (gA g 87)), (3, .int x3), (5, .int x5), (6, .int x6), (7, .int (σ 88 (Int32.toNatClampNeg (((100 * x7) + 10) + (u3 + u9))))), (8, .int (m_X10_stirred x8)), (9, .int (x9 + 1))]) [4, 5, 6, 7, 2, 1, 0] rfl ?_
    exact hk80 ((σ 88 (Int32.toNatClampNeg (((100 * x7) + 10) + (u3 + u9)))), (m_X10_stirred x8), (x9 + 1)) hf12
set_option maxHeartbeats 4000000 in
set_option maxRecDepth 100000 in
theorem w_X10_play_l80 {C : XC} {Q : State → Prop} {g : cG} (σ : St) (x3 : Int32) (x5 : Int32) (x6 : Int32) (o : Int32) (h : XOk C cX10_play RX10 tG rmX10_play) (hg : XG C g) (hL : C.2.2.2.2.2.2.2.2.2.2.2.2.1 = 11) (hr : XEnd C (some .int) Q (XQ g (some (.int o)) σ) (cA g)) : ∀ (n : Nat) (z : Int32 × Int32 × Int32), loopF (fun k z => m_X10_play_b80 σ x3 x5 x6 z.1 z.2.1 z.2.2 k) n z = some o → Xs C (wW g) Q σ 80 [(0, .ref (gA g 87)), (3, .int x3), (5, .int x5), (6, .int x6), (7, .int z.1), (8, .int z.2.1), (9, .int z.2.2)] [] := by
  intro n z hf
  refine loopF_ind (S := Int32 × Int32 × Int32) (O := Int32) (step := (fun k z => m_X10_play_b80 σ x3 x5 x6 z.1 z.2.1 z.2.2 k)) (o := o) (P := fun z => Xs C (wW g) Q σ 80 [(0, .ref (gA g 87)), (3, .int x3), (5, .int x5), (6, .int x6), (7, .int z.1), (8, .int z.2.1), (9, .int z.2.2)] []) ?_ n z hf
  intro k hk z hf
  exact w_X10_play_b80 σ x3 x5 x6 z.1 z.2.1 z.2.2 o h hg hL hr k hk hf
def m_X10_play (σ : St) (x1 : Int32) (x2 : Int32) (x3 : Int32) (x4 : Int32) : Option (Int32) :=
  if (bI (m_X10_isFormula σ x1)) = 0 then (
    some (-1)
  ) else (
    (m_X10_isState σ x2).bind fun u3 =>
    if (bI u3) = 0 then (
      some (-1)
    ) else (
      if (bI (m_X10_in x3 0 200)) = 0 then (
        some (-1)
      ) else (
        (m_X10_isGoal σ x1).bind fun u9 =>
        if (bI u9) = 0 then (
          some (-3)
        ) else (
          (m_X10_top σ x1).bind fun u13 =>
          chk u13 540 <|
          loopF (fun k z => m_X10_play_b80 σ x3 (σ 96 (Int32.toNatClampNeg u13)) ((((1 : Int32) <<< ((σ 87 0) &&& 31)) - 1) &&& ((σ 96 (Int32.toNatClampNeg u13)) ^^^ (-1))) z.1 z.2.1 z.2.2 k) cFu (x2, (m_X10_stirred x4), 0)
        )
      )
    )
  )
set_option maxHeartbeats 4000000 in
set_option maxRecDepth 100000 in
theorem w_X10_play {C : XC} {Q : State → Prop} {g : cG} (σ : St) (x1 : Int32) (x2 : Int32) (x3 : Int32) (x4 : Int32) (o : Int32) (h : XOk C cX10_play RX10 tG rmX10_play) (hg : XG C g) (hL : C.2.2.2.2.2.2.2.2.2.2.2.2.1 = 11) (hr : XEnd C (some .int) Q (XQ g (some (.int o)) σ) (cA g)) (hf : m_X10_play σ x1 x2 x3 x4 = some o) : Xs C (wW g) Q σ 0 [(0, .ref (gA g 87)), (1, .int x1), (2, .int x2), (3, .int x3), (4, .int x4)] [] := by
  unfold m_X10_play at hf
  refine x_aload_n h dX10_play_0 rfl 0 rfl (q := 1) rfl ?_
  refine x_iload_n h dX10_play_1 rfl 1 rfl (q := 2) rfl ?_
  refine x_callVi (As := [.int x1]) (rest := []) h hg (c_X10_isFormula C.2.1 hg.2.1 σ x1 _ rfl) ml_X10_203 biX10_isFormula rfl rfl hdX10_isFormula ⟨Nat.le_of_ble_eq_true rfl, Nat.le_of_ble_eq_true rfl⟩ (by decide) (cE_87 g _) rfl rfl rfl (Nat.le_of_ble_eq_true rfl) dX10_play_2 ?_
  refine x_if_eq (tgt := 27) h dX10_play_5 (by decide) (q := 8) rfl hf (fun hc1 hf2 => ?_) (fun hc1 hf2 => ?_)
  · skip
    refine x_iconst (v := (-1)) h dX10_play_27 (by decide) (q := 28) rfl ?_
    have hz := Option.some.inj hf2
    subst hz
    exact x_iret h hg hr dX10_play_28
  · skip
    refine x_aload_n h dX10_play_8 rfl 0 rfl (q := 9) rfl ?_
    refine x_iload_n h dX10_play_9 rfl 2 rfl (q := 10) rfl ?_
    obtain ⟨u3, hu3, hf4⟩ := bnd_inv hf2
    refine x_callVi (As := [.int x2]) (rest := []) h hg (c_X10_isState C.2.1 hg.2.1 σ x2 _ hu3) ml_X10_129 biX10_isState rfl rfl hdX10_isState ⟨Nat.le_of_ble_eq_true rfl, Nat.le_of_ble_eq_true rfl⟩ (by decide) (cE_87 g _) rfl rfl rfl (Nat.le_of_ble_eq_true rfl) dX10_play_10 ?_
    refine x_if_eq (tgt := 27) h dX10_play_13 (by decide) (q := 16) rfl hf4 (fun hc5 hf6 => ?_) (fun hc5 hf6 => ?_)
    · skip
      refine x_iconst (v := (-1)) h dX10_play_27 (by decide) (q := 28) rfl ?_
      have hz := Option.some.inj hf6
      subst hz
      exact x_iret h hg hr dX10_play_28
    · skip
      refine x_iload_n h dX10_play_16 rfl 3 rfl (q := 17) rfl ?_
      refine x_iconst (v := 0) h dX10_play_17 (by decide) (q := 18) rfl ?_
      refine x_sipush (v := 200) h dX10_play_18 (by decide) (q := 21) rfl ?_
      refine x_callPi (As := [.int x3, .int 0, .int 200]) (rest := []) h (c_X10_in C.2.1 x3 0 200 _ rfl) ml_X10_93 biX10_in rfl rfl hdX10_in ⟨Nat.le_of_ble_eq_true rfl, Nat.le_of_ble_eq_true rfl⟩ rfl rfl (Nat.le_of_ble_eq_true rfl) dX10_play_21 ?_
      refine x_if_ne (tgt := 29) h dX10_play_24 (by decide) (q := 27) rfl hf6 (fun hc7 hf8 => ?_) (fun hc7 hf8 => ?_)
      · skip
        refine x_aload_n h dX10_play_29 rfl 0 rfl (q := 30) rfl ?_
        refine x_iload_n h dX10_play_30 rfl 1 rfl (q := 31) rfl ?_
        obtain ⟨u9, hu9, hf10⟩ := bnd_inv hf8
        refine x_callVi (As := [.int x1]) (rest := []) h hg (c_X10_isGoal C.2.1 hg.2.1 σ x1 _ hu9) ml_X10_261 biX10_isGoal rfl rfl hdX10_isGoal ⟨Nat.le_of_ble_eq_true rfl, Nat.le_of_ble_eq_true rfl⟩ (by decide) (cE_87 g _) rfl rfl rfl (Nat.le_of_ble_eq_true rfl) dX10_play_31 ?_
        refine x_if_ne (tgt := 40) h dX10_play_34 (by decide) (q := 37) rfl hf10 (fun hc11 hf12 => ?_) (fun hc11 hf12 => ?_)
        · skip
          refine x_aload_n h dX10_play_40 rfl 0 rfl (q := 41) rfl ?_
          refine x_get_X10_87_12 h hg kf_X10_34 nn_X10 dX10_play_41 ?_
          refine x_aload_n h dX10_play_44 rfl 0 rfl (q := 45) rfl ?_
          refine x_iload_n h dX10_play_45 rfl 1 rfl (q := 46) rfl ?_
          obtain ⟨u13, hu13, hf14⟩ := bnd_inv hf12
          refine x_callVi (As := [.int x1]) (rest := [.ref (gA g 96)]) h hg (c_X10_top C.2.1 hg.2.1 σ x1 _ hu13) ml_X10_248 biX10_top rfl rfl hdX10_top ⟨Nat.le_of_ble_eq_true rfl, Nat.le_of_ble_eq_true rfl⟩ (by decide) (cE_87 g _) rfl rfl rfl (Nat.le_of_ble_eq_true rfl) dX10_play_46 ?_
          obtain ⟨hi15, hf16⟩ := chk_inv hf14
          refine x_iald (j := (Int32.toNatClampNeg u13)) h hg a_96 hi15 rfl dX10_play_49 (q := 50) rfl ?_
          refine x_istore (lv' := [(5, .int (σ 96 (Int32.toNatClampNeg u13))), (0, .ref (gA g 87)), (1, .int x1), (2, .int x2), (3, .int x3), (4, .int x4)]) h dX10_play_50 hL (by decide) rfl (q := 52) rfl ?_
          refine x_iconst (v := 1) h dX10_play_52 (by decide) (q := 53) rfl ?_
          refine x_aload_n h dX10_play_53 rfl 1 rfl (q := 54) rfl ?_
          refine x_get_X10_87_0 h hg kf_X10_82 nn_X10 dX10_play_54 ?_
          refine x_ishl h dX10_play_57 (q := 58) rfl ?_
          refine x_iconst (v := 1) h dX10_play_58 (by decide) (q := 59) rfl ?_
          refine x_isub h dX10_play_59 (q := 60) rfl ?_
          refine x_iload h dX10_play_60 0 rfl (q := 62) rfl ?_
          refine x_iconst (v := (-1)) h dX10_play_62 (by decide) (q := 63) rfl ?_
          refine x_ixor h dX10_play_63 (q := 64) rfl ?_
          refine x_iand h dX10_play_64 (q := 65) rfl ?_
          refine x_istore (lv' := [(6, .int ((((1 : Int32) <<< ((σ 87 0) &&& 31)) - 1) &&& ((σ 96 (Int32.toNatClampNeg u13)) ^^^ (-1)))), (5, .int (σ 96 (Int32.toNatClampNeg u13))), (0, .ref (gA g 87)), (1, .int x1), (2, .int x2), (3, .int x3), (4, .int x4)]) h dX10_play_65 hL (by decide) rfl (q := 67) rfl ?_
          refine x_iload_n h dX10_play_67 rfl 4 rfl (q := 68) rfl ?_
          refine x_istore (lv' := [(7, .int x2), (6, .int ((((1 : Int32) <<< ((σ 87 0) &&& 31)) - 1) &&& ((σ 96 (Int32.toNatClampNeg u13)) ^^^ (-1)))), (5, .int (σ 96 (Int32.toNatClampNeg u13))), (0, .ref (gA g 87)), (1, .int x1), (2, .int x2), (3, .int x3), (4, .int x4)]) h dX10_play_68 hL (by decide) rfl (q := 70) rfl ?_
          refine x_iload h dX10_play_70 7 rfl (q := 72) rfl ?_
          refine x_callPi (As := [.int x4]) (rest := []) h (c_X10_stirred C.2.1 x4 _ rfl) ml_X10_269 biX10_stirred rfl rfl hdX10_stirred ⟨Nat.le_of_ble_eq_true rfl, Nat.le_of_ble_eq_true rfl⟩ rfl rfl (Nat.le_of_ble_eq_true rfl) dX10_play_72 ?_
          refine x_istore (lv' := [(8, .int (m_X10_stirred x4)), (7, .int x2), (6, .int ((((1 : Int32) <<< ((σ 87 0) &&& 31)) - 1) &&& ((σ 96 (Int32.toNatClampNeg u13)) ^^^ (-1)))), (5, .int (σ 96 (Int32.toNatClampNeg u13))), (0, .ref (gA g 87)), (1, .int x1), (2, .int x2), (3, .int x3), (4, .int x4)]) h dX10_play_75 hL (by decide) rfl (q := 77) rfl ?_
          refine x_iconst (v := 0) h dX10_play_77 (by decide) (q := 78) rfl ?_
          refine x_istore (lv' := [(9, .int 0), (8, .int (m_X10_stirred x4)), (7, .int x2), (6, .int ((((1 : Int32) <<< ((σ 87 0) &&& 31)) - 1) &&& ((σ 96 (Int32.toNatClampNeg u13)) ^^^ (-1)))), (5, .int (σ 96 (Int32.toNatClampNeg u13))), (0, .ref (gA g 87)), (1, .int x1), (2, .int x2), (3, .int x3), (4, .int x4)]) h dX10_play_78 hL (by decide) rfl (q := 80) rfl ?_
          refine x_sub (lv' := [(0, .ref (gA g 87)), (3, .int x3), (5, .int (σ 96 (Int32.toNatClampNeg u13))), (6, .int ((((1 : Int32) <<< ((σ 87 0) &&& 31)) - 1) &&& ((σ 96 (Int32.toNatClampNeg u13)) ^^^ (-1)))), (7, .int x2), (8, .int (m_X10_stirred x4)), (9, .int 0)]) [5, 8, 4, 3, 2, 1, 0] rfl ?_
          exact w_X10_play_l80 σ x3 (σ 96 (Int32.toNatClampNeg u13)) ((((1 : Int32) <<< ((σ 87 0) &&& 31)) - 1) &&& ((σ 96 (Int32.toNatClampNeg u13)) ^^^ (-1))) o h hg hL hr  cFu (x2, (m_X10_stirred x4), 0) hf16
        · skip
          refine x_bipush (v := (-3)) h dX10_play_37 (by decide) (q := 39) rfl ?_
          have hz := Option.some.inj hf12
          subst hz
          exact x_iret h hg hr dX10_play_39
      · skip
        refine x_iconst (v := (-1)) h dX10_play_27 (by decide) (q := 28) rfl ?_
        have hz := Option.some.inj hf8
        subst hz
        exact x_iret h hg hr dX10_play_28
theorem c_X10_play (l : Launch) {g : cG} (hi : gInj g) (σ : St) (x1 : Int32) (x2 : Int32) (x3 : Int32) (x4 : Int32) (o : Int32) (hf : m_X10_play σ x1 x2 x3 x4 = some o) : Met l yX10_play (wT yX10_play cX10_play 11 (some .int)) rmX10_play (va_Pc [.ref (gA g 87), .int x1, .int x2, .int x3, .int x4] (XPre g σ)) (XQ g (some (.int o)) σ) 0 0 (cA g) :=
  X_met RX10 hi plX10 rfl (Nat.le_of_ble_eq_true rfl) rfl (fun _ _ _ h hg hL hr => w_X10_play σ x1 x2 x3 x4 o h hg hL hr hf)
abbrev rmX10_smallest : Room := { frames := 12, cells := 0, slots := 0, locals := 281 }
theorem hdX10_smallest : yX10_smallest.cls = RX10 ∧ yX10_smallest.cls ≠ "java/lang/invoke/MethodHandle" ∧ yX10_smallest.cls ≠ "java/lang/invoke/VarHandle" ∧ (parseMethodDescriptor yX10_smallest.desc).map (fun d => d.parameters.length) = some 2 := by decide +kernel
def m_X10_smallest_b86 (σ : St) (x2 : Int32) (x3 : Int32) (x4 : Int32) (x5 : Int32) (x6 : Int32) (x7 : Int32) (k74 : (St × Int32) → Option (Int32 × St)) (k86 : (St × Int32) → Option (Int32 × St)) : Option (Int32 × St) :=
  if ((1 : Int32) <<< ((σ 87 0) &&& 31)) ≤ x7 then (
    k74 (σ, (x6 + 1))
  ) else (
    if ((((x7 &&& 1) + ((x7 >>> ((1 : Int32) &&& 31)) &&& 1)) + ((x7 >>> ((2 : Int32) &&& 31)) &&& 1)) + ((x7 >>> ((3 : Int32) &&& 31)) &&& 1)) = x6 then (
      chk x3 540 <|
      (m_X10_goalSet σ (σ 93 (Int32.toNatClampNeg x3)) x7 x4 x5).bind fun u7 =>
      if ((u7.1 >>> (x2 &&& 31)) &&& 1) = 1 then (
        some (x7, u7.2)
      ) else (
        k86 (u7.2, (x7 + 1))
      )
    ) else (
      k86 (σ, (x7 + 1))
    )
  )
set_option maxHeartbeats 4000000 in
set_option maxRecDepth 100000 in
theorem w_X10_smallest_b86 {C : XC} {Q : State → Prop} {g : cG} (σ : St) (x2 : Int32) (x3 : Int32) (x4 : Int32) (x5 : Int32) (x6 : Int32) (x7 : Int32) (o : Int32 × St) (h : XOk C cX10_smallest RX10 tG rmX10_smallest) (hg : XG C g) (hL : C.2.2.2.2.2.2.2.2.2.2.2.2.1 = 9) (hr : XEnd C (some .int) Q (XQ g (some (.int o.1)) o.2) (cA g)) (k74 : (St × Int32) → Option (Int32 × St)) (k86 : (St × Int32) → Option (Int32 × St)) (hk74 : ∀ z : St × Int32, k74 z = some o → Xs C (wW g) Q z.1 74 [(0, .ref (gA g 87)), (2, .int x2), (3, .int x3), (4, .int x4), (5, .int x5), (6, .int z.2)] []) (hk86 : ∀ z : St × Int32, k86 z = some o → Xs C (wW g) Q z.1 86 [(0, .ref (gA g 87)), (2, .int x2), (3, .int x3), (4, .int x4), (5, .int x5), (6, .int x6), (7, .int z.2)] []) (hf : m_X10_smallest_b86 σ x2 x3 x4 x5 x6 x7 k74 k86 = some o) : Xs C (wW g) Q σ 86 [(0, .ref (gA g 87)), (2, .int x2), (3, .int x3), (4, .int x4), (5, .int x5), (6, .int x6), (7, .int x7)] [] := by
  unfold m_X10_smallest_b86 at hf
  refine x_iload h dX10_smallest_86 6 rfl (q := 88) rfl ?_
  refine x_iconst (v := 1) h dX10_smallest_88 (by decide) (q := 89) rfl ?_
  refine x_aload_n h dX10_smallest_89 rfl 0 rfl (q := 90) rfl ?_
  refine x_get_X10_87_0 h hg kf_X10_82 nn_X10 dX10_smallest_90 ?_
  refine x_ishl h dX10_smallest_93 (q := 94) rfl ?_
  refine x_icmp_ge (tgt := 164) h dX10_smallest_94 (by decide) (q := 97) rfl hf (fun hc1 hf2 => ?_) (fun hc1 hf2 => ?_)
  · skip
    refine x_iinc (v := (x6 + 1)) (lv' := [(6, .int (x6 + 1)), (0, .ref (gA g 87)), (2, .int x2), (3, .int x3), (4, .int x4), (5, .int x5), (7, .int x7)]) (j := 5) h dX10_smallest_164 rfl rfl hL (by decide) rfl (q := 167) rfl ?_
    refine x_goto (q := 74) h dX10_smallest_167 (by decide) ?_
    refine x_sub (lv' := [(0, .ref (gA g 87)), (2, .int x2), (3, .int x3), (4, .int x4), (5, .int x5), (6, .int (x6 + 1))]) [1, 2, 3, 4, 5, 0] rfl ?_
    exact hk74 (σ, (x6 + 1)) hf2
  · skip
    refine x_iload h dX10_smallest_97 6 rfl (q := 99) rfl ?_
    refine x_iconst (v := 1) h dX10_smallest_99 (by decide) (q := 100) rfl ?_
    refine x_iand h dX10_smallest_100 (q := 101) rfl ?_
    refine x_iload h dX10_smallest_101 6 rfl (q := 103) rfl ?_
    refine x_iconst (v := 1) h dX10_smallest_103 (by decide) (q := 104) rfl ?_
    refine x_ishr h dX10_smallest_104 (q := 105) rfl ?_
    refine x_iconst (v := 1) h dX10_smallest_105 (by decide) (q := 106) rfl ?_
    refine x_iand h dX10_smallest_106 (q := 107) rfl ?_
    refine x_iadd h dX10_smallest_107 (q := 108) rfl ?_
    refine x_iload h dX10_smallest_108 6 rfl (q := 110) rfl ?_
    refine x_iconst (v := 2) h dX10_smallest_110 (by decide) (q := 111) rfl ?_
    refine x_ishr h dX10_smallest_111 (q := 112) rfl ?_
    refine x_iconst (v := 1) h dX10_smallest_112 (by decide) (q := 113) rfl ?_
    refine x_iand h dX10_smallest_113 (q := 114) rfl ?_
    refine x_iadd h dX10_smallest_114 (q := 115) rfl ?_
    refine x_iload h dX10_smallest_115 6 rfl (q := 117) rfl ?_
    refine x_iconst (v := 3) h dX10_smallest_117 (by decide) (q := 118) rfl ?_
    refine x_ishr h dX10_smallest_118 (q := 119) rfl ?_
    refine x_iconst (v := 1) h dX10_smallest_119 (by decide) (q := 120) rfl ?_
    refine x_iand h dX10_smallest_120 (q := 121) rfl ?_
    refine x_iadd h dX10_smallest_121 (q := 122) rfl ?_
    refine x_istore (lv' := [(8, .int ((((x7 &&& 1) + ((x7 >>> ((1 : Int32) &&& 31)) &&& 1)) + ((x7 >>> ((2 : Int32) &&& 31)) &&& 1)) + ((x7 >>> ((3 : Int32) &&& 31)) &&& 1))), (0, .ref (gA g 87)), (2, .int x2), (3, .int x3), (4, .int x4), (5, .int x5), (6, .int x6), (7, .int x7)]) h dX10_smallest_122 hL (by decide) rfl (q := 124) rfl ?_
    refine x_iload h dX10_smallest_124 0 rfl (q := 126) rfl ?_
    refine x_iload h dX10_smallest_126 6 rfl (q := 128) rfl ?_
    refine x_icmp_ne (tgt := 158) h dX10_smallest_128 (by decide) (q := 131) rfl hf2 (fun hc3 hf4 => ?_) (fun hc3 hf4 => ?_)
    · skip
      refine x_iinc (v := (x7 + 1)) (lv' := [(7, .int (x7 + 1)), (8, .int ((((x7 &&& 1) + ((x7 >>> ((1 : Int32) &&& 31)) &&& 1)) + ((x7 >>> ((2 : Int32) &&& 31)) &&& 1)) + ((x7 >>> ((3 : Int32) &&& 31)) &&& 1))), (0, .ref (gA g 87)), (2, .int x2), (3, .int x3), (4, .int x4), (5, .int x5), (6, .int x6)]) (j := 7) h dX10_smallest_158 rfl rfl hL (by decide) rfl (q := 161) rfl ?_
      refine x_goto (q := 86) h dX10_smallest_161 (by decide) ?_
      refine x_sub (lv' := [(0, .ref (gA g 87)), (2, .int x2), (3, .int x3), (4, .int x4), (5, .int x5), (6, .int x6), (7, .int (x7 + 1))]) [2, 3, 4, 5, 6, 7, 0] rfl ?_
      exact hk86 (σ, (x7 + 1)) hf4
    · skip
      refine x_aload_n h dX10_smallest_131 rfl 1 rfl (q := 132) rfl ?_
      refine x_aload_n h dX10_smallest_132 rfl 1 rfl (q := 133) rfl ?_
      refine x_get_X10_87_9 h hg kf_X10_25 nn_X10 dX10_smallest_133 ?_
      refine x_iload_n h dX10_smallest_136 rfl 3 rfl (q := 137) rfl ?_
      obtain ⟨hi5, hf6⟩ := chk_inv hf4
      refine x_iald (j := (Int32.toNatClampNeg x3)) h hg a_93 hi5 rfl dX10_smallest_137 (q := 138) rfl ?_
      refine x_iload h dX10_smallest_138 7 rfl (q := 140) rfl ?_
      refine x_iload h dX10_smallest_140 4 rfl (q := 142) rfl ?_
      refine x_iload h dX10_smallest_142 5 rfl (q := 144) rfl ?_
      obtain ⟨u7, hu7, hf8⟩ := bnd_inv hf6
      refine x_callVi (As := [.int (σ 93 (Int32.toNatClampNeg x3)), .int x7, .int x4, .int x5]) (rest := []) h hg (c_X10_goalSet C.2.1 hg.2.1 σ (σ 93 (Int32.toNatClampNeg x3)) x7 x4 x5 _ hu7) ml_X10_236 biX10_goalSet rfl rfl hdX10_goalSet ⟨Nat.le_of_ble_eq_true rfl, Nat.le_of_ble_eq_true rfl⟩ (by decide) (cE_87 g _) rfl rfl rfl (Nat.le_of_ble_eq_true rfl) dX10_smallest_144 ?_
      refine x_iload_n h dX10_smallest_147 rfl 2 rfl (q := 148) rfl ?_
      refine x_ishr h dX10_smallest_148 (q := 149) rfl ?_
      refine x_iconst (v := 1) h dX10_smallest_149 (by decide) (q := 150) rfl ?_
      refine x_iand h dX10_smallest_150 (q := 151) rfl ?_
      refine x_iconst (v := 1) h dX10_smallest_151 (by decide) (q := 152) rfl ?_
      refine x_icmp_ne (tgt := 158) h dX10_smallest_152 (by decide) (q := 155) rfl hf8 (fun hc9 hf10 => ?_) (fun hc9 hf10 => ?_)
      · skip
        refine x_iinc (v := (x7 + 1)) (lv' := [(7, .int (x7 + 1)), (8, .int ((((x7 &&& 1) + ((x7 >>> ((1 : Int32) &&& 31)) &&& 1)) + ((x7 >>> ((2 : Int32) &&& 31)) &&& 1)) + ((x7 >>> ((3 : Int32) &&& 31)) &&& 1))), (0, .ref (gA g 87)), (2, .int x2), (3, .int x3), (4, .int x4), (5, .int x5), (6, .int x6)]) (j := 7) h dX10_smallest_158 rfl rfl hL (by decide) rfl (q := 161) rfl ?_
        refine x_goto (q := 86) h dX10_smallest_161 (by decide) ?_
        refine x_sub (lv' := [(0, .ref (gA g 87)), (2, .int x2), (3, .int x3), (4, .int x4), (5, .int x5), (6, .int x6), (7, .int (x7 + 1))]) [2, 3, 4, 5, 6, 7, 0] rfl ?_
        exact hk86 (u7.2, (x7 + 1)) hf10
      · skip
        refine x_iload h dX10_smallest_155 7 rfl (q := 157) rfl ?_
        have hz := Option.some.inj hf10
        subst hz
        exact x_iret h hg hr dX10_smallest_157
set_option maxHeartbeats 4000000 in
set_option maxRecDepth 100000 in
theorem w_X10_smallest_l86 {C : XC} {Q : State → Prop} {g : cG} (x2 : Int32) (x3 : Int32) (x4 : Int32) (x5 : Int32) (x6 : Int32) (o : Int32 × St) (h : XOk C cX10_smallest RX10 tG rmX10_smallest) (hg : XG C g) (hL : C.2.2.2.2.2.2.2.2.2.2.2.2.1 = 9) (hr : XEnd C (some .int) Q (XQ g (some (.int o.1)) o.2) (cA g)) (k74 : (St × Int32) → Option (Int32 × St)) (hk74 : ∀ z : St × Int32, k74 z = some o → Xs C (wW g) Q z.1 74 [(0, .ref (gA g 87)), (2, .int x2), (3, .int x3), (4, .int x4), (5, .int x5), (6, .int z.2)] []) : ∀ (n : Nat) (z : St × Int32), loopF (fun k z => m_X10_smallest_b86 z.1 x2 x3 x4 x5 x6 z.2 k74 k) n z = some o → Xs C (wW g) Q z.1 86 [(0, .ref (gA g 87)), (2, .int x2), (3, .int x3), (4, .int x4), (5, .int x5), (6, .int x6), (7, .int z.2)] [] := by
  intro n z hf
  refine loopF_ind (S := St × Int32) (O := Int32 × St) (step := (fun k z => m_X10_smallest_b86 z.1 x2 x3 x4 x5 x6 z.2 k74 k)) (o := o) (P := fun z => Xs C (wW g) Q z.1 86 [(0, .ref (gA g 87)), (2, .int x2), (3, .int x3), (4, .int x4), (5, .int x5), (6, .int x6), (7, .int z.2)] []) ?_ n z hf
  intro k hk z hf
  exact w_X10_smallest_b86 z.1 x2 x3 x4 x5 x6 z.2 o h hg hL hr k74 k hk74 hk hf
def m_X10_smallest_b74 (σ : St) (x2 : Int32) (x3 : Int32) (x4 : Int32) (x5 : Int32) (x6 : Int32) (k74 : (St × Int32) → Option (Int32 × St)) : Option (Int32 × St) :=
  if (σ 87 0) < x6 then (
    some ((-9), σ)
  ) else (
    loopF (fun k z => m_X10_smallest_b86 z.1 x2 x3 x4 x5 x6 z.2 k74 k) cFu (σ, 0)
  )
set_option maxHeartbeats 4000000 in
set_option maxRecDepth 100000 in
theorem w_X10_smallest_b74 {C : XC} {Q : State → Prop} {g : cG} (σ : St) (x2 : Int32) (x3 : Int32) (x4 : Int32) (x5 : Int32) (x6 : Int32) (o : Int32 × St) (h : XOk C cX10_smallest RX10 tG rmX10_smallest) (hg : XG C g) (hL : C.2.2.2.2.2.2.2.2.2.2.2.2.1 = 9) (hr : XEnd C (some .int) Q (XQ g (some (.int o.1)) o.2) (cA g)) (k74 : (St × Int32) → Option (Int32 × St)) (hk74 : ∀ z : St × Int32, k74 z = some o → Xs C (wW g) Q z.1 74 [(0, .ref (gA g 87)), (2, .int x2), (3, .int x3), (4, .int x4), (5, .int x5), (6, .int z.2)] []) (hf : m_X10_smallest_b74 σ x2 x3 x4 x5 x6 k74 = some o) : Xs C (wW g) Q σ 74 [(0, .ref (gA g 87)), (2, .int x2), (3, .int x3), (4, .int x4), (5, .int x5), (6, .int x6)] [] := by
  unfold m_X10_smallest_b74 at hf
  refine x_iload h dX10_smallest_74 5 rfl (q := 76) rfl ?_
  refine x_aload_n h dX10_smallest_76 rfl 0 rfl (q := 77) rfl ?_
  refine x_get_X10_87_0 h hg kf_X10_82 nn_X10 dX10_smallest_77 ?_
  refine x_icmp_gt (tgt := 170) h dX10_smallest_80 (by decide) (q := 83) rfl hf (fun hc1 hf2 => ?_) (fun hc1 hf2 => ?_)
  · skip
    refine x_bipush (v := (-9)) h dX10_smallest_170 (by decide) (q := 172) rfl ?_
    have hz := Option.some.inj hf2
    subst hz
    exact x_iret h hg hr dX10_smallest_172
  · skip
    refine x_iconst (v := 0) h dX10_smallest_83 (by decide) (q := 84) rfl ?_
    refine x_istore (lv' := [(7, .int 0), (0, .ref (gA g 87)), (2, .int x2), (3, .int x3), (4, .int x4), (5, .int x5), (6, .int x6)]) h dX10_smallest_84 hL (by decide) rfl (q := 86) rfl ?_
    refine x_sub (lv' := [(0, .ref (gA g 87)), (2, .int x2), (3, .int x3), (4, .int x4), (5, .int x5), (6, .int x6), (7, .int 0)]) [1, 2, 3, 4, 5, 6, 0] rfl ?_
    exact w_X10_smallest_l86 x2 x3 x4 x5 x6 o h hg hL hr k74 hk74  cFu (σ, 0) hf2
set_option maxHeartbeats 4000000 in
set_option maxRecDepth 100000 in
theorem w_X10_smallest_l74 {C : XC} {Q : State → Prop} {g : cG} (x2 : Int32) (x3 : Int32) (x4 : Int32) (x5 : Int32) (o : Int32 × St) (h : XOk C cX10_smallest RX10 tG rmX10_smallest) (hg : XG C g) (hL : C.2.2.2.2.2.2.2.2.2.2.2.2.1 = 9) (hr : XEnd C (some .int) Q (XQ g (some (.int o.1)) o.2) (cA g)) : ∀ (n : Nat) (z : St × Int32), loopF (fun k z => m_X10_smallest_b74 z.1 x2 x3 x4 x5 z.2 k) n z = some o → Xs C (wW g) Q z.1 74 [(0, .ref (gA g 87)), (2, .int x2), (3, .int x3), (4, .int x4), (5, .int x5), (6, .int z.2)] [] := by
  intro n z hf
  refine loopF_ind (S := St × Int32) (O := Int32 × St) (step := (fun k z => m_X10_smallest_b74 z.1 x2 x3 x4 x5 z.2 k)) (o := o) (P := fun z => Xs C (wW g) Q z.1 74 [(0, .ref (gA g 87)), (2, .int x2), (3, .int x3), (4, .int x4), (5, .int x5), (6, .int z.2)] []) ?_ n z hf
  intro k hk z hf
  exact w_X10_smallest_b74 z.1 x2 x3 x4 x5 z.2 o h hg hL hr k hk hf
def m_X10_smallest (σ : St) (x1 : Int32) (x2 : Int32) : Option (Int32 × St) :=
  if (bI (m_X10_isFormula σ x1)) = 0 then (
    some ((-1), σ)
  ) else (
    (m_X10_isState σ x2).bind fun u3 =>
    if (bI u3) = 0 then (
      some ((-1), σ)
    ) else (
      (m_X10_isGoal σ x1).bind fun u7 =>
      if (bI u7) = 0 then (
        some ((-3), σ)
      ) else (
        (m_X10_works σ x1).bind fun u11 =>
        (m_X10_top u11 x1).bind fun u13 =>
        (m_X10_operand u11 x1 0).bind fun u15 =>
        chk u13 540 <|
        if (u11 93 (Int32.toNatClampNeg u13)) = 9 then (
          (m_X10_operand u11 x1 1).bind fun u21 =>
          loopF (fun k z => m_X10_smallest_b74 z.1 x2 u13 u15 u21 z.2 k) cFu (u11, 0)
        ) else (
          loopF (fun k z => m_X10_smallest_b74 z.1 x2 u13 u15 0 z.2 k) cFu (u11, 0)
        )
      )
    )
  )
set_option maxHeartbeats 4000000 in
set_option maxRecDepth 100000 in
theorem w_X10_smallest {C : XC} {Q : State → Prop} {g : cG} (σ : St) (x1 : Int32) (x2 : Int32) (o : Int32 × St) (h : XOk C cX10_smallest RX10 tG rmX10_smallest) (hg : XG C g) (hL : C.2.2.2.2.2.2.2.2.2.2.2.2.1 = 9) (hr : XEnd C (some .int) Q (XQ g (some (.int o.1)) o.2) (cA g)) (hf : m_X10_smallest σ x1 x2 = some o) : Xs C (wW g) Q σ 0 [(0, .ref (gA g 87)), (1, .int x1), (2, .int x2)] [] := by
  unfold m_X10_smallest at hf
  refine x_aload_n h dX10_smallest_0 rfl 0 rfl (q := 1) rfl ?_
  refine x_iload_n h dX10_smallest_1 rfl 1 rfl (q := 2) rfl ?_
  refine x_callVi (As := [.int x1]) (rest := []) h hg (c_X10_isFormula C.2.1 hg.2.1 σ x1 _ rfl) ml_X10_203 biX10_isFormula rfl rfl hdX10_isFormula ⟨Nat.le_of_ble_eq_true rfl, Nat.le_of_ble_eq_true rfl⟩ (by decide) (cE_87 g _) rfl rfl rfl (Nat.le_of_ble_eq_true rfl) dX10_smallest_2 ?_
  refine x_if_eq (tgt := 16) h dX10_smallest_5 (by decide) (q := 8) rfl hf (fun hc1 hf2 => ?_) (fun hc1 hf2 => ?_)
  · skip
    refine x_iconst (v := (-1)) h dX10_smallest_16 (by decide) (q := 17) rfl ?_
    have hz := Option.some.inj hf2
    subst hz
    exact x_iret h hg hr dX10_smallest_17
  · skip
    refine x_aload_n h dX10_smallest_8 rfl 0 rfl (q := 9) rfl ?_
    refine x_iload_n h dX10_smallest_9 rfl 2 rfl (q := 10) rfl ?_
    obtain ⟨u3, hu3, hf4⟩ := bnd_inv hf2
    refine x_callVi (As := [.int x2]) (rest := []) h hg (c_X10_isState C.2.1 hg.2.1 σ x2 _ hu3) ml_X10_129 biX10_isState rfl rfl hdX10_isState ⟨Nat.le_of_ble_eq_true rfl, Nat.le_of_ble_eq_true rfl⟩ (by decide) (cE_87 g _) rfl rfl rfl (Nat.le_of_ble_eq_true rfl) dX10_smallest_10 ?_
    refine x_if_ne (tgt := 18) h dX10_smallest_13 (by decide) (q := 16) rfl hf4 (fun hc5 hf6 => ?_) (fun hc5 hf6 => ?_)
    · skip
      refine x_aload_n h dX10_smallest_18 rfl 0 rfl (q := 19) rfl ?_
      refine x_iload_n h dX10_smallest_19 rfl 1 rfl (q := 20) rfl ?_
      obtain ⟨u7, hu7, hf8⟩ := bnd_inv hf6
      refine x_callVi (As := [.int x1]) (rest := []) h hg (c_X10_isGoal C.2.1 hg.2.1 σ x1 _ hu7) ml_X10_261 biX10_isGoal rfl rfl hdX10_isGoal ⟨Nat.le_of_ble_eq_true rfl, Nat.le_of_ble_eq_true rfl⟩ (by decide) (cE_87 g _) rfl rfl rfl (Nat.le_of_ble_eq_true rfl) dX10_smallest_20 ?_
      refine x_if_ne (tgt := 29) h dX10_smallest_23 (by decide) (q := 26) rfl hf8 (fun hc9 hf10 => ?_) (fun hc9 hf10 => ?_)
      · skip
        refine x_aload_n h dX10_smallest_29 rfl 0 rfl (q := 30) rfl ?_
        refine x_iload_n h dX10_smallest_30 rfl 1 rfl (q := 31) rfl ?_
        obtain ⟨u11, hu11, hf12⟩ := bnd_inv hf10
        refine x_callVv (As := [.int x1]) (rest := []) h hg (c_X10_works C.2.1 hg.2.1 σ x1 _ hu11) ml_X10_242 biX10_works rfl rfl hdX10_works ⟨Nat.le_of_ble_eq_true rfl, Nat.le_of_ble_eq_true rfl⟩ (by decide) (cE_87 g _) rfl rfl rfl (Nat.le_of_ble_eq_true rfl) dX10_smallest_31 ?_
        refine x_aload_n h dX10_smallest_34 rfl 0 rfl (q := 35) rfl ?_
        refine x_iload_n h dX10_smallest_35 rfl 1 rfl (q := 36) rfl ?_
        obtain ⟨u13, hu13, hf14⟩ := bnd_inv hf12
        refine x_callVi (As := [.int x1]) (rest := []) h hg (c_X10_top C.2.1 hg.2.1 u11 x1 _ hu13) ml_X10_248 biX10_top rfl rfl hdX10_top ⟨Nat.le_of_ble_eq_true rfl, Nat.le_of_ble_eq_true rfl⟩ (by decide) (cE_87 g _) rfl rfl rfl (Nat.le_of_ble_eq_true rfl) dX10_smallest_36 ?_
        refine x_istore_n (lv' := [(3, .int u13), (0, .ref (gA g 87)), (1, .int x1), (2, .int x2)]) h dX10_smallest_39 rfl hL (by decide) rfl (q := 40) rfl ?_
        refine x_aload_n h dX10_smallest_40 rfl 1 rfl (q := 41) rfl ?_
        refine x_iload_n h dX10_smallest_41 rfl 2 rfl (q := 42) rfl ?_
        refine x_iconst (v := 0) h dX10_smallest_42 (by decide) (q := 43) rfl ?_
        obtain ⟨u15, hu15, hf16⟩ := bnd_inv hf14
        refine x_callVi (As := [.int x1, .int 0]) (rest := []) h hg (c_X10_operand C.2.1 hg.2.1 u11 x1 0 _ hu15) ml_X10_251 biX10_operand rfl rfl hdX10_operand ⟨Nat.le_of_ble_eq_true rfl, Nat.le_of_ble_eq_true rfl⟩ (by decide) (cE_87 g _) rfl rfl rfl (Nat.le_of_ble_eq_true rfl) dX10_smallest_43 ?_
        refine x_istore (lv' := [(4, .int u15), (3, .int u13), (0, .ref (gA g 87)), (1, .int x1), (2, .int x2)]) h dX10_smallest_46 hL (by decide) rfl (q := 48) rfl ?_
        refine x_aload_n h dX10_smallest_48 rfl 2 rfl (q := 49) rfl ?_
        refine x_get_X10_87_9 h hg kf_X10_25 nn_X10 dX10_smallest_49 ?_
        refine x_iload_n h dX10_smallest_52 rfl 1 rfl (q := 53) rfl ?_
        obtain ⟨hi17, hf18⟩ := chk_inv hf16
        refine x_iald (j := (Int32.toNatClampNeg u13)) h hg a_93 hi17 rfl dX10_smallest_53 (q := 54) rfl ?_
        refine x_bipush (v := 9) h dX10_smallest_54 (by decide) (q := 56) rfl ?_
        refine x_icmp_ne (tgt := 68) h dX10_smallest_56 (by decide) (q := 59) rfl hf18 (fun hc19 hf20 => ?_) (fun hc19 hf20 => ?_)
        · skip
          refine x_iconst (v := 0) h dX10_smallest_68 (by decide) (q := 69) rfl ?_
          refine x_istore (lv' := [(5, .int 0), (4, .int u15), (3, .int u13), (0, .ref (gA g 87)), (1, .int x1), (2, .int x2)]) h dX10_smallest_69 hL (by decide) rfl (q := 71) rfl ?_
          refine x_iconst (v := 0) h dX10_smallest_71 (by decide) (q := 72) rfl ?_
          refine x_istore (lv' := [(6, .int 0), (5, .int 0), (4, .int u15), (3, .int u13), (0, .ref (gA g 87)), (1, .int x1), (2, .int x2)]) h dX10_smallest_72 hL (by decide) rfl (q := 74) rfl ?_
          refine x_sub (lv' := [(0, .ref (gA g 87)), (2, .int x2), (3, .int u13), (4, .int u15), (5, .int 0), (6, .int 0)]) [4, 6, 3, 2, 1, 0] rfl ?_
          exact w_X10_smallest_l74 x2 u13 u15 0 o h hg hL hr  cFu (u11, 0) hf20
        · skip
          refine x_aload_n h dX10_smallest_59 rfl 2 rfl (q := 60) rfl ?_
          refine x_iload_n h dX10_smallest_60 rfl 3 rfl (q := 61) rfl ?_
          refine x_iconst (v := 1) h dX10_smallest_61 (by decide) (q := 62) rfl ?_
          obtain ⟨u21, hu21, hf22⟩ := bnd_inv hf20
          refine x_callVi (As := [.int x1, .int 1]) (rest := []) h hg (c_X10_operand C.2.1 hg.2.1 u11 x1 1 _ hu21) ml_X10_251 biX10_operand rfl rfl hdX10_operand ⟨Nat.le_of_ble_eq_true rfl, Nat.le_of_ble_eq_true rfl⟩ (by decide) (cE_87 g _) rfl rfl rfl (Nat.le_of_ble_eq_true rfl) dX10_smallest_62 ?_
          refine x_goto (q := 69) h dX10_smallest_65 (by decide) ?_
          refine x_istore (lv' := [(5, .int u21), (4, .int u15), (3, .int u13), (0, .ref (gA g 87)), (1, .int x1), (2, .int x2)]) h dX10_smallest_69 hL (by decide) rfl (q := 71) rfl ?_
          refine x_iconst (v := 0) h dX10_smallest_71 (by decide) (q := 72) rfl ?_
          refine x_istore (lv' := [(6, .int 0), (5, .int u21), (4, .int u15), (3, .int u13), (0, .ref (gA g 87)), (1, .int x1), (2, .int x2)]) h dX10_smallest_72 hL (by decide) rfl (q := 74) rfl ?_
          refine x_sub (lv' := [(0, .ref (gA g 87)), (2, .int x2), (3, .int u13), (4, .int u15), (5, .int u21), (6, .int 0)]) [4, 6, 3, 2, 1, 0] rfl ?_
          exact w_X10_smallest_l74 x2 u13 u15 u21 o h hg hL hr  cFu (u11, 0) hf22
      · skip
        refine x_bipush (v := (-3)) h dX10_smallest_26 (by decide) (q := 28) rfl ?_
        have hz := Option.some.inj hf10
        subst hz
        exact x_iret h hg hr dX10_smallest_28
    · skip
      refine x_iconst (v := (-1)) h dX10_smallest_16 (by decide) (q := 17) rfl ?_
      have hz := Option.some.inj hf6
      subst hz
      exact x_iret h hg hr dX10_smallest_17
theorem c_X10_smallest (l : Launch) {g : cG} (hi : gInj g) (σ : St) (x1 : Int32) (x2 : Int32) (o : Int32 × St) (hf : m_X10_smallest σ x1 x2 = some o) : Met l yX10_smallest (wT yX10_smallest cX10_smallest 9 (some .int)) rmX10_smallest (va_Pc [.ref (gA g 87), .int x1, .int x2] (XPre g σ)) (XQ g (some (.int o.1)) o.2) 0 0 (cA g) :=
  X_met RX10 hi plX10 rfl (Nat.le_of_ble_eq_true rfl) rfl (fun _ _ _ h hg hL hr => w_X10_smallest σ x1 x2 o h hg hL hr hf)
abbrev rmX10_classesOf : Room := { frames := 0, cells := 0, slots := 0, locals := 0 }
theorem hdX10_classesOf : yX10_classesOf.cls = RX10 ∧ yX10_classesOf.cls ≠ "java/lang/invoke/MethodHandle" ∧ yX10_classesOf.cls ≠ "java/lang/invoke/VarHandle" ∧ (parseMethodDescriptor yX10_classesOf.desc).map (fun d => d.parameters.length) = some 1 := by decide +kernel
def m_X10_classesOf_b4 (σ : St) (x1 : Int32) (x2 : Int32) (x3 : Int32) (k4 : (Int32 × Int32) → Option (Int32)) : Option (Int32) :=
  chk 1200 1201 <|
  if (σ 88 1200) ≤ x3 then (
    some x2
  ) else (
    if ((x1 >>> (x3 &&& 31)) &&& 1) = 1 then (
      chk x3 12 <|
      k4 ((x2 ||| ((1 : Int32) <<< ((σ 109 (Int32.toNatClampNeg x3)) &&& 31))), (x3 + 1))
    ) else (
      k4 ((x2 ||| 0), (x3 + 1))
    )
  )
set_option maxHeartbeats 4000000 in
set_option maxRecDepth 100000 in
theorem w_X10_classesOf_b4 {C : XC} {Q : State → Prop} {g : cG} (σ : St) (x1 : Int32) (x2 : Int32) (x3 : Int32) (o : Int32) (h : XOk C cX10_classesOf RX10 tG rmX10_classesOf) (hg : XG C g) (hL : C.2.2.2.2.2.2.2.2.2.2.2.2.1 = 4) (hr : XEnd C (some .int) Q (XQ g (some (.int o)) σ) (cA g)) (k4 : (Int32 × Int32) → Option (Int32)) (hk4 : ∀ z : Int32 × Int32, k4 z = some o → Xs C (wW g) Q σ 4 [(0, .ref (gA g 87)), (1, .int x1), (2, .int z.1), (3, .int z.2)] []) (hf : m_X10_classesOf_b4 σ x1 x2 x3 k4 = some o) : Xs C (wW g) Q σ 4 [(0, .ref (gA g 87)), (1, .int x1), (2, .int x2), (3, .int x3)] [] := by
  unfold m_X10_classesOf_b4 at hf
  refine x_iload_n h dX10_classesOf_4 rfl 3 rfl (q := 5) rfl ?_
  refine x_aload_n h dX10_classesOf_5 rfl 0 rfl (q := 6) rfl ?_
  refine x_get_X10_87_1 h hg kf_X10_7 nn_X10 dX10_classesOf_6 ?_
  refine x_sipush (v := 1200) h dX10_classesOf_9 (by decide) (q := 12) rfl ?_
  obtain ⟨hi1, hf2⟩ := chk_inv hf
  refine x_iald (j := 1200) h hg a_88 hi1 (by decide) dX10_classesOf_12 (q := 13) rfl ?_
  refine x_icmp_ge (tgt := 46) h dX10_classesOf_13 (by decide) (q := 16) rfl hf2 (fun hc3 hf4 => ?_) (fun hc3 hf4 => ?_)
  · skip
    refine x_iload_n h dX10_classesOf_46 rfl 2 rfl (q := 47) rfl ?_
    have hz := Option.some.inj hf4
    subst hz
    exact x_iret h hg hr dX10_classesOf_47
  · skip
    refine x_iload_n h dX10_classesOf_16 rfl 2 rfl (q := 17) rfl ?_
    refine x_iload_n h dX10_classesOf_17 rfl 1 rfl (q := 18) rfl ?_
    refine x_iload_n h dX10_classesOf_18 rfl 3 rfl (q := 19) rfl ?_
    refine x_ishr h dX10_classesOf_19 (q := 20) rfl ?_
    refine x_iconst (v := 1) h dX10_classesOf_20 (by decide) (q := 21) rfl ?_
    refine x_iand h dX10_classesOf_21 (q := 22) rfl ?_
    refine x_iconst (v := 1) h dX10_classesOf_22 (by decide) (q := 23) rfl ?_
    refine x_icmp_ne (tgt := 37) h dX10_classesOf_23 (by decide) (q := 26) rfl hf4 (fun hc5 hf6 => ?_) (fun hc5 hf6 => ?_)
    · skip
      refine x_iconst (v := 0) h dX10_classesOf_37 (by decide) (q := 38) rfl ?_
      refine x_ior h dX10_classesOf_38 (q := 39) rfl ?_
      refine x_istore_n (lv' := [(2, .int (x2 ||| 0)), (0, .ref (gA g 87)), (1, .int x1), (3, .int x3)]) h dX10_classesOf_39 rfl hL (by decide) rfl (q := 40) rfl ?_
      refine x_iinc (v := (x3 + 1)) (lv' := [(3, .int (x3 + 1)), (2, .int (x2 ||| 0)), (0, .ref (gA g 87)), (1, .int x1)]) (j := 3) h dX10_classesOf_40 rfl rfl hL (by decide) rfl (q := 43) rfl ?_
      refine x_goto (q := 4) h dX10_classesOf_43 (by decide) ?_
      refine x_sub (lv' := [(0, .ref (gA g 87)), (1, .int x1), (2, .int (x2 ||| 0)), (3, .int (x3 + 1))]) [2, 3, 1, 0] rfl ?_
      exact hk4 ((x2 ||| 0), (x3 + 1)) hf6
    · skip
      refine x_iconst (v := 1) h dX10_classesOf_26 (by decide) (q := 27) rfl ?_
      refine x_aload_n h dX10_classesOf_27 rfl 0 rfl (q := 28) rfl ?_
      refine x_get_X10_87_32 h hg kf_X10_73 nn_X10 dX10_classesOf_28 ?_
      refine x_iload_n h dX10_classesOf_31 rfl 3 rfl (q := 32) rfl ?_
      obtain ⟨hi7, hf8⟩ := chk_inv hf6
      refine x_iald (j := (Int32.toNatClampNeg x3)) h hg a_109 hi7 rfl dX10_classesOf_32 (q := 33) rfl ?_
      refine x_ishl h dX10_classesOf_33 (q := 34) rfl ?_
      refine x_goto (q := 38) h dX10_classesOf_34 (by decide) ?_
      refine x_ior h dX10_classesOf_38 (q := 39) rfl ?_
      refine x_istore_n (lv' := [(2, .int (x2 ||| ((1 : Int32) <<< ((σ 109 (Int32.toNatClampNeg x3)) &&& 31)))), (0, .ref (gA g 87)), (1, .int x1), (3, .int x3)]) h dX10_classesOf_39 rfl hL (by decide) rfl (q := 40) rfl ?_
      refine x_iinc (v := (x3 + 1)) (lv' := [(3, .int (x3 + 1)), (2, .int (x2 ||| ((1 : Int32) <<< ((σ 109 (Int32.toNatClampNeg x3)) &&& 31)))), (0, .ref (gA g 87)), (1, .int x1)]) (j := 3) h dX10_classesOf_40 rfl rfl hL (by decide) rfl (q := 43) rfl ?_
      refine x_goto (q := 4) h dX10_classesOf_43 (by decide) ?_
      refine x_sub (lv' := [(0, .ref (gA g 87)), (1, .int x1), (2, .int (x2 ||| ((1 : Int32) <<< ((σ 109 (Int32.toNatClampNeg x3)) &&& 31)))), (3, .int (x3 + 1))]) [2, 3, 1, 0] rfl ?_
      exact hk4 ((x2 ||| ((1 : Int32) <<< ((σ 109 (Int32.toNatClampNeg x3)) &&& 31))), (x3 + 1)) hf8
set_option maxHeartbeats 4000000 in
set_option maxRecDepth 100000 in
theorem w_X10_classesOf_l4 {C : XC} {Q : State → Prop} {g : cG} (σ : St) (x1 : Int32) (o : Int32) (h : XOk C cX10_classesOf RX10 tG rmX10_classesOf) (hg : XG C g) (hL : C.2.2.2.2.2.2.2.2.2.2.2.2.1 = 4) (hr : XEnd C (some .int) Q (XQ g (some (.int o)) σ) (cA g)) : ∀ (n : Nat) (z : Int32 × Int32), loopF (fun k z => m_X10_classesOf_b4 σ x1 z.1 z.2 k) n z = some o → Xs C (wW g) Q σ 4 [(0, .ref (gA g 87)), (1, .int x1), (2, .int z.1), (3, .int z.2)] [] := by
  intro n z hf
  refine loopF_ind (S := Int32 × Int32) (O := Int32) (step := (fun k z => m_X10_classesOf_b4 σ x1 z.1 z.2 k)) (o := o) (P := fun z => Xs C (wW g) Q σ 4 [(0, .ref (gA g 87)), (1, .int x1), (2, .int z.1), (3, .int z.2)] []) ?_ n z hf
  intro k hk z hf
  exact w_X10_classesOf_b4 σ x1 z.1 z.2 o h hg hL hr k hk hf
def m_X10_classesOf (σ : St) (x1 : Int32) : Option (Int32) :=
  loopF (fun k z => m_X10_classesOf_b4 σ x1 z.1 z.2 k) cFu (0, 0)
set_option maxHeartbeats 4000000 in
set_option maxRecDepth 100000 in
theorem w_X10_classesOf {C : XC} {Q : State → Prop} {g : cG} (σ : St) (x1 : Int32) (o : Int32) (h : XOk C cX10_classesOf RX10 tG rmX10_classesOf) (hg : XG C g) (hL : C.2.2.2.2.2.2.2.2.2.2.2.2.1 = 4) (hr : XEnd C (some .int) Q (XQ g (some (.int o)) σ) (cA g)) (hf : m_X10_classesOf σ x1 = some o) : Xs C (wW g) Q σ 0 [(0, .ref (gA g 87)), (1, .int x1)] [] := by
  unfold m_X10_classesOf at hf
  refine x_iconst (v := 0) h dX10_classesOf_0 (by decide) (q := 1) rfl ?_
  refine x_istore_n (lv' := [(2, .int 0), (0, .ref (gA g 87)), (1, .int x1)]) h dX10_classesOf_1 rfl hL (by decide) rfl (q := 2) rfl ?_
  refine x_iconst (v := 0) h dX10_classesOf_2 (by decide) (q := 3) rfl ?_
  refine x_istore_n (lv' := [(3, .int 0), (2, .int 0), (0, .ref (gA g 87)), (1, .int x1)]) h dX10_classesOf_3 rfl hL (by decide) rfl (q := 4) rfl ?_
  refine x_sub (lv' := [(0, .ref (gA g 87)), (1, .int x1), (2, .int 0), (3, .int 0)]) [2, 3, 1, 0] rfl ?_
  exact w_X10_classesOf_l4 σ x1 o h hg hL hr  cFu (0, 0) hf
theorem c_X10_classesOf (l : Launch) {g : cG} (hi : gInj g) (σ : St) (x1 : Int32) (o : Int32) (hf : m_X10_classesOf σ x1 = some o) : Met l yX10_classesOf (wT yX10_classesOf cX10_classesOf 4 (some .int)) rmX10_classesOf (va_Pc [.ref (gA g 87), .int x1] (XPre g σ)) (XQ g (some (.int o)) σ) 0 0 (cA g) :=
  X_met RX10 hi plX10 rfl (Nat.le_of_ble_eq_true rfl) rfl (fun _ _ _ h hg hL hr => w_X10_classesOf σ x1 o h hg hL hr hf)
abbrev rmX10_leads : Room := { frames := 1, cells := 0, slots := 0, locals := 23 }
theorem hdX10_leads : yX10_leads.cls = RX10 ∧ yX10_leads.cls ≠ "java/lang/invoke/MethodHandle" ∧ yX10_leads.cls ≠ "java/lang/invoke/VarHandle" ∧ (parseMethodDescriptor yX10_leads.desc).map (fun d => d.parameters.length) = some 0 := by decide +kernel
def m_X10_leads_b37 (σ : St) (x1 : Int32) (s0 : Int32) (s1 : Int32) (k2 : (St × Int32) → Option (St)) : Option (St) :=
  chk s1 15552 <|
  k2 ((up σ 111 (Int32.toNatClampNeg s1) s0), (x1 + 1))
set_option maxHeartbeats 4000000 in
set_option maxRecDepth 100000 in
theorem w_X10_leads_b37 {C : XC} {Q : State → Prop} {g : cG} (σ : St) (x1 : Int32) (s0 : Int32) (s1 : Int32) (o : St) (h : XOk C cX10_leads RX10 tG rmX10_leads) (hg : XG C g) (hL : C.2.2.2.2.2.2.2.2.2.2.2.2.1 = 2) (hr : XEnd C none Q (XQ g (none) o) (cA g)) (k2 : (St × Int32) → Option (St)) (hk2 : ∀ z : St × Int32, k2 z = some o → Xs C (wW g) Q z.1 2 [(0, .ref (gA g 87)), (1, .int z.2)] []) (hf : m_X10_leads_b37 σ x1 s0 s1 k2 = some o) : Xs C (wW g) Q σ 37 [(0, .ref (gA g 87)), (1, .int x1)] [.int s0, .int s1, .ref (gA g 111)] := by
  unfold m_X10_leads_b37 at hf
  obtain ⟨hi1, hf2⟩ := chk_inv hf
  refine x_iast (j := (Int32.toNatClampNeg s1)) h hg a_111 hi1 rfl dX10_leads_37 (q := 38) rfl ?_
  refine x_iinc (v := (x1 + 1)) (lv' := [(1, .int (x1 + 1)), (0, .ref (gA g 87))]) (j := 1) h dX10_leads_38 rfl rfl hL (by decide) rfl (q := 41) rfl ?_
  refine x_goto (q := 2) h dX10_leads_41 (by decide) ?_
  refine x_sub (lv' := [(0, .ref (gA g 87)), (1, .int (x1 + 1))]) [1, 0] rfl ?_
  exact hk2 ((up σ 111 (Int32.toNatClampNeg s1) s0), (x1 + 1)) hf2
def m_X10_leads_b2 (σ : St) (x1 : Int32) (k2 : (St × Int32) → Option (St)) : Option (St) :=
  if 15552 ≤ x1 then (
    some σ
  ) else (
    chk x1 15552 <|
    if (σ 90 (Int32.toNatClampNeg x1)) = 0 then (
      m_X10_leads_b37 σ x1 0 x1 k2
    ) else (
      chk x1 15552 <|
      (m_X10_classesOf σ (σ 90 (Int32.toNatClampNeg x1))).bind fun u9 =>
      m_X10_leads_b37 σ x1 u9 x1 k2
    )
  )
set_option maxHeartbeats 4000000 in
set_option maxRecDepth 100000 in
theorem w_X10_leads_b2 {C : XC} {Q : State → Prop} {g : cG} (σ : St) (x1 : Int32) (o : St) (h : XOk C cX10_leads RX10 tG rmX10_leads) (hg : XG C g) (hL : C.2.2.2.2.2.2.2.2.2.2.2.2.1 = 2) (hr : XEnd C none Q (XQ g (none) o) (cA g)) (k2 : (St × Int32) → Option (St)) (hk2 : ∀ z : St × Int32, k2 z = some o → Xs C (wW g) Q z.1 2 [(0, .ref (gA g 87)), (1, .int z.2)] []) (hf : m_X10_leads_b2 σ x1 k2 = some o) : Xs C (wW g) Q σ 2 [(0, .ref (gA g 87)), (1, .int x1)] [] := by
  unfold m_X10_leads_b2 at hf
  refine x_iload_n h dX10_leads_2 rfl 1 rfl (q := 3) rfl ?_
  refine x_sipush (v := 15552) h dX10_leads_3 (by decide) (q := 6) rfl ?_
  refine x_icmp_ge (tgt := 44) h dX10_leads_6 (by decide) (q := 9) rfl hf (fun hc1 hf2 => ?_) (fun hc1 hf2 => ?_)
  · skip
    have hz := Option.some.inj hf2
    subst hz
    exact x_vret h hg hr dX10_leads_44
  · skip
    refine x_aload_n h dX10_leads_9 rfl 0 rfl (q := 10) rfl ?_
    refine x_get_X10_87_34 h hg kf_X10_79 nn_X10 dX10_leads_10 ?_
    refine x_iload_n h dX10_leads_13 rfl 1 rfl (q := 14) rfl ?_
    refine x_aload_n h dX10_leads_14 rfl 0 rfl (q := 15) rfl ?_
    refine x_get_X10_87_4 h hg kf_X10_16 nn_X10 dX10_leads_15 ?_
    refine x_iload_n h dX10_leads_18 rfl 1 rfl (q := 19) rfl ?_
    obtain ⟨hi3, hf4⟩ := chk_inv hf2
    refine x_iald (j := (Int32.toNatClampNeg x1)) h hg a_90 hi3 rfl dX10_leads_19 (q := 20) rfl ?_
    refine x_if_ne (tgt := 27) h dX10_leads_20 (by decide) (q := 23) rfl hf4 (fun hc5 hf6 => ?_) (fun hc5 hf6 => ?_)
    · skip
      refine x_aload_n h dX10_leads_27 rfl 0 rfl (q := 28) rfl ?_
      refine x_aload_n h dX10_leads_28 rfl 0 rfl (q := 29) rfl ?_
      refine x_get_X10_87_4 h hg kf_X10_16 nn_X10 dX10_leads_29 ?_
      refine x_iload_n h dX10_leads_32 rfl 1 rfl (q := 33) rfl ?_
      obtain ⟨hi7, hf8⟩ := chk_inv hf6
      refine x_iald (j := (Int32.toNatClampNeg x1)) h hg a_90 hi7 rfl dX10_leads_33 (q := 34) rfl ?_
      obtain ⟨u9, hu9, hf10⟩ := bnd_inv hf8
      refine x_callVi (As := [.int (σ 90 (Int32.toNatClampNeg x1))]) (rest := [.int x1, .ref (gA g 111)]) h hg (c_X10_classesOf C.2.1 hg.2.1 σ (σ 90 (Int32.toNatClampNeg x1)) _ hu9) ml_X10_278 biX10_classesOf rfl rfl hdX10_classesOf ⟨Nat.le_of_ble_eq_true rfl, Nat.le_of_ble_eq_true rfl⟩ (by decide) (cE_87 g _) rfl rfl rfl (Nat.le_of_ble_eq_true rfl) dX10_leads_34 ?_
      exact w_X10_leads_b37 σ x1 u9 x1 o h hg hL hr k2 hk2 hf10
    · skip
      refine x_iconst (v := 0) h dX10_leads_23 (by decide) (q := 24) rfl ?_
      refine x_goto (q := 37) h dX10_leads_24 (by decide) ?_
      exact w_X10_leads_b37 σ x1 0 x1 o h hg hL hr k2 hk2 hf6
set_option maxHeartbeats 4000000 in
set_option maxRecDepth 100000 in
theorem w_X10_leads_l2 {C : XC} {Q : State → Prop} {g : cG} (o : St) (h : XOk C cX10_leads RX10 tG rmX10_leads) (hg : XG C g) (hL : C.2.2.2.2.2.2.2.2.2.2.2.2.1 = 2) (hr : XEnd C none Q (XQ g (none) o) (cA g)) : ∀ (n : Nat) (z : St × Int32), loopF (fun k z => m_X10_leads_b2 z.1 z.2 k) n z = some o → Xs C (wW g) Q z.1 2 [(0, .ref (gA g 87)), (1, .int z.2)] [] := by
  intro n z hf
  refine loopF_ind (S := St × Int32) (O := St) (step := (fun k z => m_X10_leads_b2 z.1 z.2 k)) (o := o) (P := fun z => Xs C (wW g) Q z.1 2 [(0, .ref (gA g 87)), (1, .int z.2)] []) ?_ n z hf
  intro k hk z hf
  exact w_X10_leads_b2 z.1 z.2 o h hg hL hr k hk hf
def m_X10_leads (σ : St) : Option (St) :=
  loopF (fun k z => m_X10_leads_b2 z.1 z.2 k) cFu (σ, 0)
set_option maxHeartbeats 4000000 in
set_option maxRecDepth 100000 in
theorem w_X10_leads {C : XC} {Q : State → Prop} {g : cG} (σ : St) (o : St) (h : XOk C cX10_leads RX10 tG rmX10_leads) (hg : XG C g) (hL : C.2.2.2.2.2.2.2.2.2.2.2.2.1 = 2) (hr : XEnd C none Q (XQ g (none) o) (cA g)) (hf : m_X10_leads σ = some o) : Xs C (wW g) Q σ 0 [(0, .ref (gA g 87))] [] := by
  unfold m_X10_leads at hf
  refine x_iconst (v := 0) h dX10_leads_0 (by decide) (q := 1) rfl ?_
  refine x_istore_n (lv' := [(1, .int 0), (0, .ref (gA g 87))]) h dX10_leads_1 rfl hL (by decide) rfl (q := 2) rfl ?_
  refine x_sub (lv' := [(0, .ref (gA g 87)), (1, .int 0)]) [1, 0] rfl ?_
  exact w_X10_leads_l2  o h hg hL hr  cFu (σ, 0) hf
theorem c_X10_leads (l : Launch) {g : cG} (hi : gInj g) (σ : St) (o : St) (hf : m_X10_leads σ = some o) : Met l yX10_leads (wT yX10_leads cX10_leads 2 none) rmX10_leads (va_Pc [.ref (gA g 87)] (XPre g σ)) (XQ g (none) o) 0 0 (cA g) :=
  X_met RX10 hi plX10 rfl (Nat.le_of_ble_eq_true rfl) rfl (fun _ _ _ h hg hL hr => w_X10_leads σ o h hg hL hr hf)
abbrev rmX10_isMatched : Room := { frames := 1, cells := 0, slots := 0, locals := 22 }
theorem hdX10_isMatched : yX10_isMatched.cls = RX10 ∧ yX10_isMatched.cls ≠ "java/lang/invoke/MethodHandle" ∧ yX10_isMatched.cls ≠ "java/lang/invoke/VarHandle" ∧ (parseMethodDescriptor yX10_isMatched.desc).map (fun d => d.parameters.length) = some 3 := by decide +kernel
def m_X10_isMatched_b93 (σ : St) (x1 : Int32) (x2 : Int32) (x3 : Int32) (x4 : Int32) (x6 : Int32) (k3 : Int32 → Option (Bool)) : Option (Bool) :=
  if x6 = 0 then (
    some false
  ) else (
    k3 (x4 + 1)
  )
set_option maxHeartbeats 4000000 in
set_option maxRecDepth 100000 in
theorem w_X10_isMatched_b93 {C : XC} {Q : State → Prop} {g : cG} (σ : St) (x1 : Int32) (x2 : Int32) (x3 : Int32) (x4 : Int32) (x6 : Int32) (o : Bool) (h : XOk C cX10_isMatched RX10 tG rmX10_isMatched) (hg : XG C g) (hL : C.2.2.2.2.2.2.2.2.2.2.2.2.1 = 9) (hr : XEnd C (some .boolean) Q (XQ g (some (.int (bI o))) σ) (cA g)) (k3 : Int32 → Option (Bool)) (hk3 : ∀ z : Int32, k3 z = some o → Xs C (wW g) Q σ 3 [(0, .ref (gA g 87)), (1, .int x1), (2, .int x2), (3, .int x3), (4, .int z)] []) (hf : m_X10_isMatched_b93 σ x1 x2 x3 x4 x6 k3 = some o) : Xs C (wW g) Q σ 93 [(0, .ref (gA g 87)), (1, .int x1), (2, .int x2), (3, .int x3), (4, .int x4), (6, .int x6)] [] := by
  unfold m_X10_isMatched_b93 at hf
  refine x_iload h dX10_isMatched_93 5 rfl (q := 95) rfl ?_
  refine x_if_ne (tgt := 100) h dX10_isMatched_95 (by decide) (q := 98) rfl hf (fun hc1 hf2 => ?_) (fun hc1 hf2 => ?_)
  · skip
    refine x_iinc (v := (x4 + 1)) (lv' := [(4, .int (x4 + 1)), (0, .ref (gA g 87)), (1, .int x1), (2, .int x2), (3, .int x3), (6, .int x6)]) (j := 4) h dX10_isMatched_100 rfl rfl hL (by decide) rfl (q := 103) rfl ?_
    refine x_goto (q := 3) h dX10_isMatched_103 (by decide) ?_
    refine x_sub (lv' := [(0, .ref (gA g 87)), (1, .int x1), (2, .int x2), (3, .int x3), (4, .int (x4 + 1))]) [1, 2, 3, 4, 0] rfl ?_
    exact hk3 (x4 + 1) hf2
  · skip
    refine x_iconst (v := 0) h dX10_isMatched_98 (by decide) (q := 99) rfl ?_
    have hz := Option.some.inj hf2
    subst hz
    exact x_zret (b := false) h hg hr dX10_isMatched_99
def m_X10_isMatched_b39 (σ : St) (x1 : Int32) (x2 : Int32) (x3 : Int32) (x4 : Int32) (x5 : Int32) (x6 : Int32) (x7 : Int32) (k3 : Int32 → Option (Bool)) (k39 : (Int32 × Int32) → Option (Bool)) : Option (Bool) :=
  if 81 ≤ x7 then (
    m_X10_isMatched_b93 σ x1 x2 x3 x4 x6 k3
  ) else (
    if x6 = 0 then (
      chk (m_X10_rawAt x1 x3 x7) 15552 <|
      if (σ 111 (Int32.toNatClampNeg (m_X10_rawAt x1 x3 x7))) = 0 then (
        k39 (0, (x7 + 1))
      ) else (
        if ((σ 111 (Int32.toNatClampNeg (m_X10_rawAt x1 x3 x7))) &&& (x5 ^^^ (-1))) = 0 then (
          k39 (1, (x7 + 1))
        ) else (
          k39 (0, (x7 + 1))
        )
      )
    ) else (
      m_X10_isMatched_b93 σ x1 x2 x3 x4 x6 k3
    )
  )
set_option maxHeartbeats 4000000 in
set_option maxRecDepth 100000 in
theorem w_X10_isMatched_b39 {C : XC} {Q : State → Prop} {g : cG} (σ : St) (x1 : Int32) (x2 : Int32) (x3 : Int32) (x4 : Int32) (x5 : Int32) (x6 : Int32) (x7 : Int32) (o : Bool) (h : XOk C cX10_isMatched RX10 tG rmX10_isMatched) (hg : XG C g) (hL : C.2.2.2.2.2.2.2.2.2.2.2.2.1 = 9) (hr : XEnd C (some .boolean) Q (XQ g (some (.int (bI o))) σ) (cA g)) (k3 : Int32 → Option (Bool)) (k39 : (Int32 × Int32) → Option (Bool)) (hk3 : ∀ z : Int32, k3 z = some o → Xs C (wW g) Q σ 3 [(0, .ref (gA g 87)), (1, .int x1), (2, .int x2), (3, .int x3), (4, .int z)] []) (hk39 : ∀ z : Int32 × Int32, k39 z = some o → Xs C (wW g) Q σ 39 [(0, .ref (gA g 87)), (1, .int x1), (2, .int x2), (3, .int x3), (4, .int x4), (5, .int x5), (6, .int z.1), (7, .int z.2)] []) (hf : m_X10_isMatched_b39 σ x1 x2 x3 x4 x5 x6 x7 k3 k39 = some o) : Xs C (wW g) Q σ 39 [(0, .ref (gA g 87)), (1, .int x1), (2, .int x2), (3, .int x3), (4, .int x4), (5, .int x5), (6, .int x6), (7, .int x7)] [] := by
  unfold m_X10_isMatched_b39 at hf
  refine x_iload h dX10_isMatched_39 7 rfl (q := 41) rfl ?_
  refine x_bipush (v := 81) h dX10_isMatched_41 (by decide) (q := 43) rfl ?_
  refine x_icmp_ge (tgt := 93) h dX10_isMatched_43 (by decide) (q := 46) rfl hf (fun hc1 hf2 => ?_) (fun hc1 hf2 => ?_)
  · skip
    refine x_sub (lv' := [(0, .ref (gA g 87)), (1, .int x1), (2, .int x2), (3, .int x3), (4, .int x4), (6, .int x6)]) [0, 1, 2, 3, 4, 6] rfl ?_
    exact w_X10_isMatched_b93 σ x1 x2 x3 x4 x6 o h hg hL hr k3 hk3 hf2
  · skip
    refine x_iload h dX10_isMatched_46 6 rfl (q := 48) rfl ?_
    refine x_if_ne (tgt := 93) h dX10_isMatched_48 (by decide) (q := 51) rfl hf2 (fun hc3 hf4 => ?_) (fun hc3 hf4 => ?_)
    · skip
      refine x_sub (lv' := [(0, .ref (gA g 87)), (1, .int x1), (2, .int x2), (3, .int x3), (4, .int x4), (6, .int x6)]) [0, 1, 2, 3, 4, 6] rfl ?_
      exact w_X10_isMatched_b93 σ x1 x2 x3 x4 x6 o h hg hL hr k3 hk3 hf4
    · skip
      refine x_aload_n h dX10_isMatched_51 rfl 0 rfl (q := 52) rfl ?_
      refine x_get_X10_87_34 h hg kf_X10_79 nn_X10 dX10_isMatched_52 ?_
      refine x_iload_n h dX10_isMatched_55 rfl 1 rfl (q := 56) rfl ?_
      refine x_iload_n h dX10_isMatched_56 rfl 3 rfl (q := 57) rfl ?_
      refine x_iload h dX10_isMatched_57 7 rfl (q := 59) rfl ?_
      refine x_callPi (As := [.int x1, .int x3, .int x7]) (rest := [.ref (gA g 111)]) h (c_X10_rawAt C.2.1 x1 x3 x7 _ rfl) ml_X10_112 biX10_rawAt rfl rfl hdX10_rawAt ⟨Nat.le_of_ble_eq_true rfl, Nat.le_of_ble_eq_true rfl⟩ rfl rfl (Nat.le_of_ble_eq_true rfl) dX10_isMatched_59 ?_
      obtain ⟨hi5, hf6⟩ := chk_inv hf4
      refine x_iald (j := (Int32.toNatClampNeg (m_X10_rawAt x1 x3 x7))) h hg a_111 hi5 rfl dX10_isMatched_62 (q := 63) rfl ?_
      refine x_istore (lv' := [(8, .int (σ 111 (Int32.toNatClampNeg (m_X10_rawAt x1 x3 x7)))), (0, .ref (gA g 87)), (1, .int x1), (2, .int x2), (3, .int x3), (4, .int x4), (5, .int x5), (6, .int x6), (7, .int x7)]) h dX10_isMatched_63 hL (by decide) rfl (q := 65) rfl ?_
      refine x_iload h dX10_isMatched_65 0 rfl (q := 67) rfl ?_
      refine x_if_eq (tgt := 84) h dX10_isMatched_67 (by decide) (q := 70) rfl hf6 (fun hc7 hf8 => ?_) (fun hc7 hf8 => ?_)
      · skip
        refine x_iconst (v := 0) h dX10_isMatched_84 (by decide) (q := 85) rfl ?_
        refine x_istore (lv' := [(6, .int 0), (8, .int (σ 111 (Int32.toNatClampNeg (m_X10_rawAt x1 x3 x7)))), (0, .ref (gA g 87)), (1, .int x1), (2, .int x2), (3, .int x3), (4, .int x4), (5, .int x5), (7, .int x7)]) h dX10_isMatched_85 hL (by decide) rfl (q := 87) rfl ?_
        refine x_iinc (v := (x7 + 1)) (lv' := [(7, .int (x7 + 1)), (6, .int 0), (8, .int (σ 111 (Int32.toNatClampNeg (m_X10_rawAt x1 x3 x7)))), (0, .ref (gA g 87)), (1, .int x1), (2, .int x2), (3, .int x3), (4, .int x4), (5, .int x5)]) (j := 8) h dX10_isMatched_87 rfl rfl hL (by decide) rfl (q := 90) rfl ?_
        refine x_goto (q := 39) h dX10_isMatched_90 (by decide) ?_
        refine x_sub (lv' := [(0, .ref (gA g 87)), (1, .int x1), (2, .int x2), (3, .int x3), (4, .int x4), (5, .int x5), (6, .int 0), (7, .int (x7 + 1))]) [3, 4, 5, 6, 7, 8, 1, 0] rfl ?_
        exact hk39 (0, (x7 + 1)) hf8
      · skip
        refine x_iload h dX10_isMatched_70 0 rfl (q := 72) rfl ?_
        refine x_iload h dX10_isMatched_72 6 rfl (q := 74) rfl ?_
        refine x_iconst (v := (-1)) h dX10_isMatched_74 (by decide) (q := 75) rfl ?_
        refine x_ixor h dX10_isMatched_75 (q := 76) rfl ?_
        refine x_iand h dX10_isMatched_76 (q := 77) rfl ?_
        refine x_if_ne (tgt := 84) h dX10_isMatched_77 (by decide) (q := 80) rfl hf8 (fun hc9 hf10 => ?_) (fun hc9 hf10 => ?_)
        · skip
          refine x_iconst (v := 0) h dX10_isMatched_84 (by decide) (q := 85) rfl ?_
          refine x_istore (lv' := [(6, .int 0), (8, .int (σ 111 (Int32.toNatClampNeg (m_X10_rawAt x1 x3 x7)))), (0, .ref (gA g 87)), (1, .int x1), (2, .int x2), (3, .int x3), (4, .int x4), (5, .int x5), (7, .int x7)]) h dX10_isMatched_85 hL (by decide) rfl (q := 87) rfl ?_
          refine x_iinc (v := (x7 + 1)) (lv' := [(7, .int (x7 + 1)), (6, .int 0), (8, .int (σ 111 (Int32.toNatClampNeg (m_X10_rawAt x1 x3 x7)))), (0, .ref (gA g 87)), (1, .int x1), (2, .int x2), (3, .int x3), (4, .int x4), (5, .int x5)]) (j := 8) h dX10_isMatched_87 rfl rfl hL (by decide) rfl (q := 90) rfl ?_
          refine x_goto (q := 39) h dX10_isMatched_90 (by decide) ?_
          refine x_sub (lv' := [(0, .ref (gA g 87)), (1, .int x1), (2, .int x2), (3, .int x3), (4, .int x4), (5, .int x5), (6, .int 0), (7, .int (x7 + 1))]) [3, 4, 5, 6, 7, 8, 1, 0] rfl ?_
          exact hk39 (0, (x7 + 1)) hf10
        · skip
          refine x_iconst (v := 1) h dX10_isMatched_80 (by decide) (q := 81) rfl ?_
          refine x_goto (q := 85) h dX10_isMatched_81 (by decide) ?_
          refine x_istore (lv' := [(6, .int 1), (8, .int (σ 111 (Int32.toNatClampNeg (m_X10_rawAt x1 x3 x7)))), (0, .ref (gA g 87)), (1, .int x1), (2, .int x2), (3, .int x3), (4, .int x4), (5, .int x5), (7, .int x7)]) h dX10_isMatched_85 hL (by decide) rfl (q := 87) rfl ?_
          refine x_iinc (v := (x7 + 1)) (lv' := [(7, .int (x7 + 1)), (6, .int 1), (8, .int (σ 111 (Int32.toNatClampNeg (m_X10_rawAt x1 x3 x7)))), (0, .ref (gA g 87)), (1, .int x1), (2, .int x2), (3, .int x3), (4, .int x4), (5, .int x5)]) (j := 8) h dX10_isMatched_87 rfl rfl hL (by decide) rfl (q := 90) rfl ?_
          refine x_goto (q := 39) h dX10_isMatched_90 (by decide) ?_
          refine x_sub (lv' := [(0, .ref (gA g 87)), (1, .int x1), (2, .int x2), (3, .int x3), (4, .int x4), (5, .int x5), (6, .int 1), (7, .int (x7 + 1))]) [3, 4, 5, 6, 7, 8, 1, 0] rfl ?_
          exact hk39 (1, (x7 + 1)) hf10
set_option maxHeartbeats 4000000 in
set_option maxRecDepth 100000 in
theorem w_X10_isMatched_l39 {C : XC} {Q : State → Prop} {g : cG} (σ : St) (x1 : Int32) (x2 : Int32) (x3 : Int32) (x4 : Int32) (x5 : Int32) (o : Bool) (h : XOk C cX10_isMatched RX10 tG rmX10_isMatched) (hg : XG C g) (hL : C.2.2.2.2.2.2.2.2.2.2.2.2.1 = 9) (hr : XEnd C (some .boolean) Q (XQ g (some (.int (bI o))) σ) (cA g)) (k3 : Int32 → Option (Bool)) (hk3 : ∀ z : Int32, k3 z = some o → Xs C (wW g) Q σ 3 [(0, .ref (gA g 87)), (1, .int x1), (2, .int x2), (3, .int x3), (4, .int z)] []) : ∀ (n : Nat) (z : Int32 × Int32), loopF (fun k z => m_X10_isMatched_b39 σ x1 x2 x3 x4 x5 z.1 z.2 k3 k) n z = some o → Xs C (wW g) Q σ 39 [(0, .ref (gA g 87)), (1, .int x1), (2, .int x2), (3, .int x3), (4, .int x4), (5, .int x5), (6, .int z.1), (7, .int z.2)] [] := by
  intro n z hf
  refine loopF_ind (S := Int32 × Int32) (O := Bool) (step := (fun k z => m_X10_isMatched_b39 σ x1 x2 x3 x4 x5 z.1 z.2 k3 k)) (o := o) (P := fun z => Xs C (wW g) Q σ 39 [(0, .ref (gA g 87)), (1, .int x1), (2, .int x2), (3, .int x3), (4, .int x4), (5, .int x5), (6, .int z.1), (7, .int z.2)] []) ?_ n z hf
  intro k hk z hf
  exact w_X10_isMatched_b39 σ x1 x2 x3 x4 x5 z.1 z.2 o h hg hL hr k3 k hk3 hk hf
def m_X10_isMatched_b3 (σ : St) (x1 : Int32) (x2 : Int32) (x3 : Int32) (x4 : Int32) (k3 : Int32 → Option (Bool)) : Option (Bool) :=
  if 81 ≤ x4 then (
    some true
  ) else (
    chk (m_X10_rawAt x1 x2 x4) 15552 <|
    if (σ 111 (Int32.toNatClampNeg (m_X10_rawAt x1 x2 x4))) = 0 then (
      loopF (fun k z => m_X10_isMatched_b39 σ x1 x2 x3 x4 (σ 111 (Int32.toNatClampNeg (m_X10_rawAt x1 x2 x4))) z.1 z.2 k3 k) cFu (1, 0)
    ) else (
      loopF (fun k z => m_X10_isMatched_b39 σ x1 x2 x3 x4 (σ 111 (Int32.toNatClampNeg (m_X10_rawAt x1 x2 x4))) z.1 z.2 k3 k) cFu (0, 0)
    )
  )
set_option maxHeartbeats 4000000 in
set_option maxRecDepth 100000 in
theorem w_X10_isMatched_b3 {C : XC} {Q : State → Prop} {g : cG} (σ : St) (x1 : Int32) (x2 : Int32) (x3 : Int32) (x4 : Int32) (o : Bool) (h : XOk C cX10_isMatched RX10 tG rmX10_isMatched) (hg : XG C g) (hL : C.2.2.2.2.2.2.2.2.2.2.2.2.1 = 9) (hr : XEnd C (some .boolean) Q (XQ g (some (.int (bI o))) σ) (cA g)) (k3 : Int32 → Option (Bool)) (hk3 : ∀ z : Int32, k3 z = some o → Xs C (wW g) Q σ 3 [(0, .ref (gA g 87)), (1, .int x1), (2, .int x2), (3, .int x3), (4, .int z)] []) (hf : m_X10_isMatched_b3 σ x1 x2 x3 x4 k3 = some o) : Xs C (wW g) Q σ 3 [(0, .ref (gA g 87)), (1, .int x1), (2, .int x2), (3, .int x3), (4, .int x4)] [] := by
  unfold m_X10_isMatched_b3 at hf
  refine x_iload h dX10_isMatched_3 4 rfl (q := 5) rfl ?_
  refine x_bipush (v := 81) h dX10_isMatched_5 (by decide) (q := 7) rfl ?_
  refine x_icmp_ge (tgt := 106) h dX10_isMatched_7 (by decide) (q := 10) rfl hf (fun hc1 hf2 => ?_) (fun hc1 hf2 => ?_)
  · skip
    refine x_iconst (v := 1) h dX10_isMatched_106 (by decide) (q := 107) rfl ?_
    have hz := Option.some.inj hf2
    subst hz
    exact x_zret (b := true) h hg hr dX10_isMatched_107
  · skip
    refine x_aload_n h dX10_isMatched_10 rfl 0 rfl (q := 11) rfl ?_
    refine x_get_X10_87_34 h hg kf_X10_79 nn_X10 dX10_isMatched_11 ?_
    refine x_iload_n h dX10_isMatched_14 rfl 1 rfl (q := 15) rfl ?_
    refine x_iload_n h dX10_isMatched_15 rfl 2 rfl (q := 16) rfl ?_
    refine x_iload h dX10_isMatched_16 4 rfl (q := 18) rfl ?_
    refine x_callPi (As := [.int x1, .int x2, .int x4]) (rest := [.ref (gA g 111)]) h (c_X10_rawAt C.2.1 x1 x2 x4 _ rfl) ml_X10_112 biX10_rawAt rfl rfl hdX10_rawAt ⟨Nat.le_of_ble_eq_true rfl, Nat.le_of_ble_eq_true rfl⟩ rfl rfl (Nat.le_of_ble_eq_true rfl) dX10_isMatched_18 ?_
    obtain ⟨hi3, hf4⟩ := chk_inv hf2
    refine x_iald (j := (Int32.toNatClampNeg (m_X10_rawAt x1 x2 x4))) h hg a_111 hi3 rfl dX10_isMatched_21 (q := 22) rfl ?_
    refine x_istore (lv' := [(5, .int (σ 111 (Int32.toNatClampNeg (m_X10_rawAt x1 x2 x4)))), (0, .ref (gA g 87)), (1, .int x1), (2, .int x2), (3, .int x3), (4, .int x4)]) h dX10_isMatched_22 hL (by decide) rfl (q := 24) rfl ?_
    refine x_iload h dX10_isMatched_24 0 rfl (q := 26) rfl ?_
    refine x_if_ne (tgt := 33) h dX10_isMatched_26 (by decide) (q := 29) rfl hf4 (fun hc5 hf6 => ?_) (fun hc5 hf6 => ?_)
    · skip
      refine x_iconst (v := 0) h dX10_isMatched_33 (by decide) (q := 34) rfl ?_
      refine x_istore (lv' := [(6, .int 0), (5, .int (σ 111 (Int32.toNatClampNeg (m_X10_rawAt x1 x2 x4)))), (0, .ref (gA g 87)), (1, .int x1), (2, .int x2), (3, .int x3), (4, .int x4)]) h dX10_isMatched_34 hL (by decide) rfl (q := 36) rfl ?_
      refine x_iconst (v := 0) h dX10_isMatched_36 (by decide) (q := 37) rfl ?_
      refine x_istore (lv' := [(7, .int 0), (6, .int 0), (5, .int (σ 111 (Int32.toNatClampNeg (m_X10_rawAt x1 x2 x4)))), (0, .ref (gA g 87)), (1, .int x1), (2, .int x2), (3, .int x3), (4, .int x4)]) h dX10_isMatched_37 hL (by decide) rfl (q := 39) rfl ?_
      refine x_sub (lv' := [(0, .ref (gA g 87)), (1, .int x1), (2, .int x2), (3, .int x3), (4, .int x4), (5, .int (σ 111 (Int32.toNatClampNeg (m_X10_rawAt x1 x2 x4)))), (6, .int 0), (7, .int 0)]) [3, 4, 5, 6, 7, 2, 1, 0] rfl ?_
      exact w_X10_isMatched_l39 σ x1 x2 x3 x4 (σ 111 (Int32.toNatClampNeg (m_X10_rawAt x1 x2 x4))) o h hg hL hr k3 hk3  cFu (0, 0) hf6
    · skip
      refine x_iconst (v := 1) h dX10_isMatched_29 (by decide) (q := 30) rfl ?_
      refine x_goto (q := 34) h dX10_isMatched_30 (by decide) ?_
      refine x_istore (lv' := [(6, .int 1), (5, .int (σ 111 (Int32.toNatClampNeg (m_X10_rawAt x1 x2 x4)))), (0, .ref (gA g 87)), (1, .int x1), (2, .int x2), (3, .int x3), (4, .int x4)]) h dX10_isMatched_34 hL (by decide) rfl (q := 36) rfl ?_
      refine x_iconst (v := 0) h dX10_isMatched_36 (by decide) (q := 37) rfl ?_
      refine x_istore (lv' := [(7, .int 0), (6, .int 1), (5, .int (σ 111 (Int32.toNatClampNeg (m_X10_rawAt x1 x2 x4)))), (0, .ref (gA g 87)), (1, .int x1), (2, .int x2), (3, .int x3), (4, .int x4)]) h dX10_isMatched_37 hL (by decide) rfl (q := 39) rfl ?_
      refine x_sub (lv' := [(0, .ref (gA g 87)), (1, .int x1), (2, .int x2), (3, .int x3), (4, .int x4), (5, .int (σ 111 (Int32.toNatClampNeg (m_X10_rawAt x1 x2 x4)))), (6, .int 1), (7, .int 0)]) [3, 4, 5, 6, 7, 2, 1, 0] rfl ?_
      exact w_X10_isMatched_l39 σ x1 x2 x3 x4 (σ 111 (Int32.toNatClampNeg (m_X10_rawAt x1 x2 x4))) o h hg hL hr k3 hk3  cFu (1, 0) hf6
set_option maxHeartbeats 4000000 in
set_option maxRecDepth 100000 in
theorem w_X10_isMatched_l3 {C : XC} {Q : State → Prop} {g : cG} (σ : St) (x1 : Int32) (x2 : Int32) (x3 : Int32) (o : Bool) (h : XOk C cX10_isMatched RX10 tG rmX10_isMatched) (hg : XG C g) (hL : C.2.2.2.2.2.2.2.2.2.2.2.2.1 = 9) (hr : XEnd C (some .boolean) Q (XQ g (some (.int (bI o))) σ) (cA g)) : ∀ (n : Nat) (z : Int32), loopF (fun k z => m_X10_isMatched_b3 σ x1 x2 x3 z k) n z = some o → Xs C (wW g) Q σ 3 [(0, .ref (gA g 87)), (1, .int x1), (2, .int x2), (3, .int x3), (4, .int z)] [] := by
  intro n z hf
  refine loopF_ind (S := Int32) (O := Bool) (step := (fun k z => m_X10_isMatched_b3 σ x1 x2 x3 z k)) (o := o) (P := fun z => Xs C (wW g) Q σ 3 [(0, .ref (gA g 87)), (1, .int x1), (2, .int x2), (3, .int x3), (4, .int z)] []) ?_ n z hf
  intro k hk z hf
  exact w_X10_isMatched_b3 σ x1 x2 x3 z o h hg hL hr k hk hf
def m_X10_isMatched (σ : St) (x1 : Int32) (x2 : Int32) (x3 : Int32) : Option (Bool) :=
  loopF (fun k z => m_X10_isMatched_b3 σ x1 x2 x3 z k) cFu 0
set_option maxHeartbeats 4000000 in
set_option maxRecDepth 100000 in
theorem w_X10_isMatched {C : XC} {Q : State → Prop} {g : cG} (σ : St) (x1 : Int32) (x2 : Int32) (x3 : Int32) (o : Bool) (h : XOk C cX10_isMatched RX10 tG rmX10_isMatched) (hg : XG C g) (hL : C.2.2.2.2.2.2.2.2.2.2.2.2.1 = 9) (hr : XEnd C (some .boolean) Q (XQ g (some (.int (bI o))) σ) (cA g)) (hf : m_X10_isMatched σ x1 x2 x3 = some o) : Xs C (wW g) Q σ 0 [(0, .ref (gA g 87)), (1, .int x1), (2, .int x2), (3, .int x3)] [] := by
  unfold m_X10_isMatched at hf
  refine x_iconst (v := 0) h dX10_isMatched_0 (by decide) (q := 1) rfl ?_
  refine x_istore (lv' := [(4, .int 0), (0, .ref (gA g 87)), (1, .int x1), (2, .int x2), (3, .int x3)]) h dX10_isMatched_1 hL (by decide) rfl (q := 3) rfl ?_
  refine x_sub (lv' := [(0, .ref (gA g 87)), (1, .int x1), (2, .int x2), (3, .int x3), (4, .int 0)]) [1, 2, 3, 4, 0] rfl ?_
  exact w_X10_isMatched_l3 σ x1 x2 x3 o h hg hL hr  cFu 0 hf
theorem c_X10_isMatched (l : Launch) {g : cG} (hi : gInj g) (σ : St) (x1 : Int32) (x2 : Int32) (x3 : Int32) (o : Bool) (hf : m_X10_isMatched σ x1 x2 x3 = some o) : Met l yX10_isMatched (wT yX10_isMatched cX10_isMatched 9 (some .boolean)) rmX10_isMatched (va_Pc [.ref (gA g 87), .int x1, .int x2, .int x3] (XPre g σ)) (XQ g (some (.int (bI o))) σ) 0 0 (cA g) :=
  X_met RX10 hi plX10 rfl (Nat.le_of_ble_eq_true rfl) rfl (fun _ _ _ h hg hL hr => w_X10_isMatched σ x1 x2 x3 o h hg hL hr hf)
abbrev rmX10_areAlike : Room := { frames := 2, cells := 0, slots := 0, locals := 50 }
theorem hdX10_areAlike : yX10_areAlike.cls = RX10 ∧ yX10_areAlike.cls ≠ "java/lang/invoke/MethodHandle" ∧ yX10_areAlike.cls ≠ "java/lang/invoke/VarHandle" ∧ (parseMethodDescriptor yX10_areAlike.desc).map (fun d => d.parameters.length) = some 2 := by decide +kernel
def m_X10_areAlike_b24 (σ : St) (x1 : Int32) (x2 : Int32) (x3 : Int32) (x4 : Int32) (k24 : (Int32 × Int32) → Option (Bool)) : Option (Bool) :=
  if ((1 : Int32) <<< ((σ 87 0) &&& 31)) ≤ x4 then (
    rtB x3 fun b3 =>
    some b3
  ) else (
    if x3 = 0 then (
      rtB x3 fun b7 =>
      some b7
    ) else (
      (m_X10_isMatched σ x4 x1 x2).bind fun u9 =>
      if (bI u9) = 0 then (
        k24 (0, (x4 + 1))
      ) else (
        (m_X10_isMatched σ x4 x2 x1).bind fun u13 =>
        if (bI u13) = 0 then (
          k24 (0, (x4 + 1))
        ) else (
          k24 (1, (x4 + 1))
        )
      )
    )
  )
set_option maxHeartbeats 4000000 in
set_option maxRecDepth 100000 in
theorem w_X10_areAlike_b24 {C : XC} {Q : State → Prop} {g : cG} (σ : St) (x1 : Int32) (x2 : Int32) (x3 : Int32) (x4 : Int32) (o : Bool) (h : XOk C cX10_areAlike RX10 tG rmX10_areAlike) (hg : XG C g) (hL : C.2.2.2.2.2.2.2.2.2.2.2.2.1 = 5) (hr : XEnd C (some .boolean) Q (XQ g (some (.int (bI o))) σ) (cA g)) (k24 : (Int32 × Int32) → Option (Bool)) (hk24 : ∀ z : Int32 × Int32, k24 z = some o → Xs C (wW g) Q σ 24 [(0, .ref (gA g 87)), (1, .int x1), (2, .int x2), (3, .int z.1), (4, .int z.2)] []) (hf : m_X10_areAlike_b24 σ x1 x2 x3 x4 k24 = some o) : Xs C (wW g) Q σ 24 [(0, .ref (gA g 87)), (1, .int x1), (2, .int x2), (3, .int x3), (4, .int x4)] [] := by
  unfold m_X10_areAlike_b24 at hf
  refine x_iload h dX10_areAlike_24 4 rfl (q := 26) rfl ?_
  refine x_iconst (v := 1) h dX10_areAlike_26 (by decide) (q := 27) rfl ?_
  refine x_aload_n h dX10_areAlike_27 rfl 0 rfl (q := 28) rfl ?_
  refine x_get_X10_87_0 h hg kf_X10_82 nn_X10 dX10_areAlike_28 ?_
  refine x_ishl h dX10_areAlike_31 (q := 32) rfl ?_
  refine x_icmp_ge (tgt := 73) h dX10_areAlike_32 (by decide) (q := 35) rfl hf (fun hc1 hf2 => ?_) (fun hc1 hf2 => ?_)
  · skip
    refine x_iload_n h dX10_areAlike_73 rfl 3 rfl (q := 74) rfl ?_
    obtain ⟨b3, heb3, hf4⟩ := rtB_inv hf2
    rw [heb3]
    have hz := Option.some.inj hf4
    subst hz
    exact x_zret (b := b3) h hg hr dX10_areAlike_74
  · skip
    refine x_iload_n h dX10_areAlike_35 rfl 3 rfl (q := 36) rfl ?_
    refine x_if_eq (tgt := 73) h dX10_areAlike_36 (by decide) (q := 39) rfl hf2 (fun hc5 hf6 => ?_) (fun hc5 hf6 => ?_)
    · skip
      refine x_iload_n h dX10_areAlike_73 rfl 3 rfl (q := 74) rfl ?_
      obtain ⟨b7, heb7, hf8⟩ := rtB_inv hf6
      rw [heb7]
      have hz := Option.some.inj hf8
      subst hz
      exact x_zret (b := b7) h hg hr dX10_areAlike_74
    · skip
      refine x_aload_n h dX10_areAlike_39 rfl 0 rfl (q := 40) rfl ?_
      refine x_iload h dX10_areAlike_40 4 rfl (q := 42) rfl ?_
      refine x_iload_n h dX10_areAlike_42 rfl 1 rfl (q := 43) rfl ?_
      refine x_iload_n h dX10_areAlike_43 rfl 2 rfl (q := 44) rfl ?_
      obtain ⟨u9, hu9, hf10⟩ := bnd_inv hf6
      refine x_callVi (As := [.int x4, .int x1, .int x2]) (rest := []) h hg (c_X10_isMatched C.2.1 hg.2.1 σ x4 x1 x2 _ hu9) ml_X10_281 biX10_isMatched rfl rfl hdX10_isMatched ⟨Nat.le_of_ble_eq_true rfl, Nat.le_of_ble_eq_true rfl⟩ (by decide) (cE_87 g _) rfl rfl rfl (Nat.le_of_ble_eq_true rfl) dX10_areAlike_44 ?_
      refine x_if_eq (tgt := 65) h dX10_areAlike_47 (by decide) (q := 50) rfl hf10 (fun hc11 hf12 => ?_) (fun hc11 hf12 => ?_)
      · skip
        refine x_iconst (v := 0) h dX10_areAlike_65 (by decide) (q := 66) rfl ?_
        refine x_istore_n (lv' := [(3, .int 0), (0, .ref (gA g 87)), (1, .int x1), (2, .int x2), (4, .int x4)]) h dX10_areAlike_66 rfl hL (by decide) rfl (q := 67) rfl ?_
        refine x_iinc (v := (x4 + 1)) (lv' := [(4, .int (x4 + 1)), (3, .int 0), (0, .ref (gA g 87)), (1, .int x1), (2, .int x2)]) (j := 4) h dX10_areAlike_67 rfl rfl hL (by decide) rfl (q := 70) rfl ?_
        refine x_goto (q := 24) h dX10_areAlike_70 (by decide) ?_
        refine x_sub (lv' := [(0, .ref (gA g 87)), (1, .int x1), (2, .int x2), (3, .int 0), (4, .int (x4 + 1))]) [2, 3, 4, 1, 0] rfl ?_
        exact hk24 (0, (x4 + 1)) hf12
      · skip
        refine x_aload_n h dX10_areAlike_50 rfl 0 rfl (q := 51) rfl ?_
        refine x_iload h dX10_areAlike_51 4 rfl (q := 53) rfl ?_
        refine x_iload_n h dX10_areAlike_53 rfl 2 rfl (q := 54) rfl ?_
        refine x_iload_n h dX10_areAlike_54 rfl 1 rfl (q := 55) rfl ?_
        obtain ⟨u13, hu13, hf14⟩ := bnd_inv hf12
        refine x_callVi (As := [.int x4, .int x2, .int x1]) (rest := []) h hg (c_X10_isMatched C.2.1 hg.2.1 σ x4 x2 x1 _ hu13) ml_X10_281 biX10_isMatched rfl rfl hdX10_isMatched ⟨Nat.le_of_ble_eq_true rfl, Nat.le_of_ble_eq_true rfl⟩ (by decide) (cE_87 g _) rfl rfl rfl (Nat.le_of_ble_eq_true rfl) dX10_areAlike_55 ?_
        refine x_if_eq (tgt := 65) h dX10_areAlike_58 (by decide) (q := 61) rfl hf14 (fun hc15 hf16 => ?_) (fun hc15 hf16 => ?_)
        · skip
          refine x_iconst (v := 0) h dX10_areAlike_65 (by decide) (q := 66) rfl ?_
          refine x_istore_n (lv' := [(3, .int 0), (0, .ref (gA g 87)), (1, .int x1), (2, .int x2), (4, .int x4)]) h dX10_areAlike_66 rfl hL (by decide) rfl (q := 67) rfl ?_
          refine x_iinc (v := (x4 + 1)) (lv' := [(4, .int (x4 + 1)), (3, .int 0), (0, .ref (gA g 87)), (1, .int x1), (2, .int x2)]) (j := 4) h dX10_areAlike_67 rfl rfl hL (by decide) rfl (q := 70) rfl ?_
          refine x_goto (q := 24) h dX10_areAlike_70 (by decide) ?_
          refine x_sub (lv' := [(0, .ref (gA g 87)), (1, .int x1), (2, .int x2), (3, .int 0), (4, .int (x4 + 1))]) [2, 3, 4, 1, 0] rfl ?_
          exact hk24 (0, (x4 + 1)) hf16
        · skip
          refine x_iconst (v := 1) h dX10_areAlike_61 (by decide) (q := 62) rfl ?_
          refine x_goto (q := 66) h dX10_areAlike_62 (by decide) ?_
          refine x_istore_n (lv' := [(3, .int 1), (0, .ref (gA g 87)), (1, .int x1), (2, .int x2), (4, .int x4)]) h dX10_areAlike_66 rfl hL (by decide) rfl (q := 67) rfl ?_
          refine x_iinc (v := (x4 + 1)) (lv' := [(4, .int (x4 + 1)), (3, .int 1), (0, .ref (gA g 87)), (1, .int x1), (2, .int x2)]) (j := 4) h dX10_areAlike_67 rfl rfl hL (by decide) rfl (q := 70) rfl ?_
          refine x_goto (q := 24) h dX10_areAlike_70 (by decide) ?_
          refine x_sub (lv' := [(0, .ref (gA g 87)), (1, .int x1), (2, .int x2), (3, .int 1), (4, .int (x4 + 1))]) [2, 3, 4, 1, 0] rfl ?_
          exact hk24 (1, (x4 + 1)) hf16
set_option maxHeartbeats 4000000 in
set_option maxRecDepth 100000 in
theorem w_X10_areAlike_l24 {C : XC} {Q : State → Prop} {g : cG} (σ : St) (x1 : Int32) (x2 : Int32) (o : Bool) (h : XOk C cX10_areAlike RX10 tG rmX10_areAlike) (hg : XG C g) (hL : C.2.2.2.2.2.2.2.2.2.2.2.2.1 = 5) (hr : XEnd C (some .boolean) Q (XQ g (some (.int (bI o))) σ) (cA g)) : ∀ (n : Nat) (z : Int32 × Int32), loopF (fun k z => m_X10_areAlike_b24 σ x1 x2 z.1 z.2 k) n z = some o → Xs C (wW g) Q σ 24 [(0, .ref (gA g 87)), (1, .int x1), (2, .int x2), (3, .int z.1), (4, .int z.2)] [] := by
  intro n z hf
  refine loopF_ind (S := Int32 × Int32) (O := Bool) (step := (fun k z => m_X10_areAlike_b24 σ x1 x2 z.1 z.2 k)) (o := o) (P := fun z => Xs C (wW g) Q σ 24 [(0, .ref (gA g 87)), (1, .int x1), (2, .int x2), (3, .int z.1), (4, .int z.2)] []) ?_ n z hf
  intro k hk z hf
  exact w_X10_areAlike_b24 σ x1 x2 z.1 z.2 o h hg hL hr k hk hf
def m_X10_areAlike (σ : St) (x1 : Int32) (x2 : Int32) : Option (Bool) :=
  chk x1 12 <|
  chk x2 12 <|
  if (σ 109 (Int32.toNatClampNeg x1)) = (σ 109 (Int32.toNatClampNeg x2)) then (
    loopF (fun k z => m_X10_areAlike_b24 σ x1 x2 z.1 z.2 k) cFu (1, 0)
  ) else (
    loopF (fun k z => m_X10_areAlike_b24 σ x1 x2 z.1 z.2 k) cFu (0, 0)
  )
set_option maxHeartbeats 4000000 in
set_option maxRecDepth 100000 in
theorem w_X10_areAlike {C : XC} {Q : State → Prop} {g : cG} (σ : St) (x1 : Int32) (x2 : Int32) (o : Bool) (h : XOk C cX10_areAlike RX10 tG rmX10_areAlike) (hg : XG C g) (hL : C.2.2.2.2.2.2.2.2.2.2.2.2.1 = 5) (hr : XEnd C (some .boolean) Q (XQ g (some (.int (bI o))) σ) (cA g)) (hf : m_X10_areAlike σ x1 x2 = some o) : Xs C (wW g) Q σ 0 [(0, .ref (gA g 87)), (1, .int x1), (2, .int x2)] [] := by
  unfold m_X10_areAlike at hf
  refine x_aload_n h dX10_areAlike_0 rfl 0 rfl (q := 1) rfl ?_
  refine x_get_X10_87_32 h hg kf_X10_73 nn_X10 dX10_areAlike_1 ?_
  refine x_iload_n h dX10_areAlike_4 rfl 1 rfl (q := 5) rfl ?_
  obtain ⟨hi1, hf2⟩ := chk_inv hf
  refine x_iald (j := (Int32.toNatClampNeg x1)) h hg a_109 hi1 rfl dX10_areAlike_5 (q := 6) rfl ?_
  refine x_aload_n h dX10_areAlike_6 rfl 0 rfl (q := 7) rfl ?_
  refine x_get_X10_87_32 h hg kf_X10_73 nn_X10 dX10_areAlike_7 ?_
  refine x_iload_n h dX10_areAlike_10 rfl 2 rfl (q := 11) rfl ?_
  obtain ⟨hi3, hf4⟩ := chk_inv hf2
  refine x_iald (j := (Int32.toNatClampNeg x2)) h hg a_109 hi3 rfl dX10_areAlike_11 (q := 12) rfl ?_
  refine x_icmp_ne (tgt := 19) h dX10_areAlike_12 (by decide) (q := 15) rfl hf4 (fun hc5 hf6 => ?_) (fun hc5 hf6 => ?_)
  · skip
    refine x_iconst (v := 0) h dX10_areAlike_19 (by decide) (q := 20) rfl ?_
    refine x_istore_n (lv' := [(3, .int 0), (0, .ref (gA g 87)), (1, .int x1), (2, .int x2)]) h dX10_areAlike_20 rfl hL (by decide) rfl (q := 21) rfl ?_
    refine x_iconst (v := 0) h dX10_areAlike_21 (by decide) (q := 22) rfl ?_
    refine x_istore (lv' := [(4, .int 0), (3, .int 0), (0, .ref (gA g 87)), (1, .int x1), (2, .int x2)]) h dX10_areAlike_22 hL (by decide) rfl (q := 24) rfl ?_
    refine x_sub (lv' := [(0, .ref (gA g 87)), (1, .int x1), (2, .int x2), (3, .int 0), (4, .int 0)]) [2, 3, 4, 1, 0] rfl ?_
    exact w_X10_areAlike_l24 σ x1 x2 o h hg hL hr  cFu (0, 0) hf6
  · skip
    refine x_iconst (v := 1) h dX10_areAlike_15 (by decide) (q := 16) rfl ?_
    refine x_goto (q := 20) h dX10_areAlike_16 (by decide) ?_
    refine x_istore_n (lv' := [(3, .int 1), (0, .ref (gA g 87)), (1, .int x1), (2, .int x2)]) h dX10_areAlike_20 rfl hL (by decide) rfl (q := 21) rfl ?_
    refine x_iconst (v := 0) h dX10_areAlike_21 (by decide) (q := 22) rfl ?_
    refine x_istore (lv' := [(4, .int 0), (3, .int 1), (0, .ref (gA g 87)), (1, .int x1), (2, .int x2)]) h dX10_areAlike_22 hL (by decide) rfl (q := 24) rfl ?_
    refine x_sub (lv' := [(0, .ref (gA g 87)), (1, .int x1), (2, .int x2), (3, .int 1), (4, .int 0)]) [2, 3, 4, 1, 0] rfl ?_
    exact w_X10_areAlike_l24 σ x1 x2 o h hg hL hr  cFu (1, 0) hf6
theorem c_X10_areAlike (l : Launch) {g : cG} (hi : gInj g) (σ : St) (x1 : Int32) (x2 : Int32) (o : Bool) (hf : m_X10_areAlike σ x1 x2 = some o) : Met l yX10_areAlike (wT yX10_areAlike cX10_areAlike 5 (some .boolean)) rmX10_areAlike (va_Pc [.ref (gA g 87), .int x1, .int x2] (XPre g σ)) (XQ g (some (.int (bI o))) σ) 0 0 (cA g) :=
  X_met RX10 hi plX10 rfl (Nat.le_of_ble_eq_true rfl) rfl (fun _ _ _ h hg hL hr => w_X10_areAlike σ x1 x2 o h hg hL hr hf)
abbrev rmX10_divides : Room := { frames := 4, cells := 0, slots := 0, locals := 88 }
theorem hdX10_divides : yX10_divides.cls = RX10 ∧ yX10_divides.cls ≠ "java/lang/invoke/MethodHandle" ∧ yX10_divides.cls ≠ "java/lang/invoke/VarHandle" ∧ (parseMethodDescriptor yX10_divides.desc).map (fun d => d.parameters.length) = some 0 := by decide +kernel
def m_X10_divides_b84 (σ : St) (x1 : Int32) (x2 : Int32) (x3 : Int32) (s0 : Int32) (s1 : Int32) (k4 : (St × Int32 × Int32) → Option (Int32 × St)) (k25 : (St × Int32) → Option (Int32 × St)) : Option (Int32 × St) :=
  chk s1 12 <|
  k25 ((up σ 109 (Int32.toNatClampNeg s1) s0), (x3 + 1))
set_option maxHeartbeats 4000000 in
set_option maxRecDepth 100000 in
theorem w_X10_divides_b84 {C : XC} {Q : State → Prop} {g : cG} (σ : St) (x1 : Int32) (x2 : Int32) (x3 : Int32) (s0 : Int32) (s1 : Int32) (o : Int32 × St) (h : XOk C cX10_divides RX10 tG rmX10_divides) (hg : XG C g) (hL : C.2.2.2.2.2.2.2.2.2.2.2.2.1 = 5) (hr : XEnd C (some .int) Q (XQ g (some (.int o.1)) o.2) (cA g)) (k4 : (St × Int32 × Int32) → Option (Int32 × St)) (k25 : (St × Int32) → Option (Int32 × St)) (hk4 : ∀ z : St × Int32 × Int32, k4 z = some o → Xs C (wW g) Q z.1 4 [(0, .ref (gA g 87)), (1, .int z.2.1), (2, .int z.2.2)] []) (hk25 : ∀ z : St × Int32, k25 z = some o → Xs C (wW g) Q z.1 25 [(0, .ref (gA g 87)), (1, .int x1), (2, .int x2), (3, .int z.2)] []) (hf : m_X10_divides_b84 σ x1 x2 x3 s0 s1 k4 k25 = some o) : Xs C (wW g) Q σ 84 [(0, .ref (gA g 87)), (1, .int x1), (2, .int x2), (3, .int x3)] [.int s0, .int s1, .ref (gA g 109)] := by
  unfold m_X10_divides_b84 at hf
  obtain ⟨hi1, hf2⟩ := chk_inv hf
  refine x_iast (j := (Int32.toNatClampNeg s1)) h hg a_109 hi1 rfl dX10_divides_84 (q := 85) rfl ?_
  refine x_iinc (v := (x3 + 1)) (lv' := [(3, .int (x3 + 1)), (0, .ref (gA g 87)), (1, .int x1), (2, .int x2)]) (j := 3) h dX10_divides_85 rfl rfl hL (by decide) rfl (q := 88) rfl ?_
  refine x_goto (q := 25) h dX10_divides_88 (by decide) ?_
  refine x_sub (lv' := [(0, .ref (gA g 87)), (1, .int x1), (2, .int x2), (3, .int (x3 + 1))]) [1, 2, 3, 0] rfl ?_
  exact hk25 ((up σ 109 (Int32.toNatClampNeg s1) s0), (x3 + 1)) hf2
def m_X10_divides_b78 (σ : St) (x1 : Int32) (x2 : Int32) (x3 : Int32) (s0 : Int32) (k4 : (St × Int32 × Int32) → Option (Int32 × St)) (k25 : (St × Int32) → Option (Int32 × St)) : Option (Int32 × St) :=
  chk x2 12 <|
  m_X10_divides_b84 σ x1 x2 x3 (σ 109 (Int32.toNatClampNeg x2)) s0 k4 k25
set_option maxHeartbeats 4000000 in
set_option maxRecDepth 100000 in
theorem w_X10_divides_b78 {C : XC} {Q : State → Prop} {g : cG} (σ : St) (x1 : Int32) (x2 : Int32) (x3 : Int32) (s0 : Int32) (o : Int32 × St) (h : XOk C cX10_divides RX10 tG rmX10_divides) (hg : XG C g) (hL : C.2.2.2.2.2.2.2.2.2.2.2.2.1 = 5) (hr : XEnd C (some .int) Q (XQ g (some (.int o.1)) o.2) (cA g)) (k4 : (St × Int32 × Int32) → Option (Int32 × St)) (k25 : (St × Int32) → Option (Int32 × St)) (hk4 : ∀ z : St × Int32 × Int32, k4 z = some o → Xs C (wW g) Q z.1 4 [(0, .ref (gA g 87)), (1, .int z.2.1), (2, .int z.2.2)] []) (hk25 : ∀ z : St × Int32, k25 z = some o → Xs C (wW g) Q z.1 25 [(0, .ref (gA g 87)), (1, .int x1), (2, .int x2), (3, .int z.2)] []) (hf : m_X10_divides_b78 σ x1 x2 x3 s0 k4 k25 = some o) : Xs C (wW g) Q σ 78 [(0, .ref (gA g 87)), (1, .int x1), (2, .int x2), (3, .int x3)] [.int s0, .ref (gA g 109)] := by
  unfold m_X10_divides_b78 at hf
  refine x_aload_n h dX10_divides_78 rfl 0 rfl (q := 79) rfl ?_
  refine x_get_X10_87_32 h hg kf_X10_73 nn_X10 dX10_divides_79 ?_
  refine x_iload_n h dX10_divides_82 rfl 2 rfl (q := 83) rfl ?_
  obtain ⟨hi1, hf2⟩ := chk_inv hf
  refine x_iald (j := (Int32.toNatClampNeg x2)) h hg a_109 hi1 rfl dX10_divides_83 (q := 84) rfl ?_
  exact w_X10_divides_b84 σ x1 x2 x3 (σ 109 (Int32.toNatClampNeg x2)) s0 o h hg hL hr k4 k25 hk4 hk25 hf2
def m_X10_divides_b134 (σ : St) (x1 : Int32) (x2 : Int32) (s0 : Int32) (s1 : Int32) (k4 : (St × Int32 × Int32) → Option (Int32 × St)) : Option (Int32 × St) :=
  chk s1 12 <|
  k4 ((up σ 109 (Int32.toNatClampNeg s1) s0), x1, (x2 + 1))
set_option maxHeartbeats 4000000 in
set_option maxRecDepth 100000 in
theorem w_X10_divides_b134 {C : XC} {Q : State → Prop} {g : cG} (σ : St) (x1 : Int32) (x2 : Int32) (s0 : Int32) (s1 : Int32) (o : Int32 × St) (h : XOk C cX10_divides RX10 tG rmX10_divides) (hg : XG C g) (hL : C.2.2.2.2.2.2.2.2.2.2.2.2.1 = 5) (hr : XEnd C (some .int) Q (XQ g (some (.int o.1)) o.2) (cA g)) (k4 : (St × Int32 × Int32) → Option (Int32 × St)) (hk4 : ∀ z : St × Int32 × Int32, k4 z = some o → Xs C (wW g) Q z.1 4 [(0, .ref (gA g 87)), (1, .int z.2.1), (2, .int z.2.2)] []) (hf : m_X10_divides_b134 σ x1 x2 s0 s1 k4 = some o) : Xs C (wW g) Q σ 134 [(0, .ref (gA g 87)), (1, .int x1), (2, .int x2)] [.int s0, .int s1, .ref (gA g 109)] := by
  unfold m_X10_divides_b134 at hf
  obtain ⟨hi1, hf2⟩ := chk_inv hf
  refine x_iast (j := (Int32.toNatClampNeg s1)) h hg a_109 hi1 rfl dX10_divides_134 (q := 135) rfl ?_
  refine x_iinc (v := (x2 + 1)) (lv' := [(2, .int (x2 + 1)), (0, .ref (gA g 87)), (1, .int x1)]) (j := 2) h dX10_divides_135 rfl rfl hL (by decide) rfl (q := 138) rfl ?_
  refine x_goto (q := 4) h dX10_divides_138 (by decide) ?_
  refine x_sub (lv' := [(0, .ref (gA g 87)), (1, .int x1), (2, .int (x2 + 1))]) [1, 2, 0] rfl ?_
  exact hk4 ((up σ 109 (Int32.toNatClampNeg s1) s0), x1, (x2 + 1)) hf2
def m_X10_divides_b106 (σ : St) (x2 : Int32) (s0 : Int32) (s1 : Int32) (k4 : (St × Int32 × Int32) → Option (Int32 × St)) : Option (Int32 × St) :=
  chk x2 12 <|
  if 0 ≤ (σ 109 (Int32.toNatClampNeg x2)) then (
    chk x2 12 <|
    m_X10_divides_b134 σ (s1 + s0) x2 (σ 109 (Int32.toNatClampNeg x2)) x2 k4
  ) else (
    m_X10_divides_b134 σ (s1 + s0) x2 ((s1 + s0) - 1) x2 k4
  )
set_option maxHeartbeats 4000000 in
set_option maxRecDepth 100000 in
theorem w_X10_divides_b106 {C : XC} {Q : State → Prop} {g : cG} (σ : St) (x2 : Int32) (s0 : Int32) (s1 : Int32) (o : Int32 × St) (h : XOk C cX10_divides RX10 tG rmX10_divides) (hg : XG C g) (hL : C.2.2.2.2.2.2.2.2.2.2.2.2.1 = 5) (hr : XEnd C (some .int) Q (XQ g (some (.int o.1)) o.2) (cA g)) (k4 : (St × Int32 × Int32) → Option (Int32 × St)) (hk4 : ∀ z : St × Int32 × Int32, k4 z = some o → Xs C (wW g) Q z.1 4 [(0, .ref (gA g 87)), (1, .int z.2.1), (2, .int z.2.2)] []) (hf : m_X10_divides_b106 σ x2 s0 s1 k4 = some o) : Xs C (wW g) Q σ 106 [(0, .ref (gA g 87)), (2, .int x2)] [.int s0, .int s1] := by
  unfold m_X10_divides_b106 at hf
  refine x_iadd h dX10_divides_106 (q := 107) rfl ?_
  refine x_istore_n (lv' := [(1, .int (s1 + s0)), (0, .ref (gA g 87)), (2, .int x2)]) h dX10_divides_107 rfl hL (by decide) rfl (q := 108) rfl ?_
  refine x_aload_n h dX10_divides_108 rfl 1 rfl (q := 109) rfl ?_
  refine x_get_X10_87_32 h hg kf_X10_73 nn_X10 dX10_divides_109 ?_
  refine x_iload_n h dX10_divides_112 rfl 2 rfl (q := 113) rfl ?_
  refine x_aload_n h dX10_divides_113 rfl 1 rfl (q := 114) rfl ?_
  refine x_get_X10_87_32 h hg kf_X10_73 nn_X10 dX10_divides_114 ?_
  refine x_iload_n h dX10_divides_117 rfl 2 rfl (q := 118) rfl ?_
  obtain ⟨hi1, hf2⟩ := chk_inv hf
  refine x_iald (j := (Int32.toNatClampNeg x2)) h hg a_109 hi1 rfl dX10_divides_118 (q := 119) rfl ?_
  refine x_if_ge (tgt := 128) h dX10_divides_119 (by decide) (q := 122) rfl hf2 (fun hc3 hf4 => ?_) (fun hc3 hf4 => ?_)
  · skip
    refine x_aload_n h dX10_divides_128 rfl 1 rfl (q := 129) rfl ?_
    refine x_get_X10_87_32 h hg kf_X10_73 nn_X10 dX10_divides_129 ?_
    refine x_iload_n h dX10_divides_132 rfl 2 rfl (q := 133) rfl ?_
    obtain ⟨hi5, hf6⟩ := chk_inv hf4
    refine x_iald (j := (Int32.toNatClampNeg x2)) h hg a_109 hi5 rfl dX10_divides_133 (q := 134) rfl ?_
    refine x_sub (lv' := [(0, .ref (gA g 87)), (1, .int (s1 + s0)), (2, .int x2)]) [1, 0, 2] rfl ?_
    exact w_X10_divides_b134 σ (s1 + s0) x2 (σ 109 (Int32.toNatClampNeg x2)) x2 o h hg hL hr k4 hk4 hf6
  · skip
    refine x_iload_n h dX10_divides_122 rfl 0 rfl (q := 123) rfl ?_
    refine x_iconst (v := 1) h dX10_divides_123 (by decide) (q := 124) rfl ?_
    refine x_isub h dX10_divides_124 (q := 125) rfl ?_
    refine x_goto (q := 134) h dX10_divides_125 (by decide) ?_
    refine x_sub (lv' := [(0, .ref (gA g 87)), (1, .int (s1 + s0)), (2, .int x2)]) [1, 0, 2] rfl ?_
    exact w_X10_divides_b134 σ (s1 + s0) x2 ((s1 + s0) - 1) x2 o h hg hL hr k4 hk4 hf4
def m_X10_divides_b25 (σ : St) (x1 : Int32) (x2 : Int32) (x3 : Int32) (k4 : (St × Int32 × Int32) → Option (Int32 × St)) (k25 : (St × Int32) → Option (Int32 × St)) : Option (Int32 × St) :=
  if x2 ≤ x3 then (
    chk x2 12 <|
    if 0 ≤ (σ 109 (Int32.toNatClampNeg x2)) then (
      m_X10_divides_b106 σ x2 0 x1 k4
    ) else (
      m_X10_divides_b106 σ x2 1 x1 k4
    )
  ) else (
    chk x2 12 <|
    if 0 ≤ (σ 109 (Int32.toNatClampNeg x2)) then (
      m_X10_divides_b78 σ x1 x2 x3 x2 k4 k25
    ) else (
      chk ((100 * x2) + 0) 1201 <|
      chk ((100 * x3) + 0) 1201 <|
      if (σ 88 (Int32.toNatClampNeg ((100 * x2) + 0))) = (σ 88 (Int32.toNatClampNeg ((100 * x3) + 0))) then (
        chk x3 12 <|
        m_X10_divides_b84 σ x1 x2 x3 (σ 109 (Int32.toNatClampNeg x3)) x2 k4 k25
      ) else (
        m_X10_divides_b78 σ x1 x2 x3 x2 k4 k25
      )
    )
  )
set_option maxHeartbeats 4000000 in
set_option maxRecDepth 100000 in
theorem w_X10_divides_b25 {C : XC} {Q : State → Prop} {g : cG} (σ : St) (x1 : Int32) (x2 : Int32) (x3 : Int32) (o : Int32 × St) (h : XOk C cX10_divides RX10 tG rmX10_divides) (hg : XG C g) (hL : C.2.2.2.2.2.2.2.2.2.2.2.2.1 = 5) (hr : XEnd C (some .int) Q (XQ g (some (.int o.1)) o.2) (cA g)) (k4 : (St × Int32 × Int32) → Option (Int32 × St)) (k25 : (St × Int32) → Option (Int32 × St)) (hk4 : ∀ z : St × Int32 × Int32, k4 z = some o → Xs C (wW g) Q z.1 4 [(0, .ref (gA g 87)), (1, .int z.2.1), (2, .int z.2.2)] []) (hk25 : ∀ z : St × Int32, k25 z = some o → Xs C (wW g) Q z.1 25 [(0, .ref (gA g 87)), (1, .int x1), (2, .int x2), (3, .int z.2)] []) (hf : m_X10_divides_b25 σ x1 x2 x3 k4 k25 = some o) : Xs C (wW g) Q σ 25 [(0, .ref (gA g 87)), (1, .int x1), (2, .int x2), (3, .int x3)] [] := by
  unfold m_X10_divides_b25 at hf
  refine x_iload_n h dX10_divides_25 rfl 3 rfl (q := 26) rfl ?_
  refine x_iload_n h dX10_divides_26 rfl 2 rfl (q := 27) rfl ?_
  refine x_icmp_ge (tgt := 91) h dX10_divides_27 (by decide) (q := 30) rfl hf (fun hc1 hf2 => ?_) (fun hc1 hf2 => ?_)
  · skip
    refine x_iload_n h dX10_divides_91 rfl 1 rfl (q := 92) rfl ?_
    refine x_aload_n h dX10_divides_92 rfl 0 rfl (q := 93) rfl ?_
    refine x_get_X10_87_32 h hg kf_X10_73 nn_X10 dX10_divides_93 ?_
    refine x_iload_n h dX10_divides_96 rfl 2 rfl (q := 97) rfl ?_
    obtain ⟨hi3, hf4⟩ := chk_inv hf2
    refine x_iald (j := (Int32.toNatClampNeg x2)) h hg a_109 hi3 rfl dX10_divides_97 (q := 98) rfl ?_
    refine x_if_ge (tgt := 105) h dX10_divides_98 (by decide) (q := 101) rfl hf4 (fun hc5 hf6 => ?_) (fun hc5 hf6 => ?_)
    · skip
      refine x_iconst (v := 0) h dX10_divides_105 (by decide) (q := 106) rfl ?_
      refine x_sub (lv' := [(0, .ref (gA g 87)), (2, .int x2)]) [0, 2] rfl ?_
      exact w_X10_divides_b106 σ x2 0 x1 o h hg hL hr k4 hk4 hf6
    · skip
      refine x_iconst (v := 1) h dX10_divides_101 (by decide) (q := 102) rfl ?_
      refine x_goto (q := 106) h dX10_divides_102 (by decide) ?_
      refine x_sub (lv' := [(0, .ref (gA g 87)), (2, .int x2)]) [0, 2] rfl ?_
      exact w_X10_divides_b106 σ x2 1 x1 o h hg hL hr k4 hk4 hf6
  · skip
    refine x_aload_n h dX10_divides_30 rfl 0 rfl (q := 31) rfl ?_
    refine x_get_X10_87_32 h hg kf_X10_73 nn_X10 dX10_divides_31 ?_
    refine x_iload_n h dX10_divides_34 rfl 2 rfl (q := 35) rfl ?_
    refine x_aload_n h dX10_divides_35 rfl 0 rfl (q := 36) rfl ?_
    refine x_get_X10_87_32 h hg kf_X10_73 nn_X10 dX10_divides_36 ?_
    refine x_iload_n h dX10_divides_39 rfl 2 rfl (q := 40) rfl ?_
    obtain ⟨hi7, hf8⟩ := chk_inv hf2
    refine x_iald (j := (Int32.toNatClampNeg x2)) h hg a_109 hi7 rfl dX10_divides_40 (q := 41) rfl ?_
    refine x_if_ge (tgt := 78) h dX10_divides_41 (by decide) (q := 44) rfl hf8 (fun hc9 hf10 => ?_) (fun hc9 hf10 => ?_)
    · skip
      exact w_X10_divides_b78 σ x1 x2 x3 x2 o h hg hL hr k4 k25 hk4 hk25 hf10
    · skip
      refine x_aload_n h dX10_divides_44 rfl 0 rfl (q := 45) rfl ?_
      refine x_get_X10_87_1 h hg kf_X10_7 nn_X10 dX10_divides_45 ?_
      refine x_bipush (v := 100) h dX10_divides_48 (by decide) (q := 50) rfl ?_
      refine x_iload_n h dX10_divides_50 rfl 2 rfl (q := 51) rfl ?_
      refine x_imul h dX10_divides_51 (q := 52) rfl ?_
      refine x_iconst (v := 0) h dX10_divides_52 (by decide) (q := 53) rfl ?_
      refine x_iadd h dX10_divides_53 (q := 54) rfl ?_
      obtain ⟨hi11, hf12⟩ := chk_inv hf10
      refine x_iald (j := (Int32.toNatClampNeg ((100 * x2) + 0))) h hg a_88 hi11 rfl dX10_divides_54 (q := 55) rfl ?_
      refine x_aload_n h dX10_divides_55 rfl 0 rfl (q := 56) rfl ?_
      refine x_get_X10_87_1 h hg kf_X10_7 nn_X10 dX10_divides_56 ?_
      refine x_bipush (v := 100) h dX10_divides_59 (by decide) (q := 61) rfl ?_
      refine x_iload_n h dX10_divides_61 rfl 3 rfl (q := 62) rfl ?_
      refine x_imul h dX10_divides_62 (q := 63) rfl ?_
      refine x_iconst (v := 0) h dX10_divides_63 (by decide) (q := 64) rfl ?_
      refine x_iadd h dX10_divides_64 (q := 65) rfl ?_
      obtain ⟨hi13, hf14⟩ := chk_inv hf12
      refine x_iald (j := (Int32.toNatClampNeg ((100 * x3) + 0))) h hg a_88 hi13 rfl dX10_divides_65 (q := 66) rfl ?_
      refine x_icmp_ne (tgt := 78) h dX10_divides_66 (by decide) (q := 69) rfl hf14 (fun hc15 hf16 => ?_) (fun hc15 hf16 => ?_)
      · skip
        exact w_X10_divides_b78 σ x1 x2 x3 x2 o h hg hL hr k4 k25 hk4 hk25 hf16
      · skip
        refine x_aload_n h dX10_divides_69 rfl 0 rfl (q := 70) rfl ?_
        refine x_get_X10_87_32 h hg kf_X10_73 nn_X10 dX10_divides_70 ?_
        refine x_iload_n h dX10_divides_73 rfl 3 rfl (q := 74) rfl ?_
        obtain ⟨hi17, hf18⟩ := chk_inv hf16
        refine x_iald (j := (Int32.toNatClampNeg x3)) h hg a_109 hi17 rfl dX10_divides_74 (q := 75) rfl ?_
        refine x_goto (q := 84) h dX10_divides_75 (by decide) ?_
        exact w_X10_divides_b84 σ x1 x2 x3 (σ 109 (Int32.toNatClampNeg x3)) x2 o h hg hL hr k4 k25 hk4 hk25 hf18
set_option maxHeartbeats 4000000 in
set_option maxRecDepth 100000 in
theorem w_X10_divides_l25 {C : XC} {Q : State → Prop} {g : cG} (x1 : Int32) (x2 : Int32) (o : Int32 × St) (h : XOk C cX10_divides RX10 tG rmX10_divides) (hg : XG C g) (hL : C.2.2.2.2.2.2.2.2.2.2.2.2.1 = 5) (hr : XEnd C (some .int) Q (XQ g (some (.int o.1)) o.2) (cA g)) (k4 : (St × Int32 × Int32) → Option (Int32 × St)) (hk4 : ∀ z : St × Int32 × Int32, k4 z = some o → Xs C (wW g) Q z.1 4 [(0, .ref (gA g 87)), (1, .int z.2.1), (2, .int z.2.2)] []) : ∀ (n : Nat) (z : St × Int32), loopF (fun k z => m_X10_divides_b25 z.1 x1 x2 z.2 k4 k) n z = some o → Xs C (wW g) Q z.1 25 [(0, .ref (gA g 87)), (1, .int x1), (2, .int x2), (3, .int z.2)] [] := by
  intro n z hf
  refine loopF_ind (S := St × Int32) (O := Int32 × St) (step := (fun k z => m_X10_divides_b25 z.1 x1 x2 z.2 k4 k)) (o := o) (P := fun z => Xs C (wW g) Q z.1 25 [(0, .ref (gA g 87)), (1, .int x1), (2, .int x2), (3, .int z.2)] []) ?_ n z hf
  intro k hk z hf
  exact w_X10_divides_b25 z.1 x1 x2 z.2 o h hg hL hr k4 k hk4 hk hf
def m_X10_divides_b232 (σ : St) (x1 : Int32) (x2 : Int32) (x3 : Int32) (x4 : Int32) (s0 : Int32) (s1 : Int32) (k154 : (St × Int32 × Int32) → Option (Int32 × St)) (k169 : (St × Int32 × Int32) → Option (Int32 × St)) (k191 : (St × Int32) → Option (Int32 × St)) : Option (Int32 × St) :=
  chk s1 12 <|
  k191 ((up σ 110 (Int32.toNatClampNeg s1) s0), (x4 + 1))
set_option maxHeartbeats 4000000 in
set_option maxRecDepth 100000 in
theorem w_X10_divides_b232 {C : XC} {Q : State → Prop} {g : cG} (σ : St) (x1 : Int32) (x2 : Int32) (x3 : Int32) (x4 : Int32) (s0 : Int32) (s1 : Int32) (o : Int32 × St) (h : XOk C cX10_divides RX10 tG rmX10_divides) (hg : XG C g) (hL : C.2.2.2.2.2.2.2.2.2.2.2.2.1 = 5) (hr : XEnd C (some .int) Q (XQ g (some (.int o.1)) o.2) (cA g)) (k154 : (St × Int32 × Int32) → Option (Int32 × St)) (k169 : (St × Int32 × Int32) → Option (Int32 × St)) (k191 : (St × Int32) → Option (Int32 × St)) (hk154 : ∀ z : St × Int32 × Int32, k154 z = some o → Xs C (wW g) Q z.1 154 [(0, .ref (gA g 87)), (1, .int z.2.1), (2, .int z.2.2)] []) (hk169 : ∀ z : St × Int32 × Int32, k169 z = some o → Xs C (wW g) Q z.1 169 [(0, .ref (gA g 87)), (1, .int z.2.1), (2, .int x2), (3, .int z.2.2)] []) (hk191 : ∀ z : St × Int32, k191 z = some o → Xs C (wW g) Q z.1 191 [(0, .ref (gA g 87)), (1, .int x1), (2, .int x2), (3, .int x3), (4, .int z.2)] []) (hf : m_X10_divides_b232 σ x1 x2 x3 x4 s0 s1 k154 k169 k191 = some o) : Xs C (wW g) Q σ 232 [(0, .ref (gA g 87)), (1, .int x1), (2, .int x2), (3, .int x3), (4, .int x4)] [.int s0, .int s1, .ref (gA g 110)] := by
  unfold m_X10_divides_b232 at hf
  obtain ⟨hi1, hf2⟩ := chk_inv hf
  refine x_iast (j := (Int32.toNatClampNeg s1)) h hg a_110 hi1 rfl dX10_divides_232 (q := 233) rfl ?_
  refine x_iinc (v := (x4 + 1)) (lv' := [(4, .int (x4 + 1)), (0, .ref (gA g 87)), (1, .int x1), (2, .int x2), (3, .int x3)]) (j := 4) h dX10_divides_233 rfl rfl hL (by decide) rfl (q := 236) rfl ?_
  refine x_goto (q := 191) h dX10_divides_236 (by decide) ?_
  refine x_sub (lv' := [(0, .ref (gA g 87)), (1, .int x1), (2, .int x2), (3, .int x3), (4, .int (x4 + 1))]) [1, 2, 3, 4, 0] rfl ?_
  exact hk191 ((up σ 110 (Int32.toNatClampNeg s1) s0), (x4 + 1)) hf2
def m_X10_divides_b282 (σ : St) (x1 : Int32) (x2 : Int32) (x3 : Int32) (s0 : Int32) (s1 : Int32) (k154 : (St × Int32 × Int32) → Option (Int32 × St)) (k169 : (St × Int32 × Int32) → Option (Int32 × St)) : Option (Int32 × St) :=
  chk s1 12 <|
  k169 ((up σ 110 (Int32.toNatClampNeg s1) s0), x1, (x3 + 1))
set_option maxHeartbeats 4000000 in
set_option maxRecDepth 100000 in
theorem w_X10_divides_b282 {C : XC} {Q : State → Prop} {g : cG} (σ : St) (x1 : Int32) (x2 : Int32) (x3 : Int32) (s0 : Int32) (s1 : Int32) (o : Int32 × St) (h : XOk C cX10_divides RX10 tG rmX10_divides) (hg : XG C g) (hL : C.2.2.2.2.2.2.2.2.2.2.2.2.1 = 5) (hr : XEnd C (some .int) Q (XQ g (some (.int o.1)) o.2) (cA g)) (k154 : (St × Int32 × Int32) → Option (Int32 × St)) (k169 : (St × Int32 × Int32) → Option (Int32 × St)) (hk154 : ∀ z : St × Int32 × Int32, k154 z = some o → Xs C (wW g) Q z.1 154 [(0, .ref (gA g 87)), (1, .int z.2.1), (2, .int z.2.2)] []) (hk169 : ∀ z : St × Int32 × Int32, k169 z = some o → Xs C (wW g) Q z.1 169 [(0, .ref (gA g 87)), (1, .int z.2.1), (2, .int x2), (3, .int z.2.2)] []) (hf : m_X10_divides_b282 σ x1 x2 x3 s0 s1 k154 k169 = some o) : Xs C (wW g) Q σ 282 [(0, .ref (gA g 87)), (1, .int x1), (2, .int x2), (3, .int x3)] [.int s0, .int s1, .ref (gA g 110)] := by
  unfold m_X10_divides_b282 at hf
  obtain ⟨hi1, hf2⟩ := chk_inv hf
  refine x_iast (j := (Int32.toNatClampNeg s1)) h hg a_110 hi1 rfl dX10_divides_282 (q := 283) rfl ?_
  refine x_iinc (v := (x3 + 1)) (lv' := [(3, .int (x3 + 1)), (0, .ref (gA g 87)), (1, .int x1), (2, .int x2)]) (j := 3) h dX10_divides_283 rfl rfl hL (by decide) rfl (q := 286) rfl ?_
  refine x_goto (q := 169) h dX10_divides_286 (by decide) ?_
  refine x_sub (lv' := [(0, .ref (gA g 87)), (1, .int x1), (2, .int x2), (3, .int (x3 + 1))]) [1, 2, 3, 0] rfl ?_
  exact hk169 ((up σ 110 (Int32.toNatClampNeg s1) s0), x1, (x3 + 1)) hf2
def m_X10_divides_b254 (σ : St) (x2 : Int32) (x3 : Int32) (s0 : Int32) (s1 : Int32) (k154 : (St × Int32 × Int32) → Option (Int32 × St)) (k169 : (St × Int32 × Int32) → Option (Int32 × St)) : Option (Int32 × St) :=
  chk x3 12 <|
  if 0 ≤ (σ 110 (Int32.toNatClampNeg x3)) then (
    chk x3 12 <|
    m_X10_divides_b282 σ (s1 + s0) x2 x3 (σ 110 (Int32.toNatClampNeg x3)) x3 k154 k169
  ) else (
    m_X10_divides_b282 σ (s1 + s0) x2 x3 ((s1 + s0) - 1) x3 k154 k169
  )
set_option maxHeartbeats 4000000 in
set_option maxRecDepth 100000 in
theorem w_X10_divides_b254 {C : XC} {Q : State → Prop} {g : cG} (σ : St) (x2 : Int32) (x3 : Int32) (s0 : Int32) (s1 : Int32) (o : Int32 × St) (h : XOk C cX10_divides RX10 tG rmX10_divides) (hg : XG C g) (hL : C.2.2.2.2.2.2.2.2.2.2.2.2.1 = 5) (hr : XEnd C (some .int) Q (XQ g (some (.int o.1)) o.2) (cA g)) (k154 : (St × Int32 × Int32) → Option (Int32 × St)) (k169 : (St × Int32 × Int32) → Option (Int32 × St)) (hk154 : ∀ z : St × Int32 × Int32, k154 z = some o → Xs C (wW g) Q z.1 154 [(0, .ref (gA g 87)), (1, .int z.2.1), (2, .int z.2.2)] []) (hk169 : ∀ z : St × Int32 × Int32, k169 z = some o → Xs C (wW g) Q z.1 169 [(0, .ref (gA g 87)), (1, .int z.2.1), (2, .int x2), (3, .int z.2.2)] []) (hf : m_X10_divides_b254 σ x2 x3 s0 s1 k154 k169 = some o) : Xs C (wW g) Q σ 254 [(0, .ref (gA g 87)), (2, .int x2), (3, .int x3)] [.int s0, .int s1] := by
  unfold m_X10_divides_b254 at hf
  refine x_iadd h dX10_divides_254 (q := 255) rfl ?_
  refine x_istore_n (lv' := [(1, .int (s1 + s0)), (0, .ref (gA g 87)), (2, .int x2), (3, .int x3)]) h dX10_divides_255 rfl hL (by decide) rfl (q := 256) rfl ?_
  refine x_aload_n h dX10_divides_256 rfl 1 rfl (q := 257) rfl ?_
  refine x_get_X10_87_33 h hg kf_X10_76 nn_X10 dX10_divides_257 ?_
  refine x_iload_n h dX10_divides_260 rfl 3 rfl (q := 261) rfl ?_
  refine x_aload_n h dX10_divides_261 rfl 1 rfl (q := 262) rfl ?_
  refine x_get_X10_87_33 h hg kf_X10_76 nn_X10 dX10_divides_262 ?_
  refine x_iload_n h dX10_divides_265 rfl 3 rfl (q := 266) rfl ?_
  obtain ⟨hi1, hf2⟩ := chk_inv hf
  refine x_iald (j := (Int32.toNatClampNeg x3)) h hg a_110 hi1 rfl dX10_divides_266 (q := 267) rfl ?_
  refine x_if_ge (tgt := 276) h dX10_divides_267 (by decide) (q := 270) rfl hf2 (fun hc3 hf4 => ?_) (fun hc3 hf4 => ?_)
  · skip
    refine x_aload_n h dX10_divides_276 rfl 1 rfl (q := 277) rfl ?_
    refine x_get_X10_87_33 h hg kf_X10_76 nn_X10 dX10_divides_277 ?_
    refine x_iload_n h dX10_divides_280 rfl 3 rfl (q := 281) rfl ?_
    obtain ⟨hi5, hf6⟩ := chk_inv hf4
    refine x_iald (j := (Int32.toNatClampNeg x3)) h hg a_110 hi5 rfl dX10_divides_281 (q := 282) rfl ?_
    refine x_sub (lv' := [(0, .ref (gA g 87)), (1, .int (s1 + s0)), (2, .int x2), (3, .int x3)]) [1, 0, 2, 3] rfl ?_
    exact w_X10_divides_b282 σ (s1 + s0) x2 x3 (σ 110 (Int32.toNatClampNeg x3)) x3 o h hg hL hr k154 k169 hk154 hk169 hf6
  · skip
    refine x_iload_n h dX10_divides_270 rfl 0 rfl (q := 271) rfl ?_
    refine x_iconst (v := 1) h dX10_divides_271 (by decide) (q := 272) rfl ?_
    refine x_isub h dX10_divides_272 (q := 273) rfl ?_
    refine x_goto (q := 282) h dX10_divides_273 (by decide) ?_
    refine x_sub (lv' := [(0, .ref (gA g 87)), (1, .int (s1 + s0)), (2, .int x2), (3, .int x3)]) [1, 0, 2, 3] rfl ?_
    exact w_X10_divides_b282 σ (s1 + s0) x2 x3 ((s1 + s0) - 1) x3 o h hg hL hr k154 k169 hk154 hk169 hf4
def m_X10_divides_b239 (σ : St) (x1 : Int32) (x2 : Int32) (x3 : Int32) (k154 : (St × Int32 × Int32) → Option (Int32 × St)) (k169 : (St × Int32 × Int32) → Option (Int32 × St)) : Option (Int32 × St) :=
  chk x3 12 <|
  if 0 ≤ (σ 110 (Int32.toNatClampNeg x3)) then (
    m_X10_divides_b254 σ x2 x3 0 x1 k154 k169
  ) else (
    m_X10_divides_b254 σ x2 x3 1 x1 k154 k169
  )
set_option maxHeartbeats 4000000 in
set_option maxRecDepth 100000 in
theorem w_X10_divides_b239 {C : XC} {Q : State → Prop} {g : cG} (σ : St) (x1 : Int32) (x2 : Int32) (x3 : Int32) (o : Int32 × St) (h : XOk C cX10_divides RX10 tG rmX10_divides) (hg : XG C g) (hL : C.2.2.2.2.2.2.2.2.2.2.2.2.1 = 5) (hr : XEnd C (some .int) Q (XQ g (some (.int o.1)) o.2) (cA g)) (k154 : (St × Int32 × Int32) → Option (Int32 × St)) (k169 : (St × Int32 × Int32) → Option (Int32 × St)) (hk154 : ∀ z : St × Int32 × Int32, k154 z = some o → Xs C (wW g) Q z.1 154 [(0, .ref (gA g 87)), (1, .int z.2.1), (2, .int z.2.2)] []) (hk169 : ∀ z : St × Int32 × Int32, k169 z = some o → Xs C (wW g) Q z.1 169 [(0, .ref (gA g 87)), (1, .int z.2.1), (2, .int x2), (3, .int z.2.2)] []) (hf : m_X10_divides_b239 σ x1 x2 x3 k154 k169 = some o) : Xs C (wW g) Q σ 239 [(0, .ref (gA g 87)), (1, .int x1), (2, .int x2), (3, .int x3)] [] := by
  unfold m_X10_divides_b239 at hf
  refine x_iload_n h dX10_divides_239 rfl 1 rfl (q := 240) rfl ?_
  refine x_aload_n h dX10_divides_240 rfl 0 rfl (q := 241) rfl ?_
  refine x_get_X10_87_33 h hg kf_X10_76 nn_X10 dX10_divides_241 ?_
  refine x_iload_n h dX10_divides_244 rfl 3 rfl (q := 245) rfl ?_
  obtain ⟨hi1, hf2⟩ := chk_inv hf
  refine x_iald (j := (Int32.toNatClampNeg x3)) h hg a_110 hi1 rfl dX10_divides_245 (q := 246) rfl ?_
  refine x_if_ge (tgt := 253) h dX10_divides_246 (by decide) (q := 249) rfl hf2 (fun hc3 hf4 => ?_) (fun hc3 hf4 => ?_)
  · skip
    refine x_iconst (v := 0) h dX10_divides_253 (by decide) (q := 254) rfl ?_
    refine x_sub (lv' := [(0, .ref (gA g 87)), (2, .int x2), (3, .int x3)]) [0, 2, 3] rfl ?_
    exact w_X10_divides_b254 σ x2 x3 0 x1 o h hg hL hr k154 k169 hk154 hk169 hf4
  · skip
    refine x_iconst (v := 1) h dX10_divides_249 (by decide) (q := 250) rfl ?_
    refine x_goto (q := 254) h dX10_divides_250 (by decide) ?_
    refine x_sub (lv' := [(0, .ref (gA g 87)), (2, .int x2), (3, .int x3)]) [0, 2, 3] rfl ?_
    exact w_X10_divides_b254 σ x2 x3 1 x1 o h hg hL hr k154 k169 hk154 hk169 hf4
def m_X10_divides_b191 (σ : St) (x1 : Int32) (x2 : Int32) (x3 : Int32) (x4 : Int32) (k154 : (St × Int32 × Int32) → Option (Int32 × St)) (k169 : (St × Int32 × Int32) → Option (Int32 × St)) (k191 : (St × Int32) → Option (Int32 × St)) : Option (Int32 × St) :=
  if x3 ≤ x4 then (
    m_X10_divides_b239 σ x1 x2 x3 k154 k169
  ) else (
    chk x3 12 <|
    if 0 ≤ (σ 110 (Int32.toNatClampNeg x3)) then (
      m_X10_divides_b239 σ x1 x2 x3 k154 k169
    ) else (
      (m_X10_areAlike σ x3 x4).bind fun u7 =>
      if (bI u7) = 0 then (
        m_X10_divides_b232 σ x1 x2 x3 x4 (-1) x3 k154 k169 k191
      ) else (
        chk x4 12 <|
        m_X10_divides_b232 σ x1 x2 x3 x4 (σ 110 (Int32.toNatClampNeg x4)) x3 k154 k169 k191
      )
    )
  )
set_option maxHeartbeats 4000000 in
set_option maxRecDepth 100000 in
theorem w_X10_divides_b191 {C : XC} {Q : State → Prop} {g : cG} (σ : St) (x1 : Int32) (x2 : Int32) (x3 : Int32) (x4 : Int32) (o : Int32 × St) (h : XOk C cX10_divides RX10 tG rmX10_divides) (hg : XG C g) (hL : C.2.2.2.2.2.2.2.2.2.2.2.2.1 = 5) (hr : XEnd C (some .int) Q (XQ g (some (.int o.1)) o.2) (cA g)) (k154 : (St × Int32 × Int32) → Option (Int32 × St)) (k169 : (St × Int32 × Int32) → Option (Int32 × St)) (k191 : (St × Int32) → Option (Int32 × St)) (hk154 : ∀ z : St × Int32 × Int32, k154 z = some o → Xs C (wW g) Q z.1 154 [(0, .ref (gA g 87)), (1, .int z.2.1), (2, .int z.2.2)] []) (hk169 : ∀ z : St × Int32 × Int32, k169 z = some o → Xs C (wW g) Q z.1 169 [(0, .ref (gA g 87)), (1, .int z.2.1), (2, .int x2), (3, .int z.2.2)] []) (hk191 : ∀ z : St × Int32, k191 z = some o → Xs C (wW g) Q z.1 191 [(0, .ref (gA g 87)), (1, .int x1), (2, .int x2), (3, .int x3), (4, .int z.2)] []) (hf : m_X10_divides_b191 σ x1 x2 x3 x4 k154 k169 k191 = some o) : Xs C (wW g) Q σ 191 [(0, .ref (gA g 87)), (1, .int x1), (2, .int x2), (3, .int x3), (4, .int x4)] [] := by
  unfold m_X10_divides_b191 at hf
  refine x_iload h dX10_divides_191 4 rfl (q := 193) rfl ?_
  refine x_iload_n h dX10_divides_193 rfl 3 rfl (q := 194) rfl ?_
  refine x_icmp_ge (tgt := 239) h dX10_divides_194 (by decide) (q := 197) rfl hf (fun hc1 hf2 => ?_) (fun hc1 hf2 => ?_)
  · skip
    refine x_sub (lv' := [(0, .ref (gA g 87)), (1, .int x1), (2, .int x2), (3, .int x3)]) [0, 1, 2, 3] rfl ?_
    exact w_X10_divides_b239 σ x1 x2 x3 o h hg hL hr k154 k169 hk154 hk169 hf2
  · skip
    refine x_aload_n h dX10_divides_197 rfl 0 rfl (q := 198) rfl ?_
    refine x_get_X10_87_33 h hg kf_X10_76 nn_X10 dX10_divides_198 ?_
    refine x_iload_n h dX10_divides_201 rfl 3 rfl (q := 202) rfl ?_
    obtain ⟨hi3, hf4⟩ := chk_inv hf2
    refine x_iald (j := (Int32.toNatClampNeg x3)) h hg a_110 hi3 rfl dX10_divides_202 (q := 203) rfl ?_
    refine x_if_ge (tgt := 239) h dX10_divides_203 (by decide) (q := 206) rfl hf4 (fun hc5 hf6 => ?_) (fun hc5 hf6 => ?_)
    · skip
      refine x_sub (lv' := [(0, .ref (gA g 87)), (1, .int x1), (2, .int x2), (3, .int x3)]) [0, 1, 2, 3] rfl ?_
      exact w_X10_divides_b239 σ x1 x2 x3 o h hg hL hr k154 k169 hk154 hk169 hf6
    · skip
      refine x_aload_n h dX10_divides_206 rfl 0 rfl (q := 207) rfl ?_
      refine x_get_X10_87_33 h hg kf_X10_76 nn_X10 dX10_divides_207 ?_
      refine x_iload_n h dX10_divides_210 rfl 3 rfl (q := 211) rfl ?_
      refine x_aload_n h dX10_divides_211 rfl 0 rfl (q := 212) rfl ?_
      refine x_iload_n h dX10_divides_212 rfl 3 rfl (q := 213) rfl ?_
      refine x_iload h dX10_divides_213 4 rfl (q := 215) rfl ?_
      obtain ⟨u7, hu7, hf8⟩ := bnd_inv hf6
      refine x_callVi (As := [.int x3, .int x4]) (rest := [.int x3, .ref (gA g 110)]) h hg (c_X10_areAlike C.2.1 hg.2.1 σ x3 x4 _ hu7) ml_X10_287 biX10_areAlike rfl rfl hdX10_areAlike ⟨Nat.le_of_ble_eq_true rfl, Nat.le_of_ble_eq_true rfl⟩ (by decide) (cE_87 g _) rfl rfl rfl (Nat.le_of_ble_eq_true rfl) dX10_divides_215 ?_
      refine x_if_eq (tgt := 231) h dX10_divides_218 (by decide) (q := 221) rfl hf8 (fun hc9 hf10 => ?_) (fun hc9 hf10 => ?_)
      · skip
        refine x_iconst (v := (-1)) h dX10_divides_231 (by decide) (q := 232) rfl ?_
        exact w_X10_divides_b232 σ x1 x2 x3 x4 (-1) x3 o h hg hL hr k154 k169 k191 hk154 hk169 hk191 hf10
      · skip
        refine x_aload_n h dX10_divides_221 rfl 0 rfl (q := 222) rfl ?_
        refine x_get_X10_87_33 h hg kf_X10_76 nn_X10 dX10_divides_222 ?_
        refine x_iload h dX10_divides_225 4 rfl (q := 227) rfl ?_
        obtain ⟨hi11, hf12⟩ := chk_inv hf10
        refine x_iald (j := (Int32.toNatClampNeg x4)) h hg a_110 hi11 rfl dX10_divides_227 (q := 228) rfl ?_
        refine x_goto (q := 232) h dX10_divides_228 (by decide) ?_
        exact w_X10_divides_b232 σ x1 x2 x3 x4 (σ 110 (Int32.toNatClampNeg x4)) x3 o h hg hL hr k154 k169 k191 hk154 hk169 hk191 hf12
set_option maxHeartbeats 4000000 in
set_option maxRecDepth 100000 in
theorem w_X10_divides_l191 {C : XC} {Q : State → Prop} {g : cG} (x1 : Int32) (x2 : Int32) (x3 : Int32) (o : Int32 × St) (h : XOk C cX10_divides RX10 tG rmX10_divides) (hg : XG C g) (hL : C.2.2.2.2.2.2.2.2.2.2.2.2.1 = 5) (hr : XEnd C (some .int) Q (XQ g (some (.int o.1)) o.2) (cA g)) (k154 : (St × Int32 × Int32) → Option (Int32 × St)) (k169 : (St × Int32 × Int32) → Option (Int32 × St)) (hk154 : ∀ z : St × Int32 × Int32, k154 z = some o → Xs C (wW g) Q z.1 154 [(0, .ref (gA g 87)), (1, .int z.2.1), (2, .int z.2.2)] []) (hk169 : ∀ z : St × Int32 × Int32, k169 z = some o → Xs C (wW g) Q z.1 169 [(0, .ref (gA g 87)), (1, .int z.2.1), (2, .int x2), (3, .int z.2.2)] []) : ∀ (n : Nat) (z : St × Int32), loopF (fun k z => m_X10_divides_b191 z.1 x1 x2 x3 z.2 k154 k169 k) n z = some o → Xs C (wW g) Q z.1 191 [(0, .ref (gA g 87)), (1, .int x1), (2, .int x2), (3, .int x3), (4, .int z.2)] [] := by
  intro n z hf
  refine loopF_ind (S := St × Int32) (O := Int32 × St) (step := (fun k z => m_X10_divides_b191 z.1 x1 x2 x3 z.2 k154 k169 k)) (o := o) (P := fun z => Xs C (wW g) Q z.1 191 [(0, .ref (gA g 87)), (1, .int x1), (2, .int x2), (3, .int x3), (4, .int z.2)] []) ?_ n z hf
  intro k hk z hf
  exact w_X10_divides_b191 z.1 x1 x2 x3 z.2 o h hg hL hr k154 k169 k hk154 hk169 hk hf
def m_X10_divides_b291 (σ : St) (x1 : Int32) (x2 : Int32) (x3 : Int32) (k154 : (St × Int32 × Int32) → Option (Int32 × St)) (k291 : (St × Int32) → Option (Int32 × St)) : Option (Int32 × St) :=
  chk 1200 1201 <|
  if (σ 88 1200) ≤ x3 then (
    k154 (σ, x1, x2)
  ) else (
    chk x3 12 <|
    chk x3 12 <|
    k291 ((up σ 109 (Int32.toNatClampNeg x3) (σ 110 (Int32.toNatClampNeg x3))), (x3 + 1))
  )
set_option maxHeartbeats 4000000 in
set_option maxRecDepth 100000 in
theorem w_X10_divides_b291 {C : XC} {Q : State → Prop} {g : cG} (σ : St) (x1 : Int32) (x2 : Int32) (x3 : Int32) (o : Int32 × St) (h : XOk C cX10_divides RX10 tG rmX10_divides) (hg : XG C g) (hL : C.2.2.2.2.2.2.2.2.2.2.2.2.1 = 5) (hr : XEnd C (some .int) Q (XQ g (some (.int o.1)) o.2) (cA g)) (k154 : (St × Int32 × Int32) → Option (Int32 × St)) (k291 : (St × Int32) → Option (Int32 × St)) (hk154 : ∀ z : St × Int32 × Int32, k154 z = some o → Xs C (wW g) Q z.1 154 [(0, .ref (gA g 87)), (1, .int z.2.1), (2, .int z.2.2)] []) (hk291 : ∀ z : St × Int32, k291 z = some o → Xs C (wW g) Q z.1 291 [(0, .ref (gA g 87)), (1, .int x1), (2, .int x2), (3, .int z.2)] []) (hf : m_X10_divides_b291 σ x1 x2 x3 k154 k291 = some o) : Xs C (wW g) Q σ 291 [(0, .ref (gA g 87)), (1, .int x1), (2, .int x2), (3, .int x3)] [] := by
  unfold m_X10_divides_b291 at hf
  refine x_iload_n h dX10_divides_291 rfl 3 rfl (q := 292) rfl ?_
  refine x_aload_n h dX10_divides_292 rfl 0 rfl (q := 293) rfl ?_
  refine x_get_X10_87_1 h hg kf_X10_7 nn_X10 dX10_divides_293 ?_
  refine x_sipush (v := 1200) h dX10_divides_296 (by decide) (q := 299) rfl ?_
  obtain ⟨hi1, hf2⟩ := chk_inv hf
  refine x_iald (j := 1200) h hg a_88 hi1 (by decide) dX10_divides_299 (q := 300) rfl ?_
  refine x_icmp_ge (tgt := 321) h dX10_divides_300 (by decide) (q := 303) rfl hf2 (fun hc3 hf4 => ?_) (fun hc3 hf4 => ?_)
  · skip
    refine x_goto (q := 154) h dX10_divides_321 (by decide) ?_
    refine x_sub (lv' := [(0, .ref (gA g 87)), (1, .int x1), (2, .int x2)]) [0, 1, 2] rfl ?_
    exact hk154 (σ, x1, x2) hf4
  · skip
    refine x_aload_n h dX10_divides_303 rfl 0 rfl (q := 304) rfl ?_
    refine x_get_X10_87_32 h hg kf_X10_73 nn_X10 dX10_divides_304 ?_
    refine x_iload_n h dX10_divides_307 rfl 3 rfl (q := 308) rfl ?_
    refine x_aload_n h dX10_divides_308 rfl 0 rfl (q := 309) rfl ?_
    refine x_get_X10_87_33 h hg kf_X10_76 nn_X10 dX10_divides_309 ?_
    refine x_iload_n h dX10_divides_312 rfl 3 rfl (q := 313) rfl ?_
    obtain ⟨hi5, hf6⟩ := chk_inv hf4
    refine x_iald (j := (Int32.toNatClampNeg x3)) h hg a_110 hi5 rfl dX10_divides_313 (q := 314) rfl ?_
    obtain ⟨hi7, hf8⟩ := chk_inv hf6
    refine x_iast (j := (Int32.toNatClampNeg x3)) h hg a_109 hi7 rfl dX10_divides_314 (q := 315) rfl ?_
    refine x_iinc (v := (x3 + 1)) (lv' := [(3, .int (x3 + 1)), (0, .ref (gA g 87)), (1, .int x1), (2, .int x2)]) (j := 3) h dX10_divides_315 rfl rfl hL (by decide) rfl (q := 318) rfl ?_
    refine x_goto (q := 291) h dX10_divides_318 (by decide) ?_
    refine x_sub (lv' := [(0, .ref (gA g 87)), (1, .int x1), (2, .int x2), (3, .int (x3 + 1))]) [1, 2, 3, 0] rfl ?_
    exact hk291 ((up σ 109 (Int32.toNatClampNeg x3) (σ 110 (Int32.toNatClampNeg x3))), (x3 + 1)) hf8
set_option maxHeartbeats 4000000 in
set_option maxRecDepth 100000 in
theorem w_X10_divides_l291 {C : XC} {Q : State → Prop} {g : cG} (x1 : Int32) (x2 : Int32) (o : Int32 × St) (h : XOk C cX10_divides RX10 tG rmX10_divides) (hg : XG C g) (hL : C.2.2.2.2.2.2.2.2.2.2.2.2.1 = 5) (hr : XEnd C (some .int) Q (XQ g (some (.int o.1)) o.2) (cA g)) (k154 : (St × Int32 × Int32) → Option (Int32 × St)) (hk154 : ∀ z : St × Int32 × Int32, k154 z = some o → Xs C (wW g) Q z.1 154 [(0, .ref (gA g 87)), (1, .int z.2.1), (2, .int z.2.2)] []) : ∀ (n : Nat) (z : St × Int32), loopF (fun k z => m_X10_divides_b291 z.1 x1 x2 z.2 k154 k) n z = some o → Xs C (wW g) Q z.1 291 [(0, .ref (gA g 87)), (1, .int x1), (2, .int x2), (3, .int z.2)] [] := by
  intro n z hf
  refine loopF_ind (S := St × Int32) (O := Int32 × St) (step := (fun k z => m_X10_divides_b291 z.1 x1 x2 z.2 k154 k)) (o := o) (P := fun z => Xs C (wW g) Q z.1 291 [(0, .ref (gA g 87)), (1, .int x1), (2, .int x2), (3, .int z.2)] []) ?_ n z hf
  intro k hk z hf
  exact w_X10_divides_b291 z.1 x1 x2 z.2 o h hg hL hr k154 k hk154 hk hf
def m_X10_divides_b169 (σ : St) (x1 : Int32) (x2 : Int32) (x3 : Int32) (k154 : (St × Int32 × Int32) → Option (Int32 × St)) (k169 : (St × Int32 × Int32) → Option (Int32 × St)) : Option (Int32 × St) :=
  chk 1200 1201 <|
  if (σ 88 1200) ≤ x3 then (
    loopF (fun k z => m_X10_divides_b291 z.1 x1 x2 z.2 k154 k) cFu (σ, 0)
  ) else (
    chk x3 12 <|
    loopF (fun k z => m_X10_divides_b191 z.1 x1 x2 x3 z.2 k154 k169 k) cFu ((up σ 110 (Int32.toNatClampNeg x3) (-1)), 0)
  )
set_option maxHeartbeats 4000000 in
set_option maxRecDepth 100000 in
theorem w_X10_divides_b169 {C : XC} {Q : State → Prop} {g : cG} (σ : St) (x1 : Int32) (x2 : Int32) (x3 : Int32) (o : Int32 × St) (h : XOk C cX10_divides RX10 tG rmX10_divides) (hg : XG C g) (hL : C.2.2.2.2.2.2.2.2.2.2.2.2.1 = 5) (hr : XEnd C (some .int) Q (XQ g (some (.int o.1)) o.2) (cA g)) (k154 : (St × Int32 × Int32) → Option (Int32 × St)) (k169 : (St × Int32 × Int32) → Option (Int32 × St)) (hk154 : ∀ z : St × Int32 × Int32, k154 z = some o → Xs C (wW g) Q z.1 154 [(0, .ref (gA g 87)), (1, .int z.2.1), (2, .int z.2.2)] []) (hk169 : ∀ z : St × Int32 × Int32, k169 z = some o → Xs C (wW g) Q z.1 169 [(0, .ref (gA g 87)), (1, .int z.2.1), (2, .int x2), (3, .int z.2.2)] []) (hf : m_X10_divides_b169 σ x1 x2 x3 k154 k169 = some o) : Xs C (wW g) Q σ 169 [(0, .ref (gA g 87)), (1, .int x1), (2, .int x2), (3, .int x3)] [] := by
  unfold m_X10_divides_b169 at hf
  refine x_iload_n h dX10_divides_169 rfl 3 rfl (q := 170) rfl ?_
  refine x_aload_n h dX10_divides_170 rfl 0 rfl (q := 171) rfl ?_
  refine x_get_X10_87_1 h hg kf_X10_7 nn_X10 dX10_divides_171 ?_
  refine x_sipush (v := 1200) h dX10_divides_174 (by decide) (q := 177) rfl ?_
  obtain ⟨hi1, hf2⟩ := chk_inv hf
  refine x_iald (j := 1200) h hg a_88 hi1 (by decide) dX10_divides_177 (q := 178) rfl ?_
  refine x_icmp_ge (tgt := 289) h dX10_divides_178 (by decide) (q := 181) rfl hf2 (fun hc3 hf4 => ?_) (fun hc3 hf4 => ?_)
  · skip
    refine x_iconst (v := 0) h dX10_divides_289 (by decide) (q := 290) rfl ?_
    refine x_istore_n (lv' := [(3, .int 0), (0, .ref (gA g 87)), (1, .int x1), (2, .int x2)]) h dX10_divides_290 rfl hL (by decide) rfl (q := 291) rfl ?_
    refine x_sub (lv' := [(0, .ref (gA g 87)), (1, .int x1), (2, .int x2), (3, .int 0)]) [1, 2, 3, 0] rfl ?_
    exact w_X10_divides_l291 x1 x2 o h hg hL hr k154 hk154  cFu (σ, 0) hf4
  · skip
    refine x_aload_n h dX10_divides_181 rfl 0 rfl (q := 182) rfl ?_
    refine x_get_X10_87_33 h hg kf_X10_76 nn_X10 dX10_divides_182 ?_
    refine x_iload_n h dX10_divides_185 rfl 3 rfl (q := 186) rfl ?_
    refine x_iconst (v := (-1)) h dX10_divides_186 (by decide) (q := 187) rfl ?_
    obtain ⟨hi5, hf6⟩ := chk_inv hf4
    refine x_iast (j := (Int32.toNatClampNeg x3)) h hg a_110 hi5 rfl dX10_divides_187 (q := 188) rfl ?_
    refine x_iconst (v := 0) h dX10_divides_188 (by decide) (q := 189) rfl ?_
    refine x_istore (lv' := [(4, .int 0), (0, .ref (gA g 87)), (1, .int x1), (2, .int x2), (3, .int x3)]) h dX10_divides_189 hL (by decide) rfl (q := 191) rfl ?_
    refine x_sub (lv' := [(0, .ref (gA g 87)), (1, .int x1), (2, .int x2), (3, .int x3), (4, .int 0)]) [1, 2, 3, 4, 0] rfl ?_
    exact w_X10_divides_l191 x1 x2 x3 o h hg hL hr k154 k169 hk154 hk169  cFu ((up σ 110 (Int32.toNatClampNeg x3) (-1)), 0) hf6
set_option maxHeartbeats 4000000 in
set_option maxRecDepth 100000 in
theorem w_X10_divides_l169 {C : XC} {Q : State → Prop} {g : cG} (x2 : Int32) (o : Int32 × St) (h : XOk C cX10_divides RX10 tG rmX10_divides) (hg : XG C g) (hL : C.2.2.2.2.2.2.2.2.2.2.2.2.1 = 5) (hr : XEnd C (some .int) Q (XQ g (some (.int o.1)) o.2) (cA g)) (k154 : (St × Int32 × Int32) → Option (Int32 × St)) (hk154 : ∀ z : St × Int32 × Int32, k154 z = some o → Xs C (wW g) Q z.1 154 [(0, .ref (gA g 87)), (1, .int z.2.1), (2, .int z.2.2)] []) : ∀ (n : Nat) (z : St × Int32 × Int32), loopF (fun k z => m_X10_divides_b169 z.1 z.2.1 x2 z.2.2 k154 k) n z = some o → Xs C (wW g) Q z.1 169 [(0, .ref (gA g 87)), (1, .int z.2.1), (2, .int x2), (3, .int z.2.2)] [] := by
  intro n z hf
  refine loopF_ind (S := St × Int32 × Int32) (O := Int32 × St) (step := (fun k z => m_X10_divides_b169 z.1 z.2.1 x2 z.2.2 k154 k)) (o := o) (P := fun z => Xs C (wW g) Q z.1 169 [(0, .ref (gA g 87)), (1, .int z.2.1), (2, .int x2), (3, .int z.2.2)] []) ?_ n z hf
  intro k hk z hf
  exact w_X10_divides_b169 z.1 z.2.1 x2 z.2.2 o h hg hL hr k154 k hk154 hk hf
def m_X10_divides_b154 (σ : St) (x1 : Int32) (x2 : Int32) (k154 : (St × Int32 × Int32) → Option (Int32 × St)) : Option (Int32 × St) :=
  if x2 = x1 then (
    some (x1, σ)
  ) else (
    (m_X10_leads σ).bind fun u3 =>
    loopF (fun k z => m_X10_divides_b169 z.1 z.2.1 x1 z.2.2 k154 k) cFu (u3, 0, 0)
  )
set_option maxHeartbeats 4000000 in
set_option maxRecDepth 100000 in
theorem w_X10_divides_b154 {C : XC} {Q : State → Prop} {g : cG} (σ : St) (x1 : Int32) (x2 : Int32) (o : Int32 × St) (h : XOk C cX10_divides RX10 tG rmX10_divides) (hg : XG C g) (hL : C.2.2.2.2.2.2.2.2.2.2.2.2.1 = 5) (hr : XEnd C (some .int) Q (XQ g (some (.int o.1)) o.2) (cA g)) (k154 : (St × Int32 × Int32) → Option (Int32 × St)) (hk154 : ∀ z : St × Int32 × Int32, k154 z = some o → Xs C (wW g) Q z.1 154 [(0, .ref (gA g 87)), (1, .int z.2.1), (2, .int z.2.2)] []) (hf : m_X10_divides_b154 σ x1 x2 k154 = some o) : Xs C (wW g) Q σ 154 [(0, .ref (gA g 87)), (1, .int x1), (2, .int x2)] [] := by
  unfold m_X10_divides_b154 at hf
  refine x_iload_n h dX10_divides_154 rfl 2 rfl (q := 155) rfl ?_
  refine x_iload_n h dX10_divides_155 rfl 1 rfl (q := 156) rfl ?_
  refine x_icmp_eq (tgt := 324) h dX10_divides_156 (by decide) (q := 159) rfl hf (fun hc1 hf2 => ?_) (fun hc1 hf2 => ?_)
  · skip
    refine x_iload_n h dX10_divides_324 rfl 1 rfl (q := 325) rfl ?_
    have hz := Option.some.inj hf2
    subst hz
    exact x_iret h hg hr dX10_divides_325
  · skip
    refine x_iload_n h dX10_divides_159 rfl 1 rfl (q := 160) rfl ?_
    refine x_istore_n (lv' := [(2, .int x1), (0, .ref (gA g 87)), (1, .int x1)]) h dX10_divides_160 rfl hL (by decide) rfl (q := 161) rfl ?_
    refine x_iconst (v := 0) h dX10_divides_161 (by decide) (q := 162) rfl ?_
    refine x_istore_n (lv' := [(1, .int 0), (2, .int x1), (0, .ref (gA g 87))]) h dX10_divides_162 rfl hL (by decide) rfl (q := 163) rfl ?_
    refine x_aload_n h dX10_divides_163 rfl 2 rfl (q := 164) rfl ?_
    obtain ⟨u3, hu3, hf4⟩ := bnd_inv hf2
    refine x_callVv (As := []) (rest := []) h hg (c_X10_leads C.2.1 hg.2.1 σ _ hu3) ml_X10_284 biX10_leads rfl rfl hdX10_leads ⟨Nat.le_of_ble_eq_true rfl, Nat.le_of_ble_eq_true rfl⟩ (by decide) (cE_87 g _) rfl rfl rfl (Nat.le_of_ble_eq_true rfl) dX10_divides_164 ?_
    refine x_iconst (v := 0) h dX10_divides_167 (by decide) (q := 168) rfl ?_
    refine x_istore_n (lv' := [(3, .int 0), (1, .int 0), (2, .int x1), (0, .ref (gA g 87))]) h dX10_divides_168 rfl hL (by decide) rfl (q := 169) rfl ?_
    refine x_sub (lv' := [(0, .ref (gA g 87)), (1, .int 0), (2, .int x1), (3, .int 0)]) [3, 1, 2, 0] rfl ?_
    exact w_X10_divides_l169 x1 o h hg hL hr k154 hk154  cFu (u3, 0, 0) hf4
set_option maxHeartbeats 4000000 in
set_option maxRecDepth 100000 in
theorem w_X10_divides_l154 {C : XC} {Q : State → Prop} {g : cG} (o : Int32 × St) (h : XOk C cX10_divides RX10 tG rmX10_divides) (hg : XG C g) (hL : C.2.2.2.2.2.2.2.2.2.2.2.2.1 = 5) (hr : XEnd C (some .int) Q (XQ g (some (.int o.1)) o.2) (cA g)) : ∀ (n : Nat) (z : St × Int32 × Int32), loopF (fun k z => m_X10_divides_b154 z.1 z.2.1 z.2.2 k) n z = some o → Xs C (wW g) Q z.1 154 [(0, .ref (gA g 87)), (1, .int z.2.1), (2, .int z.2.2)] [] := by
  intro n z hf
  refine loopF_ind (S := St × Int32 × Int32) (O := Int32 × St) (step := (fun k z => m_X10_divides_b154 z.1 z.2.1 z.2.2 k)) (o := o) (P := fun z => Xs C (wW g) Q z.1 154 [(0, .ref (gA g 87)), (1, .int z.2.1), (2, .int z.2.2)] []) ?_ n z hf
  intro k hk z hf
  exact w_X10_divides_b154 z.1 z.2.1 z.2.2 o h hg hL hr k hk hf
def m_X10_divides_b4 (σ : St) (x1 : Int32) (x2 : Int32) (k4 : (St × Int32 × Int32) → Option (Int32 × St)) : Option (Int32 × St) :=
  chk 1200 1201 <|
  if (σ 88 1200) ≤ x2 then (
    if (σ 87 5) = 0 then (
      (m_X10_freshens σ).bind fun u7 =>
      loopF (fun k z => m_X10_divides_b154 z.1 z.2.1 z.2.2 k) cFu (u7, x1, (-1))
    ) else (
      loopF (fun k z => m_X10_divides_b154 z.1 z.2.1 z.2.2 k) cFu (σ, x1, (-1))
    )
  ) else (
    chk x2 12 <|
    loopF (fun k z => m_X10_divides_b25 z.1 x1 x2 z.2 k4 k) cFu ((up σ 109 (Int32.toNatClampNeg x2) (-1)), 0)
  )
set_option maxHeartbeats 4000000 in
set_option maxRecDepth 100000 in
theorem w_X10_divides_b4 {C : XC} {Q : State → Prop} {g : cG} (σ : St) (x1 : Int32) (x2 : Int32) (o : Int32 × St) (h : XOk C cX10_divides RX10 tG rmX10_divides) (hg : XG C g) (hL : C.2.2.2.2.2.2.2.2.2.2.2.2.1 = 5) (hr : XEnd C (some .int) Q (XQ g (some (.int o.1)) o.2) (cA g)) (k4 : (St × Int32 × Int32) → Option (Int32 × St)) (hk4 : ∀ z : St × Int32 × Int32, k4 z = some o → Xs C (wW g) Q z.1 4 [(0, .ref (gA g 87)), (1, .int z.2.1), (2, .int z.2.2)] []) (hf : m_X10_divides_b4 σ x1 x2 k4 = some o) : Xs C (wW g) Q σ 4 [(0, .ref (gA g 87)), (1, .int x1), (2, .int x2)] [] := by
  unfold m_X10_divides_b4 at hf
  refine x_iload_n h dX10_divides_4 rfl 2 rfl (q := 5) rfl ?_
  refine x_aload_n h dX10_divides_5 rfl 0 rfl (q := 6) rfl ?_
  refine x_get_X10_87_1 h hg kf_X10_7 nn_X10 dX10_divides_6 ?_
  refine x_sipush (v := 1200) h dX10_divides_9 (by decide) (q := 12) rfl ?_
  obtain ⟨hi1, hf2⟩ := chk_inv hf
  refine x_iald (j := 1200) h hg a_88 hi1 (by decide) dX10_divides_12 (q := 13) rfl ?_
  refine x_icmp_ge (tgt := 141) h dX10_divides_13 (by decide) (q := 16) rfl hf2 (fun hc3 hf4 => ?_) (fun hc3 hf4 => ?_)
  · skip
    refine x_aload_n h dX10_divides_141 rfl 0 rfl (q := 142) rfl ?_
    refine x_get_X10_87_5 h hg kf_X10_89 nn_X10 dX10_divides_142 ?_
    refine x_if_ne (tgt := 152) h dX10_divides_145 (by decide) (q := 148) rfl hf4 (fun hc5 hf6 => ?_) (fun hc5 hf6 => ?_)
    · skip
      refine x_iconst (v := (-1)) h dX10_divides_152 (by decide) (q := 153) rfl ?_
      refine x_istore_n (lv' := [(2, .int (-1)), (0, .ref (gA g 87)), (1, .int x1)]) h dX10_divides_153 rfl hL (by decide) rfl (q := 154) rfl ?_
      refine x_sub (lv' := [(0, .ref (gA g 87)), (1, .int x1), (2, .int (-1))]) [1, 2, 0] rfl ?_
      exact w_X10_divides_l154  o h hg hL hr  cFu (σ, x1, (-1)) hf6
    · skip
      refine x_aload_n h dX10_divides_148 rfl 0 rfl (q := 149) rfl ?_
      obtain ⟨u7, hu7, hf8⟩ := bnd_inv hf6
      refine x_callVv (As := []) (rest := []) h hg (c_X10_freshens C.2.1 hg.2.1 σ _ hu7) ml_X10_116 biX10_freshens rfl rfl hdX10_freshens ⟨Nat.le_of_ble_eq_true rfl, Nat.le_of_ble_eq_true rfl⟩ (by decide) (cE_87 g _) rfl rfl rfl (Nat.le_of_ble_eq_true rfl) dX10_divides_149 ?_
      refine x_iconst (v := (-1)) h dX10_divides_152 (by decide) (q := 153) rfl ?_
      refine x_istore_n (lv' := [(2, .int (-1)), (0, .ref (gA g 87)), (1, .int x1)]) h dX10_divides_153 rfl hL (by decide) rfl (q := 154) rfl ?_
      refine x_sub (lv' := [(0, .ref (gA g 87)), (1, .int x1), (2, .int (-1))]) [1, 2, 0] rfl ?_
      exact w_X10_divides_l154  o h hg hL hr  cFu (u7, x1, (-1)) hf8
  · skip
    refine x_aload_n h dX10_divides_16 rfl 0 rfl (q := 17) rfl ?_
    refine x_get_X10_87_32 h hg kf_X10_73 nn_X10 dX10_divides_17 ?_
    refine x_iload_n h dX10_divides_20 rfl 2 rfl (q := 21) rfl ?_
    refine x_iconst (v := (-1)) h dX10_divides_21 (by decide) (q := 22) rfl ?_
    obtain ⟨hi9, hf10⟩ := chk_inv hf4
    refine x_iast (j := (Int32.toNatClampNeg x2)) h hg a_109 hi9 rfl dX10_divides_22 (q := 23) rfl ?_
    refine x_iconst (v := 0) h dX10_divides_23 (by decide) (q := 24) rfl ?_
    refine x_istore_n (lv' := [(3, .int 0), (0, .ref (gA g 87)), (1, .int x1), (2, .int x2)]) h dX10_divides_24 rfl hL (by decide) rfl (q := 25) rfl ?_
    refine x_sub (lv' := [(0, .ref (gA g 87)), (1, .int x1), (2, .int x2), (3, .int 0)]) [1, 2, 3, 0] rfl ?_
    exact w_X10_divides_l25 x1 x2 o h hg hL hr k4 hk4  cFu ((up σ 109 (Int32.toNatClampNeg x2) (-1)), 0) hf10
set_option maxHeartbeats 4000000 in
set_option maxRecDepth 100000 in
theorem w_X10_divides_l4 {C : XC} {Q : State → Prop} {g : cG} (o : Int32 × St) (h : XOk C cX10_divides RX10 tG rmX10_divides) (hg : XG C g) (hL : C.2.2.2.2.2.2.2.2.2.2.2.2.1 = 5) (hr : XEnd C (some .int) Q (XQ g (some (.int o.1)) o.2) (cA g)) : ∀ (n : Nat) (z : St × Int32 × Int32), loopF (fun k z => m_X10_divides_b4 z.1 z.2.1 z.2.2 k) n z = some o → Xs C (wW g) Q z.1 4 [(0, .ref (gA g 87)), (1, .int z.2.1), (2, .int z.2.2)] [] := by
  intro n z hf
  refine loopF_ind (S := St × Int32 × Int32) (O := Int32 × St) (step := (fun k z => m_X10_divides_b4 z.1 z.2.1 z.2.2 k)) (o := o) (P := fun z => Xs C (wW g) Q z.1 4 [(0, .ref (gA g 87)), (1, .int z.2.1), (2, .int z.2.2)] []) ?_ n z hf
  intro k hk z hf
  exact w_X10_divides_b4 z.1 z.2.1 z.2.2 o h hg hL hr k hk hf
def m_X10_divides (σ : St) : Option (Int32 × St) :=
  loopF (fun k z => m_X10_divides_b4 z.1 z.2.1 z.2.2 k) cFu (σ, 0, 0)
set_option maxHeartbeats 4000000 in
set_option maxRecDepth 100000 in
theorem w_X10_divides {C : XC} {Q : State → Prop} {g : cG} (σ : St) (o : Int32 × St) (h : XOk C cX10_divides RX10 tG rmX10_divides) (hg : XG C g) (hL : C.2.2.2.2.2.2.2.2.2.2.2.2.1 = 5) (hr : XEnd C (some .int) Q (XQ g (some (.int o.1)) o.2) (cA g)) (hf : m_X10_divides σ = some o) : Xs C (wW g) Q σ 0 [(0, .ref (gA g 87))] [] := by
  unfold m_X10_divides at hf
  refine x_iconst (v := 0) h dX10_divides_0 (by decide) (q := 1) rfl ?_
  refine x_istore_n (lv' := [(1, .int 0), (0, .ref (gA g 87))]) h dX10_divides_1 rfl hL (by decide) rfl (q := 2) rfl ?_
  refine x_iconst (v := 0) h dX10_divides_2 (by decide) (q := 3) rfl ?_
  refine x_istore_n (lv' := [(2, .int 0), (1, .int 0), (0, .ref (gA g 87))]) h dX10_divides_3 rfl hL (by decide) rfl (q := 4) rfl ?_
  refine x_sub (lv' := [(0, .ref (gA g 87)), (1, .int 0), (2, .int 0)]) [2, 1, 0] rfl ?_
  exact w_X10_divides_l4  o h hg hL hr  cFu (σ, 0, 0) hf
theorem c_X10_divides (l : Launch) {g : cG} (hi : gInj g) (σ : St) (o : Int32 × St) (hf : m_X10_divides σ = some o) : Met l yX10_divides (wT yX10_divides cX10_divides 5 (some .int)) rmX10_divides (va_Pc [.ref (gA g 87)] (XPre g σ)) (XQ g (some (.int o.1)) o.2) 0 0 (cA g) :=
  X_met RX10 hi plX10 rfl (Nat.le_of_ble_eq_true rfl) rfl (fun _ _ _ h hg hL hr => w_X10_divides σ o h hg hL hr hf)
abbrev rmX10_classes : Room := { frames := 5, cells := 0, slots := 0, locals := 112 }
theorem hdX10_classes : yX10_classes.cls = RX10 ∧ yX10_classes.cls ≠ "java/lang/invoke/MethodHandle" ∧ yX10_classes.cls ≠ "java/lang/invoke/VarHandle" ∧ (parseMethodDescriptor yX10_classes.desc).map (fun d => d.parameters.length) = some 0 := by decide +kernel
def m_X10_classes (σ : St) : Option (Int32 × St) :=
  (m_X10_divides σ).bind fun u1 =>
  some (u1.1, u1.2)
set_option maxHeartbeats 4000000 in
set_option maxRecDepth 100000 in
theorem w_X10_classes {C : XC} {Q : State → Prop} {g : cG} (σ : St) (o : Int32 × St) (h : XOk C cX10_classes RX10 tG rmX10_classes) (hg : XG C g) (hL : C.2.2.2.2.2.2.2.2.2.2.2.2.1 = 1) (hr : XEnd C (some .int) Q (XQ g (some (.int o.1)) o.2) (cA g)) (hf : m_X10_classes σ = some o) : Xs C (wW g) Q σ 0 [(0, .ref (gA g 87))] [] := by
  unfold m_X10_classes at hf
  refine x_aload_n h dX10_classes_0 rfl 0 rfl (q := 1) rfl ?_
  obtain ⟨u1, hu1, hf2⟩ := bnd_inv hf
  refine x_callVi (As := []) (rest := []) h hg (c_X10_divides C.2.1 hg.2.1 σ _ hu1) ml_X10_290 biX10_divides rfl rfl hdX10_divides ⟨Nat.le_of_ble_eq_true rfl, Nat.le_of_ble_eq_true rfl⟩ (by decide) (cE_87 g _) rfl rfl rfl (Nat.le_of_ble_eq_true rfl) dX10_classes_1 ?_
  have hz := Option.some.inj hf2
  subst hz
  exact x_iret h hg hr dX10_classes_4
theorem c_X10_classes (l : Launch) {g : cG} (hi : gInj g) (σ : St) (o : Int32 × St) (hf : m_X10_classes σ = some o) : Met l yX10_classes (wT yX10_classes cX10_classes 1 (some .int)) rmX10_classes (va_Pc [.ref (gA g 87)] (XPre g σ)) (XQ g (some (.int o.1)) o.2) 0 0 (cA g) :=
  X_met RX10 hi plX10 rfl (Nat.le_of_ble_eq_true rfl) rfl (fun _ _ _ h hg hL hr => w_X10_classes σ o h hg hL hr hf)
abbrev rmX10_classOf : Room := { frames := 5, cells := 0, slots := 0, locals := 112 }
theorem hdX10_classOf : yX10_classOf.cls = RX10 ∧ yX10_classOf.cls ≠ "java/lang/invoke/MethodHandle" ∧ yX10_classOf.cls ≠ "java/lang/invoke/VarHandle" ∧ (parseMethodDescriptor yX10_classOf.desc).map (fun d => d.parameters.length) = some 1 := by decide +kernel
def m_X10_classOf (σ : St) (x1 : Int32) : Option (Int32 × St) :=
  (m_X10_isState σ x1).bind fun u1 =>
  if (bI u1) = 0 then (
    some ((-1), σ)
  ) else (
    (m_X10_divides σ).bind fun u5 =>
    chk x1 12 <|
    some ((u5.2 109 (Int32.toNatClampNeg x1)), u5.2)
  )
set_option maxHeartbeats 4000000 in
set_option maxRecDepth 100000 in
theorem w_X10_classOf {C : XC} {Q : State → Prop} {g : cG} (σ : St) (x1 : Int32) (o : Int32 × St) (h : XOk C cX10_classOf RX10 tG rmX10_classOf) (hg : XG C g) (hL : C.2.2.2.2.2.2.2.2.2.2.2.2.1 = 3) (hr : XEnd C (some .int) Q (XQ g (some (.int o.1)) o.2) (cA g)) (hf : m_X10_classOf σ x1 = some o) : Xs C (wW g) Q σ 0 [(0, .ref (gA g 87)), (1, .int x1)] [] := by
  unfold m_X10_classOf at hf
  refine x_aload_n h dX10_classOf_0 rfl 0 rfl (q := 1) rfl ?_
  refine x_iload_n h dX10_classOf_1 rfl 1 rfl (q := 2) rfl ?_
  obtain ⟨u1, hu1, hf2⟩ := bnd_inv hf
  refine x_callVi (As := [.int x1]) (rest := []) h hg (c_X10_isState C.2.1 hg.2.1 σ x1 _ hu1) ml_X10_129 biX10_isState rfl rfl hdX10_isState ⟨Nat.le_of_ble_eq_true rfl, Nat.le_of_ble_eq_true rfl⟩ (by decide) (cE_87 g _) rfl rfl rfl (Nat.le_of_ble_eq_true rfl) dX10_classOf_2 ?_
  refine x_if_ne (tgt := 10) h dX10_classOf_5 (by decide) (q := 8) rfl hf2 (fun hc3 hf4 => ?_) (fun hc3 hf4 => ?_)
  · skip
    refine x_aload_n h dX10_classOf_10 rfl 0 rfl (q := 11) rfl ?_
    obtain ⟨u5, hu5, hf6⟩ := bnd_inv hf4
    refine x_callVi (As := []) (rest := []) h hg (c_X10_divides C.2.1 hg.2.1 σ _ hu5) ml_X10_290 biX10_divides rfl rfl hdX10_divides ⟨Nat.le_of_ble_eq_true rfl, Nat.le_of_ble_eq_true rfl⟩ (by decide) (cE_87 g _) rfl rfl rfl (Nat.le_of_ble_eq_true rfl) dX10_classOf_11 ?_
    refine x_istore_n (lv' := [(2, .int u5.1), (0, .ref (gA g 87)), (1, .int x1)]) h dX10_classOf_14 rfl hL (by decide) rfl (q := 15) rfl ?_
    refine x_aload_n h dX10_classOf_15 rfl 1 rfl (q := 16) rfl ?_
    refine x_get_X10_87_32 h hg kf_X10_73 nn_X10 dX10_classOf_16 ?_
    refine x_iload_n h dX10_classOf_19 rfl 2 rfl (q := 20) rfl ?_
    obtain ⟨hi7, hf8⟩ := chk_inv hf6
    refine x_iald (j := (Int32.toNatClampNeg x1)) h hg a_109 hi7 rfl dX10_classOf_20 (q := 21) rfl ?_
    have hz := Option.some.inj hf8
    subst hz
    exact x_iret h hg hr dX10_classOf_21
  · skip
    refine x_iconst (v := (-1)) h dX10_classOf_8 (by decide) (q := 9) rfl ?_
    have hz := Option.some.inj hf4
    subst hz
    exact x_iret h hg hr dX10_classOf_9
theorem c_X10_classOf (l : Launch) {g : cG} (hi : gInj g) (σ : St) (x1 : Int32) (o : Int32 × St) (hf : m_X10_classOf σ x1 = some o) : Met l yX10_classOf (wT yX10_classOf cX10_classOf 3 (some .int)) rmX10_classOf (va_Pc [.ref (gA g 87), .int x1] (XPre g σ)) (XQ g (some (.int o.1)) o.2) 0 0 (cA g) :=
  X_met RX10 hi plX10 rfl (Nat.le_of_ble_eq_true rfl) rfl (fun _ _ _ h hg hL hr => w_X10_classOf σ x1 o h hg hL hr hf)
abbrev rmX10_undo : Room := { frames := 0, cells := 0, slots := 0, locals := 0 }
theorem hdX10_undo : yX10_undo.cls = RX10 ∧ yX10_undo.cls ≠ "java/lang/invoke/MethodHandle" ∧ yX10_undo.cls ≠ "java/lang/invoke/VarHandle" ∧ (parseMethodDescriptor yX10_undo.desc).map (fun d => d.parameters.length) = some 0 := by decide +kernel
def m_X10_undo_b22 (σ : St) (x1 : Int32) (k22 : (St × Int32) → Option (Int32 × St)) : Option (Int32 × St) :=
  if 1201 ≤ x1 then (
    some (((up σ 87 5 0) 87 3), (up σ 87 5 0))
  ) else (
    chk ((1201 * (σ 87 3)) + x1) 4804 <|
    chk x1 1201 <|
    k22 ((up σ 88 (Int32.toNatClampNeg x1) (σ 89 (Int32.toNatClampNeg ((1201 * (σ 87 3)) + x1)))), (x1 + 1))
  )
set_option maxHeartbeats 4000000 in
set_option maxRecDepth 100000 in
theorem w_X10_undo_b22 {C : XC} {Q : State → Prop} {g : cG} (σ : St) (x1 : Int32) (o : Int32 × St) (h : XOk C cX10_undo RX10 tG rmX10_undo) (hg : XG C g) (hL : C.2.2.2.2.2.2.2.2.2.2.2.2.1 = 2) (hr : XEnd C (some .int) Q (XQ g (some (.int o.1)) o.2) (cA g)) (k22 : (St × Int32) → Option (Int32 × St)) (hk22 : ∀ z : St × Int32, k22 z = some o → Xs C (wW g) Q z.1 22 [(0, .ref (gA g 87)), (1, .int z.2)] []) (hf : m_X10_undo_b22 σ x1 k22 = some o) : Xs C (wW g) Q σ 22 [(0, .ref (gA g 87)), (1, .int x1)] [] := by
  unfold m_X10_undo_b22 at hf
  refine x_iload_n h dX10_undo_22 rfl 1 rfl (q := 23) rfl ?_
  refine x_sipush (v := 1201) h dX10_undo_23 (by decide) (q := 26) rfl ?_
  refine x_icmp_ge (tgt := 56) h dX10_undo_26 (by decide) (q := 29) rfl hf (fun hc1 hf2 => ?_) (fun hc1 hf2 => ?_)
  · skip
    refine x_aload_n h dX10_undo_56 rfl 0 rfl (q := 57) rfl ?_
    refine x_iconst (v := 0) h dX10_undo_57 (by decide) (q := 58) rfl ?_
    refine x_put_X10_87_5 h hg kf_X10_89 nn_X10 dX10_undo_58 (by decide) (by decide) ?_
    refine x_aload_n h dX10_undo_61 rfl 0 rfl (q := 62) rfl ?_
    refine x_get_X10_87_3 h hg kf_X10_86 nn_X10 dX10_undo_62 ?_
    have hz := Option.some.inj hf2
    subst hz
    exact x_iret h hg hr dX10_undo_65
  · skip
    refine x_aload_n h dX10_undo_29 rfl 0 rfl (q := 30) rfl ?_
    refine x_get_X10_87_1 h hg kf_X10_7 nn_X10 dX10_undo_30 ?_
    refine x_iload_n h dX10_undo_33 rfl 1 rfl (q := 34) rfl ?_
    refine x_aload_n h dX10_undo_34 rfl 0 rfl (q := 35) rfl ?_
    refine x_get_X10_87_2 h hg kf_X10_13 nn_X10 dX10_undo_35 ?_
    refine x_sipush (v := 1201) h dX10_undo_38 (by decide) (q := 41) rfl ?_
    refine x_aload_n h dX10_undo_41 rfl 0 rfl (q := 42) rfl ?_
    refine x_get_X10_87_3 h hg kf_X10_86 nn_X10 dX10_undo_42 ?_
    refine x_imul h dX10_undo_45 (q := 46) rfl ?_
    refine x_iload_n h dX10_undo_46 rfl 1 rfl (q := 47) rfl ?_
    refine x_iadd h dX10_undo_47 (q := 48) rfl ?_
    obtain ⟨hi3, hf4⟩ := chk_inv hf2
    refine x_iald (j := (Int32.toNatClampNeg ((1201 * (σ 87 3)) + x1))) h hg a_89 hi3 rfl dX10_undo_48 (q := 49) rfl ?_
    obtain ⟨hi5, hf6⟩ := chk_inv hf4
    refine x_iast (j := (Int32.toNatClampNeg x1)) h hg a_88 hi5 rfl dX10_undo_49 (q := 50) rfl ?_
    refine x_iinc (v := (x1 + 1)) (lv' := [(1, .int (x1 + 1)), (0, .ref (gA g 87))]) (j := 1) h dX10_undo_50 rfl rfl hL (by decide) rfl (q := 53) rfl ?_
    refine x_goto (q := 22) h dX10_undo_53 (by decide) ?_
    refine x_sub (lv' := [(0, .ref (gA g 87)), (1, .int (x1 + 1))]) [1, 0] rfl ?_
    exact hk22 ((up σ 88 (Int32.toNatClampNeg x1) (σ 89 (Int32.toNatClampNeg ((1201 * (σ 87 3)) + x1)))), (x1 + 1)) hf6
set_option maxHeartbeats 4000000 in
set_option maxRecDepth 100000 in
theorem w_X10_undo_l22 {C : XC} {Q : State → Prop} {g : cG} (o : Int32 × St) (h : XOk C cX10_undo RX10 tG rmX10_undo) (hg : XG C g) (hL : C.2.2.2.2.2.2.2.2.2.2.2.2.1 = 2) (hr : XEnd C (some .int) Q (XQ g (some (.int o.1)) o.2) (cA g)) : ∀ (n : Nat) (z : St × Int32), loopF (fun k z => m_X10_undo_b22 z.1 z.2 k) n z = some o → Xs C (wW g) Q z.1 22 [(0, .ref (gA g 87)), (1, .int z.2)] [] := by
  intro n z hf
  refine loopF_ind (S := St × Int32) (O := Int32 × St) (step := (fun k z => m_X10_undo_b22 z.1 z.2 k)) (o := o) (P := fun z => Xs C (wW g) Q z.1 22 [(0, .ref (gA g 87)), (1, .int z.2)] []) ?_ n z hf
  intro k hk z hf
  exact w_X10_undo_b22 z.1 z.2 o h hg hL hr k hk hf
def m_X10_undo (σ : St) : Option (Int32 × St) :=
  if (σ 87 3) = 0 then (
    some ((-9), σ)
  ) else (
    loopF (fun k z => m_X10_undo_b22 z.1 z.2 k) cFu ((up σ 87 3 ((σ 87 3) - 1)), 0)
  )
set_option maxHeartbeats 4000000 in
set_option maxRecDepth 100000 in
theorem w_X10_undo {C : XC} {Q : State → Prop} {g : cG} (σ : St) (o : Int32 × St) (h : XOk C cX10_undo RX10 tG rmX10_undo) (hg : XG C g) (hL : C.2.2.2.2.2.2.2.2.2.2.2.2.1 = 2) (hr : XEnd C (some .int) Q (XQ g (some (.int o.1)) o.2) (cA g)) (hf : m_X10_undo σ = some o) : Xs C (wW g) Q σ 0 [(0, .ref (gA g 87))] [] := by
  unfold m_X10_undo at hf
  refine x_aload_n h dX10_undo_0 rfl 0 rfl (q := 1) rfl ?_
  refine x_get_X10_87_3 h hg kf_X10_86 nn_X10 dX10_undo_1 ?_
  refine x_if_ne (tgt := 10) h dX10_undo_4 (by decide) (q := 7) rfl hf (fun hc1 hf2 => ?_) (fun hc1 hf2 => ?_)
  · skip
    refine x_aload_n h dX10_undo_10 rfl 0 rfl (q := 11) rfl ?_
    refine x_dup h dX10_undo_11 rfl (q := 12) rfl ?_
    refine x_get_X10_87_3 h hg kf_X10_86 nn_X10 dX10_undo_12 ?_
    refine x_iconst (v := 1) h dX10_undo_15 (by decide) (q := 16) rfl ?_
    refine x_isub h dX10_undo_16 (q := 17) rfl ?_
    refine x_put_X10_87_3 h hg kf_X10_86 nn_X10 dX10_undo_17 ?_
    refine x_iconst (v := 0) h dX10_undo_20 (by decide) (q := 21) rfl ?_
    refine x_istore_n (lv' := [(1, .int 0), (0, .ref (gA g 87))]) h dX10_undo_21 rfl hL (by decide) rfl (q := 22) rfl ?_
    refine x_sub (lv' := [(0, .ref (gA g 87)), (1, .int 0)]) [1, 0] rfl ?_
    exact w_X10_undo_l22  o h hg hL hr  cFu ((up σ 87 3 ((σ 87 3) - 1)), 0) hf2
  · skip
    refine x_bipush (v := (-9)) h dX10_undo_7 (by decide) (q := 9) rfl ?_
    have hz := Option.some.inj hf2
    subst hz
    exact x_iret h hg hr dX10_undo_9
theorem c_X10_undo (l : Launch) {g : cG} (hi : gInj g) (σ : St) (o : Int32 × St) (hf : m_X10_undo σ = some o) : Met l yX10_undo (wT yX10_undo cX10_undo 2 (some .int)) rmX10_undo (va_Pc [.ref (gA g 87)] (XPre g σ)) (XQ g (some (.int o.1)) o.2) 0 0 (cA g) :=
  X_met RX10 hi plX10 rfl (Nat.le_of_ble_eq_true rfl) rfl (fun _ _ _ h hg hL hr => w_X10_undo σ o h hg hL hr hf)
abbrev rmX10_fingerprint : Room := { frames := 3, cells := 0, slots := 0, locals := 65 }
theorem hdX10_fingerprint : yX10_fingerprint.cls = RX10 ∧ yX10_fingerprint.cls ≠ "java/lang/invoke/MethodHandle" ∧ yX10_fingerprint.cls ≠ "java/lang/invoke/VarHandle" ∧ (parseMethodDescriptor yX10_fingerprint.desc).map (fun d => d.parameters.length) = some 0 := by decide +kernel
def m_X10_fingerprint_b153 (σ : St) (x3 : Int32) (x4 : Int32) (z0 : Int64) (k16 : (Int64 × Int32) → Option (Int64)) (k110 : (Int64 × Int32) → Option (Int64)) : Option (Int64) :=
  k110 (z0, (x4 + 1))
set_option maxHeartbeats 4000000 in
set_option maxRecDepth 100000 in
theorem w_X10_fingerprint_b153 {C : XC} {Q : State → Prop} {g : cG} (σ : St) (x3 : Int32) (x4 : Int32) (z0 : Int64) (o : Int64) (h : XOk C cX10_fingerprint RX10 tG rmX10_fingerprint) (hg : XG C g) (hL : C.2.2.2.2.2.2.2.2.2.2.2.2.1 = 5) (hr : XEnd C (some .long) Q (XQ g (some (.long o)) σ) (cA g)) (k16 : (Int64 × Int32) → Option (Int64)) (k110 : (Int64 × Int32) → Option (Int64)) (hk16 : ∀ z : Int64 × Int32, k16 z = some o → Xs C (wW g) Q σ 16 [(0, .ref (gA g 87)), (1, .long z.1), (3, .int z.2)] []) (hk110 : ∀ z : Int64 × Int32, k110 z = some o → Xs C (wW g) Q σ 110 [(0, .ref (gA g 87)), (1, .long z.1), (3, .int x3), (4, .int z.2)] []) (hf : m_X10_fingerprint_b153 σ x3 x4 z0 k16 k110 = some o) : Xs C (wW g) Q σ 153 [(0, .ref (gA g 87)), (3, .int x3), (4, .int x4)] [.long z0] := by
  unfold m_X10_fingerprint_b153 at hf
  refine x_lstore_n (lv' := [(1, .long z0), (0, .ref (gA g 87)), (3, .int x3), (4, .int x4)]) h dX10_fingerprint_153 rfl hL (by decide) rfl (q := 154) rfl ?_
  refine x_iinc (v := (x4 + 1)) (lv' := [(4, .int (x4 + 1)), (1, .long z0), (0, .ref (gA g 87)), (3, .int x3)]) (j := 3) h dX10_fingerprint_154 rfl rfl hL (by decide) rfl (q := 157) rfl ?_
  refine x_goto (q := 110) h dX10_fingerprint_157 (by decide) ?_
  refine x_sub (lv' := [(0, .ref (gA g 87)), (1, .long z0), (3, .int x3), (4, .int (x4 + 1))]) [2, 1, 3, 0] rfl ?_
  exact hk110 (z0, (x4 + 1)) hf
def m_X10_fingerprint_b110 (σ : St) (y1 : Int64) (x3 : Int32) (x4 : Int32) (k16 : (Int64 × Int32) → Option (Int64)) (k110 : (Int64 × Int32) → Option (Int64)) : Option (Int64) :=
  if 81 ≤ x4 then (
    k16 (y1, (x3 + 1))
  ) else (
    (m_X10_isMove σ x3 x4).bind fun u3 =>
    if (bI u3) = 0 then (
      m_X10_fingerprint_b153 σ x3 x4 y1 k16 k110
    ) else (
      chk (((100 * x3) + 10) + x4) 1201 <|
      m_X10_fingerprint_b153 σ x3 x4 ((31 * y1) + ((σ 88 (Int32.toNatClampNeg (((100 * x3) + 10) + x4)))).toInt64) k16 k110
    )
  )
set_option maxHeartbeats 4000000 in
set_option maxRecDepth 100000 in
theorem w_X10_fingerprint_b110 {C : XC} {Q : State → Prop} {g : cG} (σ : St) (y1 : Int64) (x3 : Int32) (x4 : Int32) (o : Int64) (h : XOk C cX10_fingerprint RX10 tG rmX10_fingerprint) (hg : XG C g) (hL : C.2.2.2.2.2.2.2.2.2.2.2.2.1 = 5) (hr : XEnd C (some .long) Q (XQ g (some (.long o)) σ) (cA g)) (k16 : (Int64 × Int32) → Option (Int64)) (k110 : (Int64 × Int32) → Option (Int64)) (hk16 : ∀ z : Int64 × Int32, k16 z = some o → Xs C (wW g) Q σ 16 [(0, .ref (gA g 87)), (1, .long z.1), (3, .int z.2)] []) (hk110 : ∀ z : Int64 × Int32, k110 z = some o → Xs C (wW g) Q σ 110 [(0, .ref (gA g 87)), (1, .long z.1), (3, .int x3), (4, .int z.2)] []) (hf : m_X10_fingerprint_b110 σ y1 x3 x4 k16 k110 = some o) : Xs C (wW g) Q σ 110 [(0, .ref (gA g 87)), (1, .long y1), (3, .int x3), (4, .int x4)] [] := by
  unfold m_X10_fingerprint_b110 at hf
  refine x_iload h dX10_fingerprint_110 3 rfl (q := 112) rfl ?_
  refine x_bipush (v := 81) h dX10_fingerprint_112 (by decide) (q := 114) rfl ?_
  refine x_icmp_ge (tgt := 160) h dX10_fingerprint_114 (by decide) (q := 117) rfl hf (fun hc1 hf2 => ?_) (fun hc1 hf2 => ?_)
  · skip
    refine x_iinc (v := (x3 + 1)) (lv' := [(3, .int (x3 + 1)), (0, .ref (gA g 87)), (1, .long y1), (4, .int x4)]) (j := 2) h dX10_fingerprint_160 rfl rfl hL (by decide) rfl (q := 163) rfl ?_
    refine x_goto (q := 16) h dX10_fingerprint_163 (by decide) ?_
    refine x_sub (lv' := [(0, .ref (gA g 87)), (1, .long y1), (3, .int (x3 + 1))]) [1, 2, 0] rfl ?_
    exact hk16 (y1, (x3 + 1)) hf2
  · skip
    refine x_aload_n h dX10_fingerprint_117 rfl 0 rfl (q := 118) rfl ?_
    refine x_iload_n h dX10_fingerprint_118 rfl 2 rfl (q := 119) rfl ?_
    refine x_iload h dX10_fingerprint_119 3 rfl (q := 121) rfl ?_
    obtain ⟨u3, hu3, hf4⟩ := bnd_inv hf2
    refine x_callVi (As := [.int x3, .int x4]) (rest := []) h hg (c_X10_isMove C.2.1 hg.2.1 σ x3 x4 _ hu3) ml_X10_105 biX10_isMove rfl rfl hdX10_isMove ⟨Nat.le_of_ble_eq_true rfl, Nat.le_of_ble_eq_true rfl⟩ (by decide) (cE_87 g _) rfl rfl rfl (Nat.le_of_ble_eq_true rfl) dX10_fingerprint_121 ?_
    refine x_if_eq (tgt := 152) h dX10_fingerprint_124 (by decide) (q := 127) rfl hf4 (fun hc5 hf6 => ?_) (fun hc5 hf6 => ?_)
    · skip
      refine x_lload_n h dX10_fingerprint_152 rfl 1 rfl (q := 153) rfl ?_
      refine x_sub (lv' := [(0, .ref (gA g 87)), (3, .int x3), (4, .int x4)]) [0, 2, 3] rfl ?_
      exact w_X10_fingerprint_b153 σ x3 x4 y1 o h hg hL hr k16 k110 hk16 hk110 hf6
    · skip
      refine x_ldc2 (v := 31) h kc_X10_295 dX10_fingerprint_127 (q := 130) rfl ?_
      refine x_lload_n h dX10_fingerprint_130 rfl 1 rfl (q := 131) rfl ?_
      refine x_lmul h dX10_fingerprint_131 (q := 132) rfl ?_
      refine x_aload_n h dX10_fingerprint_132 rfl 0 rfl (q := 133) rfl ?_
      refine x_get_X10_87_1 h hg kf_X10_7 nn_X10 dX10_fingerprint_133 ?_
      refine x_bipush (v := 100) h dX10_fingerprint_136 (by decide) (q := 138) rfl ?_
      refine x_iload_n h dX10_fingerprint_138 rfl 2 rfl (q := 139) rfl ?_
      refine x_imul h dX10_fingerprint_139 (q := 140) rfl ?_
      refine x_bipush (v := 10) h dX10_fingerprint_140 (by decide) (q := 142) rfl ?_
      refine x_iadd h dX10_fingerprint_142 (q := 143) rfl ?_
      refine x_iload h dX10_fingerprint_143 3 rfl (q := 145) rfl ?_
      refine x_iadd h dX10_fingerprint_145 (q := 146) rfl ?_
      obtain ⟨hi7, hf8⟩ := chk_inv hf6
      refine x_iald (j := (Int32.toNatClampNeg (((100 * x3) + 10) + x4))) h hg a_88 hi7 rfl dX10_fingerprint_146 (q := 147) rfl ?_
      refine x_i2l h dX10_fingerprint_147 (q := 148) rfl ?_
      refine x_ladd h dX10_fingerprint_148 (q := 149) rfl ?_
      refine x_goto (q := 153) h dX10_fingerprint_149 (by decide) ?_
      refine x_sub (lv' := [(0, .ref (gA g 87)), (3, .int x3), (4, .int x4)]) [0, 2, 3] rfl ?_
      exact w_X10_fingerprint_b153 σ x3 x4 ((31 * y1) + ((σ 88 (Int32.toNatClampNeg (((100 * x3) + 10) + x4)))).toInt64) o h hg hL hr k16 k110 hk16 hk110 hf8
set_option maxHeartbeats 4000000 in
set_option maxRecDepth 100000 in
theorem w_X10_fingerprint_l110 {C : XC} {Q : State → Prop} {g : cG} (σ : St) (x3 : Int32) (o : Int64) (h : XOk C cX10_fingerprint RX10 tG rmX10_fingerprint) (hg : XG C g) (hL : C.2.2.2.2.2.2.2.2.2.2.2.2.1 = 5) (hr : XEnd C (some .long) Q (XQ g (some (.long o)) σ) (cA g)) (k16 : (Int64 × Int32) → Option (Int64)) (hk16 : ∀ z : Int64 × Int32, k16 z = some o → Xs C (wW g) Q σ 16 [(0, .ref (gA g 87)), (1, .long z.1), (3, .int z.2)] []) : ∀ (n : Nat) (z : Int64 × Int32), loopF (fun k z => m_X10_fingerprint_b110 σ z.1 x3 z.2 k16 k) n z = some o → Xs C (wW g) Q σ 110 [(0, .ref (gA g 87)), (1, .long z.1), (3, .int x3), (4, .int z.2)] [] := by
  intro n z hf
  refine loopF_ind (S := Int64 × Int32) (O := Int64) (step := (fun k z => m_X10_fingerprint_b110 σ z.1 x3 z.2 k16 k)) (o := o) (P := fun z => Xs C (wW g) Q σ 110 [(0, .ref (gA g 87)), (1, .long z.1), (3, .int x3), (4, .int z.2)] []) ?_ n z hf
  intro k hk z hf
  exact w_X10_fingerprint_b110 σ z.1 x3 z.2 o h hg hL hr k16 k hk16 hk hf
def m_X10_fingerprint_b50 (σ : St) (y1 : Int64) (x3 : Int32) (x4 : Int32) (k16 : (Int64 × Int32) → Option (Int64)) (k50 : (Int64 × Int32) → Option (Int64)) : Option (Int64) :=
  if (σ 87 0) ≤ x4 then (
    loopF (fun k z => m_X10_fingerprint_b110 σ z.1 x3 z.2 k16 k) cFu (y1, 0)
  ) else (
    chk (((100 * x3) + 1) + x4) 1201 <|
    chk (((100 * x3) + 5) + x4) 1201 <|
    k50 (((31 * ((31 * y1) + ((σ 88 (Int32.toNatClampNeg (((100 * x3) + 1) + x4)))).toInt64)) + ((σ 88 (Int32.toNatClampNeg (((100 * x3) + 5) + x4)))).toInt64), (x4 + 1))
  )
set_option maxHeartbeats 4000000 in
set_option maxRecDepth 100000 in
theorem w_X10_fingerprint_b50 {C : XC} {Q : State → Prop} {g : cG} (σ : St) (y1 : Int64) (x3 : Int32) (x4 : Int32) (o : Int64) (h : XOk C cX10_fingerprint RX10 tG rmX10_fingerprint) (hg : XG C g) (hL : C.2.2.2.2.2.2.2.2.2.2.2.2.1 = 5) (hr : XEnd C (some .long) Q (XQ g (some (.long o)) σ) (cA g)) (k16 : (Int64 × Int32) → Option (Int64)) (k50 : (Int64 × Int32) → Option (Int64)) (hk16 : ∀ z : Int64 × Int32, k16 z = some o → Xs C (wW g) Q σ 16 [(0, .ref (gA g 87)), (1, .long z.1), (3, .int z.2)] []) (hk50 : ∀ z : Int64 × Int32, k50 z = some o → Xs C (wW g) Q σ 50 [(0, .ref (gA g 87)), (1, .long z.1), (3, .int x3), (4, .int z.2)] []) (hf : m_X10_fingerprint_b50 σ y1 x3 x4 k16 k50 = some o) : Xs C (wW g) Q σ 50 [(0, .ref (gA g 87)), (1, .long y1), (3, .int x3), (4, .int x4)] [] := by
  unfold m_X10_fingerprint_b50 at hf
  refine x_iload h dX10_fingerprint_50 3 rfl (q := 52) rfl ?_
  refine x_aload_n h dX10_fingerprint_52 rfl 0 rfl (q := 53) rfl ?_
  refine x_get_X10_87_0 h hg kf_X10_82 nn_X10 dX10_fingerprint_53 ?_
  refine x_icmp_ge (tgt := 107) h dX10_fingerprint_56 (by decide) (q := 59) rfl hf (fun hc1 hf2 => ?_) (fun hc1 hf2 => ?_)
  · skip
    refine x_iconst (v := 0) h dX10_fingerprint_107 (by decide) (q := 108) rfl ?_
    refine x_istore (lv' := [(4, .int 0), (0, .ref (gA g 87)), (1, .long y1), (3, .int x3)]) h dX10_fingerprint_108 hL (by decide) rfl (q := 110) rfl ?_
    refine x_sub (lv' := [(0, .ref (gA g 87)), (1, .long y1), (3, .int x3), (4, .int 0)]) [1, 2, 3, 0] rfl ?_
    exact w_X10_fingerprint_l110 σ x3 o h hg hL hr k16 hk16  cFu (y1, 0) hf2
  · skip
    refine x_ldc2 (v := 31) h kc_X10_295 dX10_fingerprint_59 (q := 62) rfl ?_
    refine x_ldc2 (v := 31) h kc_X10_295 dX10_fingerprint_62 (q := 65) rfl ?_
    refine x_lload_n h dX10_fingerprint_65 rfl 1 rfl (q := 66) rfl ?_
    refine x_lmul h dX10_fingerprint_66 (q := 67) rfl ?_
    refine x_aload_n h dX10_fingerprint_67 rfl 0 rfl (q := 68) rfl ?_
    refine x_get_X10_87_1 h hg kf_X10_7 nn_X10 dX10_fingerprint_68 ?_
    refine x_bipush (v := 100) h dX10_fingerprint_71 (by decide) (q := 73) rfl ?_
    refine x_iload_n h dX10_fingerprint_73 rfl 2 rfl (q := 74) rfl ?_
    refine x_imul h dX10_fingerprint_74 (q := 75) rfl ?_
    refine x_iconst (v := 1) h dX10_fingerprint_75 (by decide) (q := 76) rfl ?_
    refine x_iadd h dX10_fingerprint_76 (q := 77) rfl ?_
    refine x_iload h dX10_fingerprint_77 3 rfl (q := 79) rfl ?_
    refine x_iadd h dX10_fingerprint_79 (q := 80) rfl ?_
    obtain ⟨hi3, hf4⟩ := chk_inv hf2
    refine x_iald (j := (Int32.toNatClampNeg (((100 * x3) + 1) + x4))) h hg a_88 hi3 rfl dX10_fingerprint_80 (q := 81) rfl ?_
    refine x_i2l h dX10_fingerprint_81 (q := 82) rfl ?_
    refine x_ladd h dX10_fingerprint_82 (q := 83) rfl ?_
    refine x_lmul h dX10_fingerprint_83 (q := 84) rfl ?_
    refine x_aload_n h dX10_fingerprint_84 rfl 0 rfl (q := 85) rfl ?_
    refine x_get_X10_87_1 h hg kf_X10_7 nn_X10 dX10_fingerprint_85 ?_
    refine x_bipush (v := 100) h dX10_fingerprint_88 (by decide) (q := 90) rfl ?_
    refine x_iload_n h dX10_fingerprint_90 rfl 2 rfl (q := 91) rfl ?_
    refine x_imul h dX10_fingerprint_91 (q := 92) rfl ?_
    refine x_iconst (v := 5) h dX10_fingerprint_92 (by decide) (q := 93) rfl ?_
    refine x_iadd h dX10_fingerprint_93 (q := 94) rfl ?_
    refine x_iload h dX10_fingerprint_94 3 rfl (q := 96) rfl ?_
    refine x_iadd h dX10_fingerprint_96 (q := 97) rfl ?_
    obtain ⟨hi5, hf6⟩ := chk_inv hf4
    refine x_iald (j := (Int32.toNatClampNeg (((100 * x3) + 5) + x4))) h hg a_88 hi5 rfl dX10_fingerprint_97 (q := 98) rfl ?_
    refine x_i2l h dX10_fingerprint_98 (q := 99) rfl ?_
    refine x_ladd h dX10_fingerprint_99 (q := 100) rfl ?_
    refine x_lstore_n (lv' := [(1, .long ((31 * ((31 * y1) + ((σ 88 (Int32.toNatClampNeg (((100 * x3) + 1) + x4)))).toInt64)) + ((σ 88 (Int32.toNatClampNeg (((100 * x3) + 5) + x4)))).toInt64)), (0, .ref (gA g 87)), (3, .int x3), (4, .int x4)]) h dX10_fingerprint_100 rfl hL (by decide) rfl (q := 101) rfl ?_
    refine x_iinc (v := (x4 + 1)) (lv' := [(4, .int (x4 + 1)), (1, .long ((31 * ((31 * y1) + ((σ 88 (Int32.toNatClampNeg (((100 * x3) + 1) + x4)))).toInt64)) + ((σ 88 (Int32.toNatClampNeg (((100 * x3) + 5) + x4)))).toInt64)), (0, .ref (gA g 87)), (3, .int x3)]) (j := 3) h dX10_fingerprint_101 rfl rfl hL (by decide) rfl (q := 104) rfl ?_
    refine x_goto (q := 50) h dX10_fingerprint_104 (by decide) ?_
    refine x_sub (lv' := [(0, .ref (gA g 87)), (1, .long ((31 * ((31 * y1) + ((σ 88 (Int32.toNatClampNeg (((100 * x3) + 1) + x4)))).toInt64)) + ((σ 88 (Int32.toNatClampNeg (((100 * x3) + 5) + x4)))).toInt64)), (3, .int x3), (4, .int (x4 + 1))]) [2, 1, 3, 0] rfl ?_
    exact hk50 (((31 * ((31 * y1) + ((σ 88 (Int32.toNatClampNeg (((100 * x3) + 1) + x4)))).toInt64)) + ((σ 88 (Int32.toNatClampNeg (((100 * x3) + 5) + x4)))).toInt64), (x4 + 1)) hf6
set_option maxHeartbeats 4000000 in
set_option maxRecDepth 100000 in
theorem w_X10_fingerprint_l50 {C : XC} {Q : State → Prop} {g : cG} (σ : St) (x3 : Int32) (o : Int64) (h : XOk C cX10_fingerprint RX10 tG rmX10_fingerprint) (hg : XG C g) (hL : C.2.2.2.2.2.2.2.2.2.2.2.2.1 = 5) (hr : XEnd C (some .long) Q (XQ g (some (.long o)) σ) (cA g)) (k16 : (Int64 × Int32) → Option (Int64)) (hk16 : ∀ z : Int64 × Int32, k16 z = some o → Xs C (wW g) Q σ 16 [(0, .ref (gA g 87)), (1, .long z.1), (3, .int z.2)] []) : ∀ (n : Nat) (z : Int64 × Int32), loopF (fun k z => m_X10_fingerprint_b50 σ z.1 x3 z.2 k16 k) n z = some o → Xs C (wW g) Q σ 50 [(0, .ref (gA g 87)), (1, .long z.1), (3, .int x3), (4, .int z.2)] [] := by
  intro n z hf
  refine loopF_ind (S := Int64 × Int32) (O := Int64) (step := (fun k z => m_X10_fingerprint_b50 σ z.1 x3 z.2 k16 k)) (o := o) (P := fun z => Xs C (wW g) Q σ 50 [(0, .ref (gA g 87)), (1, .long z.1), (3, .int x3), (4, .int z.2)] []) ?_ n z hf
  intro k hk z hf
  exact w_X10_fingerprint_b50 σ z.1 x3 z.2 o h hg hL hr k16 k hk16 hk hf
def m_X10_fingerprint_b16 (σ : St) (y1 : Int64) (x3 : Int32) (k16 : (Int64 × Int32) → Option (Int64)) : Option (Int64) :=
  chk 1200 1201 <|
  if (σ 88 1200) ≤ x3 then (
    some ((31 * y1) + ((σ 87 14)).toInt64)
  ) else (
    chk ((100 * x3) + 0) 1201 <|
    loopF (fun k z => m_X10_fingerprint_b50 σ z.1 x3 z.2 k16 k) cFu (((31 * y1) + ((σ 88 (Int32.toNatClampNeg ((100 * x3) + 0)))).toInt64), 0)
  )
set_option maxHeartbeats 4000000 in
set_option maxRecDepth 100000 in
theorem w_X10_fingerprint_b16 {C : XC} {Q : State → Prop} {g : cG} (σ : St) (y1 : Int64) (x3 : Int32) (o : Int64) (h : XOk C cX10_fingerprint RX10 tG rmX10_fingerprint) (hg : XG C g) (hL : C.2.2.2.2.2.2.2.2.2.2.2.2.1 = 5) (hr : XEnd C (some .long) Q (XQ g (some (.long o)) σ) (cA g)) (k16 : (Int64 × Int32) → Option (Int64)) (hk16 : ∀ z : Int64 × Int32, k16 z = some o → Xs C (wW g) Q σ 16 [(0, .ref (gA g 87)), (1, .long z.1), (3, .int z.2)] []) (hf : m_X10_fingerprint_b16 σ y1 x3 k16 = some o) : Xs C (wW g) Q σ 16 [(0, .ref (gA g 87)), (1, .long y1), (3, .int x3)] [] := by
  unfold m_X10_fingerprint_b16 at hf
  refine x_iload_n h dX10_fingerprint_16 rfl 2 rfl (q := 17) rfl ?_
  refine x_aload_n h dX10_fingerprint_17 rfl 0 rfl (q := 18) rfl ?_
  refine x_get_X10_87_1 h hg kf_X10_7 nn_X10 dX10_fingerprint_18 ?_
  refine x_sipush (v := 1200) h dX10_fingerprint_21 (by decide) (q := 24) rfl ?_
  obtain ⟨hi1, hf2⟩ := chk_inv hf
  refine x_iald (j := 1200) h hg a_88 hi1 (by decide) dX10_fingerprint_24 (q := 25) rfl ?_
  refine x_icmp_ge (tgt := 166) h dX10_fingerprint_25 (by decide) (q := 28) rfl hf2 (fun hc3 hf4 => ?_) (fun hc3 hf4 => ?_)
  · skip
    refine x_ldc2 (v := 31) h kc_X10_295 dX10_fingerprint_166 (q := 169) rfl ?_
    refine x_lload_n h dX10_fingerprint_169 rfl 1 rfl (q := 170) rfl ?_
    refine x_lmul h dX10_fingerprint_170 (q := 171) rfl ?_
    refine x_aload_n h dX10_fingerprint_171 rfl 0 rfl (q := 172) rfl ?_
    refine x_get_X10_87_14 h hg kf_X10_154 nn_X10 dX10_fingerprint_172 ?_
    refine x_i2l h dX10_fingerprint_175 (q := 176) rfl ?_
    refine x_ladd h dX10_fingerprint_176 (q := 177) rfl ?_
    have hz := Option.some.inj hf4
    subst hz
    exact x_lret h hg hr dX10_fingerprint_177
  · skip
    refine x_ldc2 (v := 31) h kc_X10_295 dX10_fingerprint_28 (q := 31) rfl ?_
    refine x_lload_n h dX10_fingerprint_31 rfl 1 rfl (q := 32) rfl ?_
    refine x_lmul h dX10_fingerprint_32 (q := 33) rfl ?_
    refine x_aload_n h dX10_fingerprint_33 rfl 0 rfl (q := 34) rfl ?_
    refine x_get_X10_87_1 h hg kf_X10_7 nn_X10 dX10_fingerprint_34 ?_
    refine x_bipush (v := 100) h dX10_fingerprint_37 (by decide) (q := 39) rfl ?_
    refine x_iload_n h dX10_fingerprint_39 rfl 2 rfl (q := 40) rfl ?_
    refine x_imul h dX10_fingerprint_40 (q := 41) rfl ?_
    refine x_iconst (v := 0) h dX10_fingerprint_41 (by decide) (q := 42) rfl ?_
    refine x_iadd h dX10_fingerprint_42 (q := 43) rfl ?_
    obtain ⟨hi5, hf6⟩ := chk_inv hf4
    refine x_iald (j := (Int32.toNatClampNeg ((100 * x3) + 0))) h hg a_88 hi5 rfl dX10_fingerprint_43 (q := 44) rfl ?_
    refine x_i2l h dX10_fingerprint_44 (q := 45) rfl ?_
    refine x_ladd h dX10_fingerprint_45 (q := 46) rfl ?_
    refine x_lstore_n (lv' := [(1, .long ((31 * y1) + ((σ 88 (Int32.toNatClampNeg ((100 * x3) + 0)))).toInt64)), (0, .ref (gA g 87)), (3, .int x3)]) h dX10_fingerprint_46 rfl hL (by decide) rfl (q := 47) rfl ?_
    refine x_iconst (v := 0) h dX10_fingerprint_47 (by decide) (q := 48) rfl ?_
    refine x_istore (lv' := [(4, .int 0), (1, .long ((31 * y1) + ((σ 88 (Int32.toNatClampNeg ((100 * x3) + 0)))).toInt64)), (0, .ref (gA g 87)), (3, .int x3)]) h dX10_fingerprint_48 hL (by decide) rfl (q := 50) rfl ?_
    refine x_sub (lv' := [(0, .ref (gA g 87)), (1, .long ((31 * y1) + ((σ 88 (Int32.toNatClampNeg ((100 * x3) + 0)))).toInt64)), (3, .int x3), (4, .int 0)]) [2, 1, 3, 0] rfl ?_
    exact w_X10_fingerprint_l50 σ x3 o h hg hL hr k16 hk16  cFu (((31 * y1) + ((σ 88 (Int32.toNatClampNeg ((100 * x3) + 0)))).toInt64), 0) hf6
set_option maxHeartbeats 4000000 in
set_option maxRecDepth 100000 in
theorem w_X10_fingerprint_l16 {C : XC} {Q : State → Prop} {g : cG} (σ : St) (o : Int64) (h : XOk C cX10_fingerprint RX10 tG rmX10_fingerprint) (hg : XG C g) (hL : C.2.2.2.2.2.2.2.2.2.2.2.2.1 = 5) (hr : XEnd C (some .long) Q (XQ g (some (.long o)) σ) (cA g)) : ∀ (n : Nat) (z : Int64 × Int32), loopF (fun k z => m_X10_fingerprint_b16 σ z.1 z.2 k) n z = some o → Xs C (wW g) Q σ 16 [(0, .ref (gA g 87)), (1, .long z.1), (3, .int z.2)] [] := by
  intro n z hf
  refine loopF_ind (S := Int64 × Int32) (O := Int64) (step := (fun k z => m_X10_fingerprint_b16 σ z.1 z.2 k)) (o := o) (P := fun z => Xs C (wW g) Q σ 16 [(0, .ref (gA g 87)), (1, .long z.1), (3, .int z.2)] []) ?_ n z hf
  intro k hk z hf
  exact w_X10_fingerprint_b16 σ z.1 z.2 o h hg hL hr k hk hf
def m_X10_fingerprint (σ : St) : Option (Int64) :=
  chk 1200 1201 <|
  loopF (fun k z => m_X10_fingerprint_b16 σ z.1 z.2 k) cFu ((1271 + ((σ 88 1200)).toInt64), 0)
set_option maxHeartbeats 4000000 in
set_option maxRecDepth 100000 in
theorem w_X10_fingerprint {C : XC} {Q : State → Prop} {g : cG} (σ : St) (o : Int64) (h : XOk C cX10_fingerprint RX10 tG rmX10_fingerprint) (hg : XG C g) (hL : C.2.2.2.2.2.2.2.2.2.2.2.2.1 = 5) (hr : XEnd C (some .long) Q (XQ g (some (.long o)) σ) (cA g)) (hf : m_X10_fingerprint σ = some o) : Xs C (wW g) Q σ 0 [(0, .ref (gA g 87))] [] := by
  unfold m_X10_fingerprint at hf
  refine x_ldc2 (v := 1271) h kc_X10_293 dX10_fingerprint_0 (q := 3) rfl ?_
  refine x_aload_n h dX10_fingerprint_3 rfl 0 rfl (q := 4) rfl ?_
  refine x_get_X10_87_1 h hg kf_X10_7 nn_X10 dX10_fingerprint_4 ?_
  refine x_sipush (v := 1200) h dX10_fingerprint_7 (by decide) (q := 10) rfl ?_
  obtain ⟨hi1, hf2⟩ := chk_inv hf
  refine x_iald (j := 1200) h hg a_88 hi1 (by decide) dX10_fingerprint_10 (q := 11) rfl ?_
  refine x_i2l h dX10_fingerprint_11 (q := 12) rfl ?_
  refine x_ladd h dX10_fingerprint_12 (q := 13) rfl ?_
  refine x_lstore_n (lv' := [(1, .long (1271 + ((σ 88 1200)).toInt64)), (0, .ref (gA g 87))]) h dX10_fingerprint_13 rfl hL (by decide) rfl (q := 14) rfl ?_
  refine x_iconst (v := 0) h dX10_fingerprint_14 (by decide) (q := 15) rfl ?_
  refine x_istore_n (lv' := [(3, .int 0), (1, .long (1271 + ((σ 88 1200)).toInt64)), (0, .ref (gA g 87))]) h dX10_fingerprint_15 rfl hL (by decide) rfl (q := 16) rfl ?_
  refine x_sub (lv' := [(0, .ref (gA g 87)), (1, .long (1271 + ((σ 88 1200)).toInt64)), (3, .int 0)]) [2, 1, 0] rfl ?_
  exact w_X10_fingerprint_l16 σ o h hg hL hr  cFu ((1271 + ((σ 88 1200)).toInt64), 0) hf2
theorem c_X10_fingerprint (l : Launch) {g : cG} (hi : gInj g) (σ : St) (o : Int64) (hf : m_X10_fingerprint σ = some o) : Met l yX10_fingerprint (wT yX10_fingerprint cX10_fingerprint 5 (some .long)) rmX10_fingerprint (va_Pc [.ref (gA g 87)] (XPre g σ)) (XQ g (some (.long o)) σ) 0 0 (cA g) :=
  X_met RX10 hi plX10 rfl (Nat.le_of_ble_eq_true rfl) rfl (fun _ _ _ h hg hL hr => w_X10_fingerprint σ o h hg hL hr hf)
