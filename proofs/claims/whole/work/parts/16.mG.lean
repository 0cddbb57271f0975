abbrev rmX10_type : Room := { frames := 1, cells := 0, slots := 0, locals := 22 }
theorem hdX10_type : yX10_type.cls = RX10 ∧ yX10_type.cls ≠ "java/lang/invoke/MethodHandle" ∧ yX10_type.cls ≠ "java/lang/invoke/VarHandle" ∧ (parseMethodDescriptor yX10_type.desc).map (fun d => d.parameters.length) = some 1 := by decide +kernel
def m_X10_type (σ : St) (x1 : Int32) : Option (Int32 × St) :=
  if (bI (m_X10_in x1 32 126)) = 0 then (
    some ((-1), σ)
  ) else (
    if (σ 87 8) = 60 then (
      some ((-2), σ)
    ) else (
      chk (σ 87 8) 60 <|
      some (((up (up σ 92 (Int32.toNatClampNeg (σ 87 8)) x1) 87 8 (((up σ 92 (Int32.toNatClampNeg (σ 87 8)) x1) 87 8) + 1)) 87 8), (up (up σ 92 (Int32.toNatClampNeg (σ 87 8)) x1) 87 8 (((up σ 92 (Int32.toNatClampNeg (σ 87 8)) x1) 87 8) + 1)))
    )
  )
set_option maxHeartbeats 4000000 in
set_option maxRecDepth 100000 in
theorem w_X10_type {C : XC} {Q : State → Prop} {g : cG} (σ : St) (x1 : Int32) (o : Int32 × St) (h : XOk C cX10_type RX10 tG rmX10_type) (hg : XG C g) (hL : C.2.2.2.2.2.2.2.2.2.2.2.2.1 = 2) (hr : XEnd C (some .int) Q (XQ g (some (.int o.1)) o.2) (cA g)) (hf : m_X10_type σ x1 = some o) : Xs C (wW g) Q σ 0 [(0, .ref (gA g 87)), (1, .int x1)] [] := by
  unfold m_X10_type at hf
  refine x_iload_n h dX10_type_0 rfl 1 rfl (q := 1) rfl ?_
  refine x_bipush (v := 32) h dX10_type_1 (by decide) (q := 3) rfl ?_
  refine x_bipush (v := 126) h dX10_type_3 (by decide) (q := 5) rfl ?_
  refine x_callPi (As := [.int x1, .int 32, .int 126]) (rest := []) h (c_X10_in C.2.1 x1 32 126 _ rfl) ml_X10_93 biX10_in rfl rfl hdX10_in ⟨Nat.le_of_ble_eq_true rfl, Nat.le_of_ble_eq_true rfl⟩ rfl rfl (Nat.le_of_ble_eq_true rfl) dX10_type_5 ?_
  refine x_if_ne (tgt := 13) h dX10_type_8 (by decide) (q := 11) rfl hf (fun hc1 hf2 => ?_) (fun hc1 hf2 => ?_)
  · skip
    refine x_aload_n h dX10_type_13 rfl 0 rfl (q := 14) rfl ?_
    refine x_get_X10_87_8 h hg kf_X10_151 nn_X10 dX10_type_14 ?_
    refine x_bipush (v := 60) h dX10_type_17 (by decide) (q := 19) rfl ?_
    refine x_icmp_ne (tgt := 25) h dX10_type_19 (by decide) (q := 22) rfl hf2 (fun hc3 hf4 => ?_) (fun hc3 hf4 => ?_)
    · skip
      refine x_aload_n h dX10_type_25 rfl 0 rfl (q := 26) rfl ?_
      refine x_get_X10_87_7 h hg kf_X10_22 nn_X10 dX10_type_26 ?_
      refine x_aload_n h dX10_type_29 rfl 0 rfl (q := 30) rfl ?_
      refine x_get_X10_87_8 h hg kf_X10_151 nn_X10 dX10_type_30 ?_
      refine x_iload_n h dX10_type_33 rfl 1 rfl (q := 34) rfl ?_
      obtain ⟨hi5, hf6⟩ := chk_inv hf4
      refine x_iast (j := (Int32.toNatClampNeg (σ 87 8))) h hg a_92 hi5 rfl dX10_type_34 (q := 35) rfl ?_
      refine x_aload_n h dX10_type_35 rfl 0 rfl (q := 36) rfl ?_
      refine x_dup h dX10_type_36 rfl (q := 37) rfl ?_
      refine x_get_X10_87_8 h hg kf_X10_151 nn_X10 dX10_type_37 ?_
      refine x_iconst (v := 1) h dX10_type_40 (by decide) (q := 41) rfl ?_
      refine x_iadd h dX10_type_41 (q := 42) rfl ?_
      refine x_put_X10_87_8 h hg kf_X10_151 nn_X10 dX10_type_42 ?_
      refine x_aload_n h dX10_type_45 rfl 0 rfl (q := 46) rfl ?_
      refine x_get_X10_87_8 h hg kf_X10_151 nn_X10 dX10_type_46 ?_
      have hz := Option.some.inj hf6
      subst hz
      exact x_iret h hg hr dX10_type_49
    · skip
      refine x_bipush (v := (-2)) h dX10_type_22 (by decide) (q := 24) rfl ?_
      have hz := Option.some.inj hf4
      subst hz
      exact x_iret h hg hr dX10_type_24
  · skip
    refine x_iconst (v := (-1)) h dX10_type_11 (by decide) (q := 12) rfl ?_
    have hz := Option.some.inj hf2
    subst hz
    exact x_iret h hg hr dX10_type_12
theorem c_X10_type (l : Launch) {g : cG} (hi : gInj g) (σ : St) (x1 : Int32) (o : Int32 × St) (hf : m_X10_type σ x1 = some o) : Met l yX10_type (wT yX10_type cX10_type 2 (some .int)) rmX10_type (va_Pc [.ref (gA g 87), .int x1] (XPre g σ)) (XQ g (some (.int o.1)) o.2) 0 0 (cA g) :=
  X_met RX10 hi plX10 rfl (Nat.le_of_ble_eq_true rfl) rfl (fun _ _ _ h hg hL hr => w_X10_type σ x1 o h hg hL hr hf)
abbrev rmX10_clear : Room := { frames := 0, cells := 0, slots := 0, locals := 0 }
theorem hdX10_clear : yX10_clear.cls = RX10 ∧ yX10_clear.cls ≠ "java/lang/invoke/MethodHandle" ∧ yX10_clear.cls ≠ "java/lang/invoke/VarHandle" ∧ (parseMethodDescriptor yX10_clear.desc).map (fun d => d.parameters.length) = some 0 := by decide +kernel
def m_X10_clear (σ : St) : Int32 × St :=
  ((σ 87 8), (up σ 87 8 0))
set_option maxHeartbeats 4000000 in
set_option maxRecDepth 100000 in
theorem w_X10_clear {C : XC} {Q : State → Prop} {g : cG} (σ : St) (o : Int32 × St) (h : XOk C cX10_clear RX10 tG rmX10_clear) (hg : XG C g) (hL : C.2.2.2.2.2.2.2.2.2.2.2.2.1 = 2) (hr : XEnd C (some .int) Q (XQ g (some (.int o.1)) o.2) (cA g)) (hf : m_X10_clear σ = o) : Xs C (wW g) Q σ 0 [(0, .ref (gA g 87))] [] := by
  unfold m_X10_clear at hf
  refine x_aload_n h dX10_clear_0 rfl 0 rfl (q := 1) rfl ?_
  refine x_get_X10_87_8 h hg kf_X10_151 nn_X10 dX10_clear_1 ?_
  refine x_istore_n (lv' := [(1, .int (σ 87 8)), (0, .ref (gA g 87))]) h dX10_clear_4 rfl hL (by decide) rfl (q := 5) rfl ?_
  refine x_aload_n h dX10_clear_5 rfl 1 rfl (q := 6) rfl ?_
  refine x_iconst (v := 0) h dX10_clear_6 (by decide) (q := 7) rfl ?_
  refine x_put_X10_87_8 h hg kf_X10_151 nn_X10 dX10_clear_7 ?_
  refine x_iload_n h dX10_clear_10 rfl 0 rfl (q := 11) rfl ?_
  subst hf
  exact x_iret h hg hr dX10_clear_11
theorem c_X10_clear (l : Launch) {g : cG} (hi : gInj g) (σ : St) (o : Int32 × St) (hf : m_X10_clear σ = o) : Met l yX10_clear (wT yX10_clear cX10_clear 2 (some .int)) rmX10_clear (va_Pc [.ref (gA g 87)] (XPre g σ)) (XQ g (some (.int o.1)) o.2) 0 0 (cA g) :=
  X_met RX10 hi plX10 rfl (Nat.le_of_ble_eq_true rfl) rfl (fun _ _ _ h hg hL hr => w_X10_clear σ o h hg hL hr hf)
abbrev rmX10_part : Room := { frames := 0, cells := 0, slots := 0, locals := 0 }
theorem hdX10_part : yX10_part.cls = RX10 ∧ yX10_part.cls ≠ "java/lang/invoke/MethodHandle" ∧ yX10_part.cls ≠ "java/lang/invoke/VarHandle" ∧ (parseMethodDescriptor yX10_part.desc).map (fun d => d.parameters.length) = some 4 := by decide +kernel
def m_X10_part (σ : St) (x1 : Int32) (x2 : Int32) (x3 : Int32) (x4 : Int32) : Option (Int32 × St) :=
  chk ((60 * (σ 87 14)) + (σ 87 15)) 540 <|
  chk ((60 * (σ 87 14)) + (σ 87 15)) 540 <|
  chk ((60 * (σ 87 14)) + (σ 87 15)) 540 <|
  chk ((60 * (σ 87 14)) + (σ 87 15)) 540 <|
  some ((((up (up (up (up (up σ 93 (Int32.toNatClampNeg ((60 * (σ 87 14)) + (σ 87 15))) x1) 94 (Int32.toNatClampNeg ((60 * (σ 87 14)) + (σ 87 15))) x2) 95 (Int32.toNatClampNeg ((60 * (σ 87 14)) + (σ 87 15))) x3) 96 (Int32.toNatClampNeg ((60 * (σ 87 14)) + (σ 87 15))) x4) 87 15 (((up (up (up (up σ 93 (Int32.toNatClampNeg ((60 * (σ 87 14)) + (σ 87 15))) x1) 94 (Int32.toNatClampNeg ((60 * (σ 87 14)) + (σ 87 15))) x2) 95 (Int32.toNatClampNeg ((60 * (σ 87 14)) + (σ 87 15))) x3) 96 (Int32.toNatClampNeg ((60 * (σ 87 14)) + (σ 87 15))) x4) 87 15) + 1)) 87 15) - 1), (up (up (up (up (up σ 93 (Int32.toNatClampNeg ((60 * (σ 87 14)) + (σ 87 15))) x1) 94 (Int32.toNatClampNeg ((60 * (σ 87 14)) + (σ 87 15))) x2) 95 (Int32.toNatClampNeg ((60 * (σ 87 14)) + (σ 87 15))) x3) 96 (Int32.toNatClampNeg ((60 * (σ 87 14)) + (σ 87 15))) x4) 87 15 (((up (up (up (up σ 93 (Int32.toNatClampNeg ((60 * (σ 87 14)) + (σ 87 15))) x1) 94 (Int32.toNatClampNeg ((60 * (σ 87 14)) + (σ 87 15))) x2) 95 (Int32.toNatClampNeg ((60 * (σ 87 14)) + (σ 87 15))) x3) 96 (Int32.toNatClampNeg ((60 * (σ 87 14)) + (σ 87 15))) x4) 87 15) + 1)))
set_option maxHeartbeats 4000000 in
set_option maxRecDepth 100000 in
theorem w_X10_part {C : XC} {Q : State → Prop} {g : cG} (σ : St) (x1 : Int32) (x2 : Int32) (x3 : Int32) (x4 : Int32) (o : Int32 × St) (h : XOk C cX10_part RX10 tG rmX10_part) (hg : XG C g) (hL : C.2.2.2.2.2.2.2.2.2.2.2.2.1 = 6) (hr : XEnd C (some .int) Q (XQ g (some (.int o.1)) o.2) (cA g)) (hf : m_X10_part σ x1 x2 x3 x4 = some o) : Xs C (wW g) Q σ 0 [(0, .ref (gA g 87)), (1, .int x1), (2, .int x2), (3, .int x3), (4, .int x4)] [] := by
  unfold m_X10_part at hf
  refine x_bipush (v := 60) h dX10_part_0 (by decide) (q := 2) rfl ?_
  refine x_aload_n h dX10_part_2 rfl 0 rfl (q := 3) rfl ?_
  refine x_get_X10_87_14 h hg kf_X10_154 nn_X10 dX10_part_3 ?_
  refine x_imul h dX10_part_6 (q := 7) rfl ?_
  refine x_aload_n h dX10_part_7 rfl 0 rfl (q := 8) rfl ?_
  refine x_get_X10_87_15 h hg kf_X10_157 nn_X10 dX10_part_8 ?_
  refine x_iadd h dX10_part_11 (q := 12) rfl ?_
  refine x_istore (lv' := [(5, .int ((60 * (σ 87 14)) + (σ 87 15))), (0, .ref (gA g 87)), (1, .int x1), (2, .int x2), (3, .int x3), (4, .int x4)]) h dX10_part_12 hL (by decide) rfl (q := 14) rfl ?_
  refine x_aload_n h dX10_part_14 rfl 1 rfl (q := 15) rfl ?_
  refine x_get_X10_87_9 h hg kf_X10_25 nn_X10 dX10_part_15 ?_
  refine x_iload h dX10_part_18 0 rfl (q := 20) rfl ?_
  refine x_iload_n h dX10_part_20 rfl 2 rfl (q := 21) rfl ?_
  obtain ⟨hi1, hf2⟩ := chk_inv hf
  refine x_iast (j := (Int32.toNatClampNeg ((60 * (σ 87 14)) + (σ 87 15)))) h hg a_93 hi1 rfl dX10_part_21 (q := 22) rfl ?_
  refine x_aload_n h dX10_part_22 rfl 1 rfl (q := 23) rfl ?_
  refine x_get_X10_87_10 h hg kf_X10_28 nn_X10 dX10_part_23 ?_
  refine x_iload h dX10_part_26 0 rfl (q := 28) rfl ?_
  refine x_iload_n h dX10_part_28 rfl 3 rfl (q := 29) rfl ?_
  obtain ⟨hi3, hf4⟩ := chk_inv hf2
  refine x_iast (j := (Int32.toNatClampNeg ((60 * (σ 87 14)) + (σ 87 15)))) h hg a_94 hi3 rfl dX10_part_29 (q := 30) rfl ?_
  refine x_aload_n h dX10_part_30 rfl 1 rfl (q := 31) rfl ?_
  refine x_get_X10_87_11 h hg kf_X10_31 nn_X10 dX10_part_31 ?_
  refine x_iload h dX10_part_34 0 rfl (q := 36) rfl ?_
  refine x_iload_n h dX10_part_36 rfl 4 rfl (q := 37) rfl ?_
  obtain ⟨hi5, hf6⟩ := chk_inv hf4
  refine x_iast (j := (Int32.toNatClampNeg ((60 * (σ 87 14)) + (σ 87 15)))) h hg a_95 hi5 rfl dX10_part_37 (q := 38) rfl ?_
  refine x_aload_n h dX10_part_38 rfl 1 rfl (q := 39) rfl ?_
  refine x_get_X10_87_12 h hg kf_X10_34 nn_X10 dX10_part_39 ?_
  refine x_iload h dX10_part_42 0 rfl (q := 44) rfl ?_
  refine x_iload h dX10_part_44 5 rfl (q := 46) rfl ?_
  obtain ⟨hi7, hf8⟩ := chk_inv hf6
  refine x_iast (j := (Int32.toNatClampNeg ((60 * (σ 87 14)) + (σ 87 15)))) h hg a_96 hi7 rfl dX10_part_46 (q := 47) rfl ?_
  refine x_aload_n h dX10_part_47 rfl 1 rfl (q := 48) rfl ?_
  refine x_dup h dX10_part_48 rfl (q := 49) rfl ?_
  refine x_get_X10_87_15 h hg kf_X10_157 nn_X10 dX10_part_49 ?_
  refine x_iconst (v := 1) h dX10_part_52 (by decide) (q := 53) rfl ?_
  refine x_iadd h dX10_part_53 (q := 54) rfl ?_
  refine x_put_X10_87_15 h hg kf_X10_157 nn_X10 dX10_part_54 ?_
  refine x_aload_n h dX10_part_57 rfl 1 rfl (q := 58) rfl ?_
  refine x_get_X10_87_15 h hg kf_X10_157 nn_X10 dX10_part_58 ?_
  refine x_iconst (v := 1) h dX10_part_61 (by decide) (q := 62) rfl ?_
  refine x_isub h dX10_part_62 (q := 63) rfl ?_
  have hz := Option.some.inj hf8
  subst hz
  exact x_iret h hg hr dX10_part_63
theorem c_X10_part (l : Launch) {g : cG} (hi : gInj g) (σ : St) (x1 : Int32) (x2 : Int32) (x3 : Int32) (x4 : Int32) (o : Int32 × St) (hf : m_X10_part σ x1 x2 x3 x4 = some o) : Met l yX10_part (wT yX10_part cX10_part 6 (some .int)) rmX10_part (va_Pc [.ref (gA g 87), .int x1, .int x2, .int x3, .int x4] (XPre g σ)) (XQ g (some (.int o.1)) o.2) 0 0 (cA g) :=
  X_met RX10 hi plX10 rfl (Nat.le_of_ble_eq_true rfl) rfl (fun _ _ _ h hg hL hr => w_X10_part σ x1 x2 x3 x4 o h hg hL hr hf)
abbrev rmX10_opens : Room := { frames := 0, cells := 0, slots := 0, locals := 0 }
theorem hdX10_opens : yX10_opens.cls = RX10 ∧ yX10_opens.cls ≠ "java/lang/invoke/MethodHandle" ∧ yX10_opens.cls ≠ "java/lang/invoke/VarHandle" ∧ (parseMethodDescriptor yX10_opens.desc).map (fun d => d.parameters.length) = some 3 := by decide +kernel
def m_X10_opens (σ : St) (x1 : Int32) (x2 : Int32) (x3 : Int32) : Option (St) :=
  chk ((up σ 87 23 ((σ 87 23) + 1)) 87 23) 62 <|
  chk ((up (up σ 87 23 ((σ 87 23) + 1)) 98 (Int32.toNatClampNeg ((up σ 87 23 ((σ 87 23) + 1)) 87 23)) x1) 87 23) 62 <|
  chk ((up (up (up σ 87 23 ((σ 87 23) + 1)) 98 (Int32.toNatClampNeg ((up σ 87 23 ((σ 87 23) + 1)) 87 23)) x1) 99 (Int32.toNatClampNeg ((up (up σ 87 23 ((σ 87 23) + 1)) 98 (Int32.toNatClampNeg ((up σ 87 23 ((σ 87 23) + 1)) 87 23)) x1) 87 23)) (-1)) 87 23) 62 <|
  chk ((up (up (up (up σ 87 23 ((σ 87 23) + 1)) 98 (Int32.toNatClampNeg ((up σ 87 23 ((σ 87 23) + 1)) 87 23)) x1) 99 (Int32.toNatClampNeg ((up (up σ 87 23 ((σ 87 23) + 1)) 98 (Int32.toNatClampNeg ((up σ 87 23 ((σ 87 23) + 1)) 87 23)) x1) 87 23)) (-1)) 100 (Int32.toNatClampNeg ((up (up (up σ 87 23 ((σ 87 23) + 1)) 98 (Int32.toNatClampNeg ((up σ 87 23 ((σ 87 23) + 1)) 87 23)) x1) 99 (Int32.toNatClampNeg ((up (up σ 87 23 ((σ 87 23) + 1)) 98 (Int32.toNatClampNeg ((up σ 87 23 ((σ 87 23) + 1)) 87 23)) x1) 87 23)) (-1)) 87 23)) (-1)) 87 23) 62 <|
  chk ((up (up (up (up (up σ 87 23 ((σ 87 23) + 1)) 98 (Int32.toNatClampNeg ((up σ 87 23 ((σ 87 23) + 1)) 87 23)) x1) 99 (Int32.toNatClampNeg ((up (up σ 87 23 ((σ 87 23) + 1)) 98 (Int32.toNatClampNeg ((up σ 87 23 ((σ 87 23) + 1)) 87 23)) x1) 87 23)) (-1)) 100 (Int32.toNatClampNeg ((up (up (up σ 87 23 ((σ 87 23) + 1)) 98 (Int32.toNatClampNeg ((up σ 87 23 ((σ 87 23) + 1)) 87 23)) x1) 99 (Int32.toNatClampNeg ((up (up σ 87 23 ((σ 87 23) + 1)) 98 (Int32.toNatClampNeg ((up σ 87 23 ((σ 87 23) + 1)) 87 23)) x1) 87 23)) (-1)) 87 23)) (-1)) 102 (Int32.toNatClampNeg ((up (up (up (up σ 87 23 ((σ 87 23) + 1)) 98 (Int32.toNatClampNeg ((up σ 87 23 ((σ 87 23) + 1)) 87 23)) x1) 99 (Int32.toNatClampNeg ((up (up σ 87 23 ((σ 87 23) + 1)) 98 (Int32.toNatClampNeg ((up σ 87 23 ((σ 87 23) + 1)) 87 23)) x1) 87 23)) (-1)) 100 (Int32.toNatClampNeg ((up (up (up σ 87 23 ((σ 87 23) + 1)) 98 (Int32.toNatClampNeg ((up σ 87 23 ((σ 87 23) + 1)) 87 23)) x1) 99 (Int32.toNatClampNeg ((up (up σ 87 23 ((σ 87 23) + 1)) 98 (Int32.toNatClampNeg ((up σ 87 23 ((σ 87 23) + 1)) 87 23)) x1) 87 23)) (-1)) 87 23)) (-1)) 87 23)) ((up (up (up (up σ 87 23 ((σ 87 23) + 1)) 98 (Int32.toNatClampNeg ((up σ 87 23 ((σ 87 23) + 1)) 87 23)) x1) 99 (Int32.toNatClampNeg ((up (up σ 87 23 ((σ 87 23) + 1)) 98 (Int32.toNatClampNeg ((up σ 87 23 ((σ 87 23) + 1)) 87 23)) x1) 87 23)) (-1)) 100 (Int32.toNatClampNeg ((up (up (up σ 87 23 ((σ 87 23) + 1)) 98 (Int32.toNatClampNeg ((up σ 87 23 ((σ 87 23) + 1)) 87 23)) x1) 99 (Int32.toNatClampNeg ((up (up σ 87 23 ((σ 87 23) + 1)) 98 (Int32.toNatClampNeg ((up σ 87 23 ((σ 87 23) + 1)) 87 23)) x1) 87 23)) (-1)) 87 23)) (-1)) 87 26)) 87 23) 62 <|
  chk ((up (up (up (up (up (up σ 87 23 ((σ 87 23) + 1)) 98 (Int32.toNatClampNeg ((up σ 87 23 ((σ 87 23) + 1)) 87 23)) x1) 99 (Int32.toNatClampNeg ((up (up σ 87 23 ((σ 87 23) + 1)) 98 (Int32.toNatClampNeg ((up σ 87 23 ((σ 87 23) + 1)) 87 23)) x1) 87 23)) (-1)) 100 (Int32.toNatClampNeg ((up (up (up σ 87 23 ((σ 87 23) + 1)) 98 (Int32.toNatClampNeg ((up σ 87 23 ((σ 87 23) + 1)) 87 23)) x1) 99 (Int32.toNatClampNeg ((up (up σ 87 23 ((σ 87 23) + 1)) 98 (Int32.toNatClampNeg ((up σ 87 23 ((σ 87 23) + 1)) 87 23)) x1) 87 23)) (-1)) 87 23)) (-1)) 102 (Int32.toNatClampNeg ((up (up (up (up σ 87 23 ((σ 87 23) + 1)) 98 (Int32.toNatClampNeg ((up σ 87 23 ((σ 87 23) + 1)) 87 23)) x1) 99 (Int32.toNatClampNeg ((up (up σ 87 23 ((σ 87 23) + 1)) 98 (Int32.toNatClampNeg ((up σ 87 23 ((σ 87 23) + 1)) 87 23)) x1) 87 23)) (-1)) 100 (Int32.toNatClampNeg ((up (up (up σ 87 23 ((σ 87 23) + 1)) 98 (Int32.toNatClampNeg ((up σ 87 23 ((σ 87 23) + 1)) 87 23)) x1) 99 (Int32.toNatClampNeg ((up (up σ 87 23 ((σ 87 23) + 1)) 98 (Int32.toNatClampNeg ((up σ 87 23 ((σ 87 23) + 1)) 87 23)) x1) 87 23)) (-1)) 87 23)) (-1)) 87 23)) ((up (up (up (up σ 87 23 ((σ 87 23) + 1)) 98 (Int32.toNatClampNeg ((up σ 87 23 ((σ 87 23) + 1)) 87 23)) x1) 99 (Int32.toNatClampNeg ((up (up σ 87 23 ((σ 87 23) + 1)) 98 (Int32.toNatClampNeg ((up σ 87 23 ((σ 87 23) + 1)) 87 23)) x1) 87 23)) (-1)) 100 (Int32.toNatClampNeg ((up (up (up σ 87 23 ((σ 87 23) + 1)) 98 (Int32.toNatClampNeg ((up σ 87 23 ((σ 87 23) + 1)) 87 23)) x1) 99 (Int32.toNatClampNeg ((up (up σ 87 23 ((σ 87 23) + 1)) 98 (Int32.toNatClampNeg ((up σ 87 23 ((σ 87 23) + 1)) 87 23)) x1) 87 23)) (-1)) 87 23)) (-1)) 87 26)) 103 (Int32.toNatClampNeg ((up (up (up (up (up σ 87 23 ((σ 87 23) + 1)) 98 (Int32.toNatClampNeg ((up σ 87 23 ((σ 87 23) + 1)) 87 23)) x1) 99 (Int32.toNatClampNeg ((up (up σ 87 23 ((σ 87 23) + 1)) 98 (Int32.toNatClampNeg ((up σ 87 23 ((σ 87 23) + 1)) 87 23)) x1) 87 23)) (-1)) 100 (Int32.toNatClampNeg ((up (up (up σ 87 23 ((σ 87 23) + 1)) 98 (Int32.toNatClampNeg ((up σ 87 23 ((σ 87 23) + 1)) 87 23)) x1) 99 (Int32.toNatClampNeg ((up (up σ 87 23 ((σ 87 23) + 1)) 98 (Int32.toNatClampNeg ((up σ 87 23 ((σ 87 23) + 1)) 87 23)) x1) 87 23)) (-1)) 87 23)) (-1)) 102 (Int32.toNatClampNeg ((up (up (up (up σ 87 23 ((σ 87 23) + 1)) 98 (Int32.toNatClampNeg ((up σ 87 23 ((σ 87 23) + 1)) 87 23)) x1) 99 (Int32.toNatClampNeg ((up (up σ 87 23 ((σ 87 23) + 1)) 98 (Int32.toNatClampNeg ((up σ 87 23 ((σ 87 23) + 1)) 87 23)) x1) 87 23)) (-1)) 100 (Int32.toNatClampNeg ((up (up (up σ 87 23 ((σ 87 23) + 1)) 98 (Int32.toNatClampNeg ((up σ 87 23 ((σ 87 23) + 1)) 87 23)) x1) 99 (Int32.toNatClampNeg ((up (up σ 87 23 ((σ 87 23) + 1)) 98 (Int32.toNatClampNeg ((up σ 87 23 ((σ 87 23) + 1)) 87 23)) x1) 87 23)) (-1)) 87 23)) (-1)) 87 23)) ((up (up (up (up σ 87 23 ((σ 87 23) + 1)) 98 (Int32.toNatClampNeg ((up σ 87 23 ((σ 87 23) + 1)) 87 23)) x1) 99 (Int32.toNatClampNeg ((up (up σ 87 23 ((σ 87 23) + 1)) 98 (Int32.toNatClampNeg ((up σ 87 23 ((σ 87 23) + 1)) 87 23)) x1) 87 23)) (-1)) 100 (Int32.toNatClampNeg ((up (up (up σ 87 23 ((σ 87 23) + 1)) 98 (Int32.toNatClampNeg ((up σ 87 23 ((σ 87 23) + 1)) 87 23)) x1) 99 (Int32.toNatClampNeg ((up (up σ 87 23 ((σ 87 23) + 1)) 98 (Int32.toNatClampNeg ((up σ 87 23 ((σ 87 23) + 1)) 87 23)) x1) 87 23)) (-1)) 87 23)) (-1)) 87 26)) 87 23)) x2) 87 23) 62 <|
  some (up (up (up (up (up (up (up σ 87 23 ((σ 87 23) + 1)) 98 (Int32.toNatClampNeg ((up σ 87 23 ((σ 87 23) + 1)) 87 23)) x1) 99 (Int32.toNatClampNeg ((up (up σ 87 23 ((σ 87 23) + 1)) 98 (Int32.toNatClampNeg ((up σ 87 23 ((σ 87 23) + 1)) 87 23)) x1) 87 23)) (-1)) 100 (Int32.toNatClampNeg ((up (up (up σ 87 23 ((σ 87 23) + 1)) 98 (Int32.toNatClampNeg ((up σ 87 23 ((σ 87 23) + 1)) 87 23)) x1) 99 (Int32.toNatClampNeg ((up (up σ 87 23 ((σ 87 23) + 1)) 98 (Int32.toNatClampNeg ((up σ 87 23 ((σ 87 23) + 1)) 87 23)) x1) 87 23)) (-1)) 87 23)) (-1)) 102 (Int32.toNatClampNeg ((up (up (up (up σ 87 23 ((σ 87 23) + 1)) 98 (Int32.toNatClampNeg ((up σ 87 23 ((σ 87 23) + 1)) 87 23)) x1) 99 (Int32.toNatClampNeg ((up (up σ 87 23 ((σ 87 23) + 1)) 98 (Int32.toNatClampNeg ((up σ 87 23 ((σ 87 23) + 1)) 87 23)) x1) 87 23)) (-1)) 100 (Int32.toNatClampNeg ((up (up (up σ 87 23 ((σ 87 23) + 1)) 98 (Int32.toNatClampNeg ((up σ 87 23 ((σ 87 23) + 1)) 87 23)) x1) 99 (Int32.toNatClampNeg ((up (up σ 87 23 ((σ 87 23) + 1)) 98 (Int32.toNatClampNeg ((up σ 87 23 ((σ 87 23) + 1)) 87 23)) x1) 87 23)) (-1)) 87 23)) (-1)) 87 23)) ((up (up (up (up σ 87 23 ((σ 87 23) + 1)) 98 (Int32.toNatClampNeg ((up σ 87 23 ((σ 87 23) + 1)) 87 23)) x1) 99 (Int32.toNatClampNeg ((up (up σ 87 23 ((σ 87 23) + 1)) 98 (Int32.toNatClampNeg ((up σ 87 23 ((σ 87 23) + 1)) 87 23)) x1) 87 23)) (-1)) 100 (Int32.toNatClampNeg ((up (up (up σ 87 23 ((σ 87 23) + 1)) 98 (Int32.toNatClampNeg ((up σ 87 23 ((σ 87 23) + 1)) 87 23)) x1) 99 (Int32.toNatClampNeg ((up (up σ 87 23 ((σ 87 23) + 1)) 98 (Int32.toNatClampNeg ((up σ 87 23 ((σ 87 23) + 1)) 87 23)) x1) 87 23)) (-1)) 87 23)) (-1)) 87 26)) 103 (Int32.toNatClampNeg ((up (up (up (up (up σ 87 23 ((σ 87 23) + 1)) 98 (Int32.toNatClampNeg ((up σ 87 23 ((σ 87 23) + 1)) 87 23)) x1) 99 (Int32.toNatClampNeg ((up (up σ 87 23 ((σ 87 23) + 1)) 98 (Int32.toNatClampNeg ((up σ 87 23 ((σ 87 23) + 1)) 87 23)) x1) 87 23)) (-1)) 100 (Int32.toNatClampNeg ((up (up (up σ 87 23 ((σ 87 23) + 1)) 98 (Int32.toNatClampNeg ((up σ 87 23 ((σ 87 23) + 1)) 87 23)) x1) 99 (Int32.toNatClampNeg ((up (up σ 87 23 ((σ 87 23) + 1)) 98 (Int32.toNatClampNeg ((up σ 87 23 ((σ 87 23) + 1)) 87 23)) x1) 87 23)) (-1)) 87 23)) (-1)) 102 (Int32.toNatClampNeg ((up (up (up (up σ 87 23 ((σ 87 23) + 1)) 98 (Int32.toNatClampNeg ((up σ 87 23 ((σ 87 23) + 1)) 87 23)) x1) 99 (Int32.toNatClampNeg ((up (up σ 87 23 ((σ 87 23) + 1)) 98 (Int32.toNatClampNeg ((up σ 87 23 ((σ 87 23) + 1)) 87 23)) x1) 87 23)) (-1)) 100 (Int32.toNatClampNeg ((up (up (up σ 87 23 ((σ 87 23) + 1)) 98 (Int32.toNatClampNeg ((up σ 87 23 ((σ 87 23) + 1)) 87 23)) x1) 99 (Int32.toNatClampNeg ((up (up σ 87 23 ((σ 87 23) + 1)) 98 (Int32.toNatClampNeg ((up σ 87 23 ((σ 87 23) + 1)) 87 23)) x1) 87 23)) (-1)) 87 23)) (-1)) 87 23)) ((up (up (up (up σ 87 23 ((σ 87 23) + 1)) 98 (Int32.toNatClampNeg ((up σ 87 23 ((σ 87 23) + 1)) 87 23)) x1) 99 (Int32.toNatClampNeg ((up (up σ 87 23 ((σ 87 23) + 1)) 98 (Int32.toNatClampNeg ((up σ 87 23 ((σ 87 23) + 1)) 87 23)) x1) 87 23)) (-1)) 100 (Int32.toNatClampNeg ((up (up (up σ 87 23 ((σ 87 23) + 1)) 98 (Int32.toNatClampNeg ((up σ 87 23 ((σ 87 23) + 1)) 87 23)) x1) 99 (Int32.toNatClampNeg ((up (up σ 87 23 ((σ 87 23) + 1)) 98 (Int32.toNatClampNeg ((up σ 87 23 ((σ 87 23) + 1)) 87 23)) x1) 87 23)) (-1)) 87 23)) (-1)) 87 26)) 87 23)) x2) 104 (Int32.toNatClampNeg ((up (up (up (up (up (up σ 87 23 ((σ 87 23) + 1)) 98 (Int32.toNatClampNeg ((up σ 87 23 ((σ 87 23) + 1)) 87 23)) x1) 99 (Int32.toNatClampNeg ((up (up σ 87 23 ((σ 87 23) + 1)) 98 (Int32.toNatClampNeg ((up σ 87 23 ((σ 87 23) + 1)) 87 23)) x1) 87 23)) (-1)) 100 (Int32.toNatClampNeg ((up (up (up σ 87 23 ((σ 87 23) + 1)) 98 (Int32.toNatClampNeg ((up σ 87 23 ((σ 87 23) + 1)) 87 23)) x1) 99 (Int32.toNatClampNeg ((up (up σ 87 23 ((σ 87 23) + 1)) 98 (Int32.toNatClampNeg ((up σ 87 23 ((σ 87 23) + 1)) 87 23)) x1) 87 23)) (-1)) 87 23)) (-1)) 102 (Int32.toNatClampNeg ((up (up (up (up σ 87 23 ((σ 87 23) + 1)) 98 (Int32.toNatClampNeg ((up σ 87 23 ((σ 87 23) + 1)) 87 23)) x1) 99 (Int32.toNatClampNeg ((up (up σ 87 23 ((σ 87 23) + 1)) 98 (Int32.toNatClampNeg ((up σ 87 23 ((σ 87 23) + 1)) 87 23)) x1) 87 23)) (-1)) 100 (Int32.toNatClampNeg ((up (up (up σ 87 23 ((σ 87 23) + 1)) 98 (Int32.toNatClampNeg ((up σ 87 23 ((σ 87 23) + 1)) 87 23)) x1) 99 (Int32.toNatClampNeg ((up (up σ 87 23 ((σ 87 23) + 1)) 98 (Int32.toNatClampNeg ((up σ 87 23 ((σ 87 23) + 1)) 87 23)) x1) 87 23)) (-1)) 87 23)) (-1)) 87 23)) ((up (up (up (up σ 87 23 ((σ 87 23) + 1)) 98 (Int32.toNatClampNeg ((up σ 87 23 ((σ 87 23) + 1)) 87 23)) x1) 99 (Int32.toNatClampNeg ((up (up σ 87 23 ((σ 87 23) + 1)) 98 (Int32.toNatClampNeg ((up σ 87 23 ((σ 87 23) + 1)) 87 23)) x1) 87 23)) (-1)) 100 (Int32.toNatClampNeg ((up (up (up σ 87 23 ((σ 87 23) + 1)) 98 (Int32.toNatClampNeg ((up σ 87 23 ((σ 87 23) + 1)) 87 23)) x1) 99 (Int32.toNatClampNeg ((up (up σ 87 23 ((σ 87 23) + 1)) 98 (Int32.toNatClampNeg ((up σ 87 23 ((σ 87 23) + 1)) 87 23)) x1) 87 23)) (-1)) 87 23)) (-1)) 87 26)) 103 (Int32.toNatClampNeg ((up (up (up (up (up σ 87 23 ((σ 87 23) + 1)) 98 (Int32.toNatClampNeg ((up σ 87 23 ((σ 87 23) + 1)) 87 23)) x1) 99 (Int32.toNatClampNeg ((up (up σ 87 23 ((σ 87 23) + 1)) 98 (Int32.toNatClampNeg ((up σ 87 23 ((σ 87 23) + 1)) 87 23)) x1) 87 23)) (-1)) 100 (Int32.toNatClampNeg ((up (up (up σ 87 23 ((σ 87 23) + 1)) 98 (Int32.toNatClampNeg ((up σ 87 23 ((σ 87 23) + 1)) 87 23)) x1) 99 (Int32.toNatClampNeg ((up (up σ 87 23 ((σ 87 23) + 1)) 98 (Int32.toNatClampNeg ((up σ 87 23 ((σ 87 23) + 1)) 87 23)) x1) 87 23)) (-1)) 87 23)) (-1)) 102 (Int32.toNatClampNeg ((up (up (up (up σ 87 23 ((σ 87 23) + 1)) 98 (Int32.toNatClampNeg ((up σ 87 23 ((σ 87 23) + 1)) 87 23)) x1) 99 (Int32.toNatClampNeg ((up (up σ 87 23 ((σ 87 23) + 1)) 98 (Int32.toNatClampNeg ((up σ 87 23 ((σ 87 23) + 1)) 87 23)) x1) 87 23)) (-1)) 100 (Int32.toNatClampNeg ((up (up (up σ 87 23 ((σ 87 23) + 1)) 98 (Int32.toNatClampNeg ((up σ 87 23 ((σ 87 23) + 1)) 87 23)) x1) 99 (Int32.toNatClampNeg ((up (up σ 87 23 ((σ 87 23) + 1)) 98 (Int32.toNatClampNeg ((up σ 87 23 ((σ 87 23) + 1)) 87 23)) x1) 87 23)) (-1)) 87 23)) (-1)) 87 23)) ((up (up (up (up σ 87 23 ((σ 87 23) + 1)) 98 (Int32.toNatClampNeg ((up σ 87 23 ((σ 87 23) + 1)) 87 23)) x1) 99 (Int32.toNatClampNeg ((up (up σ 87 23 ((σ 87 23) + 1)) 98 (Int32.toNatClampNeg ((up σ 87 23 ((σ 87 23) + 1)) 87 23)) x1) 87 23)) (-1)) 100 (Int32.toNatClampNeg ((up (up (up σ 87 23 ((σ 87 23) + 1)) 98 (Int32.toNatClampNeg ((up σ 87 23 ((σ 87 23) + 1)) 87 23)) x1) 99 (Int32.toNatClampNeg ((up (up σ 87 23 ((σ 87 23) + 1)) 98 (Int32.toNatClampNeg ((up σ 87 23 ((σ 87 23) + 1)) 87 23)) x1) 87 23)) (-1)) 87 23)) (-1)) 87 26)) 87 23)) x2) 87 23)) x3)
set_option maxHeartbeats 4000000 in
set_option maxRecDepth 100000 in
theorem w_X10_opens {C : XC} {Q : State → Prop} {g : cG} (σ : St) (x1 : Int32) (x2 : Int32) (x3 : Int32) (o : St) (h : XOk C cX10_opens RX10 tG rmX10_opens) (hg : XG C g) (hL : C.2.2.2.2.2.2.2.2.2.2.2.2.1 = 4) (hr : XEnd C none Q (XQ g (none) o) (cA g)) (hf : m_X10_opens σ x1 x2 x3 = some o) : Xs C (wW g) Q σ 0 [(0, .ref (gA g 87)), (1, .int x1), (2, .int x2), (3, .int x3)] [] := by
  unfold m_X10_opens at hf
  refine x_aload_n h dX10_opens_0 rfl 0 rfl (q := 1) rfl ?_
  refine x_dup h dX10_opens_1 rfl (q := 2) rfl ?_
  refine x_get_X10_87_23 h hg kf_X10_160 nn_X10 dX10_opens_2 ?_
  refine x_iconst (v := 1) h dX10_opens_5 (by decide) (q := 6) rfl ?_
  refine x_iadd h dX10_opens_6 (q := 7) rfl ?_
  refine x_put_X10_87_23 h hg kf_X10_160 nn_X10 dX10_opens_7 ?_
  refine x_aload_n h dX10_opens_10 rfl 0 rfl (q := 11) rfl ?_
  refine x_get_X10_87_16 h hg kf_X10_40 nn_X10 dX10_opens_11 ?_
  refine x_aload_n h dX10_opens_14 rfl 0 rfl (q := 15) rfl ?_
  refine x_get_X10_87_23 h hg kf_X10_160 nn_X10 dX10_opens_15 ?_
  refine x_iload_n h dX10_opens_18 rfl 1 rfl (q := 19) rfl ?_
  obtain ⟨hi1, hf2⟩ := chk_inv hf
  refine x_iast (j := (Int32.toNatClampNeg ((up σ 87 23 ((σ 87 23) + 1)) 87 23))) h hg a_98 hi1 rfl dX10_opens_19 (q := 20) rfl ?_
  refine x_aload_n h dX10_opens_20 rfl 0 rfl (q := 21) rfl ?_
  refine x_get_X10_87_17 h hg kf_X10_43 nn_X10 dX10_opens_21 ?_
  refine x_aload_n h dX10_opens_24 rfl 0 rfl (q := 25) rfl ?_
  refine x_get_X10_87_23 h hg kf_X10_160 nn_X10 dX10_opens_25 ?_
  refine x_iconst (v := (-1)) h dX10_opens_28 (by decide) (q := 29) rfl ?_
  obtain ⟨hi3, hf4⟩ := chk_inv hf2
  refine x_iast (j := (Int32.toNatClampNeg ((up (up σ 87 23 ((σ 87 23) + 1)) 98 (Int32.toNatClampNeg ((up σ 87 23 ((σ 87 23) + 1)) 87 23)) x1) 87 23))) h hg a_99 hi3 rfl dX10_opens_29 (q := 30) rfl ?_
  refine x_aload_n h dX10_opens_30 rfl 0 rfl (q := 31) rfl ?_
  refine x_get_X10_87_18 h hg kf_X10_46 nn_X10 dX10_opens_31 ?_
  refine x_aload_n h dX10_opens_34 rfl 0 rfl (q := 35) rfl ?_
  refine x_get_X10_87_23 h hg kf_X10_160 nn_X10 dX10_opens_35 ?_
  refine x_iconst (v := (-1)) h dX10_opens_38 (by decide) (q := 39) rfl ?_
  obtain ⟨hi5, hf6⟩ := chk_inv hf4
  refine x_iast (j := (Int32.toNatClampNeg ((up (up (up σ 87 23 ((σ 87 23) + 1)) 98 (Int32.toNatClampNeg ((up σ 87 23 ((σ 87 23) + 1)) 87 23)) x1) 99 (Int32.toNatClampNeg ((up (up σ 87 23 ((σ 87 23) + 1)) 98 (Int32.toNatClampNeg ((up σ 87 23 ((σ 87 23) + 1)) 87 23)) x1) 87 23)) (-1)) 87 23))) h hg a_100 hi5 rfl dX10_opens_39 (q := 40) rfl ?_
  refine x_aload_n h dX10_opens_40 rfl 0 rfl (q := 41) rfl ?_
  refine x_get_X10_87_20 h hg kf_X10_52 nn_X10 dX10_opens_41 ?_
  refine x_aload_n h dX10_opens_44 rfl 0 rfl (q := 45) rfl ?_
  refine x_get_X10_87_23 h hg kf_X10_160 nn_X10 dX10_opens_45 ?_
  refine x_aload_n h dX10_opens_48 rfl 0 rfl (q := 49) rfl ?_
  refine x_get_X10_87_26 h hg kf_X10_163 nn_X10 dX10_opens_49 ?_
  obtain ⟨hi7, hf8⟩ := chk_inv hf6
  refine x_iast (j := (Int32.toNatClampNeg ((up (up (up (up σ 87 23 ((σ 87 23) + 1)) 98 (Int32.toNatClampNeg ((up σ 87 23 ((σ 87 23) + 1)) 87 23)) x1) 99 (Int32.toNatClampNeg ((up (up σ 87 23 ((σ 87 23) + 1)) 98 (Int32.toNatClampNeg ((up σ 87 23 ((σ 87 23) + 1)) 87 23)) x1) 87 23)) (-1)) 100 (Int32.toNatClampNeg ((up (up (up σ 87 23 ((σ 87 23) + 1)) 98 (Int32.toNatClampNeg ((up σ 87 23 ((σ 87 23) + 1)) 87 23)) x1) 99 (Int32.toNatClampNeg ((up (up σ 87 23 ((σ 87 23) + 1)) 98 (Int32.toNatClampNeg ((up σ 87 23 ((σ 87 23) + 1)) 87 23)) x1) 87 23)) (-1)) 87 23)) (-1)) 87 23))) h hg a_102 hi7 rfl dX10_opens_52 (q := 53) rfl ?_
  refine x_aload_n h dX10_opens_53 rfl 0 rfl (q := 54) rfl ?_
  refine x_get_X10_87_21 h hg kf_X10_55 nn_X10 dX10_opens_54 ?_
  refine x_aload_n h dX10_opens_57 rfl 0 rfl (q := 58) rfl ?_
  refine x_get_X10_87_23 h hg kf_X10_160 nn_X10 dX10_opens_58 ?_
  refine x_iload_n h dX10_opens_61 rfl 2 rfl (q := 62) rfl ?_
  obtain ⟨hi9, hf10⟩ := chk_inv hf8
  refine x_iast (j := (Int32.toNatClampNeg ((up (up (up (up (up σ 87 23 ((σ 87 23) + 1)) 98 (Int32.toNatClampNeg ((up σ 87 23 ((σ 87 23) + 1)) 87 23)) x1) 99 (Int32.toNatClampNeg ((up (up σ 87 23 ((σ 87 23) + 1)) 98 (Int32.toNatClampNeg ((up σ 87 23 ((σ 87 23) + 1)) 87 23)) x1) 87 23)) (-1)) 100 (Int32.toNatClampNeg ((up (up (up σ 87 23 ((σ 87 23) + 1)) 98 (Int32.toNatClampNeg ((up σ 87 23 ((σ 87 23) + 1)) 87 23)) x1) 99 (Int32.toNatClampNeg ((up (up σ 87 23 ((σ 87 23) + 1)) 98 (Int32.toNatClampNeg ((up σ 87 23 ((σ 87 23) + 1)) 87 23)) x1) 87 23)) (-1)) 87 23)) (-1)) 102 (Int32.toNatClampNeg ((up (up (up (up σ 87 23 ((σ 87 23) + 1)) 98 (Int32.toNatClampNeg ((up σ 87 23 ((σ 87 23) + 1)) 87 23)) x1) 99 (Int32.toNatClampNeg ((up (up σ 87 23 ((σ 87 23) + 1)) 98 (Int32.toNatClampNeg ((up σ 87 23 ((σ 87 23) + 1)) 87 23)) x1) 87 23)) (-1)) 100 (Int32.toNatClampNeg ((up (up (up σ 87 23 ((σ 87 23) + 1)) 98 (Int32.toNatClampNeg ((up σ 87 23 ((σ 87 23) + 1)) 87 23)) x1) 99 (Int32.toNatClampNeg ((up (up σ 87 23 ((σ 87 23) + 1)) 98 (Int32.toNatClampNeg ((up σ 87 23 ((σ 87 23) + 1)) 87 23)) x1) 87 23)) (-1)) 87 23)) (-1)) 87 23)) ((up (up (up (up σ 87 23 ((σ 87 23) + 1)) 98 (Int32.toNatClampNeg ((up σ 87 23 ((σ 87 23) + 1)) 87 23)) x1) 99 (Int32.toNatClampNeg ((up (up σ 87 23 ((σ 87 23) + 1)) 98 (Int32.toNatClampNeg ((up σ 87 23 ((σ 87 23) + 1)) 87 23)) x1) 87 23)) (-1)) 100 (Int32.toNatClampNeg ((up (up (up σ 87 23 ((σ 87 23) + 1)) 98 (Int32.toNatClampNeg ((up σ 87 23 ((σ 87 23) + 1)) 87 23)) x1) 99 (Int32.toNatClampNeg ((up (up σ 87 23 ((σ 87 23) + 1)) 98 (Int32.toNatClampNeg ((up σ 87 23 ((σ 87 23) + 1)) 87 23)) x1) 87 23)) (-1)) 87 23)) (-1)) 87 26)) 87 23))) h hg a_103 hi9 rfl dX10_opens_62 (q := 63) rfl ?_
  refine x_aload_n h dX10_opens_63 rfl 0 rfl (q := 64) rfl ?_
  refine x_get_X10_87_22 h hg kf_X10_58 nn_X10 dX10_opens_64 ?_
  refine x_aload_n h dX10_opens_67 rfl 0 rfl (q := 68) rfl ?_
  refine x_get_X10_87_23 h hg kf_X10_160 nn_X10 dX10_opens_68 ?_
  refine x_iload_n h dX10_opens_71 rfl 3 rfl (q := 72) rfl ?_
  obtain ⟨hi11, hf12⟩ := chk_inv hf10
  refine x_iast (j := (Int32.toNatClampNeg ((up (up (up (up (up (up σ 87 23 ((σ 87 23) + 1)) 98 (Int32.toNatClampNeg ((up σ 87 23 ((σ 87 23) + 1)) 87 23)) x1) 99 (Int32.toNatClampNeg ((up (up σ 87 23 ((σ 87 23) + 1)) 98 (Int32.toNatClampNeg ((up σ 87 23 ((σ 87 23) + 1)) 87 23)) x1) 87 23)) (-1)) 100 (Int32.toNatClampNeg ((up (up (up σ 87 23 ((σ 87 23) + 1)) 98 (Int32.toNatClampNeg ((up σ 87 23 ((σ 87 23) + 1)) 87 23)) x1) 99 (Int32.toNatClampNeg ((up (up σ 87 23 ((σ 87 23) + 1)) 98 (Int32.toNatClampNeg ((up σ 87 23 ((σ 87 23) + 1)) 87 23)) x1) 87 23)) (-1)) 87 23)) (-1)) 102 (Int32.toNatClampNeg ((up (up (up (up σ 87 23 ((σ 87 23) + 1)) 98 (Int32.toNatClampNeg ((up σ 87 23 ((σ 87 23) + 1)) 87 23)) x1) 99 (Int32.toNatClampNeg ((up (up σ 87 23 ((σ 87 23) + 1)) 98 (Int32.toNatClampNeg ((up σ 87 23 ((σ 87 23) + 1)) 87 23)) x1) 87 23)) (-1)) 100 (Int32.toNatClampNeg ((up (up (up σ 87 23 ((σ 87 23) + 1)) 98 (Int32.toNatClampNeg ((up σ 87 23 ((σ 87 23) + 1)) 87 23)) x1) 99 (Int32.toNatClampNeg ((up (up σ 87 23 ((σ 87 23) + 1)) 98 (Int32.toNatClampNeg ((up σ 87 23 ((σ 87 23) + 1)) 87 23)) x1) 87 23)) (-1)) 87 23)) (-1)) 87 23)) ((up (up (up (up σ 87 23 ((σ 87 23) + 1)) 98 (Int32.toNatClampNeg ((up σ 87 23 ((σ 87 23) + 1)) 87 23)) x1) 99 (Int32.toNatClampNeg ((up (up σ 87 23 ((σ 87 23) + 1)) 98 (Int32.toNatClampNeg ((up σ 87 23 ((σ 87 23) + 1)) 87 23)) x1) 87 23)) (-1)) 100 (Int32.toNatClampNeg ((up (up (up σ 87 23 ((σ 87 23) + 1)) 98 (Int32.toNatClampNeg ((up σ 87 23 ((σ 87 23) + 1)) 87 23)) x1) 99 (Int32.toNatClampNeg ((up (up σ 87 23 ((σ 87 23) + 1)) 98 (Int32.toNatClampNeg ((up σ 87 23 ((σ 87 23) + 1)) 87 23)) x1) 87 23)) (-1)) 87 23)) (-1)) 87 26)) 103 (Int32.toNatClampNeg ((up (up (up (up (up σ 87 23 ((σ 87 23) + 1)) 98 (Int32.toNatClampNeg ((up σ 87 23 ((σ 87 23) + 1)) 87 23)) x1) 99 (Int32.toNatClampNeg ((up (up σ 87 23 ((σ 87 23) + 1)) 98 (Int32.toNatClampNeg ((up σ 87 23 ((σ 87 23) + 1)) 87 23)) x1) 87 23)) (-1)) 100 (Int32.toNatClampNeg ((up (up (up σ 87 23 ((σ 87 23) + 1)) 98 (Int32.toNatClampNeg ((up σ 87 23 ((σ 87 23) + 1)) 87 23)) x1) 99 (Int32.toNatClampNeg ((up (up σ 87 23 ((σ 87 23) + 1)) 98 (Int32.toNatClampNeg ((up σ 87 23 ((σ 87 23) + 1)) 87 23)) x1) 87 23)) (-1)) 87 23)) (-1)) 102 (Int32.toNatClampNeg ((up (up (up (up σ 87 23 ((σ 87 23) + 1)) 98 (Int32.toNatClampNeg ((up σ 87 23 ((σ 87 23) + 1)) 87 23)) x1) 99 (Int32.toNatClampNeg ((up (up σ 87 23 ((σ 87 23) + 1)) 98 (Int32.toNatClampNeg ((up σ 87 23 ((σ 87 23) + 1)) 87 23)) x1) 87 23)) (-1)) 100 (Int32.toNatClampNeg ((up (up (up σ 87 23 ((σ 87 23) + 1)) 98 (Int32.toNatClampNeg ((up σ 87 23 ((σ 87 23) + 1)) 87 23)) x1) 99 (Int32.toNatClampNeg ((up (up σ 87 23 ((σ 87 23) + 1)) 98 (Int32.toNatClampNeg ((up σ 87 23 ((σ 87 23) + 1)) 87 23)) x1) 87 23)) (-1)) 87 23)) (-1)) 87 23)) ((up (up (up (up σ 87 23 ((σ 87 23) + 1)) 98 (Int32.toNatClampNeg ((up σ 87 23 ((σ 87 23) + 1)) 87 23)) x1) 99 (Int32.toNatClampNeg ((up (up σ 87 23 ((σ 87 23) + 1)) 98 (Int32.toNatClampNeg ((up σ 87 23 ((σ 87 23) + 1)) 87 23)) x1) 87 23)) (-1)) 100 (Int32.toNatClampNeg ((up (up (up σ 87 23 ((σ 87 23) + 1)) 98 (Int32.toNatClampNeg ((up σ 87 23 ((σ 87 23) + 1)) 87 23)) x1) 99 (Int32.toNatClampNeg ((up (up σ 87 23 ((σ 87 23) + 1)) 98 (Int32.toNatClampNeg ((up σ 87 23 ((σ 87 23) + 1)) 87 23)) x1) 87 23)) (-1)) 87 23)) (-1)) 87 26)) 87 23)) x2) 87 23))) h hg a_104 hi11 rfl dX10_opens_72 (q := 73) rfl ?_
  have hz := Option.some.inj hf12
  subst hz
  exact x_vret h hg hr dX10_opens_73
theorem c_X10_opens (l : Launch) {g : cG} (hi : gInj g) (σ : St) (x1 : Int32) (x2 : Int32) (x3 : Int32) (o : St) (hf : m_X10_opens σ x1 x2 x3 = some o) : Met l yX10_opens (wT yX10_opens cX10_opens 4 none) rmX10_opens (va_Pc [.ref (gA g 87), .int x1, .int x2, .int x3] (XPre g σ)) (XQ g (none) o) 0 0 (cA g) :=
  X_met RX10 hi plX10 rfl (Nat.le_of_ble_eq_true rfl) rfl (fun _ _ _ h hg hL hr => w_X10_opens σ x1 x2 x3 o h hg hL hr hf)
abbrev rmX10_unit : Room := { frames := 1, cells := 0, slots := 0, locals := 25 }
theorem hdX10_unit : yX10_unit.cls = RX10 ∧ yX10_unit.cls ≠ "java/lang/invoke/MethodHandle" ∧ yX10_unit.cls ≠ "java/lang/invoke/VarHandle" ∧ (parseMethodDescriptor yX10_unit.desc).map (fun d => d.parameters.length) = some 1 := by decide +kernel
def m_X10_unit_b96 (σ : St) (s0 : Int32) (s1 : Int32) : Option (St) :=
  chk s1 62 <|
  some (up σ 100 (Int32.toNatClampNeg s1) s0)
set_option maxHeartbeats 4000000 in
set_option maxRecDepth 100000 in
theorem w_X10_unit_b96 {C : XC} {Q : State → Prop} {g : cG} (σ : St) (s0 : Int32) (s1 : Int32) (o : St) (h : XOk C cX10_unit RX10 tG rmX10_unit) (hg : XG C g) (hL : C.2.2.2.2.2.2.2.2.2.2.2.2.1 = 3) (hr : XEnd C none Q (XQ g (none) o) (cA g)) (hf : m_X10_unit_b96 σ s0 s1  = some o) : Xs C (wW g) Q σ 96 [] [.int s0, .int s1, .ref (gA g 100)] := by
  unfold m_X10_unit_b96 at hf
  obtain ⟨hi1, hf2⟩ := chk_inv hf
  refine x_iast (j := (Int32.toNatClampNeg s1)) h hg a_100 hi1 rfl dX10_unit_96 (q := 97) rfl ?_
  have hz := Option.some.inj hf2
  subst hz
  exact x_vret h hg hr dX10_unit_97
def m_X10_unit_b2 (σ : St) (x2 : Int32) (k2 : (St × Int32) → Option (St)) : Option (St) :=
  chk (σ 87 23) 62 <|
  if (σ 87 26) ≤ (σ 102 (Int32.toNatClampNeg (σ 87 23))) then (
    chk (σ 87 23) 62 <|
    if 0 ≤ (σ 100 (Int32.toNatClampNeg (σ 87 23))) then (
      chk (σ 87 23) 62 <|
      (m_X10_part σ 4 (σ 100 (Int32.toNatClampNeg (σ 87 23))) x2 0).bind fun u11 =>
      m_X10_unit_b96 u11.2 u11.1 (σ 87 23)
    ) else (
      m_X10_unit_b96 σ x2 (σ 87 23)
    )
  ) else (
    chk ((up σ 87 26 ((σ 87 26) - 1)) 87 26) 62 <|
    chk ((up σ 87 26 ((σ 87 26) - 1)) 87 26) 62 <|
    (m_X10_part (up σ 87 26 ((σ 87 26) - 1)) ((up σ 87 26 ((σ 87 26) - 1)) 105 (Int32.toNatClampNeg ((up σ 87 26 ((σ 87 26) - 1)) 87 26))) x2 (-1) ((up σ 87 26 ((σ 87 26) - 1)) 106 (Int32.toNatClampNeg ((up σ 87 26 ((σ 87 26) - 1)) 87 26)))).bind fun u17 =>
    k2 (u17.2, u17.1)
  )
set_option maxHeartbeats 4000000 in
set_option maxRecDepth 100000 in
theorem w_X10_unit_b2 {C : XC} {Q : State → Prop} {g : cG} (σ : St) (x2 : Int32) (o : St) (h : XOk C cX10_unit RX10 tG rmX10_unit) (hg : XG C g) (hL : C.2.2.2.2.2.2.2.2.2.2.2.2.1 = 3) (hr : XEnd C none Q (XQ g (none) o) (cA g)) (k2 : (St × Int32) → Option (St)) (hk2 : ∀ z : St × Int32, k2 z = some o → Xs C (wW g) Q z.1 2 [(0, .ref (gA g 87)), (2, .int z.2)] []) (hf : m_X10_unit_b2 σ x2 k2 = some o) : Xs C (wW g) Q σ 2 [(0, .ref (gA g 87)), (2, .int x2)] [] := by
  unfold m_X10_unit_b2 at hf
  refine x_aload_n h dX10_unit_2 rfl 0 rfl (q := 3) rfl ?_
  refine x_get_X10_87_26 h hg kf_X10_163 nn_X10 dX10_unit_3 ?_
  refine x_aload_n h dX10_unit_6 rfl 0 rfl (q := 7) rfl ?_
  refine x_get_X10_87_20 h hg kf_X10_52 nn_X10 dX10_unit_7 ?_
  refine x_aload_n h dX10_unit_10 rfl 0 rfl (q := 11) rfl ?_
  refine x_get_X10_87_23 h hg kf_X10_160 nn_X10 dX10_unit_11 ?_
  obtain ⟨hi1, hf2⟩ := chk_inv hf
  refine x_iald (j := (Int32.toNatClampNeg (σ 87 23))) h hg a_102 hi1 rfl dX10_unit_14 (q := 15) rfl ?_
  refine x_icmp_le (tgt := 56) h dX10_unit_15 (by decide) (q := 18) rfl hf2 (fun hc3 hf4 => ?_) (fun hc3 hf4 => ?_)
  · skip
    refine x_aload_n h dX10_unit_56 rfl 0 rfl (q := 57) rfl ?_
    refine x_get_X10_87_18 h hg kf_X10_46 nn_X10 dX10_unit_57 ?_
    refine x_aload_n h dX10_unit_60 rfl 0 rfl (q := 61) rfl ?_
    refine x_get_X10_87_23 h hg kf_X10_160 nn_X10 dX10_unit_61 ?_
    refine x_aload_n h dX10_unit_64 rfl 0 rfl (q := 65) rfl ?_
    refine x_get_X10_87_18 h hg kf_X10_46 nn_X10 dX10_unit_65 ?_
    refine x_aload_n h dX10_unit_68 rfl 0 rfl (q := 69) rfl ?_
    refine x_get_X10_87_23 h hg kf_X10_160 nn_X10 dX10_unit_69 ?_
    obtain ⟨hi5, hf6⟩ := chk_inv hf4
    refine x_iald (j := (Int32.toNatClampNeg (σ 87 23))) h hg a_100 hi5 rfl dX10_unit_72 (q := 73) rfl ?_
    refine x_if_ge (tgt := 80) h dX10_unit_73 (by decide) (q := 76) rfl hf6 (fun hc7 hf8 => ?_) (fun hc7 hf8 => ?_)
    · skip
      refine x_aload_n h dX10_unit_80 rfl 0 rfl (q := 81) rfl ?_
      refine x_iconst (v := 4) h dX10_unit_81 (by decide) (q := 82) rfl ?_
      refine x_aload_n h dX10_unit_82 rfl 0 rfl (q := 83) rfl ?_
      refine x_get_X10_87_18 h hg kf_X10_46 nn_X10 dX10_unit_83 ?_
      refine x_aload_n h dX10_unit_86 rfl 0 rfl (q := 87) rfl ?_
      refine x_get_X10_87_23 h hg kf_X10_160 nn_X10 dX10_unit_87 ?_
      obtain ⟨hi9, hf10⟩ := chk_inv hf8
      refine x_iald (j := (Int32.toNatClampNeg (σ 87 23))) h hg a_100 hi9 rfl dX10_unit_90 (q := 91) rfl ?_
      refine x_iload_n h dX10_unit_91 rfl 1 rfl (q := 92) rfl ?_
      refine x_iconst (v := 0) h dX10_unit_92 (by decide) (q := 93) rfl ?_
      obtain ⟨u11, hu11, hf12⟩ := bnd_inv hf10
      refine x_callVi (As := [.int 4, .int (σ 100 (Int32.toNatClampNeg (σ 87 23))), .int x2, .int 0]) (rest := [.int (σ 87 23), .ref (gA g 100)]) h hg (c_X10_part C.2.1 hg.2.1 σ 4 (σ 100 (Int32.toNatClampNeg (σ 87 23))) x2 0 _ hu11) ml_X10_166 biX10_part rfl rfl hdX10_part ⟨Nat.le_of_ble_eq_true rfl, Nat.le_of_ble_eq_true rfl⟩ (by decide) (cE_87 g _) rfl rfl rfl (Nat.le_of_ble_eq_true rfl) dX10_unit_93 ?_
      refine x_sub (lv' := []) [] rfl ?_
      exact w_X10_unit_b96 u11.2 u11.1 (σ 87 23) o h hg hL hr hf12
    · skip
      refine x_iload_n h dX10_unit_76 rfl 1 rfl (q := 77) rfl ?_
      refine x_goto (q := 96) h dX10_unit_77 (by decide) ?_
      refine x_sub (lv' := []) [] rfl ?_
      exact w_X10_unit_b96 σ x2 (σ 87 23) o h hg hL hr hf8
  · skip
    refine x_aload_n h dX10_unit_18 rfl 0 rfl (q := 19) rfl ?_
    refine x_dup h dX10_unit_19 rfl (q := 20) rfl ?_
    refine x_get_X10_87_26 h hg kf_X10_163 nn_X10 dX10_unit_20 ?_
    refine x_iconst (v := 1) h dX10_unit_23 (by decide) (q := 24) rfl ?_
    refine x_isub h dX10_unit_24 (q := 25) rfl ?_
    refine x_put_X10_87_26 h hg kf_X10_163 nn_X10 dX10_unit_25 ?_
    refine x_aload_n h dX10_unit_28 rfl 0 rfl (q := 29) rfl ?_
    refine x_aload_n h dX10_unit_29 rfl 0 rfl (q := 30) rfl ?_
    refine x_get_X10_87_24 h hg kf_X10_61 nn_X10 dX10_unit_30 ?_
    refine x_aload_n h dX10_unit_33 rfl 0 rfl (q := 34) rfl ?_
    refine x_get_X10_87_26 h hg kf_X10_163 nn_X10 dX10_unit_34 ?_
    obtain ⟨hi13, hf14⟩ := chk_inv hf4
    refine x_iald (j := (Int32.toNatClampNeg ((up σ 87 26 ((σ 87 26) - 1)) 87 26))) h hg a_105 hi13 rfl dX10_unit_37 (q := 38) rfl ?_
    refine x_iload_n h dX10_unit_38 rfl 1 rfl (q := 39) rfl ?_
    refine x_iconst (v := (-1)) h dX10_unit_39 (by decide) (q := 40) rfl ?_
    refine x_aload_n h dX10_unit_40 rfl 0 rfl (q := 41) rfl ?_
    refine x_get_X10_87_25 h hg kf_X10_64 nn_X10 dX10_unit_41 ?_
    refine x_aload_n h dX10_unit_44 rfl 0 rfl (q := 45) rfl ?_
    refine x_get_X10_87_26 h hg kf_X10_163 nn_X10 dX10_unit_45 ?_
    obtain ⟨hi15, hf16⟩ := chk_inv hf14
    refine x_iald (j := (Int32.toNatClampNeg ((up σ 87 26 ((σ 87 26) - 1)) 87 26))) h hg a_106 hi15 rfl dX10_unit_48 (q := 49) rfl ?_
    obtain ⟨u17, hu17, hf18⟩ := bnd_inv hf16
    refine x_callVi (As := [.int ((up σ 87 26 ((σ 87 26) - 1)) 105 (Int32.toNatClampNeg ((up σ 87 26 ((σ 87 26) - 1)) 87 26))), .int x2, .int (-1), .int ((up σ 87 26 ((σ 87 26) - 1)) 106 (Int32.toNatClampNeg ((up σ 87 26 ((σ 87 26) - 1)) 87 26)))]) (rest := []) h hg (c_X10_part C.2.1 hg.2.1 (up σ 87 26 ((σ 87 26) - 1)) ((up σ 87 26 ((σ 87 26) - 1)) 105 (Int32.toNatClampNeg ((up σ 87 26 ((σ 87 26) - 1)) 87 26))) x2 (-1) ((up σ 87 26 ((σ 87 26) - 1)) 106 (Int32.toNatClampNeg ((up σ 87 26 ((σ 87 26) - 1)) 87 26))) _ hu17) ml_X10_166 biX10_part rfl rfl hdX10_part ⟨Nat.le_of_ble_eq_true rfl, Nat.le_of_ble_eq_true rfl⟩ (by decide) (cE_87 g _) rfl rfl rfl (Nat.le_of_ble_eq_true rfl) dX10_unit_49 ?_
    refine x_istore_n (lv' := [(2, .int u17.1), (0, .ref (gA g 87))]) h dX10_unit_52 rfl hL (by decide) rfl (q := 53) rfl ?_
    refine x_goto (q := 2) h dX10_unit_53 (by decide) ?_
    refine x_sub (lv' := [(0, .ref (gA g 87)), (2, .int u17.1)]) [1, 0] rfl ?_
    exact hk2 (u17.2, u17.1) hf18
set_option maxHeartbeats 4000000 in
set_option maxRecDepth 100000 in
theorem w_X10_unit_l2 {C : XC} {Q : State → Prop} {g : cG} (o : St) (h : XOk C cX10_unit RX10 tG rmX10_unit) (hg : XG C g) (hL : C.2.2.2.2.2.2.2.2.2.2.2.2.1 = 3) (hr : XEnd C none Q (XQ g (none) o) (cA g)) : ∀ (n : Nat) (z : St × Int32), loopF (fun k z => m_X10_unit_b2 z.1 z.2 k) n z = some o → Xs C (wW g) Q z.1 2 [(0, .ref (gA g 87)), (2, .int z.2)] [] := by
  intro n z hf
  refine loopF_ind (S := St × Int32) (O := St) (step := (fun k z => m_X10_unit_b2 z.1 z.2 k)) (o := o) (P := fun z => Xs C (wW g) Q z.1 2 [(0, .ref (gA g 87)), (2, .int z.2)] []) ?_ n z hf
  intro k hk z hf
  exact w_X10_unit_b2 z.1 z.2 o h hg hL hr k hk hf
def m_X10_unit (σ : St) (x1 : Int32) : Option (St) :=
  loopF (fun k z => m_X10_unit_b2 z.1 z.2 k) cFu (σ, x1)
set_option maxHeartbeats 4000000 in
set_option maxRecDepth 100000 in
theorem w_X10_unit {C : XC} {Q : State → Prop} {g : cG} (σ : St) (x1 : Int32) (o : St) (h : XOk C cX10_unit RX10 tG rmX10_unit) (hg : XG C g) (hL : C.2.2.2.2.2.2.2.2.2.2.2.2.1 = 3) (hr : XEnd C none Q (XQ g (none) o) (cA g)) (hf : m_X10_unit σ x1 = some o) : Xs C (wW g) Q σ 0 [(0, .ref (gA g 87)), (1, .int x1)] [] := by
  unfold m_X10_unit at hf
  refine x_iload_n h dX10_unit_0 rfl 1 rfl (q := 1) rfl ?_
  refine x_istore_n (lv' := [(2, .int x1), (0, .ref (gA g 87)), (1, .int x1)]) h dX10_unit_1 rfl hL (by decide) rfl (q := 2) rfl ?_
  refine x_sub (lv' := [(0, .ref (gA g 87)), (2, .int x1)]) [1, 0] rfl ?_
  exact w_X10_unit_l2  o h hg hL hr  cFu (σ, x1) hf
theorem c_X10_unit (l : Launch) {g : cG} (hi : gInj g) (σ : St) (x1 : Int32) (o : St) (hf : m_X10_unit σ x1 = some o) : Met l yX10_unit (wT yX10_unit cX10_unit 3 none) rmX10_unit (va_Pc [.ref (gA g 87), .int x1] (XPre g σ)) (XQ g (none) o) 0 0 (cA g) :=
  X_met RX10 hi plX10 rfl (Nat.le_of_ble_eq_true rfl) rfl (fun _ _ _ h hg hL hr => w_X10_unit σ x1 o h hg hL hr hf)
abbrev rmX10_joins : Room := { frames := 1, cells := 0, slots := 0, locals := 25 }
theorem hdX10_joins : yX10_joins.cls = RX10 ∧ yX10_joins.cls ≠ "java/lang/invoke/MethodHandle" ∧ yX10_joins.cls ≠ "java/lang/invoke/VarHandle" ∧ (parseMethodDescriptor yX10_joins.desc).map (fun d => d.parameters.length) = some 0 := by decide +kernel
def m_X10_joins_b56 (σ : St) (s0 : Int32) (s1 : Int32) : Option (St) :=
  chk s1 62 <|
  chk ((up σ 99 (Int32.toNatClampNeg s1) s0) 87 23) 62 <|
  some (up (up σ 99 (Int32.toNatClampNeg s1) s0) 100 (Int32.toNatClampNeg ((up σ 99 (Int32.toNatClampNeg s1) s0) 87 23)) (-1))
set_option maxHeartbeats 4000000 in
set_option maxRecDepth 100000 in
theorem w_X10_joins_b56 {C : XC} {Q : State → Prop} {g : cG} (σ : St) (s0 : Int32) (s1 : Int32) (o : St) (h : XOk C cX10_joins RX10 tG rmX10_joins) (hg : XG C g) (hL : C.2.2.2.2.2.2.2.2.2.2.2.2.1 = 1) (hr : XEnd C none Q (XQ g (none) o) (cA g)) (hf : m_X10_joins_b56 σ s0 s1  = some o) : Xs C (wW g) Q σ 56 [(0, .ref (gA g 87))] [.int s0, .int s1, .ref (gA g 99)] := by
  unfold m_X10_joins_b56 at hf
  obtain ⟨hi1, hf2⟩ := chk_inv hf
  refine x_iast (j := (Int32.toNatClampNeg s1)) h hg a_99 hi1 rfl dX10_joins_56 (q := 57) rfl ?_
  refine x_aload_n h dX10_joins_57 rfl 0 rfl (q := 58) rfl ?_
  refine x_get_X10_87_18 h hg kf_X10_46 nn_X10 dX10_joins_58 ?_
  refine x_aload_n h dX10_joins_61 rfl 0 rfl (q := 62) rfl ?_
  refine x_get_X10_87_23 h hg kf_X10_160 nn_X10 dX10_joins_62 ?_
  refine x_iconst (v := (-1)) h dX10_joins_65 (by decide) (q := 66) rfl ?_
  obtain ⟨hi3, hf4⟩ := chk_inv hf2
  refine x_iast (j := (Int32.toNatClampNeg ((up σ 99 (Int32.toNatClampNeg s1) s0) 87 23))) h hg a_100 hi3 rfl dX10_joins_66 (q := 67) rfl ?_
  have hz := Option.some.inj hf4
  subst hz
  exact x_vret h hg hr dX10_joins_67
def m_X10_joins (σ : St) : Option (St) :=
  chk (σ 87 23) 62 <|
  if 0 ≤ (σ 99 (Int32.toNatClampNeg (σ 87 23))) then (
    chk (σ 87 23) 62 <|
    chk (σ 87 23) 62 <|
    (m_X10_part σ 5 (σ 99 (Int32.toNatClampNeg (σ 87 23))) (σ 100 (Int32.toNatClampNeg (σ 87 23))) 0).bind fun u9 =>
    m_X10_joins_b56 u9.2 u9.1 (σ 87 23)
  ) else (
    chk (σ 87 23) 62 <|
    m_X10_joins_b56 σ (σ 100 (Int32.toNatClampNeg (σ 87 23))) (σ 87 23)
  )
set_option maxHeartbeats 4000000 in
set_option maxRecDepth 100000 in
theorem w_X10_joins {C : XC} {Q : State → Prop} {g : cG} (σ : St) (o : St) (h : XOk C cX10_joins RX10 tG rmX10_joins) (hg : XG C g) (hL : C.2.2.2.2.2.2.2.2.2.2.2.2.1 = 1) (hr : XEnd C none Q (XQ g (none) o) (cA g)) (hf : m_X10_joins σ = some o) : Xs C (wW g) Q σ 0 [(0, .ref (gA g 87))] [] := by
  unfold m_X10_joins at hf
  refine x_aload_n h dX10_joins_0 rfl 0 rfl (q := 1) rfl ?_
  refine x_get_X10_87_17 h hg kf_X10_43 nn_X10 dX10_joins_1 ?_
  refine x_aload_n h dX10_joins_4 rfl 0 rfl (q := 5) rfl ?_
  refine x_get_X10_87_23 h hg kf_X10_160 nn_X10 dX10_joins_5 ?_
  refine x_aload_n h dX10_joins_8 rfl 0 rfl (q := 9) rfl ?_
  refine x_get_X10_87_17 h hg kf_X10_43 nn_X10 dX10_joins_9 ?_
  refine x_aload_n h dX10_joins_12 rfl 0 rfl (q := 13) rfl ?_
  refine x_get_X10_87_23 h hg kf_X10_160 nn_X10 dX10_joins_13 ?_
  obtain ⟨hi1, hf2⟩ := chk_inv hf
  refine x_iald (j := (Int32.toNatClampNeg (σ 87 23))) h hg a_99 hi1 rfl dX10_joins_16 (q := 17) rfl ?_
  refine x_if_ge (tgt := 32) h dX10_joins_17 (by decide) (q := 20) rfl hf2 (fun hc3 hf4 => ?_) (fun hc3 hf4 => ?_)
  · skip
    refine x_aload_n h dX10_joins_32 rfl 0 rfl (q := 33) rfl ?_
    refine x_iconst (v := 5) h dX10_joins_33 (by decide) (q := 34) rfl ?_
    refine x_aload_n h dX10_joins_34 rfl 0 rfl (q := 35) rfl ?_
    refine x_get_X10_87_17 h hg kf_X10_43 nn_X10 dX10_joins_35 ?_
    refine x_aload_n h dX10_joins_38 rfl 0 rfl (q := 39) rfl ?_
    refine x_get_X10_87_23 h hg kf_X10_160 nn_X10 dX10_joins_39 ?_
    obtain ⟨hi5, hf6⟩ := chk_inv hf4
    refine x_iald (j := (Int32.toNatClampNeg (σ 87 23))) h hg a_99 hi5 rfl dX10_joins_42 (q := 43) rfl ?_
    refine x_aload_n h dX10_joins_43 rfl 0 rfl (q := 44) rfl ?_
    refine x_get_X10_87_18 h hg kf_X10_46 nn_X10 dX10_joins_44 ?_
    refine x_aload_n h dX10_joins_47 rfl 0 rfl (q := 48) rfl ?_
    refine x_get_X10_87_23 h hg kf_X10_160 nn_X10 dX10_joins_48 ?_
    obtain ⟨hi7, hf8⟩ := chk_inv hf6
    refine x_iald (j := (Int32.toNatClampNeg (σ 87 23))) h hg a_100 hi7 rfl dX10_joins_51 (q := 52) rfl ?_
    refine x_iconst (v := 0) h dX10_joins_52 (by decide) (q := 53) rfl ?_
    obtain ⟨u9, hu9, hf10⟩ := bnd_inv hf8
    refine x_callVi (As := [.int 5, .int (σ 99 (Int32.toNatClampNeg (σ 87 23))), .int (σ 100 (Int32.toNatClampNeg (σ 87 23))), .int 0]) (rest := [.int (σ 87 23), .ref (gA g 99)]) h hg (c_X10_part C.2.1 hg.2.1 σ 5 (σ 99 (Int32.toNatClampNeg (σ 87 23))) (σ 100 (Int32.toNatClampNeg (σ 87 23))) 0 _ hu9) ml_X10_166 biX10_part rfl rfl hdX10_part ⟨Nat.le_of_ble_eq_true rfl, Nat.le_of_ble_eq_true rfl⟩ (by decide) (cE_87 g _) rfl rfl rfl (Nat.le_of_ble_eq_true rfl) dX10_joins_53 ?_
    exact w_X10_joins_b56 u9.2 u9.1 (σ 87 23) o h hg hL hr hf10
  · skip
    refine x_aload_n h dX10_joins_20 rfl 0 rfl (q := 21) rfl ?_
    refine x_get_X10_87_18 h hg kf_X10_46 nn_X10 dX10_joins_21 ?_
    refine x_aload_n h dX10_joins_24 rfl 0 rfl (q := 25) rfl ?_
    refine x_get_X10_87_23 h hg kf_X10_160 nn_X10 dX10_joins_25 ?_
    obtain ⟨hi11, hf12⟩ := chk_inv hf4
    refine x_iald (j := (Int32.toNatClampNeg (σ 87 23))) h hg a_100 hi11 rfl dX10_joins_28 (q := 29) rfl ?_
    refine x_goto (q := 56) h dX10_joins_29 (by decide) ?_
    exact w_X10_joins_b56 σ (σ 100 (Int32.toNatClampNeg (σ 87 23))) (σ 87 23) o h hg hL hr hf12
theorem c_X10_joins (l : Launch) {g : cG} (hi : gInj g) (σ : St) (o : St) (hf : m_X10_joins σ = some o) : Met l yX10_joins (wT yX10_joins cX10_joins 1 none) rmX10_joins (va_Pc [.ref (gA g 87)] (XPre g σ)) (XQ g (none) o) 0 0 (cA g) :=
  X_met RX10 hi plX10 rfl (Nat.le_of_ble_eq_true rfl) rfl (fun _ _ _ h hg hL hr => w_X10_joins σ o h hg hL hr hf)
abbrev rmX10_sign : Room := { frames := 0, cells := 0, slots := 0, locals := 0 }
theorem hdX10_sign : yX10_sign.cls = RX10 ∧ yX10_sign.cls ≠ "java/lang/invoke/MethodHandle" ∧ yX10_sign.cls ≠ "java/lang/invoke/VarHandle" ∧ (parseMethodDescriptor yX10_sign.desc).map (fun d => d.parameters.length) = some 0 := by decide +kernel
def m_X10_sign (σ : St) : Option (Int32) :=
  if (σ 87 8) ≤ (σ 87 27) then (
    some (-1)
  ) else (
    chk (σ 87 27) 60 <|
    some (σ 92 (Int32.toNatClampNeg (σ 87 27)))
  )
set_option maxHeartbeats 4000000 in
set_option maxRecDepth 100000 in
theorem w_X10_sign {C : XC} {Q : State → Prop} {g : cG} (σ : St) (o : Int32) (h : XOk C cX10_sign RX10 tG rmX10_sign) (hg : XG C g) (hL : C.2.2.2.2.2.2.2.2.2.2.2.2.1 = 1) (hr : XEnd C (some .int) Q (XQ g (some (.int o)) σ) (cA g)) (hf : m_X10_sign σ = some o) : Xs C (wW g) Q σ 0 [(0, .ref (gA g 87))] [] := by
  unfold m_X10_sign at hf
  refine x_aload_n h dX10_sign_0 rfl 0 rfl (q := 1) rfl ?_
  refine x_get_X10_87_27 h hg kf_X10_170 nn_X10 dX10_sign_1 ?_
  refine x_aload_n h dX10_sign_4 rfl 0 rfl (q := 5) rfl ?_
  refine x_get_X10_87_8 h hg kf_X10_151 nn_X10 dX10_sign_5 ?_
  refine x_icmp_ge (tgt := 23) h dX10_sign_8 (by decide) (q := 11) rfl hf (fun hc1 hf2 => ?_) (fun hc1 hf2 => ?_)
  · skip
    refine x_iconst (v := (-1)) h dX10_sign_23 (by decide) (q := 24) rfl ?_
    have hz := Option.some.inj hf2
    subst hz
    exact x_iret h hg hr dX10_sign_24
  · skip
    refine x_aload_n h dX10_sign_11 rfl 0 rfl (q := 12) rfl ?_
    refine x_get_X10_87_7 h hg kf_X10_22 nn_X10 dX10_sign_12 ?_
    refine x_aload_n h dX10_sign_15 rfl 0 rfl (q := 16) rfl ?_
    refine x_get_X10_87_27 h hg kf_X10_170 nn_X10 dX10_sign_16 ?_
    obtain ⟨hi3, hf4⟩ := chk_inv hf2
    refine x_iald (j := (Int32.toNatClampNeg (σ 87 27))) h hg a_92 hi3 rfl dX10_sign_19 (q := 20) rfl ?_
    refine x_goto (q := 24) h dX10_sign_20 (by decide) ?_
    have hz := Option.some.inj hf4
    subst hz
    exact x_iret h hg hr dX10_sign_24
theorem c_X10_sign (l : Launch) {g : cG} (hi : gInj g) (σ : St) (o : Int32) (hf : m_X10_sign σ = some o) : Met l yX10_sign (wT yX10_sign cX10_sign 1 (some .int)) rmX10_sign (va_Pc [.ref (gA g 87)] (XPre g σ)) (XQ g (some (.int o)) σ) 0 0 (cA g) :=
  X_met RX10 hi plX10 rfl (Nat.le_of_ble_eq_true rfl) rfl (fun _ _ _ h hg hL hr => w_X10_sign σ o h hg hL hr hf)
abbrev rmX10_readsAgents : Room := { frames := 1, cells := 0, slots := 0, locals := 23 }
theorem hdX10_readsAgents : yX10_readsAgents.cls = RX10 ∧ yX10_readsAgents.cls ≠ "java/lang/invoke/MethodHandle" ∧ yX10_readsAgents.cls ≠ "java/lang/invoke/VarHandle" ∧ (parseMethodDescriptor yX10_readsAgents.desc).map (fun d => d.parameters.length) = some 0 := by decide +kernel
def m_X10_readsAgents_b248 (σ : St) : Option (Bool × St) :=
  some (true, (up σ 87 27 ((σ 87 27) + 1)))
set_option maxHeartbeats 4000000 in
set_option maxRecDepth 100000 in
theorem w_X10_readsAgents_b248 {C : XC} {Q : State → Prop} {g : cG} (σ : St) (o : Bool × St) (h : XOk C cX10_readsAgents RX10 tG rmX10_readsAgents) (hg : XG C g) (hL : C.2.2.2.2.2.2.2.2.2.2.2.2.1 = 5) (hr : XEnd C (some .boolean) Q (XQ g (some (.int (bI o.1))) o.2) (cA g)) (hf : m_X10_readsAgents_b248 σ  = some o) : Xs C (wW g) Q σ 248 [(0, .ref (gA g 87))] [] := by
  unfold m_X10_readsAgents_b248 at hf
  refine x_aload_n h dX10_readsAgents_248 rfl 0 rfl (q := 249) rfl ?_
  refine x_dup h dX10_readsAgents_249 rfl (q := 250) rfl ?_
  refine x_get_X10_87_27 h hg kf_X10_170 nn_X10 dX10_readsAgents_250 ?_
  refine x_iconst (v := 1) h dX10_readsAgents_253 (by decide) (q := 254) rfl ?_
  refine x_iadd h dX10_readsAgents_254 (q := 255) rfl ?_
  refine x_put_X10_87_27 h hg kf_X10_170 nn_X10 dX10_readsAgents_255 ?_
  refine x_iconst (v := 1) h dX10_readsAgents_258 (by decide) (q := 259) rfl ?_
  have hz := Option.some.inj hf
  subst hz
  exact x_zret (b := true) h hg hr dX10_readsAgents_259
def m_X10_readsAgents_b194 (σ : St) (x2 : Int32) (s0 : Int32) (s1 : Int32) : Option (Bool × St) :=
  (m_X10_sign σ).bind fun u1 =>
  if u1 = 40 then (
    (m_X10_opens σ 2 (s1 + s0) x2).bind fun u9 =>
    m_X10_readsAgents_b248 u9
  ) else (
    chk (σ 87 26) 62 <|
    chk ((up σ 105 (Int32.toNatClampNeg (σ 87 26)) (s1 + s0)) 87 26) 62 <|
    m_X10_readsAgents_b248 (up (up (up σ 105 (Int32.toNatClampNeg (σ 87 26)) (s1 + s0)) 106 (Int32.toNatClampNeg ((up σ 105 (Int32.toNatClampNeg (σ 87 26)) (s1 + s0)) 87 26)) x2) 87 26 (((up (up σ 105 (Int32.toNatClampNeg (σ 87 26)) (s1 + s0)) 106 (Int32.toNatClampNeg ((up σ 105 (Int32.toNatClampNeg (σ 87 26)) (s1 + s0)) 87 26)) x2) 87 26) + 1))
  )
set_option maxHeartbeats 4000000 in
set_option maxRecDepth 100000 in
theorem w_X10_readsAgents_b194 {C : XC} {Q : State → Prop} {g : cG} (σ : St) (x2 : Int32) (s0 : Int32) (s1 : Int32) (o : Bool × St) (h : XOk C cX10_readsAgents RX10 tG rmX10_readsAgents) (hg : XG C g) (hL : C.2.2.2.2.2.2.2.2.2.2.2.2.1 = 5) (hr : XEnd C (some .boolean) Q (XQ g (some (.int (bI o.1))) o.2) (cA g)) (hf : m_X10_readsAgents_b194 σ x2 s0 s1  = some o) : Xs C (wW g) Q σ 194 [(0, .ref (gA g 87)), (2, .int x2)] [.int s0, .int s1] := by
  unfold m_X10_readsAgents_b194 at hf
  refine x_iadd h dX10_readsAgents_194 (q := 195) rfl ?_
  refine x_istore (lv' := [(4, .int (s1 + s0)), (0, .ref (gA g 87)), (2, .int x2)]) h dX10_readsAgents_195 hL (by decide) rfl (q := 197) rfl ?_
  refine x_aload_n h dX10_readsAgents_197 rfl 1 rfl (q := 198) rfl ?_
  obtain ⟨u1, hu1, hf2⟩ := bnd_inv hf
  refine x_callVi (As := []) (rest := []) h hg (c_X10_sign C.2.1 hg.2.1 σ _ hu1) ml_X10_173 biX10_sign rfl rfl hdX10_sign ⟨Nat.le_of_ble_eq_true rfl, Nat.le_of_ble_eq_true rfl⟩ (by decide) (cE_87 g _) rfl rfl rfl (Nat.le_of_ble_eq_true rfl) dX10_readsAgents_198 ?_
  refine x_bipush (v := 40) h dX10_readsAgents_201 (by decide) (q := 203) rfl ?_
  refine x_icmp_ne (tgt := 217) h dX10_readsAgents_203 (by decide) (q := 206) rfl hf2 (fun hc3 hf4 => ?_) (fun hc3 hf4 => ?_)
  · skip
    refine x_aload_n h dX10_readsAgents_217 rfl 1 rfl (q := 218) rfl ?_
    refine x_get_X10_87_24 h hg kf_X10_61 nn_X10 dX10_readsAgents_218 ?_
    refine x_aload_n h dX10_readsAgents_221 rfl 1 rfl (q := 222) rfl ?_
    refine x_get_X10_87_26 h hg kf_X10_163 nn_X10 dX10_readsAgents_222 ?_
    refine x_iload h dX10_readsAgents_225 0 rfl (q := 227) rfl ?_
    obtain ⟨hi5, hf6⟩ := chk_inv hf4
    refine x_iast (j := (Int32.toNatClampNeg (σ 87 26))) h hg a_105 hi5 rfl dX10_readsAgents_227 (q := 228) rfl ?_
    refine x_aload_n h dX10_readsAgents_228 rfl 1 rfl (q := 229) rfl ?_
    refine x_get_X10_87_25 h hg kf_X10_64 nn_X10 dX10_readsAgents_229 ?_
    refine x_aload_n h dX10_readsAgents_232 rfl 1 rfl (q := 233) rfl ?_
    refine x_get_X10_87_26 h hg kf_X10_163 nn_X10 dX10_readsAgents_233 ?_
    refine x_iload_n h dX10_readsAgents_236 rfl 2 rfl (q := 237) rfl ?_
    obtain ⟨hi7, hf8⟩ := chk_inv hf6
    refine x_iast (j := (Int32.toNatClampNeg ((up σ 105 (Int32.toNatClampNeg (σ 87 26)) (s1 + s0)) 87 26))) h hg a_106 hi7 rfl dX10_readsAgents_237 (q := 238) rfl ?_
    refine x_aload_n h dX10_readsAgents_238 rfl 1 rfl (q := 239) rfl ?_
    refine x_dup h dX10_readsAgents_239 rfl (q := 240) rfl ?_
    refine x_get_X10_87_26 h hg kf_X10_163 nn_X10 dX10_readsAgents_240 ?_
    refine x_iconst (v := 1) h dX10_readsAgents_243 (by decide) (q := 244) rfl ?_
    refine x_iadd h dX10_readsAgents_244 (q := 245) rfl ?_
    refine x_put_X10_87_26 h hg kf_X10_163 nn_X10 dX10_readsAgents_245 ?_
    refine x_sub (lv' := [(0, .ref (gA g 87))]) [1] rfl ?_
    exact w_X10_readsAgents_b248 (up (up (up σ 105 (Int32.toNatClampNeg (σ 87 26)) (s1 + s0)) 106 (Int32.toNatClampNeg ((up σ 105 (Int32.toNatClampNeg (σ 87 26)) (s1 + s0)) 87 26)) x2) 87 26 (((up (up σ 105 (Int32.toNatClampNeg (σ 87 26)) (s1 + s0)) 106 (Int32.toNatClampNeg ((up σ 105 (Int32.toNatClampNeg (σ 87 26)) (s1 + s0)) 87 26)) x2) 87 26) + 1)) o h hg hL hr hf8
  · skip
    refine x_aload_n h dX10_readsAgents_206 rfl 1 rfl (q := 207) rfl ?_
    refine x_iconst (v := 2) h dX10_readsAgents_207 (by decide) (q := 208) rfl ?_
    refine x_iload h dX10_readsAgents_208 0 rfl (q := 210) rfl ?_
    refine x_iload_n h dX10_readsAgents_210 rfl 2 rfl (q := 211) rfl ?_
    obtain ⟨u9, hu9, hf10⟩ := bnd_inv hf4
    refine x_callVv (As := [.int 2, .int (s1 + s0), .int x2]) (rest := []) h hg (c_X10_opens C.2.1 hg.2.1 σ 2 (s1 + s0) x2 _ hu9) ml_X10_177 biX10_opens rfl rfl hdX10_opens ⟨Nat.le_of_ble_eq_true rfl, Nat.le_of_ble_eq_true rfl⟩ (by decide) (cE_87 g _) rfl rfl rfl (Nat.le_of_ble_eq_true rfl) dX10_readsAgents_211 ?_
    refine x_goto (q := 248) h dX10_readsAgents_214 (by decide) ?_
    refine x_sub (lv' := [(0, .ref (gA g 87))]) [1] rfl ?_
    exact w_X10_readsAgents_b248 u9 o h hg hL hr hf10
def m_X10_readsAgents_b174 (σ : St) (x1 : Int32) (x2 : Int32) (s0 : Int32) : Option (Bool × St) :=
  if 0 ≤ s0 then (
    if x1 = 0 then (
      m_X10_readsAgents_b194 σ x2 0 s0
    ) else (
      m_X10_readsAgents_b194 σ x2 4 s0
    )
  ) else (
    some (false, σ)
  )
set_option maxHeartbeats 4000000 in
set_option maxRecDepth 100000 in
theorem w_X10_readsAgents_b174 {C : XC} {Q : State → Prop} {g : cG} (σ : St) (x1 : Int32) (x2 : Int32) (s0 : Int32) (o : Bool × St) (h : XOk C cX10_readsAgents RX10 tG rmX10_readsAgents) (hg : XG C g) (hL : C.2.2.2.2.2.2.2.2.2.2.2.2.1 = 5) (hr : XEnd C (some .boolean) Q (XQ g (some (.int (bI o.1))) o.2) (cA g)) (hf : m_X10_readsAgents_b174 σ x1 x2 s0  = some o) : Xs C (wW g) Q σ 174 [(0, .ref (gA g 87)), (1, .int x1), (2, .int x2)] [.int s0] := by
  unfold m_X10_readsAgents_b174 at hf
  refine x_istore (lv' := [(4, .int s0), (0, .ref (gA g 87)), (1, .int x1), (2, .int x2)]) h dX10_readsAgents_174 hL (by decide) rfl (q := 176) rfl ?_
  refine x_iload h dX10_readsAgents_176 0 rfl (q := 178) rfl ?_
  refine x_if_ge (tgt := 183) h dX10_readsAgents_178 (by decide) (q := 181) rfl hf (fun hc1 hf2 => ?_) (fun hc1 hf2 => ?_)
  · skip
    refine x_iload h dX10_readsAgents_183 0 rfl (q := 185) rfl ?_
    refine x_iload_n h dX10_readsAgents_185 rfl 2 rfl (q := 186) rfl ?_
    refine x_if_eq (tgt := 193) h dX10_readsAgents_186 (by decide) (q := 189) rfl hf2 (fun hc3 hf4 => ?_) (fun hc3 hf4 => ?_)
    · skip
      refine x_iconst (v := 0) h dX10_readsAgents_193 (by decide) (q := 194) rfl ?_
      refine x_sub (lv' := [(0, .ref (gA g 87)), (2, .int x2)]) [1, 3] rfl ?_
      exact w_X10_readsAgents_b194 σ x2 0 s0 o h hg hL hr hf4
    · skip
      refine x_iconst (v := 4) h dX10_readsAgents_189 (by decide) (q := 190) rfl ?_
      refine x_goto (q := 194) h dX10_readsAgents_190 (by decide) ?_
      refine x_sub (lv' := [(0, .ref (gA g 87)), (2, .int x2)]) [1, 3] rfl ?_
      exact w_X10_readsAgents_b194 σ x2 4 s0 o h hg hL hr hf4
  · skip
    refine x_iconst (v := 0) h dX10_readsAgents_181 (by decide) (q := 182) rfl ?_
    have hz := Option.some.inj hf2
    subst hz
    exact x_zret (b := false) h hg hr dX10_readsAgents_182
def m_X10_readsAgents_b102 (σ : St) (x1 : Int32) (x2 : Int32) (s0 : Int32) (s1 : Int32) : Option (Bool × St) :=
  if s1 = s0 then (
    (m_X10_sign (up σ 87 27 ((σ 87 27) + 1))).bind fun u3 =>
    if u3 = 88 then (
      m_X10_readsAgents_b174 (up σ 87 27 ((σ 87 27) + 1)) x1 x2 6
    ) else (
      (m_X10_sign (up σ 87 27 ((σ 87 27) + 1))).bind fun u7 =>
      if u7 = 70 then (
        m_X10_readsAgents_b174 (up σ 87 27 ((σ 87 27) + 1)) x1 x2 7
      ) else (
        (m_X10_sign (up σ 87 27 ((σ 87 27) + 1))).bind fun u11 =>
        if u11 = 71 then (
          m_X10_readsAgents_b174 (up σ 87 27 ((σ 87 27) + 1)) x1 x2 8
        ) else (
          (m_X10_sign (up σ 87 27 ((σ 87 27) + 1))).bind fun u15 =>
          if u15 = 40 then (
            m_X10_readsAgents_b174 (up σ 87 27 ((σ 87 27) + 1)) x1 x2 9
          ) else (
            m_X10_readsAgents_b174 (up σ 87 27 ((σ 87 27) + 1)) x1 x2 (-1)
          )
        )
      )
    )
  ) else (
    some (false, σ)
  )
set_option maxHeartbeats 4000000 in
set_option maxRecDepth 100000 in
theorem w_X10_readsAgents_b102 {C : XC} {Q : State → Prop} {g : cG} (σ : St) (x1 : Int32) (x2 : Int32) (s0 : Int32) (s1 : Int32) (o : Bool × St) (h : XOk C cX10_readsAgents RX10 tG rmX10_readsAgents) (hg : XG C g) (hL : C.2.2.2.2.2.2.2.2.2.2.2.2.1 = 5) (hr : XEnd C (some .boolean) Q (XQ g (some (.int (bI o.1))) o.2) (cA g)) (hf : m_X10_readsAgents_b102 σ x1 x2 s0 s1  = some o) : Xs C (wW g) Q σ 102 [(0, .ref (gA g 87)), (1, .int x1), (2, .int x2)] [.int s0, .int s1] := by
  unfold m_X10_readsAgents_b102 at hf
  refine x_icmp_eq (tgt := 107) h dX10_readsAgents_102 (by decide) (q := 105) rfl hf (fun hc1 hf2 => ?_) (fun hc1 hf2 => ?_)
  · skip
    refine x_aload_n h dX10_readsAgents_107 rfl 0 rfl (q := 108) rfl ?_
    refine x_dup h dX10_readsAgents_108 rfl (q := 109) rfl ?_
    refine x_get_X10_87_27 h hg kf_X10_170 nn_X10 dX10_readsAgents_109 ?_
    refine x_iconst (v := 1) h dX10_readsAgents_112 (by decide) (q := 113) rfl ?_
    refine x_iadd h dX10_readsAgents_113 (q := 114) rfl ?_
    refine x_put_X10_87_27 h hg kf_X10_170 nn_X10 dX10_readsAgents_114 ?_
    refine x_aload_n h dX10_readsAgents_117 rfl 0 rfl (q := 118) rfl ?_
    obtain ⟨u3, hu3, hf4⟩ := bnd_inv hf2
    refine x_callVi (As := []) (rest := []) h hg (c_X10_sign C.2.1 hg.2.1 (up σ 87 27 ((σ 87 27) + 1)) _ hu3) ml_X10_173 biX10_sign rfl rfl hdX10_sign ⟨Nat.le_of_ble_eq_true rfl, Nat.le_of_ble_eq_true rfl⟩ (by decide) (cE_87 g _) rfl rfl rfl (Nat.le_of_ble_eq_true rfl) dX10_readsAgents_118 ?_
    refine x_bipush (v := 88) h dX10_readsAgents_121 (by decide) (q := 123) rfl ?_
    refine x_icmp_ne (tgt := 131) h dX10_readsAgents_123 (by decide) (q := 126) rfl hf4 (fun hc5 hf6 => ?_) (fun hc5 hf6 => ?_)
    · skip
      refine x_aload_n h dX10_readsAgents_131 rfl 0 rfl (q := 132) rfl ?_
      obtain ⟨u7, hu7, hf8⟩ := bnd_inv hf6
      refine x_callVi (As := []) (rest := []) h hg (c_X10_sign C.2.1 hg.2.1 (up σ 87 27 ((σ 87 27) + 1)) _ hu7) ml_X10_173 biX10_sign rfl rfl hdX10_sign ⟨Nat.le_of_ble_eq_true rfl, Nat.le_of_ble_eq_true rfl⟩ (by decide) (cE_87 g _) rfl rfl rfl (Nat.le_of_ble_eq_true rfl) dX10_readsAgents_132 ?_
      refine x_bipush (v := 70) h dX10_readsAgents_135 (by decide) (q := 137) rfl ?_
      refine x_icmp_ne (tgt := 145) h dX10_readsAgents_137 (by decide) (q := 140) rfl hf8 (fun hc9 hf10 => ?_) (fun hc9 hf10 => ?_)
      · skip
        refine x_aload_n h dX10_readsAgents_145 rfl 0 rfl (q := 146) rfl ?_
        obtain ⟨u11, hu11, hf12⟩ := bnd_inv hf10
        refine x_callVi (As := []) (rest := []) h hg (c_X10_sign C.2.1 hg.2.1 (up σ 87 27 ((σ 87 27) + 1)) _ hu11) ml_X10_173 biX10_sign rfl rfl hdX10_sign ⟨Nat.le_of_ble_eq_true rfl, Nat.le_of_ble_eq_true rfl⟩ (by decide) (cE_87 g _) rfl rfl rfl (Nat.le_of_ble_eq_true rfl) dX10_readsAgents_146 ?_
        refine x_bipush (v := 71) h dX10_readsAgents_149 (by decide) (q := 151) rfl ?_
        refine x_icmp_ne (tgt := 159) h dX10_readsAgents_151 (by decide) (q := 154) rfl hf12 (fun hc13 hf14 => ?_) (fun hc13 hf14 => ?_)
        · skip
          refine x_aload_n h dX10_readsAgents_159 rfl 0 rfl (q := 160) rfl ?_
          obtain ⟨u15, hu15, hf16⟩ := bnd_inv hf14
          refine x_callVi (As := []) (rest := []) h hg (c_X10_sign C.2.1 hg.2.1 (up σ 87 27 ((σ 87 27) + 1)) _ hu15) ml_X10_173 biX10_sign rfl rfl hdX10_sign ⟨Nat.le_of_ble_eq_true rfl, Nat.le_of_ble_eq_true rfl⟩ (by decide) (cE_87 g _) rfl rfl rfl (Nat.le_of_ble_eq_true rfl) dX10_readsAgents_160 ?_
          refine x_bipush (v := 40) h dX10_readsAgents_163 (by decide) (q := 165) rfl ?_
          refine x_icmp_ne (tgt := 173) h dX10_readsAgents_165 (by decide) (q := 168) rfl hf16 (fun hc17 hf18 => ?_) (fun hc17 hf18 => ?_)
          · skip
            refine x_iconst (v := (-1)) h dX10_readsAgents_173 (by decide) (q := 174) rfl ?_
            exact w_X10_readsAgents_b174 (up σ 87 27 ((σ 87 27) + 1)) x1 x2 (-1) o h hg hL hr hf18
          · skip
            refine x_bipush (v := 9) h dX10_readsAgents_168 (by decide) (q := 170) rfl ?_
            refine x_goto (q := 174) h dX10_readsAgents_170 (by decide) ?_
            exact w_X10_readsAgents_b174 (up σ 87 27 ((σ 87 27) + 1)) x1 x2 9 o h hg hL hr hf18
        · skip
          refine x_bipush (v := 8) h dX10_readsAgents_154 (by decide) (q := 156) rfl ?_
          refine x_goto (q := 174) h dX10_readsAgents_156 (by decide) ?_
          exact w_X10_readsAgents_b174 (up σ 87 27 ((σ 87 27) + 1)) x1 x2 8 o h hg hL hr hf14
      · skip
        refine x_bipush (v := 7) h dX10_readsAgents_140 (by decide) (q := 142) rfl ?_
        refine x_goto (q := 174) h dX10_readsAgents_142 (by decide) ?_
        exact w_X10_readsAgents_b174 (up σ 87 27 ((σ 87 27) + 1)) x1 x2 7 o h hg hL hr hf10
    · skip
      refine x_bipush (v := 6) h dX10_readsAgents_126 (by decide) (q := 128) rfl ?_
      refine x_goto (q := 174) h dX10_readsAgents_128 (by decide) ?_
      exact w_X10_readsAgents_b174 (up σ 87 27 ((σ 87 27) + 1)) x1 x2 6 o h hg hL hr hf6
  · skip
    refine x_iconst (v := 0) h dX10_readsAgents_105 (by decide) (q := 106) rfl ?_
    have hz := Option.some.inj hf2
    subst hz
    exact x_zret (b := false) h hg hr dX10_readsAgents_106
def m_X10_readsAgents_b29 (σ : St) (x1 : Int32) (x2 : Int32) (x3 : Int32) (k29 : (St × Int32 × Int32) → Option (Bool × St)) : Option (Bool × St) :=
  (m_X10_sign σ).bind fun u1 =>
  if (bI (m_X10_in u1 (48 + x3) ((48 + (σ 87 0)) - 1))) = 0 then (
    (m_X10_sign σ).bind fun u5 =>
    if x1 = 0 then (
      m_X10_readsAgents_b102 σ x1 x2 62 u5
    ) else (
      m_X10_readsAgents_b102 σ x1 x2 93 u5
    )
  ) else (
    (m_X10_sign σ).bind fun u9 =>
    (m_X10_sign σ).bind fun u11 =>
    k29 ((up σ 87 27 ((σ 87 27) + 1)), (x2 ||| ((1 : Int32) <<< ((u9 - 48) &&& 31))), ((u11 - 48) + 1))
  )
set_option maxHeartbeats 4000000 in
set_option maxRecDepth 100000 in
theorem w_X10_readsAgents_b29 {C : XC} {Q : State → Prop} {g : cG} (σ : St) (x1 : Int32) (x2 : Int32) (x3 : Int32) (o : Bool × St) (h : XOk C cX10_readsAgents RX10 tG rmX10_readsAgents) (hg : XG C g) (hL : C.2.2.2.2.2.2.2.2.2.2.2.2.1 = 5) (hr : XEnd C (some .boolean) Q (XQ g (some (.int (bI o.1))) o.2) (cA g)) (k29 : (St × Int32 × Int32) → Option (Bool × St)) (hk29 : ∀ z : St × Int32 × Int32, k29 z = some o → Xs C (wW g) Q z.1 29 [(0, .ref (gA g 87)), (1, .int x1), (2, .int z.2.1), (3, .int z.2.2)] []) (hf : m_X10_readsAgents_b29 σ x1 x2 x3 k29 = some o) : Xs C (wW g) Q σ 29 [(0, .ref (gA g 87)), (1, .int x1), (2, .int x2), (3, .int x3)] [] := by
  unfold m_X10_readsAgents_b29 at hf
  refine x_aload_n h dX10_readsAgents_29 rfl 0 rfl (q := 30) rfl ?_
  obtain ⟨u1, hu1, hf2⟩ := bnd_inv hf
  refine x_callVi (As := []) (rest := []) h hg (c_X10_sign C.2.1 hg.2.1 σ _ hu1) ml_X10_173 biX10_sign rfl rfl hdX10_sign ⟨Nat.le_of_ble_eq_true rfl, Nat.le_of_ble_eq_true rfl⟩ (by decide) (cE_87 g _) rfl rfl rfl (Nat.le_of_ble_eq_true rfl) dX10_readsAgents_30 ?_
  refine x_bipush (v := 48) h dX10_readsAgents_33 (by decide) (q := 35) rfl ?_
  refine x_iload_n h dX10_readsAgents_35 rfl 3 rfl (q := 36) rfl ?_
  refine x_iadd h dX10_readsAgents_36 (q := 37) rfl ?_
  refine x_bipush (v := 48) h dX10_readsAgents_37 (by decide) (q := 39) rfl ?_
  refine x_aload_n h dX10_readsAgents_39 rfl 0 rfl (q := 40) rfl ?_
  refine x_get_X10_87_0 h hg kf_X10_82 nn_X10 dX10_readsAgents_40 ?_
  refine x_iadd h dX10_readsAgents_43 (q := 44) rfl ?_
  refine x_iconst (v := 1) h dX10_readsAgents_44 (by decide) (q := 45) rfl ?_
  refine x_isub h dX10_readsAgents_45 (q := 46) rfl ?_
  refine x_callPi (As := [.int u1, .int (48 + x3), .int ((48 + (σ 87 0)) - 1)]) (rest := []) h (c_X10_in C.2.1 u1 (48 + x3) ((48 + (σ 87 0)) - 1) _ rfl) ml_X10_93 biX10_in rfl rfl hdX10_in ⟨Nat.le_of_ble_eq_true rfl, Nat.le_of_ble_eq_true rfl⟩ rfl rfl (Nat.le_of_ble_eq_true rfl) dX10_readsAgents_46 ?_
  refine x_if_eq (tgt := 87) h dX10_readsAgents_49 (by decide) (q := 52) rfl hf2 (fun hc3 hf4 => ?_) (fun hc3 hf4 => ?_)
  · skip
    refine x_aload_n h dX10_readsAgents_87 rfl 0 rfl (q := 88) rfl ?_
    obtain ⟨u5, hu5, hf6⟩ := bnd_inv hf4
    refine x_callVi (As := []) (rest := []) h hg (c_X10_sign C.2.1 hg.2.1 σ _ hu5) ml_X10_173 biX10_sign rfl rfl hdX10_sign ⟨Nat.le_of_ble_eq_true rfl, Nat.le_of_ble_eq_true rfl⟩ (by decide) (cE_87 g _) rfl rfl rfl (Nat.le_of_ble_eq_true rfl) dX10_readsAgents_88 ?_
    refine x_iload_n h dX10_readsAgents_91 rfl 1 rfl (q := 92) rfl ?_
    refine x_if_eq (tgt := 100) h dX10_readsAgents_92 (by decide) (q := 95) rfl hf6 (fun hc7 hf8 => ?_) (fun hc7 hf8 => ?_)
    · skip
      refine x_bipush (v := 62) h dX10_readsAgents_100 (by decide) (q := 102) rfl ?_
      refine x_sub (lv' := [(0, .ref (gA g 87)), (1, .int x1), (2, .int x2)]) [0, 1, 2] rfl ?_
      exact w_X10_readsAgents_b102 σ x1 x2 62 u5 o h hg hL hr hf8
    · skip
      refine x_bipush (v := 93) h dX10_readsAgents_95 (by decide) (q := 97) rfl ?_
      refine x_goto (q := 102) h dX10_readsAgents_97 (by decide) ?_
      refine x_sub (lv' := [(0, .ref (gA g 87)), (1, .int x1), (2, .int x2)]) [0, 1, 2] rfl ?_
      exact w_X10_readsAgents_b102 σ x1 x2 93 u5 o h hg hL hr hf8
  · skip
    refine x_iload_n h dX10_readsAgents_52 rfl 2 rfl (q := 53) rfl ?_
    refine x_iconst (v := 1) h dX10_readsAgents_53 (by decide) (q := 54) rfl ?_
    refine x_aload_n h dX10_readsAgents_54 rfl 0 rfl (q := 55) rfl ?_
    obtain ⟨u9, hu9, hf10⟩ := bnd_inv hf4
    refine x_callVi (As := []) (rest := [.int 1, .int x2]) h hg (c_X10_sign C.2.1 hg.2.1 σ _ hu9) ml_X10_173 biX10_sign rfl rfl hdX10_sign ⟨Nat.le_of_ble_eq_true rfl, Nat.le_of_ble_eq_true rfl⟩ (by decide) (cE_87 g _) rfl rfl rfl (Nat.le_of_ble_eq_true rfl) dX10_readsAgents_55 ?_
    refine x_bipush (v := 48) h dX10_readsAgents_58 (by decide) (q := 60) rfl ?_
    refine x_isub h dX10_readsAgents_60 (q := 61) rfl ?_
    refine x_ishl h dX10_readsAgents_61 (q := 62) rfl ?_
    refine x_ior h dX10_readsAgents_62 (q := 63) rfl ?_
    refine x_istore_n (lv' := [(2, .int (x2 ||| ((1 : Int32) <<< ((u9 - 48) &&& 31)))), (0, .ref (gA g 87)), (1, .int x1), (3, .int x3)]) h dX10_readsAgents_63 rfl hL (by decide) rfl (q := 64) rfl ?_
    refine x_aload_n h dX10_readsAgents_64 rfl 1 rfl (q := 65) rfl ?_
    obtain ⟨u11, hu11, hf12⟩ := bnd_inv hf10
    refine x_callVi (As := []) (rest := []) h hg (c_X10_sign C.2.1 hg.2.1 σ _ hu11) ml_X10_173 biX10_sign rfl rfl hdX10_sign ⟨Nat.le_of_ble_eq_true rfl, Nat.le_of_ble_eq_true rfl⟩ (by decide) (cE_87 g _) rfl rfl rfl (Nat.le_of_ble_eq_true rfl) dX10_readsAgents_65 ?_
    refine x_bipush (v := 48) h dX10_readsAgents_68 (by decide) (q := 70) rfl ?_
    refine x_isub h dX10_readsAgents_70 (q := 71) rfl ?_
    refine x_iconst (v := 1) h dX10_readsAgents_71 (by decide) (q := 72) rfl ?_
    refine x_iadd h dX10_readsAgents_72 (q := 73) rfl ?_
    refine x_istore_n (lv' := [(3, .int ((u11 - 48) + 1)), (2, .int (x2 ||| ((1 : Int32) <<< ((u9 - 48) &&& 31)))), (0, .ref (gA g 87)), (1, .int x1)]) h dX10_readsAgents_73 rfl hL (by decide) rfl (q := 74) rfl ?_
    refine x_aload_n h dX10_readsAgents_74 rfl 2 rfl (q := 75) rfl ?_
    refine x_dup h dX10_readsAgents_75 rfl (q := 76) rfl ?_
    refine x_get_X10_87_27 h hg kf_X10_170 nn_X10 dX10_readsAgents_76 ?_
    refine x_iconst (v := 1) h dX10_readsAgents_79 (by decide) (q := 80) rfl ?_
    refine x_iadd h dX10_readsAgents_80 (q := 81) rfl ?_
    refine x_put_X10_87_27 h hg kf_X10_170 nn_X10 dX10_readsAgents_81 ?_
    refine x_goto (q := 29) h dX10_readsAgents_84 (by decide) ?_
    refine x_sub (lv' := [(0, .ref (gA g 87)), (1, .int x1), (2, .int (x2 ||| ((1 : Int32) <<< ((u9 - 48) &&& 31)))), (3, .int ((u11 - 48) + 1))]) [2, 3, 1, 0] rfl ?_
    exact hk29 ((up σ 87 27 ((σ 87 27) + 1)), (x2 ||| ((1 : Int32) <<< ((u9 - 48) &&& 31))), ((u11 - 48) + 1)) hf12
set_option maxHeartbeats 4000000 in
set_option maxRecDepth 100000 in
theorem w_X10_readsAgents_l29 {C : XC} {Q : State → Prop} {g : cG} (x1 : Int32) (o : Bool × St) (h : XOk C cX10_readsAgents RX10 tG rmX10_readsAgents) (hg : XG C g) (hL : C.2.2.2.2.2.2.2.2.2.2.2.2.1 = 5) (hr : XEnd C (some .boolean) Q (XQ g (some (.int (bI o.1))) o.2) (cA g)) : ∀ (n : Nat) (z : St × Int32 × Int32), loopF (fun k z => m_X10_readsAgents_b29 z.1 x1 z.2.1 z.2.2 k) n z = some o → Xs C (wW g) Q z.1 29 [(0, .ref (gA g 87)), (1, .int x1), (2, .int z.2.1), (3, .int z.2.2)] [] := by
  intro n z hf
  refine loopF_ind (S := St × Int32 × Int32) (O := Bool × St) (step := (fun k z => m_X10_readsAgents_b29 z.1 x1 z.2.1 z.2.2 k)) (o := o) (P := fun z => Xs C (wW g) Q z.1 29 [(0, .ref (gA g 87)), (1, .int x1), (2, .int z.2.1), (3, .int z.2.2)] []) ?_ n z hf
  intro k hk z hf
  exact w_X10_readsAgents_b29 z.1 x1 z.2.1 z.2.2 o h hg hL hr k hk hf
def m_X10_readsAgents_b14 (σ : St) (s0 : Int32) : Option (Bool × St) :=
  loopF (fun k z => m_X10_readsAgents_b29 z.1 s0 z.2.1 z.2.2 k) cFu ((up σ 87 27 ((σ 87 27) + 1)), 0, 0)
set_option maxHeartbeats 4000000 in
set_option maxRecDepth 100000 in
theorem w_X10_readsAgents_b14 {C : XC} {Q : State → Prop} {g : cG} (σ : St) (s0 : Int32) (o : Bool × St) (h : XOk C cX10_readsAgents RX10 tG rmX10_readsAgents) (hg : XG C g) (hL : C.2.2.2.2.2.2.2.2.2.2.2.2.1 = 5) (hr : XEnd C (some .boolean) Q (XQ g (some (.int (bI o.1))) o.2) (cA g)) (hf : m_X10_readsAgents_b14 σ s0  = some o) : Xs C (wW g) Q σ 14 [(0, .ref (gA g 87))] [.int s0] := by
  unfold m_X10_readsAgents_b14 at hf
  refine x_istore_n (lv' := [(1, .int s0), (0, .ref (gA g 87))]) h dX10_readsAgents_14 rfl hL (by decide) rfl (q := 15) rfl ?_
  refine x_iconst (v := 0) h dX10_readsAgents_15 (by decide) (q := 16) rfl ?_
  refine x_istore_n (lv' := [(2, .int 0), (1, .int s0), (0, .ref (gA g 87))]) h dX10_readsAgents_16 rfl hL (by decide) rfl (q := 17) rfl ?_
  refine x_iconst (v := 0) h dX10_readsAgents_17 (by decide) (q := 18) rfl ?_
  refine x_istore_n (lv' := [(3, .int 0), (2, .int 0), (1, .int s0), (0, .ref (gA g 87))]) h dX10_readsAgents_18 rfl hL (by decide) rfl (q := 19) rfl ?_
  refine x_aload_n h dX10_readsAgents_19 rfl 3 rfl (q := 20) rfl ?_
  refine x_dup h dX10_readsAgents_20 rfl (q := 21) rfl ?_
  refine x_get_X10_87_27 h hg kf_X10_170 nn_X10 dX10_readsAgents_21 ?_
  refine x_iconst (v := 1) h dX10_readsAgents_24 (by decide) (q := 25) rfl ?_
  refine x_iadd h dX10_readsAgents_25 (q := 26) rfl ?_
  refine x_put_X10_87_27 h hg kf_X10_170 nn_X10 dX10_readsAgents_26 ?_
  refine x_sub (lv' := [(0, .ref (gA g 87)), (1, .int s0), (2, .int 0), (3, .int 0)]) [3, 2, 1, 0] rfl ?_
  exact w_X10_readsAgents_l29 s0 o h hg hL hr  cFu ((up σ 87 27 ((σ 87 27) + 1)), 0, 0) hf
def m_X10_readsAgents (σ : St) : Option (Bool × St) :=
  (m_X10_sign σ).bind fun u1 =>
  if u1 = 91 then (
    m_X10_readsAgents_b14 σ 1
  ) else (
    m_X10_readsAgents_b14 σ 0
  )
set_option maxHeartbeats 4000000 in
set_option maxRecDepth 100000 in
theorem w_X10_readsAgents {C : XC} {Q : State → Prop} {g : cG} (σ : St) (o : Bool × St) (h : XOk C cX10_readsAgents RX10 tG rmX10_readsAgents) (hg : XG C g) (hL : C.2.2.2.2.2.2.2.2.2.2.2.2.1 = 5) (hr : XEnd C (some .boolean) Q (XQ g (some (.int (bI o.1))) o.2) (cA g)) (hf : m_X10_readsAgents σ = some o) : Xs C (wW g) Q σ 0 [(0, .ref (gA g 87))] [] := by
  unfold m_X10_readsAgents at hf
  refine x_aload_n h dX10_readsAgents_0 rfl 0 rfl (q := 1) rfl ?_
  obtain ⟨u1, hu1, hf2⟩ := bnd_inv hf
  refine x_callVi (As := []) (rest := []) h hg (c_X10_sign C.2.1 hg.2.1 σ _ hu1) ml_X10_173 biX10_sign rfl rfl hdX10_sign ⟨Nat.le_of_ble_eq_true rfl, Nat.le_of_ble_eq_true rfl⟩ (by decide) (cE_87 g _) rfl rfl rfl (Nat.le_of_ble_eq_true rfl) dX10_readsAgents_1 ?_
  refine x_bipush (v := 91) h dX10_readsAgents_4 (by decide) (q := 6) rfl ?_
  refine x_icmp_ne (tgt := 13) h dX10_readsAgents_6 (by decide) (q := 9) rfl hf2 (fun hc3 hf4 => ?_) (fun hc3 hf4 => ?_)
  · skip
    refine x_iconst (v := 0) h dX10_readsAgents_13 (by decide) (q := 14) rfl ?_
    exact w_X10_readsAgents_b14 σ 0 o h hg hL hr hf4
  · skip
    refine x_iconst (v := 1) h dX10_readsAgents_9 (by decide) (q := 10) rfl ?_
    refine x_goto (q := 14) h dX10_readsAgents_10 (by decide) ?_
    exact w_X10_readsAgents_b14 σ 1 o h hg hL hr hf4
theorem c_X10_readsAgents (l : Launch) {g : cG} (hi : gInj g) (σ : St) (o : Bool × St) (hf : m_X10_readsAgents σ = some o) : Met l yX10_readsAgents (wT yX10_readsAgents cX10_readsAgents 5 (some .boolean)) rmX10_readsAgents (va_Pc [.ref (gA g 87)] (XPre g σ)) (XQ g (some (.int (bI o.1))) o.2) 0 0 (cA g) :=
  X_met RX10 hi plX10 rfl (Nat.le_of_ble_eq_true rfl) rfl (fun _ _ _ h hg hL hr => w_X10_readsAgents σ o h hg hL hr hf)
abbrev rmX10_readsUnit : Room := { frames := 2, cells := 0, slots := 0, locals := 47 }
theorem hdX10_readsUnit : yX10_readsUnit.cls = RX10 ∧ yX10_readsUnit.cls ≠ "java/lang/invoke/MethodHandle" ∧ yX10_readsUnit.cls ≠ "java/lang/invoke/VarHandle" ∧ (parseMethodDescriptor yX10_readsUnit.desc).map (fun d => d.parameters.length) = some 0 := by decide +kernel
def m_X10_readsUnit_b22 (σ : St) : Option (Bool × St) :=
  (m_X10_readsAgents σ).bind fun u1 =>
  some (u1.1, u1.2)
set_option maxHeartbeats 4000000 in
set_option maxRecDepth 100000 in
theorem w_X10_readsUnit_b22 {C : XC} {Q : State → Prop} {g : cG} (σ : St) (o : Bool × St) (h : XOk C cX10_readsUnit RX10 tG rmX10_readsUnit) (hg : XG C g) (hL : C.2.2.2.2.2.2.2.2.2.2.2.2.1 = 2) (hr : XEnd C (some .boolean) Q (XQ g (some (.int (bI o.1))) o.2) (cA g)) (hf : m_X10_readsUnit_b22 σ  = some o) : Xs C (wW g) Q σ 22 [(0, .ref (gA g 87))] [] := by
  unfold m_X10_readsUnit_b22 at hf
  refine x_aload_n h dX10_readsUnit_22 rfl 0 rfl (q := 23) rfl ?_
  obtain ⟨u1, hu1, hf2⟩ := bnd_inv hf
  refine x_callVi (As := []) (rest := []) h hg (c_X10_readsAgents C.2.1 hg.2.1 σ _ hu1) ml_X10_184 biX10_readsAgents rfl rfl hdX10_readsAgents ⟨Nat.le_of_ble_eq_true rfl, Nat.le_of_ble_eq_true rfl⟩ (by decide) (cE_87 g _) rfl rfl rfl (Nat.le_of_ble_eq_true rfl) dX10_readsUnit_23 ?_
  have hz := Option.some.inj hf2
  subst hz
  exact x_zret (b := u1.1) h hg hr dX10_readsUnit_26
def m_X10_readsUnit_b160 (σ : St) : Option (Bool × St) :=
  some (true, (up σ 87 27 ((σ 87 27) + 1)))
set_option maxHeartbeats 4000000 in
set_option maxRecDepth 100000 in
theorem w_X10_readsUnit_b160 {C : XC} {Q : State → Prop} {g : cG} (σ : St) (o : Bool × St) (h : XOk C cX10_readsUnit RX10 tG rmX10_readsUnit) (hg : XG C g) (hL : C.2.2.2.2.2.2.2.2.2.2.2.2.1 = 2) (hr : XEnd C (some .boolean) Q (XQ g (some (.int (bI o.1))) o.2) (cA g)) (hf : m_X10_readsUnit_b160 σ  = some o) : Xs C (wW g) Q σ 160 [(0, .ref (gA g 87))] [] := by
  unfold m_X10_readsUnit_b160 at hf
  refine x_aload_n h dX10_readsUnit_160 rfl 0 rfl (q := 161) rfl ?_
  refine x_dup h dX10_readsUnit_161 rfl (q := 162) rfl ?_
  refine x_get_X10_87_27 h hg kf_X10_170 nn_X10 dX10_readsUnit_162 ?_
  refine x_iconst (v := 1) h dX10_readsUnit_165 (by decide) (q := 166) rfl ?_
  refine x_iadd h dX10_readsUnit_166 (q := 167) rfl ?_
  refine x_put_X10_87_27 h hg kf_X10_170 nn_X10 dX10_readsUnit_167 ?_
  refine x_iconst (v := 1) h dX10_readsUnit_170 (by decide) (q := 171) rfl ?_
  have hz := Option.some.inj hf
  subst hz
  exact x_zret (b := true) h hg hr dX10_readsUnit_171
def m_X10_readsUnit_b107 (σ : St) (s0 : Int32) : Option (Bool × St) :=
  (m_X10_part σ s0 (-1) (-1) 0).bind fun u1 =>
  (m_X10_unit u1.2 u1.1).bind fun u3 =>
  m_X10_readsUnit_b160 (up u3 87 28 1)
set_option maxHeartbeats 4000000 in
set_option maxRecDepth 100000 in
theorem w_X10_readsUnit_b107 {C : XC} {Q : State → Prop} {g : cG} (σ : St) (s0 : Int32) (o : Bool × St) (h : XOk C cX10_readsUnit RX10 tG rmX10_readsUnit) (hg : XG C g) (hL : C.2.2.2.2.2.2.2.2.2.2.2.2.1 = 2) (hr : XEnd C (some .boolean) Q (XQ g (some (.int (bI o.1))) o.2) (cA g)) (hf : m_X10_readsUnit_b107 σ s0  = some o) : Xs C (wW g) Q σ 107 [(0, .ref (gA g 87))] [.int s0, .ref (gA g 87), .ref (gA g 87)] := by
  unfold m_X10_readsUnit_b107 at hf
  refine x_iconst (v := (-1)) h dX10_readsUnit_107 (by decide) (q := 108) rfl ?_
  refine x_iconst (v := (-1)) h dX10_readsUnit_108 (by decide) (q := 109) rfl ?_
  refine x_iconst (v := 0) h dX10_readsUnit_109 (by decide) (q := 110) rfl ?_
  obtain ⟨u1, hu1, hf2⟩ := bnd_inv hf
  refine x_callVi (As := [.int s0, .int (-1), .int (-1), .int 0]) (rest := [.ref (gA g 87)]) h hg (c_X10_part C.2.1 hg.2.1 σ s0 (-1) (-1) 0 _ hu1) ml_X10_166 biX10_part rfl rfl hdX10_part ⟨Nat.le_of_ble_eq_true rfl, Nat.le_of_ble_eq_true rfl⟩ (by decide) (cE_87 g _) rfl rfl rfl (Nat.le_of_ble_eq_true rfl) dX10_readsUnit_110 ?_
  obtain ⟨u3, hu3, hf4⟩ := bnd_inv hf2
  refine x_callVv (As := [.int u1.1]) (rest := []) h hg (c_X10_unit C.2.1 hg.2.1 u1.2 u1.1 _ hu3) ml_X10_188 biX10_unit rfl rfl hdX10_unit ⟨Nat.le_of_ble_eq_true rfl, Nat.le_of_ble_eq_true rfl⟩ (by decide) (cE_87 g _) rfl rfl rfl (Nat.le_of_ble_eq_true rfl) dX10_readsUnit_113 ?_
  refine x_aload_n h dX10_readsUnit_116 rfl 0 rfl (q := 117) rfl ?_
  refine x_iconst (v := 1) h dX10_readsUnit_117 (by decide) (q := 118) rfl ?_
  refine x_put_X10_87_28 h hg kf_X10_181 nn_X10 dX10_readsUnit_118 (by decide) (by decide) ?_
  refine x_goto (q := 160) h dX10_readsUnit_121 (by decide) ?_
  exact w_X10_readsUnit_b160 (up u3 87 28 1) o h hg hL hr hf4
def m_X10_readsUnit_b94 (σ : St) (x1 : Int32) : Option (Bool × St) :=
  if x1 = 48 then (
    m_X10_readsUnit_b107 σ 0
  ) else (
    m_X10_readsUnit_b107 σ 1
  )
set_option maxHeartbeats 4000000 in
set_option maxRecDepth 100000 in
theorem w_X10_readsUnit_b94 {C : XC} {Q : State → Prop} {g : cG} (σ : St) (x1 : Int32) (o : Bool × St) (h : XOk C cX10_readsUnit RX10 tG rmX10_readsUnit) (hg : XG C g) (hL : C.2.2.2.2.2.2.2.2.2.2.2.2.1 = 2) (hr : XEnd C (some .boolean) Q (XQ g (some (.int (bI o.1))) o.2) (cA g)) (hf : m_X10_readsUnit_b94 σ x1  = some o) : Xs C (wW g) Q σ 94 [(0, .ref (gA g 87)), (1, .int x1)] [] := by
  unfold m_X10_readsUnit_b94 at hf
  refine x_aload_n h dX10_readsUnit_94 rfl 0 rfl (q := 95) rfl ?_
  refine x_aload_n h dX10_readsUnit_95 rfl 0 rfl (q := 96) rfl ?_
  refine x_iload_n h dX10_readsUnit_96 rfl 1 rfl (q := 97) rfl ?_
  refine x_bipush (v := 48) h dX10_readsUnit_97 (by decide) (q := 99) rfl ?_
  refine x_icmp_ne (tgt := 106) h dX10_readsUnit_99 (by decide) (q := 102) rfl hf (fun hc1 hf2 => ?_) (fun hc1 hf2 => ?_)
  · skip
    refine x_iconst (v := 1) h dX10_readsUnit_106 (by decide) (q := 107) rfl ?_
    refine x_sub (lv' := [(0, .ref (gA g 87))]) [0] rfl ?_
    exact w_X10_readsUnit_b107 σ 1 o h hg hL hr hf2
  · skip
    refine x_iconst (v := 0) h dX10_readsUnit_102 (by decide) (q := 103) rfl ?_
    refine x_goto (q := 107) h dX10_readsUnit_103 (by decide) ?_
    refine x_sub (lv' := [(0, .ref (gA g 87))]) [0] rfl ?_
    exact w_X10_readsUnit_b107 σ 0 o h hg hL hr hf2
def m_X10_readsUnit (σ : St) : Option (Bool × St) :=
  (m_X10_sign σ).bind fun u1 =>
  if u1 = 60 then (
    m_X10_readsUnit_b22 (up σ 87 28 0)
  ) else (
    if u1 = 91 then (
      m_X10_readsUnit_b22 (up σ 87 28 0)
    ) else (
      if u1 = 33 then (
        chk ((up σ 87 28 0) 87 26) 62 <|
        chk ((up (up σ 87 28 0) 105 (Int32.toNatClampNeg ((up σ 87 28 0) 87 26)) 3) 87 26) 62 <|
        m_X10_readsUnit_b160 (up (up (up (up σ 87 28 0) 105 (Int32.toNatClampNeg ((up σ 87 28 0) 87 26)) 3) 106 (Int32.toNatClampNeg ((up (up σ 87 28 0) 105 (Int32.toNatClampNeg ((up σ 87 28 0) 87 26)) 3) 87 26)) 0) 87 26 (((up (up (up σ 87 28 0) 105 (Int32.toNatClampNeg ((up σ 87 28 0) 87 26)) 3) 106 (Int32.toNatClampNeg ((up (up σ 87 28 0) 105 (Int32.toNatClampNeg ((up σ 87 28 0) 87 26)) 3) 87 26)) 0) 87 26) + 1))
      ) else (
        if u1 = 40 then (
          (m_X10_opens (up σ 87 28 0) 1 0 0).bind fun u21 =>
          m_X10_readsUnit_b160 u21
        ) else (
          if u1 = 48 then (
            m_X10_readsUnit_b94 (up σ 87 28 0) u1
          ) else (
            if u1 = 49 then (
              m_X10_readsUnit_b94 (up σ 87 28 0) u1
            ) else (
              if (bI (m_X10_in u1 97 122)) = 0 then (
                some (false, (up σ 87 28 0))
              ) else (
                (m_X10_part (up σ 87 28 0) 2 (u1 - 97) (-1) 0).bind fun u17 =>
                (m_X10_unit u17.2 u17.1).bind fun u19 =>
                m_X10_readsUnit_b160 (up u19 87 28 1)
              )
            )
          )
        )
      )
    )
  )
set_option maxHeartbeats 4000000 in
set_option maxRecDepth 100000 in
theorem w_X10_readsUnit {C : XC} {Q : State → Prop} {g : cG} (σ : St) (o : Bool × St) (h : XOk C cX10_readsUnit RX10 tG rmX10_readsUnit) (hg : XG C g) (hL : C.2.2.2.2.2.2.2.2.2.2.2.2.1 = 2) (hr : XEnd C (some .boolean) Q (XQ g (some (.int (bI o.1))) o.2) (cA g)) (hf : m_X10_readsUnit σ = some o) : Xs C (wW g) Q σ 0 [(0, .ref (gA g 87))] [] := by
  unfold m_X10_readsUnit at hf
  refine x_aload_n h dX10_readsUnit_0 rfl 0 rfl (q := 1) rfl ?_
  obtain ⟨u1, hu1, hf2⟩ := bnd_inv hf
  refine x_callVi (As := []) (rest := []) h hg (c_X10_sign C.2.1 hg.2.1 σ _ hu1) ml_X10_173 biX10_sign rfl rfl hdX10_sign ⟨Nat.le_of_ble_eq_true rfl, Nat.le_of_ble_eq_true rfl⟩ (by decide) (cE_87 g _) rfl rfl rfl (Nat.le_of_ble_eq_true rfl) dX10_readsUnit_1 ?_
  refine x_istore_n (lv' := [(1, .int u1), (0, .ref (gA g 87))]) h dX10_readsUnit_4 rfl hL (by decide) rfl (q := 5) rfl ?_
  refine x_aload_n h dX10_readsUnit_5 rfl 1 rfl (q := 6) rfl ?_
  refine x_iconst (v := 0) h dX10_readsUnit_6 (by decide) (q := 7) rfl ?_
  refine x_put_X10_87_28 h hg kf_X10_181 nn_X10 dX10_readsUnit_7 (by decide) (by decide) ?_
  refine x_iload_n h dX10_readsUnit_10 rfl 0 rfl (q := 11) rfl ?_
  refine x_bipush (v := 60) h dX10_readsUnit_11 (by decide) (q := 13) rfl ?_
  refine x_icmp_eq (tgt := 22) h dX10_readsUnit_13 (by decide) (q := 16) rfl hf2 (fun hc3 hf4 => ?_) (fun hc3 hf4 => ?_)
  · skip
    refine x_sub (lv' := [(0, .ref (gA g 87))]) [1] rfl ?_
    exact w_X10_readsUnit_b22 (up σ 87 28 0) o h hg hL hr hf4
  · skip
    refine x_iload_n h dX10_readsUnit_16 rfl 0 rfl (q := 17) rfl ?_
    refine x_bipush (v := 91) h dX10_readsUnit_17 (by decide) (q := 19) rfl ?_
    refine x_icmp_ne (tgt := 27) h dX10_readsUnit_19 (by decide) (q := 22) rfl hf4 (fun hc5 hf6 => ?_) (fun hc5 hf6 => ?_)
    · skip
      refine x_iload_n h dX10_readsUnit_27 rfl 0 rfl (q := 28) rfl ?_
      refine x_bipush (v := 33) h dX10_readsUnit_28 (by decide) (q := 30) rfl ?_
      refine x_icmp_ne (tgt := 66) h dX10_readsUnit_30 (by decide) (q := 33) rfl hf6 (fun hc7 hf8 => ?_) (fun hc7 hf8 => ?_)
      · skip
        refine x_iload_n h dX10_readsUnit_66 rfl 0 rfl (q := 67) rfl ?_
        refine x_bipush (v := 40) h dX10_readsUnit_67 (by decide) (q := 69) rfl ?_
        refine x_icmp_ne (tgt := 82) h dX10_readsUnit_69 (by decide) (q := 72) rfl hf8 (fun hc9 hf10 => ?_) (fun hc9 hf10 => ?_)
        · skip
          refine x_iload_n h dX10_readsUnit_82 rfl 0 rfl (q := 83) rfl ?_
          refine x_bipush (v := 48) h dX10_readsUnit_83 (by decide) (q := 85) rfl ?_
          refine x_icmp_eq (tgt := 94) h dX10_readsUnit_85 (by decide) (q := 88) rfl hf10 (fun hc11 hf12 => ?_) (fun hc11 hf12 => ?_)
          · skip
            refine x_sub (lv' := [(0, .ref (gA g 87)), (1, .int u1)]) [1, 0] rfl ?_
            exact w_X10_readsUnit_b94 (up σ 87 28 0) u1 o h hg hL hr hf12
          · skip
            refine x_iload_n h dX10_readsUnit_88 rfl 0 rfl (q := 89) rfl ?_
            refine x_bipush (v := 49) h dX10_readsUnit_89 (by decide) (q := 91) rfl ?_
            refine x_icmp_ne (tgt := 124) h dX10_readsUnit_91 (by decide) (q := 94) rfl hf12 (fun hc13 hf14 => ?_) (fun hc13 hf14 => ?_)
            · skip
              refine x_iload_n h dX10_readsUnit_124 rfl 0 rfl (q := 125) rfl ?_
              refine x_bipush (v := 97) h dX10_readsUnit_125 (by decide) (q := 127) rfl ?_
              refine x_bipush (v := 122) h dX10_readsUnit_127 (by decide) (q := 129) rfl ?_
              refine x_callPi (As := [.int u1, .int 97, .int 122]) (rest := []) h (c_X10_in C.2.1 u1 97 122 _ rfl) ml_X10_93 biX10_in rfl rfl hdX10_in ⟨Nat.le_of_ble_eq_true rfl, Nat.le_of_ble_eq_true rfl⟩ rfl rfl (Nat.le_of_ble_eq_true rfl) dX10_readsUnit_129 ?_
              refine x_if_eq (tgt := 158) h dX10_readsUnit_132 (by decide) (q := 135) rfl hf14 (fun hc15 hf16 => ?_) (fun hc15 hf16 => ?_)
              · skip
                refine x_iconst (v := 0) h dX10_readsUnit_158 (by decide) (q := 159) rfl ?_
                have hz := Option.some.inj hf16
                subst hz
                exact x_zret (b := false) h hg hr dX10_readsUnit_159
              · skip
                refine x_aload_n h dX10_readsUnit_135 rfl 1 rfl (q := 136) rfl ?_
                refine x_aload_n h dX10_readsUnit_136 rfl 1 rfl (q := 137) rfl ?_
                refine x_iconst (v := 2) h dX10_readsUnit_137 (by decide) (q := 138) rfl ?_
                refine x_iload_n h dX10_readsUnit_138 rfl 0 rfl (q := 139) rfl ?_
                refine x_bipush (v := 97) h dX10_readsUnit_139 (by decide) (q := 141) rfl ?_
                refine x_isub h dX10_readsUnit_141 (q := 142) rfl ?_
                refine x_iconst (v := (-1)) h dX10_readsUnit_142 (by decide) (q := 143) rfl ?_
                refine x_iconst (v := 0) h dX10_readsUnit_143 (by decide) (q := 144) rfl ?_
                obtain ⟨u17, hu17, hf18⟩ := bnd_inv hf16
                refine x_callVi (As := [.int 2, .int (u1 - 97), .int (-1), .int 0]) (rest := [.ref (gA g 87)]) h hg (c_X10_part C.2.1 hg.2.1 (up σ 87 28 0) 2 (u1 - 97) (-1) 0 _ hu17) ml_X10_166 biX10_part rfl rfl hdX10_part ⟨Nat.le_of_ble_eq_true rfl, Nat.le_of_ble_eq_true rfl⟩ (by decide) (cE_87 g _) rfl rfl rfl (Nat.le_of_ble_eq_true rfl) dX10_readsUnit_144 ?_
                obtain ⟨u19, hu19, hf20⟩ := bnd_inv hf18
                refine x_callVv (As := [.int u17.1]) (rest := []) h hg (c_X10_unit C.2.1 hg.2.1 u17.2 u17.1 _ hu19) ml_X10_188 biX10_unit rfl rfl hdX10_unit ⟨Nat.le_of_ble_eq_true rfl, Nat.le_of_ble_eq_true rfl⟩ (by decide) (cE_87 g _) rfl rfl rfl (Nat.le_of_ble_eq_true rfl) dX10_readsUnit_147 ?_
                refine x_aload_n h dX10_readsUnit_150 rfl 1 rfl (q := 151) rfl ?_
                refine x_iconst (v := 1) h dX10_readsUnit_151 (by decide) (q := 152) rfl ?_
                refine x_put_X10_87_28 h hg kf_X10_181 nn_X10 dX10_readsUnit_152 (by decide) (by decide) ?_
                refine x_goto (q := 160) h dX10_readsUnit_155 (by decide) ?_
                refine x_sub (lv' := [(0, .ref (gA g 87))]) [1] rfl ?_
                exact w_X10_readsUnit_b160 (up u19 87 28 1) o h hg hL hr hf20
            · skip
              refine x_sub (lv' := [(0, .ref (gA g 87)), (1, .int u1)]) [1, 0] rfl ?_
              exact w_X10_readsUnit_b94 (up σ 87 28 0) u1 o h hg hL hr hf14
        · skip
          refine x_aload_n h dX10_readsUnit_72 rfl 1 rfl (q := 73) rfl ?_
          refine x_iconst (v := 1) h dX10_readsUnit_73 (by decide) (q := 74) rfl ?_
          refine x_iconst (v := 0) h dX10_readsUnit_74 (by decide) (q := 75) rfl ?_
          refine x_iconst (v := 0) h dX10_readsUnit_75 (by decide) (q := 76) rfl ?_
          obtain ⟨u21, hu21, hf22⟩ := bnd_inv hf10
          refine x_callVv (As := [.int 1, .int 0, .int 0]) (rest := []) h hg (c_X10_opens C.2.1 hg.2.1 (up σ 87 28 0) 1 0 0 _ hu21) ml_X10_177 biX10_opens rfl rfl hdX10_opens ⟨Nat.le_of_ble_eq_true rfl, Nat.le_of_ble_eq_true rfl⟩ (by decide) (cE_87 g _) rfl rfl rfl (Nat.le_of_ble_eq_true rfl) dX10_readsUnit_76 ?_
          refine x_goto (q := 160) h dX10_readsUnit_79 (by decide) ?_
          refine x_sub (lv' := [(0, .ref (gA g 87))]) [1] rfl ?_
          exact w_X10_readsUnit_b160 u21 o h hg hL hr hf22
      · skip
        refine x_aload_n h dX10_readsUnit_33 rfl 1 rfl (q := 34) rfl ?_
        refine x_get_X10_87_24 h hg kf_X10_61 nn_X10 dX10_readsUnit_34 ?_
        refine x_aload_n h dX10_readsUnit_37 rfl 1 rfl (q := 38) rfl ?_
        refine x_get_X10_87_26 h hg kf_X10_163 nn_X10 dX10_readsUnit_38 ?_
        refine x_iconst (v := 3) h dX10_readsUnit_41 (by decide) (q := 42) rfl ?_
        obtain ⟨hi23, hf24⟩ := chk_inv hf8
        refine x_iast (j := (Int32.toNatClampNeg ((up σ 87 28 0) 87 26))) h hg a_105 hi23 rfl dX10_readsUnit_42 (q := 43) rfl ?_
        refine x_aload_n h dX10_readsUnit_43 rfl 1 rfl (q := 44) rfl ?_
        refine x_get_X10_87_25 h hg kf_X10_64 nn_X10 dX10_readsUnit_44 ?_
        refine x_aload_n h dX10_readsUnit_47 rfl 1 rfl (q := 48) rfl ?_
        refine x_get_X10_87_26 h hg kf_X10_163 nn_X10 dX10_readsUnit_48 ?_
        refine x_iconst (v := 0) h dX10_readsUnit_51 (by decide) (q := 52) rfl ?_
        obtain ⟨hi25, hf26⟩ := chk_inv hf24
        refine x_iast (j := (Int32.toNatClampNeg ((up (up σ 87 28 0) 105 (Int32.toNatClampNeg ((up σ 87 28 0) 87 26)) 3) 87 26))) h hg a_106 hi25 rfl dX10_readsUnit_52 (q := 53) rfl ?_
        refine x_aload_n h dX10_readsUnit_53 rfl 1 rfl (q := 54) rfl ?_
        refine x_dup h dX10_readsUnit_54 rfl (q := 55) rfl ?_
        refine x_get_X10_87_26 h hg kf_X10_163 nn_X10 dX10_readsUnit_55 ?_
        refine x_iconst (v := 1) h dX10_readsUnit_58 (by decide) (q := 59) rfl ?_
        refine x_iadd h dX10_readsUnit_59 (q := 60) rfl ?_
        refine x_put_X10_87_26 h hg kf_X10_163 nn_X10 dX10_readsUnit_60 ?_
        refine x_goto (q := 160) h dX10_readsUnit_63 (by decide) ?_
        refine x_sub (lv' := [(0, .ref (gA g 87))]) [1] rfl ?_
        exact w_X10_readsUnit_b160 (up (up (up (up σ 87 28 0) 105 (Int32.toNatClampNeg ((up σ 87 28 0) 87 26)) 3) 106 (Int32.toNatClampNeg ((up (up σ 87 28 0) 105 (Int32.toNatClampNeg ((up σ 87 28 0) 87 26)) 3) 87 26)) 0) 87 26 (((up (up (up σ 87 28 0) 105 (Int32.toNatClampNeg ((up σ 87 28 0) 87 26)) 3) 106 (Int32.toNatClampNeg ((up (up σ 87 28 0) 105 (Int32.toNatClampNeg ((up σ 87 28 0) 87 26)) 3) 87 26)) 0) 87 26) + 1)) o h hg hL hr hf26
    · skip
      refine x_sub (lv' := [(0, .ref (gA g 87))]) [1] rfl ?_
      exact w_X10_readsUnit_b22 (up σ 87 28 0) o h hg hL hr hf6
theorem c_X10_readsUnit (l : Launch) {g : cG} (hi : gInj g) (σ : St) (o : Bool × St) (hf : m_X10_readsUnit σ = some o) : Met l yX10_readsUnit (wT yX10_readsUnit cX10_readsUnit 2 (some .boolean)) rmX10_readsUnit (va_Pc [.ref (gA g 87)] (XPre g σ)) (XQ g (some (.int (bI o.1))) o.2) 0 0 (cA g) :=
  X_met RX10 hi plX10 rfl (Nat.le_of_ble_eq_true rfl) rfl (fun _ _ _ h hg hL hr => w_X10_readsUnit σ o h hg hL hr hf)
abbrev rmX10_readsBehind : Room := { frames := 2, cells := 0, slots := 0, locals := 47 }
theorem hdX10_readsBehind : yX10_readsBehind.cls = RX10 ∧ yX10_readsBehind.cls ≠ "java/lang/invoke/MethodHandle" ∧ yX10_readsBehind.cls ≠ "java/lang/invoke/VarHandle" ∧ (parseMethodDescriptor yX10_readsBehind.desc).map (fun d => d.parameters.length) = some 0 := by decide +kernel
def m_X10_readsBehind_b218 (σ : St) : Option (Bool × St) :=
  some (true, (up σ 87 27 ((σ 87 27) + 1)))
set_option maxHeartbeats 4000000 in
set_option maxRecDepth 100000 in
theorem w_X10_readsBehind_b218 {C : XC} {Q : State → Prop} {g : cG} (σ : St) (o : Bool × St) (h : XOk C cX10_readsBehind RX10 tG rmX10_readsBehind) (hg : XG C g) (hL : C.2.2.2.2.2.2.2.2.2.2.2.2.1 = 3) (hr : XEnd C (some .boolean) Q (XQ g (some (.int (bI o.1))) o.2) (cA g)) (hf : m_X10_readsBehind_b218 σ  = some o) : Xs C (wW g) Q σ 218 [(0, .ref (gA g 87))] [] := by
  unfold m_X10_readsBehind_b218 at hf
  refine x_aload_n h dX10_readsBehind_218 rfl 0 rfl (q := 219) rfl ?_
  refine x_dup h dX10_readsBehind_219 rfl (q := 220) rfl ?_
  refine x_get_X10_87_27 h hg kf_X10_170 nn_X10 dX10_readsBehind_220 ?_
  refine x_iconst (v := 1) h dX10_readsBehind_223 (by decide) (q := 224) rfl ?_
  refine x_iadd h dX10_readsBehind_224 (q := 225) rfl ?_
  refine x_put_X10_87_27 h hg kf_X10_170 nn_X10 dX10_readsBehind_225 ?_
  refine x_iconst (v := 1) h dX10_readsBehind_228 (by decide) (q := 229) rfl ?_
  have hz := Option.some.inj hf
  subst hz
  exact x_zret (b := true) h hg hr dX10_readsBehind_229
def m_X10_readsBehind_b198 (σ : St) (x2 : Int32) : Option (Bool × St) :=
  (m_X10_unit (up σ 87 23 ((σ 87 23) - 1)) x2).bind fun u1 =>
  m_X10_readsBehind_b218 u1
set_option maxHeartbeats 4000000 in
set_option maxRecDepth 100000 in
theorem w_X10_readsBehind_b198 {C : XC} {Q : State → Prop} {g : cG} (σ : St) (x2 : Int32) (o : Bool × St) (h : XOk C cX10_readsBehind RX10 tG rmX10_readsBehind) (hg : XG C g) (hL : C.2.2.2.2.2.2.2.2.2.2.2.2.1 = 3) (hr : XEnd C (some .boolean) Q (XQ g (some (.int (bI o.1))) o.2) (cA g)) (hf : m_X10_readsBehind_b198 σ x2  = some o) : Xs C (wW g) Q σ 198 [(0, .ref (gA g 87)), (2, .int x2)] [] := by
  unfold m_X10_readsBehind_b198 at hf
  refine x_aload_n h dX10_readsBehind_198 rfl 0 rfl (q := 199) rfl ?_
  refine x_dup h dX10_readsBehind_199 rfl (q := 200) rfl ?_
  refine x_get_X10_87_23 h hg kf_X10_160 nn_X10 dX10_readsBehind_200 ?_
  refine x_iconst (v := 1) h dX10_readsBehind_203 (by decide) (q := 204) rfl ?_
  refine x_isub h dX10_readsBehind_204 (q := 205) rfl ?_
  refine x_put_X10_87_23 h hg kf_X10_160 nn_X10 dX10_readsBehind_205 ?_
  refine x_aload_n h dX10_readsBehind_208 rfl 0 rfl (q := 209) rfl ?_
  refine x_iload_n h dX10_readsBehind_209 rfl 1 rfl (q := 210) rfl ?_
  obtain ⟨u1, hu1, hf2⟩ := bnd_inv hf
  refine x_callVv (As := [.int x2]) (rest := []) h hg (c_X10_unit C.2.1 hg.2.1 (up σ 87 23 ((σ 87 23) - 1)) x2 _ hu1) ml_X10_188 biX10_unit rfl rfl hdX10_unit ⟨Nat.le_of_ble_eq_true rfl, Nat.le_of_ble_eq_true rfl⟩ (by decide) (cE_87 g _) rfl rfl rfl (Nat.le_of_ble_eq_true rfl) dX10_readsBehind_210 ?_
  refine x_goto (q := 218) h dX10_readsBehind_213 (by decide) ?_
  refine x_sub (lv' := [(0, .ref (gA g 87))]) [0] rfl ?_
  exact w_X10_readsBehind_b218 u1 o h hg hL hr hf2
def m_X10_readsBehind_b138 (σ : St) : Option (Bool × St) :=
  (m_X10_joins σ).bind fun u1 =>
  chk (u1 87 23) 62 <|
  chk (u1 87 23) 62 <|
  if (u1 98 (Int32.toNatClampNeg (u1 87 23))) = 3 then (
    chk (u1 87 23) 62 <|
    chk (u1 87 23) 62 <|
    chk (u1 87 23) 62 <|
    (m_X10_part u1 (u1 103 (Int32.toNatClampNeg (u1 87 23))) (u1 101 (Int32.toNatClampNeg (u1 87 23))) (u1 99 (Int32.toNatClampNeg (u1 87 23))) (u1 104 (Int32.toNatClampNeg (u1 87 23)))).bind fun u15 =>
    m_X10_readsBehind_b198 u15.2 u15.1
  ) else (
    m_X10_readsBehind_b198 u1 (u1 99 (Int32.toNatClampNeg (u1 87 23)))
  )
set_option maxHeartbeats 4000000 in
set_option maxRecDepth 100000 in
theorem w_X10_readsBehind_b138 {C : XC} {Q : State → Prop} {g : cG} (σ : St) (o : Bool × St) (h : XOk C cX10_readsBehind RX10 tG rmX10_readsBehind) (hg : XG C g) (hL : C.2.2.2.2.2.2.2.2.2.2.2.2.1 = 3) (hr : XEnd C (some .boolean) Q (XQ g (some (.int (bI o.1))) o.2) (cA g)) (hf : m_X10_readsBehind_b138 σ  = some o) : Xs C (wW g) Q σ 138 [(0, .ref (gA g 87))] [] := by
  unfold m_X10_readsBehind_b138 at hf
  refine x_aload_n h dX10_readsBehind_138 rfl 0 rfl (q := 139) rfl ?_
  obtain ⟨u1, hu1, hf2⟩ := bnd_inv hf
  refine x_callVv (As := []) (rest := []) h hg (c_X10_joins C.2.1 hg.2.1 σ _ hu1) ml_X10_191 biX10_joins rfl rfl hdX10_joins ⟨Nat.le_of_ble_eq_true rfl, Nat.le_of_ble_eq_true rfl⟩ (by decide) (cE_87 g _) rfl rfl rfl (Nat.le_of_ble_eq_true rfl) dX10_readsBehind_139 ?_
  refine x_aload_n h dX10_readsBehind_142 rfl 0 rfl (q := 143) rfl ?_
  refine x_get_X10_87_17 h hg kf_X10_43 nn_X10 dX10_readsBehind_143 ?_
  refine x_aload_n h dX10_readsBehind_146 rfl 0 rfl (q := 147) rfl ?_
  refine x_get_X10_87_23 h hg kf_X10_160 nn_X10 dX10_readsBehind_147 ?_
  obtain ⟨hi3, hf4⟩ := chk_inv hf2
  refine x_iald (j := (Int32.toNatClampNeg (u1 87 23))) h hg a_99 hi3 rfl dX10_readsBehind_150 (q := 151) rfl ?_
  refine x_istore_n (lv' := [(2, .int (u1 99 (Int32.toNatClampNeg (u1 87 23)))), (0, .ref (gA g 87))]) h dX10_readsBehind_151 rfl hL (by decide) rfl (q := 152) rfl ?_
  refine x_aload_n h dX10_readsBehind_152 rfl 1 rfl (q := 153) rfl ?_
  refine x_get_X10_87_16 h hg kf_X10_40 nn_X10 dX10_readsBehind_153 ?_
  refine x_aload_n h dX10_readsBehind_156 rfl 1 rfl (q := 157) rfl ?_
  refine x_get_X10_87_23 h hg kf_X10_160 nn_X10 dX10_readsBehind_157 ?_
  obtain ⟨hi5, hf6⟩ := chk_inv hf4
  refine x_iald (j := (Int32.toNatClampNeg (u1 87 23))) h hg a_98 hi5 rfl dX10_readsBehind_160 (q := 161) rfl ?_
  refine x_iconst (v := 3) h dX10_readsBehind_161 (by decide) (q := 162) rfl ?_
  refine x_icmp_ne (tgt := 198) h dX10_readsBehind_162 (by decide) (q := 165) rfl hf6 (fun hc7 hf8 => ?_) (fun hc7 hf8 => ?_)
  · skip
    refine x_sub (lv' := [(0, .ref (gA g 87)), (2, .int (u1 99 (Int32.toNatClampNeg (u1 87 23))))]) [1, 0] rfl ?_
    exact w_X10_readsBehind_b198 u1 (u1 99 (Int32.toNatClampNeg (u1 87 23))) o h hg hL hr hf8
  · skip
    refine x_aload_n h dX10_readsBehind_165 rfl 1 rfl (q := 166) rfl ?_
    refine x_aload_n h dX10_readsBehind_166 rfl 1 rfl (q := 167) rfl ?_
    refine x_get_X10_87_21 h hg kf_X10_55 nn_X10 dX10_readsBehind_167 ?_
    refine x_aload_n h dX10_readsBehind_170 rfl 1 rfl (q := 171) rfl ?_
    refine x_get_X10_87_23 h hg kf_X10_160 nn_X10 dX10_readsBehind_171 ?_
    obtain ⟨hi9, hf10⟩ := chk_inv hf8
    refine x_iald (j := (Int32.toNatClampNeg (u1 87 23))) h hg a_103 hi9 rfl dX10_readsBehind_174 (q := 175) rfl ?_
    refine x_aload_n h dX10_readsBehind_175 rfl 1 rfl (q := 176) rfl ?_
    refine x_get_X10_87_19 h hg kf_X10_49 nn_X10 dX10_readsBehind_176 ?_
    refine x_aload_n h dX10_readsBehind_179 rfl 1 rfl (q := 180) rfl ?_
    refine x_get_X10_87_23 h hg kf_X10_160 nn_X10 dX10_readsBehind_180 ?_
    obtain ⟨hi11, hf12⟩ := chk_inv hf10
    refine x_iald (j := (Int32.toNatClampNeg (u1 87 23))) h hg a_101 hi11 rfl dX10_readsBehind_183 (q := 184) rfl ?_
    refine x_iload_n h dX10_readsBehind_184 rfl 0 rfl (q := 185) rfl ?_
    refine x_aload_n h dX10_readsBehind_185 rfl 1 rfl (q := 186) rfl ?_
    refine x_get_X10_87_22 h hg kf_X10_58 nn_X10 dX10_readsBehind_186 ?_
    refine x_aload_n h dX10_readsBehind_189 rfl 1 rfl (q := 190) rfl ?_
    refine x_get_X10_87_23 h hg kf_X10_160 nn_X10 dX10_readsBehind_190 ?_
    obtain ⟨hi13, hf14⟩ := chk_inv hf12
    refine x_iald (j := (Int32.toNatClampNeg (u1 87 23))) h hg a_104 hi13 rfl dX10_readsBehind_193 (q := 194) rfl ?_
    obtain ⟨u15, hu15, hf16⟩ := bnd_inv hf14
    refine x_callVi (As := [.int (u1 103 (Int32.toNatClampNeg (u1 87 23))), .int (u1 101 (Int32.toNatClampNeg (u1 87 23))), .int (u1 99 (Int32.toNatClampNeg (u1 87 23))), .int (u1 104 (Int32.toNatClampNeg (u1 87 23)))]) (rest := []) h hg (c_X10_part C.2.1 hg.2.1 u1 (u1 103 (Int32.toNatClampNeg (u1 87 23))) (u1 101 (Int32.toNatClampNeg (u1 87 23))) (u1 99 (Int32.toNatClampNeg (u1 87 23))) (u1 104 (Int32.toNatClampNeg (u1 87 23))) _ hu15) ml_X10_166 biX10_part rfl rfl hdX10_part ⟨Nat.le_of_ble_eq_true rfl, Nat.le_of_ble_eq_true rfl⟩ (by decide) (cE_87 g _) rfl rfl rfl (Nat.le_of_ble_eq_true rfl) dX10_readsBehind_194 ?_
    refine x_istore_n (lv' := [(2, .int u15.1), (0, .ref (gA g 87))]) h dX10_readsBehind_197 rfl hL (by decide) rfl (q := 198) rfl ?_
    refine x_sub (lv' := [(0, .ref (gA g 87)), (2, .int u15.1)]) [1, 0] rfl ?_
    exact w_X10_readsBehind_b198 u15.2 u15.1 o h hg hL hr hf16
def m_X10_readsBehind_b106 (σ : St) (x1 : Int32) : Option (Bool × St) :=
  if x1 = 41 then (
    chk (σ 87 23) 62 <|
    if (σ 98 (Int32.toNatClampNeg (σ 87 23))) = 1 then (
      m_X10_readsBehind_b138 σ
    ) else (
      chk (σ 87 23) 62 <|
      if (σ 98 (Int32.toNatClampNeg (σ 87 23))) = 3 then (
        m_X10_readsBehind_b138 σ
      ) else (
        some (false, σ)
      )
    )
  ) else (
    some (false, σ)
  )
set_option maxHeartbeats 4000000 in
set_option maxRecDepth 100000 in
theorem w_X10_readsBehind_b106 {C : XC} {Q : State → Prop} {g : cG} (σ : St) (x1 : Int32) (o : Bool × St) (h : XOk C cX10_readsBehind RX10 tG rmX10_readsBehind) (hg : XG C g) (hL : C.2.2.2.2.2.2.2.2.2.2.2.2.1 = 3) (hr : XEnd C (some .boolean) Q (XQ g (some (.int (bI o.1))) o.2) (cA g)) (hf : m_X10_readsBehind_b106 σ x1  = some o) : Xs C (wW g) Q σ 106 [(0, .ref (gA g 87)), (1, .int x1)] [] := by
  unfold m_X10_readsBehind_b106 at hf
  refine x_iload_n h dX10_readsBehind_106 rfl 1 rfl (q := 107) rfl ?_
  refine x_bipush (v := 41) h dX10_readsBehind_107 (by decide) (q := 109) rfl ?_
  refine x_icmp_ne (tgt := 216) h dX10_readsBehind_109 (by decide) (q := 112) rfl hf (fun hc1 hf2 => ?_) (fun hc1 hf2 => ?_)
  · skip
    refine x_iconst (v := 0) h dX10_readsBehind_216 (by decide) (q := 217) rfl ?_
    have hz := Option.some.inj hf2
    subst hz
    exact x_zret (b := false) h hg hr dX10_readsBehind_217
  · skip
    refine x_aload_n h dX10_readsBehind_112 rfl 0 rfl (q := 113) rfl ?_
    refine x_get_X10_87_16 h hg kf_X10_40 nn_X10 dX10_readsBehind_113 ?_
    refine x_aload_n h dX10_readsBehind_116 rfl 0 rfl (q := 117) rfl ?_
    refine x_get_X10_87_23 h hg kf_X10_160 nn_X10 dX10_readsBehind_117 ?_
    obtain ⟨hi3, hf4⟩ := chk_inv hf2
    refine x_iald (j := (Int32.toNatClampNeg (σ 87 23))) h hg a_98 hi3 rfl dX10_readsBehind_120 (q := 121) rfl ?_
    refine x_iconst (v := 1) h dX10_readsBehind_121 (by decide) (q := 122) rfl ?_
    refine x_icmp_eq (tgt := 138) h dX10_readsBehind_122 (by decide) (q := 125) rfl hf4 (fun hc5 hf6 => ?_) (fun hc5 hf6 => ?_)
    · skip
      refine x_sub (lv' := [(0, .ref (gA g 87))]) [0] rfl ?_
      exact w_X10_readsBehind_b138 σ o h hg hL hr hf6
    · skip
      refine x_aload_n h dX10_readsBehind_125 rfl 0 rfl (q := 126) rfl ?_
      refine x_get_X10_87_16 h hg kf_X10_40 nn_X10 dX10_readsBehind_126 ?_
      refine x_aload_n h dX10_readsBehind_129 rfl 0 rfl (q := 130) rfl ?_
      refine x_get_X10_87_23 h hg kf_X10_160 nn_X10 dX10_readsBehind_130 ?_
      obtain ⟨hi7, hf8⟩ := chk_inv hf6
      refine x_iald (j := (Int32.toNatClampNeg (σ 87 23))) h hg a_98 hi7 rfl dX10_readsBehind_133 (q := 134) rfl ?_
      refine x_iconst (v := 3) h dX10_readsBehind_134 (by decide) (q := 135) rfl ?_
      refine x_icmp_ne (tgt := 216) h dX10_readsBehind_135 (by decide) (q := 138) rfl hf8 (fun hc9 hf10 => ?_) (fun hc9 hf10 => ?_)
      · skip
        refine x_iconst (v := 0) h dX10_readsBehind_216 (by decide) (q := 217) rfl ?_
        have hz := Option.some.inj hf10
        subst hz
        exact x_zret (b := false) h hg hr dX10_readsBehind_217
      · skip
        refine x_sub (lv' := [(0, .ref (gA g 87))]) [0] rfl ?_
        exact w_X10_readsBehind_b138 σ o h hg hL hr hf10
def m_X10_readsBehind (σ : St) : Option (Bool × St) :=
  (m_X10_sign σ).bind fun u1 =>
  if u1 = 124 then (
    (m_X10_joins σ).bind fun u23 =>
    m_X10_readsBehind_b218 (up u23 87 28 0)
  ) else (
    if u1 = 38 then (
      m_X10_readsBehind_b218 (up σ 87 28 0)
    ) else (
      if u1 = 85 then (
        chk (σ 87 23) 62 <|
        if (σ 98 (Int32.toNatClampNeg (σ 87 23))) = 2 then (
          (m_X10_joins σ).bind fun u13 =>
          chk (u13 87 23) 62 <|
          chk (u13 87 23) 62 <|
          chk ((up u13 101 (Int32.toNatClampNeg (u13 87 23)) (u13 99 (Int32.toNatClampNeg (u13 87 23)))) 87 23) 62 <|
          chk ((up (up u13 101 (Int32.toNatClampNeg (u13 87 23)) (u13 99 (Int32.toNatClampNeg (u13 87 23)))) 98 (Int32.toNatClampNeg ((up u13 101 (Int32.toNatClampNeg (u13 87 23)) (u13 99 (Int32.toNatClampNeg (u13 87 23)))) 87 23)) 3) 87 23) 62 <|
          m_X10_readsBehind_b218 (up (up (up (up u13 101 (Int32.toNatClampNeg (u13 87 23)) (u13 99 (Int32.toNatClampNeg (u13 87 23)))) 98 (Int32.toNatClampNeg ((up u13 101 (Int32.toNatClampNeg (u13 87 23)) (u13 99 (Int32.toNatClampNeg (u13 87 23)))) 87 23)) 3) 99 (Int32.toNatClampNeg ((up (up u13 101 (Int32.toNatClampNeg (u13 87 23)) (u13 99 (Int32.toNatClampNeg (u13 87 23)))) 98 (Int32.toNatClampNeg ((up u13 101 (Int32.toNatClampNeg (u13 87 23)) (u13 99 (Int32.toNatClampNeg (u13 87 23)))) 87 23)) 3) 87 23)) (-1)) 87 28 0)
        ) else (
          m_X10_readsBehind_b106 σ u1
        )
      ) else (
        m_X10_readsBehind_b106 σ u1
      )
    )
  )
set_option maxHeartbeats 4000000 in
set_option maxRecDepth 100000 in
theorem w_X10_readsBehind {C : XC} {Q : State → Prop} {g : cG} (σ : St) (o : Bool × St) (h : XOk C cX10_readsBehind RX10 tG rmX10_readsBehind) (hg : XG C g) (hL : C.2.2.2.2.2.2.2.2.2.2.2.2.1 = 3) (hr : XEnd C (some .boolean) Q (XQ g (some (.int (bI o.1))) o.2) (cA g)) (hf : m_X10_readsBehind σ = some o) : Xs C (wW g) Q σ 0 [(0, .ref (gA g 87))] [] := by
  unfold m_X10_readsBehind at hf
  refine x_aload_n h dX10_readsBehind_0 rfl 0 rfl (q := 1) rfl ?_
  obtain ⟨u1, hu1, hf2⟩ := bnd_inv hf
  refine x_callVi (As := []) (rest := []) h hg (c_X10_sign C.2.1 hg.2.1 σ _ hu1) ml_X10_173 biX10_sign rfl rfl hdX10_sign ⟨Nat.le_of_ble_eq_true rfl, Nat.le_of_ble_eq_true rfl⟩ (by decide) (cE_87 g _) rfl rfl rfl (Nat.le_of_ble_eq_true rfl) dX10_readsBehind_1 ?_
  refine x_istore_n (lv' := [(1, .int u1), (0, .ref (gA g 87))]) h dX10_readsBehind_4 rfl hL (by decide) rfl (q := 5) rfl ?_
  refine x_iload_n h dX10_readsBehind_5 rfl 0 rfl (q := 6) rfl ?_
  refine x_bipush (v := 124) h dX10_readsBehind_6 (by decide) (q := 8) rfl ?_
  refine x_icmp_ne (tgt := 23) h dX10_readsBehind_8 (by decide) (q := 11) rfl hf2 (fun hc3 hf4 => ?_) (fun hc3 hf4 => ?_)
  · skip
    refine x_iload_n h dX10_readsBehind_23 rfl 0 rfl (q := 24) rfl ?_
    refine x_bipush (v := 38) h dX10_readsBehind_24 (by decide) (q := 26) rfl ?_
    refine x_icmp_ne (tgt := 37) h dX10_readsBehind_26 (by decide) (q := 29) rfl hf4 (fun hc5 hf6 => ?_) (fun hc5 hf6 => ?_)
    · skip
      refine x_iload_n h dX10_readsBehind_37 rfl 0 rfl (q := 38) rfl ?_
      refine x_bipush (v := 85) h dX10_readsBehind_38 (by decide) (q := 40) rfl ?_
      refine x_icmp_ne (tgt := 106) h dX10_readsBehind_40 (by decide) (q := 43) rfl hf6 (fun hc7 hf8 => ?_) (fun hc7 hf8 => ?_)
      · skip
        refine x_sub (lv' := [(0, .ref (gA g 87)), (1, .int u1)]) [1, 0] rfl ?_
        exact w_X10_readsBehind_b106 σ u1 o h hg hL hr hf8
      · skip
        refine x_aload_n h dX10_readsBehind_43 rfl 1 rfl (q := 44) rfl ?_
        refine x_get_X10_87_16 h hg kf_X10_40 nn_X10 dX10_readsBehind_44 ?_
        refine x_aload_n h dX10_readsBehind_47 rfl 1 rfl (q := 48) rfl ?_
        refine x_get_X10_87_23 h hg kf_X10_160 nn_X10 dX10_readsBehind_48 ?_
        obtain ⟨hi9, hf10⟩ := chk_inv hf8
        refine x_iald (j := (Int32.toNatClampNeg (σ 87 23))) h hg a_98 hi9 rfl dX10_readsBehind_51 (q := 52) rfl ?_
        refine x_iconst (v := 2) h dX10_readsBehind_52 (by decide) (q := 53) rfl ?_
        refine x_icmp_ne (tgt := 106) h dX10_readsBehind_53 (by decide) (q := 56) rfl hf10 (fun hc11 hf12 => ?_) (fun hc11 hf12 => ?_)
        · skip
          refine x_sub (lv' := [(0, .ref (gA g 87)), (1, .int u1)]) [1, 0] rfl ?_
          exact w_X10_readsBehind_b106 σ u1 o h hg hL hr hf12
        · skip
          refine x_aload_n h dX10_readsBehind_56 rfl 1 rfl (q := 57) rfl ?_
          obtain ⟨u13, hu13, hf14⟩ := bnd_inv hf12
          refine x_callVv (As := []) (rest := []) h hg (c_X10_joins C.2.1 hg.2.1 σ _ hu13) ml_X10_191 biX10_joins rfl rfl hdX10_joins ⟨Nat.le_of_ble_eq_true rfl, Nat.le_of_ble_eq_true rfl⟩ (by decide) (cE_87 g _) rfl rfl rfl (Nat.le_of_ble_eq_true rfl) dX10_readsBehind_57 ?_
          refine x_aload_n h dX10_readsBehind_60 rfl 1 rfl (q := 61) rfl ?_
          refine x_get_X10_87_19 h hg kf_X10_49 nn_X10 dX10_readsBehind_61 ?_
          refine x_aload_n h dX10_readsBehind_64 rfl 1 rfl (q := 65) rfl ?_
          refine x_get_X10_87_23 h hg kf_X10_160 nn_X10 dX10_readsBehind_65 ?_
          refine x_aload_n h dX10_readsBehind_68 rfl 1 rfl (q := 69) rfl ?_
          refine x_get_X10_87_17 h hg kf_X10_43 nn_X10 dX10_readsBehind_69 ?_
          refine x_aload_n h dX10_readsBehind_72 rfl 1 rfl (q := 73) rfl ?_
          refine x_get_X10_87_23 h hg kf_X10_160 nn_X10 dX10_readsBehind_73 ?_
          obtain ⟨hi15, hf16⟩ := chk_inv hf14
          refine x_iald (j := (Int32.toNatClampNeg (u13 87 23))) h hg a_99 hi15 rfl dX10_readsBehind_76 (q := 77) rfl ?_
          obtain ⟨hi17, hf18⟩ := chk_inv hf16
          refine x_iast (j := (Int32.toNatClampNeg (u13 87 23))) h hg a_101 hi17 rfl dX10_readsBehind_77 (q := 78) rfl ?_
          refine x_aload_n h dX10_readsBehind_78 rfl 1 rfl (q := 79) rfl ?_
          refine x_get_X10_87_16 h hg kf_X10_40 nn_X10 dX10_readsBehind_79 ?_
          refine x_aload_n h dX10_readsBehind_82 rfl 1 rfl (q := 83) rfl ?_
          refine x_get_X10_87_23 h hg kf_X10_160 nn_X10 dX10_readsBehind_83 ?_
          refine x_iconst (v := 3) h dX10_readsBehind_86 (by decide) (q := 87) rfl ?_
          obtain ⟨hi19, hf20⟩ := chk_inv hf18
          refine x_iast (j := (Int32.toNatClampNeg ((up u13 101 (Int32.toNatClampNeg (u13 87 23)) (u13 99 (Int32.toNatClampNeg (u13 87 23)))) 87 23))) h hg a_98 hi19 rfl dX10_readsBehind_87 (q := 88) rfl ?_
          refine x_aload_n h dX10_readsBehind_88 rfl 1 rfl (q := 89) rfl ?_
          refine x_get_X10_87_17 h hg kf_X10_43 nn_X10 dX10_readsBehind_89 ?_
          refine x_aload_n h dX10_readsBehind_92 rfl 1 rfl (q := 93) rfl ?_
          refine x_get_X10_87_23 h hg kf_X10_160 nn_X10 dX10_readsBehind_93 ?_
          refine x_iconst (v := (-1)) h dX10_readsBehind_96 (by decide) (q := 97) rfl ?_
          obtain ⟨hi21, hf22⟩ := chk_inv hf20
          refine x_iast (j := (Int32.toNatClampNeg ((up (up u13 101 (Int32.toNatClampNeg (u13 87 23)) (u13 99 (Int32.toNatClampNeg (u13 87 23)))) 98 (Int32.toNatClampNeg ((up u13 101 (Int32.toNatClampNeg (u13 87 23)) (u13 99 (Int32.toNatClampNeg (u13 87 23)))) 87 23)) 3) 87 23))) h hg a_99 hi21 rfl dX10_readsBehind_97 (q := 98) rfl ?_
          refine x_aload_n h dX10_readsBehind_98 rfl 1 rfl (q := 99) rfl ?_
          refine x_iconst (v := 0) h dX10_readsBehind_99 (by decide) (q := 100) rfl ?_
          refine x_put_X10_87_28 h hg kf_X10_181 nn_X10 dX10_readsBehind_100 (by decide) (by decide) ?_
          refine x_goto (q := 218) h dX10_readsBehind_103 (by decide) ?_
          refine x_sub (lv' := [(0, .ref (gA g 87))]) [1] rfl ?_
          exact w_X10_readsBehind_b218 (up (up (up (up u13 101 (Int32.toNatClampNeg (u13 87 23)) (u13 99 (Int32.toNatClampNeg (u13 87 23)))) 98 (Int32.toNatClampNeg ((up u13 101 (Int32.toNatClampNeg (u13 87 23)) (u13 99 (Int32.toNatClampNeg (u13 87 23)))) 87 23)) 3) 99 (Int32.toNatClampNeg ((up (up u13 101 (Int32.toNatClampNeg (u13 87 23)) (u13 99 (Int32.toNatClampNeg (u13 87 23)))) 98 (Int32.toNatClampNeg ((up u13 101 (Int32.toNatClampNeg (u13 87 23)) (u13 99 (Int32.toNatClampNeg (u13 87 23)))) 87 23)) 3) 87 23)) (-1)) 87 28 0) o h hg hL hr hf22
    · skip
      refine x_aload_n h dX10_readsBehind_29 rfl 1 rfl (q := 30) rfl ?_
      refine x_iconst (v := 0) h dX10_readsBehind_30 (by decide) (q := 31) rfl ?_
      refine x_put_X10_87_28 h hg kf_X10_181 nn_X10 dX10_readsBehind_31 (by decide) (by decide) ?_
      refine x_goto (q := 218) h dX10_readsBehind_34 (by decide) ?_
      refine x_sub (lv' := [(0, .ref (gA g 87))]) [1] rfl ?_
      exact w_X10_readsBehind_b218 (up σ 87 28 0) o h hg hL hr hf6
  · skip
    refine x_aload_n h dX10_readsBehind_11 rfl 1 rfl (q := 12) rfl ?_
    obtain ⟨u23, hu23, hf24⟩ := bnd_inv hf4
    refine x_callVv (As := []) (rest := []) h hg (c_X10_joins C.2.1 hg.2.1 σ _ hu23) ml_X10_191 biX10_joins rfl rfl hdX10_joins ⟨Nat.le_of_ble_eq_true rfl, Nat.le_of_ble_eq_true rfl⟩ (by decide) (cE_87 g _) rfl rfl rfl (Nat.le_of_ble_eq_true rfl) dX10_readsBehind_12 ?_
    refine x_aload_n h dX10_readsBehind_15 rfl 1 rfl (q := 16) rfl ?_
    refine x_iconst (v := 0) h dX10_readsBehind_16 (by decide) (q := 17) rfl ?_
    refine x_put_X10_87_28 h hg kf_X10_181 nn_X10 dX10_readsBehind_17 (by decide) (by decide) ?_
    refine x_goto (q := 218) h dX10_readsBehind_20 (by decide) ?_
    refine x_sub (lv' := [(0, .ref (gA g 87))]) [1] rfl ?_
    exact w_X10_readsBehind_b218 (up u23 87 28 0) o h hg hL hr hf24
theorem c_X10_readsBehind (l : Launch) {g : cG} (hi : gInj g) (σ : St) (o : Bool × St) (hf : m_X10_readsBehind σ = some o) : Met l yX10_readsBehind (wT yX10_readsBehind cX10_readsBehind 3 (some .boolean)) rmX10_readsBehind (va_Pc [.ref (gA g 87)] (XPre g σ)) (XQ g (some (.int (bI o.1))) o.2) 0 0 (cA g) :=
  X_met RX10 hi plX10 rfl (Nat.le_of_ble_eq_true rfl) rfl (fun _ _ _ h hg hL hr => w_X10_readsBehind σ o h hg hL hr hf)
abbrev rmX10_parses : Room := { frames := 3, cells := 0, slots := 0, locals := 69 }
theorem hdX10_parses : yX10_parses.cls = RX10 ∧ yX10_parses.cls ≠ "java/lang/invoke/MethodHandle" ∧ yX10_parses.cls ≠ "java/lang/invoke/VarHandle" ∧ (parseMethodDescriptor yX10_parses.desc).map (fun d => d.parameters.length) = some 0 := by decide +kernel
def m_X10_parses_b32 (σ : St) (k32 : St → Option (Bool × St)) : Option (Bool × St) :=
  if (σ 87 8) ≤ (σ 87 27) then (
    if (σ 87 28) = 0 then (
      some (false, σ)
    ) else (
      if (σ 87 23) ≤ 0 then (
        (m_X10_joins σ).bind fun u7 =>
        some (true, u7)
      ) else (
        some (false, σ)
      )
    )
  ) else (
    if (σ 87 28) = 0 then (
      (m_X10_readsUnit σ).bind fun u11 =>
      if (bI u11.1) = 0 then (
        some (false, u11.2)
      ) else (
        k32 u11.2
      )
    ) else (
      (m_X10_readsBehind σ).bind fun u15 =>
      if (bI u15.1) = 0 then (
        some (false, u15.2)
      ) else (
        k32 u15.2
      )
    )
  )
set_option maxHeartbeats 4000000 in
set_option maxRecDepth 100000 in
theorem w_X10_parses_b32 {C : XC} {Q : State → Prop} {g : cG} (σ : St) (o : Bool × St) (h : XOk C cX10_parses RX10 tG rmX10_parses) (hg : XG C g) (hL : C.2.2.2.2.2.2.2.2.2.2.2.2.1 = 1) (hr : XEnd C (some .boolean) Q (XQ g (some (.int (bI o.1))) o.2) (cA g)) (k32 : St → Option (Bool × St)) (hk32 : ∀ z : St, k32 z = some o → Xs C (wW g) Q z 32 [(0, .ref (gA g 87))] []) (hf : m_X10_parses_b32 σ k32 = some o) : Xs C (wW g) Q σ 32 [(0, .ref (gA g 87))] [] := by
  unfold m_X10_parses_b32 at hf
  refine x_aload_n h dX10_parses_32 rfl 0 rfl (q := 33) rfl ?_
  refine x_get_X10_87_27 h hg kf_X10_170 nn_X10 dX10_parses_33 ?_
  refine x_aload_n h dX10_parses_36 rfl 0 rfl (q := 37) rfl ?_
  refine x_get_X10_87_8 h hg kf_X10_151 nn_X10 dX10_parses_37 ?_
  refine x_icmp_ge (tgt := 69) h dX10_parses_40 (by decide) (q := 43) rfl hf (fun hc1 hf2 => ?_) (fun hc1 hf2 => ?_)
  · skip
    refine x_aload_n h dX10_parses_69 rfl 0 rfl (q := 70) rfl ?_
    refine x_get_X10_87_28 h hg kf_X10_181 nn_X10 dX10_parses_70 ?_
    refine x_if_eq (tgt := 83) h dX10_parses_73 (by decide) (q := 76) rfl hf2 (fun hc3 hf4 => ?_) (fun hc3 hf4 => ?_)
    · skip
      refine x_iconst (v := 0) h dX10_parses_83 (by decide) (q := 84) rfl ?_
      have hz := Option.some.inj hf4
      subst hz
      exact x_zret (b := false) h hg hr dX10_parses_84
    · skip
      refine x_aload_n h dX10_parses_76 rfl 0 rfl (q := 77) rfl ?_
      refine x_get_X10_87_23 h hg kf_X10_160 nn_X10 dX10_parses_77 ?_
      refine x_if_le (tgt := 85) h dX10_parses_80 (by decide) (q := 83) rfl hf4 (fun hc5 hf6 => ?_) (fun hc5 hf6 => ?_)
      · skip
        refine x_aload_n h dX10_parses_85 rfl 0 rfl (q := 86) rfl ?_
        obtain ⟨u7, hu7, hf8⟩ := bnd_inv hf6
        refine x_callVv (As := []) (rest := []) h hg (c_X10_joins C.2.1 hg.2.1 σ _ hu7) ml_X10_191 biX10_joins rfl rfl hdX10_joins ⟨Nat.le_of_ble_eq_true rfl, Nat.le_of_ble_eq_true rfl⟩ (by decide) (cE_87 g _) rfl rfl rfl (Nat.le_of_ble_eq_true rfl) dX10_parses_86 ?_
        refine x_iconst (v := 1) h dX10_parses_89 (by decide) (q := 90) rfl ?_
        have hz := Option.some.inj hf8
        subst hz
        exact x_zret (b := true) h hg hr dX10_parses_90
      · skip
        refine x_iconst (v := 0) h dX10_parses_83 (by decide) (q := 84) rfl ?_
        have hz := Option.some.inj hf6
        subst hz
        exact x_zret (b := false) h hg hr dX10_parses_84
  · skip
    refine x_aload_n h dX10_parses_43 rfl 0 rfl (q := 44) rfl ?_
    refine x_get_X10_87_28 h hg kf_X10_181 nn_X10 dX10_parses_44 ?_
    refine x_if_eq (tgt := 60) h dX10_parses_47 (by decide) (q := 50) rfl hf2 (fun hc9 hf10 => ?_) (fun hc9 hf10 => ?_)
    · skip
      refine x_aload_n h dX10_parses_60 rfl 0 rfl (q := 61) rfl ?_
      obtain ⟨u11, hu11, hf12⟩ := bnd_inv hf10
      refine x_callVi (As := []) (rest := []) h hg (c_X10_readsUnit C.2.1 hg.2.1 σ _ hu11) ml_X10_197 biX10_readsUnit rfl rfl hdX10_readsUnit ⟨Nat.le_of_ble_eq_true rfl, Nat.le_of_ble_eq_true rfl⟩ (by decide) (cE_87 g _) rfl rfl rfl (Nat.le_of_ble_eq_true rfl) dX10_parses_61 ?_
      refine x_if_ne (tgt := 32) h dX10_parses_64 (by decide) (q := 67) rfl hf12 (fun hc13 hf14 => ?_) (fun hc13 hf14 => ?_)
      · skip
        exact hk32 u11.2 hf14
      · skip
        refine x_iconst (v := 0) h dX10_parses_67 (by decide) (q := 68) rfl ?_
        have hz := Option.some.inj hf14
        subst hz
        exact x_zret (b := false) h hg hr dX10_parses_68
    · skip
      refine x_aload_n h dX10_parses_50 rfl 0 rfl (q := 51) rfl ?_
      obtain ⟨u15, hu15, hf16⟩ := bnd_inv hf10
      refine x_callVi (As := []) (rest := []) h hg (c_X10_readsBehind C.2.1 hg.2.1 σ _ hu15) ml_X10_194 biX10_readsBehind rfl rfl hdX10_readsBehind ⟨Nat.le_of_ble_eq_true rfl, Nat.le_of_ble_eq_true rfl⟩ (by decide) (cE_87 g _) rfl rfl rfl (Nat.le_of_ble_eq_true rfl) dX10_parses_51 ?_
      refine x_if_eq (tgt := 67) h dX10_parses_54 (by decide) (q := 57) rfl hf16 (fun hc17 hf18 => ?_) (fun hc17 hf18 => ?_)
      · skip
        refine x_iconst (v := 0) h dX10_parses_67 (by decide) (q := 68) rfl ?_
        have hz := Option.some.inj hf18
        subst hz
        exact x_zret (b := false) h hg hr dX10_parses_68
      · skip
        refine x_goto (q := 32) h dX10_parses_57 (by decide) ?_
        exact hk32 u15.2 hf18
set_option maxHeartbeats 4000000 in
set_option maxRecDepth 100000 in
theorem w_X10_parses_l32 {C : XC} {Q : State → Prop} {g : cG} (o : Bool × St) (h : XOk C cX10_parses RX10 tG rmX10_parses) (hg : XG C g) (hL : C.2.2.2.2.2.2.2.2.2.2.2.2.1 = 1) (hr : XEnd C (some .boolean) Q (XQ g (some (.int (bI o.1))) o.2) (cA g)) : ∀ (n : Nat) (z : St), loopF (fun k z => m_X10_parses_b32 z k) n z = some o → Xs C (wW g) Q z 32 [(0, .ref (gA g 87))] [] := by
  intro n z hf
  refine loopF_ind (S := St) (O := Bool × St) (step := (fun k z => m_X10_parses_b32 z k)) (o := o) (P := fun z => Xs C (wW g) Q z 32 [(0, .ref (gA g 87))] []) ?_ n z hf
  intro k hk z hf
  exact w_X10_parses_b32 z o h hg hL hr k hk hf
def m_X10_parses (σ : St) : Option (Bool × St) :=
  (m_X10_opens (up (up (up σ 87 15 0) 87 26 0) 87 23 (-1)) 0 0 0).bind fun u1 =>
  loopF (fun k z => m_X10_parses_b32 z k) cFu (up (up u1 87 27 0) 87 28 0)
set_option maxHeartbeats 4000000 in
set_option maxRecDepth 100000 in
theorem w_X10_parses {C : XC} {Q : State → Prop} {g : cG} (σ : St) (o : Bool × St) (h : XOk C cX10_parses RX10 tG rmX10_parses) (hg : XG C g) (hL : C.2.2.2.2.2.2.2.2.2.2.2.2.1 = 1) (hr : XEnd C (some .boolean) Q (XQ g (some (.int (bI o.1))) o.2) (cA g)) (hf : m_X10_parses σ = some o) : Xs C (wW g) Q σ 0 [(0, .ref (gA g 87))] [] := by
  unfold m_X10_parses at hf
  refine x_aload_n h dX10_parses_0 rfl 0 rfl (q := 1) rfl ?_
  refine x_iconst (v := 0) h dX10_parses_1 (by decide) (q := 2) rfl ?_
  refine x_put_X10_87_15 h hg kf_X10_157 nn_X10 dX10_parses_2 ?_
  refine x_aload_n h dX10_parses_5 rfl 0 rfl (q := 6) rfl ?_
  refine x_iconst (v := 0) h dX10_parses_6 (by decide) (q := 7) rfl ?_
  refine x_put_X10_87_26 h hg kf_X10_163 nn_X10 dX10_parses_7 ?_
  refine x_aload_n h dX10_parses_10 rfl 0 rfl (q := 11) rfl ?_
  refine x_iconst (v := (-1)) h dX10_parses_11 (by decide) (q := 12) rfl ?_
  refine x_put_X10_87_23 h hg kf_X10_160 nn_X10 dX10_parses_12 ?_
  refine x_aload_n h dX10_parses_15 rfl 0 rfl (q := 16) rfl ?_
  refine x_iconst (v := 0) h dX10_parses_16 (by decide) (q := 17) rfl ?_
  refine x_iconst (v := 0) h dX10_parses_17 (by decide) (q := 18) rfl ?_
  refine x_iconst (v := 0) h dX10_parses_18 (by decide) (q := 19) rfl ?_
  obtain ⟨u1, hu1, hf2⟩ := bnd_inv hf
  refine x_callVv (As := [.int 0, .int 0, .int 0]) (rest := []) h hg (c_X10_opens C.2.1 hg.2.1 (up (up (up σ 87 15 0) 87 26 0) 87 23 (-1)) 0 0 0 _ hu1) ml_X10_177 biX10_opens rfl rfl hdX10_opens ⟨Nat.le_of_ble_eq_true rfl, Nat.le_of_ble_eq_true rfl⟩ (by decide) (cE_87 g _) rfl rfl rfl (Nat.le_of_ble_eq_true rfl) dX10_parses_19 ?_
  refine x_aload_n h dX10_parses_22 rfl 0 rfl (q := 23) rfl ?_
  refine x_iconst (v := 0) h dX10_parses_23 (by decide) (q := 24) rfl ?_
  refine x_put_X10_87_27 h hg kf_X10_170 nn_X10 dX10_parses_24 ?_
  refine x_aload_n h dX10_parses_27 rfl 0 rfl (q := 28) rfl ?_
  refine x_iconst (v := 0) h dX10_parses_28 (by decide) (q := 29) rfl ?_
  refine x_put_X10_87_28 h hg kf_X10_181 nn_X10 dX10_parses_29 (by decide) (by decide) ?_
  exact w_X10_parses_l32  o h hg hL hr  cFu (up (up u1 87 27 0) 87 28 0) hf2
theorem c_X10_parses (l : Launch) {g : cG} (hi : gInj g) (σ : St) (o : Bool × St) (hf : m_X10_parses σ = some o) : Met l yX10_parses (wT yX10_parses cX10_parses 1 (some .boolean)) rmX10_parses (va_Pc [.ref (gA g 87)] (XPre g σ)) (XQ g (some (.int (bI o.1))) o.2) 0 0 (cA g) :=
  X_met RX10 hi plX10 rfl (Nat.le_of_ble_eq_true rfl) rfl (fun _ _ _ h hg hL hr => w_X10_parses σ o h hg hL hr hf)
abbrev rmX10_read : Room := { frames := 4, cells := 0, slots := 0, locals := 89 }
theorem hdX10_read : yX10_read.cls = RX10 ∧ yX10_read.cls ≠ "java/lang/invoke/MethodHandle" ∧ yX10_read.cls ≠ "java/lang/invoke/VarHandle" ∧ (parseMethodDescriptor yX10_read.desc).map (fun d => d.parameters.length) = some 0 := by decide +kernel
def m_X10_read (σ : St) : Option (Int32 × St) :=
  if (σ 87 14) = 8 then (
    some ((-2), σ)
  ) else (
    (m_X10_parses σ).bind fun u3 =>
    if (bI u3.1) = 0 then (
      some (((-100) - (u3.2 87 27)), u3.2)
    ) else (
      chk (u3.2 87 14) 9 <|
      some ((((up (up (up u3.2 97 (Int32.toNatClampNeg (u3.2 87 14)) (u3.2 87 15)) 87 14 (((up u3.2 97 (Int32.toNatClampNeg (u3.2 87 14)) (u3.2 87 15)) 87 14) + 1)) 87 8 0) 87 14) - 1), (up (up (up u3.2 97 (Int32.toNatClampNeg (u3.2 87 14)) (u3.2 87 15)) 87 14 (((up u3.2 97 (Int32.toNatClampNeg (u3.2 87 14)) (u3.2 87 15)) 87 14) + 1)) 87 8 0))
    )
  )
set_option maxHeartbeats 4000000 in
set_option maxRecDepth 100000 in
theorem w_X10_read {C : XC} {Q : State → Prop} {g : cG} (σ : St) (o : Int32 × St) (h : XOk C cX10_read RX10 tG rmX10_read) (hg : XG C g) (hL : C.2.2.2.2.2.2.2.2.2.2.2.2.1 = 1) (hr : XEnd C (some .int) Q (XQ g (some (.int o.1)) o.2) (cA g)) (hf : m_X10_read σ = some o) : Xs C (wW g) Q σ 0 [(0, .ref (gA g 87))] [] := by
  unfold m_X10_read at hf
  refine x_aload_n h dX10_read_0 rfl 0 rfl (q := 1) rfl ?_
  refine x_get_X10_87_14 h hg kf_X10_154 nn_X10 dX10_read_1 ?_
  refine x_bipush (v := 8) h dX10_read_4 (by decide) (q := 6) rfl ?_
  refine x_icmp_ne (tgt := 12) h dX10_read_6 (by decide) (q := 9) rfl hf (fun hc1 hf2 => ?_) (fun hc1 hf2 => ?_)
  · skip
    refine x_aload_n h dX10_read_12 rfl 0 rfl (q := 13) rfl ?_
    obtain ⟨u3, hu3, hf4⟩ := bnd_inv hf2
    refine x_callVi (As := []) (rest := []) h hg (c_X10_parses C.2.1 hg.2.1 σ _ hu3) ml_X10_200 biX10_parses rfl rfl hdX10_parses ⟨Nat.le_of_ble_eq_true rfl, Nat.le_of_ble_eq_true rfl⟩ (by decide) (cE_87 g _) rfl rfl rfl (Nat.le_of_ble_eq_true rfl) dX10_read_13 ?_
    refine x_if_ne (tgt := 27) h dX10_read_16 (by decide) (q := 19) rfl hf4 (fun hc5 hf6 => ?_) (fun hc5 hf6 => ?_)
    · skip
      refine x_aload_n h dX10_read_27 rfl 0 rfl (q := 28) rfl ?_
      refine x_get_X10_87_13 h hg kf_X10_37 nn_X10 dX10_read_28 ?_
      refine x_aload_n h dX10_read_31 rfl 0 rfl (q := 32) rfl ?_
      refine x_get_X10_87_14 h hg kf_X10_154 nn_X10 dX10_read_32 ?_
      refine x_aload_n h dX10_read_35 rfl 0 rfl (q := 36) rfl ?_
      refine x_get_X10_87_15 h hg kf_X10_157 nn_X10 dX10_read_36 ?_
      obtain ⟨hi7, hf8⟩ := chk_inv hf6
      refine x_iast (j := (Int32.toNatClampNeg (u3.2 87 14))) h hg a_97 hi7 rfl dX10_read_39 (q := 40) rfl ?_
      refine x_aload_n h dX10_read_40 rfl 0 rfl (q := 41) rfl ?_
      refine x_dup h dX10_read_41 rfl (q := 42) rfl ?_
      refine x_get_X10_87_14 h hg kf_X10_154 nn_X10 dX10_read_42 ?_
      refine x_iconst (v := 1) h dX10_read_45 (by decide) (q := 46) rfl ?_
      refine x_iadd h dX10_read_46 (q := 47) rfl ?_
      refine x_put_X10_87_14 h hg kf_X10_154 nn_X10 dX10_read_47 ?_
      refine x_aload_n h dX10_read_50 rfl 0 rfl (q := 51) rfl ?_
      refine x_iconst (v := 0) h dX10_read_51 (by decide) (q := 52) rfl ?_
      refine x_put_X10_87_8 h hg kf_X10_151 nn_X10 dX10_read_52 ?_
      refine x_aload_n h dX10_read_55 rfl 0 rfl (q := 56) rfl ?_
      refine x_get_X10_87_14 h hg kf_X10_154 nn_X10 dX10_read_56 ?_
      refine x_iconst (v := 1) h dX10_read_59 (by decide) (q := 60) rfl ?_
      refine x_isub h dX10_read_60 (q := 61) rfl ?_
      have hz := Option.some.inj hf8
      subst hz
      exact x_iret h hg hr dX10_read_61
    · skip
      refine x_bipush (v := (-100)) h dX10_read_19 (by decide) (q := 21) rfl ?_
      refine x_aload_n h dX10_read_21 rfl 0 rfl (q := 22) rfl ?_
      refine x_get_X10_87_27 h hg kf_X10_170 nn_X10 dX10_read_22 ?_
      refine x_isub h dX10_read_25 (q := 26) rfl ?_
      have hz := Option.some.inj hf6
      subst hz
      exact x_iret h hg hr dX10_read_26
  · skip
    refine x_bipush (v := (-2)) h dX10_read_9 (by decide) (q := 11) rfl ?_
    have hz := Option.some.inj hf2
    subst hz
    exact x_iret h hg hr dX10_read_11
theorem c_X10_read (l : Launch) {g : cG} (hi : gInj g) (σ : St) (o : Int32 × St) (hf : m_X10_read σ = some o) : Met l yX10_read (wT yX10_read cX10_read 1 (some .int)) rmX10_read (va_Pc [.ref (gA g 87)] (XPre g σ)) (XQ g (some (.int o.1)) o.2) 0 0 (cA g) :=
  X_met RX10 hi plX10 rfl (Nat.le_of_ble_eq_true rfl) rfl (fun _ _ _ h hg hL hr => w_X10_read σ o h hg hL hr hf)
abbrev rmX10_forget : Room := { frames := 0, cells := 0, slots := 0, locals := 0 }
theorem hdX10_forget : yX10_forget.cls = RX10 ∧ yX10_forget.cls ≠ "java/lang/invoke/MethodHandle" ∧ yX10_forget.cls ≠ "java/lang/invoke/VarHandle" ∧ (parseMethodDescriptor yX10_forget.desc).map (fun d => d.parameters.length) = some 0 := by decide +kernel
def m_X10_forget (σ : St) : Int32 × St :=
  ((σ 87 14), (up σ 87 14 0))
set_option maxHeartbeats 4000000 in
set_option maxRecDepth 100000 in
theorem w_X10_forget {C : XC} {Q : State → Prop} {g : cG} (σ : St) (o : Int32 × St) (h : XOk C cX10_forget RX10 tG rmX10_forget) (hg : XG C g) (hL : C.2.2.2.2.2.2.2.2.2.2.2.2.1 = 2) (hr : XEnd C (some .int) Q (XQ g (some (.int o.1)) o.2) (cA g)) (hf : m_X10_forget σ = o) : Xs C (wW g) Q σ 0 [(0, .ref (gA g 87))] [] := by
  unfold m_X10_forget at hf
  refine x_aload_n h dX10_forget_0 rfl 0 rfl (q := 1) rfl ?_
  refine x_get_X10_87_14 h hg kf_X10_154 nn_X10 dX10_forget_1 ?_
  refine x_istore_n (lv' := [(1, .int (σ 87 14)), (0, .ref (gA g 87))]) h dX10_forget_4 rfl hL (by decide) rfl (q := 5) rfl ?_
  refine x_aload_n h dX10_forget_5 rfl 1 rfl (q := 6) rfl ?_
  refine x_iconst (v := 0) h dX10_forget_6 (by decide) (q := 7) rfl ?_
  refine x_put_X10_87_14 h hg kf_X10_154 nn_X10 dX10_forget_7 ?_
  refine x_iload_n h dX10_forget_10 rfl 0 rfl (q := 11) rfl ?_
  subst hf
  exact x_iret h hg hr dX10_forget_11
theorem c_X10_forget (l : Launch) {g : cG} (hi : gInj g) (σ : St) (o : Int32 × St) (hf : m_X10_forget σ = o) : Met l yX10_forget (wT yX10_forget cX10_forget 2 (some .int)) rmX10_forget (va_Pc [.ref (gA g 87)] (XPre g σ)) (XQ g (some (.int o.1)) o.2) 0 0 (cA g) :=
  X_met RX10 hi plX10 rfl (Nat.le_of_ble_eq_true rfl) rfl (fun _ _ _ h hg hL hr => w_X10_forget σ o h hg hL hr hf)
abbrev rmX10_formulas : Room := { frames := 0, cells := 0, slots := 0, locals := 0 }
theorem hdX10_formulas : yX10_formulas.cls = RX10 ∧ yX10_formulas.cls ≠ "java/lang/invoke/MethodHandle" ∧ yX10_formulas.cls ≠ "java/lang/invoke/VarHandle" ∧ (parseMethodDescriptor yX10_formulas.desc).map (fun d => d.parameters.length) = some 0 := by decide +kernel
def m_X10_formulas (σ : St) : Int32 :=
  (σ 87 14)
set_option maxHeartbeats 4000000 in
set_option maxRecDepth 100000 in
theorem w_X10_formulas {C : XC} {Q : State → Prop} {g : cG} (σ : St) (o : Int32) (h : XOk C cX10_formulas RX10 tG rmX10_formulas) (hg : XG C g) (hL : C.2.2.2.2.2.2.2.2.2.2.2.2.1 = 1) (hr : XEnd C (some .int) Q (XQ g (some (.int o)) σ) (cA g)) (hf : m_X10_formulas σ = o) : Xs C (wW g) Q σ 0 [(0, .ref (gA g 87))] [] := by
  unfold m_X10_formulas at hf
  refine x_aload_n h dX10_formulas_0 rfl 0 rfl (q := 1) rfl ?_
  refine x_get_X10_87_14 h hg kf_X10_154 nn_X10 dX10_formulas_1 ?_
  subst hf
  exact x_iret h hg hr dX10_formulas_4
theorem c_X10_formulas (l : Launch) {g : cG} (hi : gInj g) (σ : St) (o : Int32) (hf : m_X10_formulas σ = o) : Met l yX10_formulas (wT yX10_formulas cX10_formulas 1 (some .int)) rmX10_formulas (va_Pc [.ref (gA g 87)] (XPre g σ)) (XQ g (some (.int o)) σ) 0 0 (cA g) :=
  X_met RX10 hi plX10 rfl (Nat.le_of_ble_eq_true rfl) rfl (fun _ _ _ h hg hL hr => w_X10_formulas σ o h hg hL hr hf)
abbrev rmX10_isFormula : Room := { frames := 1, cells := 0, slots := 0, locals := 22 }
theorem hdX10_isFormula : yX10_isFormula.cls = RX10 ∧ yX10_isFormula.cls ≠ "java/lang/invoke/MethodHandle" ∧ yX10_isFormula.cls ≠ "java/lang/invoke/VarHandle" ∧ (parseMethodDescriptor yX10_isFormula.desc).map (fun d => d.parameters.length) = some 1 := by decide +kernel
def m_X10_isFormula (σ : St) (x1 : Int32) : Bool :=
  (m_X10_in x1 0 ((σ 87 14) - 1))
set_option maxHeartbeats 4000000 in
set_option maxRecDepth 100000 in
theorem w_X10_isFormula {C : XC} {Q : State → Prop} {g : cG} (σ : St) (x1 : Int32) (o : Bool) (h : XOk C cX10_isFormula RX10 tG rmX10_isFormula) (hg : XG C g) (hL : C.2.2.2.2.2.2.2.2.2.2.2.2.1 = 2) (hr : XEnd C (some .boolean) Q (XQ g (some (.int (bI o))) σ) (cA g)) (hf : m_X10_isFormula σ x1 = o) : Xs C (wW g) Q σ 0 [(0, .ref (gA g 87)), (1, .int x1)] [] := by
  unfold m_X10_isFormula at hf
  refine x_iload_n h dX10_isFormula_0 rfl 1 rfl (q := 1) rfl ?_
  refine x_iconst (v := 0) h dX10_isFormula_1 (by decide) (q := 2) rfl ?_
  refine x_aload_n h dX10_isFormula_2 rfl 0 rfl (q := 3) rfl ?_
  refine x_get_X10_87_14 h hg kf_X10_154 nn_X10 dX10_isFormula_3 ?_
  refine x_iconst (v := 1) h dX10_isFormula_6 (by decide) (q := 7) rfl ?_
  refine x_isub h dX10_isFormula_7 (q := 8) rfl ?_
  refine x_callPi (As := [.int x1, .int 0, .int ((σ 87 14) - 1)]) (rest := []) h (c_X10_in C.2.1 x1 0 ((σ 87 14) - 1) _ rfl) ml_X10_93 biX10_in rfl rfl hdX10_in ⟨Nat.le_of_ble_eq_true rfl, Nat.le_of_ble_eq_true rfl⟩ rfl rfl (Nat.le_of_ble_eq_true rfl) dX10_isFormula_8 ?_
  subst hf
  exact x_zret (b := (m_X10_in x1 0 ((σ 87 14) - 1))) h hg hr dX10_isFormula_11
theorem c_X10_isFormula (l : Launch) {g : cG} (hi : gInj g) (σ : St) (x1 : Int32) (o : Bool) (hf : m_X10_isFormula σ x1 = o) : Met l yX10_isFormula (wT yX10_isFormula cX10_isFormula 2 (some .boolean)) rmX10_isFormula (va_Pc [.ref (gA g 87), .int x1] (XPre g σ)) (XQ g (some (.int (bI o))) σ) 0 0 (cA g) :=
  X_met RX10 hi plX10 rfl (Nat.le_of_ble_eq_true rfl) rfl (fun _ _ _ h hg hL hr => w_X10_isFormula σ x1 o h hg hL hr hf)
abbrev rmX10_parts : Room := { frames := 2, cells := 0, slots := 0, locals := 43 }
theorem hdX10_parts : yX10_parts.cls = RX10 ∧ yX10_parts.cls ≠ "java/lang/invoke/MethodHandle" ∧ yX10_parts.cls ≠ "java/lang/invoke/VarHandle" ∧ (parseMethodDescriptor yX10_parts.desc).map (fun d => d.parameters.length) = some 1 := by decide +kernel
def m_X10_parts (σ : St) (x1 : Int32) : Option (Int32) :=
  if (bI (m_X10_isFormula σ x1)) = 0 then (
    some (-1)
  ) else (
    chk x1 9 <|
    some (σ 97 (Int32.toNatClampNeg x1))
  )
set_option maxHeartbeats 4000000 in
set_option maxRecDepth 100000 in
theorem w_X10_parts {C : XC} {Q : State → Prop} {g : cG} (σ : St) (x1 : Int32) (o : Int32) (h : XOk C cX10_parts RX10 tG rmX10_parts) (hg : XG C g) (hL : C.2.2.2.2.2.2.2.2.2.2.2.2.1 = 2) (hr : XEnd C (some .int) Q (XQ g (some (.int o)) σ) (cA g)) (hf : m_X10_parts σ x1 = some o) : Xs C (wW g) Q σ 0 [(0, .ref (gA g 87)), (1, .int x1)] [] := by
  unfold m_X10_parts at hf
  refine x_aload_n h dX10_parts_0 rfl 0 rfl (q := 1) rfl ?_
  refine x_iload_n h dX10_parts_1 rfl 1 rfl (q := 2) rfl ?_
  refine x_callVi (As := [.int x1]) (rest := []) h hg (c_X10_isFormula C.2.1 hg.2.1 σ x1 _ rfl) ml_X10_203 biX10_isFormula rfl rfl hdX10_isFormula ⟨Nat.le_of_ble_eq_true rfl, Nat.le_of_ble_eq_true rfl⟩ (by decide) (cE_87 g _) rfl rfl rfl (Nat.le_of_ble_eq_true rfl) dX10_parts_2 ?_
  refine x_if_eq (tgt := 17) h dX10_parts_5 (by decide) (q := 8) rfl hf (fun hc1 hf2 => ?_) (fun hc1 hf2 => ?_)
  · skip
    refine x_iconst (v := (-1)) h dX10_parts_17 (by decide) (q := 18) rfl ?_
    have hz := Option.some.inj hf2
    subst hz
    exact x_iret h hg hr dX10_parts_18
  · skip
    refine x_aload_n h dX10_parts_8 rfl 0 rfl (q := 9) rfl ?_
    refine x_get_X10_87_13 h hg kf_X10_37 nn_X10 dX10_parts_9 ?_
    refine x_iload_n h dX10_parts_12 rfl 1 rfl (q := 13) rfl ?_
    obtain ⟨hi3, hf4⟩ := chk_inv hf2
    refine x_iald (j := (Int32.toNatClampNeg x1)) h hg a_97 hi3 rfl dX10_parts_13 (q := 14) rfl ?_
    refine x_goto (q := 18) h dX10_parts_14 (by decide) ?_
    have hz := Option.some.inj hf4
    subst hz
    exact x_iret h hg hr dX10_parts_18
theorem c_X10_parts (l : Launch) {g : cG} (hi : gInj g) (σ : St) (x1 : Int32) (o : Int32) (hf : m_X10_parts σ x1 = some o) : Met l yX10_parts (wT yX10_parts cX10_parts 2 (some .int)) rmX10_parts (va_Pc [.ref (gA g 87), .int x1] (XPre g σ)) (XQ g (some (.int o)) σ) 0 0 (cA g) :=
  X_met RX10 hi plX10 rfl (Nat.le_of_ble_eq_true rfl) rfl (fun _ _ _ h hg hL hr => w_X10_parts σ x1 o h hg hL hr hf)
abbrev rmX10_all : Room := { frames := 0, cells := 0, slots := 0, locals := 0 }
theorem hdX10_all : yX10_all.cls = RX10 ∧ yX10_all.cls ≠ "java/lang/invoke/MethodHandle" ∧ yX10_all.cls ≠ "java/lang/invoke/VarHandle" ∧ (parseMethodDescriptor yX10_all.desc).map (fun d => d.parameters.length) = some 0 := by decide +kernel
def m_X10_all (σ : St) : Option (Int32) :=
  chk 1200 1201 <|
  some (((1 : Int32) <<< ((σ 88 1200) &&& 31)) - 1)
set_option maxHeartbeats 4000000 in
set_option maxRecDepth 100000 in
theorem w_X10_all {C : XC} {Q : State → Prop} {g : cG} (σ : St) (o : Int32) (h : XOk C cX10_all RX10 tG rmX10_all) (hg : XG C g) (hL : C.2.2.2.2.2.2.2.2.2.2.2.2.1 = 1) (hr : XEnd C (some .int) Q (XQ g (some (.int o)) σ) (cA g)) (hf : m_X10_all σ = some o) : Xs C (wW g) Q σ 0 [(0, .ref (gA g 87))] [] := by
  unfold m_X10_all at hf
  refine x_iconst (v := 1) h dX10_all_0 (by decide) (q := 1) rfl ?_
  refine x_aload_n h dX10_all_1 rfl 0 rfl (q := 2) rfl ?_
  refine x_get_X10_87_1 h hg kf_X10_7 nn_X10 dX10_all_2 ?_
  refine x_sipush (v := 1200) h dX10_all_5 (by decide) (q := 8) rfl ?_
  obtain ⟨hi1, hf2⟩ := chk_inv hf
  refine x_iald (j := 1200) h hg a_88 hi1 (by decide) dX10_all_8 (q := 9) rfl ?_
  refine x_ishl h dX10_all_9 (q := 10) rfl ?_
  refine x_iconst (v := 1) h dX10_all_10 (by decide) (q := 11) rfl ?_
  refine x_isub h dX10_all_11 (q := 12) rfl ?_
  have hz := Option.some.inj hf2
  subst hz
  exact x_iret h hg hr dX10_all_12
theorem c_X10_all (l : Launch) {g : cG} (hi : gInj g) (σ : St) (o : Int32) (hf : m_X10_all σ = some o) : Met l yX10_all (wT yX10_all cX10_all 1 (some .int)) rmX10_all (va_Pc [.ref (gA g 87)] (XPre g σ)) (XQ g (some (.int o)) σ) 0 0 (cA g) :=
  X_met RX10 hi plX10 rfl (Nat.le_of_ble_eq_true rfl) rfl (fun _ _ _ h hg hL hr => w_X10_all σ o h hg hL hr hf)
abbrev rmX10_plannedAction : Room := { frames := 0, cells := 0, slots := 0, locals := 0 }
theorem hdX10_plannedAction : yX10_plannedAction.cls = RX10 ∧ yX10_plannedAction.cls ≠ "java/lang/invoke/MethodHandle" ∧ yX10_plannedAction.cls ≠ "java/lang/invoke/VarHandle" ∧ (parseMethodDescriptor yX10_plannedAction.desc).map (fun d => d.parameters.length) = some 2 := by decide +kernel
def m_X10_plannedAction (σ : St) (x1 : Int32) (x2 : Int32) : Option (Int32) :=
  chk (((100 * x1) + 5) + x2) 1201 <|
  chk (((100 * x1) + 1) + x2) 1201 <|
  if (σ 88 (Int32.toNatClampNeg (((100 * x1) + 1) + x2))) ≤ (σ 88 (Int32.toNatClampNeg (((100 * x1) + 5) + x2))) then (
    some 0
  ) else (
    some (σ 88 (Int32.toNatClampNeg (((100 * x1) + 5) + x2)))
  )
set_option maxHeartbeats 4000000 in
set_option maxRecDepth 100000 in
theorem w_X10_plannedAction {C : XC} {Q : State → Prop} {g : cG} (σ : St) (x1 : Int32) (x2 : Int32) (o : Int32) (h : XOk C cX10_plannedAction RX10 tG rmX10_plannedAction) (hg : XG C g) (hL : C.2.2.2.2.2.2.2.2.2.2.2.2.1 = 4) (hr : XEnd C (some .int) Q (XQ g (some (.int o)) σ) (cA g)) (hf : m_X10_plannedAction σ x1 x2 = some o) : Xs C (wW g) Q σ 0 [(0, .ref (gA g 87)), (1, .int x1), (2, .int x2)] [] := by
  unfold m_X10_plannedAction at hf
  refine x_aload_n h dX10_plannedAction_0 rfl 0 rfl (q := 1) rfl ?_
  refine x_get_X10_87_1 h hg kf_X10_7 nn_X10 dX10_plannedAction_1 ?_
  refine x_bipush (v := 100) h dX10_plannedAction_4 (by decide) (q := 6) rfl ?_
  refine x_iload_n h dX10_plannedAction_6 rfl 1 rfl (q := 7) rfl ?_
  refine x_imul h dX10_plannedAction_7 (q := 8) rfl ?_
  refine x_iconst (v := 5) h dX10_plannedAction_8 (by decide) (q := 9) rfl ?_
  refine x_iadd h dX10_plannedAction_9 (q := 10) rfl ?_
  refine x_iload_n h dX10_plannedAction_10 rfl 2 rfl (q := 11) rfl ?_
  refine x_iadd h dX10_plannedAction_11 (q := 12) rfl ?_
  obtain ⟨hi1, hf2⟩ := chk_inv hf
  refine x_iald (j := (Int32.toNatClampNeg (((100 * x1) + 5) + x2))) h hg a_88 hi1 rfl dX10_plannedAction_12 (q := 13) rfl ?_
  refine x_istore_n (lv' := [(3, .int (σ 88 (Int32.toNatClampNeg (((100 * x1) + 5) + x2)))), (0, .ref (gA g 87)), (1, .int x1), (2, .int x2)]) h dX10_plannedAction_13 rfl hL (by decide) rfl (q := 14) rfl ?_
  refine x_iload_n h dX10_plannedAction_14 rfl 0 rfl (q := 15) rfl ?_
  refine x_aload_n h dX10_plannedAction_15 rfl 1 rfl (q := 16) rfl ?_
  refine x_get_X10_87_1 h hg kf_X10_7 nn_X10 dX10_plannedAction_16 ?_
  refine x_bipush (v := 100) h dX10_plannedAction_19 (by decide) (q := 21) rfl ?_
  refine x_iload_n h dX10_plannedAction_21 rfl 2 rfl (q := 22) rfl ?_
  refine x_imul h dX10_plannedAction_22 (q := 23) rfl ?_
  refine x_iconst (v := 1) h dX10_plannedAction_23 (by decide) (q := 24) rfl ?_
  refine x_iadd h dX10_plannedAction_24 (q := 25) rfl ?_
  refine x_iload_n h dX10_plannedAction_25 rfl 3 rfl (q := 26) rfl ?_
  refine x_iadd h dX10_plannedAction_26 (q := 27) rfl ?_
  obtain ⟨hi3, hf4⟩ := chk_inv hf2
  refine x_iald (j := (Int32.toNatClampNeg (((100 * x1) + 1) + x2))) h hg a_88 hi3 rfl dX10_plannedAction_27 (q := 28) rfl ?_
  refine x_icmp_ge (tgt := 35) h dX10_plannedAction_28 (by decide) (q := 31) rfl hf4 (fun hc5 hf6 => ?_) (fun hc5 hf6 => ?_)
  · skip
    refine x_iconst (v := 0) h dX10_plannedAction_35 (by decide) (q := 36) rfl ?_
    have hz := Option.some.inj hf6
    subst hz
    exact x_iret h hg hr dX10_plannedAction_36
  · skip
    refine x_iload_n h dX10_plannedAction_31 rfl 0 rfl (q := 32) rfl ?_
    refine x_goto (q := 36) h dX10_plannedAction_32 (by decide) ?_
    have hz := Option.some.inj hf6
    subst hz
    exact x_iret h hg hr dX10_plannedAction_36
theorem c_X10_plannedAction (l : Launch) {g : cG} (hi : gInj g) (σ : St) (x1 : Int32) (x2 : Int32) (o : Int32) (hf : m_X10_plannedAction σ x1 x2 = some o) : Met l yX10_plannedAction (wT yX10_plannedAction cX10_plannedAction 4 (some .int)) rmX10_plannedAction (va_Pc [.ref (gA g 87), .int x1, .int x2] (XPre g σ)) (XQ g (some (.int o)) σ) 0 0 (cA g) :=
  X_met RX10 hi plX10 rfl (Nat.le_of_ble_eq_true rfl) rfl (fun _ _ _ h hg hL hr => w_X10_plannedAction σ x1 x2 o h hg hL hr hf)
abbrev rmX10_plannedJoint : Room := { frames := 1, cells := 0, slots := 0, locals := 23 }
theorem hdX10_plannedJoint : yX10_plannedJoint.cls = RX10 ∧ yX10_plannedJoint.cls ≠ "java/lang/invoke/MethodHandle" ∧ yX10_plannedJoint.cls ≠ "java/lang/invoke/VarHandle" ∧ (parseMethodDescriptor yX10_plannedJoint.desc).map (fun d => d.parameters.length) = some 2 := by decide +kernel
def m_X10_plannedJoint_b5 (σ : St) (x1 : Int32) (x2 : Int32) (x3 : Int32) (x4 : Int32) (k5 : (Int32 × Int32) → Option (Int32)) : Option (Int32) :=
  if (σ 87 0) ≤ x4 then (
    some x3
  ) else (
    if ((x1 >>> (x4 &&& 31)) &&& 1) = 1 then (
      (m_X10_plannedAction σ x2 x4).bind fun u5 =>
      k5 ((x3 + ((m_X10_power x4) * u5)), (x4 + 1))
    ) else (
      k5 ((x3 + 0), (x4 + 1))
    )
  )
set_option maxHeartbeats 4000000 in
set_option maxRecDepth 100000 in
theorem w_X10_plannedJoint_b5 {C : XC} {Q : State → Prop} {g : cG} (σ : St) (x1 : Int32) (x2 : Int32) (x3 : Int32) (x4 : Int32) (o : Int32) (h : XOk C cX10_plannedJoint RX10 tG rmX10_plannedJoint) (hg : XG C g) (hL : C.2.2.2.2.2.2.2.2.2.2.2.2.1 = 5) (hr : XEnd C (some .int) Q (XQ g (some (.int o)) σ) (cA g)) (k5 : (Int32 × Int32) → Option (Int32)) (hk5 : ∀ z : Int32 × Int32, k5 z = some o → Xs C (wW g) Q σ 5 [(0, .ref (gA g 87)), (1, .int x1), (2, .int x2), (3, .int z.1), (4, .int z.2)] []) (hf : m_X10_plannedJoint_b5 σ x1 x2 x3 x4 k5 = some o) : Xs C (wW g) Q σ 5 [(0, .ref (gA g 87)), (1, .int x1), (2, .int x2), (3, .int x3), (4, .int x4)] [] := by
  unfold m_X10_plannedJoint_b5 at hf
  refine x_iload h dX10_plannedJoint_5 4 rfl (q := 7) rfl ?_
  refine x_aload_n h dX10_plannedJoint_7 rfl 0 rfl (q := 8) rfl ?_
  refine x_get_X10_87_0 h hg kf_X10_82 nn_X10 dX10_plannedJoint_8 ?_
  refine x_icmp_ge (tgt := 50) h dX10_plannedJoint_11 (by decide) (q := 14) rfl hf (fun hc1 hf2 => ?_) (fun hc1 hf2 => ?_)
  · skip
    refine x_iload_n h dX10_plannedJoint_50 rfl 3 rfl (q := 51) rfl ?_
    have hz := Option.some.inj hf2
    subst hz
    exact x_iret h hg hr dX10_plannedJoint_51
  · skip
    refine x_iload_n h dX10_plannedJoint_14 rfl 3 rfl (q := 15) rfl ?_
    refine x_iload_n h dX10_plannedJoint_15 rfl 1 rfl (q := 16) rfl ?_
    refine x_iload h dX10_plannedJoint_16 4 rfl (q := 18) rfl ?_
    refine x_ishr h dX10_plannedJoint_18 (q := 19) rfl ?_
    refine x_iconst (v := 1) h dX10_plannedJoint_19 (by decide) (q := 20) rfl ?_
    refine x_iand h dX10_plannedJoint_20 (q := 21) rfl ?_
    refine x_iconst (v := 1) h dX10_plannedJoint_21 (by decide) (q := 22) rfl ?_
    refine x_icmp_ne (tgt := 41) h dX10_plannedJoint_22 (by decide) (q := 25) rfl hf2 (fun hc3 hf4 => ?_) (fun hc3 hf4 => ?_)
    · skip
      refine x_iconst (v := 0) h dX10_plannedJoint_41 (by decide) (q := 42) rfl ?_
      refine x_iadd h dX10_plannedJoint_42 (q := 43) rfl ?_
      refine x_istore_n (lv' := [(3, .int (x3 + 0)), (0, .ref (gA g 87)), (1, .int x1), (2, .int x2), (4, .int x4)]) h dX10_plannedJoint_43 rfl hL (by decide) rfl (q := 44) rfl ?_
      refine x_iinc (v := (x4 + 1)) (lv' := [(4, .int (x4 + 1)), (3, .int (x3 + 0)), (0, .ref (gA g 87)), (1, .int x1), (2, .int x2)]) (j := 4) h dX10_plannedJoint_44 rfl rfl hL (by decide) rfl (q := 47) rfl ?_
      refine x_goto (q := 5) h dX10_plannedJoint_47 (by decide) ?_
      refine x_sub (lv' := [(0, .ref (gA g 87)), (1, .int x1), (2, .int x2), (3, .int (x3 + 0)), (4, .int (x4 + 1))]) [2, 3, 4, 1, 0] rfl ?_
      exact hk5 ((x3 + 0), (x4 + 1)) hf4
    · skip
      refine x_iload h dX10_plannedJoint_25 4 rfl (q := 27) rfl ?_
      refine x_callPi (As := [.int x4]) (rest := [.int x3]) h (c_X10_power C.2.1 x4 _ rfl) ml_X10_97 biX10_power rfl rfl hdX10_power ⟨Nat.le_of_ble_eq_true rfl, Nat.le_of_ble_eq_true rfl⟩ rfl rfl (Nat.le_of_ble_eq_true rfl) dX10_plannedJoint_27 ?_
      refine x_aload_n h dX10_plannedJoint_30 rfl 0 rfl (q := 31) rfl ?_
      refine x_iload_n h dX10_plannedJoint_31 rfl 2 rfl (q := 32) rfl ?_
      refine x_iload h dX10_plannedJoint_32 4 rfl (q := 34) rfl ?_
      obtain ⟨u5, hu5, hf6⟩ := bnd_inv hf4
      refine x_callVi (As := [.int x2, .int x4]) (rest := [.int (m_X10_power x4), .int x3]) h hg (c_X10_plannedAction C.2.1 hg.2.1 σ x2 x4 _ hu5) ml_X10_206 biX10_plannedAction rfl rfl hdX10_plannedAction ⟨Nat.le_of_ble_eq_true rfl, Nat.le_of_ble_eq_true rfl⟩ (by decide) (cE_87 g _) rfl rfl rfl (Nat.le_of_ble_eq_true rfl) dX10_plannedJoint_34 ?_
      refine x_imul h dX10_plannedJoint_37 (q := 38) rfl ?_
      refine x_goto (q := 42) h dX10_plannedJoint_38 (by decide) ?_
      refine x_iadd h dX10_plannedJoint_42 (q := 43) rfl ?_
      refine x_istore_n (lv' := [(3, .int (x3 + ((m_X10_power x4) * u5))), (0, .ref (gA g 87)), (1, .int x1), (2, .int x2), (4, .int x4)]) h dX10_plannedJoint_43 rfl hL (by decide) rfl (q := 44) rfl ?_
      refine x_iinc (v := (x4 + 1)) (lv' := [(4, .int (x4 + 1)), (3, .int (x3 + ((m_X10_power x4) * u5))), (0, .ref (gA g 87)), (1, .int x1), (2, .int x2)]) (j := 4) h dX10_plannedJoint_44 rfl rfl hL (by decide) rfl (q := 47) rfl ?_
      refine x_goto (q := 5) h dX10_plannedJoint_47 (by decide) ?_
      refine x_sub (lv' := [(0, .ref (gA g 87)), (1, .int x1), (2, .int x2), (3, .int (x3 + ((m_X10_power x4) * u5))), (4, .int (x4 + 1))]) [2, 3, 4, 1, 0] rfl ?_
      exact hk5 ((x3 + ((m_X10_power x4) * u5)), (x4 + 1)) hf6
set_option maxHeartbeats 4000000 in
set_option maxRecDepth 100000 in
theorem w_X10_plannedJoint_l5 {C : XC} {Q : State → Prop} {g : cG} (σ : St) (x1 : Int32) (x2 : Int32) (o : Int32) (h : XOk C cX10_plannedJoint RX10 tG rmX10_plannedJoint) (hg : XG C g) (hL : C.2.2.2.2.2.2.2.2.2.2.2.2.1 = 5) (hr : XEnd C (some .int) Q (XQ g (some (.int o)) σ) (cA g)) : ∀ (n : Nat) (z : Int32 × Int32), loopF (fun k z => m_X10_plannedJoint_b5 σ x1 x2 z.1 z.2 k) n z = some o → Xs C (wW g) Q σ 5 [(0, .ref (gA g 87)), (1, .int x1), (2, .int x2), (3, .int z.1), (4, .int z.2)] [] := by
  intro n z hf
  refine loopF_ind (S := Int32 × Int32) (O := Int32) (step := (fun k z => m_X10_plannedJoint_b5 σ x1 x2 z.1 z.2 k)) (o := o) (P := fun z => Xs C (wW g) Q σ 5 [(0, .ref (gA g 87)), (1, .int x1), (2, .int x2), (3, .int z.1), (4, .int z.2)] []) ?_ n z hf
  intro k hk z hf
  exact w_X10_plannedJoint_b5 σ x1 x2 z.1 z.2 o h hg hL hr k hk hf
def m_X10_plannedJoint (σ : St) (x1 : Int32) (x2 : Int32) : Option (Int32) :=
  loopF (fun k z => m_X10_plannedJoint_b5 σ x1 x2 z.1 z.2 k) cFu (0, 0)
set_option maxHeartbeats 4000000 in
set_option maxRecDepth 100000 in
theorem w_X10_plannedJoint {C : XC} {Q : State → Prop} {g : cG} (σ : St) (x1 : Int32) (x2 : Int32) (o : Int32) (h : XOk C cX10_plannedJoint RX10 tG rmX10_plannedJoint) (hg : XG C g) (hL : C.2.2.2.2.2.2.2.2.2.2.2.2.1 = 5) (hr : XEnd C (some .int) Q (XQ g (some (.int o)) σ) (cA g)) (hf : m_X10_plannedJoint σ x1 x2 = some o) : Xs C (wW g) Q σ 0 [(0, .ref (gA g 87)), (1, .int x1), (2, .int x2)] [] := by
  unfold m_X10_plannedJoint at hf
  refine x_iconst (v := 0) h dX10_plannedJoint_0 (by decide) (q := 1) rfl ?_
  refine x_istore_n (lv' := [(3, .int 0), (0, .ref (gA g 87)), (1, .int x1), (2, .int x2)]) h dX10_plannedJoint_1 rfl hL (by decide) rfl (q := 2) rfl ?_
  refine x_iconst (v := 0) h dX10_plannedJoint_2 (by decide) (q := 3) rfl ?_
  refine x_istore (lv' := [(4, .int 0), (3, .int 0), (0, .ref (gA g 87)), (1, .int x1), (2, .int x2)]) h dX10_plannedJoint_3 hL (by decide) rfl (q := 5) rfl ?_
  refine x_sub (lv' := [(0, .ref (gA g 87)), (1, .int x1), (2, .int x2), (3, .int 0), (4, .int 0)]) [2, 3, 4, 1, 0] rfl ?_
  exact w_X10_plannedJoint_l5 σ x1 x2 o h hg hL hr  cFu (0, 0) hf
theorem c_X10_plannedJoint (l : Launch) {g : cG} (hi : gInj g) (σ : St) (x1 : Int32) (x2 : Int32) (o : Int32) (hf : m_X10_plannedJoint σ x1 x2 = some o) : Met l yX10_plannedJoint (wT yX10_plannedJoint cX10_plannedJoint 5 (some .int)) rmX10_plannedJoint (va_Pc [.ref (gA g 87), .int x1, .int x2] (XPre g σ)) (XQ g (some (.int o)) σ) 0 0 (cA g) :=
  X_met RX10 hi plX10 rfl (Nat.le_of_ble_eq_true rfl) rfl (fun _ _ _ h hg hL hr => w_X10_plannedJoint σ x1 x2 o h hg hL hr hf)
abbrev rmX10_forces : Room := { frames := 6, cells := 0, slots := 0, locals := 136 }
theorem hdX10_forces : yX10_forces.cls = RX10 ∧ yX10_forces.cls ≠ "java/lang/invoke/MethodHandle" ∧ yX10_forces.cls ≠ "java/lang/invoke/VarHandle" ∧ (parseMethodDescriptor yX10_forces.desc).map (fun d => d.parameters.length) = some 3 := by decide +kernel
def m_X10_forces (σ : St) (x1 : Int32) (x2 : Int32) (x3 : Int32) : Option (Bool × St) :=
  if (σ 87 29) = 0 then (
    (m_X10_forcing σ x1 x2 x3).bind fun u3 =>
    if u3.1 = (-9) then (
      some (false, u3.2)
    ) else (
      some (true, u3.2)
    )
  ) else (
    (m_X10_plannedJoint σ x1 x2).bind fun u7 =>
    (m_X10_outcome σ x1 x2 u7).bind fun u9 =>
    if (u9.1 &&& (x3 ^^^ (-1))) = 0 then (
      some (true, u9.2)
    ) else (
      some (false, u9.2)
    )
  )
set_option maxHeartbeats 4000000 in
set_option maxRecDepth 100000 in
theorem w_X10_forces {C : XC} {Q : State → Prop} {g : cG} (σ : St) (x1 : Int32) (x2 : Int32) (x3 : Int32) (o : Bool × St) (h : XOk C cX10_forces RX10 tG rmX10_forces) (hg : XG C g) (hL : C.2.2.2.2.2.2.2.2.2.2.2.2.1 = 4) (hr : XEnd C (some .boolean) Q (XQ g (some (.int (bI o.1))) o.2) (cA g)) (hf : m_X10_forces σ x1 x2 x3 = some o) : Xs C (wW g) Q σ 0 [(0, .ref (gA g 87)), (1, .int x1), (2, .int x2), (3, .int x3)] [] := by
  unfold m_X10_forces at hf
  refine x_aload_n h dX10_forces_0 rfl 0 rfl (q := 1) rfl ?_
  refine x_get_X10_87_29 h hg kf_X10_209 nn_X10 dX10_forces_1 ?_
  refine x_if_eq (tgt := 32) h dX10_forces_4 (by decide) (q := 7) rfl hf (fun hc1 hf2 => ?_) (fun hc1 hf2 => ?_)
  · skip
    refine x_aload_n h dX10_forces_32 rfl 0 rfl (q := 33) rfl ?_
    refine x_iload_n h dX10_forces_33 rfl 1 rfl (q := 34) rfl ?_
    refine x_iload_n h dX10_forces_34 rfl 2 rfl (q := 35) rfl ?_
    refine x_iload_n h dX10_forces_35 rfl 3 rfl (q := 36) rfl ?_
    obtain ⟨u3, hu3, hf4⟩ := bnd_inv hf2
    refine x_callVi (As := [.int x1, .int x2, .int x3]) (rest := []) h hg (c_X10_forcing C.2.1 hg.2.1 σ x1 x2 x3 _ hu3) ml_X10_142 biX10_forcing rfl rfl hdX10_forcing ⟨Nat.le_of_ble_eq_true rfl, Nat.le_of_ble_eq_true rfl⟩ (by decide) (cE_87 g _) rfl rfl rfl (Nat.le_of_ble_eq_true rfl) dX10_forces_36 ?_
    refine x_bipush (v := (-9)) h dX10_forces_39 (by decide) (q := 41) rfl ?_
    refine x_icmp_eq (tgt := 48) h dX10_forces_41 (by decide) (q := 44) rfl hf4 (fun hc5 hf6 => ?_) (fun hc5 hf6 => ?_)
    · skip
      refine x_iconst (v := 0) h dX10_forces_48 (by decide) (q := 49) rfl ?_
      have hz := Option.some.inj hf6
      subst hz
      exact x_zret (b := false) h hg hr dX10_forces_49
    · skip
      refine x_iconst (v := 1) h dX10_forces_44 (by decide) (q := 45) rfl ?_
      refine x_goto (q := 49) h dX10_forces_45 (by decide) ?_
      have hz := Option.some.inj hf6
      subst hz
      exact x_zret (b := true) h hg hr dX10_forces_49
  · skip
    refine x_aload_n h dX10_forces_7 rfl 0 rfl (q := 8) rfl ?_
    refine x_iload_n h dX10_forces_8 rfl 1 rfl (q := 9) rfl ?_
    refine x_iload_n h dX10_forces_9 rfl 2 rfl (q := 10) rfl ?_
    refine x_aload_n h dX10_forces_10 rfl 0 rfl (q := 11) rfl ?_
    refine x_iload_n h dX10_forces_11 rfl 1 rfl (q := 12) rfl ?_
    refine x_iload_n h dX10_forces_12 rfl 2 rfl (q := 13) rfl ?_
    obtain ⟨u7, hu7, hf8⟩ := bnd_inv hf2
    refine x_callVi (As := [.int x1, .int x2]) (rest := [.int x2, .int x1, .ref (gA g 87)]) h hg (c_X10_plannedJoint C.2.1 hg.2.1 σ x1 x2 _ hu7) ml_X10_212 biX10_plannedJoint rfl rfl hdX10_plannedJoint ⟨Nat.le_of_ble_eq_true rfl, Nat.le_of_ble_eq_true rfl⟩ (by decide) (cE_87 g _) rfl rfl rfl (Nat.le_of_ble_eq_true rfl) dX10_forces_13 ?_
    obtain ⟨u9, hu9, hf10⟩ := bnd_inv hf8
    refine x_callVi (As := [.int x1, .int x2, .int u7]) (rest := []) h hg (c_X10_outcome C.2.1 hg.2.1 σ x1 x2 u7 _ hu9) ml_X10_119 biX10_outcome rfl rfl hdX10_outcome ⟨Nat.le_of_ble_eq_true rfl, Nat.le_of_ble_eq_true rfl⟩ (by decide) (cE_87 g _) rfl rfl rfl (Nat.le_of_ble_eq_true rfl) dX10_forces_16 ?_
    refine x_iload_n h dX10_forces_19 rfl 3 rfl (q := 20) rfl ?_
    refine x_iconst (v := (-1)) h dX10_forces_20 (by decide) (q := 21) rfl ?_
    refine x_ixor h dX10_forces_21 (q := 22) rfl ?_
    refine x_iand h dX10_forces_22 (q := 23) rfl ?_
    refine x_if_ne (tgt := 30) h dX10_forces_23 (by decide) (q := 26) rfl hf10 (fun hc11 hf12 => ?_) (fun hc11 hf12 => ?_)
    · skip
      refine x_iconst (v := 0) h dX10_forces_30 (by decide) (q := 31) rfl ?_
      have hz := Option.some.inj hf12
      subst hz
      exact x_zret (b := false) h hg hr dX10_forces_31
    · skip
      refine x_iconst (v := 1) h dX10_forces_26 (by decide) (q := 27) rfl ?_
      refine x_goto (q := 31) h dX10_forces_27 (by decide) ?_
      have hz := Option.some.inj hf12
      subst hz
      exact x_zret (b := true) h hg hr dX10_forces_31
theorem c_X10_forces (l : Launch) {g : cG} (hi : gInj g) (σ : St) (x1 : Int32) (x2 : Int32) (x3 : Int32) (o : Bool × St) (hf : m_X10_forces σ x1 x2 x3 = some o) : Met l yX10_forces (wT yX10_forces cX10_forces 4 (some .boolean)) rmX10_forces (va_Pc [.ref (gA g 87), .int x1, .int x2, .int x3] (XPre g σ)) (XQ g (some (.int (bI o.1))) o.2) 0 0 (cA g) :=
  X_met RX10 hi plX10 rfl (Nat.le_of_ble_eq_true rfl) rfl (fun _ _ _ h hg hL hr => w_X10_forces σ x1 x2 x3 o h hg hL hr hf)
