abbrev rmX10_in : Room := { frames := 0, cells := 0, slots := 0, locals := 0 }
theorem hdX10_in : yX10_in.cls ≠ "java/lang/invoke/MethodHandle" ∧ yX10_in.cls ≠ "java/lang/invoke/VarHandle" ∧ (parseMethodDescriptor yX10_in.desc).map (fun d => d.parameters.length) = some 3 := by decide +kernel
def m_X10_in (x0 : Int32) (x1 : Int32) (x2 : Int32) : Bool :=
  if x0 < x1 then (
    false
  ) else (
    if x2 < x0 then (
      false
    ) else (
      true
    )
  )
set_option maxHeartbeats 4000000 in
set_option maxRecDepth 100000 in
theorem w_X10_in {C : XC} {Q : State → Prop} {H0 : Heap} {σ : St} (x0 : Int32) (x1 : Int32) (x2 : Int32) (o : Bool) (h : XOk C cX10_in RX10 tG rmX10_in) (hH : H0 = C.2.2.2.2.1.heap) (hL : C.2.2.2.2.2.2.2.2.2.2.2.2.1 = 3) (hr : XEnd C (some .boolean) Q (XQp (some (.int (bI o)))) (fun _ => False)) (hf : m_X10_in x0 x1 x2 = o) : Xs C (fun _ H => H = H0) Q σ 0 [(0, .int x0), (1, .int x1), (2, .int x2)] [] := by
  unfold m_X10_in at hf
  refine x_iload_n h dX10_in_0 rfl 0 rfl (q := 1) rfl ?_
  refine x_iload_n h dX10_in_1 rfl 1 rfl (q := 2) rfl ?_
  refine x_icmp_lt (tgt := 14) h dX10_in_2 (by decide) (q := 5) rfl hf (fun hc1 hf2 => ?_) (fun hc1 hf2 => ?_)
  · skip
    refine x_iconst (v := 0) h dX10_in_14 (by decide) (q := 15) rfl ?_
    subst hf2
    exact x_zretP (b := false) h hr hH dX10_in_15
  · skip
    refine x_iload_n h dX10_in_5 rfl 0 rfl (q := 6) rfl ?_
    refine x_iload_n h dX10_in_6 rfl 2 rfl (q := 7) rfl ?_
    refine x_icmp_gt (tgt := 14) h dX10_in_7 (by decide) (q := 10) rfl hf2 (fun hc3 hf4 => ?_) (fun hc3 hf4 => ?_)
    · skip
      refine x_iconst (v := 0) h dX10_in_14 (by decide) (q := 15) rfl ?_
      subst hf4
      exact x_zretP (b := false) h hr hH dX10_in_15
    · skip
      refine x_iconst (v := 1) h dX10_in_10 (by decide) (q := 11) rfl ?_
      refine x_goto (q := 15) h dX10_in_11 (by decide) ?_
      subst hf4
      exact x_zretP (b := true) h hr hH dX10_in_15
theorem c_X10_in (l : Launch) (x0 : Int32) (x1 : Int32) (x2 : Int32) (o : Bool) (hf : m_X10_in x0 x1 x2 = o) : Met l yX10_in (wT yX10_in cX10_in 3 (some .boolean)) rmX10_in (va_Pc [.int x0, .int x1, .int x2] (fun _ => True)) (XQp (some (.int (bI o)))) 0 0 (fun _ => False) :=
  X_metP RX10 plX10 rfl (Nat.le_of_ble_eq_true rfl) rfl (fun _ _ _ _ _ h hH hL hr => w_X10_in x0 x1 x2 o h hH hL hr hf)
abbrev rmX10_edit : Room := { frames := 0, cells := 0, slots := 0, locals := 0 }
theorem hdX10_edit : yX10_edit.cls = RX10 ∧ yX10_edit.cls ≠ "java/lang/invoke/MethodHandle" ∧ yX10_edit.cls ≠ "java/lang/invoke/VarHandle" ∧ (parseMethodDescriptor yX10_edit.desc).map (fun d => d.parameters.length) = some 0 := by decide +kernel
def m_X10_edit_b51 (σ : St) (x1 : Int32) (k51 : (St × Int32) → Option (St)) : Option (St) :=
  if 1201 ≤ x1 then (
    some (up (up σ 87 3 ((σ 87 3) + 1)) 87 5 0)
  ) else (
    chk x1 1201 <|
    chk ((1201 * (σ 87 3)) + x1) 4804 <|
    k51 ((up σ 89 (Int32.toNatClampNeg ((1201 * (σ 87 3)) + x1)) (σ 88 (Int32.toNatClampNeg x1))), (x1 + 1))
  )
set_option maxHeartbeats 4000000 in
set_option maxRecDepth 100000 in
theorem w_X10_edit_b51 {C : XC} {Q : State → Prop} {g : cG} (σ : St) (x1 : Int32) (o : St) (h : XOk C cX10_edit RX10 tG rmX10_edit) (hg : XG C g) (hL : C.2.2.2.2.2.2.2.2.2.2.2.2.1 = 2) (hr : XEnd C none Q (XQ g (none) o) (cA g)) (k51 : (St × Int32) → Option (St)) (hk51 : ∀ z : St × Int32, k51 z = some o → Xs C (wW g) Q z.1 51 [(0, .ref (gA g 87)), (1, .int z.2)] []) (hf : m_X10_edit_b51 σ x1 k51 = some o) : Xs C (wW g) Q σ 51 [(0, .ref (gA g 87)), (1, .int x1)] [] := by
  unfold m_X10_edit_b51 at hf
  refine x_iload_n h dX10_edit_51 rfl 1 rfl (q := 52) rfl ?_
  refine x_sipush (v := 1201) h dX10_edit_52 (by decide) (q := 55) rfl ?_
  refine x_icmp_ge (tgt := 85) h dX10_edit_55 (by decide) (q := 58) rfl hf (fun hc1 hf2 => ?_) (fun hc1 hf2 => ?_)
  · skip
    refine x_aload_n h dX10_edit_85 rfl 0 rfl (q := 86) rfl ?_
    refine x_dup h dX10_edit_86 rfl (q := 87) rfl ?_
    refine x_get_X10_87_3 h hg kf_X10_86 nn_X10 dX10_edit_87 ?_
    refine x_iconst (v := 1) h dX10_edit_90 (by decide) (q := 91) rfl ?_
    refine x_iadd h dX10_edit_91 (q := 92) rfl ?_
    refine x_put_X10_87_3 h hg kf_X10_86 nn_X10 dX10_edit_92 ?_
    refine x_aload_n h dX10_edit_95 rfl 0 rfl (q := 96) rfl ?_
    refine x_iconst (v := 0) h dX10_edit_96 (by decide) (q := 97) rfl ?_
    refine x_put_X10_87_5 h hg kf_X10_89 nn_X10 dX10_edit_97 (by decide) (by decide) ?_
    have hz := Option.some.inj hf2
    subst hz
    exact x_vret h hg hr dX10_edit_100
  · skip
    refine x_aload_n h dX10_edit_58 rfl 0 rfl (q := 59) rfl ?_
    refine x_get_X10_87_2 h hg kf_X10_13 nn_X10 dX10_edit_59 ?_
    refine x_sipush (v := 1201) h dX10_edit_62 (by decide) (q := 65) rfl ?_
    refine x_aload_n h dX10_edit_65 rfl 0 rfl (q := 66) rfl ?_
    refine x_get_X10_87_3 h hg kf_X10_86 nn_X10 dX10_edit_66 ?_
    refine x_imul h dX10_edit_69 (q := 70) rfl ?_
    refine x_iload_n h dX10_edit_70 rfl 1 rfl (q := 71) rfl ?_
    refine x_iadd h dX10_edit_71 (q := 72) rfl ?_
    refine x_aload_n h dX10_edit_72 rfl 0 rfl (q := 73) rfl ?_
    refine x_get_X10_87_1 h hg kf_X10_7 nn_X10 dX10_edit_73 ?_
    refine x_iload_n h dX10_edit_76 rfl 1 rfl (q := 77) rfl ?_
    obtain ⟨hi3, hf4⟩ := chk_inv hf2
    refine x_iald (j := (Int32.toNatClampNeg x1)) h hg a_88 hi3 rfl dX10_edit_77 (q := 78) rfl ?_
    obtain ⟨hi5, hf6⟩ := chk_inv hf4
    refine x_iast (j := (Int32.toNatClampNeg ((1201 * (σ 87 3)) + x1))) h hg a_89 hi5 rfl dX10_edit_78 (q := 79) rfl ?_
    refine x_iinc (v := (x1 + 1)) (lv' := [(1, .int (x1 + 1)), (0, .ref (gA g 87))]) (j := 1) h dX10_edit_79 rfl rfl hL (by decide) rfl (q := 82) rfl ?_
    refine x_goto (q := 51) h dX10_edit_82 (by decide) ?_
    refine x_sub (lv' := [(0, .ref (gA g 87)), (1, .int (x1 + 1))]) [1, 0] rfl ?_
    exact hk51 ((up σ 89 (Int32.toNatClampNeg ((1201 * (σ 87 3)) + x1)) (σ 88 (Int32.toNatClampNeg x1))), (x1 + 1)) hf6
set_option maxHeartbeats 4000000 in
set_option maxRecDepth 100000 in
theorem w_X10_edit_l51 {C : XC} {Q : State → Prop} {g : cG} (o : St) (h : XOk C cX10_edit RX10 tG rmX10_edit) (hg : XG C g) (hL : C.2.2.2.2.2.2.2.2.2.2.2.2.1 = 2) (hr : XEnd C none Q (XQ g (none) o) (cA g)) : ∀ (n : Nat) (z : St × Int32), loopF (fun k z => m_X10_edit_b51 z.1 z.2 k) n z = some o → Xs C (wW g) Q z.1 51 [(0, .ref (gA g 87)), (1, .int z.2)] [] := by
  intro n z hf
  refine loopF_ind (S := St × Int32) (O := St) (step := (fun k z => m_X10_edit_b51 z.1 z.2 k)) (o := o) (P := fun z => Xs C (wW g) Q z.1 51 [(0, .ref (gA g 87)), (1, .int z.2)] []) ?_ n z hf
  intro k hk z hf
  exact w_X10_edit_b51 z.1 z.2 o h hg hL hr k hk hf
def m_X10_edit_b10 (σ : St) (x1 : Int32) (k10 : (St × Int32) → Option (St)) : Option (St) :=
  if 3603 ≤ x1 then (
    loopF (fun k z => m_X10_edit_b51 z.1 z.2 k) cFu ((up σ 87 3 ((σ 87 3) - 1)), 0)
  ) else (
    chk (x1 + 1201) 4804 <|
    chk x1 4804 <|
    k10 ((up σ 89 (Int32.toNatClampNeg x1) (σ 89 (Int32.toNatClampNeg (x1 + 1201)))), (x1 + 1))
  )
set_option maxHeartbeats 4000000 in
set_option maxRecDepth 100000 in
theorem w_X10_edit_b10 {C : XC} {Q : State → Prop} {g : cG} (σ : St) (x1 : Int32) (o : St) (h : XOk C cX10_edit RX10 tG rmX10_edit) (hg : XG C g) (hL : C.2.2.2.2.2.2.2.2.2.2.2.2.1 = 2) (hr : XEnd C none Q (XQ g (none) o) (cA g)) (k10 : (St × Int32) → Option (St)) (hk10 : ∀ z : St × Int32, k10 z = some o → Xs C (wW g) Q z.1 10 [(0, .ref (gA g 87)), (1, .int z.2)] []) (hf : m_X10_edit_b10 σ x1 k10 = some o) : Xs C (wW g) Q σ 10 [(0, .ref (gA g 87)), (1, .int x1)] [] := by
  unfold m_X10_edit_b10 at hf
  refine x_iload_n h dX10_edit_10 rfl 1 rfl (q := 11) rfl ?_
  refine x_sipush (v := 3603) h dX10_edit_11 (by decide) (q := 14) rfl ?_
  refine x_icmp_ge (tgt := 39) h dX10_edit_14 (by decide) (q := 17) rfl hf (fun hc1 hf2 => ?_) (fun hc1 hf2 => ?_)
  · skip
    refine x_aload_n h dX10_edit_39 rfl 0 rfl (q := 40) rfl ?_
    refine x_dup h dX10_edit_40 rfl (q := 41) rfl ?_
    refine x_get_X10_87_3 h hg kf_X10_86 nn_X10 dX10_edit_41 ?_
    refine x_iconst (v := 1) h dX10_edit_44 (by decide) (q := 45) rfl ?_
    refine x_isub h dX10_edit_45 (q := 46) rfl ?_
    refine x_put_X10_87_3 h hg kf_X10_86 nn_X10 dX10_edit_46 ?_
    refine x_iconst (v := 0) h dX10_edit_49 (by decide) (q := 50) rfl ?_
    refine x_istore_n (lv' := [(1, .int 0), (0, .ref (gA g 87))]) h dX10_edit_50 rfl hL (by decide) rfl (q := 51) rfl ?_
    refine x_sub (lv' := [(0, .ref (gA g 87)), (1, .int 0)]) [1, 0] rfl ?_
    exact w_X10_edit_l51  o h hg hL hr  cFu ((up σ 87 3 ((σ 87 3) - 1)), 0) hf2
  · skip
    refine x_aload_n h dX10_edit_17 rfl 0 rfl (q := 18) rfl ?_
    refine x_get_X10_87_2 h hg kf_X10_13 nn_X10 dX10_edit_18 ?_
    refine x_iload_n h dX10_edit_21 rfl 1 rfl (q := 22) rfl ?_
    refine x_aload_n h dX10_edit_22 rfl 0 rfl (q := 23) rfl ?_
    refine x_get_X10_87_2 h hg kf_X10_13 nn_X10 dX10_edit_23 ?_
    refine x_iload_n h dX10_edit_26 rfl 1 rfl (q := 27) rfl ?_
    refine x_sipush (v := 1201) h dX10_edit_27 (by decide) (q := 30) rfl ?_
    refine x_iadd h dX10_edit_30 (q := 31) rfl ?_
    obtain ⟨hi3, hf4⟩ := chk_inv hf2
    refine x_iald (j := (Int32.toNatClampNeg (x1 + 1201))) h hg a_89 hi3 rfl dX10_edit_31 (q := 32) rfl ?_
    obtain ⟨hi5, hf6⟩ := chk_inv hf4
    refine x_iast (j := (Int32.toNatClampNeg x1)) h hg a_89 hi5 rfl dX10_edit_32 (q := 33) rfl ?_
    refine x_iinc (v := (x1 + 1)) (lv' := [(1, .int (x1 + 1)), (0, .ref (gA g 87))]) (j := 1) h dX10_edit_33 rfl rfl hL (by decide) rfl (q := 36) rfl ?_
    refine x_goto (q := 10) h dX10_edit_36 (by decide) ?_
    refine x_sub (lv' := [(0, .ref (gA g 87)), (1, .int (x1 + 1))]) [1, 0] rfl ?_
    exact hk10 ((up σ 89 (Int32.toNatClampNeg x1) (σ 89 (Int32.toNatClampNeg (x1 + 1201)))), (x1 + 1)) hf6
set_option maxHeartbeats 4000000 in
set_option maxRecDepth 100000 in
theorem w_X10_edit_l10 {C : XC} {Q : State → Prop} {g : cG} (o : St) (h : XOk C cX10_edit RX10 tG rmX10_edit) (hg : XG C g) (hL : C.2.2.2.2.2.2.2.2.2.2.2.2.1 = 2) (hr : XEnd C none Q (XQ g (none) o) (cA g)) : ∀ (n : Nat) (z : St × Int32), loopF (fun k z => m_X10_edit_b10 z.1 z.2 k) n z = some o → Xs C (wW g) Q z.1 10 [(0, .ref (gA g 87)), (1, .int z.2)] [] := by
  intro n z hf
  refine loopF_ind (S := St × Int32) (O := St) (step := (fun k z => m_X10_edit_b10 z.1 z.2 k)) (o := o) (P := fun z => Xs C (wW g) Q z.1 10 [(0, .ref (gA g 87)), (1, .int z.2)] []) ?_ n z hf
  intro k hk z hf
  exact w_X10_edit_b10 z.1 z.2 o h hg hL hr k hk hf
def m_X10_edit (σ : St) : Option (St) :=
  if (σ 87 3) = 4 then (
    loopF (fun k z => m_X10_edit_b10 z.1 z.2 k) cFu (σ, 0)
  ) else (
    loopF (fun k z => m_X10_edit_b51 z.1 z.2 k) cFu (σ, 0)
  )
set_option maxHeartbeats 4000000 in
set_option maxRecDepth 100000 in
theorem w_X10_edit {C : XC} {Q : State → Prop} {g : cG} (σ : St) (o : St) (h : XOk C cX10_edit RX10 tG rmX10_edit) (hg : XG C g) (hL : C.2.2.2.2.2.2.2.2.2.2.2.2.1 = 2) (hr : XEnd C none Q (XQ g (none) o) (cA g)) (hf : m_X10_edit σ = some o) : Xs C (wW g) Q σ 0 [(0, .ref (gA g 87))] [] := by
  unfold m_X10_edit at hf
  refine x_aload_n h dX10_edit_0 rfl 0 rfl (q := 1) rfl ?_
  refine x_get_X10_87_3 h hg kf_X10_86 nn_X10 dX10_edit_1 ?_
  refine x_iconst (v := 4) h dX10_edit_4 (by decide) (q := 5) rfl ?_
  refine x_icmp_ne (tgt := 49) h dX10_edit_5 (by decide) (q := 8) rfl hf (fun hc1 hf2 => ?_) (fun hc1 hf2 => ?_)
  · skip
    refine x_iconst (v := 0) h dX10_edit_49 (by decide) (q := 50) rfl ?_
    refine x_istore_n (lv' := [(1, .int 0), (0, .ref (gA g 87))]) h dX10_edit_50 rfl hL (by decide) rfl (q := 51) rfl ?_
    refine x_sub (lv' := [(0, .ref (gA g 87)), (1, .int 0)]) [1, 0] rfl ?_
    exact w_X10_edit_l51  o h hg hL hr  cFu (σ, 0) hf2
  · skip
    refine x_iconst (v := 0) h dX10_edit_8 (by decide) (q := 9) rfl ?_
    refine x_istore_n (lv' := [(1, .int 0), (0, .ref (gA g 87))]) h dX10_edit_9 rfl hL (by decide) rfl (q := 10) rfl ?_
    refine x_sub (lv' := [(0, .ref (gA g 87)), (1, .int 0)]) [1, 0] rfl ?_
    exact w_X10_edit_l10  o h hg hL hr  cFu (σ, 0) hf2
theorem c_X10_edit (l : Launch) {g : cG} (hi : gInj g) (σ : St) (o : St) (hf : m_X10_edit σ = some o) : Met l yX10_edit (wT yX10_edit cX10_edit 2 none) rmX10_edit (va_Pc [.ref (gA g 87)] (XPre g σ)) (XQ g (none) o) 0 0 (cA g) :=
  X_met RX10 hi plX10 rfl (Nat.le_of_ble_eq_true rfl) rfl (fun _ _ _ h hg hL hr => w_X10_edit σ o h hg hL hr hf)
abbrev rmX10_isState : Room := { frames := 1, cells := 0, slots := 0, locals := 22 }
theorem hdX10_isState : yX10_isState.cls = RX10 ∧ yX10_isState.cls ≠ "java/lang/invoke/MethodHandle" ∧ yX10_isState.cls ≠ "java/lang/invoke/VarHandle" ∧ (parseMethodDescriptor yX10_isState.desc).map (fun d => d.parameters.length) = some 1 := by decide +kernel
def m_X10_isState (σ : St) (x1 : Int32) : Option (Bool) :=
  chk 1200 1201 <|
  some (m_X10_in x1 0 ((σ 88 1200) - 1))
set_option maxHeartbeats 4000000 in
set_option maxRecDepth 100000 in
theorem w_X10_isState {C : XC} {Q : State → Prop} {g : cG} (σ : St) (x1 : Int32) (o : Bool) (h : XOk C cX10_isState RX10 tG rmX10_isState) (hg : XG C g) (hL : C.2.2.2.2.2.2.2.2.2.2.2.2.1 = 2) (hr : XEnd C (some .boolean) Q (XQ g (some (.int (bI o))) σ) (cA g)) (hf : m_X10_isState σ x1 = some o) : Xs C (wW g) Q σ 0 [(0, .ref (gA g 87)), (1, .int x1)] [] := by
  unfold m_X10_isState at hf
  refine x_iload_n h dX10_isState_0 rfl 1 rfl (q := 1) rfl ?_
  refine x_iconst (v := 0) h dX10_isState_1 (by decide) (q := 2) rfl ?_
  refine x_aload_n h dX10_isState_2 rfl 0 rfl (q := 3) rfl ?_
  refine x_get_X10_87_1 h hg kf_X10_7 nn_X10 dX10_isState_3 ?_
  refine x_sipush (v := 1200) h dX10_isState_6 (by decide) (q := 9) rfl ?_
  obtain ⟨hi1, hf2⟩ := chk_inv hf
  refine x_iald (j := 1200) h hg a_88 hi1 (by decide) dX10_isState_9 (q := 10) rfl ?_
  refine x_iconst (v := 1) h dX10_isState_10 (by decide) (q := 11) rfl ?_
  refine x_isub h dX10_isState_11 (q := 12) rfl ?_
  refine x_callPi (As := [.int x1, .int 0, .int ((σ 88 1200) - 1)]) (rest := []) h (c_X10_in C.2.1 x1 0 ((σ 88 1200) - 1) _ rfl) ml_X10_93 biX10_in rfl rfl hdX10_in ⟨Nat.le_of_ble_eq_true rfl, Nat.le_of_ble_eq_true rfl⟩ rfl rfl (Nat.le_of_ble_eq_true rfl) dX10_isState_12 ?_
  have hz := Option.some.inj hf2
  subst hz
  exact x_zret (b := (m_X10_in x1 0 ((σ 88 1200) - 1))) h hg hr dX10_isState_15
theorem c_X10_isState (l : Launch) {g : cG} (hi : gInj g) (σ : St) (x1 : Int32) (o : Bool) (hf : m_X10_isState σ x1 = some o) : Met l yX10_isState (wT yX10_isState cX10_isState 2 (some .boolean)) rmX10_isState (va_Pc [.ref (gA g 87), .int x1] (XPre g σ)) (XQ g (some (.int (bI o))) σ) 0 0 (cA g) :=
  X_met RX10 hi plX10 rfl (Nat.le_of_ble_eq_true rfl) rfl (fun _ _ _ h hg hL hr => w_X10_isState σ x1 o h hg hL hr hf)
abbrev rmX10_isAgent : Room := { frames := 1, cells := 0, slots := 0, locals := 22 }
theorem hdX10_isAgent : yX10_isAgent.cls = RX10 ∧ yX10_isAgent.cls ≠ "java/lang/invoke/MethodHandle" ∧ yX10_isAgent.cls ≠ "java/lang/invoke/VarHandle" ∧ (parseMethodDescriptor yX10_isAgent.desc).map (fun d => d.parameters.length) = some 1 := by decide +kernel
def m_X10_isAgent (σ : St) (x1 : Int32) : Bool :=
  (m_X10_in x1 0 ((σ 87 0) - 1))
set_option maxHeartbeats 4000000 in
set_option maxRecDepth 100000 in
theorem w_X10_isAgent {C : XC} {Q : State → Prop} {g : cG} (σ : St) (x1 : Int32) (o : Bool) (h : XOk C cX10_isAgent RX10 tG rmX10_isAgent) (hg : XG C g) (hL : C.2.2.2.2.2.2.2.2.2.2.2.2.1 = 2) (hr : XEnd C (some .boolean) Q (XQ g (some (.int (bI o))) σ) (cA g)) (hf : m_X10_isAgent σ x1 = o) : Xs C (wW g) Q σ 0 [(0, .ref (gA g 87)), (1, .int x1)] [] := by
  unfold m_X10_isAgent at hf
  refine x_iload_n h dX10_isAgent_0 rfl 1 rfl (q := 1) rfl ?_
  refine x_iconst (v := 0) h dX10_isAgent_1 (by decide) (q := 2) rfl ?_
  refine x_aload_n h dX10_isAgent_2 rfl 0 rfl (q := 3) rfl ?_
  refine x_get_X10_87_0 h hg kf_X10_82 nn_X10 dX10_isAgent_3 ?_
  refine x_iconst (v := 1) h dX10_isAgent_6 (by decide) (q := 7) rfl ?_
  refine x_isub h dX10_isAgent_7 (q := 8) rfl ?_
  refine x_callPi (As := [.int x1, .int 0, .int ((σ 87 0) - 1)]) (rest := []) h (c_X10_in C.2.1 x1 0 ((σ 87 0) - 1) _ rfl) ml_X10_93 biX10_in rfl rfl hdX10_in ⟨Nat.le_of_ble_eq_true rfl, Nat.le_of_ble_eq_true rfl⟩ rfl rfl (Nat.le_of_ble_eq_true rfl) dX10_isAgent_8 ?_
  subst hf
  exact x_zret (b := (m_X10_in x1 0 ((σ 87 0) - 1))) h hg hr dX10_isAgent_11
theorem c_X10_isAgent (l : Launch) {g : cG} (hi : gInj g) (σ : St) (x1 : Int32) (o : Bool) (hf : m_X10_isAgent σ x1 = o) : Met l yX10_isAgent (wT yX10_isAgent cX10_isAgent 2 (some .boolean)) rmX10_isAgent (va_Pc [.ref (gA g 87), .int x1] (XPre g σ)) (XQ g (some (.int (bI o))) σ) 0 0 (cA g) :=
  X_met RX10 hi plX10 rfl (Nat.le_of_ble_eq_true rfl) rfl (fun _ _ _ h hg hL hr => w_X10_isAgent σ x1 o h hg hL hr hf)
abbrev rmX10_isSet : Room := { frames := 1, cells := 0, slots := 0, locals := 22 }
theorem hdX10_isSet : yX10_isSet.cls = RX10 ∧ yX10_isSet.cls ≠ "java/lang/invoke/MethodHandle" ∧ yX10_isSet.cls ≠ "java/lang/invoke/VarHandle" ∧ (parseMethodDescriptor yX10_isSet.desc).map (fun d => d.parameters.length) = some 1 := by decide +kernel
def m_X10_isSet (σ : St) (x1 : Int32) : Option (Bool) :=
  chk 1200 1201 <|
  some (m_X10_in x1 0 (((1 : Int32) <<< ((σ 88 1200) &&& 31)) - 1))
set_option maxHeartbeats 4000000 in
set_option maxRecDepth 100000 in
theorem w_X10_isSet {C : XC} {Q : State → Prop} {g : cG} (σ : St) (x1 : Int32) (o : Bool) (h : XOk C cX10_isSet RX10 tG rmX10_isSet) (hg : XG C g) (hL : C.2.2.2.2.2.2.2.2.2.2.2.2.1 = 2) (hr : XEnd C (some .boolean) Q (XQ g (some (.int (bI o))) σ) (cA g)) (hf : m_X10_isSet σ x1 = some o) : Xs C (wW g) Q σ 0 [(0, .ref (gA g 87)), (1, .int x1)] [] := by
  unfold m_X10_isSet at hf
  refine x_iload_n h dX10_isSet_0 rfl 1 rfl (q := 1) rfl ?_
  refine x_iconst (v := 0) h dX10_isSet_1 (by decide) (q := 2) rfl ?_
  refine x_iconst (v := 1) h dX10_isSet_2 (by decide) (q := 3) rfl ?_
  refine x_aload_n h dX10_isSet_3 rfl 0 rfl (q := 4) rfl ?_
  refine x_get_X10_87_1 h hg kf_X10_7 nn_X10 dX10_isSet_4 ?_
  refine x_sipush (v := 1200) h dX10_isSet_7 (by decide) (q := 10) rfl ?_
  obtain ⟨hi1, hf2⟩ := chk_inv hf
  refine x_iald (j := 1200) h hg a_88 hi1 (by decide) dX10_isSet_10 (q := 11) rfl ?_
  refine x_ishl h dX10_isSet_11 (q := 12) rfl ?_
  refine x_iconst (v := 1) h dX10_isSet_12 (by decide) (q := 13) rfl ?_
  refine x_isub h dX10_isSet_13 (q := 14) rfl ?_
  refine x_callPi (As := [.int x1, .int 0, .int (((1 : Int32) <<< ((σ 88 1200) &&& 31)) - 1)]) (rest := []) h (c_X10_in C.2.1 x1 0 (((1 : Int32) <<< ((σ 88 1200) &&& 31)) - 1) _ rfl) ml_X10_93 biX10_in rfl rfl hdX10_in ⟨Nat.le_of_ble_eq_true rfl, Nat.le_of_ble_eq_true rfl⟩ rfl rfl (Nat.le_of_ble_eq_true rfl) dX10_isSet_14 ?_
  have hz := Option.some.inj hf2
  subst hz
  exact x_zret (b := (m_X10_in x1 0 (((1 : Int32) <<< ((σ 88 1200) &&& 31)) - 1))) h hg hr dX10_isSet_17
theorem c_X10_isSet (l : Launch) {g : cG} (hi : gInj g) (σ : St) (x1 : Int32) (o : Bool) (hf : m_X10_isSet σ x1 = some o) : Met l yX10_isSet (wT yX10_isSet cX10_isSet 2 (some .boolean)) rmX10_isSet (va_Pc [.ref (gA g 87), .int x1] (XPre g σ)) (XQ g (some (.int (bI o))) σ) 0 0 (cA g) :=
  X_met RX10 hi plX10 rfl (Nat.le_of_ble_eq_true rfl) rfl (fun _ _ _ h hg hL hr => w_X10_isSet σ x1 o h hg hL hr hf)
abbrev rmX10_isCoalition : Room := { frames := 1, cells := 0, slots := 0, locals := 22 }
theorem hdX10_isCoalition : yX10_isCoalition.cls = RX10 ∧ yX10_isCoalition.cls ≠ "java/lang/invoke/MethodHandle" ∧ yX10_isCoalition.cls ≠ "java/lang/invoke/VarHandle" ∧ (parseMethodDescriptor yX10_isCoalition.desc).map (fun d => d.parameters.length) = some 1 := by decide +kernel
def m_X10_isCoalition (σ : St) (x1 : Int32) : Bool :=
  (m_X10_in x1 0 (((1 : Int32) <<< ((σ 87 0) &&& 31)) - 1))
set_option maxHeartbeats 4000000 in
set_option maxRecDepth 100000 in
theorem w_X10_isCoalition {C : XC} {Q : State → Prop} {g : cG} (σ : St) (x1 : Int32) (o : Bool) (h : XOk C cX10_isCoalition RX10 tG rmX10_isCoalition) (hg : XG C g) (hL : C.2.2.2.2.2.2.2.2.2.2.2.2.1 = 2) (hr : XEnd C (some .boolean) Q (XQ g (some (.int (bI o))) σ) (cA g)) (hf : m_X10_isCoalition σ x1 = o) : Xs C (wW g) Q σ 0 [(0, .ref (gA g 87)), (1, .int x1)] [] := by
  unfold m_X10_isCoalition at hf
  refine x_iload_n h dX10_isCoalition_0 rfl 1 rfl (q := 1) rfl ?_
  refine x_iconst (v := 0) h dX10_isCoalition_1 (by decide) (q := 2) rfl ?_
  refine x_iconst (v := 1) h dX10_isCoalition_2 (by decide) (q := 3) rfl ?_
  refine x_aload_n h dX10_isCoalition_3 rfl 0 rfl (q := 4) rfl ?_
  refine x_get_X10_87_0 h hg kf_X10_82 nn_X10 dX10_isCoalition_4 ?_
  refine x_ishl h dX10_isCoalition_7 (q := 8) rfl ?_
  refine x_iconst (v := 1) h dX10_isCoalition_8 (by decide) (q := 9) rfl ?_
  refine x_isub h dX10_isCoalition_9 (q := 10) rfl ?_
  refine x_callPi (As := [.int x1, .int 0, .int (((1 : Int32) <<< ((σ 87 0) &&& 31)) - 1)]) (rest := []) h (c_X10_in C.2.1 x1 0 (((1 : Int32) <<< ((σ 87 0) &&& 31)) - 1) _ rfl) ml_X10_93 biX10_in rfl rfl hdX10_in ⟨Nat.le_of_ble_eq_true rfl, Nat.le_of_ble_eq_true rfl⟩ rfl rfl (Nat.le_of_ble_eq_true rfl) dX10_isCoalition_10 ?_
  subst hf
  exact x_zret (b := (m_X10_in x1 0 (((1 : Int32) <<< ((σ 87 0) &&& 31)) - 1))) h hg hr dX10_isCoalition_13
theorem c_X10_isCoalition (l : Launch) {g : cG} (hi : gInj g) (σ : St) (x1 : Int32) (o : Bool) (hf : m_X10_isCoalition σ x1 = o) : Met l yX10_isCoalition (wT yX10_isCoalition cX10_isCoalition 2 (some .boolean)) rmX10_isCoalition (va_Pc [.ref (gA g 87), .int x1] (XPre g σ)) (XQ g (some (.int (bI o))) σ) 0 0 (cA g) :=
  X_met RX10 hi plX10 rfl (Nat.le_of_ble_eq_true rfl) rfl (fun _ _ _ h hg hL hr => w_X10_isCoalition σ x1 o h hg hL hr hf)
abbrev rmX10_power : Room := { frames := 0, cells := 0, slots := 0, locals := 0 }
theorem hdX10_power : yX10_power.cls ≠ "java/lang/invoke/MethodHandle" ∧ yX10_power.cls ≠ "java/lang/invoke/VarHandle" ∧ (parseMethodDescriptor yX10_power.desc).map (fun d => d.parameters.length) = some 1 := by decide +kernel
def m_X10_power (x0 : Int32) : Int32 :=
  if x0 = 0 then (
    1
  ) else (
    if x0 = 1 then (
      3
    ) else (
      if x0 = 2 then (
        9
      ) else (
        27
      )
    )
  )
set_option maxHeartbeats 4000000 in
set_option maxRecDepth 100000 in
theorem w_X10_power {C : XC} {Q : State → Prop} {H0 : Heap} {σ : St} (x0 : Int32) (o : Int32) (h : XOk C cX10_power RX10 tG rmX10_power) (hH : H0 = C.2.2.2.2.1.heap) (hL : C.2.2.2.2.2.2.2.2.2.2.2.2.1 = 1) (hr : XEnd C (some .int) Q (XQp (some (.int o))) (fun _ => False)) (hf : m_X10_power x0 = o) : Xs C (fun _ H => H = H0) Q σ 0 [(0, .int x0)] [] := by
  unfold m_X10_power at hf
  refine x_iload_n h dX10_power_0 rfl 0 rfl (q := 1) rfl ?_
  refine x_if_ne (tgt := 8) h dX10_power_1 (by decide) (q := 4) rfl hf (fun hc1 hf2 => ?_) (fun hc1 hf2 => ?_)
  · skip
    refine x_iload_n h dX10_power_8 rfl 0 rfl (q := 9) rfl ?_
    refine x_iconst (v := 1) h dX10_power_9 (by decide) (q := 10) rfl ?_
    refine x_icmp_ne (tgt := 17) h dX10_power_10 (by decide) (q := 13) rfl hf2 (fun hc3 hf4 => ?_) (fun hc3 hf4 => ?_)
    · skip
      refine x_iload_n h dX10_power_17 rfl 0 rfl (q := 18) rfl ?_
      refine x_iconst (v := 2) h dX10_power_18 (by decide) (q := 19) rfl ?_
      refine x_icmp_ne (tgt := 27) h dX10_power_19 (by decide) (q := 22) rfl hf4 (fun hc5 hf6 => ?_) (fun hc5 hf6 => ?_)
      · skip
        refine x_bipush (v := 27) h dX10_power_27 (by decide) (q := 29) rfl ?_
        subst hf6
        exact x_iretP h hr hH dX10_power_29
      · skip
        refine x_bipush (v := 9) h dX10_power_22 (by decide) (q := 24) rfl ?_
        refine x_goto (q := 29) h dX10_power_24 (by decide) ?_
        subst hf6
        exact x_iretP h hr hH dX10_power_29
    · skip
      refine x_iconst (v := 3) h dX10_power_13 (by decide) (q := 14) rfl ?_
      refine x_goto (q := 29) h dX10_power_14 (by decide) ?_
      subst hf4
      exact x_iretP h hr hH dX10_power_29
  · skip
    refine x_iconst (v := 1) h dX10_power_4 (by decide) (q := 5) rfl ?_
    refine x_goto (q := 29) h dX10_power_5 (by decide) ?_
    subst hf2
    exact x_iretP h hr hH dX10_power_29
theorem c_X10_power (l : Launch) (x0 : Int32) (o : Int32) (hf : m_X10_power x0 = o) : Met l yX10_power (wT yX10_power cX10_power 1 (some .int)) rmX10_power (va_Pc [.int x0] (fun _ => True)) (XQp (some (.int o))) 0 0 (fun _ => False) :=
  X_metP RX10 plX10 rfl (Nat.le_of_ble_eq_true rfl) rfl (fun _ _ _ _ _ h hH hL hr => w_X10_power x0 o h hH hL hr hf)
abbrev rmX10_digit : Room := { frames := 1, cells := 0, slots := 0, locals := 20 }
theorem hdX10_digit : yX10_digit.cls ≠ "java/lang/invoke/MethodHandle" ∧ yX10_digit.cls ≠ "java/lang/invoke/VarHandle" ∧ (parseMethodDescriptor yX10_digit.desc).map (fun d => d.parameters.length) = some 2 := by decide +kernel
def m_X10_digit (x0 : Int32) (x1 : Int32) : Option (Int32) :=
  dvz (m_X10_power x1) <|
  some ((x0 / (m_X10_power x1)) - (x0 / (m_X10_power x1)) / 3 * 3)
set_option maxHeartbeats 4000000 in
set_option maxRecDepth 100000 in
theorem w_X10_digit {C : XC} {Q : State → Prop} {H0 : Heap} {σ : St} (x0 : Int32) (x1 : Int32) (o : Int32) (h : XOk C cX10_digit RX10 tG rmX10_digit) (hH : H0 = C.2.2.2.2.1.heap) (hL : C.2.2.2.2.2.2.2.2.2.2.2.2.1 = 2) (hr : XEnd C (some .int) Q (XQp (some (.int o))) (fun _ => False)) (hf : m_X10_digit x0 x1 = some o) : Xs C (fun _ H => H = H0) Q σ 0 [(0, .int x0), (1, .int x1)] [] := by
  unfold m_X10_digit at hf
  refine x_iload_n h dX10_digit_0 rfl 0 rfl (q := 1) rfl ?_
  refine x_iload_n h dX10_digit_1 rfl 1 rfl (q := 2) rfl ?_
  refine x_callPi (As := [.int x1]) (rest := [.int x0]) h (c_X10_power C.2.1 x1 _ rfl) ml_X10_97 biX10_power rfl rfl hdX10_power ⟨Nat.le_of_ble_eq_true rfl, Nat.le_of_ble_eq_true rfl⟩ rfl rfl (Nat.le_of_ble_eq_true rfl) dX10_digit_2 ?_
  obtain ⟨hd1, hf2⟩ := dvz_inv hf
  refine x_idiv h hd1 dX10_digit_5 (q := 6) rfl ?_
  refine x_iconst (v := 3) h dX10_digit_6 (by decide) (q := 7) rfl ?_
  refine x_irem h (by decide) dX10_digit_7 (q := 8) rfl ?_
  have hz := Option.some.inj hf2
  subst hz
  exact x_iretP h hr hH dX10_digit_8
theorem c_X10_digit (l : Launch) (x0 : Int32) (x1 : Int32) (o : Int32) (hf : m_X10_digit x0 x1 = some o) : Met l yX10_digit (wT yX10_digit cX10_digit 2 (some .int)) rmX10_digit (va_Pc [.int x0, .int x1] (fun _ => True)) (XQp (some (.int o))) 0 0 (fun _ => False) :=
  X_metP RX10 plX10 rfl (Nat.le_of_ble_eq_true rfl) rfl (fun _ _ _ _ _ h hH hL hr => w_X10_digit x0 x1 o h hH hL hr hf)
abbrev rmX10_isMove : Room := { frames := 2, cells := 0, slots := 0, locals := 41 }
theorem hdX10_isMove : yX10_isMove.cls = RX10 ∧ yX10_isMove.cls ≠ "java/lang/invoke/MethodHandle" ∧ yX10_isMove.cls ≠ "java/lang/invoke/VarHandle" ∧ (parseMethodDescriptor yX10_isMove.desc).map (fun d => d.parameters.length) = some 2 := by decide +kernel
def m_X10_isMove_b11 (σ : St) (x1 : Int32) (x2 : Int32) (x3 : Int32) (x4 : Int32) (k11 : (Int32 × Int32) → Option (Bool)) : Option (Bool) :=
  if 4 ≤ x4 then (
    rtB x3 fun b3 =>
    some b3
  ) else (
    if x3 = 0 then (
      rtB x3 fun b7 =>
      some b7
    ) else (
      if (σ 87 0) ≤ x4 then (
        (m_X10_digit x2 x4).bind fun u11 =>
        if u11 = 0 then (
          k11 (1, (x4 + 1))
        ) else (
          k11 (0, (x4 + 1))
        )
      ) else (
        (m_X10_digit x2 x4).bind fun u15 =>
        chk (((100 * x1) + 1) + x4) 1201 <|
        if (σ 88 (Int32.toNatClampNeg (((100 * x1) + 1) + x4))) ≤ u15 then (
          k11 (0, (x4 + 1))
        ) else (
          k11 (1, (x4 + 1))
        )
      )
    )
  )
set_option maxHeartbeats 4000000 in
set_option maxRecDepth 100000 in
theorem w_X10_isMove_b11 {C : XC} {Q : State → Prop} {g : cG} (σ : St) (x1 : Int32) (x2 : Int32) (x3 : Int32) (x4 : Int32) (o : Bool) (h : XOk C cX10_isMove RX10 tG rmX10_isMove) (hg : XG C g) (hL : C.2.2.2.2.2.2.2.2.2.2.2.2.1 = 5) (hr : XEnd C (some .boolean) Q (XQ g (some (.int (bI o))) σ) (cA g)) (k11 : (Int32 × Int32) → Option (Bool)) (hk11 : ∀ z : Int32 × Int32, k11 z = some o → Xs C (wW g) Q σ 11 [(0, .ref (gA g 87)), (1, .int x1), (2, .int x2), (3, .int z.1), (4, .int z.2)] []) (hf : m_X10_isMove_b11 σ x1 x2 x3 x4 k11 = some o) : Xs C (wW g) Q σ 11 [(0, .ref (gA g 87)), (1, .int x1), (2, .int x2), (3, .int x3), (4, .int x4)] [] := by
  unfold m_X10_isMove_b11 at hf
  refine x_iload h dX10_isMove_11 4 rfl (q := 13) rfl ?_
  refine x_iconst (v := 4) h dX10_isMove_13 (by decide) (q := 14) rfl ?_
  refine x_icmp_ge (tgt := 82) h dX10_isMove_14 (by decide) (q := 17) rfl hf (fun hc1 hf2 => ?_) (fun hc1 hf2 => ?_)
  · skip
    refine x_iload_n h dX10_isMove_82 rfl 3 rfl (q := 83) rfl ?_
    obtain ⟨b3, heb3, hf4⟩ := rtB_inv hf2
    rw [heb3]
    have hz := Option.some.inj hf4
    subst hz
    exact x_zret (b := b3) h hg hr dX10_isMove_83
  · skip
    refine x_iload_n h dX10_isMove_17 rfl 3 rfl (q := 18) rfl ?_
    refine x_if_eq (tgt := 82) h dX10_isMove_18 (by decide) (q := 21) rfl hf2 (fun hc5 hf6 => ?_) (fun hc5 hf6 => ?_)
    · skip
      refine x_iload_n h dX10_isMove_82 rfl 3 rfl (q := 83) rfl ?_
      obtain ⟨b7, heb7, hf8⟩ := rtB_inv hf6
      rw [heb7]
      have hz := Option.some.inj hf8
      subst hz
      exact x_zret (b := b7) h hg hr dX10_isMove_83
    · skip
      refine x_iload h dX10_isMove_21 4 rfl (q := 23) rfl ?_
      refine x_aload_n h dX10_isMove_23 rfl 0 rfl (q := 24) rfl ?_
      refine x_get_X10_87_0 h hg kf_X10_82 nn_X10 dX10_isMove_24 ?_
      refine x_icmp_ge (tgt := 61) h dX10_isMove_27 (by decide) (q := 30) rfl hf6 (fun hc9 hf10 => ?_) (fun hc9 hf10 => ?_)
      · skip
        refine x_iload_n h dX10_isMove_61 rfl 2 rfl (q := 62) rfl ?_
        refine x_iload h dX10_isMove_62 4 rfl (q := 64) rfl ?_
        obtain ⟨u11, hu11, hf12⟩ := bnd_inv hf10
        refine x_callPi (As := [.int x2, .int x4]) (rest := []) h (c_X10_digit C.2.1 x2 x4 _ hu11) ml_X10_101 biX10_digit rfl rfl hdX10_digit ⟨Nat.le_of_ble_eq_true rfl, Nat.le_of_ble_eq_true rfl⟩ rfl rfl (Nat.le_of_ble_eq_true rfl) dX10_isMove_64 ?_
        refine x_if_ne (tgt := 74) h dX10_isMove_67 (by decide) (q := 70) rfl hf12 (fun hc13 hf14 => ?_) (fun hc13 hf14 => ?_)
        · skip
          refine x_iconst (v := 0) h dX10_isMove_74 (by decide) (q := 75) rfl ?_
          refine x_istore_n (lv' := [(3, .int 0), (0, .ref (gA g 87)), (1, .int x1), (2, .int x2), (4, .int x4)]) h dX10_isMove_75 rfl hL (by decide) rfl (q := 76) rfl ?_
          refine x_iinc (v := (x4 + 1)) (lv' := [(4, .int (x4 + 1)), (3, .int 0), (0, .ref (gA g 87)), (1, .int x1), (2, .int x2)]) (j := 4) h dX10_isMove_76 rfl rfl hL (by decide) rfl (q := 79) rfl ?_
          refine x_goto (q := 11) h dX10_isMove_79 (by decide) ?_
          refine x_sub (lv' := [(0, .ref (gA g 87)), (1, .int x1), (2, .int x2), (3, .int 0), (4, .int (x4 + 1))]) [2, 3, 4, 1, 0] rfl ?_
          exact hk11 (0, (x4 + 1)) hf14
        · skip
          refine x_iconst (v := 1) h dX10_isMove_70 (by decide) (q := 71) rfl ?_
          refine x_goto (q := 75) h dX10_isMove_71 (by decide) ?_
          refine x_istore_n (lv' := [(3, .int 1), (0, .ref (gA g 87)), (1, .int x1), (2, .int x2), (4, .int x4)]) h dX10_isMove_75 rfl hL (by decide) rfl (q := 76) rfl ?_
          refine x_iinc (v := (x4 + 1)) (lv' := [(4, .int (x4 + 1)), (3, .int 1), (0, .ref (gA g 87)), (1, .int x1), (2, .int x2)]) (j := 4) h dX10_isMove_76 rfl rfl hL (by decide) rfl (q := 79) rfl ?_
          refine x_goto (q := 11) h dX10_isMove_79 (by decide) ?_
          refine x_sub (lv' := [(0, .ref (gA g 87)), (1, .int x1), (2, .int x2), (3, .int 1), (4, .int (x4 + 1))]) [2, 3, 4, 1, 0] rfl ?_
          exact hk11 (1, (x4 + 1)) hf14
      · skip
        refine x_iload_n h dX10_isMove_30 rfl 2 rfl (q := 31) rfl ?_
        refine x_iload h dX10_isMove_31 4 rfl (q := 33) rfl ?_
        obtain ⟨u15, hu15, hf16⟩ := bnd_inv hf10
        refine x_callPi (As := [.int x2, .int x4]) (rest := []) h (c_X10_digit C.2.1 x2 x4 _ hu15) ml_X10_101 biX10_digit rfl rfl hdX10_digit ⟨Nat.le_of_ble_eq_true rfl, Nat.le_of_ble_eq_true rfl⟩ rfl rfl (Nat.le_of_ble_eq_true rfl) dX10_isMove_33 ?_
        refine x_aload_n h dX10_isMove_36 rfl 0 rfl (q := 37) rfl ?_
        refine x_get_X10_87_1 h hg kf_X10_7 nn_X10 dX10_isMove_37 ?_
        refine x_bipush (v := 100) h dX10_isMove_40 (by decide) (q := 42) rfl ?_
        refine x_iload_n h dX10_isMove_42 rfl 1 rfl (q := 43) rfl ?_
        refine x_imul h dX10_isMove_43 (q := 44) rfl ?_
        refine x_iconst (v := 1) h dX10_isMove_44 (by decide) (q := 45) rfl ?_
        refine x_iadd h dX10_isMove_45 (q := 46) rfl ?_
        refine x_iload h dX10_isMove_46 4 rfl (q := 48) rfl ?_
        refine x_iadd h dX10_isMove_48 (q := 49) rfl ?_
        obtain ⟨hi17, hf18⟩ := chk_inv hf16
        refine x_iald (j := (Int32.toNatClampNeg (((100 * x1) + 1) + x4))) h hg a_88 hi17 rfl dX10_isMove_49 (q := 50) rfl ?_
        refine x_icmp_ge (tgt := 57) h dX10_isMove_50 (by decide) (q := 53) rfl hf18 (fun hc19 hf20 => ?_) (fun hc19 hf20 => ?_)
        · skip
          refine x_iconst (v := 0) h dX10_isMove_57 (by decide) (q := 58) rfl ?_
          refine x_goto (q := 75) h dX10_isMove_58 (by decide) ?_
          refine x_istore_n (lv' := [(3, .int 0), (0, .ref (gA g 87)), (1, .int x1), (2, .int x2), (4, .int x4)]) h dX10_isMove_75 rfl hL (by decide) rfl (q := 76) rfl ?_
          refine x_iinc (v := (x4 + 1)) (lv' := [(4, .int (x4 + 1)), (3, .int 0), (0, .ref (gA g 87)), (1, .int x1), (2, .int x2)]) (j := 4) h dX10_isMove_76 rfl rfl hL (by decide) rfl (q := 79) rfl ?_
          refine x_goto (q := 11) h dX10_isMove_79 (by decide) ?_
          refine x_sub (lv' := [(0, .ref (gA g 87)), (1, .int x1), (2, .int x2), (3, .int 0), (4, .int (x4 + 1))]) [2, 3, 4, 1, 0] rfl ?_
          exact hk11 (0, (x4 + 1)) hf20
        · skip
          refine x_iconst (v := 1) h dX10_isMove_53 (by decide) (q := 54) rfl ?_
          refine x_goto (q := 75) h dX10_isMove_54 (by decide) ?_
          refine x_istore_n (lv' := [(3, .int 1), (0, .ref (gA g 87)), (1, .int x1), (2, .int x2), (4, .int x4)]) h dX10_isMove_75 rfl hL (by decide) rfl (q := 76) rfl ?_
          refine x_iinc (v := (x4 + 1)) (lv' := [(4, .int (x4 + 1)), (3, .int 1), (0, .ref (gA g 87)), (1, .int x1), (2, .int x2)]) (j := 4) h dX10_isMove_76 rfl rfl hL (by decide) rfl (q := 79) rfl ?_
          refine x_goto (q := 11) h dX10_isMove_79 (by decide) ?_
          refine x_sub (lv' := [(0, .ref (gA g 87)), (1, .int x1), (2, .int x2), (3, .int 1), (4, .int (x4 + 1))]) [2, 3, 4, 1, 0] rfl ?_
          exact hk11 (1, (x4 + 1)) hf20
set_option maxHeartbeats 4000000 in
set_option maxRecDepth 100000 in
theorem w_X10_isMove_l11 {C : XC} {Q : State → Prop} {g : cG} (σ : St) (x1 : Int32) (x2 : Int32) (o : Bool) (h : XOk C cX10_isMove RX10 tG rmX10_isMove) (hg : XG C g) (hL : C.2.2.2.2.2.2.2.2.2.2.2.2.1 = 5) (hr : XEnd C (some .boolean) Q (XQ g (some (.int (bI o))) σ) (cA g)) : ∀ (n : Nat) (z : Int32 × Int32), loopF (fun k z => m_X10_isMove_b11 σ x1 x2 z.1 z.2 k) n z = some o → Xs C (wW g) Q σ 11 [(0, .ref (gA g 87)), (1, .int x1), (2, .int x2), (3, .int z.1), (4, .int z.2)] [] := by
  intro n z hf
  refine loopF_ind (S := Int32 × Int32) (O := Bool) (step := (fun k z => m_X10_isMove_b11 σ x1 x2 z.1 z.2 k)) (o := o) (P := fun z => Xs C (wW g) Q σ 11 [(0, .ref (gA g 87)), (1, .int x1), (2, .int x2), (3, .int z.1), (4, .int z.2)] []) ?_ n z hf
  intro k hk z hf
  exact w_X10_isMove_b11 σ x1 x2 z.1 z.2 o h hg hL hr k hk hf
def m_X10_isMove (σ : St) (x1 : Int32) (x2 : Int32) : Option (Bool) :=
  loopF (fun k z => m_X10_isMove_b11 σ x1 x2 z.1 z.2 k) cFu ((bI (m_X10_in x2 0 80)), 0)
set_option maxHeartbeats 4000000 in
set_option maxRecDepth 100000 in
theorem w_X10_isMove {C : XC} {Q : State → Prop} {g : cG} (σ : St) (x1 : Int32) (x2 : Int32) (o : Bool) (h : XOk C cX10_isMove RX10 tG rmX10_isMove) (hg : XG C g) (hL : C.2.2.2.2.2.2.2.2.2.2.2.2.1 = 5) (hr : XEnd C (some .boolean) Q (XQ g (some (.int (bI o))) σ) (cA g)) (hf : m_X10_isMove σ x1 x2 = some o) : Xs C (wW g) Q σ 0 [(0, .ref (gA g 87)), (1, .int x1), (2, .int x2)] [] := by
  unfold m_X10_isMove at hf
  refine x_iload_n h dX10_isMove_0 rfl 2 rfl (q := 1) rfl ?_
  refine x_iconst (v := 0) h dX10_isMove_1 (by decide) (q := 2) rfl ?_
  refine x_bipush (v := 80) h dX10_isMove_2 (by decide) (q := 4) rfl ?_
  refine x_callPi (As := [.int x2, .int 0, .int 80]) (rest := []) h (c_X10_in C.2.1 x2 0 80 _ rfl) ml_X10_93 biX10_in rfl rfl hdX10_in ⟨Nat.le_of_ble_eq_true rfl, Nat.le_of_ble_eq_true rfl⟩ rfl rfl (Nat.le_of_ble_eq_true rfl) dX10_isMove_4 ?_
  refine x_istore_n (lv' := [(3, .int (bI (m_X10_in x2 0 80))), (0, .ref (gA g 87)), (1, .int x1), (2, .int x2)]) h dX10_isMove_7 rfl hL (by decide) rfl (q := 8) rfl ?_
  refine x_iconst (v := 0) h dX10_isMove_8 (by decide) (q := 9) rfl ?_
  refine x_istore (lv' := [(4, .int 0), (3, .int (bI (m_X10_in x2 0 80))), (0, .ref (gA g 87)), (1, .int x1), (2, .int x2)]) h dX10_isMove_9 hL (by decide) rfl (q := 11) rfl ?_
  refine x_sub (lv' := [(0, .ref (gA g 87)), (1, .int x1), (2, .int x2), (3, .int (bI (m_X10_in x2 0 80))), (4, .int 0)]) [2, 3, 4, 1, 0] rfl ?_
  exact w_X10_isMove_l11 σ x1 x2 o h hg hL hr  cFu ((bI (m_X10_in x2 0 80)), 0) hf
theorem c_X10_isMove (l : Launch) {g : cG} (hi : gInj g) (σ : St) (x1 : Int32) (x2 : Int32) (o : Bool) (hf : m_X10_isMove σ x1 x2 = some o) : Met l yX10_isMove (wT yX10_isMove cX10_isMove 5 (some .boolean)) rmX10_isMove (va_Pc [.ref (gA g 87), .int x1, .int x2] (XPre g σ)) (XQ g (some (.int (bI o))) σ) 0 0 (cA g) :=
  X_met RX10 hi plX10 rfl (Nat.le_of_ble_eq_true rfl) rfl (fun _ _ _ h hg hL hr => w_X10_isMove σ x1 x2 o h hg hL hr hf)
abbrev rmX10_isJoint : Room := { frames := 3, cells := 0, slots := 0, locals := 65 }
theorem hdX10_isJoint : yX10_isJoint.cls = RX10 ∧ yX10_isJoint.cls ≠ "java/lang/invoke/MethodHandle" ∧ yX10_isJoint.cls ≠ "java/lang/invoke/VarHandle" ∧ (parseMethodDescriptor yX10_isJoint.desc).map (fun d => d.parameters.length) = some 3 := by decide +kernel
def m_X10_isJoint_b11 (σ : St) (x1 : Int32) (x3 : Int32) (x4 : Int32) (x5 : Int32) (k11 : (Int32 × Int32) → Option (Bool)) : Option (Bool) :=
  if (σ 87 0) ≤ x5 then (
    rtB x4 fun b3 =>
    some b3
  ) else (
    if x4 = 0 then (
      rtB x4 fun b7 =>
      some b7
    ) else (
      if ((x1 >>> (x5 &&& 31)) &&& 1) = 1 then (
        k11 (1, (x5 + 1))
      ) else (
        (m_X10_digit x3 x5).bind fun u11 =>
        if u11 = 0 then (
          k11 (1, (x5 + 1))
        ) else (
          k11 (0, (x5 + 1))
        )
      )
    )
  )
set_option maxHeartbeats 4000000 in
set_option maxRecDepth 100000 in
theorem w_X10_isJoint_b11 {C : XC} {Q : State → Prop} {g : cG} (σ : St) (x1 : Int32) (x3 : Int32) (x4 : Int32) (x5 : Int32) (o : Bool) (h : XOk C cX10_isJoint RX10 tG rmX10_isJoint) (hg : XG C g) (hL : C.2.2.2.2.2.2.2.2.2.2.2.2.1 = 6) (hr : XEnd C (some .boolean) Q (XQ g (some (.int (bI o))) σ) (cA g)) (k11 : (Int32 × Int32) → Option (Bool)) (hk11 : ∀ z : Int32 × Int32, k11 z = some o → Xs C (wW g) Q σ 11 [(0, .ref (gA g 87)), (1, .int x1), (3, .int x3), (4, .int z.1), (5, .int z.2)] []) (hf : m_X10_isJoint_b11 σ x1 x3 x4 x5 k11 = some o) : Xs C (wW g) Q σ 11 [(0, .ref (gA g 87)), (1, .int x1), (3, .int x3), (4, .int x4), (5, .int x5)] [] := by
  unfold m_X10_isJoint_b11 at hf
  refine x_iload h dX10_isJoint_11 4 rfl (q := 13) rfl ?_
  refine x_aload_n h dX10_isJoint_13 rfl 0 rfl (q := 14) rfl ?_
  refine x_get_X10_87_0 h hg kf_X10_82 nn_X10 dX10_isJoint_14 ?_
  refine x_icmp_ge (tgt := 57) h dX10_isJoint_17 (by decide) (q := 20) rfl hf (fun hc1 hf2 => ?_) (fun hc1 hf2 => ?_)
  · skip
    refine x_iload h dX10_isJoint_57 3 rfl (q := 59) rfl ?_
    obtain ⟨b3, heb3, hf4⟩ := rtB_inv hf2
    rw [heb3]
    have hz := Option.some.inj hf4
    subst hz
    exact x_zret (b := b3) h hg hr dX10_isJoint_59
  · skip
    refine x_iload h dX10_isJoint_20 3 rfl (q := 22) rfl ?_
    refine x_if_eq (tgt := 57) h dX10_isJoint_22 (by decide) (q := 25) rfl hf2 (fun hc5 hf6 => ?_) (fun hc5 hf6 => ?_)
    · skip
      refine x_iload h dX10_isJoint_57 3 rfl (q := 59) rfl ?_
      obtain ⟨b7, heb7, hf8⟩ := rtB_inv hf6
      rw [heb7]
      have hz := Option.some.inj hf8
      subst hz
      exact x_zret (b := b7) h hg hr dX10_isJoint_59
    · skip
      refine x_iload_n h dX10_isJoint_25 rfl 1 rfl (q := 26) rfl ?_
      refine x_iload h dX10_isJoint_26 4 rfl (q := 28) rfl ?_
      refine x_ishr h dX10_isJoint_28 (q := 29) rfl ?_
      refine x_iconst (v := 1) h dX10_isJoint_29 (by decide) (q := 30) rfl ?_
      refine x_iand h dX10_isJoint_30 (q := 31) rfl ?_
      refine x_iconst (v := 1) h dX10_isJoint_31 (by decide) (q := 32) rfl ?_
      refine x_icmp_eq (tgt := 44) h dX10_isJoint_32 (by decide) (q := 35) rfl hf6 (fun hc9 hf10 => ?_) (fun hc9 hf10 => ?_)
      · skip
        refine x_iconst (v := 1) h dX10_isJoint_44 (by decide) (q := 45) rfl ?_
        refine x_goto (q := 49) h dX10_isJoint_45 (by decide) ?_
        refine x_istore (lv' := [(4, .int 1), (0, .ref (gA g 87)), (1, .int x1), (3, .int x3), (5, .int x5)]) h dX10_isJoint_49 hL (by decide) rfl (q := 51) rfl ?_
        refine x_iinc (v := (x5 + 1)) (lv' := [(5, .int (x5 + 1)), (4, .int 1), (0, .ref (gA g 87)), (1, .int x1), (3, .int x3)]) (j := 4) h dX10_isJoint_51 rfl rfl hL (by decide) rfl (q := 54) rfl ?_
        refine x_goto (q := 11) h dX10_isJoint_54 (by decide) ?_
        refine x_sub (lv' := [(0, .ref (gA g 87)), (1, .int x1), (3, .int x3), (4, .int 1), (5, .int (x5 + 1))]) [2, 3, 4, 1, 0] rfl ?_
        exact hk11 (1, (x5 + 1)) hf10
      · skip
        refine x_iload_n h dX10_isJoint_35 rfl 2 rfl (q := 36) rfl ?_
        refine x_iload h dX10_isJoint_36 4 rfl (q := 38) rfl ?_
        obtain ⟨u11, hu11, hf12⟩ := bnd_inv hf10
        refine x_callPi (As := [.int x3, .int x5]) (rest := []) h (c_X10_digit C.2.1 x3 x5 _ hu11) ml_X10_101 biX10_digit rfl rfl hdX10_digit ⟨Nat.le_of_ble_eq_true rfl, Nat.le_of_ble_eq_true rfl⟩ rfl rfl (Nat.le_of_ble_eq_true rfl) dX10_isJoint_38 ?_
        refine x_if_ne (tgt := 48) h dX10_isJoint_41 (by decide) (q := 44) rfl hf12 (fun hc13 hf14 => ?_) (fun hc13 hf14 => ?_)
        · skip
          refine x_iconst (v := 0) h dX10_isJoint_48 (by decide) (q := 49) rfl ?_
          refine x_istore (lv' := [(4, .int 0), (0, .ref (gA g 87)), (1, .int x1), (3, .int x3), (5, .int x5)]) h dX10_isJoint_49 hL (by decide) rfl (q := 51) rfl ?_
          refine x_iinc (v := (x5 + 1)) (lv' := [(5, .int (x5 + 1)), (4, .int 0), (0, .ref (gA g 87)), (1, .int x1), (3, .int x3)]) (j := 4) h dX10_isJoint_51 rfl rfl hL (by decide) rfl (q := 54) rfl ?_
          refine x_goto (q := 11) h dX10_isJoint_54 (by decide) ?_
          refine x_sub (lv' := [(0, .ref (gA g 87)), (1, .int x1), (3, .int x3), (4, .int 0), (5, .int (x5 + 1))]) [2, 3, 4, 1, 0] rfl ?_
          exact hk11 (0, (x5 + 1)) hf14
        · skip
          refine x_iconst (v := 1) h dX10_isJoint_44 (by decide) (q := 45) rfl ?_
          refine x_goto (q := 49) h dX10_isJoint_45 (by decide) ?_
          refine x_istore (lv' := [(4, .int 1), (0, .ref (gA g 87)), (1, .int x1), (3, .int x3), (5, .int x5)]) h dX10_isJoint_49 hL (by decide) rfl (q := 51) rfl ?_
          refine x_iinc (v := (x5 + 1)) (lv' := [(5, .int (x5 + 1)), (4, .int 1), (0, .ref (gA g 87)), (1, .int x1), (3, .int x3)]) (j := 4) h dX10_isJoint_51 rfl rfl hL (by decide) rfl (q := 54) rfl ?_
          refine x_goto (q := 11) h dX10_isJoint_54 (by decide) ?_
          refine x_sub (lv' := [(0, .ref (gA g 87)), (1, .int x1), (3, .int x3), (4, .int 1), (5, .int (x5 + 1))]) [2, 3, 4, 1, 0] rfl ?_
          exact hk11 (1, (x5 + 1)) hf14
set_option maxHeartbeats 4000000 in
set_option maxRecDepth 100000 in
theorem w_X10_isJoint_l11 {C : XC} {Q : State → Prop} {g : cG} (σ : St) (x1 : Int32) (x3 : Int32) (o : Bool) (h : XOk C cX10_isJoint RX10 tG rmX10_isJoint) (hg : XG C g) (hL : C.2.2.2.2.2.2.2.2.2.2.2.2.1 = 6) (hr : XEnd C (some .boolean) Q (XQ g (some (.int (bI o))) σ) (cA g)) : ∀ (n : Nat) (z : Int32 × Int32), loopF (fun k z => m_X10_isJoint_b11 σ x1 x3 z.1 z.2 k) n z = some o → Xs C (wW g) Q σ 11 [(0, .ref (gA g 87)), (1, .int x1), (3, .int x3), (4, .int z.1), (5, .int z.2)] [] := by
  intro n z hf
  refine loopF_ind (S := Int32 × Int32) (O := Bool) (step := (fun k z => m_X10_isJoint_b11 σ x1 x3 z.1 z.2 k)) (o := o) (P := fun z => Xs C (wW g) Q σ 11 [(0, .ref (gA g 87)), (1, .int x1), (3, .int x3), (4, .int z.1), (5, .int z.2)] []) ?_ n z hf
  intro k hk z hf
  exact w_X10_isJoint_b11 σ x1 x3 z.1 z.2 o h hg hL hr k hk hf
def m_X10_isJoint (σ : St) (x1 : Int32) (x2 : Int32) (x3 : Int32) : Option (Bool) :=
  (m_X10_isMove σ x2 x3).bind fun u1 =>
  loopF (fun k z => m_X10_isJoint_b11 σ x1 x3 z.1 z.2 k) cFu ((bI u1), 0)
set_option maxHeartbeats 4000000 in
set_option maxRecDepth 100000 in
theorem w_X10_isJoint {C : XC} {Q : State → Prop} {g : cG} (σ : St) (x1 : Int32) (x2 : Int32) (x3 : Int32) (o : Bool) (h : XOk C cX10_isJoint RX10 tG rmX10_isJoint) (hg : XG C g) (hL : C.2.2.2.2.2.2.2.2.2.2.2.2.1 = 6) (hr : XEnd C (some .boolean) Q (XQ g (some (.int (bI o))) σ) (cA g)) (hf : m_X10_isJoint σ x1 x2 x3 = some o) : Xs C (wW g) Q σ 0 [(0, .ref (gA g 87)), (1, .int x1), (2, .int x2), (3, .int x3)] [] := by
  unfold m_X10_isJoint at hf
  refine x_aload_n h dX10_isJoint_0 rfl 0 rfl (q := 1) rfl ?_
  refine x_iload_n h dX10_isJoint_1 rfl 2 rfl (q := 2) rfl ?_
  refine x_iload_n h dX10_isJoint_2 rfl 3 rfl (q := 3) rfl ?_
  obtain ⟨u1, hu1, hf2⟩ := bnd_inv hf
  refine x_callVi (As := [.int x2, .int x3]) (rest := []) h hg (c_X10_isMove C.2.1 hg.2.1 σ x2 x3 _ hu1) ml_X10_105 biX10_isMove rfl rfl hdX10_isMove ⟨Nat.le_of_ble_eq_true rfl, Nat.le_of_ble_eq_true rfl⟩ (by decide) (cE_87 g _) rfl rfl rfl (Nat.le_of_ble_eq_true rfl) dX10_isJoint_3 ?_
  refine x_istore (lv' := [(4, .int (bI u1)), (0, .ref (gA g 87)), (1, .int x1), (2, .int x2), (3, .int x3)]) h dX10_isJoint_6 hL (by decide) rfl (q := 8) rfl ?_
  refine x_iconst (v := 0) h dX10_isJoint_8 (by decide) (q := 9) rfl ?_
  refine x_istore (lv' := [(5, .int 0), (4, .int (bI u1)), (0, .ref (gA g 87)), (1, .int x1), (2, .int x2), (3, .int x3)]) h dX10_isJoint_9 hL (by decide) rfl (q := 11) rfl ?_
  refine x_sub (lv' := [(0, .ref (gA g 87)), (1, .int x1), (3, .int x3), (4, .int (bI u1)), (5, .int 0)]) [2, 3, 5, 1, 0] rfl ?_
  exact w_X10_isJoint_l11 σ x1 x3 o h hg hL hr  cFu ((bI u1), 0) hf2
theorem c_X10_isJoint (l : Launch) {g : cG} (hi : gInj g) (σ : St) (x1 : Int32) (x2 : Int32) (x3 : Int32) (o : Bool) (hf : m_X10_isJoint σ x1 x2 x3 = some o) : Met l yX10_isJoint (wT yX10_isJoint cX10_isJoint 6 (some .boolean)) rmX10_isJoint (va_Pc [.ref (gA g 87), .int x1, .int x2, .int x3] (XPre g σ)) (XQ g (some (.int (bI o))) σ) 0 0 (cA g) :=
  X_met RX10 hi plX10 rfl (Nat.le_of_ble_eq_true rfl) rfl (fun _ _ _ h hg hL hr => w_X10_isJoint σ x1 x2 x3 o h hg hL hr hf)
abbrev rmX10_areAlikeFor : Room := { frames := 2, cells := 0, slots := 0, locals := 41 }
theorem hdX10_areAlikeFor : yX10_areAlikeFor.cls = RX10 ∧ yX10_areAlikeFor.cls ≠ "java/lang/invoke/MethodHandle" ∧ yX10_areAlikeFor.cls ≠ "java/lang/invoke/VarHandle" ∧ (parseMethodDescriptor yX10_areAlikeFor.desc).map (fun d => d.parameters.length) = some 3 := by decide +kernel
def m_X10_areAlikeFor_b6 (σ : St) (x1 : Int32) (x2 : Int32) (x3 : Int32) (x4 : Int32) (x5 : Int32) (k6 : (Int32 × Int32) → Option (Bool)) : Option (Bool) :=
  if (σ 87 0) ≤ x5 then (
    rtB x4 fun b3 =>
    some b3
  ) else (
    if x4 = 0 then (
      k6 (0, (x5 + 1))
    ) else (
      if ((x1 >>> (x5 &&& 31)) &&& 1) = 0 then (
        k6 (1, (x5 + 1))
      ) else (
        (m_X10_digit x2 x5).bind fun u9 =>
        (m_X10_digit x3 x5).bind fun u11 =>
        if u9 = u11 then (
          k6 (1, (x5 + 1))
        ) else (
          k6 (0, (x5 + 1))
        )
      )
    )
  )
set_option maxHeartbeats 4000000 in
set_option maxRecDepth 100000 in
theorem w_X10_areAlikeFor_b6 {C : XC} {Q : State → Prop} {g : cG} (σ : St) (x1 : Int32) (x2 : Int32) (x3 : Int32) (x4 : Int32) (x5 : Int32) (o : Bool) (h : XOk C cX10_areAlikeFor RX10 tG rmX10_areAlikeFor) (hg : XG C g) (hL : C.2.2.2.2.2.2.2.2.2.2.2.2.1 = 6) (hr : XEnd C (some .boolean) Q (XQ g (some (.int (bI o))) σ) (cA g)) (k6 : (Int32 × Int32) → Option (Bool)) (hk6 : ∀ z : Int32 × Int32, k6 z = some o → Xs C (wW g) Q σ 6 [(0, .ref (gA g 87)), (1, .int x1), (2, .int x2), (3, .int x3), (4, .int z.1), (5, .int z.2)] []) (hf : m_X10_areAlikeFor_b6 σ x1 x2 x3 x4 x5 k6 = some o) : Xs C (wW g) Q σ 6 [(0, .ref (gA g 87)), (1, .int x1), (2, .int x2), (3, .int x3), (4, .int x4), (5, .int x5)] [] := by
  unfold m_X10_areAlikeFor_b6 at hf
  refine x_iload h dX10_areAlikeFor_6 5 rfl (q := 8) rfl ?_
  refine x_aload_n h dX10_areAlikeFor_8 rfl 0 rfl (q := 9) rfl ?_
  refine x_get_X10_87_0 h hg kf_X10_82 nn_X10 dX10_areAlikeFor_9 ?_
  refine x_icmp_ge (tgt := 57) h dX10_areAlikeFor_12 (by decide) (q := 15) rfl hf (fun hc1 hf2 => ?_) (fun hc1 hf2 => ?_)
  · skip
    refine x_iload h dX10_areAlikeFor_57 4 rfl (q := 59) rfl ?_
    obtain ⟨b3, heb3, hf4⟩ := rtB_inv hf2
    rw [heb3]
    have hz := Option.some.inj hf4
    subst hz
    exact x_zret (b := b3) h hg hr dX10_areAlikeFor_59
  · skip
    refine x_iload h dX10_areAlikeFor_15 4 rfl (q := 17) rfl ?_
    refine x_if_eq (tgt := 48) h dX10_areAlikeFor_17 (by decide) (q := 20) rfl hf2 (fun hc5 hf6 => ?_) (fun hc5 hf6 => ?_)
    · skip
      refine x_iconst (v := 0) h dX10_areAlikeFor_48 (by decide) (q := 49) rfl ?_
      refine x_istore (lv' := [(4, .int 0), (0, .ref (gA g 87)), (1, .int x1), (2, .int x2), (3, .int x3), (5, .int x5)]) h dX10_areAlikeFor_49 hL (by decide) rfl (q := 51) rfl ?_
      refine x_iinc (v := (x5 + 1)) (lv' := [(5, .int (x5 + 1)), (4, .int 0), (0, .ref (gA g 87)), (1, .int x1), (2, .int x2), (3, .int x3)]) (j := 5) h dX10_areAlikeFor_51 rfl rfl hL (by decide) rfl (q := 54) rfl ?_
      refine x_goto (q := 6) h dX10_areAlikeFor_54 (by decide) ?_
      refine x_sub (lv' := [(0, .ref (gA g 87)), (1, .int x1), (2, .int x2), (3, .int x3), (4, .int 0), (5, .int (x5 + 1))]) [2, 3, 4, 5, 1, 0] rfl ?_
      exact hk6 (0, (x5 + 1)) hf6
    · skip
      refine x_iload_n h dX10_areAlikeFor_20 rfl 1 rfl (q := 21) rfl ?_
      refine x_iload h dX10_areAlikeFor_21 5 rfl (q := 23) rfl ?_
      refine x_ishr h dX10_areAlikeFor_23 (q := 24) rfl ?_
      refine x_iconst (v := 1) h dX10_areAlikeFor_24 (by decide) (q := 25) rfl ?_
      refine x_iand h dX10_areAlikeFor_25 (q := 26) rfl ?_
      refine x_if_eq (tgt := 44) h dX10_areAlikeFor_26 (by decide) (q := 29) rfl hf6 (fun hc7 hf8 => ?_) (fun hc7 hf8 => ?_)
      · skip
        refine x_iconst (v := 1) h dX10_areAlikeFor_44 (by decide) (q := 45) rfl ?_
        refine x_goto (q := 49) h dX10_areAlikeFor_45 (by decide) ?_
        refine x_istore (lv' := [(4, .int 1), (0, .ref (gA g 87)), (1, .int x1), (2, .int x2), (3, .int x3), (5, .int x5)]) h dX10_areAlikeFor_49 hL (by decide) rfl (q := 51) rfl ?_
        refine x_iinc (v := (x5 + 1)) (lv' := [(5, .int (x5 + 1)), (4, .int 1), (0, .ref (gA g 87)), (1, .int x1), (2, .int x2), (3, .int x3)]) (j := 5) h dX10_areAlikeFor_51 rfl rfl hL (by decide) rfl (q := 54) rfl ?_
        refine x_goto (q := 6) h dX10_areAlikeFor_54 (by decide) ?_
        refine x_sub (lv' := [(0, .ref (gA g 87)), (1, .int x1), (2, .int x2), (3, .int x3), (4, .int 1), (5, .int (x5 + 1))]) [2, 3, 4, 5, 1, 0] rfl ?_
        exact hk6 (1, (x5 + 1)) hf8
      · skip
        refine x_iload_n h dX10_areAlikeFor_29 rfl 2 rfl (q := 30) rfl ?_
        refine x_iload h dX10_areAlikeFor_30 5 rfl (q := 32) rfl ?_
        obtain ⟨u9, hu9, hf10⟩ := bnd_inv hf8
        refine x_callPi (As := [.int x2, .int x5]) (rest := []) h (c_X10_digit C.2.1 x2 x5 _ hu9) ml_X10_101 biX10_digit rfl rfl hdX10_digit ⟨Nat.le_of_ble_eq_true rfl, Nat.le_of_ble_eq_true rfl⟩ rfl rfl (Nat.le_of_ble_eq_true rfl) dX10_areAlikeFor_32 ?_
        refine x_iload_n h dX10_areAlikeFor_35 rfl 3 rfl (q := 36) rfl ?_
        refine x_iload h dX10_areAlikeFor_36 5 rfl (q := 38) rfl ?_
        obtain ⟨u11, hu11, hf12⟩ := bnd_inv hf10
        refine x_callPi (As := [.int x3, .int x5]) (rest := [.int u9]) h (c_X10_digit C.2.1 x3 x5 _ hu11) ml_X10_101 biX10_digit rfl rfl hdX10_digit ⟨Nat.le_of_ble_eq_true rfl, Nat.le_of_ble_eq_true rfl⟩ rfl rfl (Nat.le_of_ble_eq_true rfl) dX10_areAlikeFor_38 ?_
        refine x_icmp_ne (tgt := 48) h dX10_areAlikeFor_41 (by decide) (q := 44) rfl hf12 (fun hc13 hf14 => ?_) (fun hc13 hf14 => ?_)
        · skip
          refine x_iconst (v := 0) h dX10_areAlikeFor_48 (by decide) (q := 49) rfl ?_
          refine x_istore (lv' := [(4, .int 0), (0, .ref (gA g 87)), (1, .int x1), (2, .int x2), (3, .int x3), (5, .int x5)]) h dX10_areAlikeFor_49 hL (by decide) rfl (q := 51) rfl ?_
          refine x_iinc (v := (x5 + 1)) (lv' := [(5, .int (x5 + 1)), (4, .int 0), (0, .ref (gA g 87)), (1, .int x1), (2, .int x2), (3, .int x3)]) (j := 5) h dX10_areAlikeFor_51 rfl rfl hL (by decide) rfl (q := 54) rfl ?_
          refine x_goto (q := 6) h dX10_areAlikeFor_54 (by decide) ?_
          refine x_sub (lv' := [(0, .ref (gA g 87)), (1, .int x1), (2, .int x2), (3, .int x3), (4, .int 0), (5, .int (x5 + 1))]) [2, 3, 4, 5, 1, 0] rfl ?_
          exact hk6 (0, (x5 + 1)) hf14
        · skip
          refine x_iconst (v := 1) h dX10_areAlikeFor_44 (by decide) (q := 45) rfl ?_
          refine x_goto (q := 49) h dX10_areAlikeFor_45 (by decide) ?_
          refine x_istore (lv' := [(4, .int 1), (0, .ref (gA g 87)), (1, .int x1), (2, .int x2), (3, .int x3), (5, .int x5)]) h dX10_areAlikeFor_49 hL (by decide) rfl (q := 51) rfl ?_
          refine x_iinc (v := (x5 + 1)) (lv' := [(5, .int (x5 + 1)), (4, .int 1), (0, .ref (gA g 87)), (1, .int x1), (2, .int x2), (3, .int x3)]) (j := 5) h dX10_areAlikeFor_51 rfl rfl hL (by decide) rfl (q := 54) rfl ?_
          refine x_goto (q := 6) h dX10_areAlikeFor_54 (by decide) ?_
          refine x_sub (lv' := [(0, .ref (gA g 87)), (1, .int x1), (2, .int x2), (3, .int x3), (4, .int 1), (5, .int (x5 + 1))]) [2, 3, 4, 5, 1, 0] rfl ?_
          exact hk6 (1, (x5 + 1)) hf14
set_option maxHeartbeats 4000000 in
set_option maxRecDepth 100000 in
theorem w_X10_areAlikeFor_l6 {C : XC} {Q : State → Prop} {g : cG} (σ : St) (x1 : Int32) (x2 : Int32) (x3 : Int32) (o : Bool) (h : XOk C cX10_areAlikeFor RX10 tG rmX10_areAlikeFor) (hg : XG C g) (hL : C.2.2.2.2.2.2.2.2.2.2.2.2.1 = 6) (hr : XEnd C (some .boolean) Q (XQ g (some (.int (bI o))) σ) (cA g)) : ∀ (n : Nat) (z : Int32 × Int32), loopF (fun k z => m_X10_areAlikeFor_b6 σ x1 x2 x3 z.1 z.2 k) n z = some o → Xs C (wW g) Q σ 6 [(0, .ref (gA g 87)), (1, .int x1), (2, .int x2), (3, .int x3), (4, .int z.1), (5, .int z.2)] [] := by
  intro n z hf
  refine loopF_ind (S := Int32 × Int32) (O := Bool) (step := (fun k z => m_X10_areAlikeFor_b6 σ x1 x2 x3 z.1 z.2 k)) (o := o) (P := fun z => Xs C (wW g) Q σ 6 [(0, .ref (gA g 87)), (1, .int x1), (2, .int x2), (3, .int x3), (4, .int z.1), (5, .int z.2)] []) ?_ n z hf
  intro k hk z hf
  exact w_X10_areAlikeFor_b6 σ x1 x2 x3 z.1 z.2 o h hg hL hr k hk hf
def m_X10_areAlikeFor (σ : St) (x1 : Int32) (x2 : Int32) (x3 : Int32) : Option (Bool) :=
  loopF (fun k z => m_X10_areAlikeFor_b6 σ x1 x2 x3 z.1 z.2 k) cFu (1, 0)
set_option maxHeartbeats 4000000 in
set_option maxRecDepth 100000 in
theorem w_X10_areAlikeFor {C : XC} {Q : State → Prop} {g : cG} (σ : St) (x1 : Int32) (x2 : Int32) (x3 : Int32) (o : Bool) (h : XOk C cX10_areAlikeFor RX10 tG rmX10_areAlikeFor) (hg : XG C g) (hL : C.2.2.2.2.2.2.2.2.2.2.2.2.1 = 6) (hr : XEnd C (some .boolean) Q (XQ g (some (.int (bI o))) σ) (cA g)) (hf : m_X10_areAlikeFor σ x1 x2 x3 = some o) : Xs C (wW g) Q σ 0 [(0, .ref (gA g 87)), (1, .int x1), (2, .int x2), (3, .int x3)] [] := by
  unfold m_X10_areAlikeFor at hf
  refine x_iconst (v := 1) h dX10_areAlikeFor_0 (by decide) (q := 1) rfl ?_
  refine x_istore (lv' := [(4, .int 1), (0, .ref (gA g 87)), (1, .int x1), (2, .int x2), (3, .int x3)]) h dX10_areAlikeFor_1 hL (by decide) rfl (q := 3) rfl ?_
  refine x_iconst (v := 0) h dX10_areAlikeFor_3 (by decide) (q := 4) rfl ?_
  refine x_istore (lv' := [(5, .int 0), (4, .int 1), (0, .ref (gA g 87)), (1, .int x1), (2, .int x2), (3, .int x3)]) h dX10_areAlikeFor_4 hL (by decide) rfl (q := 6) rfl ?_
  refine x_sub (lv' := [(0, .ref (gA g 87)), (1, .int x1), (2, .int x2), (3, .int x3), (4, .int 1), (5, .int 0)]) [2, 3, 4, 5, 1, 0] rfl ?_
  exact w_X10_areAlikeFor_l6 σ x1 x2 x3 o h hg hL hr  cFu (1, 0) hf
theorem c_X10_areAlikeFor (l : Launch) {g : cG} (hi : gInj g) (σ : St) (x1 : Int32) (x2 : Int32) (x3 : Int32) (o : Bool) (hf : m_X10_areAlikeFor σ x1 x2 x3 = some o) : Met l yX10_areAlikeFor (wT yX10_areAlikeFor cX10_areAlikeFor 6 (some .boolean)) rmX10_areAlikeFor (va_Pc [.ref (gA g 87), .int x1, .int x2, .int x3] (XPre g σ)) (XQ g (some (.int (bI o))) σ) 0 0 (cA g) :=
  X_met RX10 hi plX10 rfl (Nat.le_of_ble_eq_true rfl) rfl (fun _ _ _ h hg hL hr => w_X10_areAlikeFor σ x1 x2 x3 o h hg hL hr hf)
abbrev rmX10_rawAt : Room := { frames := 0, cells := 0, slots := 0, locals := 0 }
theorem hdX10_rawAt : yX10_rawAt.cls ≠ "java/lang/invoke/MethodHandle" ∧ yX10_rawAt.cls ≠ "java/lang/invoke/VarHandle" ∧ (parseMethodDescriptor yX10_rawAt.desc).map (fun d => d.parameters.length) = some 3 := by decide +kernel
def m_X10_rawAt (x0 : Int32) (x1 : Int32) (x2 : Int32) : Int32 :=
  ((81 * ((16 * x1) + x0)) + x2)
set_option maxHeartbeats 4000000 in
set_option maxRecDepth 100000 in
theorem w_X10_rawAt {C : XC} {Q : State → Prop} {H0 : Heap} {σ : St} (x0 : Int32) (x1 : Int32) (x2 : Int32) (o : Int32) (h : XOk C cX10_rawAt RX10 tG rmX10_rawAt) (hH : H0 = C.2.2.2.2.1.heap) (hL : C.2.2.2.2.2.2.2.2.2.2.2.2.1 = 3) (hr : XEnd C (some .int) Q (XQp (some (.int o))) (fun _ => False)) (hf : m_X10_rawAt x0 x1 x2 = o) : Xs C (fun _ H => H = H0) Q σ 0 [(0, .int x0), (1, .int x1), (2, .int x2)] [] := by
  unfold m_X10_rawAt at hf
  refine x_bipush (v := 81) h dX10_rawAt_0 (by decide) (q := 2) rfl ?_
  refine x_bipush (v := 16) h dX10_rawAt_2 (by decide) (q := 4) rfl ?_
  refine x_iload_n h dX10_rawAt_4 rfl 1 rfl (q := 5) rfl ?_
  refine x_imul h dX10_rawAt_5 (q := 6) rfl ?_
  refine x_iload_n h dX10_rawAt_6 rfl 0 rfl (q := 7) rfl ?_
  refine x_iadd h dX10_rawAt_7 (q := 8) rfl ?_
  refine x_imul h dX10_rawAt_8 (q := 9) rfl ?_
  refine x_iload_n h dX10_rawAt_9 rfl 2 rfl (q := 10) rfl ?_
  refine x_iadd h dX10_rawAt_10 (q := 11) rfl ?_
  subst hf
  exact x_iretP h hr hH dX10_rawAt_11
theorem c_X10_rawAt (l : Launch) (x0 : Int32) (x1 : Int32) (x2 : Int32) (o : Int32) (hf : m_X10_rawAt x0 x1 x2 = o) : Met l yX10_rawAt (wT yX10_rawAt cX10_rawAt 3 (some .int)) rmX10_rawAt (va_Pc [.int x0, .int x1, .int x2] (fun _ => True)) (XQp (some (.int o))) 0 0 (fun _ => False) :=
  X_metP RX10 plX10 rfl (Nat.le_of_ble_eq_true rfl) rfl (fun _ _ _ _ _ h hH hL hr => w_X10_rawAt x0 x1 x2 o h hH hL hr hf)
abbrev rmX10_projected : Room := { frames := 2, cells := 0, slots := 0, locals := 41 }
theorem hdX10_projected : yX10_projected.cls = RX10 ∧ yX10_projected.cls ≠ "java/lang/invoke/MethodHandle" ∧ yX10_projected.cls ≠ "java/lang/invoke/VarHandle" ∧ (parseMethodDescriptor yX10_projected.desc).map (fun d => d.parameters.length) = some 2 := by decide +kernel
def m_X10_projected_b5 (σ : St) (x1 : Int32) (x2 : Int32) (x3 : Int32) (x4 : Int32) (k5 : (Int32 × Int32) → Option (Int32)) : Option (Int32) :=
  if (σ 87 0) ≤ x4 then (
    some x3
  ) else (
    if ((x1 >>> (x4 &&& 31)) &&& 1) = 1 then (
      (m_X10_digit x2 x4).bind fun u5 =>
      k5 ((x3 + ((m_X10_power x4) * u5)), (x4 + 1))
    ) else (
      k5 ((x3 + 0), (x4 + 1))
    )
  )
set_option maxHeartbeats 4000000 in
set_option maxRecDepth 100000 in
theorem w_X10_projected_b5 {C : XC} {Q : State → Prop} {g : cG} (σ : St) (x1 : Int32) (x2 : Int32) (x3 : Int32) (x4 : Int32) (o : Int32) (h : XOk C cX10_projected RX10 tG rmX10_projected) (hg : XG C g) (hL : C.2.2.2.2.2.2.2.2.2.2.2.2.1 = 5) (hr : XEnd C (some .int) Q (XQ g (some (.int o)) σ) (cA g)) (k5 : (Int32 × Int32) → Option (Int32)) (hk5 : ∀ z : Int32 × Int32, k5 z = some o → Xs C (wW g) Q σ 5 [(0, .ref (gA g 87)), (1, .int x1), (2, .int x2), (3, .int z.1), (4, .int z.2)] []) (hf : m_X10_projected_b5 σ x1 x2 x3 x4 k5 = some o) : Xs C (wW g) Q σ 5 [(0, .ref (gA g 87)), (1, .int x1), (2, .int x2), (3, .int x3), (4, .int x4)] [] := by
  unfold m_X10_projected_b5 at hf
  refine x_iload h dX10_projected_5 4 rfl (q := 7) rfl ?_
  refine x_aload_n h dX10_projected_7 rfl 0 rfl (q := 8) rfl ?_
  refine x_get_X10_87_0 h hg kf_X10_82 nn_X10 dX10_projected_8 ?_
  refine x_icmp_ge (tgt := 49) h dX10_projected_11 (by decide) (q := 14) rfl hf (fun hc1 hf2 => ?_) (fun hc1 hf2 => ?_)
  · skip
    refine x_iload_n h dX10_projected_49 rfl 3 rfl (q := 50) rfl ?_
    have hz := Option.some.inj hf2
    subst hz
    exact x_iret h hg hr dX10_projected_50
  · skip
    refine x_iload_n h dX10_projected_14 rfl 3 rfl (q := 15) rfl ?_
    refine x_iload_n h dX10_projected_15 rfl 1 rfl (q := 16) rfl ?_
    refine x_iload h dX10_projected_16 4 rfl (q := 18) rfl ?_
    refine x_ishr h dX10_projected_18 (q := 19) rfl ?_
    refine x_iconst (v := 1) h dX10_projected_19 (by decide) (q := 20) rfl ?_
    refine x_iand h dX10_projected_20 (q := 21) rfl ?_
    refine x_iconst (v := 1) h dX10_projected_21 (by decide) (q := 22) rfl ?_
    refine x_icmp_ne (tgt := 40) h dX10_projected_22 (by decide) (q := 25) rfl hf2 (fun hc3 hf4 => ?_) (fun hc3 hf4 => ?_)
    · skip
      refine x_iconst (v := 0) h dX10_projected_40 (by decide) (q := 41) rfl ?_
      refine x_iadd h dX10_projected_41 (q := 42) rfl ?_
      refine x_istore_n (lv' := [(3, .int (x3 + 0)), (0, .ref (gA g 87)), (1, .int x1), (2, .int x2), (4, .int x4)]) h dX10_projected_42 rfl hL (by decide) rfl (q := 43) rfl ?_
      refine x_iinc (v := (x4 + 1)) (lv' := [(4, .int (x4 + 1)), (3, .int (x3 + 0)), (0, .ref (gA g 87)), (1, .int x1), (2, .int x2)]) (j := 4) h dX10_projected_43 rfl rfl hL (by decide) rfl (q := 46) rfl ?_
      refine x_goto (q := 5) h dX10_projected_46 (by decide) ?_
      refine x_sub (lv' := [(0, .ref (gA g 87)), (1, .int x1), (2, .int x2), (3, .int (x3 + 0)), (4, .int (x4 + 1))]) [2, 3, 4, 1, 0] rfl ?_
      exact hk5 ((x3 + 0), (x4 + 1)) hf4
    · skip
      refine x_iload h dX10_projected_25 4 rfl (q := 27) rfl ?_
      refine x_callPi (As := [.int x4]) (rest := [.int x3]) h (c_X10_power C.2.1 x4 _ rfl) ml_X10_97 biX10_power rfl rfl hdX10_power ⟨Nat.le_of_ble_eq_true rfl, Nat.le_of_ble_eq_true rfl⟩ rfl rfl (Nat.le_of_ble_eq_true rfl) dX10_projected_27 ?_
      refine x_iload_n h dX10_projected_30 rfl 2 rfl (q := 31) rfl ?_
      refine x_iload h dX10_projected_31 4 rfl (q := 33) rfl ?_
      obtain ⟨u5, hu5, hf6⟩ := bnd_inv hf4
      refine x_callPi (As := [.int x2, .int x4]) (rest := [.int (m_X10_power x4), .int x3]) h (c_X10_digit C.2.1 x2 x4 _ hu5) ml_X10_101 biX10_digit rfl rfl hdX10_digit ⟨Nat.le_of_ble_eq_true rfl, Nat.le_of_ble_eq_true rfl⟩ rfl rfl (Nat.le_of_ble_eq_true rfl) dX10_projected_33 ?_
      refine x_imul h dX10_projected_36 (q := 37) rfl ?_
      refine x_goto (q := 41) h dX10_projected_37 (by decide) ?_
      refine x_iadd h dX10_projected_41 (q := 42) rfl ?_
      refine x_istore_n (lv' := [(3, .int (x3 + ((m_X10_power x4) * u5))), (0, .ref (gA g 87)), (1, .int x1), (2, .int x2), (4, .int x4)]) h dX10_projected_42 rfl hL (by decide) rfl (q := 43) rfl ?_
      refine x_iinc (v := (x4 + 1)) (lv' := [(4, .int (x4 + 1)), (3, .int (x3 + ((m_X10_power x4) * u5))), (0, .ref (gA g 87)), (1, .int x1), (2, .int x2)]) (j := 4) h dX10_projected_43 rfl rfl hL (by decide) rfl (q := 46) rfl ?_
      refine x_goto (q := 5) h dX10_projected_46 (by decide) ?_
      refine x_sub (lv' := [(0, .ref (gA g 87)), (1, .int x1), (2, .int x2), (3, .int (x3 + ((m_X10_power x4) * u5))), (4, .int (x4 + 1))]) [2, 3, 4, 1, 0] rfl ?_
      exact hk5 ((x3 + ((m_X10_power x4) * u5)), (x4 + 1)) hf6
set_option maxHeartbeats 4000000 in
set_option maxRecDepth 100000 in
theorem w_X10_projected_l5 {C : XC} {Q : State → Prop} {g : cG} (σ : St) (x1 : Int32) (x2 : Int32) (o : Int32) (h : XOk C cX10_projected RX10 tG rmX10_projected) (hg : XG C g) (hL : C.2.2.2.2.2.2.2.2.2.2.2.2.1 = 5) (hr : XEnd C (some .int) Q (XQ g (some (.int o)) σ) (cA g)) : ∀ (n : Nat) (z : Int32 × Int32), loopF (fun k z => m_X10_projected_b5 σ x1 x2 z.1 z.2 k) n z = some o → Xs C (wW g) Q σ 5 [(0, .ref (gA g 87)), (1, .int x1), (2, .int x2), (3, .int z.1), (4, .int z.2)] [] := by
  intro n z hf
  refine loopF_ind (S := Int32 × Int32) (O := Int32) (step := (fun k z => m_X10_projected_b5 σ x1 x2 z.1 z.2 k)) (o := o) (P := fun z => Xs C (wW g) Q σ 5 [(0, .ref (gA g 87)), (1, .int x1), (2, .int x2), (3, .int z.1), (4, .int z.2)] []) ?_ n z hf
  intro k hk z hf
  exact w_X10_projected_b5 σ x1 x2 z.1 z.2 o h hg hL hr k hk hf
def m_X10_projected (σ : St) (x1 : Int32) (x2 : Int32) : Option (Int32) :=
  loopF (fun k z => m_X10_projected_b5 σ x1 x2 z.1 z.2 k) cFu (0, 0)
set_option maxHeartbeats 4000000 in
set_option maxRecDepth 100000 in
theorem w_X10_projected {C : XC} {Q : State → Prop} {g : cG} (σ : St) (x1 : Int32) (x2 : Int32) (o : Int32) (h : XOk C cX10_projected RX10 tG rmX10_projected) (hg : XG C g) (hL : C.2.2.2.2.2.2.2.2.2.2.2.2.1 = 5) (hr : XEnd C (some .int) Q (XQ g (some (.int o)) σ) (cA g)) (hf : m_X10_projected σ x1 x2 = some o) : Xs C (wW g) Q σ 0 [(0, .ref (gA g 87)), (1, .int x1), (2, .int x2)] [] := by
  unfold m_X10_projected at hf
  refine x_iconst (v := 0) h dX10_projected_0 (by decide) (q := 1) rfl ?_
  refine x_istore_n (lv' := [(3, .int 0), (0, .ref (gA g 87)), (1, .int x1), (2, .int x2)]) h dX10_projected_1 rfl hL (by decide) rfl (q := 2) rfl ?_
  refine x_iconst (v := 0) h dX10_projected_2 (by decide) (q := 3) rfl ?_
  refine x_istore (lv' := [(4, .int 0), (3, .int 0), (0, .ref (gA g 87)), (1, .int x1), (2, .int x2)]) h dX10_projected_3 hL (by decide) rfl (q := 5) rfl ?_
  refine x_sub (lv' := [(0, .ref (gA g 87)), (1, .int x1), (2, .int x2), (3, .int 0), (4, .int 0)]) [2, 3, 4, 1, 0] rfl ?_
  exact w_X10_projected_l5 σ x1 x2 o h hg hL hr  cFu (0, 0) hf
theorem c_X10_projected (l : Launch) {g : cG} (hi : gInj g) (σ : St) (x1 : Int32) (x2 : Int32) (o : Int32) (hf : m_X10_projected σ x1 x2 = some o) : Met l yX10_projected (wT yX10_projected cX10_projected 5 (some .int)) rmX10_projected (va_Pc [.ref (gA g 87), .int x1, .int x2] (XPre g σ)) (XQ g (some (.int o)) σ) 0 0 (cA g) :=
  X_met RX10 hi plX10 rfl (Nat.le_of_ble_eq_true rfl) rfl (fun _ _ _ h hg hL hr => w_X10_projected σ x1 x2 o h hg hL hr hf)
abbrev rmX10_freshens : Room := { frames := 3, cells := 0, slots := 0, locals := 65 }
theorem hdX10_freshens : yX10_freshens.cls = RX10 ∧ yX10_freshens.cls ≠ "java/lang/invoke/MethodHandle" ∧ yX10_freshens.cls ≠ "java/lang/invoke/VarHandle" ∧ (parseMethodDescriptor yX10_freshens.desc).map (fun d => d.parameters.length) = some 0 := by decide +kernel
def m_X10_freshens_b46 (σ : St) (x1 : Int32) (x2 : Int32) (x3 : Int32) (k24 : (St × Int32) → Option (St)) (k38 : (St × Int32) → Option (St)) (k46 : (St × Int32) → Option (St)) : Option (St) :=
  if ((1 : Int32) <<< ((σ 87 0) &&& 31)) ≤ x3 then (
    k38 (σ, (x2 + 1))
  ) else (
    (m_X10_isMove σ x1 x2).bind fun u3 =>
    if (bI u3) = 0 then (
      k38 (σ, (x2 + 1))
    ) else (
      (m_X10_projected σ x3 x2).bind fun u7 =>
      chk (m_X10_rawAt x3 x1 u7) 15552 <|
      chk (((100 * x1) + 10) + x2) 1201 <|
      chk (m_X10_rawAt x3 x1 u7) 15552 <|
      k46 ((up σ 90 (Int32.toNatClampNeg (m_X10_rawAt x3 x1 u7)) ((σ 90 (Int32.toNatClampNeg (m_X10_rawAt x3 x1 u7))) ||| ((1 : Int32) <<< ((σ 88 (Int32.toNatClampNeg (((100 * x1) + 10) + x2))) &&& 31)))), (x3 + 1))
    )
  )
set_option maxHeartbeats 4000000 in
set_option maxRecDepth 100000 in
theorem w_X10_freshens_b46 {C : XC} {Q : State → Prop} {g : cG} (σ : St) (x1 : Int32) (x2 : Int32) (x3 : Int32) (o : St) (h : XOk C cX10_freshens RX10 tG rmX10_freshens) (hg : XG C g) (hL : C.2.2.2.2.2.2.2.2.2.2.2.2.1 = 4) (hr : XEnd C none Q (XQ g (none) o) (cA g)) (k24 : (St × Int32) → Option (St)) (k38 : (St × Int32) → Option (St)) (k46 : (St × Int32) → Option (St)) (hk24 : ∀ z : St × Int32, k24 z = some o → Xs C (wW g) Q z.1 24 [(0, .ref (gA g 87)), (1, .int z.2)] []) (hk38 : ∀ z : St × Int32, k38 z = some o → Xs C (wW g) Q z.1 38 [(0, .ref (gA g 87)), (1, .int x1), (2, .int z.2)] []) (hk46 : ∀ z : St × Int32, k46 z = some o → Xs C (wW g) Q z.1 46 [(0, .ref (gA g 87)), (1, .int x1), (2, .int x2), (3, .int z.2)] []) (hf : m_X10_freshens_b46 σ x1 x2 x3 k24 k38 k46 = some o) : Xs C (wW g) Q σ 46 [(0, .ref (gA g 87)), (1, .int x1), (2, .int x2), (3, .int x3)] [] := by
  unfold m_X10_freshens_b46 at hf
  refine x_iload_n h dX10_freshens_46 rfl 3 rfl (q := 47) rfl ?_
  refine x_iconst (v := 1) h dX10_freshens_47 (by decide) (q := 48) rfl ?_
  refine x_aload_n h dX10_freshens_48 rfl 0 rfl (q := 49) rfl ?_
  refine x_get_X10_87_0 h hg kf_X10_82 nn_X10 dX10_freshens_49 ?_
  refine x_ishl h dX10_freshens_52 (q := 53) rfl ?_
  refine x_icmp_ge (tgt := 106) h dX10_freshens_53 (by decide) (q := 56) rfl hf (fun hc1 hf2 => ?_) (fun hc1 hf2 => ?_)
  · skip
    refine x_iinc (v := (x2 + 1)) (lv' := [(2, .int (x2 + 1)), (0, .ref (gA g 87)), (1, .int x1), (3, .int x3)]) (j := 2) h dX10_freshens_106 rfl rfl hL (by decide) rfl (q := 109) rfl ?_
    refine x_goto (q := 38) h dX10_freshens_109 (by decide) ?_
    refine x_sub (lv' := [(0, .ref (gA g 87)), (1, .int x1), (2, .int (x2 + 1))]) [1, 2, 0] rfl ?_
    exact hk38 (σ, (x2 + 1)) hf2
  · skip
    refine x_aload_n h dX10_freshens_56 rfl 0 rfl (q := 57) rfl ?_
    refine x_iload_n h dX10_freshens_57 rfl 1 rfl (q := 58) rfl ?_
    refine x_iload_n h dX10_freshens_58 rfl 2 rfl (q := 59) rfl ?_
    obtain ⟨u3, hu3, hf4⟩ := bnd_inv hf2
    refine x_callVi (As := [.int x1, .int x2]) (rest := []) h hg (c_X10_isMove C.2.1 hg.2.1 σ x1 x2 _ hu3) ml_X10_105 biX10_isMove rfl rfl hdX10_isMove ⟨Nat.le_of_ble_eq_true rfl, Nat.le_of_ble_eq_true rfl⟩ (by decide) (cE_87 g _) rfl rfl rfl (Nat.le_of_ble_eq_true rfl) dX10_freshens_59 ?_
    refine x_if_eq (tgt := 106) h dX10_freshens_62 (by decide) (q := 65) rfl hf4 (fun hc5 hf6 => ?_) (fun hc5 hf6 => ?_)
    · skip
      refine x_iinc (v := (x2 + 1)) (lv' := [(2, .int (x2 + 1)), (0, .ref (gA g 87)), (1, .int x1), (3, .int x3)]) (j := 2) h dX10_freshens_106 rfl rfl hL (by decide) rfl (q := 109) rfl ?_
      refine x_goto (q := 38) h dX10_freshens_109 (by decide) ?_
      refine x_sub (lv' := [(0, .ref (gA g 87)), (1, .int x1), (2, .int (x2 + 1))]) [1, 2, 0] rfl ?_
      exact hk38 (σ, (x2 + 1)) hf6
    · skip
      refine x_aload_n h dX10_freshens_65 rfl 0 rfl (q := 66) rfl ?_
      refine x_get_X10_87_4 h hg kf_X10_16 nn_X10 dX10_freshens_66 ?_
      refine x_iload_n h dX10_freshens_69 rfl 3 rfl (q := 70) rfl ?_
      refine x_iload_n h dX10_freshens_70 rfl 1 rfl (q := 71) rfl ?_
      refine x_aload_n h dX10_freshens_71 rfl 0 rfl (q := 72) rfl ?_
      refine x_iload_n h dX10_freshens_72 rfl 3 rfl (q := 73) rfl ?_
      refine x_iload_n h dX10_freshens_73 rfl 2 rfl (q := 74) rfl ?_
      obtain ⟨u7, hu7, hf8⟩ := bnd_inv hf6
      refine x_callVi (As := [.int x3, .int x2]) (rest := [.int x1, .int x3, .ref (gA g 90)]) h hg (c_X10_projected C.2.1 hg.2.1 σ x3 x2 _ hu7) ml_X10_109 biX10_projected rfl rfl hdX10_projected ⟨Nat.le_of_ble_eq_true rfl, Nat.le_of_ble_eq_true rfl⟩ (by decide) (cE_87 g _) rfl rfl rfl (Nat.le_of_ble_eq_true rfl) dX10_freshens_74 ?_
      refine x_callPi (As := [.int x3, .int x1, .int u7]) (rest := [.ref (gA g 90)]) h (c_X10_rawAt C.2.1 x3 x1 u7 _ rfl) ml_X10_112 biX10_rawAt rfl rfl hdX10_rawAt ⟨Nat.le_of_ble_eq_true rfl, Nat.le_of_ble_eq_true rfl⟩ rfl rfl (Nat.le_of_ble_eq_true rfl) dX10_freshens_77 ?_
      refine x_dup2 h dX10_freshens_80 rfl rfl (q := 81) rfl ?_
      obtain ⟨hi9, hf10⟩ := chk_inv hf8
      refine x_iald (j := (Int32.toNatClampNeg (m_X10_rawAt x3 x1 u7))) h hg a_90 hi9 rfl dX10_freshens_81 (q := 82) rfl ?_
      refine x_iconst (v := 1) h dX10_freshens_82 (by decide) (q := 83) rfl ?_
      refine x_aload_n h dX10_freshens_83 rfl 0 rfl (q := 84) rfl ?_
      refine x_get_X10_87_1 h hg kf_X10_7 nn_X10 dX10_freshens_84 ?_
      refine x_bipush (v := 100) h dX10_freshens_87 (by decide) (q := 89) rfl ?_
      refine x_iload_n h dX10_freshens_89 rfl 1 rfl (q := 90) rfl ?_
      refine x_imul h dX10_freshens_90 (q := 91) rfl ?_
      refine x_bipush (v := 10) h dX10_freshens_91 (by decide) (q := 93) rfl ?_
      refine x_iadd h dX10_freshens_93 (q := 94) rfl ?_
      refine x_iload_n h dX10_freshens_94 rfl 2 rfl (q := 95) rfl ?_
      refine x_iadd h dX10_freshens_95 (q := 96) rfl ?_
      obtain ⟨hi11, hf12⟩ := chk_inv hf10
      refine x_iald (j := (Int32.toNatClampNeg (((100 * x1) + 10) + x2))) h hg a_88 hi11 rfl dX10_freshens_96 (q := 97) rfl ?_
      refine x_ishl h dX10_freshens_97 (q := 98) rfl ?_
      refine x_ior h dX10_freshens_98 (q := 99) rfl ?_
      obtain ⟨hi13, hf14⟩ := chk_inv hf12
      refine x_iast (j := (Int32.toNatClampNeg (m_X10_rawAt x3 x1 u7))) h hg a_90 hi13 rfl dX10_freshens_99 (q := 100) rfl ?_
      refine x_iinc (v := (x3 + 1)) (lv' := [(3, .int (x3 + 1)), (0, .ref (gA g 87)), (1, .int x1), (2, .int x2)]) (j := 3) h dX10_freshens_100 rfl rfl hL (by decide) rfl (q := 103) rfl ?_
      refine x_goto (q := 46) h dX10_freshens_103 (by decide) ?_
      refine x_sub (lv' := [(0, .ref (gA g 87)), (1, .int x1), (2, .int x2), (3, .int (x3 + 1))]) [1, 2, 3, 0] rfl ?_
      exact hk46 ((up σ 90 (Int32.toNatClampNeg (m_X10_rawAt x3 x1 u7)) ((σ 90 (Int32.toNatClampNeg (m_X10_rawAt x3 x1 u7))) ||| ((1 : Int32) <<< ((σ 88 (Int32.toNatClampNeg (((100 * x1) + 10) + x2))) &&& 31)))), (x3 + 1)) hf14
set_option maxHeartbeats 4000000 in
set_option maxRecDepth 100000 in
theorem w_X10_freshens_l46 {C : XC} {Q : State → Prop} {g : cG} (x1 : Int32) (x2 : Int32) (o : St) (h : XOk C cX10_freshens RX10 tG rmX10_freshens) (hg : XG C g) (hL : C.2.2.2.2.2.2.2.2.2.2.2.2.1 = 4) (hr : XEnd C none Q (XQ g (none) o) (cA g)) (k24 : (St × Int32) → Option (St)) (k38 : (St × Int32) → Option (St)) (hk24 : ∀ z : St × Int32, k24 z = some o → Xs C (wW g) Q z.1 24 [(0, .ref (gA g 87)), (1, .int z.2)] []) (hk38 : ∀ z : St × Int32, k38 z = some o → Xs C (wW g) Q z.1 38 [(0, .ref (gA g 87)), (1, .int x1), (2, .int z.2)] []) : ∀ (n : Nat) (z : St × Int32), loopF (fun k z => m_X10_freshens_b46 z.1 x1 x2 z.2 k24 k38 k) n z = some o → Xs C (wW g) Q z.1 46 [(0, .ref (gA g 87)), (1, .int x1), (2, .int x2), (3, .int z.2)] [] := by
  intro n z hf
  refine loopF_ind (S := St × Int32) (O := St) (step := (fun k z => m_X10_freshens_b46 z.1 x1 x2 z.2 k24 k38 k)) (o := o) (P := fun z => Xs C (wW g) Q z.1 46 [(0, .ref (gA g 87)), (1, .int x1), (2, .int x2), (3, .int z.2)] []) ?_ n z hf
  intro k hk z hf
  exact w_X10_freshens_b46 z.1 x1 x2 z.2 o h hg hL hr k24 k38 k hk24 hk38 hk hf
def m_X10_freshens_b38 (σ : St) (x1 : Int32) (x2 : Int32) (k24 : (St × Int32) → Option (St)) (k38 : (St × Int32) → Option (St)) : Option (St) :=
  if 81 ≤ x2 then (
    k24 (σ, (x1 + 1))
  ) else (
    loopF (fun k z => m_X10_freshens_b46 z.1 x1 x2 z.2 k24 k38 k) cFu (σ, 0)
  )
set_option maxHeartbeats 4000000 in
set_option maxRecDepth 100000 in
theorem w_X10_freshens_b38 {C : XC} {Q : State → Prop} {g : cG} (σ : St) (x1 : Int32) (x2 : Int32) (o : St) (h : XOk C cX10_freshens RX10 tG rmX10_freshens) (hg : XG C g) (hL : C.2.2.2.2.2.2.2.2.2.2.2.2.1 = 4) (hr : XEnd C none Q (XQ g (none) o) (cA g)) (k24 : (St × Int32) → Option (St)) (k38 : (St × Int32) → Option (St)) (hk24 : ∀ z : St × Int32, k24 z = some o → Xs C (wW g) Q z.1 24 [(0, .ref (gA g 87)), (1, .int z.2)] []) (hk38 : ∀ z : St × Int32, k38 z = some o → Xs C (wW g) Q z.1 38 [(0, .ref (gA g 87)), (1, .int x1), (2, .int z.2)] []) (hf : m_X10_freshens_b38 σ x1 x2 k24 k38 = some o) : Xs C (wW g) Q σ 38 [(0, .ref (gA g 87)), (1, .int x1), (2, .int x2)] [] := by
  unfold m_X10_freshens_b38 at hf
  refine x_iload_n h dX10_freshens_38 rfl 2 rfl (q := 39) rfl ?_
  refine x_bipush (v := 81) h dX10_freshens_39 (by decide) (q := 41) rfl ?_
  refine x_icmp_ge (tgt := 112) h dX10_freshens_41 (by decide) (q := 44) rfl hf (fun hc1 hf2 => ?_) (fun hc1 hf2 => ?_)
  · skip
    refine x_iinc (v := (x1 + 1)) (lv' := [(1, .int (x1 + 1)), (0, .ref (gA g 87)), (2, .int x2)]) (j := 1) h dX10_freshens_112 rfl rfl hL (by decide) rfl (q := 115) rfl ?_
    refine x_goto (q := 24) h dX10_freshens_115 (by decide) ?_
    refine x_sub (lv' := [(0, .ref (gA g 87)), (1, .int (x1 + 1))]) [1, 0] rfl ?_
    exact hk24 (σ, (x1 + 1)) hf2
  · skip
    refine x_iconst (v := 0) h dX10_freshens_44 (by decide) (q := 45) rfl ?_
    refine x_istore_n (lv' := [(3, .int 0), (0, .ref (gA g 87)), (1, .int x1), (2, .int x2)]) h dX10_freshens_45 rfl hL (by decide) rfl (q := 46) rfl ?_
    refine x_sub (lv' := [(0, .ref (gA g 87)), (1, .int x1), (2, .int x2), (3, .int 0)]) [1, 2, 3, 0] rfl ?_
    exact w_X10_freshens_l46 x1 x2 o h hg hL hr k24 k38 hk24 hk38  cFu (σ, 0) hf2
set_option maxHeartbeats 4000000 in
set_option maxRecDepth 100000 in
theorem w_X10_freshens_l38 {C : XC} {Q : State → Prop} {g : cG} (x1 : Int32) (o : St) (h : XOk C cX10_freshens RX10 tG rmX10_freshens) (hg : XG C g) (hL : C.2.2.2.2.2.2.2.2.2.2.2.2.1 = 4) (hr : XEnd C none Q (XQ g (none) o) (cA g)) (k24 : (St × Int32) → Option (St)) (hk24 : ∀ z : St × Int32, k24 z = some o → Xs C (wW g) Q z.1 24 [(0, .ref (gA g 87)), (1, .int z.2)] []) : ∀ (n : Nat) (z : St × Int32), loopF (fun k z => m_X10_freshens_b38 z.1 x1 z.2 k24 k) n z = some o → Xs C (wW g) Q z.1 38 [(0, .ref (gA g 87)), (1, .int x1), (2, .int z.2)] [] := by
  intro n z hf
  refine loopF_ind (S := St × Int32) (O := St) (step := (fun k z => m_X10_freshens_b38 z.1 x1 z.2 k24 k)) (o := o) (P := fun z => Xs C (wW g) Q z.1 38 [(0, .ref (gA g 87)), (1, .int x1), (2, .int z.2)] []) ?_ n z hf
  intro k hk z hf
  exact w_X10_freshens_b38 z.1 x1 z.2 o h hg hL hr k24 k hk24 hk hf
def m_X10_freshens_b24 (σ : St) (x1 : Int32) (k24 : (St × Int32) → Option (St)) : Option (St) :=
  chk 1200 1201 <|
  if (σ 88 1200) ≤ x1 then (
    some (up σ 87 5 1)
  ) else (
    loopF (fun k z => m_X10_freshens_b38 z.1 x1 z.2 k24 k) cFu (σ, 0)
  )
set_option maxHeartbeats 4000000 in
set_option maxRecDepth 100000 in
theorem w_X10_freshens_b24 {C : XC} {Q : State → Prop} {g : cG} (σ : St) (x1 : Int32) (o : St) (h : XOk C cX10_freshens RX10 tG rmX10_freshens) (hg : XG C g) (hL : C.2.2.2.2.2.2.2.2.2.2.2.2.1 = 4) (hr : XEnd C none Q (XQ g (none) o) (cA g)) (k24 : (St × Int32) → Option (St)) (hk24 : ∀ z : St × Int32, k24 z = some o → Xs C (wW g) Q z.1 24 [(0, .ref (gA g 87)), (1, .int z.2)] []) (hf : m_X10_freshens_b24 σ x1 k24 = some o) : Xs C (wW g) Q σ 24 [(0, .ref (gA g 87)), (1, .int x1)] [] := by
  unfold m_X10_freshens_b24 at hf
  refine x_iload_n h dX10_freshens_24 rfl 1 rfl (q := 25) rfl ?_
  refine x_aload_n h dX10_freshens_25 rfl 0 rfl (q := 26) rfl ?_
  refine x_get_X10_87_1 h hg kf_X10_7 nn_X10 dX10_freshens_26 ?_
  refine x_sipush (v := 1200) h dX10_freshens_29 (by decide) (q := 32) rfl ?_
  obtain ⟨hi1, hf2⟩ := chk_inv hf
  refine x_iald (j := 1200) h hg a_88 hi1 (by decide) dX10_freshens_32 (q := 33) rfl ?_
  refine x_icmp_ge (tgt := 118) h dX10_freshens_33 (by decide) (q := 36) rfl hf2 (fun hc3 hf4 => ?_) (fun hc3 hf4 => ?_)
  · skip
    refine x_aload_n h dX10_freshens_118 rfl 0 rfl (q := 119) rfl ?_
    refine x_iconst (v := 1) h dX10_freshens_119 (by decide) (q := 120) rfl ?_
    refine x_put_X10_87_5 h hg kf_X10_89 nn_X10 dX10_freshens_120 (by decide) (by decide) ?_
    have hz := Option.some.inj hf4
    subst hz
    exact x_vret h hg hr dX10_freshens_123
  · skip
    refine x_iconst (v := 0) h dX10_freshens_36 (by decide) (q := 37) rfl ?_
    refine x_istore_n (lv' := [(2, .int 0), (0, .ref (gA g 87)), (1, .int x1)]) h dX10_freshens_37 rfl hL (by decide) rfl (q := 38) rfl ?_
    refine x_sub (lv' := [(0, .ref (gA g 87)), (1, .int x1), (2, .int 0)]) [1, 2, 0] rfl ?_
    exact w_X10_freshens_l38 x1 o h hg hL hr k24 hk24  cFu (σ, 0) hf4
set_option maxHeartbeats 4000000 in
set_option maxRecDepth 100000 in
theorem w_X10_freshens_l24 {C : XC} {Q : State → Prop} {g : cG} (o : St) (h : XOk C cX10_freshens RX10 tG rmX10_freshens) (hg : XG C g) (hL : C.2.2.2.2.2.2.2.2.2.2.2.2.1 = 4) (hr : XEnd C none Q (XQ g (none) o) (cA g)) : ∀ (n : Nat) (z : St × Int32), loopF (fun k z => m_X10_freshens_b24 z.1 z.2 k) n z = some o → Xs C (wW g) Q z.1 24 [(0, .ref (gA g 87)), (1, .int z.2)] [] := by
  intro n z hf
  refine loopF_ind (S := St × Int32) (O := St) (step := (fun k z => m_X10_freshens_b24 z.1 z.2 k)) (o := o) (P := fun z => Xs C (wW g) Q z.1 24 [(0, .ref (gA g 87)), (1, .int z.2)] []) ?_ n z hf
  intro k hk z hf
  exact w_X10_freshens_b24 z.1 z.2 o h hg hL hr k hk hf
def m_X10_freshens_b2 (σ : St) (x1 : Int32) (k2 : (St × Int32) → Option (St)) : Option (St) :=
  if 15552 ≤ x1 then (
    loopF (fun k z => m_X10_freshens_b24 z.1 z.2 k) cFu (σ, 0)
  ) else (
    chk x1 15552 <|
    k2 ((up σ 90 (Int32.toNatClampNeg x1) 0), (x1 + 1))
  )
set_option maxHeartbeats 4000000 in
set_option maxRecDepth 100000 in
theorem w_X10_freshens_b2 {C : XC} {Q : State → Prop} {g : cG} (σ : St) (x1 : Int32) (o : St) (h : XOk C cX10_freshens RX10 tG rmX10_freshens) (hg : XG C g) (hL : C.2.2.2.2.2.2.2.2.2.2.2.2.1 = 4) (hr : XEnd C none Q (XQ g (none) o) (cA g)) (k2 : (St × Int32) → Option (St)) (hk2 : ∀ z : St × Int32, k2 z = some o → Xs C (wW g) Q z.1 2 [(0, .ref (gA g 87)), (1, .int z.2)] []) (hf : m_X10_freshens_b2 σ x1 k2 = some o) : Xs C (wW g) Q σ 2 [(0, .ref (gA g 87)), (1, .int x1)] [] := by
  unfold m_X10_freshens_b2 at hf
  refine x_iload_n h dX10_freshens_2 rfl 1 rfl (q := 3) rfl ?_
  refine x_sipush (v := 15552) h dX10_freshens_3 (by decide) (q := 6) rfl ?_
  refine x_icmp_ge (tgt := 22) h dX10_freshens_6 (by decide) (q := 9) rfl hf (fun hc1 hf2 => ?_) (fun hc1 hf2 => ?_)
  · skip
    refine x_iconst (v := 0) h dX10_freshens_22 (by decide) (q := 23) rfl ?_
    refine x_istore_n (lv' := [(1, .int 0), (0, .ref (gA g 87))]) h dX10_freshens_23 rfl hL (by decide) rfl (q := 24) rfl ?_
    refine x_sub (lv' := [(0, .ref (gA g 87)), (1, .int 0)]) [1, 0] rfl ?_
    exact w_X10_freshens_l24  o h hg hL hr  cFu (σ, 0) hf2
  · skip
    refine x_aload_n h dX10_freshens_9 rfl 0 rfl (q := 10) rfl ?_
    refine x_get_X10_87_4 h hg kf_X10_16 nn_X10 dX10_freshens_10 ?_
    refine x_iload_n h dX10_freshens_13 rfl 1 rfl (q := 14) rfl ?_
    refine x_iconst (v := 0) h dX10_freshens_14 (by decide) (q := 15) rfl ?_
    obtain ⟨hi3, hf4⟩ := chk_inv hf2
    refine x_iast (j := (Int32.toNatClampNeg x1)) h hg a_90 hi3 rfl dX10_freshens_15 (q := 16) rfl ?_
    refine x_iinc (v := (x1 + 1)) (lv' := [(1, .int (x1 + 1)), (0, .ref (gA g 87))]) (j := 1) h dX10_freshens_16 rfl rfl hL (by decide) rfl (q := 19) rfl ?_
    refine x_goto (q := 2) h dX10_freshens_19 (by decide) ?_
    refine x_sub (lv' := [(0, .ref (gA g 87)), (1, .int (x1 + 1))]) [1, 0] rfl ?_
    exact hk2 ((up σ 90 (Int32.toNatClampNeg x1) 0), (x1 + 1)) hf4
set_option maxHeartbeats 4000000 in
set_option maxRecDepth 100000 in
theorem w_X10_freshens_l2 {C : XC} {Q : State → Prop} {g : cG} (o : St) (h : XOk C cX10_freshens RX10 tG rmX10_freshens) (hg : XG C g) (hL : C.2.2.2.2.2.2.2.2.2.2.2.2.1 = 4) (hr : XEnd C none Q (XQ g (none) o) (cA g)) : ∀ (n : Nat) (z : St × Int32), loopF (fun k z => m_X10_freshens_b2 z.1 z.2 k) n z = some o → Xs C (wW g) Q z.1 2 [(0, .ref (gA g 87)), (1, .int z.2)] [] := by
  intro n z hf
  refine loopF_ind (S := St × Int32) (O := St) (step := (fun k z => m_X10_freshens_b2 z.1 z.2 k)) (o := o) (P := fun z => Xs C (wW g) Q z.1 2 [(0, .ref (gA g 87)), (1, .int z.2)] []) ?_ n z hf
  intro k hk z hf
  exact w_X10_freshens_b2 z.1 z.2 o h hg hL hr k hk hf
def m_X10_freshens (σ : St) : Option (St) :=
  loopF (fun k z => m_X10_freshens_b2 z.1 z.2 k) cFu (σ, 0)
set_option maxHeartbeats 4000000 in
set_option maxRecDepth 100000 in
theorem w_X10_freshens {C : XC} {Q : State → Prop} {g : cG} (σ : St) (o : St) (h : XOk C cX10_freshens RX10 tG rmX10_freshens) (hg : XG C g) (hL : C.2.2.2.2.2.2.2.2.2.2.2.2.1 = 4) (hr : XEnd C none Q (XQ g (none) o) (cA g)) (hf : m_X10_freshens σ = some o) : Xs C (wW g) Q σ 0 [(0, .ref (gA g 87))] [] := by
  unfold m_X10_freshens at hf
  refine x_iconst (v := 0) h dX10_freshens_0 (by decide) (q := 1) rfl ?_
  refine x_istore_n (lv' := [(1, .int 0), (0, .ref (gA g 87))]) h dX10_freshens_1 rfl hL (by decide) rfl (q := 2) rfl ?_
  refine x_sub (lv' := [(0, .ref (gA g 87)), (1, .int 0)]) [1, 0] rfl ?_
  exact w_X10_freshens_l2  o h hg hL hr  cFu (σ, 0) hf
theorem c_X10_freshens (l : Launch) {g : cG} (hi : gInj g) (σ : St) (o : St) (hf : m_X10_freshens σ = some o) : Met l yX10_freshens (wT yX10_freshens cX10_freshens 4 none) rmX10_freshens (va_Pc [.ref (gA g 87)] (XPre g σ)) (XQ g (none) o) 0 0 (cA g) :=
  X_met RX10 hi plX10 rfl (Nat.le_of_ble_eq_true rfl) rfl (fun _ _ _ h hg hL hr => w_X10_freshens σ o h hg hL hr hf)
abbrev rmX10_outcome : Room := { frames := 4, cells := 0, slots := 0, locals := 88 }
theorem hdX10_outcome : yX10_outcome.cls = RX10 ∧ yX10_outcome.cls ≠ "java/lang/invoke/MethodHandle" ∧ yX10_outcome.cls ≠ "java/lang/invoke/VarHandle" ∧ (parseMethodDescriptor yX10_outcome.desc).map (fun d => d.parameters.length) = some 3 := by decide +kernel
def m_X10_outcome_b11 (σ : St) (x1 : Int32) (x2 : Int32) (x3 : Int32) : Option (Int32 × St) :=
  chk (m_X10_rawAt x1 x2 x3) 15552 <|
  some ((σ 90 (Int32.toNatClampNeg (m_X10_rawAt x1 x2 x3))), σ)
set_option maxHeartbeats 4000000 in
set_option maxRecDepth 100000 in
theorem w_X10_outcome_b11 {C : XC} {Q : State → Prop} {g : cG} (σ : St) (x1 : Int32) (x2 : Int32) (x3 : Int32) (o : Int32 × St) (h : XOk C cX10_outcome RX10 tG rmX10_outcome) (hg : XG C g) (hL : C.2.2.2.2.2.2.2.2.2.2.2.2.1 = 4) (hr : XEnd C (some .int) Q (XQ g (some (.int o.1)) o.2) (cA g)) (hf : m_X10_outcome_b11 σ x1 x2 x3  = some o) : Xs C (wW g) Q σ 11 [(0, .ref (gA g 87)), (1, .int x1), (2, .int x2), (3, .int x3)] [] := by
  unfold m_X10_outcome_b11 at hf
  refine x_aload_n h dX10_outcome_11 rfl 0 rfl (q := 12) rfl ?_
  refine x_get_X10_87_4 h hg kf_X10_16 nn_X10 dX10_outcome_12 ?_
  refine x_iload_n h dX10_outcome_15 rfl 1 rfl (q := 16) rfl ?_
  refine x_iload_n h dX10_outcome_16 rfl 2 rfl (q := 17) rfl ?_
  refine x_iload_n h dX10_outcome_17 rfl 3 rfl (q := 18) rfl ?_
  refine x_callPi (As := [.int x1, .int x2, .int x3]) (rest := [.ref (gA g 90)]) h (c_X10_rawAt C.2.1 x1 x2 x3 _ rfl) ml_X10_112 biX10_rawAt rfl rfl hdX10_rawAt ⟨Nat.le_of_ble_eq_true rfl, Nat.le_of_ble_eq_true rfl⟩ rfl rfl (Nat.le_of_ble_eq_true rfl) dX10_outcome_18 ?_
  obtain ⟨hi1, hf2⟩ := chk_inv hf
  refine x_iald (j := (Int32.toNatClampNeg (m_X10_rawAt x1 x2 x3))) h hg a_90 hi1 rfl dX10_outcome_21 (q := 22) rfl ?_
  have hz := Option.some.inj hf2
  subst hz
  exact x_iret h hg hr dX10_outcome_22
def m_X10_outcome (σ : St) (x1 : Int32) (x2 : Int32) (x3 : Int32) : Option (Int32 × St) :=
  if (σ 87 5) = 0 then (
    (m_X10_freshens σ).bind fun u3 =>
    m_X10_outcome_b11 u3 x1 x2 x3
  ) else (
    m_X10_outcome_b11 σ x1 x2 x3
  )
set_option maxHeartbeats 4000000 in
set_option maxRecDepth 100000 in
theorem w_X10_outcome {C : XC} {Q : State → Prop} {g : cG} (σ : St) (x1 : Int32) (x2 : Int32) (x3 : Int32) (o : Int32 × St) (h : XOk C cX10_outcome RX10 tG rmX10_outcome) (hg : XG C g) (hL : C.2.2.2.2.2.2.2.2.2.2.2.2.1 = 4) (hr : XEnd C (some .int) Q (XQ g (some (.int o.1)) o.2) (cA g)) (hf : m_X10_outcome σ x1 x2 x3 = some o) : Xs C (wW g) Q σ 0 [(0, .ref (gA g 87)), (1, .int x1), (2, .int x2), (3, .int x3)] [] := by
  unfold m_X10_outcome at hf
  refine x_aload_n h dX10_outcome_0 rfl 0 rfl (q := 1) rfl ?_
  refine x_get_X10_87_5 h hg kf_X10_89 nn_X10 dX10_outcome_1 ?_
  refine x_if_ne (tgt := 11) h dX10_outcome_4 (by decide) (q := 7) rfl hf (fun hc1 hf2 => ?_) (fun hc1 hf2 => ?_)
  · skip
    exact w_X10_outcome_b11 σ x1 x2 x3 o h hg hL hr hf2
  · skip
    refine x_aload_n h dX10_outcome_7 rfl 0 rfl (q := 8) rfl ?_
    obtain ⟨u3, hu3, hf4⟩ := bnd_inv hf2
    refine x_callVv (As := []) (rest := []) h hg (c_X10_freshens C.2.1 hg.2.1 σ _ hu3) ml_X10_116 biX10_freshens rfl rfl hdX10_freshens ⟨Nat.le_of_ble_eq_true rfl, Nat.le_of_ble_eq_true rfl⟩ (by decide) (cE_87 g _) rfl rfl rfl (Nat.le_of_ble_eq_true rfl) dX10_outcome_8 ?_
    exact w_X10_outcome_b11 u3 x1 x2 x3 o h hg hL hr hf4
theorem c_X10_outcome (l : Launch) {g : cG} (hi : gInj g) (σ : St) (x1 : Int32) (x2 : Int32) (x3 : Int32) (o : Int32 × St) (hf : m_X10_outcome σ x1 x2 x3 = some o) : Met l yX10_outcome (wT yX10_outcome cX10_outcome 4 (some .int)) rmX10_outcome (va_Pc [.ref (gA g 87), .int x1, .int x2, .int x3] (XPre g σ)) (XQ g (some (.int o.1)) o.2) 0 0 (cA g) :=
  X_met RX10 hi plX10 rfl (Nat.le_of_ble_eq_true rfl) rfl (fun _ _ _ h hg hL hr => w_X10_outcome σ x1 x2 x3 o h hg hL hr hf)
abbrev rmX10_forcing : Room := { frames := 5, cells := 0, slots := 0, locals := 111 }
theorem hdX10_forcing : yX10_forcing.cls = RX10 ∧ yX10_forcing.cls ≠ "java/lang/invoke/MethodHandle" ∧ yX10_forcing.cls ≠ "java/lang/invoke/VarHandle" ∧ (parseMethodDescriptor yX10_forcing.desc).map (fun d => d.parameters.length) = some 3 := by decide +kernel
def m_X10_forcing_b3 (σ : St) (x1 : Int32) (x2 : Int32) (x3 : Int32) (x4 : Int32) (k3 : (St × Int32) → Option (Int32 × St)) : Option (Int32 × St) :=
  if 81 ≤ x4 then (
    some ((-9), σ)
  ) else (
    (m_X10_outcome σ x1 x2 x4).bind fun u3 =>
    if u3.1 = 0 then (
      k3 (u3.2, (x4 + 1))
    ) else (
      if (u3.1 &&& (x3 ^^^ (-1))) = 0 then (
        some (x4, u3.2)
      ) else (
        k3 (u3.2, (x4 + 1))
      )
    )
  )
set_option maxHeartbeats 4000000 in
set_option maxRecDepth 100000 in
theorem w_X10_forcing_b3 {C : XC} {Q : State → Prop} {g : cG} (σ : St) (x1 : Int32) (x2 : Int32) (x3 : Int32) (x4 : Int32) (o : Int32 × St) (h : XOk C cX10_forcing RX10 tG rmX10_forcing) (hg : XG C g) (hL : C.2.2.2.2.2.2.2.2.2.2.2.2.1 = 6) (hr : XEnd C (some .int) Q (XQ g (some (.int o.1)) o.2) (cA g)) (k3 : (St × Int32) → Option (Int32 × St)) (hk3 : ∀ z : St × Int32, k3 z = some o → Xs C (wW g) Q z.1 3 [(0, .ref (gA g 87)), (1, .int x1), (2, .int x2), (3, .int x3), (4, .int z.2)] []) (hf : m_X10_forcing_b3 σ x1 x2 x3 x4 k3 = some o) : Xs C (wW g) Q σ 3 [(0, .ref (gA g 87)), (1, .int x1), (2, .int x2), (3, .int x3), (4, .int x4)] [] := by
  unfold m_X10_forcing_b3 at hf
  refine x_iload h dX10_forcing_3 4 rfl (q := 5) rfl ?_
  refine x_bipush (v := 81) h dX10_forcing_5 (by decide) (q := 7) rfl ?_
  refine x_icmp_ge (tgt := 43) h dX10_forcing_7 (by decide) (q := 10) rfl hf (fun hc1 hf2 => ?_) (fun hc1 hf2 => ?_)
  · skip
    refine x_bipush (v := (-9)) h dX10_forcing_43 (by decide) (q := 45) rfl ?_
    have hz := Option.some.inj hf2
    subst hz
    exact x_iret h hg hr dX10_forcing_45
  · skip
    refine x_aload_n h dX10_forcing_10 rfl 0 rfl (q := 11) rfl ?_
    refine x_iload_n h dX10_forcing_11 rfl 1 rfl (q := 12) rfl ?_
    refine x_iload_n h dX10_forcing_12 rfl 2 rfl (q := 13) rfl ?_
    refine x_iload h dX10_forcing_13 4 rfl (q := 15) rfl ?_
    obtain ⟨u3, hu3, hf4⟩ := bnd_inv hf2
    refine x_callVi (As := [.int x1, .int x2, .int x4]) (rest := []) h hg (c_X10_outcome C.2.1 hg.2.1 σ x1 x2 x4 _ hu3) ml_X10_119 biX10_outcome rfl rfl hdX10_outcome ⟨Nat.le_of_ble_eq_true rfl, Nat.le_of_ble_eq_true rfl⟩ (by decide) (cE_87 g _) rfl rfl rfl (Nat.le_of_ble_eq_true rfl) dX10_forcing_15 ?_
    refine x_istore (lv' := [(5, .int u3.1), (0, .ref (gA g 87)), (1, .int x1), (2, .int x2), (3, .int x3), (4, .int x4)]) h dX10_forcing_18 hL (by decide) rfl (q := 20) rfl ?_
    refine x_iload h dX10_forcing_20 0 rfl (q := 22) rfl ?_
    refine x_if_eq (tgt := 37) h dX10_forcing_22 (by decide) (q := 25) rfl hf4 (fun hc5 hf6 => ?_) (fun hc5 hf6 => ?_)
    · skip
      refine x_iinc (v := (x4 + 1)) (lv' := [(4, .int (x4 + 1)), (5, .int u3.1), (0, .ref (gA g 87)), (1, .int x1), (2, .int x2), (3, .int x3)]) (j := 5) h dX10_forcing_37 rfl rfl hL (by decide) rfl (q := 40) rfl ?_
      refine x_goto (q := 3) h dX10_forcing_40 (by decide) ?_
      refine x_sub (lv' := [(0, .ref (gA g 87)), (1, .int x1), (2, .int x2), (3, .int x3), (4, .int (x4 + 1))]) [2, 3, 4, 5, 0] rfl ?_
      exact hk3 (u3.2, (x4 + 1)) hf6
    · skip
      refine x_iload h dX10_forcing_25 0 rfl (q := 27) rfl ?_
      refine x_iload_n h dX10_forcing_27 rfl 4 rfl (q := 28) rfl ?_
      refine x_iconst (v := (-1)) h dX10_forcing_28 (by decide) (q := 29) rfl ?_
      refine x_ixor h dX10_forcing_29 (q := 30) rfl ?_
      refine x_iand h dX10_forcing_30 (q := 31) rfl ?_
      refine x_if_ne (tgt := 37) h dX10_forcing_31 (by decide) (q := 34) rfl hf6 (fun hc7 hf8 => ?_) (fun hc7 hf8 => ?_)
      · skip
        refine x_iinc (v := (x4 + 1)) (lv' := [(4, .int (x4 + 1)), (5, .int u3.1), (0, .ref (gA g 87)), (1, .int x1), (2, .int x2), (3, .int x3)]) (j := 5) h dX10_forcing_37 rfl rfl hL (by decide) rfl (q := 40) rfl ?_
        refine x_goto (q := 3) h dX10_forcing_40 (by decide) ?_
        refine x_sub (lv' := [(0, .ref (gA g 87)), (1, .int x1), (2, .int x2), (3, .int x3), (4, .int (x4 + 1))]) [2, 3, 4, 5, 0] rfl ?_
        exact hk3 (u3.2, (x4 + 1)) hf8
      · skip
        refine x_iload h dX10_forcing_34 5 rfl (q := 36) rfl ?_
        have hz := Option.some.inj hf8
        subst hz
        exact x_iret h hg hr dX10_forcing_36
set_option maxHeartbeats 4000000 in
set_option maxRecDepth 100000 in
theorem w_X10_forcing_l3 {C : XC} {Q : State → Prop} {g : cG} (x1 : Int32) (x2 : Int32) (x3 : Int32) (o : Int32 × St) (h : XOk C cX10_forcing RX10 tG rmX10_forcing) (hg : XG C g) (hL : C.2.2.2.2.2.2.2.2.2.2.2.2.1 = 6) (hr : XEnd C (some .int) Q (XQ g (some (.int o.1)) o.2) (cA g)) : ∀ (n : Nat) (z : St × Int32), loopF (fun k z => m_X10_forcing_b3 z.1 x1 x2 x3 z.2 k) n z = some o → Xs C (wW g) Q z.1 3 [(0, .ref (gA g 87)), (1, .int x1), (2, .int x2), (3, .int x3), (4, .int z.2)] [] := by
  intro n z hf
  refine loopF_ind (S := St × Int32) (O := Int32 × St) (step := (fun k z => m_X10_forcing_b3 z.1 x1 x2 x3 z.2 k)) (o := o) (P := fun z => Xs C (wW g) Q z.1 3 [(0, .ref (gA g 87)), (1, .int x1), (2, .int x2), (3, .int x3), (4, .int z.2)] []) ?_ n z hf
  intro k hk z hf
  exact w_X10_forcing_b3 z.1 x1 x2 x3 z.2 o h hg hL hr k hk hf
def m_X10_forcing (σ : St) (x1 : Int32) (x2 : Int32) (x3 : Int32) : Option (Int32 × St) :=
  loopF (fun k z => m_X10_forcing_b3 z.1 x1 x2 x3 z.2 k) cFu (σ, 0)
set_option maxHeartbeats 4000000 in
set_option maxRecDepth 100000 in
theorem w_X10_forcing {C : XC} {Q : State → Prop} {g : cG} (σ : St) (x1 : Int32) (x2 : Int32) (x3 : Int32) (o : Int32 × St) (h : XOk C cX10_forcing RX10 tG rmX10_forcing) (hg : XG C g) (hL : C.2.2.2.2.2.2.2.2.2.2.2.2.1 = 6) (hr : XEnd C (some .int) Q (XQ g (some (.int o.1)) o.2) (cA g)) (hf : m_X10_forcing σ x1 x2 x3 = some o) : Xs C (wW g) Q σ 0 [(0, .ref (gA g 87)), (1, .int x1), (2, .int x2), (3, .int x3)] [] := by
  unfold m_X10_forcing at hf
  refine x_iconst (v := 0) h dX10_forcing_0 (by decide) (q := 1) rfl ?_
  refine x_istore (lv' := [(4, .int 0), (0, .ref (gA g 87)), (1, .int x1), (2, .int x2), (3, .int x3)]) h dX10_forcing_1 hL (by decide) rfl (q := 3) rfl ?_
  refine x_sub (lv' := [(0, .ref (gA g 87)), (1, .int x1), (2, .int x2), (3, .int x3), (4, .int 0)]) [1, 2, 3, 4, 0] rfl ?_
  exact w_X10_forcing_l3 x1 x2 x3 o h hg hL hr  cFu (σ, 0) hf
theorem c_X10_forcing (l : Launch) {g : cG} (hi : gInj g) (σ : St) (x1 : Int32) (x2 : Int32) (x3 : Int32) (o : Int32 × St) (hf : m_X10_forcing σ x1 x2 x3 = some o) : Met l yX10_forcing (wT yX10_forcing cX10_forcing 6 (some .int)) rmX10_forcing (va_Pc [.ref (gA g 87), .int x1, .int x2, .int x3] (XPre g σ)) (XQ g (some (.int o.1)) o.2) 0 0 (cA g) :=
  X_met RX10 hi plX10 rfl (Nat.le_of_ble_eq_true rfl) rfl (fun _ _ _ h hg hL hr => w_X10_forcing σ x1 x2 x3 o h hg hL hr hf)
abbrev rmX10_agents : Room := { frames := 0, cells := 0, slots := 0, locals := 0 }
theorem hdX10_agents : yX10_agents.cls = RX10 ∧ yX10_agents.cls ≠ "java/lang/invoke/MethodHandle" ∧ yX10_agents.cls ≠ "java/lang/invoke/VarHandle" ∧ (parseMethodDescriptor yX10_agents.desc).map (fun d => d.parameters.length) = some 0 := by decide +kernel
def m_X10_agents (σ : St) : Int32 :=
  (σ 87 0)
set_option maxHeartbeats 4000000 in
set_option maxRecDepth 100000 in
theorem w_X10_agents {C : XC} {Q : State → Prop} {g : cG} (σ : St) (o : Int32) (h : XOk C cX10_agents RX10 tG rmX10_agents) (hg : XG C g) (hL : C.2.2.2.2.2.2.2.2.2.2.2.2.1 = 1) (hr : XEnd C (some .int) Q (XQ g (some (.int o)) σ) (cA g)) (hf : m_X10_agents σ = o) : Xs C (wW g) Q σ 0 [(0, .ref (gA g 87))] [] := by
  unfold m_X10_agents at hf
  refine x_aload_n h dX10_agents_0 rfl 0 rfl (q := 1) rfl ?_
  refine x_get_X10_87_0 h hg kf_X10_82 nn_X10 dX10_agents_1 ?_
  subst hf
  exact x_iret h hg hr dX10_agents_4
theorem c_X10_agents (l : Launch) {g : cG} (hi : gInj g) (σ : St) (o : Int32) (hf : m_X10_agents σ = o) : Met l yX10_agents (wT yX10_agents cX10_agents 1 (some .int)) rmX10_agents (va_Pc [.ref (gA g 87)] (XPre g σ)) (XQ g (some (.int o)) σ) 0 0 (cA g) :=
  X_met RX10 hi plX10 rfl (Nat.le_of_ble_eq_true rfl) rfl (fun _ _ _ h hg hL hr => w_X10_agents σ o h hg hL hr hf)
abbrev rmX10_leadsBack : Room := { frames := 0, cells := 0, slots := 0, locals := 0 }
theorem hdX10_leadsBack : yX10_leadsBack.cls = RX10 ∧ yX10_leadsBack.cls ≠ "java/lang/invoke/MethodHandle" ∧ yX10_leadsBack.cls ≠ "java/lang/invoke/VarHandle" ∧ (parseMethodDescriptor yX10_leadsBack.desc).map (fun d => d.parameters.length) = some 1 := by decide +kernel
def m_X10_leadsBack_b2 (σ : St) (x1 : Int32) (x2 : Int32) (k2 : (St × Int32) → Option (St)) : Option (St) :=
  if 81 ≤ x2 then (
    some σ
  ) else (
    chk (((100 * x1) + 10) + x2) 1201 <|
    k2 ((up σ 88 (Int32.toNatClampNeg (((100 * x1) + 10) + x2)) x1), (x2 + 1))
  )
set_option maxHeartbeats 4000000 in
set_option maxRecDepth 100000 in
theorem w_X10_leadsBack_b2 {C : XC} {Q : State → Prop} {g : cG} (σ : St) (x1 : Int32) (x2 : Int32) (o : St) (h : XOk C cX10_leadsBack RX10 tG rmX10_leadsBack) (hg : XG C g) (hL : C.2.2.2.2.2.2.2.2.2.2.2.2.1 = 3) (hr : XEnd C none Q (XQ g (none) o) (cA g)) (k2 : (St × Int32) → Option (St)) (hk2 : ∀ z : St × Int32, k2 z = some o → Xs C (wW g) Q z.1 2 [(0, .ref (gA g 87)), (1, .int x1), (2, .int z.2)] []) (hf : m_X10_leadsBack_b2 σ x1 x2 k2 = some o) : Xs C (wW g) Q σ 2 [(0, .ref (gA g 87)), (1, .int x1), (2, .int x2)] [] := by
  unfold m_X10_leadsBack_b2 at hf
  refine x_iload_n h dX10_leadsBack_2 rfl 2 rfl (q := 3) rfl ?_
  refine x_bipush (v := 81) h dX10_leadsBack_3 (by decide) (q := 5) rfl ?_
  refine x_icmp_ge (tgt := 29) h dX10_leadsBack_5 (by decide) (q := 8) rfl hf (fun hc1 hf2 => ?_) (fun hc1 hf2 => ?_)
  · skip
    have hz := Option.some.inj hf2
    subst hz
    exact x_vret h hg hr dX10_leadsBack_29
  · skip
    refine x_aload_n h dX10_leadsBack_8 rfl 0 rfl (q := 9) rfl ?_
    refine x_get_X10_87_1 h hg kf_X10_7 nn_X10 dX10_leadsBack_9 ?_
    refine x_bipush (v := 100) h dX10_leadsBack_12 (by decide) (q := 14) rfl ?_
    refine x_iload_n h dX10_leadsBack_14 rfl 1 rfl (q := 15) rfl ?_
    refine x_imul h dX10_leadsBack_15 (q := 16) rfl ?_
    refine x_bipush (v := 10) h dX10_leadsBack_16 (by decide) (q := 18) rfl ?_
    refine x_iadd h dX10_leadsBack_18 (q := 19) rfl ?_
    refine x_iload_n h dX10_leadsBack_19 rfl 2 rfl (q := 20) rfl ?_
    refine x_iadd h dX10_leadsBack_20 (q := 21) rfl ?_
    refine x_iload_n h dX10_leadsBack_21 rfl 1 rfl (q := 22) rfl ?_
    obtain ⟨hi3, hf4⟩ := chk_inv hf2
    refine x_iast (j := (Int32.toNatClampNeg (((100 * x1) + 10) + x2))) h hg a_88 hi3 rfl dX10_leadsBack_22 (q := 23) rfl ?_
    refine x_iinc (v := (x2 + 1)) (lv' := [(2, .int (x2 + 1)), (0, .ref (gA g 87)), (1, .int x1)]) (j := 2) h dX10_leadsBack_23 rfl rfl hL (by decide) rfl (q := 26) rfl ?_
    refine x_goto (q := 2) h dX10_leadsBack_26 (by decide) ?_
    refine x_sub (lv' := [(0, .ref (gA g 87)), (1, .int x1), (2, .int (x2 + 1))]) [1, 2, 0] rfl ?_
    exact hk2 ((up σ 88 (Int32.toNatClampNeg (((100 * x1) + 10) + x2)) x1), (x2 + 1)) hf4
set_option maxHeartbeats 4000000 in
set_option maxRecDepth 100000 in
theorem w_X10_leadsBack_l2 {C : XC} {Q : State → Prop} {g : cG} (x1 : Int32) (o : St) (h : XOk C cX10_leadsBack RX10 tG rmX10_leadsBack) (hg : XG C g) (hL : C.2.2.2.2.2.2.2.2.2.2.2.2.1 = 3) (hr : XEnd C none Q (XQ g (none) o) (cA g)) : ∀ (n : Nat) (z : St × Int32), loopF (fun k z => m_X10_leadsBack_b2 z.1 x1 z.2 k) n z = some o → Xs C (wW g) Q z.1 2 [(0, .ref (gA g 87)), (1, .int x1), (2, .int z.2)] [] := by
  intro n z hf
  refine loopF_ind (S := St × Int32) (O := St) (step := (fun k z => m_X10_leadsBack_b2 z.1 x1 z.2 k)) (o := o) (P := fun z => Xs C (wW g) Q z.1 2 [(0, .ref (gA g 87)), (1, .int x1), (2, .int z.2)] []) ?_ n z hf
  intro k hk z hf
  exact w_X10_leadsBack_b2 z.1 x1 z.2 o h hg hL hr k hk hf
def m_X10_leadsBack (σ : St) (x1 : Int32) : Option (St) :=
  loopF (fun k z => m_X10_leadsBack_b2 z.1 x1 z.2 k) cFu (σ, 0)
set_option maxHeartbeats 4000000 in
set_option maxRecDepth 100000 in
theorem w_X10_leadsBack {C : XC} {Q : State → Prop} {g : cG} (σ : St) (x1 : Int32) (o : St) (h : XOk C cX10_leadsBack RX10 tG rmX10_leadsBack) (hg : XG C g) (hL : C.2.2.2.2.2.2.2.2.2.2.2.2.1 = 3) (hr : XEnd C none Q (XQ g (none) o) (cA g)) (hf : m_X10_leadsBack σ x1 = some o) : Xs C (wW g) Q σ 0 [(0, .ref (gA g 87)), (1, .int x1)] [] := by
  unfold m_X10_leadsBack at hf
  refine x_iconst (v := 0) h dX10_leadsBack_0 (by decide) (q := 1) rfl ?_
  refine x_istore_n (lv' := [(2, .int 0), (0, .ref (gA g 87)), (1, .int x1)]) h dX10_leadsBack_1 rfl hL (by decide) rfl (q := 2) rfl ?_
  refine x_sub (lv' := [(0, .ref (gA g 87)), (1, .int x1), (2, .int 0)]) [1, 2, 0] rfl ?_
  exact w_X10_leadsBack_l2 x1 o h hg hL hr  cFu (σ, 0) hf
theorem c_X10_leadsBack (l : Launch) {g : cG} (hi : gInj g) (σ : St) (x1 : Int32) (o : St) (hf : m_X10_leadsBack σ x1 = some o) : Met l yX10_leadsBack (wT yX10_leadsBack cX10_leadsBack 3 none) rmX10_leadsBack (va_Pc [.ref (gA g 87), .int x1] (XPre g σ)) (XQ g (none) o) 0 0 (cA g) :=
  X_met RX10 hi plX10 rfl (Nat.le_of_ble_eq_true rfl) rfl (fun _ _ _ h hg hL hr => w_X10_leadsBack σ x1 o h hg hL hr hf)
abbrev rmX10_addState : Room := { frames := 1, cells := 0, slots := 0, locals := 22 }
theorem hdX10_addState : yX10_addState.cls = RX10 ∧ yX10_addState.cls ≠ "java/lang/invoke/MethodHandle" ∧ yX10_addState.cls ≠ "java/lang/invoke/VarHandle" ∧ (parseMethodDescriptor yX10_addState.desc).map (fun d => d.parameters.length) = some 0 := by decide +kernel
def m_X10_addState_b43 (σ : St) (x1 : Int32) (x2 : Int32) (k43 : (St × Int32) → Option (Int32 × St)) : Option (Int32 × St) :=
  if 4 ≤ x2 then (
    (m_X10_leadsBack σ x1).bind fun u3 =>
    chk 1200 1201 <|
    chk 1200 1201 <|
    some (x1, (up u3 88 1200 ((u3 88 1200) + 1)))
  ) else (
    chk (((100 * x1) + 1) + x2) 1201 <|
    chk (((100 * x1) + 5) + x2) 1201 <|
    k43 ((up (up σ 88 (Int32.toNatClampNeg (((100 * x1) + 1) + x2)) 1) 88 (Int32.toNatClampNeg (((100 * x1) + 5) + x2)) 0), (x2 + 1))
  )
set_option maxHeartbeats 4000000 in
set_option maxRecDepth 100000 in
theorem w_X10_addState_b43 {C : XC} {Q : State → Prop} {g : cG} (σ : St) (x1 : Int32) (x2 : Int32) (o : Int32 × St) (h : XOk C cX10_addState RX10 tG rmX10_addState) (hg : XG C g) (hL : C.2.2.2.2.2.2.2.2.2.2.2.2.1 = 3) (hr : XEnd C (some .int) Q (XQ g (some (.int o.1)) o.2) (cA g)) (k43 : (St × Int32) → Option (Int32 × St)) (hk43 : ∀ z : St × Int32, k43 z = some o → Xs C (wW g) Q z.1 43 [(0, .ref (gA g 87)), (1, .int x1), (2, .int z.2)] []) (hf : m_X10_addState_b43 σ x1 x2 k43 = some o) : Xs C (wW g) Q σ 43 [(0, .ref (gA g 87)), (1, .int x1), (2, .int x2)] [] := by
  unfold m_X10_addState_b43 at hf
  refine x_iload_n h dX10_addState_43 rfl 2 rfl (q := 44) rfl ?_
  refine x_iconst (v := 4) h dX10_addState_44 (by decide) (q := 45) rfl ?_
  refine x_icmp_ge (tgt := 82) h dX10_addState_45 (by decide) (q := 48) rfl hf (fun hc1 hf2 => ?_) (fun hc1 hf2 => ?_)
  · skip
    refine x_aload_n h dX10_addState_82 rfl 0 rfl (q := 83) rfl ?_
    refine x_iload_n h dX10_addState_83 rfl 1 rfl (q := 84) rfl ?_
    obtain ⟨u3, hu3, hf4⟩ := bnd_inv hf2
    refine x_callVv (As := [.int x1]) (rest := []) h hg (c_X10_leadsBack C.2.1 hg.2.1 σ x1 _ hu3) ml_X10_125 biX10_leadsBack rfl rfl hdX10_leadsBack ⟨Nat.le_of_ble_eq_true rfl, Nat.le_of_ble_eq_true rfl⟩ (by decide) (cE_87 g _) rfl rfl rfl (Nat.le_of_ble_eq_true rfl) dX10_addState_84 ?_
    refine x_aload_n h dX10_addState_87 rfl 0 rfl (q := 88) rfl ?_
    refine x_get_X10_87_1 h hg kf_X10_7 nn_X10 dX10_addState_88 ?_
    refine x_sipush (v := 1200) h dX10_addState_91 (by decide) (q := 94) rfl ?_
    refine x_dup2 h dX10_addState_94 rfl rfl (q := 95) rfl ?_
    obtain ⟨hi5, hf6⟩ := chk_inv hf4
    refine x_iald (j := 1200) h hg a_88 hi5 (by decide) dX10_addState_95 (q := 96) rfl ?_
    refine x_iconst (v := 1) h dX10_addState_96 (by decide) (q := 97) rfl ?_
    refine x_iadd h dX10_addState_97 (q := 98) rfl ?_
    obtain ⟨hi7, hf8⟩ := chk_inv hf6
    refine x_iast (j := 1200) h hg a_88 hi7 (by decide) dX10_addState_98 (q := 99) rfl ?_
    refine x_iload_n h dX10_addState_99 rfl 1 rfl (q := 100) rfl ?_
    have hz := Option.some.inj hf8
    subst hz
    exact x_iret h hg hr dX10_addState_100
  · skip
    refine x_aload_n h dX10_addState_48 rfl 0 rfl (q := 49) rfl ?_
    refine x_get_X10_87_1 h hg kf_X10_7 nn_X10 dX10_addState_49 ?_
    refine x_bipush (v := 100) h dX10_addState_52 (by decide) (q := 54) rfl ?_
    refine x_iload_n h dX10_addState_54 rfl 1 rfl (q := 55) rfl ?_
    refine x_imul h dX10_addState_55 (q := 56) rfl ?_
    refine x_iconst (v := 1) h dX10_addState_56 (by decide) (q := 57) rfl ?_
    refine x_iadd h dX10_addState_57 (q := 58) rfl ?_
    refine x_iload_n h dX10_addState_58 rfl 2 rfl (q := 59) rfl ?_
    refine x_iadd h dX10_addState_59 (q := 60) rfl ?_
    refine x_iconst (v := 1) h dX10_addState_60 (by decide) (q := 61) rfl ?_
    obtain ⟨hi9, hf10⟩ := chk_inv hf2
    refine x_iast (j := (Int32.toNatClampNeg (((100 * x1) + 1) + x2))) h hg a_88 hi9 rfl dX10_addState_61 (q := 62) rfl ?_
    refine x_aload_n h dX10_addState_62 rfl 0 rfl (q := 63) rfl ?_
    refine x_get_X10_87_1 h hg kf_X10_7 nn_X10 dX10_addState_63 ?_
    refine x_bipush (v := 100) h dX10_addState_66 (by decide) (q := 68) rfl ?_
    refine x_iload_n h dX10_addState_68 rfl 1 rfl (q := 69) rfl ?_
    refine x_imul h dX10_addState_69 (q := 70) rfl ?_
    refine x_iconst (v := 5) h dX10_addState_70 (by decide) (q := 71) rfl ?_
    refine x_iadd h dX10_addState_71 (q := 72) rfl ?_
    refine x_iload_n h dX10_addState_72 rfl 2 rfl (q := 73) rfl ?_
    refine x_iadd h dX10_addState_73 (q := 74) rfl ?_
    refine x_iconst (v := 0) h dX10_addState_74 (by decide) (q := 75) rfl ?_
    obtain ⟨hi11, hf12⟩ := chk_inv hf10
    refine x_iast (j := (Int32.toNatClampNeg (((100 * x1) + 5) + x2))) h hg a_88 hi11 rfl dX10_addState_75 (q := 76) rfl ?_
    refine x_iinc (v := (x2 + 1)) (lv' := [(2, .int (x2 + 1)), (0, .ref (gA g 87)), (1, .int x1)]) (j := 2) h dX10_addState_76 rfl rfl hL (by decide) rfl (q := 79) rfl ?_
    refine x_goto (q := 43) h dX10_addState_79 (by decide) ?_
    refine x_sub (lv' := [(0, .ref (gA g 87)), (1, .int x1), (2, .int (x2 + 1))]) [1, 2, 0] rfl ?_
    exact hk43 ((up (up σ 88 (Int32.toNatClampNeg (((100 * x1) + 1) + x2)) 1) 88 (Int32.toNatClampNeg (((100 * x1) + 5) + x2)) 0), (x2 + 1)) hf12
set_option maxHeartbeats 4000000 in
set_option maxRecDepth 100000 in
theorem w_X10_addState_l43 {C : XC} {Q : State → Prop} {g : cG} (x1 : Int32) (o : Int32 × St) (h : XOk C cX10_addState RX10 tG rmX10_addState) (hg : XG C g) (hL : C.2.2.2.2.2.2.2.2.2.2.2.2.1 = 3) (hr : XEnd C (some .int) Q (XQ g (some (.int o.1)) o.2) (cA g)) : ∀ (n : Nat) (z : St × Int32), loopF (fun k z => m_X10_addState_b43 z.1 x1 z.2 k) n z = some o → Xs C (wW g) Q z.1 43 [(0, .ref (gA g 87)), (1, .int x1), (2, .int z.2)] [] := by
  intro n z hf
  refine loopF_ind (S := St × Int32) (O := Int32 × St) (step := (fun k z => m_X10_addState_b43 z.1 x1 z.2 k)) (o := o) (P := fun z => Xs C (wW g) Q z.1 43 [(0, .ref (gA g 87)), (1, .int x1), (2, .int z.2)] []) ?_ n z hf
  intro k hk z hf
  exact w_X10_addState_b43 z.1 x1 z.2 o h hg hL hr k hk hf
def m_X10_addState (σ : St) : Option (Int32 × St) :=
  chk 1200 1201 <|
  if (σ 88 1200) = 12 then (
    some ((-2), σ)
  ) else (
    (m_X10_edit σ).bind fun u5 =>
    chk 1200 1201 <|
    chk ((100 * (u5 88 1200)) + 0) 1201 <|
    loopF (fun k z => m_X10_addState_b43 z.1 (u5 88 1200) z.2 k) cFu ((up u5 88 (Int32.toNatClampNeg ((100 * (u5 88 1200)) + 0)) 0), 0)
  )
set_option maxHeartbeats 4000000 in
set_option maxRecDepth 100000 in
theorem w_X10_addState {C : XC} {Q : State → Prop} {g : cG} (σ : St) (o : Int32 × St) (h : XOk C cX10_addState RX10 tG rmX10_addState) (hg : XG C g) (hL : C.2.2.2.2.2.2.2.2.2.2.2.2.1 = 3) (hr : XEnd C (some .int) Q (XQ g (some (.int o.1)) o.2) (cA g)) (hf : m_X10_addState σ = some o) : Xs C (wW g) Q σ 0 [(0, .ref (gA g 87))] [] := by
  unfold m_X10_addState at hf
  refine x_aload_n h dX10_addState_0 rfl 0 rfl (q := 1) rfl ?_
  refine x_get_X10_87_1 h hg kf_X10_7 nn_X10 dX10_addState_1 ?_
  refine x_sipush (v := 1200) h dX10_addState_4 (by decide) (q := 7) rfl ?_
  obtain ⟨hi1, hf2⟩ := chk_inv hf
  refine x_iald (j := 1200) h hg a_88 hi1 (by decide) dX10_addState_7 (q := 8) rfl ?_
  refine x_bipush (v := 12) h dX10_addState_8 (by decide) (q := 10) rfl ?_
  refine x_icmp_ne (tgt := 16) h dX10_addState_10 (by decide) (q := 13) rfl hf2 (fun hc3 hf4 => ?_) (fun hc3 hf4 => ?_)
  · skip
    refine x_aload_n h dX10_addState_16 rfl 0 rfl (q := 17) rfl ?_
    obtain ⟨u5, hu5, hf6⟩ := bnd_inv hf4
    refine x_callVv (As := []) (rest := []) h hg (c_X10_edit C.2.1 hg.2.1 σ _ hu5) ml_X10_122 biX10_edit rfl rfl hdX10_edit ⟨Nat.le_of_ble_eq_true rfl, Nat.le_of_ble_eq_true rfl⟩ (by decide) (cE_87 g _) rfl rfl rfl (Nat.le_of_ble_eq_true rfl) dX10_addState_17 ?_
    refine x_aload_n h dX10_addState_20 rfl 0 rfl (q := 21) rfl ?_
    refine x_get_X10_87_1 h hg kf_X10_7 nn_X10 dX10_addState_21 ?_
    refine x_sipush (v := 1200) h dX10_addState_24 (by decide) (q := 27) rfl ?_
    obtain ⟨hi7, hf8⟩ := chk_inv hf6
    refine x_iald (j := 1200) h hg a_88 hi7 (by decide) dX10_addState_27 (q := 28) rfl ?_
    refine x_istore_n (lv' := [(1, .int (u5 88 1200)), (0, .ref (gA g 87))]) h dX10_addState_28 rfl hL (by decide) rfl (q := 29) rfl ?_
    refine x_aload_n h dX10_addState_29 rfl 1 rfl (q := 30) rfl ?_
    refine x_get_X10_87_1 h hg kf_X10_7 nn_X10 dX10_addState_30 ?_
    refine x_bipush (v := 100) h dX10_addState_33 (by decide) (q := 35) rfl ?_
    refine x_iload_n h dX10_addState_35 rfl 0 rfl (q := 36) rfl ?_
    refine x_imul h dX10_addState_36 (q := 37) rfl ?_
    refine x_iconst (v := 0) h dX10_addState_37 (by decide) (q := 38) rfl ?_
    refine x_iadd h dX10_addState_38 (q := 39) rfl ?_
    refine x_iconst (v := 0) h dX10_addState_39 (by decide) (q := 40) rfl ?_
    obtain ⟨hi9, hf10⟩ := chk_inv hf8
    refine x_iast (j := (Int32.toNatClampNeg ((100 * (u5 88 1200)) + 0))) h hg a_88 hi9 rfl dX10_addState_40 (q := 41) rfl ?_
    refine x_iconst (v := 0) h dX10_addState_41 (by decide) (q := 42) rfl ?_
    refine x_istore_n (lv' := [(2, .int 0), (1, .int (u5 88 1200)), (0, .ref (gA g 87))]) h dX10_addState_42 rfl hL (by decide) rfl (q := 43) rfl ?_
    refine x_sub (lv' := [(0, .ref (gA g 87)), (1, .int (u5 88 1200)), (2, .int 0)]) [2, 1, 0] rfl ?_
    exact w_X10_addState_l43 (u5 88 1200) o h hg hL hr  cFu ((up u5 88 (Int32.toNatClampNeg ((100 * (u5 88 1200)) + 0)) 0), 0) hf10
  · skip
    refine x_bipush (v := (-2)) h dX10_addState_13 (by decide) (q := 15) rfl ?_
    have hz := Option.some.inj hf4
    subst hz
    exact x_iret h hg hr dX10_addState_15
theorem c_X10_addState (l : Launch) {g : cG} (hi : gInj g) (σ : St) (o : Int32 × St) (hf : m_X10_addState σ = some o) : Met l yX10_addState (wT yX10_addState cX10_addState 3 (some .int)) rmX10_addState (va_Pc [.ref (gA g 87)] (XPre g σ)) (XQ g (some (.int o.1)) o.2) 0 0 (cA g) :=
  X_met RX10 hi plX10 rfl (Nat.le_of_ble_eq_true rfl) rfl (fun _ _ _ h hg hL hr => w_X10_addState σ o h hg hL hr hf)
abbrev rmX10_states : Room := { frames := 0, cells := 0, slots := 0, locals := 0 }
theorem hdX10_states : yX10_states.cls = RX10 ∧ yX10_states.cls ≠ "java/lang/invoke/MethodHandle" ∧ yX10_states.cls ≠ "java/lang/invoke/VarHandle" ∧ (parseMethodDescriptor yX10_states.desc).map (fun d => d.parameters.length) = some 0 := by decide +kernel
def m_X10_states (σ : St) : Option (Int32) :=
  chk 1200 1201 <|
  some (σ 88 1200)
set_option maxHeartbeats 4000000 in
set_option maxRecDepth 100000 in
theorem w_X10_states {C : XC} {Q : State → Prop} {g : cG} (σ : St) (o : Int32) (h : XOk C cX10_states RX10 tG rmX10_states) (hg : XG C g) (hL : C.2.2.2.2.2.2.2.2.2.2.2.2.1 = 1) (hr : XEnd C (some .int) Q (XQ g (some (.int o)) σ) (cA g)) (hf : m_X10_states σ = some o) : Xs C (wW g) Q σ 0 [(0, .ref (gA g 87))] [] := by
  unfold m_X10_states at hf
  refine x_aload_n h dX10_states_0 rfl 0 rfl (q := 1) rfl ?_
  refine x_get_X10_87_1 h hg kf_X10_7 nn_X10 dX10_states_1 ?_
  refine x_sipush (v := 1200) h dX10_states_4 (by decide) (q := 7) rfl ?_
  obtain ⟨hi1, hf2⟩ := chk_inv hf
  refine x_iald (j := 1200) h hg a_88 hi1 (by decide) dX10_states_7 (q := 8) rfl ?_
  have hz := Option.some.inj hf2
  subst hz
  exact x_iret h hg hr dX10_states_8
theorem c_X10_states (l : Launch) {g : cG} (hi : gInj g) (σ : St) (o : Int32) (hf : m_X10_states σ = some o) : Met l yX10_states (wT yX10_states cX10_states 1 (some .int)) rmX10_states (va_Pc [.ref (gA g 87)] (XPre g σ)) (XQ g (some (.int o)) σ) 0 0 (cA g) :=
  X_met RX10 hi plX10 rfl (Nat.le_of_ble_eq_true rfl) rfl (fun _ _ _ h hg hL hr => w_X10_states σ o h hg hL hr hf)
abbrev rmX10_setActions : Room := { frames := 2, cells := 0, slots := 0, locals := 43 }
theorem hdX10_setActions : yX10_setActions.cls = RX10 ∧ yX10_setActions.cls ≠ "java/lang/invoke/MethodHandle" ∧ yX10_setActions.cls ≠ "java/lang/invoke/VarHandle" ∧ (parseMethodDescriptor yX10_setActions.desc).map (fun d => d.parameters.length) = some 3 := by decide +kernel
def m_X10_setActions (σ : St) (x1 : Int32) (x2 : Int32) (x3 : Int32) : Option (Int32 × St) :=
  (m_X10_isState σ x1).bind fun u1 =>
  if (bI u1) = 0 then (
    some ((-1), σ)
  ) else (
    if (bI (m_X10_isAgent σ x2)) = 0 then (
      some ((-1), σ)
    ) else (
      if (bI (m_X10_in x3 1 3)) = 0 then (
        some ((-1), σ)
      ) else (
        (m_X10_edit σ).bind fun u9 =>
        chk (((100 * x1) + 1) + x2) 1201 <|
        chk (((100 * x1) + 1) + x2) 1201 <|
        (m_X10_leadsBack (up u9 88 (Int32.toNatClampNeg (((100 * x1) + 1) + x2)) x3) x1).bind fun u15 =>
        some ((u9 88 (Int32.toNatClampNeg (((100 * x1) + 1) + x2))), u15)
      )
    )
  )
set_option maxHeartbeats 4000000 in
set_option maxRecDepth 100000 in
theorem w_X10_setActions {C : XC} {Q : State → Prop} {g : cG} (σ : St) (x1 : Int32) (x2 : Int32) (x3 : Int32) (o : Int32 × St) (h : XOk C cX10_setActions RX10 tG rmX10_setActions) (hg : XG C g) (hL : C.2.2.2.2.2.2.2.2.2.2.2.2.1 = 5) (hr : XEnd C (some .int) Q (XQ g (some (.int o.1)) o.2) (cA g)) (hf : m_X10_setActions σ x1 x2 x3 = some o) : Xs C (wW g) Q σ 0 [(0, .ref (gA g 87)), (1, .int x1), (2, .int x2), (3, .int x3)] [] := by
  unfold m_X10_setActions at hf
  refine x_aload_n h dX10_setActions_0 rfl 0 rfl (q := 1) rfl ?_
  refine x_iload_n h dX10_setActions_1 rfl 1 rfl (q := 2) rfl ?_
  obtain ⟨u1, hu1, hf2⟩ := bnd_inv hf
  refine x_callVi (As := [.int x1]) (rest := []) h hg (c_X10_isState C.2.1 hg.2.1 σ x1 _ hu1) ml_X10_129 biX10_isState rfl rfl hdX10_isState ⟨Nat.le_of_ble_eq_true rfl, Nat.le_of_ble_eq_true rfl⟩ (by decide) (cE_87 g _) rfl rfl rfl (Nat.le_of_ble_eq_true rfl) dX10_setActions_2 ?_
  refine x_if_eq (tgt := 25) h dX10_setActions_5 (by decide) (q := 8) rfl hf2 (fun hc3 hf4 => ?_) (fun hc3 hf4 => ?_)
  · skip
    refine x_iconst (v := (-1)) h dX10_setActions_25 (by decide) (q := 26) rfl ?_
    have hz := Option.some.inj hf4
    subst hz
    exact x_iret h hg hr dX10_setActions_26
  · skip
    refine x_aload_n h dX10_setActions_8 rfl 0 rfl (q := 9) rfl ?_
    refine x_iload_n h dX10_setActions_9 rfl 2 rfl (q := 10) rfl ?_
    refine x_callVi (As := [.int x2]) (rest := []) h hg (c_X10_isAgent C.2.1 hg.2.1 σ x2 _ rfl) ml_X10_133 biX10_isAgent rfl rfl hdX10_isAgent ⟨Nat.le_of_ble_eq_true rfl, Nat.le_of_ble_eq_true rfl⟩ (by decide) (cE_87 g _) rfl rfl rfl (Nat.le_of_ble_eq_true rfl) dX10_setActions_10 ?_
    refine x_if_eq (tgt := 25) h dX10_setActions_13 (by decide) (q := 16) rfl hf4 (fun hc5 hf6 => ?_) (fun hc5 hf6 => ?_)
    · skip
      refine x_iconst (v := (-1)) h dX10_setActions_25 (by decide) (q := 26) rfl ?_
      have hz := Option.some.inj hf6
      subst hz
      exact x_iret h hg hr dX10_setActions_26
    · skip
      refine x_iload_n h dX10_setActions_16 rfl 3 rfl (q := 17) rfl ?_
      refine x_iconst (v := 1) h dX10_setActions_17 (by decide) (q := 18) rfl ?_
      refine x_iconst (v := 3) h dX10_setActions_18 (by decide) (q := 19) rfl ?_
      refine x_callPi (As := [.int x3, .int 1, .int 3]) (rest := []) h (c_X10_in C.2.1 x3 1 3 _ rfl) ml_X10_93 biX10_in rfl rfl hdX10_in ⟨Nat.le_of_ble_eq_true rfl, Nat.le_of_ble_eq_true rfl⟩ rfl rfl (Nat.le_of_ble_eq_true rfl) dX10_setActions_19 ?_
      refine x_if_ne (tgt := 27) h dX10_setActions_22 (by decide) (q := 25) rfl hf6 (fun hc7 hf8 => ?_) (fun hc7 hf8 => ?_)
      · skip
        refine x_aload_n h dX10_setActions_27 rfl 0 rfl (q := 28) rfl ?_
        obtain ⟨u9, hu9, hf10⟩ := bnd_inv hf8
        refine x_callVv (As := []) (rest := []) h hg (c_X10_edit C.2.1 hg.2.1 σ _ hu9) ml_X10_122 biX10_edit rfl rfl hdX10_edit ⟨Nat.le_of_ble_eq_true rfl, Nat.le_of_ble_eq_true rfl⟩ (by decide) (cE_87 g _) rfl rfl rfl (Nat.le_of_ble_eq_true rfl) dX10_setActions_28 ?_
        refine x_aload_n h dX10_setActions_31 rfl 0 rfl (q := 32) rfl ?_
        refine x_get_X10_87_1 h hg kf_X10_7 nn_X10 dX10_setActions_32 ?_
        refine x_bipush (v := 100) h dX10_setActions_35 (by decide) (q := 37) rfl ?_
        refine x_iload_n h dX10_setActions_37 rfl 1 rfl (q := 38) rfl ?_
        refine x_imul h dX10_setActions_38 (q := 39) rfl ?_
        refine x_iconst (v := 1) h dX10_setActions_39 (by decide) (q := 40) rfl ?_
        refine x_iadd h dX10_setActions_40 (q := 41) rfl ?_
        refine x_iload_n h dX10_setActions_41 rfl 2 rfl (q := 42) rfl ?_
        refine x_iadd h dX10_setActions_42 (q := 43) rfl ?_
        obtain ⟨hi11, hf12⟩ := chk_inv hf10
        refine x_iald (j := (Int32.toNatClampNeg (((100 * x1) + 1) + x2))) h hg a_88 hi11 rfl dX10_setActions_43 (q := 44) rfl ?_
        refine x_istore (lv' := [(4, .int (u9 88 (Int32.toNatClampNeg (((100 * x1) + 1) + x2)))), (0, .ref (gA g 87)), (1, .int x1), (2, .int x2), (3, .int x3)]) h dX10_setActions_44 hL (by decide) rfl (q := 46) rfl ?_
        refine x_aload_n h dX10_setActions_46 rfl 1 rfl (q := 47) rfl ?_
        refine x_get_X10_87_1 h hg kf_X10_7 nn_X10 dX10_setActions_47 ?_
        refine x_bipush (v := 100) h dX10_setActions_50 (by decide) (q := 52) rfl ?_
        refine x_iload_n h dX10_setActions_52 rfl 2 rfl (q := 53) rfl ?_
        refine x_imul h dX10_setActions_53 (q := 54) rfl ?_
        refine x_iconst (v := 1) h dX10_setActions_54 (by decide) (q := 55) rfl ?_
        refine x_iadd h dX10_setActions_55 (q := 56) rfl ?_
        refine x_iload_n h dX10_setActions_56 rfl 3 rfl (q := 57) rfl ?_
        refine x_iadd h dX10_setActions_57 (q := 58) rfl ?_
        refine x_iload_n h dX10_setActions_58 rfl 4 rfl (q := 59) rfl ?_
        obtain ⟨hi13, hf14⟩ := chk_inv hf12
        refine x_iast (j := (Int32.toNatClampNeg (((100 * x1) + 1) + x2))) h hg a_88 hi13 rfl dX10_setActions_59 (q := 60) rfl ?_
        refine x_aload_n h dX10_setActions_60 rfl 1 rfl (q := 61) rfl ?_
        refine x_iload_n h dX10_setActions_61 rfl 2 rfl (q := 62) rfl ?_
        obtain ⟨u15, hu15, hf16⟩ := bnd_inv hf14
        refine x_callVv (As := [.int x1]) (rest := []) h hg (c_X10_leadsBack C.2.1 hg.2.1 (up u9 88 (Int32.toNatClampNeg (((100 * x1) + 1) + x2)) x3) x1 _ hu15) ml_X10_125 biX10_leadsBack rfl rfl hdX10_leadsBack ⟨Nat.le_of_ble_eq_true rfl, Nat.le_of_ble_eq_true rfl⟩ (by decide) (cE_87 g _) rfl rfl rfl (Nat.le_of_ble_eq_true rfl) dX10_setActions_62 ?_
        refine x_iload h dX10_setActions_65 0 rfl (q := 67) rfl ?_
        have hz := Option.some.inj hf16
        subst hz
        exact x_iret h hg hr dX10_setActions_67
      · skip
        refine x_iconst (v := (-1)) h dX10_setActions_25 (by decide) (q := 26) rfl ?_
        have hz := Option.some.inj hf8
        subst hz
        exact x_iret h hg hr dX10_setActions_26
theorem c_X10_setActions (l : Launch) {g : cG} (hi : gInj g) (σ : St) (x1 : Int32) (x2 : Int32) (x3 : Int32) (o : Int32 × St) (hf : m_X10_setActions σ x1 x2 x3 = some o) : Met l yX10_setActions (wT yX10_setActions cX10_setActions 5 (some .int)) rmX10_setActions (va_Pc [.ref (gA g 87), .int x1, .int x2, .int x3] (XPre g σ)) (XQ g (some (.int o.1)) o.2) 0 0 (cA g) :=
  X_met RX10 hi plX10 rfl (Nat.le_of_ble_eq_true rfl) rfl (fun _ _ _ h hg hL hr => w_X10_setActions σ x1 x2 x3 o h hg hL hr hf)
abbrev rmX10_actions : Room := { frames := 2, cells := 0, slots := 0, locals := 43 }
theorem hdX10_actions : yX10_actions.cls = RX10 ∧ yX10_actions.cls ≠ "java/lang/invoke/MethodHandle" ∧ yX10_actions.cls ≠ "java/lang/invoke/VarHandle" ∧ (parseMethodDescriptor yX10_actions.desc).map (fun d => d.parameters.length) = some 2 := by decide +kernel
def m_X10_actions (σ : St) (x1 : Int32) (x2 : Int32) : Option (Int32) :=
  (m_X10_isState σ x1).bind fun u1 =>
  if (bI u1) = 0 then (
    some (-1)
  ) else (
    if (bI (m_X10_isAgent σ x2)) = 0 then (
      some (-1)
    ) else (
      chk (((100 * x1) + 1) + x2) 1201 <|
      some (σ 88 (Int32.toNatClampNeg (((100 * x1) + 1) + x2)))
    )
  )
set_option maxHeartbeats 4000000 in
set_option maxRecDepth 100000 in
theorem w_X10_actions {C : XC} {Q : State → Prop} {g : cG} (σ : St) (x1 : Int32) (x2 : Int32) (o : Int32) (h : XOk C cX10_actions RX10 tG rmX10_actions) (hg : XG C g) (hL : C.2.2.2.2.2.2.2.2.2.2.2.2.1 = 3) (hr : XEnd C (some .int) Q (XQ g (some (.int o)) σ) (cA g)) (hf : m_X10_actions σ x1 x2 = some o) : Xs C (wW g) Q σ 0 [(0, .ref (gA g 87)), (1, .int x1), (2, .int x2)] [] := by
  unfold m_X10_actions at hf
  refine x_aload_n h dX10_actions_0 rfl 0 rfl (q := 1) rfl ?_
  refine x_iload_n h dX10_actions_1 rfl 1 rfl (q := 2) rfl ?_
  obtain ⟨u1, hu1, hf2⟩ := bnd_inv hf
  refine x_callVi (As := [.int x1]) (rest := []) h hg (c_X10_isState C.2.1 hg.2.1 σ x1 _ hu1) ml_X10_129 biX10_isState rfl rfl hdX10_isState ⟨Nat.le_of_ble_eq_true rfl, Nat.le_of_ble_eq_true rfl⟩ (by decide) (cE_87 g _) rfl rfl rfl (Nat.le_of_ble_eq_true rfl) dX10_actions_2 ?_
  refine x_if_eq (tgt := 32) h dX10_actions_5 (by decide) (q := 8) rfl hf2 (fun hc3 hf4 => ?_) (fun hc3 hf4 => ?_)
  · skip
    refine x_iconst (v := (-1)) h dX10_actions_32 (by decide) (q := 33) rfl ?_
    have hz := Option.some.inj hf4
    subst hz
    exact x_iret h hg hr dX10_actions_33
  · skip
    refine x_aload_n h dX10_actions_8 rfl 0 rfl (q := 9) rfl ?_
    refine x_iload_n h dX10_actions_9 rfl 2 rfl (q := 10) rfl ?_
    refine x_callVi (As := [.int x2]) (rest := []) h hg (c_X10_isAgent C.2.1 hg.2.1 σ x2 _ rfl) ml_X10_133 biX10_isAgent rfl rfl hdX10_isAgent ⟨Nat.le_of_ble_eq_true rfl, Nat.le_of_ble_eq_true rfl⟩ (by decide) (cE_87 g _) rfl rfl rfl (Nat.le_of_ble_eq_true rfl) dX10_actions_10 ?_
    refine x_if_eq (tgt := 32) h dX10_actions_13 (by decide) (q := 16) rfl hf4 (fun hc5 hf6 => ?_) (fun hc5 hf6 => ?_)
    · skip
      refine x_iconst (v := (-1)) h dX10_actions_32 (by decide) (q := 33) rfl ?_
      have hz := Option.some.inj hf6
      subst hz
      exact x_iret h hg hr dX10_actions_33
    · skip
      refine x_aload_n h dX10_actions_16 rfl 0 rfl (q := 17) rfl ?_
      refine x_get_X10_87_1 h hg kf_X10_7 nn_X10 dX10_actions_17 ?_
      refine x_bipush (v := 100) h dX10_actions_20 (by decide) (q := 22) rfl ?_
      refine x_iload_n h dX10_actions_22 rfl 1 rfl (q := 23) rfl ?_
      refine x_imul h dX10_actions_23 (q := 24) rfl ?_
      refine x_iconst (v := 1) h dX10_actions_24 (by decide) (q := 25) rfl ?_
      refine x_iadd h dX10_actions_25 (q := 26) rfl ?_
      refine x_iload_n h dX10_actions_26 rfl 2 rfl (q := 27) rfl ?_
      refine x_iadd h dX10_actions_27 (q := 28) rfl ?_
      obtain ⟨hi7, hf8⟩ := chk_inv hf6
      refine x_iald (j := (Int32.toNatClampNeg (((100 * x1) + 1) + x2))) h hg a_88 hi7 rfl dX10_actions_28 (q := 29) rfl ?_
      refine x_goto (q := 33) h dX10_actions_29 (by decide) ?_
      have hz := Option.some.inj hf8
      subst hz
      exact x_iret h hg hr dX10_actions_33
theorem c_X10_actions (l : Launch) {g : cG} (hi : gInj g) (σ : St) (x1 : Int32) (x2 : Int32) (o : Int32) (hf : m_X10_actions σ x1 x2 = some o) : Met l yX10_actions (wT yX10_actions cX10_actions 3 (some .int)) rmX10_actions (va_Pc [.ref (gA g 87), .int x1, .int x2] (XPre g σ)) (XQ g (some (.int o)) σ) 0 0 (cA g) :=
  X_met RX10 hi plX10 rfl (Nat.le_of_ble_eq_true rfl) rfl (fun _ _ _ h hg hL hr => w_X10_actions σ x1 x2 o h hg hL hr hf)
abbrev rmX10_label : Room := { frames := 2, cells := 0, slots := 0, locals := 43 }
theorem hdX10_label : yX10_label.cls = RX10 ∧ yX10_label.cls ≠ "java/lang/invoke/MethodHandle" ∧ yX10_label.cls ≠ "java/lang/invoke/VarHandle" ∧ (parseMethodDescriptor yX10_label.desc).map (fun d => d.parameters.length) = some 3 := by decide +kernel
def m_X10_label_b75 (σ : St) (x4 : Int32) (x5 : Int32) (s0 : Int32) (s1 : Int32) : Option (Int32 × St) :=
  chk s1 1201 <|
  if (x5 &&& x4) = 0 then (
    some (0, (up σ 88 (Int32.toNatClampNeg s1) s0))
  ) else (
    some (1, (up σ 88 (Int32.toNatClampNeg s1) s0))
  )
set_option maxHeartbeats 4000000 in
set_option maxRecDepth 100000 in
theorem w_X10_label_b75 {C : XC} {Q : State → Prop} {g : cG} (σ : St) (x4 : Int32) (x5 : Int32) (s0 : Int32) (s1 : Int32) (o : Int32 × St) (h : XOk C cX10_label RX10 tG rmX10_label) (hg : XG C g) (hL : C.2.2.2.2.2.2.2.2.2.2.2.2.1 = 6) (hr : XEnd C (some .int) Q (XQ g (some (.int o.1)) o.2) (cA g)) (hf : m_X10_label_b75 σ x4 x5 s0 s1  = some o) : Xs C (wW g) Q σ 75 [(4, .int x4), (5, .int x5)] [.int s0, .int s1, .ref (gA g 88)] := by
  unfold m_X10_label_b75 at hf
  obtain ⟨hi1, hf2⟩ := chk_inv hf
  refine x_iast (j := (Int32.toNatClampNeg s1)) h hg a_88 hi1 rfl dX10_label_75 (q := 76) rfl ?_
  refine x_iload h dX10_label_76 1 rfl (q := 78) rfl ?_
  refine x_iload h dX10_label_78 0 rfl (q := 80) rfl ?_
  refine x_iand h dX10_label_80 (q := 81) rfl ?_
  refine x_if_eq (tgt := 88) h dX10_label_81 (by decide) (q := 84) rfl hf2 (fun hc3 hf4 => ?_) (fun hc3 hf4 => ?_)
  · skip
    refine x_iconst (v := 0) h dX10_label_88 (by decide) (q := 89) rfl ?_
    have hz := Option.some.inj hf4
    subst hz
    exact x_iret h hg hr dX10_label_89
  · skip
    refine x_iconst (v := 1) h dX10_label_84 (by decide) (q := 85) rfl ?_
    refine x_goto (q := 89) h dX10_label_85 (by decide) ?_
    have hz := Option.some.inj hf4
    subst hz
    exact x_iret h hg hr dX10_label_89
def m_X10_label (σ : St) (x1 : Int32) (x2 : Int32) (x3 : Int32) : Option (Int32 × St) :=
  (m_X10_isState σ x1).bind fun u1 =>
  if (bI u1) = 0 then (
    some ((-1), σ)
  ) else (
    if (bI (m_X10_in x2 97 122)) = 0 then (
      some ((-1), σ)
    ) else (
      (m_X10_edit σ).bind fun u7 =>
      chk ((100 * x1) + 0) 1201 <|
      if x3 = 0 then (
        m_X10_label_b75 u7 ((1 : Int32) <<< ((x2 - 97) &&& 31)) (u7 88 (Int32.toNatClampNeg ((100 * x1) + 0))) ((u7 88 (Int32.toNatClampNeg ((100 * x1) + 0))) &&& (((1 : Int32) <<< ((x2 - 97) &&& 31)) ^^^ (-1))) ((100 * x1) + 0)
      ) else (
        m_X10_label_b75 u7 ((1 : Int32) <<< ((x2 - 97) &&& 31)) (u7 88 (Int32.toNatClampNeg ((100 * x1) + 0))) ((u7 88 (Int32.toNatClampNeg ((100 * x1) + 0))) ||| ((1 : Int32) <<< ((x2 - 97) &&& 31))) ((100 * x1) + 0)
      )
    )
  )
set_option maxHeartbeats 4000000 in
set_option maxRecDepth 100000 in
theorem w_X10_label {C : XC} {Q : State → Prop} {g : cG} (σ : St) (x1 : Int32) (x2 : Int32) (x3 : Int32) (o : Int32 × St) (h : XOk C cX10_label RX10 tG rmX10_label) (hg : XG C g) (hL : C.2.2.2.2.2.2.2.2.2.2.2.2.1 = 6) (hr : XEnd C (some .int) Q (XQ g (some (.int o.1)) o.2) (cA g)) (hf : m_X10_label σ x1 x2 x3 = some o) : Xs C (wW g) Q σ 0 [(0, .ref (gA g 87)), (1, .int x1), (2, .int x2), (3, .int x3)] [] := by
  unfold m_X10_label at hf
  refine x_aload_n h dX10_label_0 rfl 0 rfl (q := 1) rfl ?_
  refine x_iload_n h dX10_label_1 rfl 1 rfl (q := 2) rfl ?_
  obtain ⟨u1, hu1, hf2⟩ := bnd_inv hf
  refine x_callVi (As := [.int x1]) (rest := []) h hg (c_X10_isState C.2.1 hg.2.1 σ x1 _ hu1) ml_X10_129 biX10_isState rfl rfl hdX10_isState ⟨Nat.le_of_ble_eq_true rfl, Nat.le_of_ble_eq_true rfl⟩ (by decide) (cE_87 g _) rfl rfl rfl (Nat.le_of_ble_eq_true rfl) dX10_label_2 ?_
  refine x_if_eq (tgt := 19) h dX10_label_5 (by decide) (q := 8) rfl hf2 (fun hc3 hf4 => ?_) (fun hc3 hf4 => ?_)
  · skip
    refine x_iconst (v := (-1)) h dX10_label_19 (by decide) (q := 20) rfl ?_
    have hz := Option.some.inj hf4
    subst hz
    exact x_iret h hg hr dX10_label_20
  · skip
    refine x_iload_n h dX10_label_8 rfl 2 rfl (q := 9) rfl ?_
    refine x_bipush (v := 97) h dX10_label_9 (by decide) (q := 11) rfl ?_
    refine x_bipush (v := 122) h dX10_label_11 (by decide) (q := 13) rfl ?_
    refine x_callPi (As := [.int x2, .int 97, .int 122]) (rest := []) h (c_X10_in C.2.1 x2 97 122 _ rfl) ml_X10_93 biX10_in rfl rfl hdX10_in ⟨Nat.le_of_ble_eq_true rfl, Nat.le_of_ble_eq_true rfl⟩ rfl rfl (Nat.le_of_ble_eq_true rfl) dX10_label_13 ?_
    refine x_if_ne (tgt := 21) h dX10_label_16 (by decide) (q := 19) rfl hf4 (fun hc5 hf6 => ?_) (fun hc5 hf6 => ?_)
    · skip
      refine x_aload_n h dX10_label_21 rfl 0 rfl (q := 22) rfl ?_
      obtain ⟨u7, hu7, hf8⟩ := bnd_inv hf6
      refine x_callVv (As := []) (rest := []) h hg (c_X10_edit C.2.1 hg.2.1 σ _ hu7) ml_X10_122 biX10_edit rfl rfl hdX10_edit ⟨Nat.le_of_ble_eq_true rfl, Nat.le_of_ble_eq_true rfl⟩ (by decide) (cE_87 g _) rfl rfl rfl (Nat.le_of_ble_eq_true rfl) dX10_label_22 ?_
      refine x_iconst (v := 1) h dX10_label_25 (by decide) (q := 26) rfl ?_
      refine x_iload_n h dX10_label_26 rfl 2 rfl (q := 27) rfl ?_
      refine x_bipush (v := 97) h dX10_label_27 (by decide) (q := 29) rfl ?_
      refine x_isub h dX10_label_29 (q := 30) rfl ?_
      refine x_ishl h dX10_label_30 (q := 31) rfl ?_
      refine x_istore (lv' := [(4, .int ((1 : Int32) <<< ((x2 - 97) &&& 31))), (0, .ref (gA g 87)), (1, .int x1), (2, .int x2), (3, .int x3)]) h dX10_label_31 hL (by decide) rfl (q := 33) rfl ?_
      refine x_aload_n h dX10_label_33 rfl 1 rfl (q := 34) rfl ?_
      refine x_get_X10_87_1 h hg kf_X10_7 nn_X10 dX10_label_34 ?_
      refine x_bipush (v := 100) h dX10_label_37 (by decide) (q := 39) rfl ?_
      refine x_iload_n h dX10_label_39 rfl 2 rfl (q := 40) rfl ?_
      refine x_imul h dX10_label_40 (q := 41) rfl ?_
      refine x_iconst (v := 0) h dX10_label_41 (by decide) (q := 42) rfl ?_
      refine x_iadd h dX10_label_42 (q := 43) rfl ?_
      obtain ⟨hi9, hf10⟩ := chk_inv hf8
      refine x_iald (j := (Int32.toNatClampNeg ((100 * x1) + 0))) h hg a_88 hi9 rfl dX10_label_43 (q := 44) rfl ?_
      refine x_istore (lv' := [(5, .int (u7 88 (Int32.toNatClampNeg ((100 * x1) + 0)))), (4, .int ((1 : Int32) <<< ((x2 - 97) &&& 31))), (0, .ref (gA g 87)), (1, .int x1), (2, .int x2), (3, .int x3)]) h dX10_label_44 hL (by decide) rfl (q := 46) rfl ?_
      refine x_aload_n h dX10_label_46 rfl 2 rfl (q := 47) rfl ?_
      refine x_get_X10_87_1 h hg kf_X10_7 nn_X10 dX10_label_47 ?_
      refine x_bipush (v := 100) h dX10_label_50 (by decide) (q := 52) rfl ?_
      refine x_iload_n h dX10_label_52 rfl 3 rfl (q := 53) rfl ?_
      refine x_imul h dX10_label_53 (q := 54) rfl ?_
      refine x_iconst (v := 0) h dX10_label_54 (by decide) (q := 55) rfl ?_
      refine x_iadd h dX10_label_55 (q := 56) rfl ?_
      refine x_iload_n h dX10_label_56 rfl 5 rfl (q := 57) rfl ?_
      refine x_if_eq (tgt := 68) h dX10_label_57 (by decide) (q := 60) rfl hf10 (fun hc11 hf12 => ?_) (fun hc11 hf12 => ?_)
      · skip
        refine x_iload h dX10_label_68 0 rfl (q := 70) rfl ?_
        refine x_iload h dX10_label_70 1 rfl (q := 72) rfl ?_
        refine x_iconst (v := (-1)) h dX10_label_72 (by decide) (q := 73) rfl ?_
        refine x_ixor h dX10_label_73 (q := 74) rfl ?_
        refine x_iand h dX10_label_74 (q := 75) rfl ?_
        refine x_sub (lv' := [(4, .int ((1 : Int32) <<< ((x2 - 97) &&& 31))), (5, .int (u7 88 (Int32.toNatClampNeg ((100 * x1) + 0))))]) [1, 0] rfl ?_
        exact w_X10_label_b75 u7 ((1 : Int32) <<< ((x2 - 97) &&& 31)) (u7 88 (Int32.toNatClampNeg ((100 * x1) + 0))) ((u7 88 (Int32.toNatClampNeg ((100 * x1) + 0))) &&& (((1 : Int32) <<< ((x2 - 97) &&& 31)) ^^^ (-1))) ((100 * x1) + 0) o h hg hL hr hf12
      · skip
        refine x_iload h dX10_label_60 0 rfl (q := 62) rfl ?_
        refine x_iload h dX10_label_62 1 rfl (q := 64) rfl ?_
        refine x_ior h dX10_label_64 (q := 65) rfl ?_
        refine x_goto (q := 75) h dX10_label_65 (by decide) ?_
        refine x_sub (lv' := [(4, .int ((1 : Int32) <<< ((x2 - 97) &&& 31))), (5, .int (u7 88 (Int32.toNatClampNeg ((100 * x1) + 0))))]) [1, 0] rfl ?_
        exact w_X10_label_b75 u7 ((1 : Int32) <<< ((x2 - 97) &&& 31)) (u7 88 (Int32.toNatClampNeg ((100 * x1) + 0))) ((u7 88 (Int32.toNatClampNeg ((100 * x1) + 0))) ||| ((1 : Int32) <<< ((x2 - 97) &&& 31))) ((100 * x1) + 0) o h hg hL hr hf12
    · skip
      refine x_iconst (v := (-1)) h dX10_label_19 (by decide) (q := 20) rfl ?_
      have hz := Option.some.inj hf6
      subst hz
      exact x_iret h hg hr dX10_label_20
theorem c_X10_label (l : Launch) {g : cG} (hi : gInj g) (σ : St) (x1 : Int32) (x2 : Int32) (x3 : Int32) (o : Int32 × St) (hf : m_X10_label σ x1 x2 x3 = some o) : Met l yX10_label (wT yX10_label cX10_label 6 (some .int)) rmX10_label (va_Pc [.ref (gA g 87), .int x1, .int x2, .int x3] (XPre g σ)) (XQ g (some (.int o.1)) o.2) 0 0 (cA g) :=
  X_met RX10 hi plX10 rfl (Nat.le_of_ble_eq_true rfl) rfl (fun _ _ _ h hg hL hr => w_X10_label σ x1 x2 x3 o h hg hL hr hf)
abbrev rmX10_labels : Room := { frames := 2, cells := 0, slots := 0, locals := 43 }
theorem hdX10_labels : yX10_labels.cls = RX10 ∧ yX10_labels.cls ≠ "java/lang/invoke/MethodHandle" ∧ yX10_labels.cls ≠ "java/lang/invoke/VarHandle" ∧ (parseMethodDescriptor yX10_labels.desc).map (fun d => d.parameters.length) = some 1 := by decide +kernel
def m_X10_labels (σ : St) (x1 : Int32) : Option (Int32) :=
  (m_X10_isState σ x1).bind fun u1 =>
  if (bI u1) = 0 then (
    some (-1)
  ) else (
    chk ((100 * x1) + 0) 1201 <|
    some (σ 88 (Int32.toNatClampNeg ((100 * x1) + 0)))
  )
set_option maxHeartbeats 4000000 in
set_option maxRecDepth 100000 in
theorem w_X10_labels {C : XC} {Q : State → Prop} {g : cG} (σ : St) (x1 : Int32) (o : Int32) (h : XOk C cX10_labels RX10 tG rmX10_labels) (hg : XG C g) (hL : C.2.2.2.2.2.2.2.2.2.2.2.2.1 = 2) (hr : XEnd C (some .int) Q (XQ g (some (.int o)) σ) (cA g)) (hf : m_X10_labels σ x1 = some o) : Xs C (wW g) Q σ 0 [(0, .ref (gA g 87)), (1, .int x1)] [] := by
  unfold m_X10_labels at hf
  refine x_aload_n h dX10_labels_0 rfl 0 rfl (q := 1) rfl ?_
  refine x_iload_n h dX10_labels_1 rfl 1 rfl (q := 2) rfl ?_
  obtain ⟨u1, hu1, hf2⟩ := bnd_inv hf
  refine x_callVi (As := [.int x1]) (rest := []) h hg (c_X10_isState C.2.1 hg.2.1 σ x1 _ hu1) ml_X10_129 biX10_isState rfl rfl hdX10_isState ⟨Nat.le_of_ble_eq_true rfl, Nat.le_of_ble_eq_true rfl⟩ (by decide) (cE_87 g _) rfl rfl rfl (Nat.le_of_ble_eq_true rfl) dX10_labels_2 ?_
  refine x_if_eq (tgt := 22) h dX10_labels_5 (by decide) (q := 8) rfl hf2 (fun hc3 hf4 => ?_) (fun hc3 hf4 => ?_)
  · skip
    refine x_iconst (v := (-1)) h dX10_labels_22 (by decide) (q := 23) rfl ?_
    have hz := Option.some.inj hf4
    subst hz
    exact x_iret h hg hr dX10_labels_23
  · skip
    refine x_aload_n h dX10_labels_8 rfl 0 rfl (q := 9) rfl ?_
    refine x_get_X10_87_1 h hg kf_X10_7 nn_X10 dX10_labels_9 ?_
    refine x_bipush (v := 100) h dX10_labels_12 (by decide) (q := 14) rfl ?_
    refine x_iload_n h dX10_labels_14 rfl 1 rfl (q := 15) rfl ?_
    refine x_imul h dX10_labels_15 (q := 16) rfl ?_
    refine x_iconst (v := 0) h dX10_labels_16 (by decide) (q := 17) rfl ?_
    refine x_iadd h dX10_labels_17 (q := 18) rfl ?_
    obtain ⟨hi5, hf6⟩ := chk_inv hf4
    refine x_iald (j := (Int32.toNatClampNeg ((100 * x1) + 0))) h hg a_88 hi5 rfl dX10_labels_18 (q := 19) rfl ?_
    refine x_goto (q := 23) h dX10_labels_19 (by decide) ?_
    have hz := Option.some.inj hf6
    subst hz
    exact x_iret h hg hr dX10_labels_23
theorem c_X10_labels (l : Launch) {g : cG} (hi : gInj g) (σ : St) (x1 : Int32) (o : Int32) (hf : m_X10_labels σ x1 = some o) : Met l yX10_labels (wT yX10_labels cX10_labels 2 (some .int)) rmX10_labels (va_Pc [.ref (gA g 87), .int x1] (XPre g σ)) (XQ g (some (.int o)) σ) 0 0 (cA g) :=
  X_met RX10 hi plX10 rfl (Nat.le_of_ble_eq_true rfl) rfl (fun _ _ _ h hg hL hr => w_X10_labels σ x1 o h hg hL hr hf)
abbrev rmX10_setMove : Room := { frames := 3, cells := 0, slots := 0, locals := 65 }
theorem hdX10_setMove : yX10_setMove.cls = RX10 ∧ yX10_setMove.cls ≠ "java/lang/invoke/MethodHandle" ∧ yX10_setMove.cls ≠ "java/lang/invoke/VarHandle" ∧ (parseMethodDescriptor yX10_setMove.desc).map (fun d => d.parameters.length) = some 3 := by decide +kernel
def m_X10_setMove (σ : St) (x1 : Int32) (x2 : Int32) (x3 : Int32) : Option (Int32 × St) :=
  (m_X10_isState σ x1).bind fun u1 =>
  if (bI u1) = 0 then (
    some ((-1), σ)
  ) else (
    (m_X10_isState σ x3).bind fun u5 =>
    if (bI u5) = 0 then (
      some ((-1), σ)
    ) else (
      (m_X10_isMove σ x1 x2).bind fun u9 =>
      if (bI u9) = 0 then (
        some ((-1), σ)
      ) else (
        (m_X10_edit σ).bind fun u13 =>
        chk (((100 * x1) + 10) + x2) 1201 <|
        chk (((100 * x1) + 10) + x2) 1201 <|
        some ((u13 88 (Int32.toNatClampNeg (((100 * x1) + 10) + x2))), (up u13 88 (Int32.toNatClampNeg (((100 * x1) + 10) + x2)) x3))
      )
    )
  )
set_option maxHeartbeats 4000000 in
set_option maxRecDepth 100000 in
theorem w_X10_setMove {C : XC} {Q : State → Prop} {g : cG} (σ : St) (x1 : Int32) (x2 : Int32) (x3 : Int32) (o : Int32 × St) (h : XOk C cX10_setMove RX10 tG rmX10_setMove) (hg : XG C g) (hL : C.2.2.2.2.2.2.2.2.2.2.2.2.1 = 5) (hr : XEnd C (some .int) Q (XQ g (some (.int o.1)) o.2) (cA g)) (hf : m_X10_setMove σ x1 x2 x3 = some o) : Xs C (wW g) Q σ 0 [(0, .ref (gA g 87)), (1, .int x1), (2, .int x2), (3, .int x3)] [] := by
  unfold m_X10_setMove at hf
  refine x_aload_n h dX10_setMove_0 rfl 0 rfl (q := 1) rfl ?_
  refine x_iload_n h dX10_setMove_1 rfl 1 rfl (q := 2) rfl ?_
  obtain ⟨u1, hu1, hf2⟩ := bnd_inv hf
  refine x_callVi (As := [.int x1]) (rest := []) h hg (c_X10_isState C.2.1 hg.2.1 σ x1 _ hu1) ml_X10_129 biX10_isState rfl rfl hdX10_isState ⟨Nat.le_of_ble_eq_true rfl, Nat.le_of_ble_eq_true rfl⟩ (by decide) (cE_87 g _) rfl rfl rfl (Nat.le_of_ble_eq_true rfl) dX10_setMove_2 ?_
  refine x_if_eq (tgt := 25) h dX10_setMove_5 (by decide) (q := 8) rfl hf2 (fun hc3 hf4 => ?_) (fun hc3 hf4 => ?_)
  · skip
    refine x_iconst (v := (-1)) h dX10_setMove_25 (by decide) (q := 26) rfl ?_
    have hz := Option.some.inj hf4
    subst hz
    exact x_iret h hg hr dX10_setMove_26
  · skip
    refine x_aload_n h dX10_setMove_8 rfl 0 rfl (q := 9) rfl ?_
    refine x_iload_n h dX10_setMove_9 rfl 3 rfl (q := 10) rfl ?_
    obtain ⟨u5, hu5, hf6⟩ := bnd_inv hf4
    refine x_callVi (As := [.int x3]) (rest := []) h hg (c_X10_isState C.2.1 hg.2.1 σ x3 _ hu5) ml_X10_129 biX10_isState rfl rfl hdX10_isState ⟨Nat.le_of_ble_eq_true rfl, Nat.le_of_ble_eq_true rfl⟩ (by decide) (cE_87 g _) rfl rfl rfl (Nat.le_of_ble_eq_true rfl) dX10_setMove_10 ?_
    refine x_if_eq (tgt := 25) h dX10_setMove_13 (by decide) (q := 16) rfl hf6 (fun hc7 hf8 => ?_) (fun hc7 hf8 => ?_)
    · skip
      refine x_iconst (v := (-1)) h dX10_setMove_25 (by decide) (q := 26) rfl ?_
      have hz := Option.some.inj hf8
      subst hz
      exact x_iret h hg hr dX10_setMove_26
    · skip
      refine x_aload_n h dX10_setMove_16 rfl 0 rfl (q := 17) rfl ?_
      refine x_iload_n h dX10_setMove_17 rfl 1 rfl (q := 18) rfl ?_
      refine x_iload_n h dX10_setMove_18 rfl 2 rfl (q := 19) rfl ?_
      obtain ⟨u9, hu9, hf10⟩ := bnd_inv hf8
      refine x_callVi (As := [.int x1, .int x2]) (rest := []) h hg (c_X10_isMove C.2.1 hg.2.1 σ x1 x2 _ hu9) ml_X10_105 biX10_isMove rfl rfl hdX10_isMove ⟨Nat.le_of_ble_eq_true rfl, Nat.le_of_ble_eq_true rfl⟩ (by decide) (cE_87 g _) rfl rfl rfl (Nat.le_of_ble_eq_true rfl) dX10_setMove_19 ?_
      refine x_if_ne (tgt := 27) h dX10_setMove_22 (by decide) (q := 25) rfl hf10 (fun hc11 hf12 => ?_) (fun hc11 hf12 => ?_)
      · skip
        refine x_aload_n h dX10_setMove_27 rfl 0 rfl (q := 28) rfl ?_
        obtain ⟨u13, hu13, hf14⟩ := bnd_inv hf12
        refine x_callVv (As := []) (rest := []) h hg (c_X10_edit C.2.1 hg.2.1 σ _ hu13) ml_X10_122 biX10_edit rfl rfl hdX10_edit ⟨Nat.le_of_ble_eq_true rfl, Nat.le_of_ble_eq_true rfl⟩ (by decide) (cE_87 g _) rfl rfl rfl (Nat.le_of_ble_eq_true rfl) dX10_setMove_28 ?_
        refine x_aload_n h dX10_setMove_31 rfl 0 rfl (q := 32) rfl ?_
        refine x_get_X10_87_1 h hg kf_X10_7 nn_X10 dX10_setMove_32 ?_
        refine x_bipush (v := 100) h dX10_setMove_35 (by decide) (q := 37) rfl ?_
        refine x_iload_n h dX10_setMove_37 rfl 1 rfl (q := 38) rfl ?_
        refine x_imul h dX10_setMove_38 (q := 39) rfl ?_
        refine x_bipush (v := 10) h dX10_setMove_39 (by decide) (q := 41) rfl ?_
        refine x_iadd h dX10_setMove_41 (q := 42) rfl ?_
        refine x_iload_n h dX10_setMove_42 rfl 2 rfl (q := 43) rfl ?_
        refine x_iadd h dX10_setMove_43 (q := 44) rfl ?_
        obtain ⟨hi15, hf16⟩ := chk_inv hf14
        refine x_iald (j := (Int32.toNatClampNeg (((100 * x1) + 10) + x2))) h hg a_88 hi15 rfl dX10_setMove_44 (q := 45) rfl ?_
        refine x_istore (lv' := [(4, .int (u13 88 (Int32.toNatClampNeg (((100 * x1) + 10) + x2)))), (0, .ref (gA g 87)), (1, .int x1), (2, .int x2), (3, .int x3)]) h dX10_setMove_45 hL (by decide) rfl (q := 47) rfl ?_
        refine x_aload_n h dX10_setMove_47 rfl 1 rfl (q := 48) rfl ?_
        refine x_get_X10_87_1 h hg kf_X10_7 nn_X10 dX10_setMove_48 ?_
        refine x_bipush (v := 100) h dX10_setMove_51 (by decide) (q := 53) rfl ?_
        refine x_iload_n h dX10_setMove_53 rfl 2 rfl (q := 54) rfl ?_
        refine x_imul h dX10_setMove_54 (q := 55) rfl ?_
        refine x_bipush (v := 10) h dX10_setMove_55 (by decide) (q := 57) rfl ?_
        refine x_iadd h dX10_setMove_57 (q := 58) rfl ?_
        refine x_iload_n h dX10_setMove_58 rfl 3 rfl (q := 59) rfl ?_
        refine x_iadd h dX10_setMove_59 (q := 60) rfl ?_
        refine x_iload_n h dX10_setMove_60 rfl 4 rfl (q := 61) rfl ?_
        obtain ⟨hi17, hf18⟩ := chk_inv hf16
        refine x_iast (j := (Int32.toNatClampNeg (((100 * x1) + 10) + x2))) h hg a_88 hi17 rfl dX10_setMove_61 (q := 62) rfl ?_
        refine x_iload h dX10_setMove_62 0 rfl (q := 64) rfl ?_
        have hz := Option.some.inj hf18
        subst hz
        exact x_iret h hg hr dX10_setMove_64
      · skip
        refine x_iconst (v := (-1)) h dX10_setMove_25 (by decide) (q := 26) rfl ?_
        have hz := Option.some.inj hf12
        subst hz
        exact x_iret h hg hr dX10_setMove_26
theorem c_X10_setMove (l : Launch) {g : cG} (hi : gInj g) (σ : St) (x1 : Int32) (x2 : Int32) (x3 : Int32) (o : Int32 × St) (hf : m_X10_setMove σ x1 x2 x3 = some o) : Met l yX10_setMove (wT yX10_setMove cX10_setMove 5 (some .int)) rmX10_setMove (va_Pc [.ref (gA g 87), .int x1, .int x2, .int x3] (XPre g σ)) (XQ g (some (.int o.1)) o.2) 0 0 (cA g) :=
  X_met RX10 hi plX10 rfl (Nat.le_of_ble_eq_true rfl) rfl (fun _ _ _ h hg hL hr => w_X10_setMove σ x1 x2 x3 o h hg hL hr hf)
abbrev rmX10_setAll : Room := { frames := 3, cells := 0, slots := 0, locals := 65 }
theorem hdX10_setAll : yX10_setAll.cls = RX10 ∧ yX10_setAll.cls ≠ "java/lang/invoke/MethodHandle" ∧ yX10_setAll.cls ≠ "java/lang/invoke/VarHandle" ∧ (parseMethodDescriptor yX10_setAll.desc).map (fun d => d.parameters.length) = some 4 := by decide +kernel
def m_X10_setAll_b114 (σ : St) (x1 : Int32) (x2 : Int32) (x3 : Int32) (x4 : Int32) (x6 : Int32) (s0 : Int32) (s1 : Int32) (k60 : (St × Int32 × Int32) → Option (Int32 × St)) : Option (Int32 × St) :=
  chk (((100 * x1) + 10) + x6) 1201 <|
  k60 ((up σ 88 (Int32.toNatClampNeg (((100 * x1) + 10) + x6)) x4), (s1 + s0), (x6 + 1))
set_option maxHeartbeats 4000000 in
set_option maxRecDepth 100000 in
theorem w_X10_setAll_b114 {C : XC} {Q : State → Prop} {g : cG} (σ : St) (x1 : Int32) (x2 : Int32) (x3 : Int32) (x4 : Int32) (x6 : Int32) (s0 : Int32) (s1 : Int32) (o : Int32 × St) (h : XOk C cX10_setAll RX10 tG rmX10_setAll) (hg : XG C g) (hL : C.2.2.2.2.2.2.2.2.2.2.2.2.1 = 7) (hr : XEnd C (some .int) Q (XQ g (some (.int o.1)) o.2) (cA g)) (k60 : (St × Int32 × Int32) → Option (Int32 × St)) (hk60 : ∀ z : St × Int32 × Int32, k60 z = some o → Xs C (wW g) Q z.1 60 [(0, .ref (gA g 87)), (1, .int x1), (2, .int x2), (3, .int x3), (4, .int x4), (5, .int z.2.1), (6, .int z.2.2)] []) (hf : m_X10_setAll_b114 σ x1 x2 x3 x4 x6 s0 s1 k60 = some o) : Xs C (wW g) Q σ 114 [(0, .ref (gA g 87)), (1, .int x1), (2, .int x2), (3, .int x3), (4, .int x4), (6, .int x6)] [.int s0, .int s1] := by
  unfold m_X10_setAll_b114 at hf
  refine x_iadd h dX10_setAll_114 (q := 115) rfl ?_
  refine x_istore (lv' := [(5, .int (s1 + s0)), (0, .ref (gA g 87)), (1, .int x1), (2, .int x2), (3, .int x3), (4, .int x4), (6, .int x6)]) h dX10_setAll_115 hL (by decide) rfl (q := 117) rfl ?_
  refine x_aload_n h dX10_setAll_117 rfl 1 rfl (q := 118) rfl ?_
  refine x_get_X10_87_1 h hg kf_X10_7 nn_X10 dX10_setAll_118 ?_
  refine x_bipush (v := 100) h dX10_setAll_121 (by decide) (q := 123) rfl ?_
  refine x_iload_n h dX10_setAll_123 rfl 2 rfl (q := 124) rfl ?_
  refine x_imul h dX10_setAll_124 (q := 125) rfl ?_
  refine x_bipush (v := 10) h dX10_setAll_125 (by decide) (q := 127) rfl ?_
  refine x_iadd h dX10_setAll_127 (q := 128) rfl ?_
  refine x_iload h dX10_setAll_128 6 rfl (q := 130) rfl ?_
  refine x_iadd h dX10_setAll_130 (q := 131) rfl ?_
  refine x_iload h dX10_setAll_131 5 rfl (q := 133) rfl ?_
  obtain ⟨hi1, hf2⟩ := chk_inv hf
  refine x_iast (j := (Int32.toNatClampNeg (((100 * x1) + 10) + x6))) h hg a_88 hi1 rfl dX10_setAll_133 (q := 134) rfl ?_
  refine x_iinc (v := (x6 + 1)) (lv' := [(6, .int (x6 + 1)), (5, .int (s1 + s0)), (0, .ref (gA g 87)), (1, .int x1), (2, .int x2), (3, .int x3), (4, .int x4)]) (j := 6) h dX10_setAll_134 rfl rfl hL (by decide) rfl (q := 137) rfl ?_
  refine x_goto (q := 60) h dX10_setAll_137 (by decide) ?_
  refine x_sub (lv' := [(0, .ref (gA g 87)), (1, .int x1), (2, .int x2), (3, .int x3), (4, .int x4), (5, .int (s1 + s0)), (6, .int (x6 + 1))]) [2, 3, 4, 5, 6, 1, 0] rfl ?_
  exact hk60 ((up σ 88 (Int32.toNatClampNeg (((100 * x1) + 10) + x6)) x4), (s1 + s0), (x6 + 1)) hf2
def m_X10_setAll_b60 (σ : St) (x1 : Int32) (x2 : Int32) (x3 : Int32) (x4 : Int32) (x5 : Int32) (x6 : Int32) (k60 : (St × Int32 × Int32) → Option (Int32 × St)) : Option (Int32 × St) :=
  if 81 ≤ x6 then (
    some (x5, σ)
  ) else (
    (m_X10_isMove σ x1 x6).bind fun u3 =>
    if (bI u3) = 0 then (
      k60 (σ, x5, (x6 + 1))
    ) else (
      (m_X10_digit x6 x2).bind fun u7 =>
      if u7 = x3 then (
        chk (((100 * x1) + 10) + x6) 1201 <|
        if (σ 88 (Int32.toNatClampNeg (((100 * x1) + 10) + x6))) = x4 then (
          m_X10_setAll_b114 σ x1 x2 x3 x4 x6 0 x5 k60
        ) else (
          m_X10_setAll_b114 σ x1 x2 x3 x4 x6 1 x5 k60
        )
      ) else (
        k60 (σ, x5, (x6 + 1))
      )
    )
  )
set_option maxHeartbeats 4000000 in
set_option maxRecDepth 100000 in
theorem w_X10_setAll_b60 {C : XC} {Q : State → Prop} {g : cG} (σ : St) (x1 : Int32) (x2 : Int32) (x3 : Int32) (x4 : Int32) (x5 : Int32) (x6 : Int32) (o : Int32 × St) (h : XOk C cX10_setAll RX10 tG rmX10_setAll) (hg : XG C g) (hL : C.2.2.2.2.2.2.2.2.2.2.2.2.1 = 7) (hr : XEnd C (some .int) Q (XQ g (some (.int o.1)) o.2) (cA g)) (k60 : (St × Int32 × Int32) → Option (Int32 × St)) (hk60 : ∀ z : St × Int32 × Int32, k60 z = some o → Xs C (wW g) Q z.1 60 [(0, .ref (gA g 87)), (1, .int x1), (2, .int x2), (3, .int x3), (4, .int x4), (5, .int z.2.1), (6, .int z.2.2)] []) (hf : m_X10_setAll_b60 σ x1 x2 x3 x4 x5 x6 k60 = some o) : Xs C (wW g) Q σ 60 [(0, .ref (gA g 87)), (1, .int x1), (2, .int x2), (3, .int x3), (4, .int x4), (5, .int x5), (6, .int x6)] [] := by
  unfold m_X10_setAll_b60 at hf
  refine x_iload h dX10_setAll_60 6 rfl (q := 62) rfl ?_
  refine x_bipush (v := 81) h dX10_setAll_62 (by decide) (q := 64) rfl ?_
  refine x_icmp_ge (tgt := 140) h dX10_setAll_64 (by decide) (q := 67) rfl hf (fun hc1 hf2 => ?_) (fun hc1 hf2 => ?_)
  · skip
    refine x_iload h dX10_setAll_140 5 rfl (q := 142) rfl ?_
    have hz := Option.some.inj hf2
    subst hz
    exact x_iret h hg hr dX10_setAll_142
  · skip
    refine x_aload_n h dX10_setAll_67 rfl 0 rfl (q := 68) rfl ?_
    refine x_iload_n h dX10_setAll_68 rfl 1 rfl (q := 69) rfl ?_
    refine x_iload h dX10_setAll_69 6 rfl (q := 71) rfl ?_
    obtain ⟨u3, hu3, hf4⟩ := bnd_inv hf2
    refine x_callVi (As := [.int x1, .int x6]) (rest := []) h hg (c_X10_isMove C.2.1 hg.2.1 σ x1 x6 _ hu3) ml_X10_105 biX10_isMove rfl rfl hdX10_isMove ⟨Nat.le_of_ble_eq_true rfl, Nat.le_of_ble_eq_true rfl⟩ (by decide) (cE_87 g _) rfl rfl rfl (Nat.le_of_ble_eq_true rfl) dX10_setAll_71 ?_
    refine x_if_eq (tgt := 134) h dX10_setAll_74 (by decide) (q := 77) rfl hf4 (fun hc5 hf6 => ?_) (fun hc5 hf6 => ?_)
    · skip
      refine x_iinc (v := (x6 + 1)) (lv' := [(6, .int (x6 + 1)), (0, .ref (gA g 87)), (1, .int x1), (2, .int x2), (3, .int x3), (4, .int x4), (5, .int x5)]) (j := 6) h dX10_setAll_134 rfl rfl hL (by decide) rfl (q := 137) rfl ?_
      refine x_goto (q := 60) h dX10_setAll_137 (by decide) ?_
      refine x_sub (lv' := [(0, .ref (gA g 87)), (1, .int x1), (2, .int x2), (3, .int x3), (4, .int x4), (5, .int x5), (6, .int (x6 + 1))]) [1, 2, 3, 4, 5, 6, 0] rfl ?_
      exact hk60 (σ, x5, (x6 + 1)) hf6
    · skip
      refine x_iload h dX10_setAll_77 6 rfl (q := 79) rfl ?_
      refine x_iload_n h dX10_setAll_79 rfl 2 rfl (q := 80) rfl ?_
      obtain ⟨u7, hu7, hf8⟩ := bnd_inv hf6
      refine x_callPi (As := [.int x6, .int x2]) (rest := []) h (c_X10_digit C.2.1 x6 x2 _ hu7) ml_X10_101 biX10_digit rfl rfl hdX10_digit ⟨Nat.le_of_ble_eq_true rfl, Nat.le_of_ble_eq_true rfl⟩ rfl rfl (Nat.le_of_ble_eq_true rfl) dX10_setAll_80 ?_
      refine x_iload_n h dX10_setAll_83 rfl 3 rfl (q := 84) rfl ?_
      refine x_icmp_ne (tgt := 134) h dX10_setAll_84 (by decide) (q := 87) rfl hf8 (fun hc9 hf10 => ?_) (fun hc9 hf10 => ?_)
      · skip
        refine x_iinc (v := (x6 + 1)) (lv' := [(6, .int (x6 + 1)), (0, .ref (gA g 87)), (1, .int x1), (2, .int x2), (3, .int x3), (4, .int x4), (5, .int x5)]) (j := 6) h dX10_setAll_134 rfl rfl hL (by decide) rfl (q := 137) rfl ?_
        refine x_goto (q := 60) h dX10_setAll_137 (by decide) ?_
        refine x_sub (lv' := [(0, .ref (gA g 87)), (1, .int x1), (2, .int x2), (3, .int x3), (4, .int x4), (5, .int x5), (6, .int (x6 + 1))]) [1, 2, 3, 4, 5, 6, 0] rfl ?_
        exact hk60 (σ, x5, (x6 + 1)) hf10
      · skip
        refine x_iload h dX10_setAll_87 5 rfl (q := 89) rfl ?_
        refine x_aload_n h dX10_setAll_89 rfl 0 rfl (q := 90) rfl ?_
        refine x_get_X10_87_1 h hg kf_X10_7 nn_X10 dX10_setAll_90 ?_
        refine x_bipush (v := 100) h dX10_setAll_93 (by decide) (q := 95) rfl ?_
        refine x_iload_n h dX10_setAll_95 rfl 1 rfl (q := 96) rfl ?_
        refine x_imul h dX10_setAll_96 (q := 97) rfl ?_
        refine x_bipush (v := 10) h dX10_setAll_97 (by decide) (q := 99) rfl ?_
        refine x_iadd h dX10_setAll_99 (q := 100) rfl ?_
        refine x_iload h dX10_setAll_100 6 rfl (q := 102) rfl ?_
        refine x_iadd h dX10_setAll_102 (q := 103) rfl ?_
        obtain ⟨hi11, hf12⟩ := chk_inv hf10
        refine x_iald (j := (Int32.toNatClampNeg (((100 * x1) + 10) + x6))) h hg a_88 hi11 rfl dX10_setAll_103 (q := 104) rfl ?_
        refine x_iload h dX10_setAll_104 4 rfl (q := 106) rfl ?_
        refine x_icmp_eq (tgt := 113) h dX10_setAll_106 (by decide) (q := 109) rfl hf12 (fun hc13 hf14 => ?_) (fun hc13 hf14 => ?_)
        · skip
          refine x_iconst (v := 0) h dX10_setAll_113 (by decide) (q := 114) rfl ?_
          refine x_sub (lv' := [(0, .ref (gA g 87)), (1, .int x1), (2, .int x2), (3, .int x3), (4, .int x4), (6, .int x6)]) [0, 1, 2, 3, 4, 6] rfl ?_
          exact w_X10_setAll_b114 σ x1 x2 x3 x4 x6 0 x5 o h hg hL hr k60 hk60 hf14
        · skip
          refine x_iconst (v := 1) h dX10_setAll_109 (by decide) (q := 110) rfl ?_
          refine x_goto (q := 114) h dX10_setAll_110 (by decide) ?_
          refine x_sub (lv' := [(0, .ref (gA g 87)), (1, .int x1), (2, .int x2), (3, .int x3), (4, .int x4), (6, .int x6)]) [0, 1, 2, 3, 4, 6] rfl ?_
          exact w_X10_setAll_b114 σ x1 x2 x3 x4 x6 1 x5 o h hg hL hr k60 hk60 hf14
set_option maxHeartbeats 4000000 in
set_option maxRecDepth 100000 in
theorem w_X10_setAll_l60 {C : XC} {Q : State → Prop} {g : cG} (x1 : Int32) (x2 : Int32) (x3 : Int32) (x4 : Int32) (o : Int32 × St) (h : XOk C cX10_setAll RX10 tG rmX10_setAll) (hg : XG C g) (hL : C.2.2.2.2.2.2.2.2.2.2.2.2.1 = 7) (hr : XEnd C (some .int) Q (XQ g (some (.int o.1)) o.2) (cA g)) : ∀ (n : Nat) (z : St × Int32 × Int32), loopF (fun k z => m_X10_setAll_b60 z.1 x1 x2 x3 x4 z.2.1 z.2.2 k) n z = some o → Xs C (wW g) Q z.1 60 [(0, .ref (gA g 87)), (1, .int x1), (2, .int x2), (3, .int x3), (4, .int x4), (5, .int z.2.1), (6, .int z.2.2)] [] := by
  intro n z hf
  refine loopF_ind (S := St × Int32 × Int32) (O := Int32 × St) (step := (fun k z => m_X10_setAll_b60 z.1 x1 x2 x3 x4 z.2.1 z.2.2 k)) (o := o) (P := fun z => Xs C (wW g) Q z.1 60 [(0, .ref (gA g 87)), (1, .int x1), (2, .int x2), (3, .int x3), (4, .int x4), (5, .int z.2.1), (6, .int z.2.2)] []) ?_ n z hf
  intro k hk z hf
  exact w_X10_setAll_b60 z.1 x1 x2 x3 x4 z.2.1 z.2.2 o h hg hL hr k hk hf
def m_X10_setAll (σ : St) (x1 : Int32) (x2 : Int32) (x3 : Int32) (x4 : Int32) : Option (Int32 × St) :=
  (m_X10_isState σ x1).bind fun u1 =>
  if (bI u1) = 0 then (
    some ((-1), σ)
  ) else (
    if (bI (m_X10_isAgent σ x2)) = 0 then (
      some ((-1), σ)
    ) else (
      (m_X10_isState σ x4).bind fun u7 =>
      if (bI u7) = 0 then (
        some ((-1), σ)
      ) else (
        chk (((100 * x1) + 1) + x2) 1201 <|
        if (bI (m_X10_in x3 0 ((σ 88 (Int32.toNatClampNeg (((100 * x1) + 1) + x2))) - 1))) = 0 then (
          some ((-1), σ)
        ) else (
          (m_X10_edit σ).bind fun u15 =>
          loopF (fun k z => m_X10_setAll_b60 z.1 x1 x2 x3 x4 z.2.1 z.2.2 k) cFu (u15, 0, 0)
        )
      )
    )
  )
set_option maxHeartbeats 4000000 in
set_option maxRecDepth 100000 in
theorem w_X10_setAll {C : XC} {Q : State → Prop} {g : cG} (σ : St) (x1 : Int32) (x2 : Int32) (x3 : Int32) (x4 : Int32) (o : Int32 × St) (h : XOk C cX10_setAll RX10 tG rmX10_setAll) (hg : XG C g) (hL : C.2.2.2.2.2.2.2.2.2.2.2.2.1 = 7) (hr : XEnd C (some .int) Q (XQ g (some (.int o.1)) o.2) (cA g)) (hf : m_X10_setAll σ x1 x2 x3 x4 = some o) : Xs C (wW g) Q σ 0 [(0, .ref (gA g 87)), (1, .int x1), (2, .int x2), (3, .int x3), (4, .int x4)] [] := by
  unfold m_X10_setAll at hf
  refine x_aload_n h dX10_setAll_0 rfl 0 rfl (q := 1) rfl ?_
  refine x_iload_n h dX10_setAll_1 rfl 1 rfl (q := 2) rfl ?_
  obtain ⟨u1, hu1, hf2⟩ := bnd_inv hf
  refine x_callVi (As := [.int x1]) (rest := []) h hg (c_X10_isState C.2.1 hg.2.1 σ x1 _ hu1) ml_X10_129 biX10_isState rfl rfl hdX10_isState ⟨Nat.le_of_ble_eq_true rfl, Nat.le_of_ble_eq_true rfl⟩ (by decide) (cE_87 g _) rfl rfl rfl (Nat.le_of_ble_eq_true rfl) dX10_setAll_2 ?_
  refine x_if_eq (tgt := 48) h dX10_setAll_5 (by decide) (q := 8) rfl hf2 (fun hc3 hf4 => ?_) (fun hc3 hf4 => ?_)
  · skip
    refine x_iconst (v := (-1)) h dX10_setAll_48 (by decide) (q := 49) rfl ?_
    have hz := Option.some.inj hf4
    subst hz
    exact x_iret h hg hr dX10_setAll_49
  · skip
    refine x_aload_n h dX10_setAll_8 rfl 0 rfl (q := 9) rfl ?_
    refine x_iload_n h dX10_setAll_9 rfl 2 rfl (q := 10) rfl ?_
    refine x_callVi (As := [.int x2]) (rest := []) h hg (c_X10_isAgent C.2.1 hg.2.1 σ x2 _ rfl) ml_X10_133 biX10_isAgent rfl rfl hdX10_isAgent ⟨Nat.le_of_ble_eq_true rfl, Nat.le_of_ble_eq_true rfl⟩ (by decide) (cE_87 g _) rfl rfl rfl (Nat.le_of_ble_eq_true rfl) dX10_setAll_10 ?_
    refine x_if_eq (tgt := 48) h dX10_setAll_13 (by decide) (q := 16) rfl hf4 (fun hc5 hf6 => ?_) (fun hc5 hf6 => ?_)
    · skip
      refine x_iconst (v := (-1)) h dX10_setAll_48 (by decide) (q := 49) rfl ?_
      have hz := Option.some.inj hf6
      subst hz
      exact x_iret h hg hr dX10_setAll_49
    · skip
      refine x_aload_n h dX10_setAll_16 rfl 0 rfl (q := 17) rfl ?_
      refine x_iload h dX10_setAll_17 4 rfl (q := 19) rfl ?_
      obtain ⟨u7, hu7, hf8⟩ := bnd_inv hf6
      refine x_callVi (As := [.int x4]) (rest := []) h hg (c_X10_isState C.2.1 hg.2.1 σ x4 _ hu7) ml_X10_129 biX10_isState rfl rfl hdX10_isState ⟨Nat.le_of_ble_eq_true rfl, Nat.le_of_ble_eq_true rfl⟩ (by decide) (cE_87 g _) rfl rfl rfl (Nat.le_of_ble_eq_true rfl) dX10_setAll_19 ?_
      refine x_if_eq (tgt := 48) h dX10_setAll_22 (by decide) (q := 25) rfl hf8 (fun hc9 hf10 => ?_) (fun hc9 hf10 => ?_)
      · skip
        refine x_iconst (v := (-1)) h dX10_setAll_48 (by decide) (q := 49) rfl ?_
        have hz := Option.some.inj hf10
        subst hz
        exact x_iret h hg hr dX10_setAll_49
      · skip
        refine x_iload_n h dX10_setAll_25 rfl 3 rfl (q := 26) rfl ?_
        refine x_iconst (v := 0) h dX10_setAll_26 (by decide) (q := 27) rfl ?_
        refine x_aload_n h dX10_setAll_27 rfl 0 rfl (q := 28) rfl ?_
        refine x_get_X10_87_1 h hg kf_X10_7 nn_X10 dX10_setAll_28 ?_
        refine x_bipush (v := 100) h dX10_setAll_31 (by decide) (q := 33) rfl ?_
        refine x_iload_n h dX10_setAll_33 rfl 1 rfl (q := 34) rfl ?_
        refine x_imul h dX10_setAll_34 (q := 35) rfl ?_
        refine x_iconst (v := 1) h dX10_setAll_35 (by decide) (q := 36) rfl ?_
        refine x_iadd h dX10_setAll_36 (q := 37) rfl ?_
        refine x_iload_n h dX10_setAll_37 rfl 2 rfl (q := 38) rfl ?_
        refine x_iadd h dX10_setAll_38 (q := 39) rfl ?_
        obtain ⟨hi11, hf12⟩ := chk_inv hf10
        refine x_iald (j := (Int32.toNatClampNeg (((100 * x1) + 1) + x2))) h hg a_88 hi11 rfl dX10_setAll_39 (q := 40) rfl ?_
        refine x_iconst (v := 1) h dX10_setAll_40 (by decide) (q := 41) rfl ?_
        refine x_isub h dX10_setAll_41 (q := 42) rfl ?_
        refine x_callPi (As := [.int x3, .int 0, .int ((σ 88 (Int32.toNatClampNeg (((100 * x1) + 1) + x2))) - 1)]) (rest := []) h (c_X10_in C.2.1 x3 0 ((σ 88 (Int32.toNatClampNeg (((100 * x1) + 1) + x2))) - 1) _ rfl) ml_X10_93 biX10_in rfl rfl hdX10_in ⟨Nat.le_of_ble_eq_true rfl, Nat.le_of_ble_eq_true rfl⟩ rfl rfl (Nat.le_of_ble_eq_true rfl) dX10_setAll_42 ?_
        refine x_if_ne (tgt := 50) h dX10_setAll_45 (by decide) (q := 48) rfl hf12 (fun hc13 hf14 => ?_) (fun hc13 hf14 => ?_)
        · skip
          refine x_aload_n h dX10_setAll_50 rfl 0 rfl (q := 51) rfl ?_
          obtain ⟨u15, hu15, hf16⟩ := bnd_inv hf14
          refine x_callVv (As := []) (rest := []) h hg (c_X10_edit C.2.1 hg.2.1 σ _ hu15) ml_X10_122 biX10_edit rfl rfl hdX10_edit ⟨Nat.le_of_ble_eq_true rfl, Nat.le_of_ble_eq_true rfl⟩ (by decide) (cE_87 g _) rfl rfl rfl (Nat.le_of_ble_eq_true rfl) dX10_setAll_51 ?_
          refine x_iconst (v := 0) h dX10_setAll_54 (by decide) (q := 55) rfl ?_
          refine x_istore (lv' := [(5, .int 0), (0, .ref (gA g 87)), (1, .int x1), (2, .int x2), (3, .int x3), (4, .int x4)]) h dX10_setAll_55 hL (by decide) rfl (q := 57) rfl ?_
          refine x_iconst (v := 0) h dX10_setAll_57 (by decide) (q := 58) rfl ?_
          refine x_istore (lv' := [(6, .int 0), (5, .int 0), (0, .ref (gA g 87)), (1, .int x1), (2, .int x2), (3, .int x3), (4, .int x4)]) h dX10_setAll_58 hL (by decide) rfl (q := 60) rfl ?_
          refine x_sub (lv' := [(0, .ref (gA g 87)), (1, .int x1), (2, .int x2), (3, .int x3), (4, .int x4), (5, .int 0), (6, .int 0)]) [2, 3, 4, 5, 6, 1, 0] rfl ?_
          exact w_X10_setAll_l60 x1 x2 x3 x4 o h hg hL hr  cFu (u15, 0, 0) hf16
        · skip
          refine x_iconst (v := (-1)) h dX10_setAll_48 (by decide) (q := 49) rfl ?_
          have hz := Option.some.inj hf14
          subst hz
          exact x_iret h hg hr dX10_setAll_49
theorem c_X10_setAll (l : Launch) {g : cG} (hi : gInj g) (σ : St) (x1 : Int32) (x2 : Int32) (x3 : Int32) (x4 : Int32) (o : Int32 × St) (hf : m_X10_setAll σ x1 x2 x3 x4 = some o) : Met l yX10_setAll (wT yX10_setAll cX10_setAll 7 (some .int)) rmX10_setAll (va_Pc [.ref (gA g 87), .int x1, .int x2, .int x3, .int x4] (XPre g σ)) (XQ g (some (.int o.1)) o.2) 0 0 (cA g) :=
  X_met RX10 hi plX10 rfl (Nat.le_of_ble_eq_true rfl) rfl (fun _ _ _ h hg hL hr => w_X10_setAll σ x1 x2 x3 x4 o h hg hL hr hf)
abbrev rmX10_next : Room := { frames := 3, cells := 0, slots := 0, locals := 65 }
theorem hdX10_next : yX10_next.cls = RX10 ∧ yX10_next.cls ≠ "java/lang/invoke/MethodHandle" ∧ yX10_next.cls ≠ "java/lang/invoke/VarHandle" ∧ (parseMethodDescriptor yX10_next.desc).map (fun d => d.parameters.length) = some 2 := by decide +kernel
def m_X10_next (σ : St) (x1 : Int32) (x2 : Int32) : Option (Int32) :=
  (m_X10_isState σ x1).bind fun u1 =>
  if (bI u1) = 0 then (
    some (-1)
  ) else (
    (m_X10_isMove σ x1 x2).bind fun u5 =>
    if (bI u5) = 0 then (
      some (-1)
    ) else (
      chk (((100 * x1) + 10) + x2) 1201 <|
      some (σ 88 (Int32.toNatClampNeg (((100 * x1) + 10) + x2)))
    )
  )
set_option maxHeartbeats 4000000 in
set_option maxRecDepth 100000 in
theorem w_X10_next {C : XC} {Q : State → Prop} {g : cG} (σ : St) (x1 : Int32) (x2 : Int32) (o : Int32) (h : XOk C cX10_next RX10 tG rmX10_next) (hg : XG C g) (hL : C.2.2.2.2.2.2.2.2.2.2.2.2.1 = 3) (hr : XEnd C (some .int) Q (XQ g (some (.int o)) σ) (cA g)) (hf : m_X10_next σ x1 x2 = some o) : Xs C (wW g) Q σ 0 [(0, .ref (gA g 87)), (1, .int x1), (2, .int x2)] [] := by
  unfold m_X10_next at hf
  refine x_aload_n h dX10_next_0 rfl 0 rfl (q := 1) rfl ?_
  refine x_iload_n h dX10_next_1 rfl 1 rfl (q := 2) rfl ?_
  obtain ⟨u1, hu1, hf2⟩ := bnd_inv hf
  refine x_callVi (As := [.int x1]) (rest := []) h hg (c_X10_isState C.2.1 hg.2.1 σ x1 _ hu1) ml_X10_129 biX10_isState rfl rfl hdX10_isState ⟨Nat.le_of_ble_eq_true rfl, Nat.le_of_ble_eq_true rfl⟩ (by decide) (cE_87 g _) rfl rfl rfl (Nat.le_of_ble_eq_true rfl) dX10_next_2 ?_
  refine x_if_eq (tgt := 34) h dX10_next_5 (by decide) (q := 8) rfl hf2 (fun hc3 hf4 => ?_) (fun hc3 hf4 => ?_)
  · skip
    refine x_iconst (v := (-1)) h dX10_next_34 (by decide) (q := 35) rfl ?_
    have hz := Option.some.inj hf4
    subst hz
    exact x_iret h hg hr dX10_next_35
  · skip
    refine x_aload_n h dX10_next_8 rfl 0 rfl (q := 9) rfl ?_
    refine x_iload_n h dX10_next_9 rfl 1 rfl (q := 10) rfl ?_
    refine x_iload_n h dX10_next_10 rfl 2 rfl (q := 11) rfl ?_
    obtain ⟨u5, hu5, hf6⟩ := bnd_inv hf4
    refine x_callVi (As := [.int x1, .int x2]) (rest := []) h hg (c_X10_isMove C.2.1 hg.2.1 σ x1 x2 _ hu5) ml_X10_105 biX10_isMove rfl rfl hdX10_isMove ⟨Nat.le_of_ble_eq_true rfl, Nat.le_of_ble_eq_true rfl⟩ (by decide) (cE_87 g _) rfl rfl rfl (Nat.le_of_ble_eq_true rfl) dX10_next_11 ?_
    refine x_if_eq (tgt := 34) h dX10_next_14 (by decide) (q := 17) rfl hf6 (fun hc7 hf8 => ?_) (fun hc7 hf8 => ?_)
    · skip
      refine x_iconst (v := (-1)) h dX10_next_34 (by decide) (q := 35) rfl ?_
      have hz := Option.some.inj hf8
      subst hz
      exact x_iret h hg hr dX10_next_35
    · skip
      refine x_aload_n h dX10_next_17 rfl 0 rfl (q := 18) rfl ?_
      refine x_get_X10_87_1 h hg kf_X10_7 nn_X10 dX10_next_18 ?_
      refine x_bipush (v := 100) h dX10_next_21 (by decide) (q := 23) rfl ?_
      refine x_iload_n h dX10_next_23 rfl 1 rfl (q := 24) rfl ?_
      refine x_imul h dX10_next_24 (q := 25) rfl ?_
      refine x_bipush (v := 10) h dX10_next_25 (by decide) (q := 27) rfl ?_
      refine x_iadd h dX10_next_27 (q := 28) rfl ?_
      refine x_iload_n h dX10_next_28 rfl 2 rfl (q := 29) rfl ?_
      refine x_iadd h dX10_next_29 (q := 30) rfl ?_
      obtain ⟨hi9, hf10⟩ := chk_inv hf8
      refine x_iald (j := (Int32.toNatClampNeg (((100 * x1) + 10) + x2))) h hg a_88 hi9 rfl dX10_next_30 (q := 31) rfl ?_
      refine x_goto (q := 35) h dX10_next_31 (by decide) ?_
      have hz := Option.some.inj hf10
      subst hz
      exact x_iret h hg hr dX10_next_35
theorem c_X10_next (l : Launch) {g : cG} (hi : gInj g) (σ : St) (x1 : Int32) (x2 : Int32) (o : Int32) (hf : m_X10_next σ x1 x2 = some o) : Met l yX10_next (wT yX10_next cX10_next 3 (some .int)) rmX10_next (va_Pc [.ref (gA g 87), .int x1, .int x2] (XPre g σ)) (XQ g (some (.int o)) σ) 0 0 (cA g) :=
  X_met RX10 hi plX10 rfl (Nat.le_of_ble_eq_true rfl) rfl (fun _ _ _ h hg hL hr => w_X10_next σ x1 x2 o h hg hL hr hf)
abbrev rmX10_moves : Room := { frames := 2, cells := 0, slots := 0, locals := 43 }
theorem hdX10_moves : yX10_moves.cls = RX10 ∧ yX10_moves.cls ≠ "java/lang/invoke/MethodHandle" ∧ yX10_moves.cls ≠ "java/lang/invoke/VarHandle" ∧ (parseMethodDescriptor yX10_moves.desc).map (fun d => d.parameters.length) = some 1 := by decide +kernel
def m_X10_moves_b14 (σ : St) (x1 : Int32) (x2 : Int32) (x3 : Int32) (k14 : (Int32 × Int32) → Option (Int32)) : Option (Int32) :=
  if (σ 87 0) ≤ x3 then (
    some x2
  ) else (
    chk (((100 * x1) + 1) + x3) 1201 <|
    k14 ((x2 * (σ 88 (Int32.toNatClampNeg (((100 * x1) + 1) + x3)))), (x3 + 1))
  )
set_option maxHeartbeats 4000000 in
set_option maxRecDepth 100000 in
theorem w_X10_moves_b14 {C : XC} {Q : State → Prop} {g : cG} (σ : St) (x1 : Int32) (x2 : Int32) (x3 : Int32) (o : Int32) (h : XOk C cX10_moves RX10 tG rmX10_moves) (hg : XG C g) (hL : C.2.2.2.2.2.2.2.2.2.2.2.2.1 = 4) (hr : XEnd C (some .int) Q (XQ g (some (.int o)) σ) (cA g)) (k14 : (Int32 × Int32) → Option (Int32)) (hk14 : ∀ z : Int32 × Int32, k14 z = some o → Xs C (wW g) Q σ 14 [(0, .ref (gA g 87)), (1, .int x1), (2, .int z.1), (3, .int z.2)] []) (hf : m_X10_moves_b14 σ x1 x2 x3 k14 = some o) : Xs C (wW g) Q σ 14 [(0, .ref (gA g 87)), (1, .int x1), (2, .int x2), (3, .int x3)] [] := by
  unfold m_X10_moves_b14 at hf
  refine x_iload_n h dX10_moves_14 rfl 3 rfl (q := 15) rfl ?_
  refine x_aload_n h dX10_moves_15 rfl 0 rfl (q := 16) rfl ?_
  refine x_get_X10_87_0 h hg kf_X10_82 nn_X10 dX10_moves_16 ?_
  refine x_icmp_ge (tgt := 44) h dX10_moves_19 (by decide) (q := 22) rfl hf (fun hc1 hf2 => ?_) (fun hc1 hf2 => ?_)
  · skip
    refine x_iload_n h dX10_moves_44 rfl 2 rfl (q := 45) rfl ?_
    have hz := Option.some.inj hf2
    subst hz
    exact x_iret h hg hr dX10_moves_45
  · skip
    refine x_iload_n h dX10_moves_22 rfl 2 rfl (q := 23) rfl ?_
    refine x_aload_n h dX10_moves_23 rfl 0 rfl (q := 24) rfl ?_
    refine x_get_X10_87_1 h hg kf_X10_7 nn_X10 dX10_moves_24 ?_
    refine x_bipush (v := 100) h dX10_moves_27 (by decide) (q := 29) rfl ?_
    refine x_iload_n h dX10_moves_29 rfl 1 rfl (q := 30) rfl ?_
    refine x_imul h dX10_moves_30 (q := 31) rfl ?_
    refine x_iconst (v := 1) h dX10_moves_31 (by decide) (q := 32) rfl ?_
    refine x_iadd h dX10_moves_32 (q := 33) rfl ?_
    refine x_iload_n h dX10_moves_33 rfl 3 rfl (q := 34) rfl ?_
    refine x_iadd h dX10_moves_34 (q := 35) rfl ?_
    obtain ⟨hi3, hf4⟩ := chk_inv hf2
    refine x_iald (j := (Int32.toNatClampNeg (((100 * x1) + 1) + x3))) h hg a_88 hi3 rfl dX10_moves_35 (q := 36) rfl ?_
    refine x_imul h dX10_moves_36 (q := 37) rfl ?_
    refine x_istore_n (lv' := [(2, .int (x2 * (σ 88 (Int32.toNatClampNeg (((100 * x1) + 1) + x3))))), (0, .ref (gA g 87)), (1, .int x1), (3, .int x3)]) h dX10_moves_37 rfl hL (by decide) rfl (q := 38) rfl ?_
    refine x_iinc (v := (x3 + 1)) (lv' := [(3, .int (x3 + 1)), (2, .int (x2 * (σ 88 (Int32.toNatClampNeg (((100 * x1) + 1) + x3))))), (0, .ref (gA g 87)), (1, .int x1)]) (j := 3) h dX10_moves_38 rfl rfl hL (by decide) rfl (q := 41) rfl ?_
    refine x_goto (q := 14) h dX10_moves_41 (by decide) ?_
    refine x_sub (lv' := [(0, .ref (gA g 87)), (1, .int x1), (2, .int (x2 * (σ 88 (Int32.toNatClampNeg (((100 * x1) + 1) + x3))))), (3, .int (x3 + 1))]) [2, 3, 1, 0] rfl ?_
    exact hk14 ((x2 * (σ 88 (Int32.toNatClampNeg (((100 * x1) + 1) + x3)))), (x3 + 1)) hf4
set_option maxHeartbeats 4000000 in
set_option maxRecDepth 100000 in
theorem w_X10_moves_l14 {C : XC} {Q : State → Prop} {g : cG} (σ : St) (x1 : Int32) (o : Int32) (h : XOk C cX10_moves RX10 tG rmX10_moves) (hg : XG C g) (hL : C.2.2.2.2.2.2.2.2.2.2.2.2.1 = 4) (hr : XEnd C (some .int) Q (XQ g (some (.int o)) σ) (cA g)) : ∀ (n : Nat) (z : Int32 × Int32), loopF (fun k z => m_X10_moves_b14 σ x1 z.1 z.2 k) n z = some o → Xs C (wW g) Q σ 14 [(0, .ref (gA g 87)), (1, .int x1), (2, .int z.1), (3, .int z.2)] [] := by
  intro n z hf
  refine loopF_ind (S := Int32 × Int32) (O := Int32) (step := (fun k z => m_X10_moves_b14 σ x1 z.1 z.2 k)) (o := o) (P := fun z => Xs C (wW g) Q σ 14 [(0, .ref (gA g 87)), (1, .int x1), (2, .int z.1), (3, .int z.2)] []) ?_ n z hf
  intro k hk z hf
  exact w_X10_moves_b14 σ x1 z.1 z.2 o h hg hL hr k hk hf
def m_X10_moves (σ : St) (x1 : Int32) : Option (Int32) :=
  (m_X10_isState σ x1).bind fun u1 =>
  if (bI u1) = 0 then (
    some (-1)
  ) else (
    loopF (fun k z => m_X10_moves_b14 σ x1 z.1 z.2 k) cFu (1, 0)
  )
set_option maxHeartbeats 4000000 in
set_option maxRecDepth 100000 in
theorem w_X10_moves {C : XC} {Q : State → Prop} {g : cG} (σ : St) (x1 : Int32) (o : Int32) (h : XOk C cX10_moves RX10 tG rmX10_moves) (hg : XG C g) (hL : C.2.2.2.2.2.2.2.2.2.2.2.2.1 = 4) (hr : XEnd C (some .int) Q (XQ g (some (.int o)) σ) (cA g)) (hf : m_X10_moves σ x1 = some o) : Xs C (wW g) Q σ 0 [(0, .ref (gA g 87)), (1, .int x1)] [] := by
  unfold m_X10_moves at hf
  refine x_aload_n h dX10_moves_0 rfl 0 rfl (q := 1) rfl ?_
  refine x_iload_n h dX10_moves_1 rfl 1 rfl (q := 2) rfl ?_
  obtain ⟨u1, hu1, hf2⟩ := bnd_inv hf
  refine x_callVi (As := [.int x1]) (rest := []) h hg (c_X10_isState C.2.1 hg.2.1 σ x1 _ hu1) ml_X10_129 biX10_isState rfl rfl hdX10_isState ⟨Nat.le_of_ble_eq_true rfl, Nat.le_of_ble_eq_true rfl⟩ (by decide) (cE_87 g _) rfl rfl rfl (Nat.le_of_ble_eq_true rfl) dX10_moves_2 ?_
  refine x_if_ne (tgt := 10) h dX10_moves_5 (by decide) (q := 8) rfl hf2 (fun hc3 hf4 => ?_) (fun hc3 hf4 => ?_)
  · skip
    refine x_iconst (v := 1) h dX10_moves_10 (by decide) (q := 11) rfl ?_
    refine x_istore_n (lv' := [(2, .int 1), (0, .ref (gA g 87)), (1, .int x1)]) h dX10_moves_11 rfl hL (by decide) rfl (q := 12) rfl ?_
    refine x_iconst (v := 0) h dX10_moves_12 (by decide) (q := 13) rfl ?_
    refine x_istore_n (lv' := [(3, .int 0), (2, .int 1), (0, .ref (gA g 87)), (1, .int x1)]) h dX10_moves_13 rfl hL (by decide) rfl (q := 14) rfl ?_
    refine x_sub (lv' := [(0, .ref (gA g 87)), (1, .int x1), (2, .int 1), (3, .int 0)]) [2, 3, 1, 0] rfl ?_
    exact w_X10_moves_l14 σ x1 o h hg hL hr  cFu (1, 0) hf4
  · skip
    refine x_iconst (v := (-1)) h dX10_moves_8 (by decide) (q := 9) rfl ?_
    have hz := Option.some.inj hf4
    subst hz
    exact x_iret h hg hr dX10_moves_9
theorem c_X10_moves (l : Launch) {g : cG} (hi : gInj g) (σ : St) (x1 : Int32) (o : Int32) (hf : m_X10_moves σ x1 = some o) : Met l yX10_moves (wT yX10_moves cX10_moves 4 (some .int)) rmX10_moves (va_Pc [.ref (gA g 87), .int x1] (XPre g σ)) (XQ g (some (.int o)) σ) 0 0 (cA g) :=
  X_met RX10 hi plX10 rfl (Nat.le_of_ble_eq_true rfl) rfl (fun _ _ _ h hg hL hr => w_X10_moves σ x1 o h hg hL hr hf)
abbrev rmX10_force : Room := { frames := 6, cells := 0, slots := 0, locals := 136 }
theorem hdX10_force : yX10_force.cls = RX10 ∧ yX10_force.cls ≠ "java/lang/invoke/MethodHandle" ∧ yX10_force.cls ≠ "java/lang/invoke/VarHandle" ∧ (parseMethodDescriptor yX10_force.desc).map (fun d => d.parameters.length) = some 3 := by decide +kernel
def m_X10_force (σ : St) (x1 : Int32) (x2 : Int32) (x3 : Int32) : Option (Int32 × St) :=
  if (bI (m_X10_isCoalition σ x1)) = 0 then (
    some ((-1), σ)
  ) else (
    (m_X10_isState σ x2).bind fun u3 =>
    if (bI u3) = 0 then (
      some ((-1), σ)
    ) else (
      (m_X10_isSet σ x3).bind fun u7 =>
      if (bI u7) = 0 then (
        some ((-1), σ)
      ) else (
        (m_X10_forcing σ x1 x2 x3).bind fun u11 =>
        some (u11.1, u11.2)
      )
    )
  )
set_option maxHeartbeats 4000000 in
set_option maxRecDepth 100000 in
theorem w_X10_force {C : XC} {Q : State → Prop} {g : cG} (σ : St) (x1 : Int32) (x2 : Int32) (x3 : Int32) (o : Int32 × St) (h : XOk C cX10_force RX10 tG rmX10_force) (hg : XG C g) (hL : C.2.2.2.2.2.2.2.2.2.2.2.2.1 = 4) (hr : XEnd C (some .int) Q (XQ g (some (.int o.1)) o.2) (cA g)) (hf : m_X10_force σ x1 x2 x3 = some o) : Xs C (wW g) Q σ 0 [(0, .ref (gA g 87)), (1, .int x1), (2, .int x2), (3, .int x3)] [] := by
  unfold m_X10_force at hf
  refine x_aload_n h dX10_force_0 rfl 0 rfl (q := 1) rfl ?_
  refine x_iload_n h dX10_force_1 rfl 1 rfl (q := 2) rfl ?_
  refine x_callVi (As := [.int x1]) (rest := []) h hg (c_X10_isCoalition C.2.1 hg.2.1 σ x1 _ rfl) ml_X10_136 biX10_isCoalition rfl rfl hdX10_isCoalition ⟨Nat.le_of_ble_eq_true rfl, Nat.le_of_ble_eq_true rfl⟩ (by decide) (cE_87 g _) rfl rfl rfl (Nat.le_of_ble_eq_true rfl) dX10_force_2 ?_
  refine x_if_eq (tgt := 34) h dX10_force_5 (by decide) (q := 8) rfl hf (fun hc1 hf2 => ?_) (fun hc1 hf2 => ?_)
  · skip
    refine x_iconst (v := (-1)) h dX10_force_34 (by decide) (q := 35) rfl ?_
    have hz := Option.some.inj hf2
    subst hz
    exact x_iret h hg hr dX10_force_35
  · skip
    refine x_aload_n h dX10_force_8 rfl 0 rfl (q := 9) rfl ?_
    refine x_iload_n h dX10_force_9 rfl 2 rfl (q := 10) rfl ?_
    obtain ⟨u3, hu3, hf4⟩ := bnd_inv hf2
    refine x_callVi (As := [.int x2]) (rest := []) h hg (c_X10_isState C.2.1 hg.2.1 σ x2 _ hu3) ml_X10_129 biX10_isState rfl rfl hdX10_isState ⟨Nat.le_of_ble_eq_true rfl, Nat.le_of_ble_eq_true rfl⟩ (by decide) (cE_87 g _) rfl rfl rfl (Nat.le_of_ble_eq_true rfl) dX10_force_10 ?_
    refine x_if_eq (tgt := 34) h dX10_force_13 (by decide) (q := 16) rfl hf4 (fun hc5 hf6 => ?_) (fun hc5 hf6 => ?_)
    · skip
      refine x_iconst (v := (-1)) h dX10_force_34 (by decide) (q := 35) rfl ?_
      have hz := Option.some.inj hf6
      subst hz
      exact x_iret h hg hr dX10_force_35
    · skip
      refine x_aload_n h dX10_force_16 rfl 0 rfl (q := 17) rfl ?_
      refine x_iload_n h dX10_force_17 rfl 3 rfl (q := 18) rfl ?_
      obtain ⟨u7, hu7, hf8⟩ := bnd_inv hf6
      refine x_callVi (As := [.int x3]) (rest := []) h hg (c_X10_isSet C.2.1 hg.2.1 σ x3 _ hu7) ml_X10_139 biX10_isSet rfl rfl hdX10_isSet ⟨Nat.le_of_ble_eq_true rfl, Nat.le_of_ble_eq_true rfl⟩ (by decide) (cE_87 g _) rfl rfl rfl (Nat.le_of_ble_eq_true rfl) dX10_force_18 ?_
      refine x_if_eq (tgt := 34) h dX10_force_21 (by decide) (q := 24) rfl hf8 (fun hc9 hf10 => ?_) (fun hc9 hf10 => ?_)
      · skip
        refine x_iconst (v := (-1)) h dX10_force_34 (by decide) (q := 35) rfl ?_
        have hz := Option.some.inj hf10
        subst hz
        exact x_iret h hg hr dX10_force_35
      · skip
        refine x_aload_n h dX10_force_24 rfl 0 rfl (q := 25) rfl ?_
        refine x_iload_n h dX10_force_25 rfl 1 rfl (q := 26) rfl ?_
        refine x_iload_n h dX10_force_26 rfl 2 rfl (q := 27) rfl ?_
        refine x_iload_n h dX10_force_27 rfl 3 rfl (q := 28) rfl ?_
        obtain ⟨u11, hu11, hf12⟩ := bnd_inv hf10
        refine x_callVi (As := [.int x1, .int x2, .int x3]) (rest := []) h hg (c_X10_forcing C.2.1 hg.2.1 σ x1 x2 x3 _ hu11) ml_X10_142 biX10_forcing rfl rfl hdX10_forcing ⟨Nat.le_of_ble_eq_true rfl, Nat.le_of_ble_eq_true rfl⟩ (by decide) (cE_87 g _) rfl rfl rfl (Nat.le_of_ble_eq_true rfl) dX10_force_28 ?_
        refine x_goto (q := 35) h dX10_force_31 (by decide) ?_
        have hz := Option.some.inj hf12
        subst hz
        exact x_iret h hg hr dX10_force_35
theorem c_X10_force (l : Launch) {g : cG} (hi : gInj g) (σ : St) (x1 : Int32) (x2 : Int32) (x3 : Int32) (o : Int32 × St) (hf : m_X10_force σ x1 x2 x3 = some o) : Met l yX10_force (wT yX10_force cX10_force 4 (some .int)) rmX10_force (va_Pc [.ref (gA g 87), .int x1, .int x2, .int x3] (XPre g σ)) (XQ g (some (.int o.1)) o.2) 0 0 (cA g) :=
  X_met RX10 hi plX10 rfl (Nat.le_of_ble_eq_true rfl) rfl (fun _ _ _ h hg hL hr => w_X10_force σ x1 x2 x3 o h hg hL hr hf)
abbrev rmX10_reply : Room := { frames := 4, cells := 0, slots := 0, locals := 90 }
theorem hdX10_reply : yX10_reply.cls = RX10 ∧ yX10_reply.cls ≠ "java/lang/invoke/MethodHandle" ∧ yX10_reply.cls ≠ "java/lang/invoke/VarHandle" ∧ (parseMethodDescriptor yX10_reply.desc).map (fun d => d.parameters.length) = some 4 := by decide +kernel
def m_X10_reply_b40 (σ : St) (x1 : Int32) (x2 : Int32) (x3 : Int32) (x4 : Int32) (x5 : Int32) (k40 : Int32 → Option (Int32)) : Option (Int32) :=
  if 81 ≤ x5 then (
    some (-9)
  ) else (
    (m_X10_isMove σ x2 x5).bind fun u3 =>
    if (bI u3) = 0 then (
      k40 (x5 + 1)
    ) else (
      (m_X10_areAlikeFor σ x1 x5 x3).bind fun u7 =>
      if (bI u7) = 0 then (
        k40 (x5 + 1)
      ) else (
        chk (((100 * x2) + 10) + x5) 1201 <|
        if ((x4 >>> ((σ 88 (Int32.toNatClampNeg (((100 * x2) + 10) + x5))) &&& 31)) &&& 1) = 0 then (
          some x5
        ) else (
          k40 (x5 + 1)
        )
      )
    )
  )
set_option maxHeartbeats 4000000 in
set_option maxRecDepth 100000 in
theorem w_X10_reply_b40 {C : XC} {Q : State → Prop} {g : cG} (σ : St) (x1 : Int32) (x2 : Int32) (x3 : Int32) (x4 : Int32) (x5 : Int32) (o : Int32) (h : XOk C cX10_reply RX10 tG rmX10_reply) (hg : XG C g) (hL : C.2.2.2.2.2.2.2.2.2.2.2.2.1 = 6) (hr : XEnd C (some .int) Q (XQ g (some (.int o)) σ) (cA g)) (k40 : Int32 → Option (Int32)) (hk40 : ∀ z : Int32, k40 z = some o → Xs C (wW g) Q σ 40 [(0, .ref (gA g 87)), (1, .int x1), (2, .int x2), (3, .int x3), (4, .int x4), (5, .int z)] []) (hf : m_X10_reply_b40 σ x1 x2 x3 x4 x5 k40 = some o) : Xs C (wW g) Q σ 40 [(0, .ref (gA g 87)), (1, .int x1), (2, .int x2), (3, .int x3), (4, .int x4), (5, .int x5)] [] := by
  unfold m_X10_reply_b40 at hf
  refine x_iload h dX10_reply_40 5 rfl (q := 42) rfl ?_
  refine x_bipush (v := 81) h dX10_reply_42 (by decide) (q := 44) rfl ?_
  refine x_icmp_ge (tgt := 100) h dX10_reply_44 (by decide) (q := 47) rfl hf (fun hc1 hf2 => ?_) (fun hc1 hf2 => ?_)
  · skip
    refine x_bipush (v := (-9)) h dX10_reply_100 (by decide) (q := 102) rfl ?_
    have hz := Option.some.inj hf2
    subst hz
    exact x_iret h hg hr dX10_reply_102
  · skip
    refine x_aload_n h dX10_reply_47 rfl 0 rfl (q := 48) rfl ?_
    refine x_iload_n h dX10_reply_48 rfl 2 rfl (q := 49) rfl ?_
    refine x_iload h dX10_reply_49 5 rfl (q := 51) rfl ?_
    obtain ⟨u3, hu3, hf4⟩ := bnd_inv hf2
    refine x_callVi (As := [.int x2, .int x5]) (rest := []) h hg (c_X10_isMove C.2.1 hg.2.1 σ x2 x5 _ hu3) ml_X10_105 biX10_isMove rfl rfl hdX10_isMove ⟨Nat.le_of_ble_eq_true rfl, Nat.le_of_ble_eq_true rfl⟩ (by decide) (cE_87 g _) rfl rfl rfl (Nat.le_of_ble_eq_true rfl) dX10_reply_51 ?_
    refine x_if_eq (tgt := 94) h dX10_reply_54 (by decide) (q := 57) rfl hf4 (fun hc5 hf6 => ?_) (fun hc5 hf6 => ?_)
    · skip
      refine x_iinc (v := (x5 + 1)) (lv' := [(5, .int (x5 + 1)), (0, .ref (gA g 87)), (1, .int x1), (2, .int x2), (3, .int x3), (4, .int x4)]) (j := 5) h dX10_reply_94 rfl rfl hL (by decide) rfl (q := 97) rfl ?_
      refine x_goto (q := 40) h dX10_reply_97 (by decide) ?_
      refine x_sub (lv' := [(0, .ref (gA g 87)), (1, .int x1), (2, .int x2), (3, .int x3), (4, .int x4), (5, .int (x5 + 1))]) [1, 2, 3, 4, 5, 0] rfl ?_
      exact hk40 (x5 + 1) hf6
    · skip
      refine x_aload_n h dX10_reply_57 rfl 0 rfl (q := 58) rfl ?_
      refine x_iload_n h dX10_reply_58 rfl 1 rfl (q := 59) rfl ?_
      refine x_iload h dX10_reply_59 5 rfl (q := 61) rfl ?_
      refine x_iload_n h dX10_reply_61 rfl 3 rfl (q := 62) rfl ?_
      obtain ⟨u7, hu7, hf8⟩ := bnd_inv hf6
      refine x_callVi (As := [.int x1, .int x5, .int x3]) (rest := []) h hg (c_X10_areAlikeFor C.2.1 hg.2.1 σ x1 x5 x3 _ hu7) ml_X10_148 biX10_areAlikeFor rfl rfl hdX10_areAlikeFor ⟨Nat.le_of_ble_eq_true rfl, Nat.le_of_ble_eq_true rfl⟩ (by decide) (cE_87 g _) rfl rfl rfl (Nat.le_of_ble_eq_true rfl) dX10_reply_62 ?_
      refine x_if_eq (tgt := 94) h dX10_reply_65 (by decide) (q := 68) rfl hf8 (fun hc9 hf10 => ?_) (fun hc9 hf10 => ?_)
      · skip
        refine x_iinc (v := (x5 + 1)) (lv' := [(5, .int (x5 + 1)), (0, .ref (gA g 87)), (1, .int x1), (2, .int x2), (3, .int x3), (4, .int x4)]) (j := 5) h dX10_reply_94 rfl rfl hL (by decide) rfl (q := 97) rfl ?_
        refine x_goto (q := 40) h dX10_reply_97 (by decide) ?_
        refine x_sub (lv' := [(0, .ref (gA g 87)), (1, .int x1), (2, .int x2), (3, .int x3), (4, .int x4), (5, .int (x5 + 1))]) [1, 2, 3, 4, 5, 0] rfl ?_
        exact hk40 (x5 + 1) hf10
      · skip
        refine x_iload h dX10_reply_68 4 rfl (q := 70) rfl ?_
        refine x_aload_n h dX10_reply_70 rfl 0 rfl (q := 71) rfl ?_
        refine x_get_X10_87_1 h hg kf_X10_7 nn_X10 dX10_reply_71 ?_
        refine x_bipush (v := 100) h dX10_reply_74 (by decide) (q := 76) rfl ?_
        refine x_iload_n h dX10_reply_76 rfl 2 rfl (q := 77) rfl ?_
        refine x_imul h dX10_reply_77 (q := 78) rfl ?_
        refine x_bipush (v := 10) h dX10_reply_78 (by decide) (q := 80) rfl ?_
        refine x_iadd h dX10_reply_80 (q := 81) rfl ?_
        refine x_iload h dX10_reply_81 5 rfl (q := 83) rfl ?_
        refine x_iadd h dX10_reply_83 (q := 84) rfl ?_
        obtain ⟨hi11, hf12⟩ := chk_inv hf10
        refine x_iald (j := (Int32.toNatClampNeg (((100 * x2) + 10) + x5))) h hg a_88 hi11 rfl dX10_reply_84 (q := 85) rfl ?_
        refine x_ishr h dX10_reply_85 (q := 86) rfl ?_
        refine x_iconst (v := 1) h dX10_reply_86 (by decide) (q := 87) rfl ?_
        refine x_iand h dX10_reply_87 (q := 88) rfl ?_
        refine x_if_ne (tgt := 94) h dX10_reply_88 (by decide) (q := 91) rfl hf12 (fun hc13 hf14 => ?_) (fun hc13 hf14 => ?_)
        · skip
          refine x_iinc (v := (x5 + 1)) (lv' := [(5, .int (x5 + 1)), (0, .ref (gA g 87)), (1, .int x1), (2, .int x2), (3, .int x3), (4, .int x4)]) (j := 5) h dX10_reply_94 rfl rfl hL (by decide) rfl (q := 97) rfl ?_
          refine x_goto (q := 40) h dX10_reply_97 (by decide) ?_
          refine x_sub (lv' := [(0, .ref (gA g 87)), (1, .int x1), (2, .int x2), (3, .int x3), (4, .int x4), (5, .int (x5 + 1))]) [1, 2, 3, 4, 5, 0] rfl ?_
          exact hk40 (x5 + 1) hf14
        · skip
          refine x_iload h dX10_reply_91 5 rfl (q := 93) rfl ?_
          have hz := Option.some.inj hf14
          subst hz
          exact x_iret h hg hr dX10_reply_93
set_option maxHeartbeats 4000000 in
set_option maxRecDepth 100000 in
theorem w_X10_reply_l40 {C : XC} {Q : State → Prop} {g : cG} (σ : St) (x1 : Int32) (x2 : Int32) (x3 : Int32) (x4 : Int32) (o : Int32) (h : XOk C cX10_reply RX10 tG rmX10_reply) (hg : XG C g) (hL : C.2.2.2.2.2.2.2.2.2.2.2.2.1 = 6) (hr : XEnd C (some .int) Q (XQ g (some (.int o)) σ) (cA g)) : ∀ (n : Nat) (z : Int32), loopF (fun k z => m_X10_reply_b40 σ x1 x2 x3 x4 z k) n z = some o → Xs C (wW g) Q σ 40 [(0, .ref (gA g 87)), (1, .int x1), (2, .int x2), (3, .int x3), (4, .int x4), (5, .int z)] [] := by
  intro n z hf
  refine loopF_ind (S := Int32) (O := Int32) (step := (fun k z => m_X10_reply_b40 σ x1 x2 x3 x4 z k)) (o := o) (P := fun z => Xs C (wW g) Q σ 40 [(0, .ref (gA g 87)), (1, .int x1), (2, .int x2), (3, .int x3), (4, .int x4), (5, .int z)] []) ?_ n z hf
  intro k hk z hf
  exact w_X10_reply_b40 σ x1 x2 x3 x4 z o h hg hL hr k hk hf
def m_X10_reply (σ : St) (x1 : Int32) (x2 : Int32) (x3 : Int32) (x4 : Int32) : Option (Int32) :=
  if (bI (m_X10_isCoalition σ x1)) = 0 then (
    some (-1)
  ) else (
    (m_X10_isState σ x2).bind fun u3 =>
    if (bI u3) = 0 then (
      some (-1)
    ) else (
      (m_X10_isSet σ x4).bind fun u7 =>
      if (bI u7) = 0 then (
        some (-1)
      ) else (
        (m_X10_isJoint σ x1 x2 x3).bind fun u11 =>
        if (bI u11) = 0 then (
          some (-1)
        ) else (
          loopF (fun k z => m_X10_reply_b40 σ x1 x2 x3 x4 z k) cFu 0
        )
      )
    )
  )
set_option maxHeartbeats 4000000 in
set_option maxRecDepth 100000 in
theorem w_X10_reply {C : XC} {Q : State → Prop} {g : cG} (σ : St) (x1 : Int32) (x2 : Int32) (x3 : Int32) (x4 : Int32) (o : Int32) (h : XOk C cX10_reply RX10 tG rmX10_reply) (hg : XG C g) (hL : C.2.2.2.2.2.2.2.2.2.2.2.2.1 = 6) (hr : XEnd C (some .int) Q (XQ g (some (.int o)) σ) (cA g)) (hf : m_X10_reply σ x1 x2 x3 x4 = some o) : Xs C (wW g) Q σ 0 [(0, .ref (gA g 87)), (1, .int x1), (2, .int x2), (3, .int x3), (4, .int x4)] [] := by
  unfold m_X10_reply at hf
  refine x_aload_n h dX10_reply_0 rfl 0 rfl (q := 1) rfl ?_
  refine x_iload_n h dX10_reply_1 rfl 1 rfl (q := 2) rfl ?_
  refine x_callVi (As := [.int x1]) (rest := []) h hg (c_X10_isCoalition C.2.1 hg.2.1 σ x1 _ rfl) ml_X10_136 biX10_isCoalition rfl rfl hdX10_isCoalition ⟨Nat.le_of_ble_eq_true rfl, Nat.le_of_ble_eq_true rfl⟩ (by decide) (cE_87 g _) rfl rfl rfl (Nat.le_of_ble_eq_true rfl) dX10_reply_2 ?_
  refine x_if_eq (tgt := 35) h dX10_reply_5 (by decide) (q := 8) rfl hf (fun hc1 hf2 => ?_) (fun hc1 hf2 => ?_)
  · skip
    refine x_iconst (v := (-1)) h dX10_reply_35 (by decide) (q := 36) rfl ?_
    have hz := Option.some.inj hf2
    subst hz
    exact x_iret h hg hr dX10_reply_36
  · skip
    refine x_aload_n h dX10_reply_8 rfl 0 rfl (q := 9) rfl ?_
    refine x_iload_n h dX10_reply_9 rfl 2 rfl (q := 10) rfl ?_
    obtain ⟨u3, hu3, hf4⟩ := bnd_inv hf2
    refine x_callVi (As := [.int x2]) (rest := []) h hg (c_X10_isState C.2.1 hg.2.1 σ x2 _ hu3) ml_X10_129 biX10_isState rfl rfl hdX10_isState ⟨Nat.le_of_ble_eq_true rfl, Nat.le_of_ble_eq_true rfl⟩ (by decide) (cE_87 g _) rfl rfl rfl (Nat.le_of_ble_eq_true rfl) dX10_reply_10 ?_
    refine x_if_eq (tgt := 35) h dX10_reply_13 (by decide) (q := 16) rfl hf4 (fun hc5 hf6 => ?_) (fun hc5 hf6 => ?_)
    · skip
      refine x_iconst (v := (-1)) h dX10_reply_35 (by decide) (q := 36) rfl ?_
      have hz := Option.some.inj hf6
      subst hz
      exact x_iret h hg hr dX10_reply_36
    · skip
      refine x_aload_n h dX10_reply_16 rfl 0 rfl (q := 17) rfl ?_
      refine x_iload h dX10_reply_17 4 rfl (q := 19) rfl ?_
      obtain ⟨u7, hu7, hf8⟩ := bnd_inv hf6
      refine x_callVi (As := [.int x4]) (rest := []) h hg (c_X10_isSet C.2.1 hg.2.1 σ x4 _ hu7) ml_X10_139 biX10_isSet rfl rfl hdX10_isSet ⟨Nat.le_of_ble_eq_true rfl, Nat.le_of_ble_eq_true rfl⟩ (by decide) (cE_87 g _) rfl rfl rfl (Nat.le_of_ble_eq_true rfl) dX10_reply_19 ?_
      refine x_if_eq (tgt := 35) h dX10_reply_22 (by decide) (q := 25) rfl hf8 (fun hc9 hf10 => ?_) (fun hc9 hf10 => ?_)
      · skip
        refine x_iconst (v := (-1)) h dX10_reply_35 (by decide) (q := 36) rfl ?_
        have hz := Option.some.inj hf10
        subst hz
        exact x_iret h hg hr dX10_reply_36
      · skip
        refine x_aload_n h dX10_reply_25 rfl 0 rfl (q := 26) rfl ?_
        refine x_iload_n h dX10_reply_26 rfl 1 rfl (q := 27) rfl ?_
        refine x_iload_n h dX10_reply_27 rfl 2 rfl (q := 28) rfl ?_
        refine x_iload_n h dX10_reply_28 rfl 3 rfl (q := 29) rfl ?_
        obtain ⟨u11, hu11, hf12⟩ := bnd_inv hf10
        refine x_callVi (As := [.int x1, .int x2, .int x3]) (rest := []) h hg (c_X10_isJoint C.2.1 hg.2.1 σ x1 x2 x3 _ hu11) ml_X10_145 biX10_isJoint rfl rfl hdX10_isJoint ⟨Nat.le_of_ble_eq_true rfl, Nat.le_of_ble_eq_true rfl⟩ (by decide) (cE_87 g _) rfl rfl rfl (Nat.le_of_ble_eq_true rfl) dX10_reply_29 ?_
        refine x_if_ne (tgt := 37) h dX10_reply_32 (by decide) (q := 35) rfl hf12 (fun hc13 hf14 => ?_) (fun hc13 hf14 => ?_)
        · skip
          refine x_iconst (v := 0) h dX10_reply_37 (by decide) (q := 38) rfl ?_
          refine x_istore (lv' := [(5, .int 0), (0, .ref (gA g 87)), (1, .int x1), (2, .int x2), (3, .int x3), (4, .int x4)]) h dX10_reply_38 hL (by decide) rfl (q := 40) rfl ?_
          refine x_sub (lv' := [(0, .ref (gA g 87)), (1, .int x1), (2, .int x2), (3, .int x3), (4, .int x4), (5, .int 0)]) [1, 2, 3, 4, 5, 0] rfl ?_
          exact w_X10_reply_l40 σ x1 x2 x3 x4 o h hg hL hr  cFu 0 hf14
        · skip
          refine x_iconst (v := (-1)) h dX10_reply_35 (by decide) (q := 36) rfl ?_
          have hz := Option.some.inj hf14
          subst hz
          exact x_iret h hg hr dX10_reply_36
theorem c_X10_reply (l : Launch) {g : cG} (hi : gInj g) (σ : St) (x1 : Int32) (x2 : Int32) (x3 : Int32) (x4 : Int32) (o : Int32) (hf : m_X10_reply σ x1 x2 x3 x4 = some o) : Met l yX10_reply (wT yX10_reply cX10_reply 6 (some .int)) rmX10_reply (va_Pc [.ref (gA g 87), .int x1, .int x2, .int x3, .int x4] (XPre g σ)) (XQ g (some (.int o)) σ) 0 0 (cA g) :=
  X_met RX10 hi plX10 rfl (Nat.le_of_ble_eq_true rfl) rfl (fun _ _ _ h hg hL hr => w_X10_reply σ x1 x2 x3 x4 o h hg hL hr hf)
abbrev rmX10_forced : Room := { frames := 5, cells := 0, slots := 0, locals := 111 }
theorem hdX10_forced : yX10_forced.cls = RX10 ∧ yX10_forced.cls ≠ "java/lang/invoke/MethodHandle" ∧ yX10_forced.cls ≠ "java/lang/invoke/VarHandle" ∧ (parseMethodDescriptor yX10_forced.desc).map (fun d => d.parameters.length) = some 2 := by decide +kernel
def m_X10_forced_b91 (σ : St) (x3 : Int32) (x4 : Int32) (x5 : Int32) (x6 : Int32) (x7 : Int32) (k70 : (Int32 × Int32) → Option (Int32 × St)) (k91 : (Int32 × Int32) → Option (Int32 × St)) : Option (Int32 × St) :=
  if x3 ≤ x7 then (
    if x6 = 0 then (
      k70 ((x4 + 0), (x5 + 1))
    ) else (
      k70 ((x4 + 1), (x5 + 1))
    )
  ) else (
    if x6 = 0 then (
      chk x7 81 <|
      if ((σ 91 (Int32.toNatClampNeg x7)) &&& (x5 ^^^ (-1))) = 0 then (
        k91 (1, (x7 + 1))
      ) else (
        k91 (0, (x7 + 1))
      )
    ) else (
      k91 (1, (x7 + 1))
    )
  )
set_option maxHeartbeats 4000000 in
set_option maxRecDepth 100000 in
theorem w_X10_forced_b91 {C : XC} {Q : State → Prop} {g : cG} (σ : St) (x3 : Int32) (x4 : Int32) (x5 : Int32) (x6 : Int32) (x7 : Int32) (o : Int32 × St) (h : XOk C cX10_forced RX10 tG rmX10_forced) (hg : XG C g) (hL : C.2.2.2.2.2.2.2.2.2.2.2.2.1 = 8) (hr : XEnd C (some .int) Q (XQ g (some (.int o.1)) o.2) (cA g)) (k70 : (Int32 × Int32) → Option (Int32 × St)) (k91 : (Int32 × Int32) → Option (Int32 × St)) (hk70 : ∀ z : Int32 × Int32, k70 z = some o → Xs C (wW g) Q σ 70 [(0, .ref (gA g 87)), (3, .int x3), (4, .int z.1), (5, .int z.2)] []) (hk91 : ∀ z : Int32 × Int32, k91 z = some o → Xs C (wW g) Q σ 91 [(0, .ref (gA g 87)), (3, .int x3), (4, .int x4), (5, .int x5), (6, .int z.1), (7, .int z.2)] []) (hf : m_X10_forced_b91 σ x3 x4 x5 x6 x7 k70 k91 = some o) : Xs C (wW g) Q σ 91 [(0, .ref (gA g 87)), (3, .int x3), (4, .int x4), (5, .int x5), (6, .int x6), (7, .int x7)] [] := by
  unfold m_X10_forced_b91 at hf
  refine x_iload h dX10_forced_91 5 rfl (q := 93) rfl ?_
  refine x_iload_n h dX10_forced_93 rfl 1 rfl (q := 94) rfl ?_
  refine x_icmp_ge (tgt := 130) h dX10_forced_94 (by decide) (q := 97) rfl hf (fun hc1 hf2 => ?_) (fun hc1 hf2 => ?_)
  · skip
    refine x_iload h dX10_forced_130 2 rfl (q := 132) rfl ?_
    refine x_iload h dX10_forced_132 4 rfl (q := 134) rfl ?_
    refine x_if_eq (tgt := 141) h dX10_forced_134 (by decide) (q := 137) rfl hf2 (fun hc3 hf4 => ?_) (fun hc3 hf4 => ?_)
    · skip
      refine x_iconst (v := 0) h dX10_forced_141 (by decide) (q := 142) rfl ?_
      refine x_iadd h dX10_forced_142 (q := 143) rfl ?_
      refine x_istore (lv' := [(4, .int (x4 + 0)), (0, .ref (gA g 87)), (3, .int x3), (5, .int x5), (6, .int x6), (7, .int x7)]) h dX10_forced_143 hL (by decide) rfl (q := 145) rfl ?_
      refine x_iinc (v := (x5 + 1)) (lv' := [(5, .int (x5 + 1)), (4, .int (x4 + 0)), (0, .ref (gA g 87)), (3, .int x3), (6, .int x6), (7, .int x7)]) (j := 3) h dX10_forced_145 rfl rfl hL (by decide) rfl (q := 148) rfl ?_
      refine x_goto (q := 70) h dX10_forced_148 (by decide) ?_
      refine x_sub (lv' := [(0, .ref (gA g 87)), (3, .int x3), (4, .int (x4 + 0)), (5, .int (x5 + 1))]) [2, 3, 1, 0] rfl ?_
      exact hk70 ((x4 + 0), (x5 + 1)) hf4
    · skip
      refine x_iconst (v := 1) h dX10_forced_137 (by decide) (q := 138) rfl ?_
      refine x_goto (q := 142) h dX10_forced_138 (by decide) ?_
      refine x_iadd h dX10_forced_142 (q := 143) rfl ?_
      refine x_istore (lv' := [(4, .int (x4 + 1)), (0, .ref (gA g 87)), (3, .int x3), (5, .int x5), (6, .int x6), (7, .int x7)]) h dX10_forced_143 hL (by decide) rfl (q := 145) rfl ?_
      refine x_iinc (v := (x5 + 1)) (lv' := [(5, .int (x5 + 1)), (4, .int (x4 + 1)), (0, .ref (gA g 87)), (3, .int x3), (6, .int x6), (7, .int x7)]) (j := 3) h dX10_forced_145 rfl rfl hL (by decide) rfl (q := 148) rfl ?_
      refine x_goto (q := 70) h dX10_forced_148 (by decide) ?_
      refine x_sub (lv' := [(0, .ref (gA g 87)), (3, .int x3), (4, .int (x4 + 1)), (5, .int (x5 + 1))]) [2, 3, 1, 0] rfl ?_
      exact hk70 ((x4 + 1), (x5 + 1)) hf4
  · skip
    refine x_iload h dX10_forced_97 4 rfl (q := 99) rfl ?_
    refine x_if_ne (tgt := 117) h dX10_forced_99 (by decide) (q := 102) rfl hf2 (fun hc5 hf6 => ?_) (fun hc5 hf6 => ?_)
    · skip
      refine x_iconst (v := 1) h dX10_forced_117 (by decide) (q := 118) rfl ?_
      refine x_goto (q := 122) h dX10_forced_118 (by decide) ?_
      refine x_istore (lv' := [(6, .int 1), (0, .ref (gA g 87)), (3, .int x3), (4, .int x4), (5, .int x5), (7, .int x7)]) h dX10_forced_122 hL (by decide) rfl (q := 124) rfl ?_
      refine x_iinc (v := (x7 + 1)) (lv' := [(7, .int (x7 + 1)), (6, .int 1), (0, .ref (gA g 87)), (3, .int x3), (4, .int x4), (5, .int x5)]) (j := 5) h dX10_forced_124 rfl rfl hL (by decide) rfl (q := 127) rfl ?_
      refine x_goto (q := 91) h dX10_forced_127 (by decide) ?_
      refine x_sub (lv' := [(0, .ref (gA g 87)), (3, .int x3), (4, .int x4), (5, .int x5), (6, .int 1), (7, .int (x7 + 1))]) [2, 3, 4, 5, 1, 0] rfl ?_
      exact hk91 (1, (x7 + 1)) hf6
    · skip
      refine x_aload_n h dX10_forced_102 rfl 0 rfl (q := 103) rfl ?_
      refine x_get_X10_87_6 h hg kf_X10_19 nn_X10 dX10_forced_103 ?_
      refine x_iload h dX10_forced_106 5 rfl (q := 108) rfl ?_
      obtain ⟨hi7, hf8⟩ := chk_inv hf6
      refine x_iald (j := (Int32.toNatClampNeg x7)) h hg a_91 hi7 rfl dX10_forced_108 (q := 109) rfl ?_
      refine x_iload h dX10_forced_109 3 rfl (q := 111) rfl ?_
      refine x_iconst (v := (-1)) h dX10_forced_111 (by decide) (q := 112) rfl ?_
      refine x_ixor h dX10_forced_112 (q := 113) rfl ?_
      refine x_iand h dX10_forced_113 (q := 114) rfl ?_
      refine x_if_ne (tgt := 121) h dX10_forced_114 (by decide) (q := 117) rfl hf8 (fun hc9 hf10 => ?_) (fun hc9 hf10 => ?_)
      · skip
        refine x_iconst (v := 0) h dX10_forced_121 (by decide) (q := 122) rfl ?_
        refine x_istore (lv' := [(6, .int 0), (0, .ref (gA g 87)), (3, .int x3), (4, .int x4), (5, .int x5), (7, .int x7)]) h dX10_forced_122 hL (by decide) rfl (q := 124) rfl ?_
        refine x_iinc (v := (x7 + 1)) (lv' := [(7, .int (x7 + 1)), (6, .int 0), (0, .ref (gA g 87)), (3, .int x3), (4, .int x4), (5, .int x5)]) (j := 5) h dX10_forced_124 rfl rfl hL (by decide) rfl (q := 127) rfl ?_
        refine x_goto (q := 91) h dX10_forced_127 (by decide) ?_
        refine x_sub (lv' := [(0, .ref (gA g 87)), (3, .int x3), (4, .int x4), (5, .int x5), (6, .int 0), (7, .int (x7 + 1))]) [2, 3, 4, 5, 1, 0] rfl ?_
        exact hk91 (0, (x7 + 1)) hf10
      · skip
        refine x_iconst (v := 1) h dX10_forced_117 (by decide) (q := 118) rfl ?_
        refine x_goto (q := 122) h dX10_forced_118 (by decide) ?_
        refine x_istore (lv' := [(6, .int 1), (0, .ref (gA g 87)), (3, .int x3), (4, .int x4), (5, .int x5), (7, .int x7)]) h dX10_forced_122 hL (by decide) rfl (q := 124) rfl ?_
        refine x_iinc (v := (x7 + 1)) (lv' := [(7, .int (x7 + 1)), (6, .int 1), (0, .ref (gA g 87)), (3, .int x3), (4, .int x4), (5, .int x5)]) (j := 5) h dX10_forced_124 rfl rfl hL (by decide) rfl (q := 127) rfl ?_
        refine x_goto (q := 91) h dX10_forced_127 (by decide) ?_
        refine x_sub (lv' := [(0, .ref (gA g 87)), (3, .int x3), (4, .int x4), (5, .int x5), (6, .int 1), (7, .int (x7 + 1))]) [2, 3, 4, 5, 1, 0] rfl ?_
        exact hk91 (1, (x7 + 1)) hf10
set_option maxHeartbeats 4000000 in
set_option maxRecDepth 100000 in
theorem w_X10_forced_l91 {C : XC} {Q : State → Prop} {g : cG} (σ : St) (x3 : Int32) (x4 : Int32) (x5 : Int32) (o : Int32 × St) (h : XOk C cX10_forced RX10 tG rmX10_forced) (hg : XG C g) (hL : C.2.2.2.2.2.2.2.2.2.2.2.2.1 = 8) (hr : XEnd C (some .int) Q (XQ g (some (.int o.1)) o.2) (cA g)) (k70 : (Int32 × Int32) → Option (Int32 × St)) (hk70 : ∀ z : Int32 × Int32, k70 z = some o → Xs C (wW g) Q σ 70 [(0, .ref (gA g 87)), (3, .int x3), (4, .int z.1), (5, .int z.2)] []) : ∀ (n : Nat) (z : Int32 × Int32), loopF (fun k z => m_X10_forced_b91 σ x3 x4 x5 z.1 z.2 k70 k) n z = some o → Xs C (wW g) Q σ 91 [(0, .ref (gA g 87)), (3, .int x3), (4, .int x4), (5, .int x5), (6, .int z.1), (7, .int z.2)] [] := by
  intro n z hf
  refine loopF_ind (S := Int32 × Int32) (O := Int32 × St) (step := (fun k z => m_X10_forced_b91 σ x3 x4 x5 z.1 z.2 k70 k)) (o := o) (P := fun z => Xs C (wW g) Q σ 91 [(0, .ref (gA g 87)), (3, .int x3), (4, .int x4), (5, .int x5), (6, .int z.1), (7, .int z.2)] []) ?_ n z hf
  intro k hk z hf
  exact w_X10_forced_b91 σ x3 x4 x5 z.1 z.2 o h hg hL hr k70 k hk70 hk hf
def m_X10_forced_b70 (σ : St) (x3 : Int32) (x4 : Int32) (x5 : Int32) (k70 : (Int32 × Int32) → Option (Int32 × St)) : Option (Int32 × St) :=
  chk 1200 1201 <|
  if ((1 : Int32) <<< ((σ 88 1200) &&& 31)) ≤ x5 then (
    some (x4, σ)
  ) else (
    loopF (fun k z => m_X10_forced_b91 σ x3 x4 x5 z.1 z.2 k70 k) cFu (0, 0)
  )
set_option maxHeartbeats 4000000 in
set_option maxRecDepth 100000 in
theorem w_X10_forced_b70 {C : XC} {Q : State → Prop} {g : cG} (σ : St) (x3 : Int32) (x4 : Int32) (x5 : Int32) (o : Int32 × St) (h : XOk C cX10_forced RX10 tG rmX10_forced) (hg : XG C g) (hL : C.2.2.2.2.2.2.2.2.2.2.2.2.1 = 8) (hr : XEnd C (some .int) Q (XQ g (some (.int o.1)) o.2) (cA g)) (k70 : (Int32 × Int32) → Option (Int32 × St)) (hk70 : ∀ z : Int32 × Int32, k70 z = some o → Xs C (wW g) Q σ 70 [(0, .ref (gA g 87)), (3, .int x3), (4, .int z.1), (5, .int z.2)] []) (hf : m_X10_forced_b70 σ x3 x4 x5 k70 = some o) : Xs C (wW g) Q σ 70 [(0, .ref (gA g 87)), (3, .int x3), (4, .int x4), (5, .int x5)] [] := by
  unfold m_X10_forced_b70 at hf
  refine x_iload h dX10_forced_70 3 rfl (q := 72) rfl ?_
  refine x_iconst (v := 1) h dX10_forced_72 (by decide) (q := 73) rfl ?_
  refine x_aload_n h dX10_forced_73 rfl 0 rfl (q := 74) rfl ?_
  refine x_get_X10_87_1 h hg kf_X10_7 nn_X10 dX10_forced_74 ?_
  refine x_sipush (v := 1200) h dX10_forced_77 (by decide) (q := 80) rfl ?_
  obtain ⟨hi1, hf2⟩ := chk_inv hf
  refine x_iald (j := 1200) h hg a_88 hi1 (by decide) dX10_forced_80 (q := 81) rfl ?_
  refine x_ishl h dX10_forced_81 (q := 82) rfl ?_
  refine x_icmp_ge (tgt := 151) h dX10_forced_82 (by decide) (q := 85) rfl hf2 (fun hc3 hf4 => ?_) (fun hc3 hf4 => ?_)
  · skip
    refine x_iload h dX10_forced_151 2 rfl (q := 153) rfl ?_
    have hz := Option.some.inj hf4
    subst hz
    exact x_iret h hg hr dX10_forced_153
  · skip
    refine x_iconst (v := 0) h dX10_forced_85 (by decide) (q := 86) rfl ?_
    refine x_istore (lv' := [(6, .int 0), (0, .ref (gA g 87)), (3, .int x3), (4, .int x4), (5, .int x5)]) h dX10_forced_86 hL (by decide) rfl (q := 88) rfl ?_
    refine x_iconst (v := 0) h dX10_forced_88 (by decide) (q := 89) rfl ?_
    refine x_istore (lv' := [(7, .int 0), (6, .int 0), (0, .ref (gA g 87)), (3, .int x3), (4, .int x4), (5, .int x5)]) h dX10_forced_89 hL (by decide) rfl (q := 91) rfl ?_
    refine x_sub (lv' := [(0, .ref (gA g 87)), (3, .int x3), (4, .int x4), (5, .int x5), (6, .int 0), (7, .int 0)]) [2, 3, 4, 5, 1, 0] rfl ?_
    exact w_X10_forced_l91 σ x3 x4 x5 o h hg hL hr k70 hk70  cFu (0, 0) hf4
set_option maxHeartbeats 4000000 in
set_option maxRecDepth 100000 in
theorem w_X10_forced_l70 {C : XC} {Q : State → Prop} {g : cG} (σ : St) (x3 : Int32) (o : Int32 × St) (h : XOk C cX10_forced RX10 tG rmX10_forced) (hg : XG C g) (hL : C.2.2.2.2.2.2.2.2.2.2.2.2.1 = 8) (hr : XEnd C (some .int) Q (XQ g (some (.int o.1)) o.2) (cA g)) : ∀ (n : Nat) (z : Int32 × Int32), loopF (fun k z => m_X10_forced_b70 σ x3 z.1 z.2 k) n z = some o → Xs C (wW g) Q σ 70 [(0, .ref (gA g 87)), (3, .int x3), (4, .int z.1), (5, .int z.2)] [] := by
  intro n z hf
  refine loopF_ind (S := Int32 × Int32) (O := Int32 × St) (step := (fun k z => m_X10_forced_b70 σ x3 z.1 z.2 k)) (o := o) (P := fun z => Xs C (wW g) Q σ 70 [(0, .ref (gA g 87)), (3, .int x3), (4, .int z.1), (5, .int z.2)] []) ?_ n z hf
  intro k hk z hf
  exact w_X10_forced_b70 σ x3 z.1 z.2 o h hg hL hr k hk hf
def m_X10_forced_b23 (σ : St) (x1 : Int32) (x2 : Int32) (x3 : Int32) (x4 : Int32) (k23 : (St × Int32 × Int32) → Option (Int32 × St)) : Option (Int32 × St) :=
  if 81 ≤ x4 then (
    loopF (fun k z => m_X10_forced_b70 σ x3 z.1 z.2 k) cFu (0, 0)
  ) else (
    (m_X10_outcome σ x1 x2 x4).bind fun u3 =>
    if u3.1 = 0 then (
      k23 (u3.2, x3, (x4 + 1))
    ) else (
      (m_X10_outcome u3.2 x1 x2 x4).bind fun u7 =>
      chk x3 81 <|
      k23 ((up u7.2 91 (Int32.toNatClampNeg x3) u7.1), (x3 + 1), (x4 + 1))
    )
  )
set_option maxHeartbeats 4000000 in
set_option maxRecDepth 100000 in
theorem w_X10_forced_b23 {C : XC} {Q : State → Prop} {g : cG} (σ : St) (x1 : Int32) (x2 : Int32) (x3 : Int32) (x4 : Int32) (o : Int32 × St) (h : XOk C cX10_forced RX10 tG rmX10_forced) (hg : XG C g) (hL : C.2.2.2.2.2.2.2.2.2.2.2.2.1 = 8) (hr : XEnd C (some .int) Q (XQ g (some (.int o.1)) o.2) (cA g)) (k23 : (St × Int32 × Int32) → Option (Int32 × St)) (hk23 : ∀ z : St × Int32 × Int32, k23 z = some o → Xs C (wW g) Q z.1 23 [(0, .ref (gA g 87)), (1, .int x1), (2, .int x2), (3, .int z.2.1), (4, .int z.2.2)] []) (hf : m_X10_forced_b23 σ x1 x2 x3 x4 k23 = some o) : Xs C (wW g) Q σ 23 [(0, .ref (gA g 87)), (1, .int x1), (2, .int x2), (3, .int x3), (4, .int x4)] [] := by
  unfold m_X10_forced_b23 at hf
  refine x_iload h dX10_forced_23 4 rfl (q := 25) rfl ?_
  refine x_bipush (v := 81) h dX10_forced_25 (by decide) (q := 27) rfl ?_
  refine x_icmp_ge (tgt := 64) h dX10_forced_27 (by decide) (q := 30) rfl hf (fun hc1 hf2 => ?_) (fun hc1 hf2 => ?_)
  · skip
    refine x_iconst (v := 0) h dX10_forced_64 (by decide) (q := 65) rfl ?_
    refine x_istore (lv' := [(4, .int 0), (0, .ref (gA g 87)), (1, .int x1), (2, .int x2), (3, .int x3)]) h dX10_forced_65 hL (by decide) rfl (q := 67) rfl ?_
    refine x_iconst (v := 0) h dX10_forced_67 (by decide) (q := 68) rfl ?_
    refine x_istore (lv' := [(5, .int 0), (4, .int 0), (0, .ref (gA g 87)), (1, .int x1), (2, .int x2), (3, .int x3)]) h dX10_forced_68 hL (by decide) rfl (q := 70) rfl ?_
    refine x_sub (lv' := [(0, .ref (gA g 87)), (3, .int x3), (4, .int 0), (5, .int 0)]) [2, 5, 1, 0] rfl ?_
    exact w_X10_forced_l70 σ x3 o h hg hL hr  cFu (0, 0) hf2
  · skip
    refine x_aload_n h dX10_forced_30 rfl 0 rfl (q := 31) rfl ?_
    refine x_iload_n h dX10_forced_31 rfl 1 rfl (q := 32) rfl ?_
    refine x_iload_n h dX10_forced_32 rfl 2 rfl (q := 33) rfl ?_
    refine x_iload h dX10_forced_33 4 rfl (q := 35) rfl ?_
    obtain ⟨u3, hu3, hf4⟩ := bnd_inv hf2
    refine x_callVi (As := [.int x1, .int x2, .int x4]) (rest := []) h hg (c_X10_outcome C.2.1 hg.2.1 σ x1 x2 x4 _ hu3) ml_X10_119 biX10_outcome rfl rfl hdX10_outcome ⟨Nat.le_of_ble_eq_true rfl, Nat.le_of_ble_eq_true rfl⟩ (by decide) (cE_87 g _) rfl rfl rfl (Nat.le_of_ble_eq_true rfl) dX10_forced_35 ?_
    refine x_if_eq (tgt := 58) h dX10_forced_38 (by decide) (q := 41) rfl hf4 (fun hc5 hf6 => ?_) (fun hc5 hf6 => ?_)
    · skip
      refine x_iinc (v := (x4 + 1)) (lv' := [(4, .int (x4 + 1)), (0, .ref (gA g 87)), (1, .int x1), (2, .int x2), (3, .int x3)]) (j := 4) h dX10_forced_58 rfl rfl hL (by decide) rfl (q := 61) rfl ?_
      refine x_goto (q := 23) h dX10_forced_61 (by decide) ?_
      refine x_sub (lv' := [(0, .ref (gA g 87)), (1, .int x1), (2, .int x2), (3, .int x3), (4, .int (x4 + 1))]) [1, 2, 3, 4, 0] rfl ?_
      exact hk23 (u3.2, x3, (x4 + 1)) hf6
    · skip
      refine x_aload_n h dX10_forced_41 rfl 0 rfl (q := 42) rfl ?_
      refine x_get_X10_87_6 h hg kf_X10_19 nn_X10 dX10_forced_42 ?_
      refine x_iload_n h dX10_forced_45 rfl 3 rfl (q := 46) rfl ?_
      refine x_aload_n h dX10_forced_46 rfl 0 rfl (q := 47) rfl ?_
      refine x_iload_n h dX10_forced_47 rfl 1 rfl (q := 48) rfl ?_
      refine x_iload_n h dX10_forced_48 rfl 2 rfl (q := 49) rfl ?_
      refine x_iload h dX10_forced_49 4 rfl (q := 51) rfl ?_
      obtain ⟨u7, hu7, hf8⟩ := bnd_inv hf6
      refine x_callVi (As := [.int x1, .int x2, .int x4]) (rest := [.int x3, .ref (gA g 91)]) h hg (c_X10_outcome C.2.1 hg.2.1 u3.2 x1 x2 x4 _ hu7) ml_X10_119 biX10_outcome rfl rfl hdX10_outcome ⟨Nat.le_of_ble_eq_true rfl, Nat.le_of_ble_eq_true rfl⟩ (by decide) (cE_87 g _) rfl rfl rfl (Nat.le_of_ble_eq_true rfl) dX10_forced_51 ?_
      obtain ⟨hi9, hf10⟩ := chk_inv hf8
      refine x_iast (j := (Int32.toNatClampNeg x3)) h hg a_91 hi9 rfl dX10_forced_54 (q := 55) rfl ?_
      refine x_iinc (v := (x3 + 1)) (lv' := [(3, .int (x3 + 1)), (0, .ref (gA g 87)), (1, .int x1), (2, .int x2), (4, .int x4)]) (j := 3) h dX10_forced_55 rfl rfl hL (by decide) rfl (q := 58) rfl ?_
      refine x_iinc (v := (x4 + 1)) (lv' := [(4, .int (x4 + 1)), (3, .int (x3 + 1)), (0, .ref (gA g 87)), (1, .int x1), (2, .int x2)]) (j := 4) h dX10_forced_58 rfl rfl hL (by decide) rfl (q := 61) rfl ?_
      refine x_goto (q := 23) h dX10_forced_61 (by decide) ?_
      refine x_sub (lv' := [(0, .ref (gA g 87)), (1, .int x1), (2, .int x2), (3, .int (x3 + 1)), (4, .int (x4 + 1))]) [2, 3, 4, 1, 0] rfl ?_
      exact hk23 ((up u7.2 91 (Int32.toNatClampNeg x3) u7.1), (x3 + 1), (x4 + 1)) hf10
set_option maxHeartbeats 4000000 in
set_option maxRecDepth 100000 in
theorem w_X10_forced_l23 {C : XC} {Q : State → Prop} {g : cG} (x1 : Int32) (x2 : Int32) (o : Int32 × St) (h : XOk C cX10_forced RX10 tG rmX10_forced) (hg : XG C g) (hL : C.2.2.2.2.2.2.2.2.2.2.2.2.1 = 8) (hr : XEnd C (some .int) Q (XQ g (some (.int o.1)) o.2) (cA g)) : ∀ (n : Nat) (z : St × Int32 × Int32), loopF (fun k z => m_X10_forced_b23 z.1 x1 x2 z.2.1 z.2.2 k) n z = some o → Xs C (wW g) Q z.1 23 [(0, .ref (gA g 87)), (1, .int x1), (2, .int x2), (3, .int z.2.1), (4, .int z.2.2)] [] := by
  intro n z hf
  refine loopF_ind (S := St × Int32 × Int32) (O := Int32 × St) (step := (fun k z => m_X10_forced_b23 z.1 x1 x2 z.2.1 z.2.2 k)) (o := o) (P := fun z => Xs C (wW g) Q z.1 23 [(0, .ref (gA g 87)), (1, .int x1), (2, .int x2), (3, .int z.2.1), (4, .int z.2.2)] []) ?_ n z hf
  intro k hk z hf
  exact w_X10_forced_b23 z.1 x1 x2 z.2.1 z.2.2 o h hg hL hr k hk hf
def m_X10_forced (σ : St) (x1 : Int32) (x2 : Int32) : Option (Int32 × St) :=
  if (bI (m_X10_isCoalition σ x1)) = 0 then (
    some ((-1), σ)
  ) else (
    (m_X10_isState σ x2).bind fun u3 =>
    if (bI u3) = 0 then (
      some ((-1), σ)
    ) else (
      loopF (fun k z => m_X10_forced_b23 z.1 x1 x2 z.2.1 z.2.2 k) cFu (σ, 0, 0)
    )
  )
set_option maxHeartbeats 4000000 in
set_option maxRecDepth 100000 in
theorem w_X10_forced {C : XC} {Q : State → Prop} {g : cG} (σ : St) (x1 : Int32) (x2 : Int32) (o : Int32 × St) (h : XOk C cX10_forced RX10 tG rmX10_forced) (hg : XG C g) (hL : C.2.2.2.2.2.2.2.2.2.2.2.2.1 = 8) (hr : XEnd C (some .int) Q (XQ g (some (.int o.1)) o.2) (cA g)) (hf : m_X10_forced σ x1 x2 = some o) : Xs C (wW g) Q σ 0 [(0, .ref (gA g 87)), (1, .int x1), (2, .int x2)] [] := by
  unfold m_X10_forced at hf
  refine x_aload_n h dX10_forced_0 rfl 0 rfl (q := 1) rfl ?_
  refine x_iload_n h dX10_forced_1 rfl 1 rfl (q := 2) rfl ?_
  refine x_callVi (As := [.int x1]) (rest := []) h hg (c_X10_isCoalition C.2.1 hg.2.1 σ x1 _ rfl) ml_X10_136 biX10_isCoalition rfl rfl hdX10_isCoalition ⟨Nat.le_of_ble_eq_true rfl, Nat.le_of_ble_eq_true rfl⟩ (by decide) (cE_87 g _) rfl rfl rfl (Nat.le_of_ble_eq_true rfl) dX10_forced_2 ?_
  refine x_if_eq (tgt := 16) h dX10_forced_5 (by decide) (q := 8) rfl hf (fun hc1 hf2 => ?_) (fun hc1 hf2 => ?_)
  · skip
    refine x_iconst (v := (-1)) h dX10_forced_16 (by decide) (q := 17) rfl ?_
    have hz := Option.some.inj hf2
    subst hz
    exact x_iret h hg hr dX10_forced_17
  · skip
    refine x_aload_n h dX10_forced_8 rfl 0 rfl (q := 9) rfl ?_
    refine x_iload_n h dX10_forced_9 rfl 2 rfl (q := 10) rfl ?_
    obtain ⟨u3, hu3, hf4⟩ := bnd_inv hf2
    refine x_callVi (As := [.int x2]) (rest := []) h hg (c_X10_isState C.2.1 hg.2.1 σ x2 _ hu3) ml_X10_129 biX10_isState rfl rfl hdX10_isState ⟨Nat.le_of_ble_eq_true rfl, Nat.le_of_ble_eq_true rfl⟩ (by decide) (cE_87 g _) rfl rfl rfl (Nat.le_of_ble_eq_true rfl) dX10_forced_10 ?_
    refine x_if_ne (tgt := 18) h dX10_forced_13 (by decide) (q := 16) rfl hf4 (fun hc5 hf6 => ?_) (fun hc5 hf6 => ?_)
    · skip
      refine x_iconst (v := 0) h dX10_forced_18 (by decide) (q := 19) rfl ?_
      refine x_istore_n (lv' := [(3, .int 0), (0, .ref (gA g 87)), (1, .int x1), (2, .int x2)]) h dX10_forced_19 rfl hL (by decide) rfl (q := 20) rfl ?_
      refine x_iconst (v := 0) h dX10_forced_20 (by decide) (q := 21) rfl ?_
      refine x_istore (lv' := [(4, .int 0), (3, .int 0), (0, .ref (gA g 87)), (1, .int x1), (2, .int x2)]) h dX10_forced_21 hL (by decide) rfl (q := 23) rfl ?_
      refine x_sub (lv' := [(0, .ref (gA g 87)), (1, .int x1), (2, .int x2), (3, .int 0), (4, .int 0)]) [2, 3, 4, 1, 0] rfl ?_
      exact w_X10_forced_l23 x1 x2 o h hg hL hr  cFu (σ, 0, 0) hf6
    · skip
      refine x_iconst (v := (-1)) h dX10_forced_16 (by decide) (q := 17) rfl ?_
      have hz := Option.some.inj hf6
      subst hz
      exact x_iret h hg hr dX10_forced_17
theorem c_X10_forced (l : Launch) {g : cG} (hi : gInj g) (σ : St) (x1 : Int32) (x2 : Int32) (o : Int32 × St) (hf : m_X10_forced σ x1 x2 = some o) : Met l yX10_forced (wT yX10_forced cX10_forced 8 (some .int)) rmX10_forced (va_Pc [.ref (gA g 87), .int x1, .int x2] (XPre g σ)) (XQ g (some (.int o.1)) o.2) 0 0 (cA g) :=
  X_met RX10 hi plX10 rfl (Nat.le_of_ble_eq_true rfl) rfl (fun _ _ _ h hg hL hr => w_X10_forced σ x1 x2 o h hg hL hr hf)
