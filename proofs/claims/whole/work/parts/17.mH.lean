abbrev rmX10_forcers : Room := { frames := 7, cells := 0, slots := 0, locals := 159 }
theorem hdX10_forcers : yX10_forcers.cls = RX10 ∧ yX10_forcers.cls ≠ "java/lang/invoke/MethodHandle" ∧ yX10_forcers.cls ≠ "java/lang/invoke/VarHandle" ∧ (parseMethodDescriptor yX10_forcers.desc).map (fun d => d.parameters.length) = some 2 := by decide +kernel
def m_X10_forcers_b5 (σ : St) (x1 : Int32) (x2 : Int32) (x3 : Int32) (x4 : Int32) (k5 : (St × Int32 × Int32) → Option (Int32 × St)) : Option (Int32 × St) :=
  chk 1200 1201 <|
  if (σ 88 1200) ≤ x4 then (
    some (x3, σ)
  ) else (
    (m_X10_forces σ x1 x4 x2).bind fun u5 =>
    if (bI u5.1) = 0 then (
      k5 (u5.2, (x3 ||| 0), (x4 + 1))
    ) else (
      k5 (u5.2, (x3 ||| ((1 : Int32) <<< (x4 &&& 31))), (x4 + 1))
    )
  )
set_option maxHeartbeats 4000000 in
set_option maxRecDepth 100000 in
theorem w_X10_forcers_b5 {C : XC} {Q : State → Prop} {g : cG} (σ : St) (x1 : Int32) (x2 : Int32) (x3 : Int32) (x4 : Int32) (o : Int32 × St) (h : XOk C cX10_forcers RX10 tG rmX10_forcers) (hg : XG C g) (hL : C.2.2.2.2.2.2.2.2.2.2.2.2.1 = 5) (hr : XEnd C (some .int) Q (XQ g (some (.int o.1)) o.2) (cA g)) (k5 : (St × Int32 × Int32) → Option (Int32 × St)) (hk5 : ∀ z : St × Int32 × Int32, k5 z = some o → Xs C (wW g) Q z.1 5 [(0, .ref (gA g 87)), (1, .int x1), (2, .int x2), (3, .int z.2.1), (4, .int z.2.2)] []) (hf : m_X10_forcers_b5 σ x1 x2 x3 x4 k5 = some o) : Xs C (wW g) Q σ 5 [(0, .ref (gA g 87)), (1, .int x1), (2, .int x2), (3, .int x3), (4, .int x4)] [] := by
  unfold m_X10_forcers_b5 at hf
  refine x_iload h dX10_forcers_5 4 rfl (q := 7) rfl ?_
  refine x_aload_n h dX10_forcers_7 rfl 0 rfl (q := 8) rfl ?_
  refine x_get_X10_87_1 h hg kf_X10_7 nn_X10 dX10_forcers_8 ?_
  refine x_sipush (v := 1200) h dX10_forcers_11 (by decide) (q := 14) rfl ?_
  obtain ⟨hi1, hf2⟩ := chk_inv hf
  refine x_iald (j := 1200) h hg a_88 hi1 (by decide) dX10_forcers_14 (q := 15) rfl ?_
  refine x_icmp_ge (tgt := 46) h dX10_forcers_15 (by decide) (q := 18) rfl hf2 (fun hc3 hf4 => ?_) (fun hc3 hf4 => ?_)
  · skip
    refine x_iload_n h dX10_forcers_46 rfl 3 rfl (q := 47) rfl ?_
    have hz := Option.some.inj hf4
    subst hz
    exact x_iret h hg hr dX10_forcers_47
  · skip
    refine x_iload_n h dX10_forcers_18 rfl 3 rfl (q := 19) rfl ?_
    refine x_aload_n h dX10_forcers_19 rfl 0 rfl (q := 20) rfl ?_
    refine x_iload_n h dX10_forcers_20 rfl 1 rfl (q := 21) rfl ?_
    refine x_iload h dX10_forcers_21 4 rfl (q := 23) rfl ?_
    refine x_iload_n h dX10_forcers_23 rfl 2 rfl (q := 24) rfl ?_
    obtain ⟨u5, hu5, hf6⟩ := bnd_inv hf4
    refine x_callVi (As := [.int x1, .int x4, .int x2]) (rest := [.int x3]) h hg (c_X10_forces C.2.1 hg.2.1 σ x1 x4 x2 _ hu5) ml_X10_215 biX10_forces rfl rfl hdX10_forces ⟨Nat.le_of_ble_eq_true rfl, Nat.le_of_ble_eq_true rfl⟩ (by decide) (cE_87 g _) rfl rfl rfl (Nat.le_of_ble_eq_true rfl) dX10_forcers_24 ?_
    refine x_if_eq (tgt := 37) h dX10_forcers_27 (by decide) (q := 30) rfl hf6 (fun hc7 hf8 => ?_) (fun hc7 hf8 => ?_)
    · skip
      refine x_iconst (v := 0) h dX10_forcers_37 (by decide) (q := 38) rfl ?_
      refine x_ior h dX10_forcers_38 (q := 39) rfl ?_
      refine x_istore_n (lv' := [(3, .int (x3 ||| 0)), (0, .ref (gA g 87)), (1, .int x1), (2, .int x2), (4, .int x4)]) h dX10_forcers_39 rfl hL (by decide) rfl (q := 40) rfl ?_
      refine x_iinc (v := (x4 + 1)) (lv' := [(4, .int (x4 + 1)), (3, .int (x3 ||| 0)), (0, .ref (gA g 87)), (1, .int x1), (2, .int x2)]) (j := 4) h dX10_forcers_40 rfl rfl hL (by decide) rfl (q := 43) rfl ?_
      refine x_goto (q := 5) h dX10_forcers_43 (by decide) ?_
      refine x_sub (lv' := [(0, .ref (gA g 87)), (1, .int x1), (2, .int x2), (3, .int (x3 ||| 0)), (4, .int (x4 + 1))]) [2, 3, 4, 1, 0] rfl ?_
      exact hk5 (u5.2, (x3 ||| 0), (x4 + 1)) hf8
    · skip
      refine x_iconst (v := 1) h dX10_forcers_30 (by decide) (q := 31) rfl ?_
      refine x_iload h dX10_forcers_31 4 rfl (q := 33) rfl ?_
      refine x_ishl h dX10_forcers_33 (q := 34) rfl ?_
      refine x_goto (q := 38) h dX10_forcers_34 (by decide) ?_
      refine x_ior h dX10_forcers_38 (q := 39) rfl ?_
      refine x_istore_n (lv' := [(3, .int (x3 ||| ((1 : Int32) <<< (x4 &&& 31)))), (0, .ref (gA g 87)), (1, .int x1), (2, .int x2), (4, .int x4)]) h dX10_forcers_39 rfl hL (by decide) rfl (q := 40) rfl ?_
      refine x_iinc (v := (x4 + 1)) (lv' := [(4, .int (x4 + 1)), (3, .int (x3 ||| ((1 : Int32) <<< (x4 &&& 31)))), (0, .ref (gA g 87)), (1, .int x1), (2, .int x2)]) (j := 4) h dX10_forcers_40 rfl rfl hL (by decide) rfl (q := 43) rfl ?_
      refine x_goto (q := 5) h dX10_forcers_43 (by decide) ?_
      refine x_sub (lv' := [(0, .ref (gA g 87)), (1, .int x1), (2, .int x2), (3, .int (x3 ||| ((1 : Int32) <<< (x4 &&& 31)))), (4, .int (x4 + 1))]) [2, 3, 4, 1, 0] rfl ?_
      exact hk5 (u5.2, (x3 ||| ((1 : Int32) <<< (x4 &&& 31))), (x4 + 1)) hf8
set_option maxHeartbeats 4000000 in
set_option maxRecDepth 100000 in
theorem w_X10_forcers_l5 {C : XC} {Q : State → Prop} {g : cG} (x1 : Int32) (x2 : Int32) (o : Int32 × St) (h : XOk C cX10_forcers RX10 tG rmX10_forcers) (hg : XG C g) (hL : C.2.2.2.2.2.2.2.2.2.2.2.2.1 = 5) (hr : XEnd C (some .int) Q (XQ g (some (.int o.1)) o.2) (cA g)) : ∀ (n : Nat) (z : St × Int32 × Int32), loopF (fun k z => m_X10_forcers_b5 z.1 x1 x2 z.2.1 z.2.2 k) n z = some o → Xs C (wW g) Q z.1 5 [(0, .ref (gA g 87)), (1, .int x1), (2, .int x2), (3, .int z.2.1), (4, .int z.2.2)] [] := by
  intro n z hf
  refine loopF_ind (S := St × Int32 × Int32) (O := Int32 × St) (step := (fun k z => m_X10_forcers_b5 z.1 x1 x2 z.2.1 z.2.2 k)) (o := o) (P := fun z => Xs C (wW g) Q z.1 5 [(0, .ref (gA g 87)), (1, .int x1), (2, .int x2), (3, .int z.2.1), (4, .int z.2.2)] []) ?_ n z hf
  intro k hk z hf
  exact w_X10_forcers_b5 z.1 x1 x2 z.2.1 z.2.2 o h hg hL hr k hk hf
def m_X10_forcers (σ : St) (x1 : Int32) (x2 : Int32) : Option (Int32 × St) :=
  loopF (fun k z => m_X10_forcers_b5 z.1 x1 x2 z.2.1 z.2.2 k) cFu (σ, 0, 0)
set_option maxHeartbeats 4000000 in
set_option maxRecDepth 100000 in
theorem w_X10_forcers {C : XC} {Q : State → Prop} {g : cG} (σ : St) (x1 : Int32) (x2 : Int32) (o : Int32 × St) (h : XOk C cX10_forcers RX10 tG rmX10_forcers) (hg : XG C g) (hL : C.2.2.2.2.2.2.2.2.2.2.2.2.1 = 5) (hr : XEnd C (some .int) Q (XQ g (some (.int o.1)) o.2) (cA g)) (hf : m_X10_forcers σ x1 x2 = some o) : Xs C (wW g) Q σ 0 [(0, .ref (gA g 87)), (1, .int x1), (2, .int x2)] [] := by
  unfold m_X10_forcers at hf
  refine x_iconst (v := 0) h dX10_forcers_0 (by decide) (q := 1) rfl ?_
  refine x_istore_n (lv' := [(3, .int 0), (0, .ref (gA g 87)), (1, .int x1), (2, .int x2)]) h dX10_forcers_1 rfl hL (by decide) rfl (q := 2) rfl ?_
  refine x_iconst (v := 0) h dX10_forcers_2 (by decide) (q := 3) rfl ?_
  refine x_istore (lv' := [(4, .int 0), (3, .int 0), (0, .ref (gA g 87)), (1, .int x1), (2, .int x2)]) h dX10_forcers_3 hL (by decide) rfl (q := 5) rfl ?_
  refine x_sub (lv' := [(0, .ref (gA g 87)), (1, .int x1), (2, .int x2), (3, .int 0), (4, .int 0)]) [2, 3, 4, 1, 0] rfl ?_
  exact w_X10_forcers_l5 x1 x2 o h hg hL hr  cFu (σ, 0, 0) hf
theorem c_X10_forcers (l : Launch) {g : cG} (hi : gInj g) (σ : St) (x1 : Int32) (x2 : Int32) (o : Int32 × St) (hf : m_X10_forcers σ x1 x2 = some o) : Met l yX10_forcers (wT yX10_forcers cX10_forcers 5 (some .int)) rmX10_forcers (va_Pc [.ref (gA g 87), .int x1, .int x2] (XPre g σ)) (XQ g (some (.int o.1)) o.2) 0 0 (cA g) :=
  X_met RX10 hi plX10 rfl (Nat.le_of_ble_eq_true rfl) rfl (fun _ _ _ h hg hL hr => w_X10_forcers σ x1 x2 o h hg hL hr hf)
abbrev rmX10_reaches : Room := { frames := 8, cells := 0, slots := 0, locals := 183 }
theorem hdX10_reaches : yX10_reaches.cls = RX10 ∧ yX10_reaches.cls ≠ "java/lang/invoke/MethodHandle" ∧ yX10_reaches.cls ≠ "java/lang/invoke/VarHandle" ∧ (parseMethodDescriptor yX10_reaches.desc).map (fun d => d.parameters.length) = some 3 := by decide +kernel
def m_X10_reaches_b35 (σ : St) (x1 : Int32) (x2 : Int32) (x3 : Int32) (x4 : Int32) (x5 : Int32) (s0 : Int32) (s1 : Int32) (k6 : (St × Int32) → Option (Int32 × St)) : Option (Int32 × St) :=
  chk s1 12 <|
  k6 ((up σ 107 (Int32.toNatClampNeg s1) s0), (x5 + 1))
set_option maxHeartbeats 4000000 in
set_option maxRecDepth 100000 in
theorem w_X10_reaches_b35 {C : XC} {Q : State → Prop} {g : cG} (σ : St) (x1 : Int32) (x2 : Int32) (x3 : Int32) (x4 : Int32) (x5 : Int32) (s0 : Int32) (s1 : Int32) (o : Int32 × St) (h : XOk C cX10_reaches RX10 tG rmX10_reaches) (hg : XG C g) (hL : C.2.2.2.2.2.2.2.2.2.2.2.2.1 = 8) (hr : XEnd C (some .int) Q (XQ g (some (.int o.1)) o.2) (cA g)) (k6 : (St × Int32) → Option (Int32 × St)) (hk6 : ∀ z : St × Int32, k6 z = some o → Xs C (wW g) Q z.1 6 [(0, .ref (gA g 87)), (1, .int x1), (2, .int x2), (3, .int x3), (4, .int x4), (5, .int z.2)] []) (hf : m_X10_reaches_b35 σ x1 x2 x3 x4 x5 s0 s1 k6 = some o) : Xs C (wW g) Q σ 35 [(0, .ref (gA g 87)), (1, .int x1), (2, .int x2), (3, .int x3), (4, .int x4), (5, .int x5)] [.int s0, .int s1, .ref (gA g 107)] := by
  unfold m_X10_reaches_b35 at hf
  obtain ⟨hi1, hf2⟩ := chk_inv hf
  refine x_iast (j := (Int32.toNatClampNeg s1)) h hg a_107 hi1 rfl dX10_reaches_35 (q := 36) rfl ?_
  refine x_iinc (v := (x5 + 1)) (lv' := [(5, .int (x5 + 1)), (0, .ref (gA g 87)), (1, .int x1), (2, .int x2), (3, .int x3), (4, .int x4)]) (j := 5) h dX10_reaches_36 rfl rfl hL (by decide) rfl (q := 39) rfl ?_
  refine x_goto (q := 6) h dX10_reaches_39 (by decide) ?_
  refine x_sub (lv' := [(0, .ref (gA g 87)), (1, .int x1), (2, .int x2), (3, .int x3), (4, .int x4), (5, .int (x5 + 1))]) [1, 2, 3, 4, 5, 0] rfl ?_
  exact hk6 ((up σ 107 (Int32.toNatClampNeg s1) s0), (x5 + 1)) hf2
def m_X10_reaches_b109 (σ : St) (x1 : Int32) (x2 : Int32) (x4 : Int32) (x5 : Int32) (x6 : Int32) (x7 : Int32) (s0 : Int32) (s1 : Int32) (k49 : (St × Int32 × Int32 × Int32) → Option (Int32 × St)) (k73 : (St × Int32) → Option (Int32 × St)) : Option (Int32 × St) :=
  chk s1 12 <|
  k73 ((up σ 107 (Int32.toNatClampNeg s1) s0), (x7 + 1))
set_option maxHeartbeats 4000000 in
set_option maxRecDepth 100000 in
theorem w_X10_reaches_b109 {C : XC} {Q : State → Prop} {g : cG} (σ : St) (x1 : Int32) (x2 : Int32) (x4 : Int32) (x5 : Int32) (x6 : Int32) (x7 : Int32) (s0 : Int32) (s1 : Int32) (o : Int32 × St) (h : XOk C cX10_reaches RX10 tG rmX10_reaches) (hg : XG C g) (hL : C.2.2.2.2.2.2.2.2.2.2.2.2.1 = 8) (hr : XEnd C (some .int) Q (XQ g (some (.int o.1)) o.2) (cA g)) (k49 : (St × Int32 × Int32 × Int32) → Option (Int32 × St)) (k73 : (St × Int32) → Option (Int32 × St)) (hk49 : ∀ z : St × Int32 × Int32 × Int32, k49 z = some o → Xs C (wW g) Q z.1 49 [(0, .ref (gA g 87)), (1, .int x1), (2, .int x2), (4, .int z.2.1), (5, .int z.2.2.1), (6, .int z.2.2.2)] []) (hk73 : ∀ z : St × Int32, k73 z = some o → Xs C (wW g) Q z.1 73 [(0, .ref (gA g 87)), (1, .int x1), (2, .int x2), (4, .int x4), (5, .int x5), (6, .int x6), (7, .int z.2)] []) (hf : m_X10_reaches_b109 σ x1 x2 x4 x5 x6 x7 s0 s1 k49 k73 = some o) : Xs C (wW g) Q σ 109 [(0, .ref (gA g 87)), (1, .int x1), (2, .int x2), (4, .int x4), (5, .int x5), (6, .int x6), (7, .int x7)] [.int s0, .int s1, .ref (gA g 107)] := by
  unfold m_X10_reaches_b109 at hf
  obtain ⟨hi1, hf2⟩ := chk_inv hf
  refine x_iast (j := (Int32.toNatClampNeg s1)) h hg a_107 hi1 rfl dX10_reaches_109 (q := 110) rfl ?_
  refine x_iinc (v := (x7 + 1)) (lv' := [(7, .int (x7 + 1)), (0, .ref (gA g 87)), (1, .int x1), (2, .int x2), (4, .int x4), (5, .int x5), (6, .int x6)]) (j := 6) h dX10_reaches_110 rfl rfl hL (by decide) rfl (q := 113) rfl ?_
  refine x_goto (q := 73) h dX10_reaches_113 (by decide) ?_
  refine x_sub (lv' := [(0, .ref (gA g 87)), (1, .int x1), (2, .int x2), (4, .int x4), (5, .int x5), (6, .int x6), (7, .int (x7 + 1))]) [1, 2, 3, 4, 5, 6, 0] rfl ?_
  exact hk73 ((up σ 107 (Int32.toNatClampNeg s1) s0), (x7 + 1)) hf2
def m_X10_reaches_b73 (σ : St) (x1 : Int32) (x2 : Int32) (x4 : Int32) (x5 : Int32) (x6 : Int32) (x7 : Int32) (k49 : (St × Int32 × Int32 × Int32) → Option (Int32 × St)) (k73 : (St × Int32) → Option (Int32 × St)) : Option (Int32 × St) :=
  if 12 ≤ x7 then (
    if x5 = 0 then (
      some ((x4 ||| x5), σ)
    ) else (
      k49 (σ, (x4 ||| x5), x5, (x6 + 1))
    )
  ) else (
    if ((x5 >>> (x7 &&& 31)) &&& 1) = 1 then (
      m_X10_reaches_b109 σ x1 x2 x4 x5 x6 x7 x6 x7 k49 k73
    ) else (
      chk x7 12 <|
      m_X10_reaches_b109 σ x1 x2 x4 x5 x6 x7 (σ 107 (Int32.toNatClampNeg x7)) x7 k49 k73
    )
  )
set_option maxHeartbeats 4000000 in
set_option maxRecDepth 100000 in
theorem w_X10_reaches_b73 {C : XC} {Q : State → Prop} {g : cG} (σ : St) (x1 : Int32) (x2 : Int32) (x4 : Int32) (x5 : Int32) (x6 : Int32) (x7 : Int32) (o : Int32 × St) (h : XOk C cX10_reaches RX10 tG rmX10_reaches) (hg : XG C g) (hL : C.2.2.2.2.2.2.2.2.2.2.2.2.1 = 8) (hr : XEnd C (some .int) Q (XQ g (some (.int o.1)) o.2) (cA g)) (k49 : (St × Int32 × Int32 × Int32) → Option (Int32 × St)) (k73 : (St × Int32) → Option (Int32 × St)) (hk49 : ∀ z : St × Int32 × Int32 × Int32, k49 z = some o → Xs C (wW g) Q z.1 49 [(0, .ref (gA g 87)), (1, .int x1), (2, .int x2), (4, .int z.2.1), (5, .int z.2.2.1), (6, .int z.2.2.2)] []) (hk73 : ∀ z : St × Int32, k73 z = some o → Xs C (wW g) Q z.1 73 [(0, .ref (gA g 87)), (1, .int x1), (2, .int x2), (4, .int x4), (5, .int x5), (6, .int x6), (7, .int z.2)] []) (hf : m_X10_reaches_b73 σ x1 x2 x4 x5 x6 x7 k49 k73 = some o) : Xs C (wW g) Q σ 73 [(0, .ref (gA g 87)), (1, .int x1), (2, .int x2), (4, .int x4), (5, .int x5), (6, .int x6), (7, .int x7)] [] := by
  unfold m_X10_reaches_b73 at hf
  refine x_iload h dX10_reaches_73 6 rfl (q := 75) rfl ?_
  refine x_bipush (v := 12) h dX10_reaches_75 (by decide) (q := 77) rfl ?_
  refine x_icmp_ge (tgt := 116) h dX10_reaches_77 (by decide) (q := 80) rfl hf (fun hc1 hf2 => ?_) (fun hc1 hf2 => ?_)
  · skip
    refine x_iload h dX10_reaches_116 3 rfl (q := 118) rfl ?_
    refine x_iload h dX10_reaches_118 4 rfl (q := 120) rfl ?_
    refine x_ior h dX10_reaches_120 (q := 121) rfl ?_
    refine x_istore (lv' := [(4, .int (x4 ||| x5)), (0, .ref (gA g 87)), (1, .int x1), (2, .int x2), (5, .int x5), (6, .int x6), (7, .int x7)]) h dX10_reaches_121 hL (by decide) rfl (q := 123) rfl ?_
    refine x_iload h dX10_reaches_123 4 rfl (q := 125) rfl ?_
    refine x_if_ne (tgt := 131) h dX10_reaches_125 (by decide) (q := 128) rfl hf2 (fun hc3 hf4 => ?_) (fun hc3 hf4 => ?_)
    · skip
      refine x_iinc (v := (x6 + 1)) (lv' := [(6, .int (x6 + 1)), (4, .int (x4 ||| x5)), (0, .ref (gA g 87)), (1, .int x1), (2, .int x2), (5, .int x5), (7, .int x7)]) (j := 5) h dX10_reaches_131 rfl rfl hL (by decide) rfl (q := 134) rfl ?_
      refine x_goto (q := 49) h dX10_reaches_134 (by decide) ?_
      refine x_sub (lv' := [(0, .ref (gA g 87)), (1, .int x1), (2, .int x2), (4, .int (x4 ||| x5)), (5, .int x5), (6, .int (x6 + 1))]) [2, 3, 4, 1, 5, 0] rfl ?_
      exact hk49 (σ, (x4 ||| x5), x5, (x6 + 1)) hf4
    · skip
      refine x_iload h dX10_reaches_128 0 rfl (q := 130) rfl ?_
      have hz := Option.some.inj hf4
      subst hz
      exact x_iret h hg hr dX10_reaches_130
  · skip
    refine x_aload_n h dX10_reaches_80 rfl 0 rfl (q := 81) rfl ?_
    refine x_get_X10_87_30 h hg kf_X10_67 nn_X10 dX10_reaches_81 ?_
    refine x_iload h dX10_reaches_84 6 rfl (q := 86) rfl ?_
    refine x_iload h dX10_reaches_86 4 rfl (q := 88) rfl ?_
    refine x_iload h dX10_reaches_88 6 rfl (q := 90) rfl ?_
    refine x_ishr h dX10_reaches_90 (q := 91) rfl ?_
    refine x_iconst (v := 1) h dX10_reaches_91 (by decide) (q := 92) rfl ?_
    refine x_iand h dX10_reaches_92 (q := 93) rfl ?_
    refine x_iconst (v := 1) h dX10_reaches_93 (by decide) (q := 94) rfl ?_
    refine x_icmp_ne (tgt := 102) h dX10_reaches_94 (by decide) (q := 97) rfl hf2 (fun hc5 hf6 => ?_) (fun hc5 hf6 => ?_)
    · skip
      refine x_aload_n h dX10_reaches_102 rfl 0 rfl (q := 103) rfl ?_
      refine x_get_X10_87_30 h hg kf_X10_67 nn_X10 dX10_reaches_103 ?_
      refine x_iload h dX10_reaches_106 6 rfl (q := 108) rfl ?_
      obtain ⟨hi7, hf8⟩ := chk_inv hf6
      refine x_iald (j := (Int32.toNatClampNeg x7)) h hg a_107 hi7 rfl dX10_reaches_108 (q := 109) rfl ?_
      exact w_X10_reaches_b109 σ x1 x2 x4 x5 x6 x7 (σ 107 (Int32.toNatClampNeg x7)) x7 o h hg hL hr k49 k73 hk49 hk73 hf8
    · skip
      refine x_iload h dX10_reaches_97 5 rfl (q := 99) rfl ?_
      refine x_goto (q := 109) h dX10_reaches_99 (by decide) ?_
      exact w_X10_reaches_b109 σ x1 x2 x4 x5 x6 x7 x6 x7 o h hg hL hr k49 k73 hk49 hk73 hf6
set_option maxHeartbeats 4000000 in
set_option maxRecDepth 100000 in
theorem w_X10_reaches_l73 {C : XC} {Q : State → Prop} {g : cG} (x1 : Int32) (x2 : Int32) (x4 : Int32) (x5 : Int32) (x6 : Int32) (o : Int32 × St) (h : XOk C cX10_reaches RX10 tG rmX10_reaches) (hg : XG C g) (hL : C.2.2.2.2.2.2.2.2.2.2.2.2.1 = 8) (hr : XEnd C (some .int) Q (XQ g (some (.int o.1)) o.2) (cA g)) (k49 : (St × Int32 × Int32 × Int32) → Option (Int32 × St)) (hk49 : ∀ z : St × Int32 × Int32 × Int32, k49 z = some o → Xs C (wW g) Q z.1 49 [(0, .ref (gA g 87)), (1, .int x1), (2, .int x2), (4, .int z.2.1), (5, .int z.2.2.1), (6, .int z.2.2.2)] []) : ∀ (n : Nat) (z : St × Int32), loopF (fun k z => m_X10_reaches_b73 z.1 x1 x2 x4 x5 x6 z.2 k49 k) n z = some o → Xs C (wW g) Q z.1 73 [(0, .ref (gA g 87)), (1, .int x1), (2, .int x2), (4, .int x4), (5, .int x5), (6, .int x6), (7, .int z.2)] [] := by
  intro n z hf
  refine loopF_ind (S := St × Int32) (O := Int32 × St) (step := (fun k z => m_X10_reaches_b73 z.1 x1 x2 x4 x5 x6 z.2 k49 k)) (o := o) (P := fun z => Xs C (wW g) Q z.1 73 [(0, .ref (gA g 87)), (1, .int x1), (2, .int x2), (4, .int x4), (5, .int x5), (6, .int x6), (7, .int z.2)] []) ?_ n z hf
  intro k hk z hf
  exact w_X10_reaches_b73 z.1 x1 x2 x4 x5 x6 z.2 o h hg hL hr k49 k hk49 hk hf
def m_X10_reaches_b49 (σ : St) (x1 : Int32) (x2 : Int32) (x4 : Int32) (x5 : Int32) (x6 : Int32) (k49 : (St × Int32 × Int32 × Int32) → Option (Int32 × St)) : Option (Int32 × St) :=
  if x5 = 0 then (
    some (x4, σ)
  ) else (
    (m_X10_forcers σ x1 x4).bind fun u3 =>
    loopF (fun k z => m_X10_reaches_b73 z.1 x1 x2 x4 ((u3.1 &&& x2) &&& (x4 ^^^ (-1))) x6 z.2 k49 k) cFu (u3.2, 0)
  )
set_option maxHeartbeats 4000000 in
set_option maxRecDepth 100000 in
theorem w_X10_reaches_b49 {C : XC} {Q : State → Prop} {g : cG} (σ : St) (x1 : Int32) (x2 : Int32) (x4 : Int32) (x5 : Int32) (x6 : Int32) (o : Int32 × St) (h : XOk C cX10_reaches RX10 tG rmX10_reaches) (hg : XG C g) (hL : C.2.2.2.2.2.2.2.2.2.2.2.2.1 = 8) (hr : XEnd C (some .int) Q (XQ g (some (.int o.1)) o.2) (cA g)) (k49 : (St × Int32 × Int32 × Int32) → Option (Int32 × St)) (hk49 : ∀ z : St × Int32 × Int32 × Int32, k49 z = some o → Xs C (wW g) Q z.1 49 [(0, .ref (gA g 87)), (1, .int x1), (2, .int x2), (4, .int z.2.1), (5, .int z.2.2.1), (6, .int z.2.2.2)] []) (hf : m_X10_reaches_b49 σ x1 x2 x4 x5 x6 k49 = some o) : Xs C (wW g) Q σ 49 [(0, .ref (gA g 87)), (1, .int x1), (2, .int x2), (4, .int x4), (5, .int x5), (6, .int x6)] [] := by
  unfold m_X10_reaches_b49 at hf
  refine x_iload h dX10_reaches_49 4 rfl (q := 51) rfl ?_
  refine x_if_eq (tgt := 137) h dX10_reaches_51 (by decide) (q := 54) rfl hf (fun hc1 hf2 => ?_) (fun hc1 hf2 => ?_)
  · skip
    refine x_iload h dX10_reaches_137 3 rfl (q := 139) rfl ?_
    have hz := Option.some.inj hf2
    subst hz
    exact x_iret h hg hr dX10_reaches_139
  · skip
    refine x_aload_n h dX10_reaches_54 rfl 0 rfl (q := 55) rfl ?_
    refine x_iload_n h dX10_reaches_55 rfl 1 rfl (q := 56) rfl ?_
    refine x_iload h dX10_reaches_56 3 rfl (q := 58) rfl ?_
    obtain ⟨u3, hu3, hf4⟩ := bnd_inv hf2
    refine x_callVi (As := [.int x1, .int x4]) (rest := []) h hg (c_X10_forcers C.2.1 hg.2.1 σ x1 x4 _ hu3) ml_X10_218 biX10_forcers rfl rfl hdX10_forcers ⟨Nat.le_of_ble_eq_true rfl, Nat.le_of_ble_eq_true rfl⟩ (by decide) (cE_87 g _) rfl rfl rfl (Nat.le_of_ble_eq_true rfl) dX10_reaches_58 ?_
    refine x_iload_n h dX10_reaches_61 rfl 2 rfl (q := 62) rfl ?_
    refine x_iand h dX10_reaches_62 (q := 63) rfl ?_
    refine x_iload h dX10_reaches_63 3 rfl (q := 65) rfl ?_
    refine x_iconst (v := (-1)) h dX10_reaches_65 (by decide) (q := 66) rfl ?_
    refine x_ixor h dX10_reaches_66 (q := 67) rfl ?_
    refine x_iand h dX10_reaches_67 (q := 68) rfl ?_
    refine x_istore (lv' := [(5, .int ((u3.1 &&& x2) &&& (x4 ^^^ (-1)))), (0, .ref (gA g 87)), (1, .int x1), (2, .int x2), (4, .int x4), (6, .int x6)]) h dX10_reaches_68 hL (by decide) rfl (q := 70) rfl ?_
    refine x_iconst (v := 0) h dX10_reaches_70 (by decide) (q := 71) rfl ?_
    refine x_istore (lv' := [(7, .int 0), (5, .int ((u3.1 &&& x2) &&& (x4 ^^^ (-1)))), (0, .ref (gA g 87)), (1, .int x1), (2, .int x2), (4, .int x4), (6, .int x6)]) h dX10_reaches_71 hL (by decide) rfl (q := 73) rfl ?_
    refine x_sub (lv' := [(0, .ref (gA g 87)), (1, .int x1), (2, .int x2), (4, .int x4), (5, .int ((u3.1 &&& x2) &&& (x4 ^^^ (-1)))), (6, .int x6), (7, .int 0)]) [2, 3, 4, 5, 1, 6, 0] rfl ?_
    exact w_X10_reaches_l73 x1 x2 x4 ((u3.1 &&& x2) &&& (x4 ^^^ (-1))) x6 o h hg hL hr k49 hk49  cFu (u3.2, 0) hf4
set_option maxHeartbeats 4000000 in
set_option maxRecDepth 100000 in
theorem w_X10_reaches_l49 {C : XC} {Q : State → Prop} {g : cG} (x1 : Int32) (x2 : Int32) (o : Int32 × St) (h : XOk C cX10_reaches RX10 tG rmX10_reaches) (hg : XG C g) (hL : C.2.2.2.2.2.2.2.2.2.2.2.2.1 = 8) (hr : XEnd C (some .int) Q (XQ g (some (.int o.1)) o.2) (cA g)) : ∀ (n : Nat) (z : St × Int32 × Int32 × Int32), loopF (fun k z => m_X10_reaches_b49 z.1 x1 x2 z.2.1 z.2.2.1 z.2.2.2 k) n z = some o → Xs C (wW g) Q z.1 49 [(0, .ref (gA g 87)), (1, .int x1), (2, .int x2), (4, .int z.2.1), (5, .int z.2.2.1), (6, .int z.2.2.2)] [] := by
  intro n z hf
  refine loopF_ind (S := St × Int32 × Int32 × Int32) (O := Int32 × St) (step := (fun k z => m_X10_reaches_b49 z.1 x1 x2 z.2.1 z.2.2.1 z.2.2.2 k)) (o := o) (P := fun z => Xs C (wW g) Q z.1 49 [(0, .ref (gA g 87)), (1, .int x1), (2, .int x2), (4, .int z.2.1), (5, .int z.2.2.1), (6, .int z.2.2.2)] []) ?_ n z hf
  intro k hk z hf
  exact w_X10_reaches_b49 z.1 x1 x2 z.2.1 z.2.2.1 z.2.2.2 o h hg hL hr k hk hf
def m_X10_reaches_b6 (σ : St) (x1 : Int32) (x2 : Int32) (x3 : Int32) (x4 : Int32) (x5 : Int32) (k6 : (St × Int32) → Option (Int32 × St)) : Option (Int32 × St) :=
  if 12 ≤ x5 then (
    loopF (fun k z => m_X10_reaches_b49 z.1 x1 x2 z.2.1 z.2.2.1 z.2.2.2 k) cFu (σ, x4, x4, 1)
  ) else (
    if ((x3 >>> (x5 &&& 31)) &&& 1) = 1 then (
      m_X10_reaches_b35 σ x1 x2 x3 x4 x5 0 x5 k6
    ) else (
      m_X10_reaches_b35 σ x1 x2 x3 x4 x5 (-9) x5 k6
    )
  )
set_option maxHeartbeats 4000000 in
set_option maxRecDepth 100000 in
theorem w_X10_reaches_b6 {C : XC} {Q : State → Prop} {g : cG} (σ : St) (x1 : Int32) (x2 : Int32) (x3 : Int32) (x4 : Int32) (x5 : Int32) (o : Int32 × St) (h : XOk C cX10_reaches RX10 tG rmX10_reaches) (hg : XG C g) (hL : C.2.2.2.2.2.2.2.2.2.2.2.2.1 = 8) (hr : XEnd C (some .int) Q (XQ g (some (.int o.1)) o.2) (cA g)) (k6 : (St × Int32) → Option (Int32 × St)) (hk6 : ∀ z : St × Int32, k6 z = some o → Xs C (wW g) Q z.1 6 [(0, .ref (gA g 87)), (1, .int x1), (2, .int x2), (3, .int x3), (4, .int x4), (5, .int z.2)] []) (hf : m_X10_reaches_b6 σ x1 x2 x3 x4 x5 k6 = some o) : Xs C (wW g) Q σ 6 [(0, .ref (gA g 87)), (1, .int x1), (2, .int x2), (3, .int x3), (4, .int x4), (5, .int x5)] [] := by
  unfold m_X10_reaches_b6 at hf
  refine x_iload h dX10_reaches_6 5 rfl (q := 8) rfl ?_
  refine x_bipush (v := 12) h dX10_reaches_8 (by decide) (q := 10) rfl ?_
  refine x_icmp_ge (tgt := 42) h dX10_reaches_10 (by decide) (q := 13) rfl hf (fun hc1 hf2 => ?_) (fun hc1 hf2 => ?_)
  · skip
    refine x_iload h dX10_reaches_42 4 rfl (q := 44) rfl ?_
    refine x_istore (lv' := [(5, .int x4), (0, .ref (gA g 87)), (1, .int x1), (2, .int x2), (3, .int x3), (4, .int x4)]) h dX10_reaches_44 hL (by decide) rfl (q := 46) rfl ?_
    refine x_iconst (v := 1) h dX10_reaches_46 (by decide) (q := 47) rfl ?_
    refine x_istore (lv' := [(6, .int 1), (5, .int x4), (0, .ref (gA g 87)), (1, .int x1), (2, .int x2), (3, .int x3), (4, .int x4)]) h dX10_reaches_47 hL (by decide) rfl (q := 49) rfl ?_
    refine x_sub (lv' := [(0, .ref (gA g 87)), (1, .int x1), (2, .int x2), (4, .int x4), (5, .int x4), (6, .int 1)]) [2, 3, 4, 6, 1, 0] rfl ?_
    exact w_X10_reaches_l49 x1 x2 o h hg hL hr  cFu (σ, x4, x4, 1) hf2
  · skip
    refine x_aload_n h dX10_reaches_13 rfl 0 rfl (q := 14) rfl ?_
    refine x_get_X10_87_30 h hg kf_X10_67 nn_X10 dX10_reaches_14 ?_
    refine x_iload h dX10_reaches_17 5 rfl (q := 19) rfl ?_
    refine x_iload_n h dX10_reaches_19 rfl 3 rfl (q := 20) rfl ?_
    refine x_iload h dX10_reaches_20 5 rfl (q := 22) rfl ?_
    refine x_ishr h dX10_reaches_22 (q := 23) rfl ?_
    refine x_iconst (v := 1) h dX10_reaches_23 (by decide) (q := 24) rfl ?_
    refine x_iand h dX10_reaches_24 (q := 25) rfl ?_
    refine x_iconst (v := 1) h dX10_reaches_25 (by decide) (q := 26) rfl ?_
    refine x_icmp_ne (tgt := 33) h dX10_reaches_26 (by decide) (q := 29) rfl hf2 (fun hc3 hf4 => ?_) (fun hc3 hf4 => ?_)
    · skip
      refine x_bipush (v := (-9)) h dX10_reaches_33 (by decide) (q := 35) rfl ?_
      exact w_X10_reaches_b35 σ x1 x2 x3 x4 x5 (-9) x5 o h hg hL hr k6 hk6 hf4
    · skip
      refine x_iconst (v := 0) h dX10_reaches_29 (by decide) (q := 30) rfl ?_
      refine x_goto (q := 35) h dX10_reaches_30 (by decide) ?_
      exact w_X10_reaches_b35 σ x1 x2 x3 x4 x5 0 x5 o h hg hL hr k6 hk6 hf4
set_option maxHeartbeats 4000000 in
set_option maxRecDepth 100000 in
theorem w_X10_reaches_l6 {C : XC} {Q : State → Prop} {g : cG} (x1 : Int32) (x2 : Int32) (x3 : Int32) (x4 : Int32) (o : Int32 × St) (h : XOk C cX10_reaches RX10 tG rmX10_reaches) (hg : XG C g) (hL : C.2.2.2.2.2.2.2.2.2.2.2.2.1 = 8) (hr : XEnd C (some .int) Q (XQ g (some (.int o.1)) o.2) (cA g)) : ∀ (n : Nat) (z : St × Int32), loopF (fun k z => m_X10_reaches_b6 z.1 x1 x2 x3 x4 z.2 k) n z = some o → Xs C (wW g) Q z.1 6 [(0, .ref (gA g 87)), (1, .int x1), (2, .int x2), (3, .int x3), (4, .int x4), (5, .int z.2)] [] := by
  intro n z hf
  refine loopF_ind (S := St × Int32) (O := Int32 × St) (step := (fun k z => m_X10_reaches_b6 z.1 x1 x2 x3 x4 z.2 k)) (o := o) (P := fun z => Xs C (wW g) Q z.1 6 [(0, .ref (gA g 87)), (1, .int x1), (2, .int x2), (3, .int x3), (4, .int x4), (5, .int z.2)] []) ?_ n z hf
  intro k hk z hf
  exact w_X10_reaches_b6 z.1 x1 x2 x3 x4 z.2 o h hg hL hr k hk hf
def m_X10_reaches (σ : St) (x1 : Int32) (x2 : Int32) (x3 : Int32) : Option (Int32 × St) :=
  loopF (fun k z => m_X10_reaches_b6 z.1 x1 x2 x3 x3 z.2 k) cFu (σ, 0)
set_option maxHeartbeats 4000000 in
set_option maxRecDepth 100000 in
theorem w_X10_reaches {C : XC} {Q : State → Prop} {g : cG} (σ : St) (x1 : Int32) (x2 : Int32) (x3 : Int32) (o : Int32 × St) (h : XOk C cX10_reaches RX10 tG rmX10_reaches) (hg : XG C g) (hL : C.2.2.2.2.2.2.2.2.2.2.2.2.1 = 8) (hr : XEnd C (some .int) Q (XQ g (some (.int o.1)) o.2) (cA g)) (hf : m_X10_reaches σ x1 x2 x3 = some o) : Xs C (wW g) Q σ 0 [(0, .ref (gA g 87)), (1, .int x1), (2, .int x2), (3, .int x3)] [] := by
  unfold m_X10_reaches at hf
  refine x_iload_n h dX10_reaches_0 rfl 3 rfl (q := 1) rfl ?_
  refine x_istore (lv' := [(4, .int x3), (0, .ref (gA g 87)), (1, .int x1), (2, .int x2), (3, .int x3)]) h dX10_reaches_1 hL (by decide) rfl (q := 3) rfl ?_
  refine x_iconst (v := 0) h dX10_reaches_3 (by decide) (q := 4) rfl ?_
  refine x_istore (lv' := [(5, .int 0), (4, .int x3), (0, .ref (gA g 87)), (1, .int x1), (2, .int x2), (3, .int x3)]) h dX10_reaches_4 hL (by decide) rfl (q := 6) rfl ?_
  refine x_sub (lv' := [(0, .ref (gA g 87)), (1, .int x1), (2, .int x2), (3, .int x3), (4, .int x3), (5, .int 0)]) [2, 3, 4, 5, 1, 0] rfl ?_
  exact w_X10_reaches_l6 x1 x2 x3 x3 o h hg hL hr  cFu (σ, 0) hf
theorem c_X10_reaches (l : Launch) {g : cG} (hi : gInj g) (σ : St) (x1 : Int32) (x2 : Int32) (x3 : Int32) (o : Int32 × St) (hf : m_X10_reaches σ x1 x2 x3 = some o) : Met l yX10_reaches (wT yX10_reaches cX10_reaches 8 (some .int)) rmX10_reaches (va_Pc [.ref (gA g 87), .int x1, .int x2, .int x3] (XPre g σ)) (XQ g (some (.int o.1)) o.2) 0 0 (cA g) :=
  X_met RX10 hi plX10 rfl (Nat.le_of_ble_eq_true rfl) rfl (fun _ _ _ h hg hL hr => w_X10_reaches σ x1 x2 x3 o h hg hL hr hf)
abbrev rmX10_stays : Room := { frames := 8, cells := 0, slots := 0, locals := 183 }
theorem hdX10_stays : yX10_stays.cls = RX10 ∧ yX10_stays.cls ≠ "java/lang/invoke/MethodHandle" ∧ yX10_stays.cls ≠ "java/lang/invoke/VarHandle" ∧ (parseMethodDescriptor yX10_stays.desc).map (fun d => d.parameters.length) = some 2 := by decide +kernel
def m_X10_stays_b12 (σ : St) (x1 : Int32) (x3 : Int32) (x4 : Int32) (k12 : (St × Int32 × Int32) → Option (Int32 × St)) : Option (Int32 × St) :=
  if x4 = x3 then (
    some (x3, σ)
  ) else (
    (m_X10_forcers σ x1 x4).bind fun u3 =>
    k12 (u3.2, x4, (x4 &&& u3.1))
  )
set_option maxHeartbeats 4000000 in
set_option maxRecDepth 100000 in
theorem w_X10_stays_b12 {C : XC} {Q : State → Prop} {g : cG} (σ : St) (x1 : Int32) (x3 : Int32) (x4 : Int32) (o : Int32 × St) (h : XOk C cX10_stays RX10 tG rmX10_stays) (hg : XG C g) (hL : C.2.2.2.2.2.2.2.2.2.2.2.2.1 = 5) (hr : XEnd C (some .int) Q (XQ g (some (.int o.1)) o.2) (cA g)) (k12 : (St × Int32 × Int32) → Option (Int32 × St)) (hk12 : ∀ z : St × Int32 × Int32, k12 z = some o → Xs C (wW g) Q z.1 12 [(0, .ref (gA g 87)), (1, .int x1), (3, .int z.2.1), (4, .int z.2.2)] []) (hf : m_X10_stays_b12 σ x1 x3 x4 k12 = some o) : Xs C (wW g) Q σ 12 [(0, .ref (gA g 87)), (1, .int x1), (3, .int x3), (4, .int x4)] [] := by
  unfold m_X10_stays_b12 at hf
  refine x_iload h dX10_stays_12 3 rfl (q := 14) rfl ?_
  refine x_iload_n h dX10_stays_14 rfl 2 rfl (q := 15) rfl ?_
  refine x_icmp_eq (tgt := 34) h dX10_stays_15 (by decide) (q := 18) rfl hf (fun hc1 hf2 => ?_) (fun hc1 hf2 => ?_)
  · skip
    refine x_iload_n h dX10_stays_34 rfl 2 rfl (q := 35) rfl ?_
    have hz := Option.some.inj hf2
    subst hz
    exact x_iret h hg hr dX10_stays_35
  · skip
    refine x_iload h dX10_stays_18 3 rfl (q := 20) rfl ?_
    refine x_istore_n (lv' := [(3, .int x4), (0, .ref (gA g 87)), (1, .int x1), (4, .int x4)]) h dX10_stays_20 rfl hL (by decide) rfl (q := 21) rfl ?_
    refine x_iload_n h dX10_stays_21 rfl 0 rfl (q := 22) rfl ?_
    refine x_aload_n h dX10_stays_22 rfl 1 rfl (q := 23) rfl ?_
    refine x_iload_n h dX10_stays_23 rfl 2 rfl (q := 24) rfl ?_
    refine x_iload_n h dX10_stays_24 rfl 0 rfl (q := 25) rfl ?_
    obtain ⟨u3, hu3, hf4⟩ := bnd_inv hf2
    refine x_callVi (As := [.int x1, .int x4]) (rest := [.int x4]) h hg (c_X10_forcers C.2.1 hg.2.1 σ x1 x4 _ hu3) ml_X10_218 biX10_forcers rfl rfl hdX10_forcers ⟨Nat.le_of_ble_eq_true rfl, Nat.le_of_ble_eq_true rfl⟩ (by decide) (cE_87 g _) rfl rfl rfl (Nat.le_of_ble_eq_true rfl) dX10_stays_25 ?_
    refine x_iand h dX10_stays_28 (q := 29) rfl ?_
    refine x_istore (lv' := [(4, .int (x4 &&& u3.1)), (3, .int x4), (0, .ref (gA g 87)), (1, .int x1)]) h dX10_stays_29 hL (by decide) rfl (q := 31) rfl ?_
    refine x_goto (q := 12) h dX10_stays_31 (by decide) ?_
    refine x_sub (lv' := [(0, .ref (gA g 87)), (1, .int x1), (3, .int x4), (4, .int (x4 &&& u3.1))]) [2, 3, 1, 0] rfl ?_
    exact hk12 (u3.2, x4, (x4 &&& u3.1)) hf4
set_option maxHeartbeats 4000000 in
set_option maxRecDepth 100000 in
theorem w_X10_stays_l12 {C : XC} {Q : State → Prop} {g : cG} (x1 : Int32) (o : Int32 × St) (h : XOk C cX10_stays RX10 tG rmX10_stays) (hg : XG C g) (hL : C.2.2.2.2.2.2.2.2.2.2.2.2.1 = 5) (hr : XEnd C (some .int) Q (XQ g (some (.int o.1)) o.2) (cA g)) : ∀ (n : Nat) (z : St × Int32 × Int32), loopF (fun k z => m_X10_stays_b12 z.1 x1 z.2.1 z.2.2 k) n z = some o → Xs C (wW g) Q z.1 12 [(0, .ref (gA g 87)), (1, .int x1), (3, .int z.2.1), (4, .int z.2.2)] [] := by
  intro n z hf
  refine loopF_ind (S := St × Int32 × Int32) (O := Int32 × St) (step := (fun k z => m_X10_stays_b12 z.1 x1 z.2.1 z.2.2 k)) (o := o) (P := fun z => Xs C (wW g) Q z.1 12 [(0, .ref (gA g 87)), (1, .int x1), (3, .int z.2.1), (4, .int z.2.2)] []) ?_ n z hf
  intro k hk z hf
  exact w_X10_stays_b12 z.1 x1 z.2.1 z.2.2 o h hg hL hr k hk hf
def m_X10_stays (σ : St) (x1 : Int32) (x2 : Int32) : Option (Int32 × St) :=
  (m_X10_forcers σ x1 x2).bind fun u1 =>
  loopF (fun k z => m_X10_stays_b12 z.1 x1 z.2.1 z.2.2 k) cFu (u1.2, x2, (x2 &&& u1.1))
set_option maxHeartbeats 4000000 in
set_option maxRecDepth 100000 in
theorem w_X10_stays {C : XC} {Q : State → Prop} {g : cG} (σ : St) (x1 : Int32) (x2 : Int32) (o : Int32 × St) (h : XOk C cX10_stays RX10 tG rmX10_stays) (hg : XG C g) (hL : C.2.2.2.2.2.2.2.2.2.2.2.2.1 = 5) (hr : XEnd C (some .int) Q (XQ g (some (.int o.1)) o.2) (cA g)) (hf : m_X10_stays σ x1 x2 = some o) : Xs C (wW g) Q σ 0 [(0, .ref (gA g 87)), (1, .int x1), (2, .int x2)] [] := by
  unfold m_X10_stays at hf
  refine x_iload_n h dX10_stays_0 rfl 2 rfl (q := 1) rfl ?_
  refine x_istore_n (lv' := [(3, .int x2), (0, .ref (gA g 87)), (1, .int x1), (2, .int x2)]) h dX10_stays_1 rfl hL (by decide) rfl (q := 2) rfl ?_
  refine x_iload_n h dX10_stays_2 rfl 0 rfl (q := 3) rfl ?_
  refine x_aload_n h dX10_stays_3 rfl 1 rfl (q := 4) rfl ?_
  refine x_iload_n h dX10_stays_4 rfl 2 rfl (q := 5) rfl ?_
  refine x_iload_n h dX10_stays_5 rfl 0 rfl (q := 6) rfl ?_
  obtain ⟨u1, hu1, hf2⟩ := bnd_inv hf
  refine x_callVi (As := [.int x1, .int x2]) (rest := [.int x2]) h hg (c_X10_forcers C.2.1 hg.2.1 σ x1 x2 _ hu1) ml_X10_218 biX10_forcers rfl rfl hdX10_forcers ⟨Nat.le_of_ble_eq_true rfl, Nat.le_of_ble_eq_true rfl⟩ (by decide) (cE_87 g _) rfl rfl rfl (Nat.le_of_ble_eq_true rfl) dX10_stays_6 ?_
  refine x_iand h dX10_stays_9 (q := 10) rfl ?_
  refine x_istore (lv' := [(4, .int (x2 &&& u1.1)), (3, .int x2), (0, .ref (gA g 87)), (1, .int x1), (2, .int x2)]) h dX10_stays_10 hL (by decide) rfl (q := 12) rfl ?_
  refine x_sub (lv' := [(0, .ref (gA g 87)), (1, .int x1), (3, .int x2), (4, .int (x2 &&& u1.1))]) [2, 3, 1, 0] rfl ?_
  exact w_X10_stays_l12 x1 o h hg hL hr  cFu (u1.2, x2, (x2 &&& u1.1)) hf2
theorem c_X10_stays (l : Launch) {g : cG} (hi : gInj g) (σ : St) (x1 : Int32) (x2 : Int32) (o : Int32 × St) (hf : m_X10_stays σ x1 x2 = some o) : Met l yX10_stays (wT yX10_stays cX10_stays 5 (some .int)) rmX10_stays (va_Pc [.ref (gA g 87), .int x1, .int x2] (XPre g σ)) (XQ g (some (.int o.1)) o.2) 0 0 (cA g) :=
  X_met RX10 hi plX10 rfl (Nat.le_of_ble_eq_true rfl) rfl (fun _ _ _ h hg hL hr => w_X10_stays σ x1 x2 o h hg hL hr hf)
abbrev rmX10_cannotAvoid : Room := { frames := 8, cells := 0, slots := 0, locals := 183 }
theorem hdX10_cannotAvoid : yX10_cannotAvoid.cls = RX10 ∧ yX10_cannotAvoid.cls ≠ "java/lang/invoke/MethodHandle" ∧ yX10_cannotAvoid.cls ≠ "java/lang/invoke/VarHandle" ∧ (parseMethodDescriptor yX10_cannotAvoid.desc).map (fun d => d.parameters.length) = some 3 := by decide +kernel
def m_X10_cannotAvoid_b25 (σ : St) (x1 : Int32) (x2 : Int32) (x3 : Int32) (x4 : Int32) (x5 : Int32) (k25 : (St × Int32 × Int32) → Option (Int32 × St)) : Option (Int32 × St) :=
  if x5 = x4 then (
    some (x4, σ)
  ) else (
    (m_X10_all σ).bind fun u3 =>
    (m_X10_all σ).bind fun u5 =>
    (m_X10_forcers σ x1 (u5 &&& (x5 ^^^ (-1)))).bind fun u7 =>
    k25 (u7.2, x5, (x3 ||| ((x2 &&& u3) &&& (u7.1 ^^^ (-1)))))
  )
set_option maxHeartbeats 4000000 in
set_option maxRecDepth 100000 in
theorem w_X10_cannotAvoid_b25 {C : XC} {Q : State → Prop} {g : cG} (σ : St) (x1 : Int32) (x2 : Int32) (x3 : Int32) (x4 : Int32) (x5 : Int32) (o : Int32 × St) (h : XOk C cX10_cannotAvoid RX10 tG rmX10_cannotAvoid) (hg : XG C g) (hL : C.2.2.2.2.2.2.2.2.2.2.2.2.1 = 6) (hr : XEnd C (some .int) Q (XQ g (some (.int o.1)) o.2) (cA g)) (k25 : (St × Int32 × Int32) → Option (Int32 × St)) (hk25 : ∀ z : St × Int32 × Int32, k25 z = some o → Xs C (wW g) Q z.1 25 [(0, .ref (gA g 87)), (1, .int x1), (2, .int x2), (3, .int x3), (4, .int z.2.1), (5, .int z.2.2)] []) (hf : m_X10_cannotAvoid_b25 σ x1 x2 x3 x4 x5 k25 = some o) : Xs C (wW g) Q σ 25 [(0, .ref (gA g 87)), (1, .int x1), (2, .int x2), (3, .int x3), (4, .int x4), (5, .int x5)] [] := by
  unfold m_X10_cannotAvoid_b25 at hf
  refine x_iload h dX10_cannotAvoid_25 5 rfl (q := 27) rfl ?_
  refine x_iload h dX10_cannotAvoid_27 4 rfl (q := 29) rfl ?_
  refine x_icmp_eq (tgt := 66) h dX10_cannotAvoid_29 (by decide) (q := 32) rfl hf (fun hc1 hf2 => ?_) (fun hc1 hf2 => ?_)
  · skip
    refine x_iload h dX10_cannotAvoid_66 4 rfl (q := 68) rfl ?_
    have hz := Option.some.inj hf2
    subst hz
    exact x_iret h hg hr dX10_cannotAvoid_68
  · skip
    refine x_iload h dX10_cannotAvoid_32 5 rfl (q := 34) rfl ?_
    refine x_istore (lv' := [(4, .int x5), (0, .ref (gA g 87)), (1, .int x1), (2, .int x2), (3, .int x3), (5, .int x5)]) h dX10_cannotAvoid_34 hL (by decide) rfl (q := 36) rfl ?_
    refine x_iload_n h dX10_cannotAvoid_36 rfl 4 rfl (q := 37) rfl ?_
    refine x_iload_n h dX10_cannotAvoid_37 rfl 3 rfl (q := 38) rfl ?_
    refine x_aload_n h dX10_cannotAvoid_38 rfl 1 rfl (q := 39) rfl ?_
    obtain ⟨u3, hu3, hf4⟩ := bnd_inv hf2
    refine x_callVi (As := []) (rest := [.int x2, .int x3]) h hg (c_X10_all C.2.1 hg.2.1 σ _ hu3) ml_X10_221 biX10_all rfl rfl hdX10_all ⟨Nat.le_of_ble_eq_true rfl, Nat.le_of_ble_eq_true rfl⟩ (by decide) (cE_87 g _) rfl rfl rfl (Nat.le_of_ble_eq_true rfl) dX10_cannotAvoid_39 ?_
    refine x_iand h dX10_cannotAvoid_42 (q := 43) rfl ?_
    refine x_aload_n h dX10_cannotAvoid_43 rfl 1 rfl (q := 44) rfl ?_
    refine x_iload_n h dX10_cannotAvoid_44 rfl 2 rfl (q := 45) rfl ?_
    refine x_aload_n h dX10_cannotAvoid_45 rfl 1 rfl (q := 46) rfl ?_
    obtain ⟨u5, hu5, hf6⟩ := bnd_inv hf4
    refine x_callVi (As := []) (rest := [.int x1, .ref (gA g 87), .int (x2 &&& u3), .int x3]) h hg (c_X10_all C.2.1 hg.2.1 σ _ hu5) ml_X10_221 biX10_all rfl rfl hdX10_all ⟨Nat.le_of_ble_eq_true rfl, Nat.le_of_ble_eq_true rfl⟩ (by decide) (cE_87 g _) rfl rfl rfl (Nat.le_of_ble_eq_true rfl) dX10_cannotAvoid_46 ?_
    refine x_iload h dX10_cannotAvoid_49 0 rfl (q := 51) rfl ?_
    refine x_iconst (v := (-1)) h dX10_cannotAvoid_51 (by decide) (q := 52) rfl ?_
    refine x_ixor h dX10_cannotAvoid_52 (q := 53) rfl ?_
    refine x_iand h dX10_cannotAvoid_53 (q := 54) rfl ?_
    obtain ⟨u7, hu7, hf8⟩ := bnd_inv hf6
    refine x_callVi (As := [.int x1, .int (u5 &&& (x5 ^^^ (-1)))]) (rest := [.int (x2 &&& u3), .int x3]) h hg (c_X10_forcers C.2.1 hg.2.1 σ x1 (u5 &&& (x5 ^^^ (-1))) _ hu7) ml_X10_218 biX10_forcers rfl rfl hdX10_forcers ⟨Nat.le_of_ble_eq_true rfl, Nat.le_of_ble_eq_true rfl⟩ (by decide) (cE_87 g _) rfl rfl rfl (Nat.le_of_ble_eq_true rfl) dX10_cannotAvoid_54 ?_
    refine x_iconst (v := (-1)) h dX10_cannotAvoid_57 (by decide) (q := 58) rfl ?_
    refine x_ixor h dX10_cannotAvoid_58 (q := 59) rfl ?_
    refine x_iand h dX10_cannotAvoid_59 (q := 60) rfl ?_
    refine x_ior h dX10_cannotAvoid_60 (q := 61) rfl ?_
    refine x_istore (lv' := [(5, .int (x3 ||| ((x2 &&& u3) &&& (u7.1 ^^^ (-1))))), (4, .int x5), (0, .ref (gA g 87)), (1, .int x1), (2, .int x2), (3, .int x3)]) h dX10_cannotAvoid_61 hL (by decide) rfl (q := 63) rfl ?_
    refine x_goto (q := 25) h dX10_cannotAvoid_63 (by decide) ?_
    refine x_sub (lv' := [(0, .ref (gA g 87)), (1, .int x1), (2, .int x2), (3, .int x3), (4, .int x5), (5, .int (x3 ||| ((x2 &&& u3) &&& (u7.1 ^^^ (-1)))))]) [2, 3, 4, 5, 1, 0] rfl ?_
    exact hk25 (u7.2, x5, (x3 ||| ((x2 &&& u3) &&& (u7.1 ^^^ (-1))))) hf8
set_option maxHeartbeats 4000000 in
set_option maxRecDepth 100000 in
theorem w_X10_cannotAvoid_l25 {C : XC} {Q : State → Prop} {g : cG} (x1 : Int32) (x2 : Int32) (x3 : Int32) (o : Int32 × St) (h : XOk C cX10_cannotAvoid RX10 tG rmX10_cannotAvoid) (hg : XG C g) (hL : C.2.2.2.2.2.2.2.2.2.2.2.2.1 = 6) (hr : XEnd C (some .int) Q (XQ g (some (.int o.1)) o.2) (cA g)) : ∀ (n : Nat) (z : St × Int32 × Int32), loopF (fun k z => m_X10_cannotAvoid_b25 z.1 x1 x2 x3 z.2.1 z.2.2 k) n z = some o → Xs C (wW g) Q z.1 25 [(0, .ref (gA g 87)), (1, .int x1), (2, .int x2), (3, .int x3), (4, .int z.2.1), (5, .int z.2.2)] [] := by
  intro n z hf
  refine loopF_ind (S := St × Int32 × Int32) (O := Int32 × St) (step := (fun k z => m_X10_cannotAvoid_b25 z.1 x1 x2 x3 z.2.1 z.2.2 k)) (o := o) (P := fun z => Xs C (wW g) Q z.1 25 [(0, .ref (gA g 87)), (1, .int x1), (2, .int x2), (3, .int x3), (4, .int z.2.1), (5, .int z.2.2)] []) ?_ n z hf
  intro k hk z hf
  exact w_X10_cannotAvoid_b25 z.1 x1 x2 x3 z.2.1 z.2.2 o h hg hL hr k hk hf
def m_X10_cannotAvoid (σ : St) (x1 : Int32) (x2 : Int32) (x3 : Int32) : Option (Int32 × St) :=
  (m_X10_all σ).bind fun u1 =>
  (m_X10_forcers σ x1 (u1 &&& (x3 ^^^ (-1)))).bind fun u3 =>
  loopF (fun k z => m_X10_cannotAvoid_b25 z.1 x1 x2 x3 z.2.1 z.2.2 k) cFu (u3.2, x3, (x3 ||| (x2 &&& (u3.1 ^^^ (-1)))))
set_option maxHeartbeats 4000000 in
set_option maxRecDepth 100000 in
theorem w_X10_cannotAvoid {C : XC} {Q : State → Prop} {g : cG} (σ : St) (x1 : Int32) (x2 : Int32) (x3 : Int32) (o : Int32 × St) (h : XOk C cX10_cannotAvoid RX10 tG rmX10_cannotAvoid) (hg : XG C g) (hL : C.2.2.2.2.2.2.2.2.2.2.2.2.1 = 6) (hr : XEnd C (some .int) Q (XQ g (some (.int o.1)) o.2) (cA g)) (hf : m_X10_cannotAvoid σ x1 x2 x3 = some o) : Xs C (wW g) Q σ 0 [(0, .ref (gA g 87)), (1, .int x1), (2, .int x2), (3, .int x3)] [] := by
  unfold m_X10_cannotAvoid at hf
  refine x_iload_n h dX10_cannotAvoid_0 rfl 3 rfl (q := 1) rfl ?_
  refine x_istore (lv' := [(4, .int x3), (0, .ref (gA g 87)), (1, .int x1), (2, .int x2), (3, .int x3)]) h dX10_cannotAvoid_1 hL (by decide) rfl (q := 3) rfl ?_
  refine x_iload_n h dX10_cannotAvoid_3 rfl 4 rfl (q := 4) rfl ?_
  refine x_iload_n h dX10_cannotAvoid_4 rfl 3 rfl (q := 5) rfl ?_
  refine x_aload_n h dX10_cannotAvoid_5 rfl 1 rfl (q := 6) rfl ?_
  refine x_iload_n h dX10_cannotAvoid_6 rfl 2 rfl (q := 7) rfl ?_
  refine x_aload_n h dX10_cannotAvoid_7 rfl 1 rfl (q := 8) rfl ?_
  obtain ⟨u1, hu1, hf2⟩ := bnd_inv hf
  refine x_callVi (As := []) (rest := [.int x1, .ref (gA g 87), .int x2, .int x3]) h hg (c_X10_all C.2.1 hg.2.1 σ _ hu1) ml_X10_221 biX10_all rfl rfl hdX10_all ⟨Nat.le_of_ble_eq_true rfl, Nat.le_of_ble_eq_true rfl⟩ (by decide) (cE_87 g _) rfl rfl rfl (Nat.le_of_ble_eq_true rfl) dX10_cannotAvoid_8 ?_
  refine x_iload h dX10_cannotAvoid_11 0 rfl (q := 13) rfl ?_
  refine x_iconst (v := (-1)) h dX10_cannotAvoid_13 (by decide) (q := 14) rfl ?_
  refine x_ixor h dX10_cannotAvoid_14 (q := 15) rfl ?_
  refine x_iand h dX10_cannotAvoid_15 (q := 16) rfl ?_
  obtain ⟨u3, hu3, hf4⟩ := bnd_inv hf2
  refine x_callVi (As := [.int x1, .int (u1 &&& (x3 ^^^ (-1)))]) (rest := [.int x2, .int x3]) h hg (c_X10_forcers C.2.1 hg.2.1 σ x1 (u1 &&& (x3 ^^^ (-1))) _ hu3) ml_X10_218 biX10_forcers rfl rfl hdX10_forcers ⟨Nat.le_of_ble_eq_true rfl, Nat.le_of_ble_eq_true rfl⟩ (by decide) (cE_87 g _) rfl rfl rfl (Nat.le_of_ble_eq_true rfl) dX10_cannotAvoid_16 ?_
  refine x_iconst (v := (-1)) h dX10_cannotAvoid_19 (by decide) (q := 20) rfl ?_
  refine x_ixor h dX10_cannotAvoid_20 (q := 21) rfl ?_
  refine x_iand h dX10_cannotAvoid_21 (q := 22) rfl ?_
  refine x_ior h dX10_cannotAvoid_22 (q := 23) rfl ?_
  refine x_istore (lv' := [(5, .int (x3 ||| (x2 &&& (u3.1 ^^^ (-1))))), (4, .int x3), (0, .ref (gA g 87)), (1, .int x1), (2, .int x2), (3, .int x3)]) h dX10_cannotAvoid_23 hL (by decide) rfl (q := 25) rfl ?_
  refine x_sub (lv' := [(0, .ref (gA g 87)), (1, .int x1), (2, .int x2), (3, .int x3), (4, .int x3), (5, .int (x3 ||| (x2 &&& (u3.1 ^^^ (-1)))))]) [2, 3, 4, 5, 1, 0] rfl ?_
  exact w_X10_cannotAvoid_l25 x1 x2 x3 o h hg hL hr  cFu (u3.2, x3, (x3 ||| (x2 &&& (u3.1 ^^^ (-1))))) hf4
theorem c_X10_cannotAvoid (l : Launch) {g : cG} (hi : gInj g) (σ : St) (x1 : Int32) (x2 : Int32) (x3 : Int32) (o : Int32 × St) (hf : m_X10_cannotAvoid σ x1 x2 x3 = some o) : Met l yX10_cannotAvoid (wT yX10_cannotAvoid cX10_cannotAvoid 6 (some .int)) rmX10_cannotAvoid (va_Pc [.ref (gA g 87), .int x1, .int x2, .int x3] (XPre g σ)) (XQ g (some (.int o.1)) o.2) 0 0 (cA g) :=
  X_met RX10 hi plX10 rfl (Nat.le_of_ble_eq_true rfl) rfl (fun _ _ _ h hg hL hr => w_X10_cannotAvoid σ x1 x2 x3 o h hg hL hr hf)
abbrev rmX10_goalSet : Room := { frames := 9, cells := 0, slots := 0, locals := 210 }
theorem hdX10_goalSet : yX10_goalSet.cls = RX10 ∧ yX10_goalSet.cls ≠ "java/lang/invoke/MethodHandle" ∧ yX10_goalSet.cls ≠ "java/lang/invoke/VarHandle" ∧ (parseMethodDescriptor yX10_goalSet.desc).map (fun d => d.parameters.length) = some 4 := by decide +kernel
def m_X10_goalSet (σ : St) (x1 : Int32) (x2 : Int32) (x3 : Int32) (x4 : Int32) : Option (Int32 × St) :=
  if x1 = 6 then (
    (m_X10_forcers σ x2 x3).bind fun u4 =>
    some (u4.1, u4.2)
  ) else (
    if x1 = 7 then (
      (m_X10_all σ).bind fun u9 =>
      (m_X10_reaches σ x2 u9 x3).bind fun u11 =>
      some (u11.1, u11.2)
    ) else (
      if x1 = 8 then (
        (m_X10_stays σ x2 x3).bind fun u16 =>
        some (u16.1, u16.2)
      ) else (
        if x1 = 9 then (
          (m_X10_reaches σ x2 x3 x4).bind fun u21 =>
          some (u21.1, u21.2)
        ) else (
          if x1 = 10 then (
            (m_X10_all σ).bind fun u26 =>
            (m_X10_all σ).bind fun u28 =>
            (m_X10_forcers σ x2 (u28 &&& (x3 ^^^ (-1)))).bind fun u30 =>
            some ((u26 &&& (u30.1 ^^^ (-1))), u30.2)
          ) else (
            if x1 = 11 then (
              (m_X10_all σ).bind fun u35 =>
              (m_X10_all σ).bind fun u37 =>
              (m_X10_stays σ x2 (u37 &&& (x3 ^^^ (-1)))).bind fun u39 =>
              some ((u35 &&& (u39.1 ^^^ (-1))), u39.2)
            ) else (
              if x1 = 12 then (
                (m_X10_all σ).bind fun u44 =>
                (m_X10_all σ).bind fun u46 =>
                (m_X10_all σ).bind fun u48 =>
                (m_X10_reaches σ x2 u46 (u48 &&& (x3 ^^^ (-1)))).bind fun u50 =>
                some ((u44 &&& (u50.1 ^^^ (-1))), u50.2)
              ) else (
                (m_X10_all σ).bind fun u53 =>
                (m_X10_cannotAvoid σ x2 (x3 &&& u53) x4).bind fun u55 =>
                some (u55.1, u55.2)
              )
            )
          )
        )
      )
    )
  )
set_option maxHeartbeats 4000000 in
set_option maxRecDepth 100000 in
theorem w_X10_goalSet {C : XC} {Q : State → Prop} {g : cG} (σ : St) (x1 : Int32) (x2 : Int32) (x3 : Int32) (x4 : Int32) (o : Int32 × St) (h : XOk C cX10_goalSet RX10 tG rmX10_goalSet) (hg : XG C g) (hL : C.2.2.2.2.2.2.2.2.2.2.2.2.1 = 5) (hr : XEnd C (some .int) Q (XQ g (some (.int o.1)) o.2) (cA g)) (hf : m_X10_goalSet σ x1 x2 x3 x4 = some o) : Xs C (wW g) Q σ 0 [(0, .ref (gA g 87)), (1, .int x1), (2, .int x2), (3, .int x3), (4, .int x4)] [] := by
  unfold m_X10_goalSet at hf
  refine x_iload_n h dX10_goalSet_0 rfl 1 rfl (q := 1) rfl ?_
  by_cases hs2 : x1 = 6
  · have hf3 := (if_pos hs2).symm.trans hf
    refine x_tableIn (tgt := 44) h dX10_goalSet_1 (by rw [hs2]; decide) (by rw [hs2]; decide) (off := 43) (by rw [hs2]; decide) (by decide) ?_
    refine x_aload_n h dX10_goalSet_44 rfl 0 rfl (q := 45) rfl ?_
    refine x_iload_n h dX10_goalSet_45 rfl 2 rfl (q := 46) rfl ?_
    refine x_iload_n h dX10_goalSet_46 rfl 3 rfl (q := 47) rfl ?_
    obtain ⟨u4, hu4, hf5⟩ := bnd_inv hf3
    refine x_callVi (As := [.int x2, .int x3]) (rest := []) h hg (c_X10_forcers C.2.1 hg.2.1 σ x2 x3 _ hu4) ml_X10_218 biX10_forcers rfl rfl hdX10_forcers ⟨Nat.le_of_ble_eq_true rfl, Nat.le_of_ble_eq_true rfl⟩ (by decide) (cE_87 g _) rfl rfl rfl (Nat.le_of_ble_eq_true rfl) dX10_goalSet_47 ?_
    have hz := Option.some.inj hf5
    subst hz
    exact x_iret h hg hr dX10_goalSet_50
  · have hf6 := (if_neg hs2).symm.trans hf
    by_cases hs7 : x1 = 7
    · have hf8 := (if_pos hs7).symm.trans hf6
      refine x_tableIn (tgt := 51) h dX10_goalSet_1 (by rw [hs7]; decide) (by rw [hs7]; decide) (off := 50) (by rw [hs7]; decide) (by decide) ?_
      refine x_aload_n h dX10_goalSet_51 rfl 0 rfl (q := 52) rfl ?_
      refine x_iload_n h dX10_goalSet_52 rfl 2 rfl (q := 53) rfl ?_
      refine x_aload_n h dX10_goalSet_53 rfl 0 rfl (q := 54) rfl ?_
      obtain ⟨u9, hu9, hf10⟩ := bnd_inv hf8
      refine x_callVi (As := []) (rest := [.int x2, .ref (gA g 87)]) h hg (c_X10_all C.2.1 hg.2.1 σ _ hu9) ml_X10_221 biX10_all rfl rfl hdX10_all ⟨Nat.le_of_ble_eq_true rfl, Nat.le_of_ble_eq_true rfl⟩ (by decide) (cE_87 g _) rfl rfl rfl (Nat.le_of_ble_eq_true rfl) dX10_goalSet_54 ?_
      refine x_iload_n h dX10_goalSet_57 rfl 3 rfl (q := 58) rfl ?_
      obtain ⟨u11, hu11, hf12⟩ := bnd_inv hf10
      refine x_callVi (As := [.int x2, .int u9, .int x3]) (rest := []) h hg (c_X10_reaches C.2.1 hg.2.1 σ x2 u9 x3 _ hu11) ml_X10_224 biX10_reaches rfl rfl hdX10_reaches ⟨Nat.le_of_ble_eq_true rfl, Nat.le_of_ble_eq_true rfl⟩ (by decide) (cE_87 g _) rfl rfl rfl (Nat.le_of_ble_eq_true rfl) dX10_goalSet_58 ?_
      have hz := Option.some.inj hf12
      subst hz
      exact x_iret h hg hr dX10_goalSet_61
    · have hf13 := (if_neg hs7).symm.trans hf6
      by_cases hs14 : x1 = 8
      · have hf15 := (if_pos hs14).symm.trans hf13
        refine x_tableIn (tgt := 62) h dX10_goalSet_1 (by rw [hs14]; decide) (by rw [hs14]; decide) (off := 61) (by rw [hs14]; decide) (by decide) ?_
        refine x_aload_n h dX10_goalSet_62 rfl 0 rfl (q := 63) rfl ?_
        refine x_iload_n h dX10_goalSet_63 rfl 2 rfl (q := 64) rfl ?_
        refine x_iload_n h dX10_goalSet_64 rfl 3 rfl (q := 65) rfl ?_
        obtain ⟨u16, hu16, hf17⟩ := bnd_inv hf15
        refine x_callVi (As := [.int x2, .int x3]) (rest := []) h hg (c_X10_stays C.2.1 hg.2.1 σ x2 x3 _ hu16) ml_X10_227 biX10_stays rfl rfl hdX10_stays ⟨Nat.le_of_ble_eq_true rfl, Nat.le_of_ble_eq_true rfl⟩ (by decide) (cE_87 g _) rfl rfl rfl (Nat.le_of_ble_eq_true rfl) dX10_goalSet_65 ?_
        have hz := Option.some.inj hf17
        subst hz
        exact x_iret h hg hr dX10_goalSet_68
      · have hf18 := (if_neg hs14).symm.trans hf13
        by_cases hs19 : x1 = 9
        · have hf20 := (if_pos hs19).symm.trans hf18
          refine x_tableIn (tgt := 69) h dX10_goalSet_1 (by rw [hs19]; decide) (by rw [hs19]; decide) (off := 68) (by rw [hs19]; decide) (by decide) ?_
          refine x_aload_n h dX10_goalSet_69 rfl 0 rfl (q := 70) rfl ?_
          refine x_iload_n h dX10_goalSet_70 rfl 2 rfl (q := 71) rfl ?_
          refine x_iload_n h dX10_goalSet_71 rfl 3 rfl (q := 72) rfl ?_
          refine x_iload h dX10_goalSet_72 4 rfl (q := 74) rfl ?_
          obtain ⟨u21, hu21, hf22⟩ := bnd_inv hf20
          refine x_callVi (As := [.int x2, .int x3, .int x4]) (rest := []) h hg (c_X10_reaches C.2.1 hg.2.1 σ x2 x3 x4 _ hu21) ml_X10_224 biX10_reaches rfl rfl hdX10_reaches ⟨Nat.le_of_ble_eq_true rfl, Nat.le_of_ble_eq_true rfl⟩ (by decide) (cE_87 g _) rfl rfl rfl (Nat.le_of_ble_eq_true rfl) dX10_goalSet_74 ?_
          have hz := Option.some.inj hf22
          subst hz
          exact x_iret h hg hr dX10_goalSet_77
        · have hf23 := (if_neg hs19).symm.trans hf18
          by_cases hs24 : x1 = 10
          · have hf25 := (if_pos hs24).symm.trans hf23
            refine x_tableIn (tgt := 78) h dX10_goalSet_1 (by rw [hs24]; decide) (by rw [hs24]; decide) (off := 77) (by rw [hs24]; decide) (by decide) ?_
            refine x_aload_n h dX10_goalSet_78 rfl 0 rfl (q := 79) rfl ?_
            obtain ⟨u26, hu26, hf27⟩ := bnd_inv hf25
            refine x_callVi (As := []) (rest := []) h hg (c_X10_all C.2.1 hg.2.1 σ _ hu26) ml_X10_221 biX10_all rfl rfl hdX10_all ⟨Nat.le_of_ble_eq_true rfl, Nat.le_of_ble_eq_true rfl⟩ (by decide) (cE_87 g _) rfl rfl rfl (Nat.le_of_ble_eq_true rfl) dX10_goalSet_79 ?_
            refine x_aload_n h dX10_goalSet_82 rfl 0 rfl (q := 83) rfl ?_
            refine x_iload_n h dX10_goalSet_83 rfl 2 rfl (q := 84) rfl ?_
            refine x_aload_n h dX10_goalSet_84 rfl 0 rfl (q := 85) rfl ?_
            obtain ⟨u28, hu28, hf29⟩ := bnd_inv hf27
            refine x_callVi (As := []) (rest := [.int x2, .ref (gA g 87), .int u26]) h hg (c_X10_all C.2.1 hg.2.1 σ _ hu28) ml_X10_221 biX10_all rfl rfl hdX10_all ⟨Nat.le_of_ble_eq_true rfl, Nat.le_of_ble_eq_true rfl⟩ (by decide) (cE_87 g _) rfl rfl rfl (Nat.le_of_ble_eq_true rfl) dX10_goalSet_85 ?_
            refine x_iload_n h dX10_goalSet_88 rfl 3 rfl (q := 89) rfl ?_
            refine x_iconst (v := (-1)) h dX10_goalSet_89 (by decide) (q := 90) rfl ?_
            refine x_ixor h dX10_goalSet_90 (q := 91) rfl ?_
            refine x_iand h dX10_goalSet_91 (q := 92) rfl ?_
            obtain ⟨u30, hu30, hf31⟩ := bnd_inv hf29
            refine x_callVi (As := [.int x2, .int (u28 &&& (x3 ^^^ (-1)))]) (rest := [.int u26]) h hg (c_X10_forcers C.2.1 hg.2.1 σ x2 (u28 &&& (x3 ^^^ (-1))) _ hu30) ml_X10_218 biX10_forcers rfl rfl hdX10_forcers ⟨Nat.le_of_ble_eq_true rfl, Nat.le_of_ble_eq_true rfl⟩ (by decide) (cE_87 g _) rfl rfl rfl (Nat.le_of_ble_eq_true rfl) dX10_goalSet_92 ?_
            refine x_iconst (v := (-1)) h dX10_goalSet_95 (by decide) (q := 96) rfl ?_
            refine x_ixor h dX10_goalSet_96 (q := 97) rfl ?_
            refine x_iand h dX10_goalSet_97 (q := 98) rfl ?_
            have hz := Option.some.inj hf31
            subst hz
            exact x_iret h hg hr dX10_goalSet_98
          · have hf32 := (if_neg hs24).symm.trans hf23
            by_cases hs33 : x1 = 11
            · have hf34 := (if_pos hs33).symm.trans hf32
              refine x_tableIn (tgt := 99) h dX10_goalSet_1 (by rw [hs33]; decide) (by rw [hs33]; decide) (off := 98) (by rw [hs33]; decide) (by decide) ?_
              refine x_aload_n h dX10_goalSet_99 rfl 0 rfl (q := 100) rfl ?_
              obtain ⟨u35, hu35, hf36⟩ := bnd_inv hf34
              refine x_callVi (As := []) (rest := []) h hg (c_X10_all C.2.1 hg.2.1 σ _ hu35) ml_X10_221 biX10_all rfl rfl hdX10_all ⟨Nat.le_of_ble_eq_true rfl, Nat.le_of_ble_eq_true rfl⟩ (by decide) (cE_87 g _) rfl rfl rfl (Nat.le_of_ble_eq_true rfl) dX10_goalSet_100 ?_
              refine x_aload_n h dX10_goalSet_103 rfl 0 rfl (q := 104) rfl ?_
              refine x_iload_n h dX10_goalSet_104 rfl 2 rfl (q := 105) rfl ?_
              refine x_aload_n h dX10_goalSet_105 rfl 0 rfl (q := 106) rfl ?_
              obtain ⟨u37, hu37, hf38⟩ := bnd_inv hf36
              refine x_callVi (As := []) (rest := [.int x2, .ref (gA g 87), .int u35]) h hg (c_X10_all C.2.1 hg.2.1 σ _ hu37) ml_X10_221 biX10_all rfl rfl hdX10_all ⟨Nat.le_of_ble_eq_true rfl, Nat.le_of_ble_eq_true rfl⟩ (by decide) (cE_87 g _) rfl rfl rfl (Nat.le_of_ble_eq_true rfl) dX10_goalSet_106 ?_
              refine x_iload_n h dX10_goalSet_109 rfl 3 rfl (q := 110) rfl ?_
              refine x_iconst (v := (-1)) h dX10_goalSet_110 (by decide) (q := 111) rfl ?_
              refine x_ixor h dX10_goalSet_111 (q := 112) rfl ?_
              refine x_iand h dX10_goalSet_112 (q := 113) rfl ?_
              obtain ⟨u39, hu39, hf40⟩ := bnd_inv hf38
              refine x_callVi (As := [.int x2, .int (u37 &&& (x3 ^^^ (-1)))]) (rest := [.int u35]) h hg (c_X10_stays C.2.1 hg.2.1 σ x2 (u37 &&& (x3 ^^^ (-1))) _ hu39) ml_X10_227 biX10_stays rfl rfl hdX10_stays ⟨Nat.le_of_ble_eq_true rfl, Nat.le_of_ble_eq_true rfl⟩ (by decide) (cE_87 g _) rfl rfl rfl (Nat.le_of_ble_eq_true rfl) dX10_goalSet_113 ?_
              refine x_iconst (v := (-1)) h dX10_goalSet_116 (by decide) (q := 117) rfl ?_
              refine x_ixor h dX10_goalSet_117 (q := 118) rfl ?_
              refine x_iand h dX10_goalSet_118 (q := 119) rfl ?_
              have hz := Option.some.inj hf40
              subst hz
              exact x_iret h hg hr dX10_goalSet_119
            · have hf41 := (if_neg hs33).symm.trans hf32
              by_cases hs42 : x1 = 12
              · have hf43 := (if_pos hs42).symm.trans hf41
                refine x_tableIn (tgt := 120) h dX10_goalSet_1 (by rw [hs42]; decide) (by rw [hs42]; decide) (off := 119) (by rw [hs42]; decide) (by decide) ?_
                refine x_aload_n h dX10_goalSet_120 rfl 0 rfl (q := 121) rfl ?_
                obtain ⟨u44, hu44, hf45⟩ := bnd_inv hf43
                refine x_callVi (As := []) (rest := []) h hg (c_X10_all C.2.1 hg.2.1 σ _ hu44) ml_X10_221 biX10_all rfl rfl hdX10_all ⟨Nat.le_of_ble_eq_true rfl, Nat.le_of_ble_eq_true rfl⟩ (by decide) (cE_87 g _) rfl rfl rfl (Nat.le_of_ble_eq_true rfl) dX10_goalSet_121 ?_
                refine x_aload_n h dX10_goalSet_124 rfl 0 rfl (q := 125) rfl ?_
                refine x_iload_n h dX10_goalSet_125 rfl 2 rfl (q := 126) rfl ?_
                refine x_aload_n h dX10_goalSet_126 rfl 0 rfl (q := 127) rfl ?_
                obtain ⟨u46, hu46, hf47⟩ := bnd_inv hf45
                refine x_callVi (As := []) (rest := [.int x2, .ref (gA g 87), .int u44]) h hg (c_X10_all C.2.1 hg.2.1 σ _ hu46) ml_X10_221 biX10_all rfl rfl hdX10_all ⟨Nat.le_of_ble_eq_true rfl, Nat.le_of_ble_eq_true rfl⟩ (by decide) (cE_87 g _) rfl rfl rfl (Nat.le_of_ble_eq_true rfl) dX10_goalSet_127 ?_
                refine x_aload_n h dX10_goalSet_130 rfl 0 rfl (q := 131) rfl ?_
                obtain ⟨u48, hu48, hf49⟩ := bnd_inv hf47
                refine x_callVi (As := []) (rest := [.int u46, .int x2, .ref (gA g 87), .int u44]) h hg (c_X10_all C.2.1 hg.2.1 σ _ hu48) ml_X10_221 biX10_all rfl rfl hdX10_all ⟨Nat.le_of_ble_eq_true rfl, Nat.le_of_ble_eq_true rfl⟩ (by decide) (cE_87 g _) rfl rfl rfl (Nat.le_of_ble_eq_true rfl) dX10_goalSet_131 ?_
                refine x_iload_n h dX10_goalSet_134 rfl 3 rfl (q := 135) rfl ?_
                refine x_iconst (v := (-1)) h dX10_goalSet_135 (by decide) (q := 136) rfl ?_
                refine x_ixor h dX10_goalSet_136 (q := 137) rfl ?_
                refine x_iand h dX10_goalSet_137 (q := 138) rfl ?_
                obtain ⟨u50, hu50, hf51⟩ := bnd_inv hf49
                refine x_callVi (As := [.int x2, .int u46, .int (u48 &&& (x3 ^^^ (-1)))]) (rest := [.int u44]) h hg (c_X10_reaches C.2.1 hg.2.1 σ x2 u46 (u48 &&& (x3 ^^^ (-1))) _ hu50) ml_X10_224 biX10_reaches rfl rfl hdX10_reaches ⟨Nat.le_of_ble_eq_true rfl, Nat.le_of_ble_eq_true rfl⟩ (by decide) (cE_87 g _) rfl rfl rfl (Nat.le_of_ble_eq_true rfl) dX10_goalSet_138 ?_
                refine x_iconst (v := (-1)) h dX10_goalSet_141 (by decide) (q := 142) rfl ?_
                refine x_ixor h dX10_goalSet_142 (q := 143) rfl ?_
                refine x_iand h dX10_goalSet_143 (q := 144) rfl ?_
                have hz := Option.some.inj hf51
                subst hz
                exact x_iret h hg hr dX10_goalSet_144
              · have hf52 := (if_neg hs42).symm.trans hf41
                refine x_tableOut (tgt := 145) h dX10_goalSet_1 (by have hs2 := ne_toInt hs2; have hs7 := ne_toInt hs7; have hs14 := ne_toInt hs14; have hs19 := ne_toInt hs19; have hs24 := ne_toInt hs24; have hs33 := ne_toInt hs33; have hs42 := ne_toInt hs42; have ehs2 : (6 : Int32).toInt = 6 := (by decide); have ehs7 : (7 : Int32).toInt = 7 := (by decide); have ehs14 : (8 : Int32).toInt = 8 := (by decide); have ehs19 : (9 : Int32).toInt = 9 := (by decide); have ehs24 : (10 : Int32).toInt = 10 := (by decide); have ehs33 : (11 : Int32).toInt = 11 := (by decide); have ehs42 : (12 : Int32).toInt = 12 := (by decide); omega) (by decide) ?_
                refine x_aload_n h dX10_goalSet_145 rfl 0 rfl (q := 146) rfl ?_
                refine x_iload_n h dX10_goalSet_146 rfl 2 rfl (q := 147) rfl ?_
                refine x_iload_n h dX10_goalSet_147 rfl 3 rfl (q := 148) rfl ?_
                refine x_aload_n h dX10_goalSet_148 rfl 0 rfl (q := 149) rfl ?_
                obtain ⟨u53, hu53, hf54⟩ := bnd_inv hf52
                refine x_callVi (As := []) (rest := [.int x3, .int x2, .ref (gA g 87)]) h hg (c_X10_all C.2.1 hg.2.1 σ _ hu53) ml_X10_221 biX10_all rfl rfl hdX10_all ⟨Nat.le_of_ble_eq_true rfl, Nat.le_of_ble_eq_true rfl⟩ (by decide) (cE_87 g _) rfl rfl rfl (Nat.le_of_ble_eq_true rfl) dX10_goalSet_149 ?_
                refine x_iand h dX10_goalSet_152 (q := 153) rfl ?_
                refine x_iload h dX10_goalSet_153 4 rfl (q := 155) rfl ?_
                obtain ⟨u55, hu55, hf56⟩ := bnd_inv hf54
                refine x_callVi (As := [.int x2, .int (x3 &&& u53), .int x4]) (rest := []) h hg (c_X10_cannotAvoid C.2.1 hg.2.1 σ x2 (x3 &&& u53) x4 _ hu55) ml_X10_230 biX10_cannotAvoid rfl rfl hdX10_cannotAvoid ⟨Nat.le_of_ble_eq_true rfl, Nat.le_of_ble_eq_true rfl⟩ (by decide) (cE_87 g _) rfl rfl rfl (Nat.le_of_ble_eq_true rfl) dX10_goalSet_155 ?_
                have hz := Option.some.inj hf56
                subst hz
                exact x_iret h hg hr dX10_goalSet_158
theorem c_X10_goalSet (l : Launch) {g : cG} (hi : gInj g) (σ : St) (x1 : Int32) (x2 : Int32) (x3 : Int32) (x4 : Int32) (o : Int32 × St) (hf : m_X10_goalSet σ x1 x2 x3 x4 = some o) : Met l yX10_goalSet (wT yX10_goalSet cX10_goalSet 5 (some .int)) rmX10_goalSet (va_Pc [.ref (gA g 87), .int x1, .int x2, .int x3, .int x4] (XPre g σ)) (XQ g (some (.int o.1)) o.2) 0 0 (cA g) :=
  X_met RX10 hi plX10 rfl (Nat.le_of_ble_eq_true rfl) rfl (fun _ _ _ h hg hL hr => w_X10_goalSet σ x1 x2 x3 x4 o h hg hL hr hf)
abbrev rmX10_labelled : Room := { frames := 0, cells := 0, slots := 0, locals := 0 }
theorem hdX10_labelled : yX10_labelled.cls = RX10 ∧ yX10_labelled.cls ≠ "java/lang/invoke/MethodHandle" ∧ yX10_labelled.cls ≠ "java/lang/invoke/VarHandle" ∧ (parseMethodDescriptor yX10_labelled.desc).map (fun d => d.parameters.length) = some 1 := by decide +kernel
def m_X10_labelled_b4 (σ : St) (x1 : Int32) (x2 : Int32) (x3 : Int32) (k4 : (Int32 × Int32) → Option (Int32)) : Option (Int32) :=
  chk 1200 1201 <|
  if (σ 88 1200) ≤ x3 then (
    some x2
  ) else (
    chk ((100 * x3) + 0) 1201 <|
    k4 ((x2 ||| ((((σ 88 (Int32.toNatClampNeg ((100 * x3) + 0))) >>> (x1 &&& 31)) &&& 1) <<< (x3 &&& 31))), (x3 + 1))
  )
set_option maxHeartbeats 4000000 in
set_option maxRecDepth 100000 in
theorem w_X10_labelled_b4 {C : XC} {Q : State → Prop} {g : cG} (σ : St) (x1 : Int32) (x2 : Int32) (x3 : Int32) (o : Int32) (h : XOk C cX10_labelled RX10 tG rmX10_labelled) (hg : XG C g) (hL : C.2.2.2.2.2.2.2.2.2.2.2.2.1 = 4) (hr : XEnd C (some .int) Q (XQ g (some (.int o)) σ) (cA g)) (k4 : (Int32 × Int32) → Option (Int32)) (hk4 : ∀ z : Int32 × Int32, k4 z = some o → Xs C (wW g) Q σ 4 [(0, .ref (gA g 87)), (1, .int x1), (2, .int z.1), (3, .int z.2)] []) (hf : m_X10_labelled_b4 σ x1 x2 x3 k4 = some o) : Xs C (wW g) Q σ 4 [(0, .ref (gA g 87)), (1, .int x1), (2, .int x2), (3, .int x3)] [] := by
  unfold m_X10_labelled_b4 at hf
  refine x_iload_n h dX10_labelled_4 rfl 3 rfl (q := 5) rfl ?_
  refine x_aload_n h dX10_labelled_5 rfl 0 rfl (q := 6) rfl ?_
  refine x_get_X10_87_1 h hg kf_X10_7 nn_X10 dX10_labelled_6 ?_
  refine x_sipush (v := 1200) h dX10_labelled_9 (by decide) (q := 12) rfl ?_
  obtain ⟨hi1, hf2⟩ := chk_inv hf
  refine x_iald (j := 1200) h hg a_88 hi1 (by decide) dX10_labelled_12 (q := 13) rfl ?_
  refine x_icmp_ge (tgt := 42) h dX10_labelled_13 (by decide) (q := 16) rfl hf2 (fun hc3 hf4 => ?_) (fun hc3 hf4 => ?_)
  · skip
    refine x_iload_n h dX10_labelled_42 rfl 2 rfl (q := 43) rfl ?_
    have hz := Option.some.inj hf4
    subst hz
    exact x_iret h hg hr dX10_labelled_43
  · skip
    refine x_iload_n h dX10_labelled_16 rfl 2 rfl (q := 17) rfl ?_
    refine x_aload_n h dX10_labelled_17 rfl 0 rfl (q := 18) rfl ?_
    refine x_get_X10_87_1 h hg kf_X10_7 nn_X10 dX10_labelled_18 ?_
    refine x_bipush (v := 100) h dX10_labelled_21 (by decide) (q := 23) rfl ?_
    refine x_iload_n h dX10_labelled_23 rfl 3 rfl (q := 24) rfl ?_
    refine x_imul h dX10_labelled_24 (q := 25) rfl ?_
    refine x_iconst (v := 0) h dX10_labelled_25 (by decide) (q := 26) rfl ?_
    refine x_iadd h dX10_labelled_26 (q := 27) rfl ?_
    obtain ⟨hi5, hf6⟩ := chk_inv hf4
    refine x_iald (j := (Int32.toNatClampNeg ((100 * x3) + 0))) h hg a_88 hi5 rfl dX10_labelled_27 (q := 28) rfl ?_
    refine x_iload_n h dX10_labelled_28 rfl 1 rfl (q := 29) rfl ?_
    refine x_ishr h dX10_labelled_29 (q := 30) rfl ?_
    refine x_iconst (v := 1) h dX10_labelled_30 (by decide) (q := 31) rfl ?_
    refine x_iand h dX10_labelled_31 (q := 32) rfl ?_
    refine x_iload_n h dX10_labelled_32 rfl 3 rfl (q := 33) rfl ?_
    refine x_ishl h dX10_labelled_33 (q := 34) rfl ?_
    refine x_ior h dX10_labelled_34 (q := 35) rfl ?_
    refine x_istore_n (lv' := [(2, .int (x2 ||| ((((σ 88 (Int32.toNatClampNeg ((100 * x3) + 0))) >>> (x1 &&& 31)) &&& 1) <<< (x3 &&& 31)))), (0, .ref (gA g 87)), (1, .int x1), (3, .int x3)]) h dX10_labelled_35 rfl hL (by decide) rfl (q := 36) rfl ?_
    refine x_iinc (v := (x3 + 1)) (lv' := [(3, .int (x3 + 1)), (2, .int (x2 ||| ((((σ 88 (Int32.toNatClampNeg ((100 * x3) + 0))) >>> (x1 &&& 31)) &&& 1) <<< (x3 &&& 31)))), (0, .ref (gA g 87)), (1, .int x1)]) (j := 3) h dX10_labelled_36 rfl rfl hL (by decide) rfl (q := 39) rfl ?_
    refine x_goto (q := 4) h dX10_labelled_39 (by decide) ?_
    refine x_sub (lv' := [(0, .ref (gA g 87)), (1, .int x1), (2, .int (x2 ||| ((((σ 88 (Int32.toNatClampNeg ((100 * x3) + 0))) >>> (x1 &&& 31)) &&& 1) <<< (x3 &&& 31)))), (3, .int (x3 + 1))]) [2, 3, 1, 0] rfl ?_
    exact hk4 ((x2 ||| ((((σ 88 (Int32.toNatClampNeg ((100 * x3) + 0))) >>> (x1 &&& 31)) &&& 1) <<< (x3 &&& 31))), (x3 + 1)) hf6
set_option maxHeartbeats 4000000 in
set_option maxRecDepth 100000 in
theorem w_X10_labelled_l4 {C : XC} {Q : State → Prop} {g : cG} (σ : St) (x1 : Int32) (o : Int32) (h : XOk C cX10_labelled RX10 tG rmX10_labelled) (hg : XG C g) (hL : C.2.2.2.2.2.2.2.2.2.2.2.2.1 = 4) (hr : XEnd C (some .int) Q (XQ g (some (.int o)) σ) (cA g)) : ∀ (n : Nat) (z : Int32 × Int32), loopF (fun k z => m_X10_labelled_b4 σ x1 z.1 z.2 k) n z = some o → Xs C (wW g) Q σ 4 [(0, .ref (gA g 87)), (1, .int x1), (2, .int z.1), (3, .int z.2)] [] := by
  intro n z hf
  refine loopF_ind (S := Int32 × Int32) (O := Int32) (step := (fun k z => m_X10_labelled_b4 σ x1 z.1 z.2 k)) (o := o) (P := fun z => Xs C (wW g) Q σ 4 [(0, .ref (gA g 87)), (1, .int x1), (2, .int z.1), (3, .int z.2)] []) ?_ n z hf
  intro k hk z hf
  exact w_X10_labelled_b4 σ x1 z.1 z.2 o h hg hL hr k hk hf
def m_X10_labelled (σ : St) (x1 : Int32) : Option (Int32) :=
  loopF (fun k z => m_X10_labelled_b4 σ x1 z.1 z.2 k) cFu (0, 0)
set_option maxHeartbeats 4000000 in
set_option maxRecDepth 100000 in
theorem w_X10_labelled {C : XC} {Q : State → Prop} {g : cG} (σ : St) (x1 : Int32) (o : Int32) (h : XOk C cX10_labelled RX10 tG rmX10_labelled) (hg : XG C g) (hL : C.2.2.2.2.2.2.2.2.2.2.2.2.1 = 4) (hr : XEnd C (some .int) Q (XQ g (some (.int o)) σ) (cA g)) (hf : m_X10_labelled σ x1 = some o) : Xs C (wW g) Q σ 0 [(0, .ref (gA g 87)), (1, .int x1)] [] := by
  unfold m_X10_labelled at hf
  refine x_iconst (v := 0) h dX10_labelled_0 (by decide) (q := 1) rfl ?_
  refine x_istore_n (lv' := [(2, .int 0), (0, .ref (gA g 87)), (1, .int x1)]) h dX10_labelled_1 rfl hL (by decide) rfl (q := 2) rfl ?_
  refine x_iconst (v := 0) h dX10_labelled_2 (by decide) (q := 3) rfl ?_
  refine x_istore_n (lv' := [(3, .int 0), (2, .int 0), (0, .ref (gA g 87)), (1, .int x1)]) h dX10_labelled_3 rfl hL (by decide) rfl (q := 4) rfl ?_
  refine x_sub (lv' := [(0, .ref (gA g 87)), (1, .int x1), (2, .int 0), (3, .int 0)]) [2, 3, 1, 0] rfl ?_
  exact w_X10_labelled_l4 σ x1 o h hg hL hr  cFu (0, 0) hf
theorem c_X10_labelled (l : Launch) {g : cG} (hi : gInj g) (σ : St) (x1 : Int32) (o : Int32) (hf : m_X10_labelled σ x1 = some o) : Met l yX10_labelled (wT yX10_labelled cX10_labelled 4 (some .int)) rmX10_labelled (va_Pc [.ref (gA g 87), .int x1] (XPre g σ)) (XQ g (some (.int o)) σ) 0 0 (cA g) :=
  X_met RX10 hi plX10 rfl (Nat.le_of_ble_eq_true rfl) rfl (fun _ _ _ h hg hL hr => w_X10_labelled σ x1 o h hg hL hr hf)
abbrev rmX10_setOf : Room := { frames := 10, cells := 0, slots := 0, locals := 234 }
theorem hdX10_setOf : yX10_setOf.cls = RX10 ∧ yX10_setOf.cls ≠ "java/lang/invoke/MethodHandle" ∧ yX10_setOf.cls ≠ "java/lang/invoke/VarHandle" ∧ (parseMethodDescriptor yX10_setOf.desc).map (fun d => d.parameters.length) = some 2 := by decide +kernel
def m_X10_setOf_b91 (σ : St) (x3 : Int32) (x4 : Int32) (s0 : Int32) : Option (Int32 × St) :=
  chk x3 540 <|
  if (σ 93 (Int32.toNatClampNeg x3)) = 0 then (
    some (0, σ)
  ) else (
    if (σ 93 (Int32.toNatClampNeg x3)) = 1 then (
      (m_X10_all σ).bind fun u9 =>
      some (u9, σ)
    ) else (
      if (σ 93 (Int32.toNatClampNeg x3)) = 2 then (
        chk x3 540 <|
        (m_X10_labelled σ (σ 94 (Int32.toNatClampNeg x3))).bind fun u16 =>
        some (u16, σ)
      ) else (
        if (σ 93 (Int32.toNatClampNeg x3)) = 3 then (
          (m_X10_all σ).bind fun u21 =>
          some ((u21 &&& (x4 ^^^ (-1))), σ)
        ) else (
          if (σ 93 (Int32.toNatClampNeg x3)) = 4 then (
            some ((x4 &&& s0), σ)
          ) else (
            if (σ 93 (Int32.toNatClampNeg x3)) = 5 then (
              some ((x4 ||| s0), σ)
            ) else (
              chk x3 540 <|
              chk x3 540 <|
              (m_X10_goalSet σ (σ 93 (Int32.toNatClampNeg x3)) (σ 96 (Int32.toNatClampNeg x3)) x4 s0).bind fun u34 =>
              some (u34.1, u34.2)
            )
          )
        )
      )
    )
  )
set_option maxHeartbeats 4000000 in
set_option maxRecDepth 100000 in
theorem w_X10_setOf_b91 {C : XC} {Q : State → Prop} {g : cG} (σ : St) (x3 : Int32) (x4 : Int32) (s0 : Int32) (o : Int32 × St) (h : XOk C cX10_setOf RX10 tG rmX10_setOf) (hg : XG C g) (hL : C.2.2.2.2.2.2.2.2.2.2.2.2.1 = 6) (hr : XEnd C (some .int) Q (XQ g (some (.int o.1)) o.2) (cA g)) (hf : m_X10_setOf_b91 σ x3 x4 s0  = some o) : Xs C (wW g) Q σ 91 [(0, .ref (gA g 87)), (3, .int x3), (4, .int x4)] [.int s0] := by
  unfold m_X10_setOf_b91 at hf
  refine x_istore (lv' := [(5, .int s0), (0, .ref (gA g 87)), (3, .int x3), (4, .int x4)]) h dX10_setOf_91 hL (by decide) rfl (q := 93) rfl ?_
  refine x_aload_n h dX10_setOf_93 rfl 1 rfl (q := 94) rfl ?_
  refine x_get_X10_87_9 h hg kf_X10_25 nn_X10 dX10_setOf_94 ?_
  refine x_iload_n h dX10_setOf_97 rfl 2 rfl (q := 98) rfl ?_
  obtain ⟨hi1, hf2⟩ := chk_inv hf
  refine x_iald (j := (Int32.toNatClampNeg x3)) h hg a_93 hi1 rfl dX10_setOf_98 (q := 99) rfl ?_
  by_cases hs4 : (σ 93 (Int32.toNatClampNeg x3)) = 0
  · have hf5 := (if_pos hs4).symm.trans hf2
    refine x_tableIn (tgt := 136) h dX10_setOf_99 (by rw [hs4]; decide) (by rw [hs4]; decide) (off := 37) (by rw [hs4]; decide) (by decide) ?_
    refine x_iconst (v := 0) h dX10_setOf_136 (by decide) (q := 137) rfl ?_
    have hz := Option.some.inj hf5
    subst hz
    exact x_iret h hg hr dX10_setOf_137
  · have hf6 := (if_neg hs4).symm.trans hf2
    by_cases hs7 : (σ 93 (Int32.toNatClampNeg x3)) = 1
    · have hf8 := (if_pos hs7).symm.trans hf6
      refine x_tableIn (tgt := 138) h dX10_setOf_99 (by rw [hs7]; decide) (by rw [hs7]; decide) (off := 39) (by rw [hs7]; decide) (by decide) ?_
      refine x_aload_n h dX10_setOf_138 rfl 1 rfl (q := 139) rfl ?_
      obtain ⟨u9, hu9, hf10⟩ := bnd_inv hf8
      refine x_callVi (As := []) (rest := []) h hg (c_X10_all C.2.1 hg.2.1 σ _ hu9) ml_X10_221 biX10_all rfl rfl hdX10_all ⟨Nat.le_of_ble_eq_true rfl, Nat.le_of_ble_eq_true rfl⟩ (by decide) (cE_87 g _) rfl rfl rfl (Nat.le_of_ble_eq_true rfl) dX10_setOf_139 ?_
      have hz := Option.some.inj hf10
      subst hz
      exact x_iret h hg hr dX10_setOf_142
    · have hf11 := (if_neg hs7).symm.trans hf6
      by_cases hs12 : (σ 93 (Int32.toNatClampNeg x3)) = 2
      · have hf13 := (if_pos hs12).symm.trans hf11
        refine x_tableIn (tgt := 143) h dX10_setOf_99 (by rw [hs12]; decide) (by rw [hs12]; decide) (off := 44) (by rw [hs12]; decide) (by decide) ?_
        refine x_aload_n h dX10_setOf_143 rfl 1 rfl (q := 144) rfl ?_
        refine x_aload_n h dX10_setOf_144 rfl 1 rfl (q := 145) rfl ?_
        refine x_get_X10_87_10 h hg kf_X10_28 nn_X10 dX10_setOf_145 ?_
        refine x_iload_n h dX10_setOf_148 rfl 2 rfl (q := 149) rfl ?_
        obtain ⟨hi14, hf15⟩ := chk_inv hf13
        refine x_iald (j := (Int32.toNatClampNeg x3)) h hg a_94 hi14 rfl dX10_setOf_149 (q := 150) rfl ?_
        obtain ⟨u16, hu16, hf17⟩ := bnd_inv hf15
        refine x_callVi (As := [.int (σ 94 (Int32.toNatClampNeg x3))]) (rest := []) h hg (c_X10_labelled C.2.1 hg.2.1 σ (σ 94 (Int32.toNatClampNeg x3)) _ hu16) ml_X10_233 biX10_labelled rfl rfl hdX10_labelled ⟨Nat.le_of_ble_eq_true rfl, Nat.le_of_ble_eq_true rfl⟩ (by decide) (cE_87 g _) rfl rfl rfl (Nat.le_of_ble_eq_true rfl) dX10_setOf_150 ?_
        have hz := Option.some.inj hf17
        subst hz
        exact x_iret h hg hr dX10_setOf_153
      · have hf18 := (if_neg hs12).symm.trans hf11
        by_cases hs19 : (σ 93 (Int32.toNatClampNeg x3)) = 3
        · have hf20 := (if_pos hs19).symm.trans hf18
          refine x_tableIn (tgt := 154) h dX10_setOf_99 (by rw [hs19]; decide) (by rw [hs19]; decide) (off := 55) (by rw [hs19]; decide) (by decide) ?_
          refine x_aload_n h dX10_setOf_154 rfl 1 rfl (q := 155) rfl ?_
          obtain ⟨u21, hu21, hf22⟩ := bnd_inv hf20
          refine x_callVi (As := []) (rest := []) h hg (c_X10_all C.2.1 hg.2.1 σ _ hu21) ml_X10_221 biX10_all rfl rfl hdX10_all ⟨Nat.le_of_ble_eq_true rfl, Nat.le_of_ble_eq_true rfl⟩ (by decide) (cE_87 g _) rfl rfl rfl (Nat.le_of_ble_eq_true rfl) dX10_setOf_155 ?_
          refine x_iload h dX10_setOf_158 3 rfl (q := 160) rfl ?_
          refine x_iconst (v := (-1)) h dX10_setOf_160 (by decide) (q := 161) rfl ?_
          refine x_ixor h dX10_setOf_161 (q := 162) rfl ?_
          refine x_iand h dX10_setOf_162 (q := 163) rfl ?_
          have hz := Option.some.inj hf22
          subst hz
          exact x_iret h hg hr dX10_setOf_163
        · have hf23 := (if_neg hs19).symm.trans hf18
          by_cases hs24 : (σ 93 (Int32.toNatClampNeg x3)) = 4
          · have hf25 := (if_pos hs24).symm.trans hf23
            refine x_tableIn (tgt := 164) h dX10_setOf_99 (by rw [hs24]; decide) (by rw [hs24]; decide) (off := 65) (by rw [hs24]; decide) (by decide) ?_
            refine x_iload h dX10_setOf_164 3 rfl (q := 166) rfl ?_
            refine x_iload h dX10_setOf_166 0 rfl (q := 168) rfl ?_
            refine x_iand h dX10_setOf_168 (q := 169) rfl ?_
            have hz := Option.some.inj hf25
            subst hz
            exact x_iret h hg hr dX10_setOf_169
          · have hf26 := (if_neg hs24).symm.trans hf23
            by_cases hs27 : (σ 93 (Int32.toNatClampNeg x3)) = 5
            · have hf28 := (if_pos hs27).symm.trans hf26
              refine x_tableIn (tgt := 170) h dX10_setOf_99 (by rw [hs27]; decide) (by rw [hs27]; decide) (off := 71) (by rw [hs27]; decide) (by decide) ?_
              refine x_iload h dX10_setOf_170 3 rfl (q := 172) rfl ?_
              refine x_iload h dX10_setOf_172 0 rfl (q := 174) rfl ?_
              refine x_ior h dX10_setOf_174 (q := 175) rfl ?_
              have hz := Option.some.inj hf28
              subst hz
              exact x_iret h hg hr dX10_setOf_175
            · have hf29 := (if_neg hs27).symm.trans hf26
              refine x_tableOut (tgt := 176) h dX10_setOf_99 (by have hs4 := ne_toInt hs4; have hs7 := ne_toInt hs7; have hs12 := ne_toInt hs12; have hs19 := ne_toInt hs19; have hs24 := ne_toInt hs24; have hs27 := ne_toInt hs27; have ehs4 : (0 : Int32).toInt = 0 := (by decide); have ehs7 : (1 : Int32).toInt = 1 := (by decide); have ehs12 : (2 : Int32).toInt = 2 := (by decide); have ehs19 : (3 : Int32).toInt = 3 := (by decide); have ehs24 : (4 : Int32).toInt = 4 := (by decide); have ehs27 : (5 : Int32).toInt = 5 := (by decide); omega) (by decide) ?_
              refine x_aload_n h dX10_setOf_176 rfl 1 rfl (q := 177) rfl ?_
              refine x_aload_n h dX10_setOf_177 rfl 1 rfl (q := 178) rfl ?_
              refine x_get_X10_87_9 h hg kf_X10_25 nn_X10 dX10_setOf_178 ?_
              refine x_iload_n h dX10_setOf_181 rfl 2 rfl (q := 182) rfl ?_
              obtain ⟨hi30, hf31⟩ := chk_inv hf29
              refine x_iald (j := (Int32.toNatClampNeg x3)) h hg a_93 hi30 rfl dX10_setOf_182 (q := 183) rfl ?_
              refine x_aload_n h dX10_setOf_183 rfl 1 rfl (q := 184) rfl ?_
              refine x_get_X10_87_12 h hg kf_X10_34 nn_X10 dX10_setOf_184 ?_
              refine x_iload_n h dX10_setOf_187 rfl 2 rfl (q := 188) rfl ?_
              obtain ⟨hi32, hf33⟩ := chk_inv hf31
              refine x_iald (j := (Int32.toNatClampNeg x3)) h hg a_96 hi32 rfl dX10_setOf_188 (q := 189) rfl ?_
              refine x_iload h dX10_setOf_189 3 rfl (q := 191) rfl ?_
              refine x_iload h dX10_setOf_191 0 rfl (q := 193) rfl ?_
              obtain ⟨u34, hu34, hf35⟩ := bnd_inv hf33
              refine x_callVi (As := [.int (σ 93 (Int32.toNatClampNeg x3)), .int (σ 96 (Int32.toNatClampNeg x3)), .int x4, .int s0]) (rest := []) h hg (c_X10_goalSet C.2.1 hg.2.1 σ (σ 93 (Int32.toNatClampNeg x3)) (σ 96 (Int32.toNatClampNeg x3)) x4 s0 _ hu34) ml_X10_236 biX10_goalSet rfl rfl hdX10_goalSet ⟨Nat.le_of_ble_eq_true rfl, Nat.le_of_ble_eq_true rfl⟩ (by decide) (cE_87 g _) rfl rfl rfl (Nat.le_of_ble_eq_true rfl) dX10_setOf_193 ?_
              have hz := Option.some.inj hf35
              subst hz
              exact x_iret h hg hr dX10_setOf_196
def m_X10_setOf_b76 (σ : St) (x3 : Int32) (x4 : Int32) : Option (Int32 × St) :=
  chk x3 540 <|
  chk (σ 95 (Int32.toNatClampNeg x3)) 60 <|
  m_X10_setOf_b91 σ x3 x4 (σ 108 (Int32.toNatClampNeg (σ 95 (Int32.toNatClampNeg x3))))
set_option maxHeartbeats 4000000 in
set_option maxRecDepth 100000 in
theorem w_X10_setOf_b76 {C : XC} {Q : State → Prop} {g : cG} (σ : St) (x3 : Int32) (x4 : Int32) (o : Int32 × St) (h : XOk C cX10_setOf RX10 tG rmX10_setOf) (hg : XG C g) (hL : C.2.2.2.2.2.2.2.2.2.2.2.2.1 = 6) (hr : XEnd C (some .int) Q (XQ g (some (.int o.1)) o.2) (cA g)) (hf : m_X10_setOf_b76 σ x3 x4  = some o) : Xs C (wW g) Q σ 76 [(0, .ref (gA g 87)), (3, .int x3), (4, .int x4)] [] := by
  unfold m_X10_setOf_b76 at hf
  refine x_aload_n h dX10_setOf_76 rfl 0 rfl (q := 77) rfl ?_
  refine x_get_X10_87_31 h hg kf_X10_70 nn_X10 dX10_setOf_77 ?_
  refine x_aload_n h dX10_setOf_80 rfl 0 rfl (q := 81) rfl ?_
  refine x_get_X10_87_11 h hg kf_X10_31 nn_X10 dX10_setOf_81 ?_
  refine x_iload_n h dX10_setOf_84 rfl 1 rfl (q := 85) rfl ?_
  obtain ⟨hi1, hf2⟩ := chk_inv hf
  refine x_iald (j := (Int32.toNatClampNeg x3)) h hg a_95 hi1 rfl dX10_setOf_85 (q := 86) rfl ?_
  obtain ⟨hi3, hf4⟩ := chk_inv hf2
  refine x_iald (j := (Int32.toNatClampNeg (σ 95 (Int32.toNatClampNeg x3)))) h hg a_108 hi3 rfl dX10_setOf_86 (q := 87) rfl ?_
  refine x_goto (q := 91) h dX10_setOf_87 (by decide) ?_
  exact w_X10_setOf_b91 σ x3 x4 (σ 108 (Int32.toNatClampNeg (σ 95 (Int32.toNatClampNeg x3)))) o h hg hL hr hf4
def m_X10_setOf_b32 (σ : St) (x3 : Int32) (s0 : Int32) : Option (Int32 × St) :=
  chk x3 540 <|
  if (σ 93 (Int32.toNatClampNeg x3)) = 4 then (
    m_X10_setOf_b76 σ x3 s0
  ) else (
    chk x3 540 <|
    if (σ 93 (Int32.toNatClampNeg x3)) = 5 then (
      m_X10_setOf_b76 σ x3 s0
    ) else (
      chk x3 540 <|
      if (σ 93 (Int32.toNatClampNeg x3)) = 9 then (
        m_X10_setOf_b76 σ x3 s0
      ) else (
        chk x3 540 <|
        if (σ 93 (Int32.toNatClampNeg x3)) = 13 then (
          m_X10_setOf_b76 σ x3 s0
        ) else (
          m_X10_setOf_b91 σ x3 s0 0
        )
      )
    )
  )
set_option maxHeartbeats 4000000 in
set_option maxRecDepth 100000 in
theorem w_X10_setOf_b32 {C : XC} {Q : State → Prop} {g : cG} (σ : St) (x3 : Int32) (s0 : Int32) (o : Int32 × St) (h : XOk C cX10_setOf RX10 tG rmX10_setOf) (hg : XG C g) (hL : C.2.2.2.2.2.2.2.2.2.2.2.2.1 = 6) (hr : XEnd C (some .int) Q (XQ g (some (.int o.1)) o.2) (cA g)) (hf : m_X10_setOf_b32 σ x3 s0  = some o) : Xs C (wW g) Q σ 32 [(0, .ref (gA g 87)), (3, .int x3)] [.int s0] := by
  unfold m_X10_setOf_b32 at hf
  refine x_istore (lv' := [(4, .int s0), (0, .ref (gA g 87)), (3, .int x3)]) h dX10_setOf_32 hL (by decide) rfl (q := 34) rfl ?_
  refine x_aload_n h dX10_setOf_34 rfl 1 rfl (q := 35) rfl ?_
  refine x_get_X10_87_9 h hg kf_X10_25 nn_X10 dX10_setOf_35 ?_
  refine x_iload_n h dX10_setOf_38 rfl 2 rfl (q := 39) rfl ?_
  obtain ⟨hi1, hf2⟩ := chk_inv hf
  refine x_iald (j := (Int32.toNatClampNeg x3)) h hg a_93 hi1 rfl dX10_setOf_39 (q := 40) rfl ?_
  refine x_iconst (v := 4) h dX10_setOf_40 (by decide) (q := 41) rfl ?_
  refine x_icmp_eq (tgt := 76) h dX10_setOf_41 (by decide) (q := 44) rfl hf2 (fun hc3 hf4 => ?_) (fun hc3 hf4 => ?_)
  · skip
    refine x_sub (lv' := [(0, .ref (gA g 87)), (3, .int x3), (4, .int s0)]) [1, 2, 0] rfl ?_
    exact w_X10_setOf_b76 σ x3 s0 o h hg hL hr hf4
  · skip
    refine x_aload_n h dX10_setOf_44 rfl 1 rfl (q := 45) rfl ?_
    refine x_get_X10_87_9 h hg kf_X10_25 nn_X10 dX10_setOf_45 ?_
    refine x_iload_n h dX10_setOf_48 rfl 2 rfl (q := 49) rfl ?_
    obtain ⟨hi5, hf6⟩ := chk_inv hf4
    refine x_iald (j := (Int32.toNatClampNeg x3)) h hg a_93 hi5 rfl dX10_setOf_49 (q := 50) rfl ?_
    refine x_iconst (v := 5) h dX10_setOf_50 (by decide) (q := 51) rfl ?_
    refine x_icmp_eq (tgt := 76) h dX10_setOf_51 (by decide) (q := 54) rfl hf6 (fun hc7 hf8 => ?_) (fun hc7 hf8 => ?_)
    · skip
      refine x_sub (lv' := [(0, .ref (gA g 87)), (3, .int x3), (4, .int s0)]) [1, 2, 0] rfl ?_
      exact w_X10_setOf_b76 σ x3 s0 o h hg hL hr hf8
    · skip
      refine x_aload_n h dX10_setOf_54 rfl 1 rfl (q := 55) rfl ?_
      refine x_get_X10_87_9 h hg kf_X10_25 nn_X10 dX10_setOf_55 ?_
      refine x_iload_n h dX10_setOf_58 rfl 2 rfl (q := 59) rfl ?_
      obtain ⟨hi9, hf10⟩ := chk_inv hf8
      refine x_iald (j := (Int32.toNatClampNeg x3)) h hg a_93 hi9 rfl dX10_setOf_59 (q := 60) rfl ?_
      refine x_bipush (v := 9) h dX10_setOf_60 (by decide) (q := 62) rfl ?_
      refine x_icmp_eq (tgt := 76) h dX10_setOf_62 (by decide) (q := 65) rfl hf10 (fun hc11 hf12 => ?_) (fun hc11 hf12 => ?_)
      · skip
        refine x_sub (lv' := [(0, .ref (gA g 87)), (3, .int x3), (4, .int s0)]) [1, 2, 0] rfl ?_
        exact w_X10_setOf_b76 σ x3 s0 o h hg hL hr hf12
      · skip
        refine x_aload_n h dX10_setOf_65 rfl 1 rfl (q := 66) rfl ?_
        refine x_get_X10_87_9 h hg kf_X10_25 nn_X10 dX10_setOf_66 ?_
        refine x_iload_n h dX10_setOf_69 rfl 2 rfl (q := 70) rfl ?_
        obtain ⟨hi13, hf14⟩ := chk_inv hf12
        refine x_iald (j := (Int32.toNatClampNeg x3)) h hg a_93 hi13 rfl dX10_setOf_70 (q := 71) rfl ?_
        refine x_bipush (v := 13) h dX10_setOf_71 (by decide) (q := 73) rfl ?_
        refine x_icmp_ne (tgt := 90) h dX10_setOf_73 (by decide) (q := 76) rfl hf14 (fun hc15 hf16 => ?_) (fun hc15 hf16 => ?_)
        · skip
          refine x_iconst (v := 0) h dX10_setOf_90 (by decide) (q := 91) rfl ?_
          refine x_sub (lv' := [(0, .ref (gA g 87)), (3, .int x3), (4, .int s0)]) [1, 2, 0] rfl ?_
          exact w_X10_setOf_b91 σ x3 s0 0 o h hg hL hr hf16
        · skip
          refine x_sub (lv' := [(0, .ref (gA g 87)), (3, .int x3), (4, .int s0)]) [1, 2, 0] rfl ?_
          exact w_X10_setOf_b76 σ x3 s0 o h hg hL hr hf16
def m_X10_setOf (σ : St) (x1 : Int32) (x2 : Int32) : Option (Int32 × St) :=
  chk ((60 * x1) + x2) 540 <|
  if (σ 93 (Int32.toNatClampNeg ((60 * x1) + x2))) < 3 then (
    m_X10_setOf_b32 σ ((60 * x1) + x2) 0
  ) else (
    chk ((60 * x1) + x2) 540 <|
    chk (σ 94 (Int32.toNatClampNeg ((60 * x1) + x2))) 60 <|
    m_X10_setOf_b32 σ ((60 * x1) + x2) (σ 108 (Int32.toNatClampNeg (σ 94 (Int32.toNatClampNeg ((60 * x1) + x2)))))
  )
set_option maxHeartbeats 4000000 in
set_option maxRecDepth 100000 in
theorem w_X10_setOf {C : XC} {Q : State → Prop} {g : cG} (σ : St) (x1 : Int32) (x2 : Int32) (o : Int32 × St) (h : XOk C cX10_setOf RX10 tG rmX10_setOf) (hg : XG C g) (hL : C.2.2.2.2.2.2.2.2.2.2.2.2.1 = 6) (hr : XEnd C (some .int) Q (XQ g (some (.int o.1)) o.2) (cA g)) (hf : m_X10_setOf σ x1 x2 = some o) : Xs C (wW g) Q σ 0 [(0, .ref (gA g 87)), (1, .int x1), (2, .int x2)] [] := by
  unfold m_X10_setOf at hf
  refine x_bipush (v := 60) h dX10_setOf_0 (by decide) (q := 2) rfl ?_
  refine x_iload_n h dX10_setOf_2 rfl 1 rfl (q := 3) rfl ?_
  refine x_imul h dX10_setOf_3 (q := 4) rfl ?_
  refine x_iload_n h dX10_setOf_4 rfl 2 rfl (q := 5) rfl ?_
  refine x_iadd h dX10_setOf_5 (q := 6) rfl ?_
  refine x_istore_n (lv' := [(3, .int ((60 * x1) + x2)), (0, .ref (gA g 87)), (1, .int x1), (2, .int x2)]) h dX10_setOf_6 rfl hL (by decide) rfl (q := 7) rfl ?_
  refine x_aload_n h dX10_setOf_7 rfl 1 rfl (q := 8) rfl ?_
  refine x_get_X10_87_9 h hg kf_X10_25 nn_X10 dX10_setOf_8 ?_
  refine x_iload_n h dX10_setOf_11 rfl 0 rfl (q := 12) rfl ?_
  obtain ⟨hi1, hf2⟩ := chk_inv hf
  refine x_iald (j := (Int32.toNatClampNeg ((60 * x1) + x2))) h hg a_93 hi1 rfl dX10_setOf_12 (q := 13) rfl ?_
  refine x_iconst (v := 3) h dX10_setOf_13 (by decide) (q := 14) rfl ?_
  refine x_icmp_lt (tgt := 31) h dX10_setOf_14 (by decide) (q := 17) rfl hf2 (fun hc3 hf4 => ?_) (fun hc3 hf4 => ?_)
  · skip
    refine x_iconst (v := 0) h dX10_setOf_31 (by decide) (q := 32) rfl ?_
    refine x_sub (lv' := [(0, .ref (gA g 87)), (3, .int ((60 * x1) + x2))]) [1, 0] rfl ?_
    exact w_X10_setOf_b32 σ ((60 * x1) + x2) 0 o h hg hL hr hf4
  · skip
    refine x_aload_n h dX10_setOf_17 rfl 1 rfl (q := 18) rfl ?_
    refine x_get_X10_87_31 h hg kf_X10_70 nn_X10 dX10_setOf_18 ?_
    refine x_aload_n h dX10_setOf_21 rfl 1 rfl (q := 22) rfl ?_
    refine x_get_X10_87_10 h hg kf_X10_28 nn_X10 dX10_setOf_22 ?_
    refine x_iload_n h dX10_setOf_25 rfl 0 rfl (q := 26) rfl ?_
    obtain ⟨hi5, hf6⟩ := chk_inv hf4
    refine x_iald (j := (Int32.toNatClampNeg ((60 * x1) + x2))) h hg a_94 hi5 rfl dX10_setOf_26 (q := 27) rfl ?_
    obtain ⟨hi7, hf8⟩ := chk_inv hf6
    refine x_iald (j := (Int32.toNatClampNeg (σ 94 (Int32.toNatClampNeg ((60 * x1) + x2))))) h hg a_108 hi7 rfl dX10_setOf_27 (q := 28) rfl ?_
    refine x_goto (q := 32) h dX10_setOf_28 (by decide) ?_
    refine x_sub (lv' := [(0, .ref (gA g 87)), (3, .int ((60 * x1) + x2))]) [1, 0] rfl ?_
    exact w_X10_setOf_b32 σ ((60 * x1) + x2) (σ 108 (Int32.toNatClampNeg (σ 94 (Int32.toNatClampNeg ((60 * x1) + x2))))) o h hg hL hr hf8
theorem c_X10_setOf (l : Launch) {g : cG} (hi : gInj g) (σ : St) (x1 : Int32) (x2 : Int32) (o : Int32 × St) (hf : m_X10_setOf σ x1 x2 = some o) : Met l yX10_setOf (wT yX10_setOf cX10_setOf 6 (some .int)) rmX10_setOf (va_Pc [.ref (gA g 87), .int x1, .int x2] (XPre g σ)) (XQ g (some (.int o.1)) o.2) 0 0 (cA g) :=
  X_met RX10 hi plX10 rfl (Nat.le_of_ble_eq_true rfl) rfl (fun _ _ _ h hg hL hr => w_X10_setOf σ x1 x2 o h hg hL hr hf)
abbrev rmX10_works : Room := { frames := 11, cells := 0, slots := 0, locals := 259 }
theorem hdX10_works : yX10_works.cls = RX10 ∧ yX10_works.cls ≠ "java/lang/invoke/MethodHandle" ∧ yX10_works.cls ≠ "java/lang/invoke/VarHandle" ∧ (parseMethodDescriptor yX10_works.desc).map (fun d => d.parameters.length) = some 1 := by decide +kernel
def m_X10_works_b7 (σ : St) (x1 : Int32) (x2 : Int32) (k7 : (St × Int32) → Option (St)) : Option (St) :=
  chk x1 9 <|
  if (σ 97 (Int32.toNatClampNeg x1)) ≤ x2 then (
    some σ
  ) else (
    (m_X10_setOf σ x1 x2).bind fun u5 =>
    chk x2 60 <|
    k7 ((up u5.2 108 (Int32.toNatClampNeg x2) u5.1), (x2 + 1))
  )
set_option maxHeartbeats 4000000 in
set_option maxRecDepth 100000 in
theorem w_X10_works_b7 {C : XC} {Q : State → Prop} {g : cG} (σ : St) (x1 : Int32) (x2 : Int32) (o : St) (h : XOk C cX10_works RX10 tG rmX10_works) (hg : XG C g) (hL : C.2.2.2.2.2.2.2.2.2.2.2.2.1 = 3) (hr : XEnd C none Q (XQ g (none) o) (cA g)) (k7 : (St × Int32) → Option (St)) (hk7 : ∀ z : St × Int32, k7 z = some o → Xs C (wW g) Q z.1 7 [(0, .ref (gA g 87)), (1, .int x1), (2, .int z.2)] []) (hf : m_X10_works_b7 σ x1 x2 k7 = some o) : Xs C (wW g) Q σ 7 [(0, .ref (gA g 87)), (1, .int x1), (2, .int x2)] [] := by
  unfold m_X10_works_b7 at hf
  refine x_iload_n h dX10_works_7 rfl 2 rfl (q := 8) rfl ?_
  refine x_aload_n h dX10_works_8 rfl 0 rfl (q := 9) rfl ?_
  refine x_get_X10_87_13 h hg kf_X10_37 nn_X10 dX10_works_9 ?_
  refine x_iload_n h dX10_works_12 rfl 1 rfl (q := 13) rfl ?_
  obtain ⟨hi1, hf2⟩ := chk_inv hf
  refine x_iald (j := (Int32.toNatClampNeg x1)) h hg a_97 hi1 rfl dX10_works_13 (q := 14) rfl ?_
  refine x_icmp_ge (tgt := 35) h dX10_works_14 (by decide) (q := 17) rfl hf2 (fun hc3 hf4 => ?_) (fun hc3 hf4 => ?_)
  · skip
    have hz := Option.some.inj hf4
    subst hz
    exact x_vret h hg hr dX10_works_35
  · skip
    refine x_aload_n h dX10_works_17 rfl 0 rfl (q := 18) rfl ?_
    refine x_get_X10_87_31 h hg kf_X10_70 nn_X10 dX10_works_18 ?_
    refine x_iload_n h dX10_works_21 rfl 2 rfl (q := 22) rfl ?_
    refine x_aload_n h dX10_works_22 rfl 0 rfl (q := 23) rfl ?_
    refine x_iload_n h dX10_works_23 rfl 1 rfl (q := 24) rfl ?_
    refine x_iload_n h dX10_works_24 rfl 2 rfl (q := 25) rfl ?_
    obtain ⟨u5, hu5, hf6⟩ := bnd_inv hf4
    refine x_callVi (As := [.int x1, .int x2]) (rest := [.int x2, .ref (gA g 108)]) h hg (c_X10_setOf C.2.1 hg.2.1 σ x1 x2 _ hu5) ml_X10_239 biX10_setOf rfl rfl hdX10_setOf ⟨Nat.le_of_ble_eq_true rfl, Nat.le_of_ble_eq_true rfl⟩ (by decide) (cE_87 g _) rfl rfl rfl (Nat.le_of_ble_eq_true rfl) dX10_works_25 ?_
    obtain ⟨hi7, hf8⟩ := chk_inv hf6
    refine x_iast (j := (Int32.toNatClampNeg x2)) h hg a_108 hi7 rfl dX10_works_28 (q := 29) rfl ?_
    refine x_iinc (v := (x2 + 1)) (lv' := [(2, .int (x2 + 1)), (0, .ref (gA g 87)), (1, .int x1)]) (j := 2) h dX10_works_29 rfl rfl hL (by decide) rfl (q := 32) rfl ?_
    refine x_goto (q := 7) h dX10_works_32 (by decide) ?_
    refine x_sub (lv' := [(0, .ref (gA g 87)), (1, .int x1), (2, .int (x2 + 1))]) [1, 2, 0] rfl ?_
    exact hk7 ((up u5.2 108 (Int32.toNatClampNeg x2) u5.1), (x2 + 1)) hf8
set_option maxHeartbeats 4000000 in
set_option maxRecDepth 100000 in
theorem w_X10_works_l7 {C : XC} {Q : State → Prop} {g : cG} (x1 : Int32) (o : St) (h : XOk C cX10_works RX10 tG rmX10_works) (hg : XG C g) (hL : C.2.2.2.2.2.2.2.2.2.2.2.2.1 = 3) (hr : XEnd C none Q (XQ g (none) o) (cA g)) : ∀ (n : Nat) (z : St × Int32), loopF (fun k z => m_X10_works_b7 z.1 x1 z.2 k) n z = some o → Xs C (wW g) Q z.1 7 [(0, .ref (gA g 87)), (1, .int x1), (2, .int z.2)] [] := by
  intro n z hf
  refine loopF_ind (S := St × Int32) (O := St) (step := (fun k z => m_X10_works_b7 z.1 x1 z.2 k)) (o := o) (P := fun z => Xs C (wW g) Q z.1 7 [(0, .ref (gA g 87)), (1, .int x1), (2, .int z.2)] []) ?_ n z hf
  intro k hk z hf
  exact w_X10_works_b7 z.1 x1 z.2 o h hg hL hr k hk hf
def m_X10_works (σ : St) (x1 : Int32) : Option (St) :=
  loopF (fun k z => m_X10_works_b7 z.1 x1 z.2 k) cFu ((up σ 87 29 0), 0)
set_option maxHeartbeats 4000000 in
set_option maxRecDepth 100000 in
theorem w_X10_works {C : XC} {Q : State → Prop} {g : cG} (σ : St) (x1 : Int32) (o : St) (h : XOk C cX10_works RX10 tG rmX10_works) (hg : XG C g) (hL : C.2.2.2.2.2.2.2.2.2.2.2.2.1 = 3) (hr : XEnd C none Q (XQ g (none) o) (cA g)) (hf : m_X10_works σ x1 = some o) : Xs C (wW g) Q σ 0 [(0, .ref (gA g 87)), (1, .int x1)] [] := by
  unfold m_X10_works at hf
  refine x_aload_n h dX10_works_0 rfl 0 rfl (q := 1) rfl ?_
  refine x_iconst (v := 0) h dX10_works_1 (by decide) (q := 2) rfl ?_
  refine x_put_X10_87_29 h hg kf_X10_209 nn_X10 dX10_works_2 (by decide) (by decide) ?_
  refine x_iconst (v := 0) h dX10_works_5 (by decide) (q := 6) rfl ?_
  refine x_istore_n (lv' := [(2, .int 0), (0, .ref (gA g 87)), (1, .int x1)]) h dX10_works_6 rfl hL (by decide) rfl (q := 7) rfl ?_
  refine x_sub (lv' := [(0, .ref (gA g 87)), (1, .int x1), (2, .int 0)]) [1, 2, 0] rfl ?_
  exact w_X10_works_l7 x1 o h hg hL hr  cFu ((up σ 87 29 0), 0) hf
theorem c_X10_works (l : Launch) {g : cG} (hi : gInj g) (σ : St) (x1 : Int32) (o : St) (hf : m_X10_works σ x1 = some o) : Met l yX10_works (wT yX10_works cX10_works 3 none) rmX10_works (va_Pc [.ref (gA g 87), .int x1] (XPre g σ)) (XQ g (none) o) 0 0 (cA g) :=
  X_met RX10 hi plX10 rfl (Nat.le_of_ble_eq_true rfl) rfl (fun _ _ _ h hg hL hr => w_X10_works σ x1 o h hg hL hr hf)
abbrev rmX10_whole : Room := { frames := 12, cells := 0, slots := 0, locals := 281 }
theorem hdX10_whole : yX10_whole.cls = RX10 ∧ yX10_whole.cls ≠ "java/lang/invoke/MethodHandle" ∧ yX10_whole.cls ≠ "java/lang/invoke/VarHandle" ∧ (parseMethodDescriptor yX10_whole.desc).map (fun d => d.parameters.length) = some 1 := by decide +kernel
def m_X10_whole (σ : St) (x1 : Int32) : Option (Int32 × St) :=
  (m_X10_works σ x1).bind fun u1 =>
  chk x1 9 <|
  chk ((u1 97 (Int32.toNatClampNeg x1)) - 1) 60 <|
  some ((u1 108 (Int32.toNatClampNeg ((u1 97 (Int32.toNatClampNeg x1)) - 1))), u1)
set_option maxHeartbeats 4000000 in
set_option maxRecDepth 100000 in
theorem w_X10_whole {C : XC} {Q : State → Prop} {g : cG} (σ : St) (x1 : Int32) (o : Int32 × St) (h : XOk C cX10_whole RX10 tG rmX10_whole) (hg : XG C g) (hL : C.2.2.2.2.2.2.2.2.2.2.2.2.1 = 2) (hr : XEnd C (some .int) Q (XQ g (some (.int o.1)) o.2) (cA g)) (hf : m_X10_whole σ x1 = some o) : Xs C (wW g) Q σ 0 [(0, .ref (gA g 87)), (1, .int x1)] [] := by
  unfold m_X10_whole at hf
  refine x_aload_n h dX10_whole_0 rfl 0 rfl (q := 1) rfl ?_
  refine x_iload_n h dX10_whole_1 rfl 1 rfl (q := 2) rfl ?_
  obtain ⟨u1, hu1, hf2⟩ := bnd_inv hf
  refine x_callVv (As := [.int x1]) (rest := []) h hg (c_X10_works C.2.1 hg.2.1 σ x1 _ hu1) ml_X10_242 biX10_works rfl rfl hdX10_works ⟨Nat.le_of_ble_eq_true rfl, Nat.le_of_ble_eq_true rfl⟩ (by decide) (cE_87 g _) rfl rfl rfl (Nat.le_of_ble_eq_true rfl) dX10_whole_2 ?_
  refine x_aload_n h dX10_whole_5 rfl 0 rfl (q := 6) rfl ?_
  refine x_get_X10_87_31 h hg kf_X10_70 nn_X10 dX10_whole_6 ?_
  refine x_aload_n h dX10_whole_9 rfl 0 rfl (q := 10) rfl ?_
  refine x_get_X10_87_13 h hg kf_X10_37 nn_X10 dX10_whole_10 ?_
  refine x_iload_n h dX10_whole_13 rfl 1 rfl (q := 14) rfl ?_
  obtain ⟨hi3, hf4⟩ := chk_inv hf2
  refine x_iald (j := (Int32.toNatClampNeg x1)) h hg a_97 hi3 rfl dX10_whole_14 (q := 15) rfl ?_
  refine x_iconst (v := 1) h dX10_whole_15 (by decide) (q := 16) rfl ?_
  refine x_isub h dX10_whole_16 (q := 17) rfl ?_
  obtain ⟨hi5, hf6⟩ := chk_inv hf4
  refine x_iald (j := (Int32.toNatClampNeg ((u1 97 (Int32.toNatClampNeg x1)) - 1))) h hg a_108 hi5 rfl dX10_whole_17 (q := 18) rfl ?_
  have hz := Option.some.inj hf6
  subst hz
  exact x_iret h hg hr dX10_whole_18
theorem c_X10_whole (l : Launch) {g : cG} (hi : gInj g) (σ : St) (x1 : Int32) (o : Int32 × St) (hf : m_X10_whole σ x1 = some o) : Met l yX10_whole (wT yX10_whole cX10_whole 2 (some .int)) rmX10_whole (va_Pc [.ref (gA g 87), .int x1] (XPre g σ)) (XQ g (some (.int o.1)) o.2) 0 0 (cA g) :=
  X_met RX10 hi plX10 rfl (Nat.le_of_ble_eq_true rfl) rfl (fun _ _ _ h hg hL hr => w_X10_whole σ x1 o h hg hL hr hf)
abbrev rmX10_where : Room := { frames := 12, cells := 0, slots := 0, locals := 281 }
theorem hdX10_where : yX10_where.cls = RX10 ∧ yX10_where.cls ≠ "java/lang/invoke/MethodHandle" ∧ yX10_where.cls ≠ "java/lang/invoke/VarHandle" ∧ (parseMethodDescriptor yX10_where.desc).map (fun d => d.parameters.length) = some 2 := by decide +kernel
def m_X10_where (σ : St) (x1 : Int32) (x2 : Int32) : Option (Int32 × St) :=
  if (bI (m_X10_isFormula σ x1)) = 0 then (
    some ((-1), σ)
  ) else (
    chk x1 9 <|
    if (bI (m_X10_in x2 0 ((σ 97 (Int32.toNatClampNeg x1)) - 1))) = 0 then (
      some ((-1), σ)
    ) else (
      (m_X10_works σ x1).bind fun u7 =>
      chk x2 60 <|
      some ((u7 108 (Int32.toNatClampNeg x2)), u7)
    )
  )
set_option maxHeartbeats 4000000 in
set_option maxRecDepth 100000 in
theorem w_X10_where {C : XC} {Q : State → Prop} {g : cG} (σ : St) (x1 : Int32) (x2 : Int32) (o : Int32 × St) (h : XOk C cX10_where RX10 tG rmX10_where) (hg : XG C g) (hL : C.2.2.2.2.2.2.2.2.2.2.2.2.1 = 3) (hr : XEnd C (some .int) Q (XQ g (some (.int o.1)) o.2) (cA g)) (hf : m_X10_where σ x1 x2 = some o) : Xs C (wW g) Q σ 0 [(0, .ref (gA g 87)), (1, .int x1), (2, .int x2)] [] := by
  unfold m_X10_where at hf
  refine x_aload_n h dX10_where_0 rfl 0 rfl (q := 1) rfl ?_
  refine x_iload_n h dX10_where_1 rfl 1 rfl (q := 2) rfl ?_
  refine x_callVi (As := [.int x1]) (rest := []) h hg (c_X10_isFormula C.2.1 hg.2.1 σ x1 _ rfl) ml_X10_203 biX10_isFormula rfl rfl hdX10_isFormula ⟨Nat.le_of_ble_eq_true rfl, Nat.le_of_ble_eq_true rfl⟩ (by decide) (cE_87 g _) rfl rfl rfl (Nat.le_of_ble_eq_true rfl) dX10_where_2 ?_
  refine x_if_eq (tgt := 24) h dX10_where_5 (by decide) (q := 8) rfl hf (fun hc1 hf2 => ?_) (fun hc1 hf2 => ?_)
  · skip
    refine x_iconst (v := (-1)) h dX10_where_24 (by decide) (q := 25) rfl ?_
    have hz := Option.some.inj hf2
    subst hz
    exact x_iret h hg hr dX10_where_25
  · skip
    refine x_iload_n h dX10_where_8 rfl 2 rfl (q := 9) rfl ?_
    refine x_iconst (v := 0) h dX10_where_9 (by decide) (q := 10) rfl ?_
    refine x_aload_n h dX10_where_10 rfl 0 rfl (q := 11) rfl ?_
    refine x_get_X10_87_13 h hg kf_X10_37 nn_X10 dX10_where_11 ?_
    refine x_iload_n h dX10_where_14 rfl 1 rfl (q := 15) rfl ?_
    obtain ⟨hi3, hf4⟩ := chk_inv hf2
    refine x_iald (j := (Int32.toNatClampNeg x1)) h hg a_97 hi3 rfl dX10_where_15 (q := 16) rfl ?_
    refine x_iconst (v := 1) h dX10_where_16 (by decide) (q := 17) rfl ?_
    refine x_isub h dX10_where_17 (q := 18) rfl ?_
    refine x_callPi (As := [.int x2, .int 0, .int ((σ 97 (Int32.toNatClampNeg x1)) - 1)]) (rest := []) h (c_X10_in C.2.1 x2 0 ((σ 97 (Int32.toNatClampNeg x1)) - 1) _ rfl) ml_X10_93 biX10_in rfl rfl hdX10_in ⟨Nat.le_of_ble_eq_true rfl, Nat.le_of_ble_eq_true rfl⟩ rfl rfl (Nat.le_of_ble_eq_true rfl) dX10_where_18 ?_
    refine x_if_ne (tgt := 26) h dX10_where_21 (by decide) (q := 24) rfl hf4 (fun hc5 hf6 => ?_) (fun hc5 hf6 => ?_)
    · skip
      refine x_aload_n h dX10_where_26 rfl 0 rfl (q := 27) rfl ?_
      refine x_iload_n h dX10_where_27 rfl 1 rfl (q := 28) rfl ?_
      obtain ⟨u7, hu7, hf8⟩ := bnd_inv hf6
      refine x_callVv (As := [.int x1]) (rest := []) h hg (c_X10_works C.2.1 hg.2.1 σ x1 _ hu7) ml_X10_242 biX10_works rfl rfl hdX10_works ⟨Nat.le_of_ble_eq_true rfl, Nat.le_of_ble_eq_true rfl⟩ (by decide) (cE_87 g _) rfl rfl rfl (Nat.le_of_ble_eq_true rfl) dX10_where_28 ?_
      refine x_aload_n h dX10_where_31 rfl 0 rfl (q := 32) rfl ?_
      refine x_get_X10_87_31 h hg kf_X10_70 nn_X10 dX10_where_32 ?_
      refine x_iload_n h dX10_where_35 rfl 2 rfl (q := 36) rfl ?_
      obtain ⟨hi9, hf10⟩ := chk_inv hf8
      refine x_iald (j := (Int32.toNatClampNeg x2)) h hg a_108 hi9 rfl dX10_where_36 (q := 37) rfl ?_
      have hz := Option.some.inj hf10
      subst hz
      exact x_iret h hg hr dX10_where_37
    · skip
      refine x_iconst (v := (-1)) h dX10_where_24 (by decide) (q := 25) rfl ?_
      have hz := Option.some.inj hf6
      subst hz
      exact x_iret h hg hr dX10_where_25
theorem c_X10_where (l : Launch) {g : cG} (hi : gInj g) (σ : St) (x1 : Int32) (x2 : Int32) (o : Int32 × St) (hf : m_X10_where σ x1 x2 = some o) : Met l yX10_where (wT yX10_where cX10_where 3 (some .int)) rmX10_where (va_Pc [.ref (gA g 87), .int x1, .int x2] (XPre g σ)) (XQ g (some (.int o.1)) o.2) 0 0 (cA g) :=
  X_met RX10 hi plX10 rfl (Nat.le_of_ble_eq_true rfl) rfl (fun _ _ _ h hg hL hr => w_X10_where σ x1 x2 o h hg hL hr hf)
abbrev rmX10_holds : Room := { frames := 13, cells := 0, slots := 0, locals := 302 }
theorem hdX10_holds : yX10_holds.cls = RX10 ∧ yX10_holds.cls ≠ "java/lang/invoke/MethodHandle" ∧ yX10_holds.cls ≠ "java/lang/invoke/VarHandle" ∧ (parseMethodDescriptor yX10_holds.desc).map (fun d => d.parameters.length) = some 2 := by decide +kernel
def m_X10_holds (σ : St) (x1 : Int32) (x2 : Int32) : Option (Int32 × St) :=
  if (bI (m_X10_isFormula σ x1)) = 0 then (
    some ((-1), σ)
  ) else (
    (m_X10_isState σ x2).bind fun u3 =>
    if (bI u3) = 0 then (
      some ((-1), σ)
    ) else (
      (m_X10_whole σ x1).bind fun u7 =>
      some (((u7.1 >>> (x2 &&& 31)) &&& 1), u7.2)
    )
  )
set_option maxHeartbeats 4000000 in
set_option maxRecDepth 100000 in
theorem w_X10_holds {C : XC} {Q : State → Prop} {g : cG} (σ : St) (x1 : Int32) (x2 : Int32) (o : Int32 × St) (h : XOk C cX10_holds RX10 tG rmX10_holds) (hg : XG C g) (hL : C.2.2.2.2.2.2.2.2.2.2.2.2.1 = 3) (hr : XEnd C (some .int) Q (XQ g (some (.int o.1)) o.2) (cA g)) (hf : m_X10_holds σ x1 x2 = some o) : Xs C (wW g) Q σ 0 [(0, .ref (gA g 87)), (1, .int x1), (2, .int x2)] [] := by
  unfold m_X10_holds at hf
  refine x_aload_n h dX10_holds_0 rfl 0 rfl (q := 1) rfl ?_
  refine x_iload_n h dX10_holds_1 rfl 1 rfl (q := 2) rfl ?_
  refine x_callVi (As := [.int x1]) (rest := []) h hg (c_X10_isFormula C.2.1 hg.2.1 σ x1 _ rfl) ml_X10_203 biX10_isFormula rfl rfl hdX10_isFormula ⟨Nat.le_of_ble_eq_true rfl, Nat.le_of_ble_eq_true rfl⟩ (by decide) (cE_87 g _) rfl rfl rfl (Nat.le_of_ble_eq_true rfl) dX10_holds_2 ?_
  refine x_if_eq (tgt := 28) h dX10_holds_5 (by decide) (q := 8) rfl hf (fun hc1 hf2 => ?_) (fun hc1 hf2 => ?_)
  · skip
    refine x_iconst (v := (-1)) h dX10_holds_28 (by decide) (q := 29) rfl ?_
    have hz := Option.some.inj hf2
    subst hz
    exact x_iret h hg hr dX10_holds_29
  · skip
    refine x_aload_n h dX10_holds_8 rfl 0 rfl (q := 9) rfl ?_
    refine x_iload_n h dX10_holds_9 rfl 2 rfl (q := 10) rfl ?_
    obtain ⟨u3, hu3, hf4⟩ := bnd_inv hf2
    refine x_callVi (As := [.int x2]) (rest := []) h hg (c_X10_isState C.2.1 hg.2.1 σ x2 _ hu3) ml_X10_129 biX10_isState rfl rfl hdX10_isState ⟨Nat.le_of_ble_eq_true rfl, Nat.le_of_ble_eq_true rfl⟩ (by decide) (cE_87 g _) rfl rfl rfl (Nat.le_of_ble_eq_true rfl) dX10_holds_10 ?_
    refine x_if_eq (tgt := 28) h dX10_holds_13 (by decide) (q := 16) rfl hf4 (fun hc5 hf6 => ?_) (fun hc5 hf6 => ?_)
    · skip
      refine x_iconst (v := (-1)) h dX10_holds_28 (by decide) (q := 29) rfl ?_
      have hz := Option.some.inj hf6
      subst hz
      exact x_iret h hg hr dX10_holds_29
    · skip
      refine x_aload_n h dX10_holds_16 rfl 0 rfl (q := 17) rfl ?_
      refine x_iload_n h dX10_holds_17 rfl 1 rfl (q := 18) rfl ?_
      obtain ⟨u7, hu7, hf8⟩ := bnd_inv hf6
      refine x_callVi (As := [.int x1]) (rest := []) h hg (c_X10_whole C.2.1 hg.2.1 σ x1 _ hu7) ml_X10_245 biX10_whole rfl rfl hdX10_whole ⟨Nat.le_of_ble_eq_true rfl, Nat.le_of_ble_eq_true rfl⟩ (by decide) (cE_87 g _) rfl rfl rfl (Nat.le_of_ble_eq_true rfl) dX10_holds_18 ?_
      refine x_iload_n h dX10_holds_21 rfl 2 rfl (q := 22) rfl ?_
      refine x_ishr h dX10_holds_22 (q := 23) rfl ?_
      refine x_iconst (v := 1) h dX10_holds_23 (by decide) (q := 24) rfl ?_
      refine x_iand h dX10_holds_24 (q := 25) rfl ?_
      refine x_goto (q := 29) h dX10_holds_25 (by decide) ?_
      have hz := Option.some.inj hf8
      subst hz
      exact x_iret h hg hr dX10_holds_29
theorem c_X10_holds (l : Launch) {g : cG} (hi : gInj g) (σ : St) (x1 : Int32) (x2 : Int32) (o : Int32 × St) (hf : m_X10_holds σ x1 x2 = some o) : Met l yX10_holds (wT yX10_holds cX10_holds 3 (some .int)) rmX10_holds (va_Pc [.ref (gA g 87), .int x1, .int x2] (XPre g σ)) (XQ g (some (.int o.1)) o.2) 0 0 (cA g) :=
  X_met RX10 hi plX10 rfl (Nat.le_of_ble_eq_true rfl) rfl (fun _ _ _ h hg hL hr => w_X10_holds σ x1 x2 o h hg hL hr hf)
abbrev rmX10_counterexample : Room := { frames := 13, cells := 0, slots := 0, locals := 302 }
theorem hdX10_counterexample : yX10_counterexample.cls = RX10 ∧ yX10_counterexample.cls ≠ "java/lang/invoke/MethodHandle" ∧ yX10_counterexample.cls ≠ "java/lang/invoke/VarHandle" ∧ (parseMethodDescriptor yX10_counterexample.desc).map (fun d => d.parameters.length) = some 2 := by decide +kernel
def m_X10_counterexample_b37 (σ : St) (x3 : Int32) (x4 : Int32) (k37 : Int32 → Option (Int32 × St)) : Option (Int32 × St) :=
  chk 1200 1201 <|
  if (σ 88 1200) ≤ x4 then (
    some ((-9), σ)
  ) else (
    if ((x3 >>> (x4 &&& 31)) &&& 1) = 1 then (
      some (x4, σ)
    ) else (
      k37 (x4 + 1)
    )
  )
set_option maxHeartbeats 4000000 in
set_option maxRecDepth 100000 in
theorem w_X10_counterexample_b37 {C : XC} {Q : State → Prop} {g : cG} (σ : St) (x3 : Int32) (x4 : Int32) (o : Int32 × St) (h : XOk C cX10_counterexample RX10 tG rmX10_counterexample) (hg : XG C g) (hL : C.2.2.2.2.2.2.2.2.2.2.2.2.1 = 5) (hr : XEnd C (some .int) Q (XQ g (some (.int o.1)) o.2) (cA g)) (k37 : Int32 → Option (Int32 × St)) (hk37 : ∀ z : Int32, k37 z = some o → Xs C (wW g) Q σ 37 [(0, .ref (gA g 87)), (3, .int x3), (4, .int z)] []) (hf : m_X10_counterexample_b37 σ x3 x4 k37 = some o) : Xs C (wW g) Q σ 37 [(0, .ref (gA g 87)), (3, .int x3), (4, .int x4)] [] := by
  unfold m_X10_counterexample_b37 at hf
  refine x_iload h dX10_counterexample_37 2 rfl (q := 39) rfl ?_
  refine x_aload_n h dX10_counterexample_39 rfl 0 rfl (q := 40) rfl ?_
  refine x_get_X10_87_1 h hg kf_X10_7 nn_X10 dX10_counterexample_40 ?_
  refine x_sipush (v := 1200) h dX10_counterexample_43 (by decide) (q := 46) rfl ?_
  obtain ⟨hi1, hf2⟩ := chk_inv hf
  refine x_iald (j := 1200) h hg a_88 hi1 (by decide) dX10_counterexample_46 (q := 47) rfl ?_
  refine x_icmp_ge (tgt := 69) h dX10_counterexample_47 (by decide) (q := 50) rfl hf2 (fun hc3 hf4 => ?_) (fun hc3 hf4 => ?_)
  · skip
    refine x_bipush (v := (-9)) h dX10_counterexample_69 (by decide) (q := 71) rfl ?_
    have hz := Option.some.inj hf4
    subst hz
    exact x_iret h hg hr dX10_counterexample_71
  · skip
    refine x_iload_n h dX10_counterexample_50 rfl 1 rfl (q := 51) rfl ?_
    refine x_iload h dX10_counterexample_51 2 rfl (q := 53) rfl ?_
    refine x_ishr h dX10_counterexample_53 (q := 54) rfl ?_
    refine x_iconst (v := 1) h dX10_counterexample_54 (by decide) (q := 55) rfl ?_
    refine x_iand h dX10_counterexample_55 (q := 56) rfl ?_
    refine x_iconst (v := 1) h dX10_counterexample_56 (by decide) (q := 57) rfl ?_
    refine x_icmp_ne (tgt := 63) h dX10_counterexample_57 (by decide) (q := 60) rfl hf4 (fun hc5 hf6 => ?_) (fun hc5 hf6 => ?_)
    · skip
      refine x_iinc (v := (x4 + 1)) (lv' := [(4, .int (x4 + 1)), (0, .ref (gA g 87)), (3, .int x3)]) (j := 2) h dX10_counterexample_63 rfl rfl hL (by decide) rfl (q := 66) rfl ?_
      refine x_goto (q := 37) h dX10_counterexample_66 (by decide) ?_
      refine x_sub (lv' := [(0, .ref (gA g 87)), (3, .int x3), (4, .int (x4 + 1))]) [1, 2, 0] rfl ?_
      exact hk37 (x4 + 1) hf6
    · skip
      refine x_iload h dX10_counterexample_60 2 rfl (q := 62) rfl ?_
      have hz := Option.some.inj hf6
      subst hz
      exact x_iret h hg hr dX10_counterexample_62
set_option maxHeartbeats 4000000 in
set_option maxRecDepth 100000 in
theorem w_X10_counterexample_l37 {C : XC} {Q : State → Prop} {g : cG} (σ : St) (x3 : Int32) (o : Int32 × St) (h : XOk C cX10_counterexample RX10 tG rmX10_counterexample) (hg : XG C g) (hL : C.2.2.2.2.2.2.2.2.2.2.2.2.1 = 5) (hr : XEnd C (some .int) Q (XQ g (some (.int o.1)) o.2) (cA g)) : ∀ (n : Nat) (z : Int32), loopF (fun k z => m_X10_counterexample_b37 σ x3 z k) n z = some o → Xs C (wW g) Q σ 37 [(0, .ref (gA g 87)), (3, .int x3), (4, .int z)] [] := by
  intro n z hf
  refine loopF_ind (S := Int32) (O := Int32 × St) (step := (fun k z => m_X10_counterexample_b37 σ x3 z k)) (o := o) (P := fun z => Xs C (wW g) Q σ 37 [(0, .ref (gA g 87)), (3, .int x3), (4, .int z)] []) ?_ n z hf
  intro k hk z hf
  exact w_X10_counterexample_b37 σ x3 z o h hg hL hr k hk hf
def m_X10_counterexample (σ : St) (x1 : Int32) (x2 : Int32) : Option (Int32 × St) :=
  if (bI (m_X10_isFormula σ x1)) = 0 then (
    some ((-1), σ)
  ) else (
    if (bI (m_X10_isFormula σ x2)) = 0 then (
      some ((-1), σ)
    ) else (
      (m_X10_whole σ x1).bind fun u5 =>
      (m_X10_whole u5.2 x2).bind fun u7 =>
      loopF (fun k z => m_X10_counterexample_b37 u7.2 (u5.1 &&& (u7.1 ^^^ (-1))) z k) cFu 0
    )
  )
set_option maxHeartbeats 4000000 in
set_option maxRecDepth 100000 in
theorem w_X10_counterexample {C : XC} {Q : State → Prop} {g : cG} (σ : St) (x1 : Int32) (x2 : Int32) (o : Int32 × St) (h : XOk C cX10_counterexample RX10 tG rmX10_counterexample) (hg : XG C g) (hL : C.2.2.2.2.2.2.2.2.2.2.2.2.1 = 5) (hr : XEnd C (some .int) Q (XQ g (some (.int o.1)) o.2) (cA g)) (hf : m_X10_counterexample σ x1 x2 = some o) : Xs C (wW g) Q σ 0 [(0, .ref (gA g 87)), (1, .int x1), (2, .int x2)] [] := by
  unfold m_X10_counterexample at hf
  refine x_aload_n h dX10_counterexample_0 rfl 0 rfl (q := 1) rfl ?_
  refine x_iload_n h dX10_counterexample_1 rfl 1 rfl (q := 2) rfl ?_
  refine x_callVi (As := [.int x1]) (rest := []) h hg (c_X10_isFormula C.2.1 hg.2.1 σ x1 _ rfl) ml_X10_203 biX10_isFormula rfl rfl hdX10_isFormula ⟨Nat.le_of_ble_eq_true rfl, Nat.le_of_ble_eq_true rfl⟩ (by decide) (cE_87 g _) rfl rfl rfl (Nat.le_of_ble_eq_true rfl) dX10_counterexample_2 ?_
  refine x_if_eq (tgt := 16) h dX10_counterexample_5 (by decide) (q := 8) rfl hf (fun hc1 hf2 => ?_) (fun hc1 hf2 => ?_)
  · skip
    refine x_iconst (v := (-1)) h dX10_counterexample_16 (by decide) (q := 17) rfl ?_
    have hz := Option.some.inj hf2
    subst hz
    exact x_iret h hg hr dX10_counterexample_17
  · skip
    refine x_aload_n h dX10_counterexample_8 rfl 0 rfl (q := 9) rfl ?_
    refine x_iload_n h dX10_counterexample_9 rfl 2 rfl (q := 10) rfl ?_
    refine x_callVi (As := [.int x2]) (rest := []) h hg (c_X10_isFormula C.2.1 hg.2.1 σ x2 _ rfl) ml_X10_203 biX10_isFormula rfl rfl hdX10_isFormula ⟨Nat.le_of_ble_eq_true rfl, Nat.le_of_ble_eq_true rfl⟩ (by decide) (cE_87 g _) rfl rfl rfl (Nat.le_of_ble_eq_true rfl) dX10_counterexample_10 ?_
    refine x_if_ne (tgt := 18) h dX10_counterexample_13 (by decide) (q := 16) rfl hf2 (fun hc3 hf4 => ?_) (fun hc3 hf4 => ?_)
    · skip
      refine x_aload_n h dX10_counterexample_18 rfl 0 rfl (q := 19) rfl ?_
      refine x_iload_n h dX10_counterexample_19 rfl 1 rfl (q := 20) rfl ?_
      obtain ⟨u5, hu5, hf6⟩ := bnd_inv hf4
      refine x_callVi (As := [.int x1]) (rest := []) h hg (c_X10_whole C.2.1 hg.2.1 σ x1 _ hu5) ml_X10_245 biX10_whole rfl rfl hdX10_whole ⟨Nat.le_of_ble_eq_true rfl, Nat.le_of_ble_eq_true rfl⟩ (by decide) (cE_87 g _) rfl rfl rfl (Nat.le_of_ble_eq_true rfl) dX10_counterexample_20 ?_
      refine x_istore_n (lv' := [(3, .int u5.1), (0, .ref (gA g 87)), (1, .int x1), (2, .int x2)]) h dX10_counterexample_23 rfl hL (by decide) rfl (q := 24) rfl ?_
      refine x_iload_n h dX10_counterexample_24 rfl 0 rfl (q := 25) rfl ?_
      refine x_aload_n h dX10_counterexample_25 rfl 1 rfl (q := 26) rfl ?_
      refine x_iload_n h dX10_counterexample_26 rfl 3 rfl (q := 27) rfl ?_
      obtain ⟨u7, hu7, hf8⟩ := bnd_inv hf6
      refine x_callVi (As := [.int x2]) (rest := [.int u5.1]) h hg (c_X10_whole C.2.1 hg.2.1 u5.2 x2 _ hu7) ml_X10_245 biX10_whole rfl rfl hdX10_whole ⟨Nat.le_of_ble_eq_true rfl, Nat.le_of_ble_eq_true rfl⟩ (by decide) (cE_87 g _) rfl rfl rfl (Nat.le_of_ble_eq_true rfl) dX10_counterexample_27 ?_
      refine x_iconst (v := (-1)) h dX10_counterexample_30 (by decide) (q := 31) rfl ?_
      refine x_ixor h dX10_counterexample_31 (q := 32) rfl ?_
      refine x_iand h dX10_counterexample_32 (q := 33) rfl ?_
      refine x_istore_n (lv' := [(3, .int (u5.1 &&& (u7.1 ^^^ (-1)))), (0, .ref (gA g 87)), (1, .int x1), (2, .int x2)]) h dX10_counterexample_33 rfl hL (by decide) rfl (q := 34) rfl ?_
      refine x_iconst (v := 0) h dX10_counterexample_34 (by decide) (q := 35) rfl ?_
      refine x_istore (lv' := [(4, .int 0), (3, .int (u5.1 &&& (u7.1 ^^^ (-1)))), (0, .ref (gA g 87)), (1, .int x1), (2, .int x2)]) h dX10_counterexample_35 hL (by decide) rfl (q := 37) rfl ?_
      refine x_sub (lv' := [(0, .ref (gA g 87)), (3, .int (u5.1 &&& (u7.1 ^^^ (-1)))), (4, .int 0)]) [2, 1, 0] rfl ?_
      exact w_X10_counterexample_l37 u7.2 (u5.1 &&& (u7.1 ^^^ (-1))) o h hg hL hr  cFu 0 hf8
    · skip
      refine x_iconst (v := (-1)) h dX10_counterexample_16 (by decide) (q := 17) rfl ?_
      have hz := Option.some.inj hf4
      subst hz
      exact x_iret h hg hr dX10_counterexample_17
theorem c_X10_counterexample (l : Launch) {g : cG} (hi : gInj g) (σ : St) (x1 : Int32) (x2 : Int32) (o : Int32 × St) (hf : m_X10_counterexample σ x1 x2 = some o) : Met l yX10_counterexample (wT yX10_counterexample cX10_counterexample 5 (some .int)) rmX10_counterexample (va_Pc [.ref (gA g 87), .int x1, .int x2] (XPre g σ)) (XQ g (some (.int o.1)) o.2) 0 0 (cA g) :=
  X_met RX10 hi plX10 rfl (Nat.le_of_ble_eq_true rfl) rfl (fun _ _ _ h hg hL hr => w_X10_counterexample σ x1 x2 o h hg hL hr hf)
abbrev rmX10_top : Room := { frames := 0, cells := 0, slots := 0, locals := 0 }
theorem hdX10_top : yX10_top.cls = RX10 ∧ yX10_top.cls ≠ "java/lang/invoke/MethodHandle" ∧ yX10_top.cls ≠ "java/lang/invoke/VarHandle" ∧ (parseMethodDescriptor yX10_top.desc).map (fun d => d.parameters.length) = some 1 := by decide +kernel
def m_X10_top (σ : St) (x1 : Int32) : Option (Int32) :=
  chk x1 9 <|
  some (((60 * x1) + (σ 97 (Int32.toNatClampNeg x1))) - 1)
set_option maxHeartbeats 4000000 in
set_option maxRecDepth 100000 in
theorem w_X10_top {C : XC} {Q : State → Prop} {g : cG} (σ : St) (x1 : Int32) (o : Int32) (h : XOk C cX10_top RX10 tG rmX10_top) (hg : XG C g) (hL : C.2.2.2.2.2.2.2.2.2.2.2.2.1 = 2) (hr : XEnd C (some .int) Q (XQ g (some (.int o)) σ) (cA g)) (hf : m_X10_top σ x1 = some o) : Xs C (wW g) Q σ 0 [(0, .ref (gA g 87)), (1, .int x1)] [] := by
  unfold m_X10_top at hf
  refine x_bipush (v := 60) h dX10_top_0 (by decide) (q := 2) rfl ?_
  refine x_iload_n h dX10_top_2 rfl 1 rfl (q := 3) rfl ?_
  refine x_imul h dX10_top_3 (q := 4) rfl ?_
  refine x_aload_n h dX10_top_4 rfl 0 rfl (q := 5) rfl ?_
  refine x_get_X10_87_13 h hg kf_X10_37 nn_X10 dX10_top_5 ?_
  refine x_iload_n h dX10_top_8 rfl 1 rfl (q := 9) rfl ?_
  obtain ⟨hi1, hf2⟩ := chk_inv hf
  refine x_iald (j := (Int32.toNatClampNeg x1)) h hg a_97 hi1 rfl dX10_top_9 (q := 10) rfl ?_
  refine x_iadd h dX10_top_10 (q := 11) rfl ?_
  refine x_iconst (v := 1) h dX10_top_11 (by decide) (q := 12) rfl ?_
  refine x_isub h dX10_top_12 (q := 13) rfl ?_
  have hz := Option.some.inj hf2
  subst hz
  exact x_iret h hg hr dX10_top_13
theorem c_X10_top (l : Launch) {g : cG} (hi : gInj g) (σ : St) (x1 : Int32) (o : Int32) (hf : m_X10_top σ x1 = some o) : Met l yX10_top (wT yX10_top cX10_top 2 (some .int)) rmX10_top (va_Pc [.ref (gA g 87), .int x1] (XPre g σ)) (XQ g (some (.int o)) σ) 0 0 (cA g) :=
  X_met RX10 hi plX10 rfl (Nat.le_of_ble_eq_true rfl) rfl (fun _ _ _ h hg hL hr => w_X10_top σ x1 o h hg hL hr hf)
abbrev rmX10_isGoal : Room := { frames := 1, cells := 0, slots := 0, locals := 22 }
theorem hdX10_isGoal : yX10_isGoal.cls = RX10 ∧ yX10_isGoal.cls ≠ "java/lang/invoke/MethodHandle" ∧ yX10_isGoal.cls ≠ "java/lang/invoke/VarHandle" ∧ (parseMethodDescriptor yX10_isGoal.desc).map (fun d => d.parameters.length) = some 1 := by decide +kernel
def m_X10_isGoal (σ : St) (x1 : Int32) : Option (Bool) :=
  (m_X10_top σ x1).bind fun u1 =>
  chk u1 540 <|
  some (m_X10_in (σ 93 (Int32.toNatClampNeg u1)) 6 9)
set_option maxHeartbeats 4000000 in
set_option maxRecDepth 100000 in
theorem w_X10_isGoal {C : XC} {Q : State → Prop} {g : cG} (σ : St) (x1 : Int32) (o : Bool) (h : XOk C cX10_isGoal RX10 tG rmX10_isGoal) (hg : XG C g) (hL : C.2.2.2.2.2.2.2.2.2.2.2.2.1 = 2) (hr : XEnd C (some .boolean) Q (XQ g (some (.int (bI o))) σ) (cA g)) (hf : m_X10_isGoal σ x1 = some o) : Xs C (wW g) Q σ 0 [(0, .ref (gA g 87)), (1, .int x1)] [] := by
  unfold m_X10_isGoal at hf
  refine x_aload_n h dX10_isGoal_0 rfl 0 rfl (q := 1) rfl ?_
  refine x_get_X10_87_9 h hg kf_X10_25 nn_X10 dX10_isGoal_1 ?_
  refine x_aload_n h dX10_isGoal_4 rfl 0 rfl (q := 5) rfl ?_
  refine x_iload_n h dX10_isGoal_5 rfl 1 rfl (q := 6) rfl ?_
  obtain ⟨u1, hu1, hf2⟩ := bnd_inv hf
  refine x_callVi (As := [.int x1]) (rest := [.ref (gA g 93)]) h hg (c_X10_top C.2.1 hg.2.1 σ x1 _ hu1) ml_X10_248 biX10_top rfl rfl hdX10_top ⟨Nat.le_of_ble_eq_true rfl, Nat.le_of_ble_eq_true rfl⟩ (by decide) (cE_87 g _) rfl rfl rfl (Nat.le_of_ble_eq_true rfl) dX10_isGoal_6 ?_
  obtain ⟨hi3, hf4⟩ := chk_inv hf2
  refine x_iald (j := (Int32.toNatClampNeg u1)) h hg a_93 hi3 rfl dX10_isGoal_9 (q := 10) rfl ?_
  refine x_bipush (v := 6) h dX10_isGoal_10 (by decide) (q := 12) rfl ?_
  refine x_bipush (v := 9) h dX10_isGoal_12 (by decide) (q := 14) rfl ?_
  refine x_callPi (As := [.int (σ 93 (Int32.toNatClampNeg u1)), .int 6, .int 9]) (rest := []) h (c_X10_in C.2.1 (σ 93 (Int32.toNatClampNeg u1)) 6 9 _ rfl) ml_X10_93 biX10_in rfl rfl hdX10_in ⟨Nat.le_of_ble_eq_true rfl, Nat.le_of_ble_eq_true rfl⟩ rfl rfl (Nat.le_of_ble_eq_true rfl) dX10_isGoal_14 ?_
  have hz := Option.some.inj hf4
  subst hz
  exact x_zret (b := (m_X10_in (σ 93 (Int32.toNatClampNeg u1)) 6 9)) h hg hr dX10_isGoal_17
theorem c_X10_isGoal (l : Launch) {g : cG} (hi : gInj g) (σ : St) (x1 : Int32) (o : Bool) (hf : m_X10_isGoal σ x1 = some o) : Met l yX10_isGoal (wT yX10_isGoal cX10_isGoal 2 (some .boolean)) rmX10_isGoal (va_Pc [.ref (gA g 87), .int x1] (XPre g σ)) (XQ g (some (.int (bI o))) σ) 0 0 (cA g) :=
  X_met RX10 hi plX10 rfl (Nat.le_of_ble_eq_true rfl) rfl (fun _ _ _ h hg hL hr => w_X10_isGoal σ x1 o h hg hL hr hf)
abbrev rmX10_operand : Room := { frames := 1, cells := 0, slots := 0, locals := 21 }
theorem hdX10_operand : yX10_operand.cls = RX10 ∧ yX10_operand.cls ≠ "java/lang/invoke/MethodHandle" ∧ yX10_operand.cls ≠ "java/lang/invoke/VarHandle" ∧ (parseMethodDescriptor yX10_operand.desc).map (fun d => d.parameters.length) = some 2 := by decide +kernel
def m_X10_operand_b29 (σ : St) (s0 : Int32) : Option (Int32) :=
  chk s0 60 <|
  some (σ 108 (Int32.toNatClampNeg s0))
set_option maxHeartbeats 4000000 in
set_option maxRecDepth 100000 in
theorem w_X10_operand_b29 {C : XC} {Q : State → Prop} {g : cG} (σ : St) (s0 : Int32) (o : Int32) (h : XOk C cX10_operand RX10 tG rmX10_operand) (hg : XG C g) (hL : C.2.2.2.2.2.2.2.2.2.2.2.2.1 = 4) (hr : XEnd C (some .int) Q (XQ g (some (.int o)) σ) (cA g)) (hf : m_X10_operand_b29 σ s0  = some o) : Xs C (wW g) Q σ 29 [] [.int s0, .ref (gA g 108)] := by
  unfold m_X10_operand_b29 at hf
  obtain ⟨hi1, hf2⟩ := chk_inv hf
  refine x_iald (j := (Int32.toNatClampNeg s0)) h hg a_108 hi1 rfl dX10_operand_29 (q := 30) rfl ?_
  have hz := Option.some.inj hf2
  subst hz
  exact x_iret h hg hr dX10_operand_30
def m_X10_operand (σ : St) (x1 : Int32) (x2 : Int32) : Option (Int32) :=
  (m_X10_top σ x1).bind fun u1 =>
  if x2 = 0 then (
    chk u1 540 <|
    m_X10_operand_b29 σ (σ 94 (Int32.toNatClampNeg u1))
  ) else (
    chk u1 540 <|
    m_X10_operand_b29 σ (σ 95 (Int32.toNatClampNeg u1))
  )
set_option maxHeartbeats 4000000 in
set_option maxRecDepth 100000 in
theorem w_X10_operand {C : XC} {Q : State → Prop} {g : cG} (σ : St) (x1 : Int32) (x2 : Int32) (o : Int32) (h : XOk C cX10_operand RX10 tG rmX10_operand) (hg : XG C g) (hL : C.2.2.2.2.2.2.2.2.2.2.2.2.1 = 4) (hr : XEnd C (some .int) Q (XQ g (some (.int o)) σ) (cA g)) (hf : m_X10_operand σ x1 x2 = some o) : Xs C (wW g) Q σ 0 [(0, .ref (gA g 87)), (1, .int x1), (2, .int x2)] [] := by
  unfold m_X10_operand at hf
  refine x_aload_n h dX10_operand_0 rfl 0 rfl (q := 1) rfl ?_
  refine x_iload_n h dX10_operand_1 rfl 1 rfl (q := 2) rfl ?_
  obtain ⟨u1, hu1, hf2⟩ := bnd_inv hf
  refine x_callVi (As := [.int x1]) (rest := []) h hg (c_X10_top C.2.1 hg.2.1 σ x1 _ hu1) ml_X10_248 biX10_top rfl rfl hdX10_top ⟨Nat.le_of_ble_eq_true rfl, Nat.le_of_ble_eq_true rfl⟩ (by decide) (cE_87 g _) rfl rfl rfl (Nat.le_of_ble_eq_true rfl) dX10_operand_2 ?_
  refine x_istore_n (lv' := [(3, .int u1), (0, .ref (gA g 87)), (1, .int x1), (2, .int x2)]) h dX10_operand_5 rfl hL (by decide) rfl (q := 6) rfl ?_
  refine x_aload_n h dX10_operand_6 rfl 1 rfl (q := 7) rfl ?_
  refine x_get_X10_87_31 h hg kf_X10_70 nn_X10 dX10_operand_7 ?_
  refine x_iload_n h dX10_operand_10 rfl 3 rfl (q := 11) rfl ?_
  refine x_if_eq (tgt := 23) h dX10_operand_11 (by decide) (q := 14) rfl hf2 (fun hc3 hf4 => ?_) (fun hc3 hf4 => ?_)
  · skip
    refine x_aload_n h dX10_operand_23 rfl 1 rfl (q := 24) rfl ?_
    refine x_get_X10_87_10 h hg kf_X10_28 nn_X10 dX10_operand_24 ?_
    refine x_iload_n h dX10_operand_27 rfl 0 rfl (q := 28) rfl ?_
    obtain ⟨hi5, hf6⟩ := chk_inv hf4
    refine x_iald (j := (Int32.toNatClampNeg u1)) h hg a_94 hi5 rfl dX10_operand_28 (q := 29) rfl ?_
    refine x_sub (lv' := []) [] rfl ?_
    exact w_X10_operand_b29 σ (σ 94 (Int32.toNatClampNeg u1)) o h hg hL hr hf6
  · skip
    refine x_aload_n h dX10_operand_14 rfl 1 rfl (q := 15) rfl ?_
    refine x_get_X10_87_11 h hg kf_X10_31 nn_X10 dX10_operand_15 ?_
    refine x_iload_n h dX10_operand_18 rfl 0 rfl (q := 19) rfl ?_
    obtain ⟨hi7, hf8⟩ := chk_inv hf4
    refine x_iald (j := (Int32.toNatClampNeg u1)) h hg a_95 hi7 rfl dX10_operand_19 (q := 20) rfl ?_
    refine x_goto (q := 29) h dX10_operand_20 (by decide) ?_
    refine x_sub (lv' := []) [] rfl ?_
    exact w_X10_operand_b29 σ (σ 95 (Int32.toNatClampNeg u1)) o h hg hL hr hf8
theorem c_X10_operand (l : Launch) {g : cG} (hi : gInj g) (σ : St) (x1 : Int32) (x2 : Int32) (o : Int32) (hf : m_X10_operand σ x1 x2 = some o) : Met l yX10_operand (wT yX10_operand cX10_operand 4 (some .int)) rmX10_operand (va_Pc [.ref (gA g 87), .int x1, .int x2] (XPre g σ)) (XQ g (some (.int o)) σ) 0 0 (cA g) :=
  X_met RX10 hi plX10 rfl (Nat.le_of_ble_eq_true rfl) rfl (fun _ _ _ h hg hL hr => w_X10_operand σ x1 x2 o h hg hL hr hf)
abbrev rmX10_ranksOf : Room := { frames := 12, cells := 0, slots := 0, locals := 281 }
theorem hdX10_ranksOf : yX10_ranksOf.cls = RX10 ∧ yX10_ranksOf.cls ≠ "java/lang/invoke/MethodHandle" ∧ yX10_ranksOf.cls ≠ "java/lang/invoke/VarHandle" ∧ (parseMethodDescriptor yX10_ranksOf.desc).map (fun d => d.parameters.length) = some 1 := by decide +kernel
def m_X10_ranksOf_b54 (σ : St) (x1 : Int32) (x2 : Int32) (s0 : Int32) (s1 : Int32) : Option (St) :=
  (m_X10_operand σ x1 x2).bind fun u1 =>
  (m_X10_reaches σ s1 s0 u1).bind fun u3 =>
  some u3.2
set_option maxHeartbeats 4000000 in
set_option maxRecDepth 100000 in
theorem w_X10_ranksOf_b54 {C : XC} {Q : State → Prop} {g : cG} (σ : St) (x1 : Int32) (x2 : Int32) (s0 : Int32) (s1 : Int32) (o : St) (h : XOk C cX10_ranksOf RX10 tG rmX10_ranksOf) (hg : XG C g) (hL : C.2.2.2.2.2.2.2.2.2.2.2.2.1 = 4) (hr : XEnd C none Q (XQ g (none) o) (cA g)) (hf : m_X10_ranksOf_b54 σ x1 x2 s0 s1  = some o) : Xs C (wW g) Q σ 54 [(0, .ref (gA g 87)), (1, .int x1), (2, .int x2)] [.int s0, .int s1, .ref (gA g 87)] := by
  unfold m_X10_ranksOf_b54 at hf
  refine x_aload_n h dX10_ranksOf_54 rfl 0 rfl (q := 55) rfl ?_
  refine x_iload_n h dX10_ranksOf_55 rfl 1 rfl (q := 56) rfl ?_
  refine x_iload_n h dX10_ranksOf_56 rfl 2 rfl (q := 57) rfl ?_
  obtain ⟨u1, hu1, hf2⟩ := bnd_inv hf
  refine x_callVi (As := [.int x1, .int x2]) (rest := [.int s0, .int s1, .ref (gA g 87)]) h hg (c_X10_operand C.2.1 hg.2.1 σ x1 x2 _ hu1) ml_X10_251 biX10_operand rfl rfl hdX10_operand ⟨Nat.le_of_ble_eq_true rfl, Nat.le_of_ble_eq_true rfl⟩ (by decide) (cE_87 g _) rfl rfl rfl (Nat.le_of_ble_eq_true rfl) dX10_ranksOf_57 ?_
  obtain ⟨u3, hu3, hf4⟩ := bnd_inv hf2
  refine x_callVi (As := [.int s1, .int s0, .int u1]) (rest := []) h hg (c_X10_reaches C.2.1 hg.2.1 σ s1 s0 u1 _ hu3) ml_X10_224 biX10_reaches rfl rfl hdX10_reaches ⟨Nat.le_of_ble_eq_true rfl, Nat.le_of_ble_eq_true rfl⟩ (by decide) (cE_87 g _) rfl rfl rfl (Nat.le_of_ble_eq_true rfl) dX10_ranksOf_60 ?_
  refine x_istore_n (lv' := [(3, .int u3.1), (0, .ref (gA g 87)), (1, .int x1), (2, .int x2)]) h dX10_ranksOf_63 rfl hL (by decide) rfl (q := 64) rfl ?_
  have hz := Option.some.inj hf4
  subst hz
  exact x_vret h hg hr dX10_ranksOf_64
def m_X10_ranksOf_b25 (σ : St) (x1 : Int32) (s0 : Int32) : Option (St) :=
  (m_X10_top σ x1).bind fun u1 =>
  chk u1 540 <|
  if s0 = 0 then (
    (m_X10_all σ).bind fun u7 =>
    m_X10_ranksOf_b54 σ x1 s0 u7 (σ 96 (Int32.toNatClampNeg u1))
  ) else (
    (m_X10_operand σ x1 0).bind fun u9 =>
    m_X10_ranksOf_b54 σ x1 s0 u9 (σ 96 (Int32.toNatClampNeg u1))
  )
set_option maxHeartbeats 4000000 in
set_option maxRecDepth 100000 in
theorem w_X10_ranksOf_b25 {C : XC} {Q : State → Prop} {g : cG} (σ : St) (x1 : Int32) (s0 : Int32) (o : St) (h : XOk C cX10_ranksOf RX10 tG rmX10_ranksOf) (hg : XG C g) (hL : C.2.2.2.2.2.2.2.2.2.2.2.2.1 = 4) (hr : XEnd C none Q (XQ g (none) o) (cA g)) (hf : m_X10_ranksOf_b25 σ x1 s0  = some o) : Xs C (wW g) Q σ 25 [(0, .ref (gA g 87)), (1, .int x1)] [.int s0] := by
  unfold m_X10_ranksOf_b25 at hf
  refine x_istore_n (lv' := [(2, .int s0), (0, .ref (gA g 87)), (1, .int x1)]) h dX10_ranksOf_25 rfl hL (by decide) rfl (q := 26) rfl ?_
  refine x_aload_n h dX10_ranksOf_26 rfl 1 rfl (q := 27) rfl ?_
  refine x_aload_n h dX10_ranksOf_27 rfl 1 rfl (q := 28) rfl ?_
  refine x_get_X10_87_12 h hg kf_X10_34 nn_X10 dX10_ranksOf_28 ?_
  refine x_aload_n h dX10_ranksOf_31 rfl 1 rfl (q := 32) rfl ?_
  refine x_iload_n h dX10_ranksOf_32 rfl 2 rfl (q := 33) rfl ?_
  obtain ⟨u1, hu1, hf2⟩ := bnd_inv hf
  refine x_callVi (As := [.int x1]) (rest := [.ref (gA g 96), .ref (gA g 87)]) h hg (c_X10_top C.2.1 hg.2.1 σ x1 _ hu1) ml_X10_248 biX10_top rfl rfl hdX10_top ⟨Nat.le_of_ble_eq_true rfl, Nat.le_of_ble_eq_true rfl⟩ (by decide) (cE_87 g _) rfl rfl rfl (Nat.le_of_ble_eq_true rfl) dX10_ranksOf_33 ?_
  obtain ⟨hi3, hf4⟩ := chk_inv hf2
  refine x_iald (j := (Int32.toNatClampNeg u1)) h hg a_96 hi3 rfl dX10_ranksOf_36 (q := 37) rfl ?_
  refine x_iload_n h dX10_ranksOf_37 rfl 0 rfl (q := 38) rfl ?_
  refine x_if_eq (tgt := 50) h dX10_ranksOf_38 (by decide) (q := 41) rfl hf4 (fun hc5 hf6 => ?_) (fun hc5 hf6 => ?_)
  · skip
    refine x_aload_n h dX10_ranksOf_50 rfl 1 rfl (q := 51) rfl ?_
    obtain ⟨u7, hu7, hf8⟩ := bnd_inv hf6
    refine x_callVi (As := []) (rest := [.int (σ 96 (Int32.toNatClampNeg u1)), .ref (gA g 87)]) h hg (c_X10_all C.2.1 hg.2.1 σ _ hu7) ml_X10_221 biX10_all rfl rfl hdX10_all ⟨Nat.le_of_ble_eq_true rfl, Nat.le_of_ble_eq_true rfl⟩ (by decide) (cE_87 g _) rfl rfl rfl (Nat.le_of_ble_eq_true rfl) dX10_ranksOf_51 ?_
    refine x_sub (lv' := [(0, .ref (gA g 87)), (1, .int x1), (2, .int s0)]) [1, 2, 0] rfl ?_
    exact w_X10_ranksOf_b54 σ x1 s0 u7 (σ 96 (Int32.toNatClampNeg u1)) o h hg hL hr hf8
  · skip
    refine x_aload_n h dX10_ranksOf_41 rfl 1 rfl (q := 42) rfl ?_
    refine x_iload_n h dX10_ranksOf_42 rfl 2 rfl (q := 43) rfl ?_
    refine x_iconst (v := 0) h dX10_ranksOf_43 (by decide) (q := 44) rfl ?_
    obtain ⟨u9, hu9, hf10⟩ := bnd_inv hf6
    refine x_callVi (As := [.int x1, .int 0]) (rest := [.int (σ 96 (Int32.toNatClampNeg u1)), .ref (gA g 87)]) h hg (c_X10_operand C.2.1 hg.2.1 σ x1 0 _ hu9) ml_X10_251 biX10_operand rfl rfl hdX10_operand ⟨Nat.le_of_ble_eq_true rfl, Nat.le_of_ble_eq_true rfl⟩ (by decide) (cE_87 g _) rfl rfl rfl (Nat.le_of_ble_eq_true rfl) dX10_ranksOf_44 ?_
    refine x_goto (q := 54) h dX10_ranksOf_47 (by decide) ?_
    refine x_sub (lv' := [(0, .ref (gA g 87)), (1, .int x1), (2, .int s0)]) [1, 2, 0] rfl ?_
    exact w_X10_ranksOf_b54 σ x1 s0 u9 (σ 96 (Int32.toNatClampNeg u1)) o h hg hL hr hf10
def m_X10_ranksOf (σ : St) (x1 : Int32) : Option (St) :=
  (m_X10_works σ x1).bind fun u1 =>
  (m_X10_top u1 x1).bind fun u3 =>
  chk u3 540 <|
  if (u1 93 (Int32.toNatClampNeg u3)) = 9 then (
    m_X10_ranksOf_b25 u1 x1 1
  ) else (
    m_X10_ranksOf_b25 u1 x1 0
  )
set_option maxHeartbeats 4000000 in
set_option maxRecDepth 100000 in
theorem w_X10_ranksOf {C : XC} {Q : State → Prop} {g : cG} (σ : St) (x1 : Int32) (o : St) (h : XOk C cX10_ranksOf RX10 tG rmX10_ranksOf) (hg : XG C g) (hL : C.2.2.2.2.2.2.2.2.2.2.2.2.1 = 4) (hr : XEnd C none Q (XQ g (none) o) (cA g)) (hf : m_X10_ranksOf σ x1 = some o) : Xs C (wW g) Q σ 0 [(0, .ref (gA g 87)), (1, .int x1)] [] := by
  unfold m_X10_ranksOf at hf
  refine x_aload_n h dX10_ranksOf_0 rfl 0 rfl (q := 1) rfl ?_
  refine x_iload_n h dX10_ranksOf_1 rfl 1 rfl (q := 2) rfl ?_
  obtain ⟨u1, hu1, hf2⟩ := bnd_inv hf
  refine x_callVv (As := [.int x1]) (rest := []) h hg (c_X10_works C.2.1 hg.2.1 σ x1 _ hu1) ml_X10_242 biX10_works rfl rfl hdX10_works ⟨Nat.le_of_ble_eq_true rfl, Nat.le_of_ble_eq_true rfl⟩ (by decide) (cE_87 g _) rfl rfl rfl (Nat.le_of_ble_eq_true rfl) dX10_ranksOf_2 ?_
  refine x_aload_n h dX10_ranksOf_5 rfl 0 rfl (q := 6) rfl ?_
  refine x_get_X10_87_9 h hg kf_X10_25 nn_X10 dX10_ranksOf_6 ?_
  refine x_aload_n h dX10_ranksOf_9 rfl 0 rfl (q := 10) rfl ?_
  refine x_iload_n h dX10_ranksOf_10 rfl 1 rfl (q := 11) rfl ?_
  obtain ⟨u3, hu3, hf4⟩ := bnd_inv hf2
  refine x_callVi (As := [.int x1]) (rest := [.ref (gA g 93)]) h hg (c_X10_top C.2.1 hg.2.1 u1 x1 _ hu3) ml_X10_248 biX10_top rfl rfl hdX10_top ⟨Nat.le_of_ble_eq_true rfl, Nat.le_of_ble_eq_true rfl⟩ (by decide) (cE_87 g _) rfl rfl rfl (Nat.le_of_ble_eq_true rfl) dX10_ranksOf_11 ?_
  obtain ⟨hi5, hf6⟩ := chk_inv hf4
  refine x_iald (j := (Int32.toNatClampNeg u3)) h hg a_93 hi5 rfl dX10_ranksOf_14 (q := 15) rfl ?_
  refine x_bipush (v := 9) h dX10_ranksOf_15 (by decide) (q := 17) rfl ?_
  refine x_icmp_ne (tgt := 24) h dX10_ranksOf_17 (by decide) (q := 20) rfl hf6 (fun hc7 hf8 => ?_) (fun hc7 hf8 => ?_)
  · skip
    refine x_iconst (v := 0) h dX10_ranksOf_24 (by decide) (q := 25) rfl ?_
    exact w_X10_ranksOf_b25 u1 x1 0 o h hg hL hr hf8
  · skip
    refine x_iconst (v := 1) h dX10_ranksOf_20 (by decide) (q := 21) rfl ?_
    refine x_goto (q := 25) h dX10_ranksOf_21 (by decide) ?_
    exact w_X10_ranksOf_b25 u1 x1 1 o h hg hL hr hf8
theorem c_X10_ranksOf (l : Launch) {g : cG} (hi : gInj g) (σ : St) (x1 : Int32) (o : St) (hf : m_X10_ranksOf σ x1 = some o) : Met l yX10_ranksOf (wT yX10_ranksOf cX10_ranksOf 4 none) rmX10_ranksOf (va_Pc [.ref (gA g 87), .int x1] (XPre g σ)) (XQ g (none) o) 0 0 (cA g) :=
  X_met RX10 hi plX10 rfl (Nat.le_of_ble_eq_true rfl) rfl (fun _ _ _ h hg hL hr => w_X10_ranksOf σ x1 o h hg hL hr hf)
abbrev rmX10_rank : Room := { frames := 13, cells := 0, slots := 0, locals := 304 }
theorem hdX10_rank : yX10_rank.cls = RX10 ∧ yX10_rank.cls ≠ "java/lang/invoke/MethodHandle" ∧ yX10_rank.cls ≠ "java/lang/invoke/VarHandle" ∧ (parseMethodDescriptor yX10_rank.desc).map (fun d => d.parameters.length) = some 2 := by decide +kernel
def m_X10_rank_b51 (σ : St) (x1 : Int32) (x2 : Int32) : Option (Int32 × St) :=
  (m_X10_ranksOf σ x1).bind fun u1 =>
  chk x2 12 <|
  some ((u1 107 (Int32.toNatClampNeg x2)), u1)
set_option maxHeartbeats 4000000 in
set_option maxRecDepth 100000 in
theorem w_X10_rank_b51 {C : XC} {Q : State → Prop} {g : cG} (σ : St) (x1 : Int32) (x2 : Int32) (o : Int32 × St) (h : XOk C cX10_rank RX10 tG rmX10_rank) (hg : XG C g) (hL : C.2.2.2.2.2.2.2.2.2.2.2.2.1 = 3) (hr : XEnd C (some .int) Q (XQ g (some (.int o.1)) o.2) (cA g)) (hf : m_X10_rank_b51 σ x1 x2  = some o) : Xs C (wW g) Q σ 51 [(0, .ref (gA g 87)), (1, .int x1), (2, .int x2)] [] := by
  unfold m_X10_rank_b51 at hf
  refine x_aload_n h dX10_rank_51 rfl 0 rfl (q := 52) rfl ?_
  refine x_iload_n h dX10_rank_52 rfl 1 rfl (q := 53) rfl ?_
  obtain ⟨u1, hu1, hf2⟩ := bnd_inv hf
  refine x_callVv (As := [.int x1]) (rest := []) h hg (c_X10_ranksOf C.2.1 hg.2.1 σ x1 _ hu1) ml_X10_255 biX10_ranksOf rfl rfl hdX10_ranksOf ⟨Nat.le_of_ble_eq_true rfl, Nat.le_of_ble_eq_true rfl⟩ (by decide) (cE_87 g _) rfl rfl rfl (Nat.le_of_ble_eq_true rfl) dX10_rank_53 ?_
  refine x_aload_n h dX10_rank_56 rfl 0 rfl (q := 57) rfl ?_
  refine x_get_X10_87_30 h hg kf_X10_67 nn_X10 dX10_rank_57 ?_
  refine x_iload_n h dX10_rank_60 rfl 2 rfl (q := 61) rfl ?_
  obtain ⟨hi3, hf4⟩ := chk_inv hf2
  refine x_iald (j := (Int32.toNatClampNeg x2)) h hg a_107 hi3 rfl dX10_rank_61 (q := 62) rfl ?_
  have hz := Option.some.inj hf4
  subst hz
  exact x_iret h hg hr dX10_rank_62
def m_X10_rank (σ : St) (x1 : Int32) (x2 : Int32) : Option (Int32 × St) :=
  if (bI (m_X10_isFormula σ x1)) = 0 then (
    some ((-1), σ)
  ) else (
    (m_X10_isState σ x2).bind fun u3 =>
    if (bI u3) = 0 then (
      some ((-1), σ)
    ) else (
      (m_X10_top σ x1).bind fun u7 =>
      chk u7 540 <|
      if (σ 93 (Int32.toNatClampNeg u7)) = 7 then (
        m_X10_rank_b51 σ x1 x2
      ) else (
        (m_X10_top σ x1).bind fun u13 =>
        chk u13 540 <|
        if (σ 93 (Int32.toNatClampNeg u13)) = 9 then (
          m_X10_rank_b51 σ x1 x2
        ) else (
          some ((-3), σ)
        )
      )
    )
  )
set_option maxHeartbeats 4000000 in
set_option maxRecDepth 100000 in
theorem w_X10_rank {C : XC} {Q : State → Prop} {g : cG} (σ : St) (x1 : Int32) (x2 : Int32) (o : Int32 × St) (h : XOk C cX10_rank RX10 tG rmX10_rank) (hg : XG C g) (hL : C.2.2.2.2.2.2.2.2.2.2.2.2.1 = 3) (hr : XEnd C (some .int) Q (XQ g (some (.int o.1)) o.2) (cA g)) (hf : m_X10_rank σ x1 x2 = some o) : Xs C (wW g) Q σ 0 [(0, .ref (gA g 87)), (1, .int x1), (2, .int x2)] [] := by
  unfold m_X10_rank at hf
  refine x_aload_n h dX10_rank_0 rfl 0 rfl (q := 1) rfl ?_
  refine x_iload_n h dX10_rank_1 rfl 1 rfl (q := 2) rfl ?_
  refine x_callVi (As := [.int x1]) (rest := []) h hg (c_X10_isFormula C.2.1 hg.2.1 σ x1 _ rfl) ml_X10_203 biX10_isFormula rfl rfl hdX10_isFormula ⟨Nat.le_of_ble_eq_true rfl, Nat.le_of_ble_eq_true rfl⟩ (by decide) (cE_87 g _) rfl rfl rfl (Nat.le_of_ble_eq_true rfl) dX10_rank_2 ?_
  refine x_if_eq (tgt := 16) h dX10_rank_5 (by decide) (q := 8) rfl hf (fun hc1 hf2 => ?_) (fun hc1 hf2 => ?_)
  · skip
    refine x_iconst (v := (-1)) h dX10_rank_16 (by decide) (q := 17) rfl ?_
    have hz := Option.some.inj hf2
    subst hz
    exact x_iret h hg hr dX10_rank_17
  · skip
    refine x_aload_n h dX10_rank_8 rfl 0 rfl (q := 9) rfl ?_
    refine x_iload_n h dX10_rank_9 rfl 2 rfl (q := 10) rfl ?_
    obtain ⟨u3, hu3, hf4⟩ := bnd_inv hf2
    refine x_callVi (As := [.int x2]) (rest := []) h hg (c_X10_isState C.2.1 hg.2.1 σ x2 _ hu3) ml_X10_129 biX10_isState rfl rfl hdX10_isState ⟨Nat.le_of_ble_eq_true rfl, Nat.le_of_ble_eq_true rfl⟩ (by decide) (cE_87 g _) rfl rfl rfl (Nat.le_of_ble_eq_true rfl) dX10_rank_10 ?_
    refine x_if_ne (tgt := 18) h dX10_rank_13 (by decide) (q := 16) rfl hf4 (fun hc5 hf6 => ?_) (fun hc5 hf6 => ?_)
    · skip
      refine x_aload_n h dX10_rank_18 rfl 0 rfl (q := 19) rfl ?_
      refine x_get_X10_87_9 h hg kf_X10_25 nn_X10 dX10_rank_19 ?_
      refine x_aload_n h dX10_rank_22 rfl 0 rfl (q := 23) rfl ?_
      refine x_iload_n h dX10_rank_23 rfl 1 rfl (q := 24) rfl ?_
      obtain ⟨u7, hu7, hf8⟩ := bnd_inv hf6
      refine x_callVi (As := [.int x1]) (rest := [.ref (gA g 93)]) h hg (c_X10_top C.2.1 hg.2.1 σ x1 _ hu7) ml_X10_248 biX10_top rfl rfl hdX10_top ⟨Nat.le_of_ble_eq_true rfl, Nat.le_of_ble_eq_true rfl⟩ (by decide) (cE_87 g _) rfl rfl rfl (Nat.le_of_ble_eq_true rfl) dX10_rank_24 ?_
      obtain ⟨hi9, hf10⟩ := chk_inv hf8
      refine x_iald (j := (Int32.toNatClampNeg u7)) h hg a_93 hi9 rfl dX10_rank_27 (q := 28) rfl ?_
      refine x_bipush (v := 7) h dX10_rank_28 (by decide) (q := 30) rfl ?_
      refine x_icmp_eq (tgt := 51) h dX10_rank_30 (by decide) (q := 33) rfl hf10 (fun hc11 hf12 => ?_) (fun hc11 hf12 => ?_)
      · skip
        exact w_X10_rank_b51 σ x1 x2 o h hg hL hr hf12
      · skip
        refine x_aload_n h dX10_rank_33 rfl 0 rfl (q := 34) rfl ?_
        refine x_get_X10_87_9 h hg kf_X10_25 nn_X10 dX10_rank_34 ?_
        refine x_aload_n h dX10_rank_37 rfl 0 rfl (q := 38) rfl ?_
        refine x_iload_n h dX10_rank_38 rfl 1 rfl (q := 39) rfl ?_
        obtain ⟨u13, hu13, hf14⟩ := bnd_inv hf12
        refine x_callVi (As := [.int x1]) (rest := [.ref (gA g 93)]) h hg (c_X10_top C.2.1 hg.2.1 σ x1 _ hu13) ml_X10_248 biX10_top rfl rfl hdX10_top ⟨Nat.le_of_ble_eq_true rfl, Nat.le_of_ble_eq_true rfl⟩ (by decide) (cE_87 g _) rfl rfl rfl (Nat.le_of_ble_eq_true rfl) dX10_rank_39 ?_
        obtain ⟨hi15, hf16⟩ := chk_inv hf14
        refine x_iald (j := (Int32.toNatClampNeg u13)) h hg a_93 hi15 rfl dX10_rank_42 (q := 43) rfl ?_
        refine x_bipush (v := 9) h dX10_rank_43 (by decide) (q := 45) rfl ?_
        refine x_icmp_eq (tgt := 51) h dX10_rank_45 (by decide) (q := 48) rfl hf16 (fun hc17 hf18 => ?_) (fun hc17 hf18 => ?_)
        · skip
          exact w_X10_rank_b51 σ x1 x2 o h hg hL hr hf18
        · skip
          refine x_bipush (v := (-3)) h dX10_rank_48 (by decide) (q := 50) rfl ?_
          have hz := Option.some.inj hf18
          subst hz
          exact x_iret h hg hr dX10_rank_50
    · skip
      refine x_iconst (v := (-1)) h dX10_rank_16 (by decide) (q := 17) rfl ?_
      have hz := Option.some.inj hf6
      subst hz
      exact x_iret h hg hr dX10_rank_17
theorem c_X10_rank (l : Launch) {g : cG} (hi : gInj g) (σ : St) (x1 : Int32) (x2 : Int32) (o : Int32 × St) (hf : m_X10_rank σ x1 x2 = some o) : Met l yX10_rank (wT yX10_rank cX10_rank 3 (some .int)) rmX10_rank (va_Pc [.ref (gA g 87), .int x1, .int x2] (XPre g σ)) (XQ g (some (.int o.1)) o.2) 0 0 (cA g) :=
  X_met RX10 hi plX10 rfl (Nat.le_of_ble_eq_true rfl) rfl (fun _ _ _ h hg hL hr => w_X10_rank σ x1 x2 o h hg hL hr hf)
abbrev rmX10_levelBelow : Room := { frames := 0, cells := 0, slots := 0, locals := 0 }
theorem hdX10_levelBelow : yX10_levelBelow.cls = RX10 ∧ yX10_levelBelow.cls ≠ "java/lang/invoke/MethodHandle" ∧ yX10_levelBelow.cls ≠ "java/lang/invoke/VarHandle" ∧ (parseMethodDescriptor yX10_levelBelow.desc).map (fun d => d.parameters.length) = some 1 := by decide +kernel
def m_X10_levelBelow_b4 (σ : St) (x1 : Int32) (x2 : Int32) (x3 : Int32) (k4 : (Int32 × Int32) → Option (Int32)) : Option (Int32) :=
  chk 1200 1201 <|
  if (σ 88 1200) ≤ x3 then (
    some x2
  ) else (
    chk x3 12 <|
    if (σ 107 (Int32.toNatClampNeg x3)) = (-9) then (
      k4 ((x2 ||| 0), (x3 + 1))
    ) else (
      chk x3 12 <|
      if x1 ≤ (σ 107 (Int32.toNatClampNeg x3)) then (
        k4 ((x2 ||| 0), (x3 + 1))
      ) else (
        k4 ((x2 ||| ((1 : Int32) <<< (x3 &&& 31))), (x3 + 1))
      )
    )
  )
set_option maxHeartbeats 4000000 in
set_option maxRecDepth 100000 in
theorem w_X10_levelBelow_b4 {C : XC} {Q : State → Prop} {g : cG} (σ : St) (x1 : Int32) (x2 : Int32) (x3 : Int32) (o : Int32) (h : XOk C cX10_levelBelow RX10 tG rmX10_levelBelow) (hg : XG C g) (hL : C.2.2.2.2.2.2.2.2.2.2.2.2.1 = 4) (hr : XEnd C (some .int) Q (XQ g (some (.int o)) σ) (cA g)) (k4 : (Int32 × Int32) → Option (Int32)) (hk4 : ∀ z : Int32 × Int32, k4 z = some o → Xs C (wW g) Q σ 4 [(0, .ref (gA g 87)), (1, .int x1), (2, .int z.1), (3, .int z.2)] []) (hf : m_X10_levelBelow_b4 σ x1 x2 x3 k4 = some o) : Xs C (wW g) Q σ 4 [(0, .ref (gA g 87)), (1, .int x1), (2, .int x2), (3, .int x3)] [] := by
  unfold m_X10_levelBelow_b4 at hf
  refine x_iload_n h dX10_levelBelow_4 rfl 3 rfl (q := 5) rfl ?_
  refine x_aload_n h dX10_levelBelow_5 rfl 0 rfl (q := 6) rfl ?_
  refine x_get_X10_87_1 h hg kf_X10_7 nn_X10 dX10_levelBelow_6 ?_
  refine x_sipush (v := 1200) h dX10_levelBelow_9 (by decide) (q := 12) rfl ?_
  obtain ⟨hi1, hf2⟩ := chk_inv hf
  refine x_iald (j := 1200) h hg a_88 hi1 (by decide) dX10_levelBelow_12 (q := 13) rfl ?_
  refine x_icmp_ge (tgt := 53) h dX10_levelBelow_13 (by decide) (q := 16) rfl hf2 (fun hc3 hf4 => ?_) (fun hc3 hf4 => ?_)
  · skip
    refine x_iload_n h dX10_levelBelow_53 rfl 2 rfl (q := 54) rfl ?_
    have hz := Option.some.inj hf4
    subst hz
    exact x_iret h hg hr dX10_levelBelow_54
  · skip
    refine x_iload_n h dX10_levelBelow_16 rfl 2 rfl (q := 17) rfl ?_
    refine x_aload_n h dX10_levelBelow_17 rfl 0 rfl (q := 18) rfl ?_
    refine x_get_X10_87_30 h hg kf_X10_67 nn_X10 dX10_levelBelow_18 ?_
    refine x_iload_n h dX10_levelBelow_21 rfl 3 rfl (q := 22) rfl ?_
    obtain ⟨hi5, hf6⟩ := chk_inv hf4
    refine x_iald (j := (Int32.toNatClampNeg x3)) h hg a_107 hi5 rfl dX10_levelBelow_22 (q := 23) rfl ?_
    refine x_bipush (v := (-9)) h dX10_levelBelow_23 (by decide) (q := 25) rfl ?_
    refine x_icmp_eq (tgt := 44) h dX10_levelBelow_25 (by decide) (q := 28) rfl hf6 (fun hc7 hf8 => ?_) (fun hc7 hf8 => ?_)
    · skip
      refine x_iconst (v := 0) h dX10_levelBelow_44 (by decide) (q := 45) rfl ?_
      refine x_ior h dX10_levelBelow_45 (q := 46) rfl ?_
      refine x_istore_n (lv' := [(2, .int (x2 ||| 0)), (0, .ref (gA g 87)), (1, .int x1), (3, .int x3)]) h dX10_levelBelow_46 rfl hL (by decide) rfl (q := 47) rfl ?_
      refine x_iinc (v := (x3 + 1)) (lv' := [(3, .int (x3 + 1)), (2, .int (x2 ||| 0)), (0, .ref (gA g 87)), (1, .int x1)]) (j := 3) h dX10_levelBelow_47 rfl rfl hL (by decide) rfl (q := 50) rfl ?_
      refine x_goto (q := 4) h dX10_levelBelow_50 (by decide) ?_
      refine x_sub (lv' := [(0, .ref (gA g 87)), (1, .int x1), (2, .int (x2 ||| 0)), (3, .int (x3 + 1))]) [2, 3, 1, 0] rfl ?_
      exact hk4 ((x2 ||| 0), (x3 + 1)) hf8
    · skip
      refine x_aload_n h dX10_levelBelow_28 rfl 0 rfl (q := 29) rfl ?_
      refine x_get_X10_87_30 h hg kf_X10_67 nn_X10 dX10_levelBelow_29 ?_
      refine x_iload_n h dX10_levelBelow_32 rfl 3 rfl (q := 33) rfl ?_
      obtain ⟨hi9, hf10⟩ := chk_inv hf8
      refine x_iald (j := (Int32.toNatClampNeg x3)) h hg a_107 hi9 rfl dX10_levelBelow_33 (q := 34) rfl ?_
      refine x_iload_n h dX10_levelBelow_34 rfl 1 rfl (q := 35) rfl ?_
      refine x_icmp_ge (tgt := 44) h dX10_levelBelow_35 (by decide) (q := 38) rfl hf10 (fun hc11 hf12 => ?_) (fun hc11 hf12 => ?_)
      · skip
        refine x_iconst (v := 0) h dX10_levelBelow_44 (by decide) (q := 45) rfl ?_
        refine x_ior h dX10_levelBelow_45 (q := 46) rfl ?_
        refine x_istore_n (lv' := [(2, .int (x2 ||| 0)), (0, .ref (gA g 87)), (1, .int x1), (3, .int x3)]) h dX10_levelBelow_46 rfl hL (by decide) rfl (q := 47) rfl ?_
        refine x_iinc (v := (x3 + 1)) (lv' := [(3, .int (x3 + 1)), (2, .int (x2 ||| 0)), (0, .ref (gA g 87)), (1, .int x1)]) (j := 3) h dX10_levelBelow_47 rfl rfl hL (by decide) rfl (q := 50) rfl ?_
        refine x_goto (q := 4) h dX10_levelBelow_50 (by decide) ?_
        refine x_sub (lv' := [(0, .ref (gA g 87)), (1, .int x1), (2, .int (x2 ||| 0)), (3, .int (x3 + 1))]) [2, 3, 1, 0] rfl ?_
        exact hk4 ((x2 ||| 0), (x3 + 1)) hf12
      · skip
        refine x_iconst (v := 1) h dX10_levelBelow_38 (by decide) (q := 39) rfl ?_
        refine x_iload_n h dX10_levelBelow_39 rfl 3 rfl (q := 40) rfl ?_
        refine x_ishl h dX10_levelBelow_40 (q := 41) rfl ?_
        refine x_goto (q := 45) h dX10_levelBelow_41 (by decide) ?_
        refine x_ior h dX10_levelBelow_45 (q := 46) rfl ?_
        refine x_istore_n (lv' := [(2, .int (x2 ||| ((1 : Int32) <<< (x3 &&& 31)))), (0, .ref (gA g 87)), (1, .int x1), (3, .int x3)]) h dX10_levelBelow_46 rfl hL (by decide) rfl (q := 47) rfl ?_
        refine x_iinc (v := (x3 + 1)) (lv' := [(3, .int (x3 + 1)), (2, .int (x2 ||| ((1 : Int32) <<< (x3 &&& 31)))), (0, .ref (gA g 87)), (1, .int x1)]) (j := 3) h dX10_levelBelow_47 rfl rfl hL (by decide) rfl (q := 50) rfl ?_
        refine x_goto (q := 4) h dX10_levelBelow_50 (by decide) ?_
        refine x_sub (lv' := [(0, .ref (gA g 87)), (1, .int x1), (2, .int (x2 ||| ((1 : Int32) <<< (x3 &&& 31)))), (3, .int (x3 + 1))]) [2, 3, 1, 0] rfl ?_
        exact hk4 ((x2 ||| ((1 : Int32) <<< (x3 &&& 31))), (x3 + 1)) hf12
set_option maxHeartbeats 4000000 in
set_option maxRecDepth 100000 in
theorem w_X10_levelBelow_l4 {C : XC} {Q : State → Prop} {g : cG} (σ : St) (x1 : Int32) (o : Int32) (h : XOk C cX10_levelBelow RX10 tG rmX10_levelBelow) (hg : XG C g) (hL : C.2.2.2.2.2.2.2.2.2.2.2.2.1 = 4) (hr : XEnd C (some .int) Q (XQ g (some (.int o)) σ) (cA g)) : ∀ (n : Nat) (z : Int32 × Int32), loopF (fun k z => m_X10_levelBelow_b4 σ x1 z.1 z.2 k) n z = some o → Xs C (wW g) Q σ 4 [(0, .ref (gA g 87)), (1, .int x1), (2, .int z.1), (3, .int z.2)] [] := by
  intro n z hf
  refine loopF_ind (S := Int32 × Int32) (O := Int32) (step := (fun k z => m_X10_levelBelow_b4 σ x1 z.1 z.2 k)) (o := o) (P := fun z => Xs C (wW g) Q σ 4 [(0, .ref (gA g 87)), (1, .int x1), (2, .int z.1), (3, .int z.2)] []) ?_ n z hf
  intro k hk z hf
  exact w_X10_levelBelow_b4 σ x1 z.1 z.2 o h hg hL hr k hk hf
def m_X10_levelBelow (σ : St) (x1 : Int32) : Option (Int32) :=
  loopF (fun k z => m_X10_levelBelow_b4 σ x1 z.1 z.2 k) cFu (0, 0)
set_option maxHeartbeats 4000000 in
set_option maxRecDepth 100000 in
theorem w_X10_levelBelow {C : XC} {Q : State → Prop} {g : cG} (σ : St) (x1 : Int32) (o : Int32) (h : XOk C cX10_levelBelow RX10 tG rmX10_levelBelow) (hg : XG C g) (hL : C.2.2.2.2.2.2.2.2.2.2.2.2.1 = 4) (hr : XEnd C (some .int) Q (XQ g (some (.int o)) σ) (cA g)) (hf : m_X10_levelBelow σ x1 = some o) : Xs C (wW g) Q σ 0 [(0, .ref (gA g 87)), (1, .int x1)] [] := by
  unfold m_X10_levelBelow at hf
  refine x_iconst (v := 0) h dX10_levelBelow_0 (by decide) (q := 1) rfl ?_
  refine x_istore_n (lv' := [(2, .int 0), (0, .ref (gA g 87)), (1, .int x1)]) h dX10_levelBelow_1 rfl hL (by decide) rfl (q := 2) rfl ?_
  refine x_iconst (v := 0) h dX10_levelBelow_2 (by decide) (q := 3) rfl ?_
  refine x_istore_n (lv' := [(3, .int 0), (2, .int 0), (0, .ref (gA g 87)), (1, .int x1)]) h dX10_levelBelow_3 rfl hL (by decide) rfl (q := 4) rfl ?_
  refine x_sub (lv' := [(0, .ref (gA g 87)), (1, .int x1), (2, .int 0), (3, .int 0)]) [2, 3, 1, 0] rfl ?_
  exact w_X10_levelBelow_l4 σ x1 o h hg hL hr  cFu (0, 0) hf
theorem c_X10_levelBelow (l : Launch) {g : cG} (hi : gInj g) (σ : St) (x1 : Int32) (o : Int32) (hf : m_X10_levelBelow σ x1 = some o) : Met l yX10_levelBelow (wT yX10_levelBelow cX10_levelBelow 4 (some .int)) rmX10_levelBelow (va_Pc [.ref (gA g 87), .int x1] (XPre g σ)) (XQ g (some (.int o)) σ) 0 0 (cA g) :=
  X_met RX10 hi plX10 rfl (Nat.le_of_ble_eq_true rfl) rfl (fun _ _ _ h hg hL hr => w_X10_levelBelow σ x1 o h hg hL hr hf)
abbrev rmX10_strategyOf : Room := { frames := 13, cells := 0, slots := 0, locals := 304 }
theorem hdX10_strategyOf : yX10_strategyOf.cls = RX10 ∧ yX10_strategyOf.cls ≠ "java/lang/invoke/MethodHandle" ∧ yX10_strategyOf.cls ≠ "java/lang/invoke/VarHandle" ∧ (parseMethodDescriptor yX10_strategyOf.desc).map (fun d => d.parameters.length) = some 2 := by decide +kernel
def m_X10_strategyOf (σ : St) (x1 : Int32) (x2 : Int32) : Option (Int32 × St) :=
  (m_X10_top σ x1).bind fun u1 =>
  chk u1 540 <|
  (m_X10_top σ x1).bind fun u5 =>
  chk u5 540 <|
  (m_X10_works σ x1).bind fun u9 =>
  chk x1 9 <|
  chk ((u9 97 (Int32.toNatClampNeg x1)) - 1) 60 <|
  if (((u9 108 (Int32.toNatClampNeg ((u9 97 (Int32.toNatClampNeg x1)) - 1))) >>> (x2 &&& 31)) &&& 1) = 0 then (
    some (0, u9)
  ) else (
    if (σ 93 (Int32.toNatClampNeg u5)) = 6 then (
      (m_X10_operand u9 x1 0).bind fun u35 =>
      (m_X10_forcing u9 (σ 96 (Int32.toNatClampNeg u1)) x2 u35).bind fun u37 =>
      some (u37.1, u37.2)
    ) else (
      if (σ 93 (Int32.toNatClampNeg u5)) = 8 then (
        (m_X10_forcing u9 (σ 96 (Int32.toNatClampNeg u1)) x2 (u9 108 (Int32.toNatClampNeg ((u9 97 (Int32.toNatClampNeg x1)) - 1)))).bind fun u33 =>
        some (u33.1, u33.2)
      ) else (
        (m_X10_ranksOf u9 x1).bind fun u21 =>
        chk x2 12 <|
        if (u21 107 (Int32.toNatClampNeg x2)) = 0 then (
          some (0, u21)
        ) else (
          chk x2 12 <|
          (m_X10_levelBelow u21 (u21 107 (Int32.toNatClampNeg x2))).bind fun u29 =>
          (m_X10_forcing u21 (σ 96 (Int32.toNatClampNeg u1)) x2 u29).bind fun u31 =>
          some (u31.1, u31.2)
        )
      )
    )
  )
set_option maxHeartbeats 4000000 in
set_option maxRecDepth 100000 in
theorem w_X10_strategyOf {C : XC} {Q : State → Prop} {g : cG} (σ : St) (x1 : Int32) (x2 : Int32) (o : Int32 × St) (h : XOk C cX10_strategyOf RX10 tG rmX10_strategyOf) (hg : XG C g) (hL : C.2.2.2.2.2.2.2.2.2.2.2.2.1 = 6) (hr : XEnd C (some .int) Q (XQ g (some (.int o.1)) o.2) (cA g)) (hf : m_X10_strategyOf σ x1 x2 = some o) : Xs C (wW g) Q σ 0 [(0, .ref (gA g 87)), (1, .int x1), (2, .int x2)] [] := by
  unfold m_X10_strategyOf at hf
  refine x_aload_n h dX10_strategyOf_0 rfl 0 rfl (q := 1) rfl ?_
  refine x_get_X10_87_12 h hg kf_X10_34 nn_X10 dX10_strategyOf_1 ?_
  refine x_aload_n h dX10_strategyOf_4 rfl 0 rfl (q := 5) rfl ?_
  refine x_iload_n h dX10_strategyOf_5 rfl 1 rfl (q := 6) rfl ?_
  obtain ⟨u1, hu1, hf2⟩ := bnd_inv hf
  refine x_callVi (As := [.int x1]) (rest := [.ref (gA g 96)]) h hg (c_X10_top C.2.1 hg.2.1 σ x1 _ hu1) ml_X10_248 biX10_top rfl rfl hdX10_top ⟨Nat.le_of_ble_eq_true rfl, Nat.le_of_ble_eq_true rfl⟩ (by decide) (cE_87 g _) rfl rfl rfl (Nat.le_of_ble_eq_true rfl) dX10_strategyOf_6 ?_
  obtain ⟨hi3, hf4⟩ := chk_inv hf2
  refine x_iald (j := (Int32.toNatClampNeg u1)) h hg a_96 hi3 rfl dX10_strategyOf_9 (q := 10) rfl ?_
  refine x_istore_n (lv' := [(3, .int (σ 96 (Int32.toNatClampNeg u1))), (0, .ref (gA g 87)), (1, .int x1), (2, .int x2)]) h dX10_strategyOf_10 rfl hL (by decide) rfl (q := 11) rfl ?_
  refine x_aload_n h dX10_strategyOf_11 rfl 1 rfl (q := 12) rfl ?_
  refine x_get_X10_87_9 h hg kf_X10_25 nn_X10 dX10_strategyOf_12 ?_
  refine x_aload_n h dX10_strategyOf_15 rfl 1 rfl (q := 16) rfl ?_
  refine x_iload_n h dX10_strategyOf_16 rfl 2 rfl (q := 17) rfl ?_
  obtain ⟨u5, hu5, hf6⟩ := bnd_inv hf4
  refine x_callVi (As := [.int x1]) (rest := [.ref (gA g 93)]) h hg (c_X10_top C.2.1 hg.2.1 σ x1 _ hu5) ml_X10_248 biX10_top rfl rfl hdX10_top ⟨Nat.le_of_ble_eq_true rfl, Nat.le_of_ble_eq_true rfl⟩ (by decide) (cE_87 g _) rfl rfl rfl (Nat.le_of_ble_eq_true rfl) dX10_strategyOf_17 ?_
  obtain ⟨hi7, hf8⟩ := chk_inv hf6
  refine x_iald (j := (Int32.toNatClampNeg u5)) h hg a_93 hi7 rfl dX10_strategyOf_20 (q := 21) rfl ?_
  refine x_istore (lv' := [(4, .int (σ 93 (Int32.toNatClampNeg u5))), (3, .int (σ 96 (Int32.toNatClampNeg u1))), (0, .ref (gA g 87)), (1, .int x1), (2, .int x2)]) h dX10_strategyOf_21 hL (by decide) rfl (q := 23) rfl ?_
  refine x_aload_n h dX10_strategyOf_23 rfl 2 rfl (q := 24) rfl ?_
  refine x_iload_n h dX10_strategyOf_24 rfl 3 rfl (q := 25) rfl ?_
  obtain ⟨u9, hu9, hf10⟩ := bnd_inv hf8
  refine x_callVv (As := [.int x1]) (rest := []) h hg (c_X10_works C.2.1 hg.2.1 σ x1 _ hu9) ml_X10_242 biX10_works rfl rfl hdX10_works ⟨Nat.le_of_ble_eq_true rfl, Nat.le_of_ble_eq_true rfl⟩ (by decide) (cE_87 g _) rfl rfl rfl (Nat.le_of_ble_eq_true rfl) dX10_strategyOf_25 ?_
  refine x_aload_n h dX10_strategyOf_28 rfl 2 rfl (q := 29) rfl ?_
  refine x_get_X10_87_31 h hg kf_X10_70 nn_X10 dX10_strategyOf_29 ?_
  refine x_aload_n h dX10_strategyOf_32 rfl 2 rfl (q := 33) rfl ?_
  refine x_get_X10_87_13 h hg kf_X10_37 nn_X10 dX10_strategyOf_33 ?_
  refine x_iload_n h dX10_strategyOf_36 rfl 3 rfl (q := 37) rfl ?_
  obtain ⟨hi11, hf12⟩ := chk_inv hf10
  refine x_iald (j := (Int32.toNatClampNeg x1)) h hg a_97 hi11 rfl dX10_strategyOf_37 (q := 38) rfl ?_
  refine x_iconst (v := 1) h dX10_strategyOf_38 (by decide) (q := 39) rfl ?_
  refine x_isub h dX10_strategyOf_39 (q := 40) rfl ?_
  obtain ⟨hi13, hf14⟩ := chk_inv hf12
  refine x_iald (j := (Int32.toNatClampNeg ((u9 97 (Int32.toNatClampNeg x1)) - 1))) h hg a_108 hi13 rfl dX10_strategyOf_40 (q := 41) rfl ?_
  refine x_istore (lv' := [(5, .int (u9 108 (Int32.toNatClampNeg ((u9 97 (Int32.toNatClampNeg x1)) - 1)))), (4, .int (σ 93 (Int32.toNatClampNeg u5))), (3, .int (σ 96 (Int32.toNatClampNeg u1))), (0, .ref (gA g 87)), (1, .int x1), (2, .int x2)]) h dX10_strategyOf_41 hL (by decide) rfl (q := 43) rfl ?_
  refine x_iload h dX10_strategyOf_43 0 rfl (q := 45) rfl ?_
  refine x_iload_n h dX10_strategyOf_45 rfl 5 rfl (q := 46) rfl ?_
  refine x_ishr h dX10_strategyOf_46 (q := 47) rfl ?_
  refine x_iconst (v := 1) h dX10_strategyOf_47 (by decide) (q := 48) rfl ?_
  refine x_iand h dX10_strategyOf_48 (q := 49) rfl ?_
  refine x_if_ne (tgt := 54) h dX10_strategyOf_49 (by decide) (q := 52) rfl hf14 (fun hc15 hf16 => ?_) (fun hc15 hf16 => ?_)
  · skip
    refine x_iload h dX10_strategyOf_54 1 rfl (q := 56) rfl ?_
    refine x_bipush (v := 6) h dX10_strategyOf_56 (by decide) (q := 58) rfl ?_
    refine x_icmp_ne (tgt := 74) h dX10_strategyOf_58 (by decide) (q := 61) rfl hf16 (fun hc17 hf18 => ?_) (fun hc17 hf18 => ?_)
    · skip
      refine x_iload h dX10_strategyOf_74 1 rfl (q := 76) rfl ?_
      refine x_bipush (v := 8) h dX10_strategyOf_76 (by decide) (q := 78) rfl ?_
      refine x_icmp_ne (tgt := 90) h dX10_strategyOf_78 (by decide) (q := 81) rfl hf18 (fun hc19 hf20 => ?_) (fun hc19 hf20 => ?_)
      · skip
        refine x_aload_n h dX10_strategyOf_90 rfl 3 rfl (q := 91) rfl ?_
        refine x_iload_n h dX10_strategyOf_91 rfl 4 rfl (q := 92) rfl ?_
        obtain ⟨u21, hu21, hf22⟩ := bnd_inv hf20
        refine x_callVv (As := [.int x1]) (rest := []) h hg (c_X10_ranksOf C.2.1 hg.2.1 u9 x1 _ hu21) ml_X10_255 biX10_ranksOf rfl rfl hdX10_ranksOf ⟨Nat.le_of_ble_eq_true rfl, Nat.le_of_ble_eq_true rfl⟩ (by decide) (cE_87 g _) rfl rfl rfl (Nat.le_of_ble_eq_true rfl) dX10_strategyOf_92 ?_
        refine x_aload_n h dX10_strategyOf_95 rfl 3 rfl (q := 96) rfl ?_
        refine x_get_X10_87_30 h hg kf_X10_67 nn_X10 dX10_strategyOf_96 ?_
        refine x_iload_n h dX10_strategyOf_99 rfl 5 rfl (q := 100) rfl ?_
        obtain ⟨hi23, hf24⟩ := chk_inv hf22
        refine x_iald (j := (Int32.toNatClampNeg x2)) h hg a_107 hi23 rfl dX10_strategyOf_100 (q := 101) rfl ?_
        refine x_if_ne (tgt := 108) h dX10_strategyOf_101 (by decide) (q := 104) rfl hf24 (fun hc25 hf26 => ?_) (fun hc25 hf26 => ?_)
        · skip
          refine x_aload_n h dX10_strategyOf_108 rfl 3 rfl (q := 109) rfl ?_
          refine x_iload_n h dX10_strategyOf_109 rfl 2 rfl (q := 110) rfl ?_
          refine x_iload_n h dX10_strategyOf_110 rfl 5 rfl (q := 111) rfl ?_
          refine x_aload_n h dX10_strategyOf_111 rfl 3 rfl (q := 112) rfl ?_
          refine x_aload_n h dX10_strategyOf_112 rfl 3 rfl (q := 113) rfl ?_
          refine x_get_X10_87_30 h hg kf_X10_67 nn_X10 dX10_strategyOf_113 ?_
          refine x_iload_n h dX10_strategyOf_116 rfl 5 rfl (q := 117) rfl ?_
          obtain ⟨hi27, hf28⟩ := chk_inv hf26
          refine x_iald (j := (Int32.toNatClampNeg x2)) h hg a_107 hi27 rfl dX10_strategyOf_117 (q := 118) rfl ?_
          obtain ⟨u29, hu29, hf30⟩ := bnd_inv hf28
          refine x_callVi (As := [.int (u21 107 (Int32.toNatClampNeg x2))]) (rest := [.int x2, .int (σ 96 (Int32.toNatClampNeg u1)), .ref (gA g 87)]) h hg (c_X10_levelBelow C.2.1 hg.2.1 u21 (u21 107 (Int32.toNatClampNeg x2)) _ hu29) ml_X10_258 biX10_levelBelow rfl rfl hdX10_levelBelow ⟨Nat.le_of_ble_eq_true rfl, Nat.le_of_ble_eq_true rfl⟩ (by decide) (cE_87 g _) rfl rfl rfl (Nat.le_of_ble_eq_true rfl) dX10_strategyOf_118 ?_
          obtain ⟨u31, hu31, hf32⟩ := bnd_inv hf30
          refine x_callVi (As := [.int (σ 96 (Int32.toNatClampNeg u1)), .int x2, .int u29]) (rest := []) h hg (c_X10_forcing C.2.1 hg.2.1 u21 (σ 96 (Int32.toNatClampNeg u1)) x2 u29 _ hu31) ml_X10_142 biX10_forcing rfl rfl hdX10_forcing ⟨Nat.le_of_ble_eq_true rfl, Nat.le_of_ble_eq_true rfl⟩ (by decide) (cE_87 g _) rfl rfl rfl (Nat.le_of_ble_eq_true rfl) dX10_strategyOf_121 ?_
          have hz := Option.some.inj hf32
          subst hz
          exact x_iret h hg hr dX10_strategyOf_124
        · skip
          refine x_iconst (v := 0) h dX10_strategyOf_104 (by decide) (q := 105) rfl ?_
          refine x_goto (q := 124) h dX10_strategyOf_105 (by decide) ?_
          have hz := Option.some.inj hf26
          subst hz
          exact x_iret h hg hr dX10_strategyOf_124
      · skip
        refine x_aload_n h dX10_strategyOf_81 rfl 3 rfl (q := 82) rfl ?_
        refine x_iload_n h dX10_strategyOf_82 rfl 2 rfl (q := 83) rfl ?_
        refine x_iload_n h dX10_strategyOf_83 rfl 5 rfl (q := 84) rfl ?_
        refine x_iload h dX10_strategyOf_84 0 rfl (q := 86) rfl ?_
        obtain ⟨u33, hu33, hf34⟩ := bnd_inv hf20
        refine x_callVi (As := [.int (σ 96 (Int32.toNatClampNeg u1)), .int x2, .int (u9 108 (Int32.toNatClampNeg ((u9 97 (Int32.toNatClampNeg x1)) - 1)))]) (rest := []) h hg (c_X10_forcing C.2.1 hg.2.1 u9 (σ 96 (Int32.toNatClampNeg u1)) x2 (u9 108 (Int32.toNatClampNeg ((u9 97 (Int32.toNatClampNeg x1)) - 1))) _ hu33) ml_X10_142 biX10_forcing rfl rfl hdX10_forcing ⟨Nat.le_of_ble_eq_true rfl, Nat.le_of_ble_eq_true rfl⟩ (by decide) (cE_87 g _) rfl rfl rfl (Nat.le_of_ble_eq_true rfl) dX10_strategyOf_86 ?_
        have hz := Option.some.inj hf34
        subst hz
        exact x_iret h hg hr dX10_strategyOf_89
    · skip
      refine x_aload_n h dX10_strategyOf_61 rfl 3 rfl (q := 62) rfl ?_
      refine x_iload_n h dX10_strategyOf_62 rfl 2 rfl (q := 63) rfl ?_
      refine x_iload_n h dX10_strategyOf_63 rfl 5 rfl (q := 64) rfl ?_
      refine x_aload_n h dX10_strategyOf_64 rfl 3 rfl (q := 65) rfl ?_
      refine x_iload_n h dX10_strategyOf_65 rfl 4 rfl (q := 66) rfl ?_
      refine x_iconst (v := 0) h dX10_strategyOf_66 (by decide) (q := 67) rfl ?_
      obtain ⟨u35, hu35, hf36⟩ := bnd_inv hf18
      refine x_callVi (As := [.int x1, .int 0]) (rest := [.int x2, .int (σ 96 (Int32.toNatClampNeg u1)), .ref (gA g 87)]) h hg (c_X10_operand C.2.1 hg.2.1 u9 x1 0 _ hu35) ml_X10_251 biX10_operand rfl rfl hdX10_operand ⟨Nat.le_of_ble_eq_true rfl, Nat.le_of_ble_eq_true rfl⟩ (by decide) (cE_87 g _) rfl rfl rfl (Nat.le_of_ble_eq_true rfl) dX10_strategyOf_67 ?_
      obtain ⟨u37, hu37, hf38⟩ := bnd_inv hf36
      refine x_callVi (As := [.int (σ 96 (Int32.toNatClampNeg u1)), .int x2, .int u35]) (rest := []) h hg (c_X10_forcing C.2.1 hg.2.1 u9 (σ 96 (Int32.toNatClampNeg u1)) x2 u35 _ hu37) ml_X10_142 biX10_forcing rfl rfl hdX10_forcing ⟨Nat.le_of_ble_eq_true rfl, Nat.le_of_ble_eq_true rfl⟩ (by decide) (cE_87 g _) rfl rfl rfl (Nat.le_of_ble_eq_true rfl) dX10_strategyOf_70 ?_
      have hz := Option.some.inj hf38
      subst hz
      exact x_iret h hg hr dX10_strategyOf_73
  · skip
    refine x_iconst (v := 0) h dX10_strategyOf_52 (by decide) (q := 53) rfl ?_
    have hz := Option.some.inj hf16
    subst hz
    exact x_iret h hg hr dX10_strategyOf_53
theorem c_X10_strategyOf (l : Launch) {g : cG} (hi : gInj g) (σ : St) (x1 : Int32) (x2 : Int32) (o : Int32 × St) (hf : m_X10_strategyOf σ x1 x2 = some o) : Met l yX10_strategyOf (wT yX10_strategyOf cX10_strategyOf 6 (some .int)) rmX10_strategyOf (va_Pc [.ref (gA g 87), .int x1, .int x2] (XPre g σ)) (XQ g (some (.int o.1)) o.2) 0 0 (cA g) :=
  X_met RX10 hi plX10 rfl (Nat.le_of_ble_eq_true rfl) rfl (fun _ _ _ h hg hL hr => w_X10_strategyOf σ x1 x2 o h hg hL hr hf)
abbrev rmX10_strategy : Room := { frames := 14, cells := 0, slots := 0, locals := 329 }
theorem hdX10_strategy : yX10_strategy.cls = RX10 ∧ yX10_strategy.cls ≠ "java/lang/invoke/MethodHandle" ∧ yX10_strategy.cls ≠ "java/lang/invoke/VarHandle" ∧ (parseMethodDescriptor yX10_strategy.desc).map (fun d => d.parameters.length) = some 2 := by decide +kernel
def m_X10_strategy (σ : St) (x1 : Int32) (x2 : Int32) : Option (Int32 × St) :=
  if (bI (m_X10_isFormula σ x1)) = 0 then (
    some ((-1), σ)
  ) else (
    (m_X10_isState σ x2).bind fun u3 =>
    if (bI u3) = 0 then (
      some ((-1), σ)
    ) else (
      (m_X10_isGoal σ x1).bind fun u7 =>
      if (bI u7) = 0 then (
        some ((-3), σ)
      ) else (
        (m_X10_strategyOf σ x1 x2).bind fun u11 =>
        some (u11.1, u11.2)
      )
    )
  )
set_option maxHeartbeats 4000000 in
set_option maxRecDepth 100000 in
theorem w_X10_strategy {C : XC} {Q : State → Prop} {g : cG} (σ : St) (x1 : Int32) (x2 : Int32) (o : Int32 × St) (h : XOk C cX10_strategy RX10 tG rmX10_strategy) (hg : XG C g) (hL : C.2.2.2.2.2.2.2.2.2.2.2.2.1 = 3) (hr : XEnd C (some .int) Q (XQ g (some (.int o.1)) o.2) (cA g)) (hf : m_X10_strategy σ x1 x2 = some o) : Xs C (wW g) Q σ 0 [(0, .ref (gA g 87)), (1, .int x1), (2, .int x2)] [] := by
  unfold m_X10_strategy at hf
  refine x_aload_n h dX10_strategy_0 rfl 0 rfl (q := 1) rfl ?_
  refine x_iload_n h dX10_strategy_1 rfl 1 rfl (q := 2) rfl ?_
  refine x_callVi (As := [.int x1]) (rest := []) h hg (c_X10_isFormula C.2.1 hg.2.1 σ x1 _ rfl) ml_X10_203 biX10_isFormula rfl rfl hdX10_isFormula ⟨Nat.le_of_ble_eq_true rfl, Nat.le_of_ble_eq_true rfl⟩ (by decide) (cE_87 g _) rfl rfl rfl (Nat.le_of_ble_eq_true rfl) dX10_strategy_2 ?_
  refine x_if_eq (tgt := 16) h dX10_strategy_5 (by decide) (q := 8) rfl hf (fun hc1 hf2 => ?_) (fun hc1 hf2 => ?_)
  · skip
    refine x_iconst (v := (-1)) h dX10_strategy_16 (by decide) (q := 17) rfl ?_
    refine x_goto (q := 39) h dX10_strategy_17 (by decide) ?_
    have hz := Option.some.inj hf2
    subst hz
    exact x_iret h hg hr dX10_strategy_39
  · skip
    refine x_aload_n h dX10_strategy_8 rfl 0 rfl (q := 9) rfl ?_
    refine x_iload_n h dX10_strategy_9 rfl 2 rfl (q := 10) rfl ?_
    obtain ⟨u3, hu3, hf4⟩ := bnd_inv hf2
    refine x_callVi (As := [.int x2]) (rest := []) h hg (c_X10_isState C.2.1 hg.2.1 σ x2 _ hu3) ml_X10_129 biX10_isState rfl rfl hdX10_isState ⟨Nat.le_of_ble_eq_true rfl, Nat.le_of_ble_eq_true rfl⟩ (by decide) (cE_87 g _) rfl rfl rfl (Nat.le_of_ble_eq_true rfl) dX10_strategy_10 ?_
    refine x_if_ne (tgt := 20) h dX10_strategy_13 (by decide) (q := 16) rfl hf4 (fun hc5 hf6 => ?_) (fun hc5 hf6 => ?_)
    · skip
      refine x_aload_n h dX10_strategy_20 rfl 0 rfl (q := 21) rfl ?_
      refine x_iload_n h dX10_strategy_21 rfl 1 rfl (q := 22) rfl ?_
      obtain ⟨u7, hu7, hf8⟩ := bnd_inv hf6
      refine x_callVi (As := [.int x1]) (rest := []) h hg (c_X10_isGoal C.2.1 hg.2.1 σ x1 _ hu7) ml_X10_261 biX10_isGoal rfl rfl hdX10_isGoal ⟨Nat.le_of_ble_eq_true rfl, Nat.le_of_ble_eq_true rfl⟩ (by decide) (cE_87 g _) rfl rfl rfl (Nat.le_of_ble_eq_true rfl) dX10_strategy_22 ?_
      refine x_if_ne (tgt := 33) h dX10_strategy_25 (by decide) (q := 28) rfl hf8 (fun hc9 hf10 => ?_) (fun hc9 hf10 => ?_)
      · skip
        refine x_aload_n h dX10_strategy_33 rfl 0 rfl (q := 34) rfl ?_
        refine x_iload_n h dX10_strategy_34 rfl 1 rfl (q := 35) rfl ?_
        refine x_iload_n h dX10_strategy_35 rfl 2 rfl (q := 36) rfl ?_
        obtain ⟨u11, hu11, hf12⟩ := bnd_inv hf10
        refine x_callVi (As := [.int x1, .int x2]) (rest := []) h hg (c_X10_strategyOf C.2.1 hg.2.1 σ x1 x2 _ hu11) ml_X10_264 biX10_strategyOf rfl rfl hdX10_strategyOf ⟨Nat.le_of_ble_eq_true rfl, Nat.le_of_ble_eq_true rfl⟩ (by decide) (cE_87 g _) rfl rfl rfl (Nat.le_of_ble_eq_true rfl) dX10_strategy_36 ?_
        have hz := Option.some.inj hf12
        subst hz
        exact x_iret h hg hr dX10_strategy_39
      · skip
        refine x_bipush (v := (-3)) h dX10_strategy_28 (by decide) (q := 30) rfl ?_
        refine x_goto (q := 39) h dX10_strategy_30 (by decide) ?_
        have hz := Option.some.inj hf10
        subst hz
        exact x_iret h hg hr dX10_strategy_39
    · skip
      refine x_iconst (v := (-1)) h dX10_strategy_16 (by decide) (q := 17) rfl ?_
      refine x_goto (q := 39) h dX10_strategy_17 (by decide) ?_
      have hz := Option.some.inj hf6
      subst hz
      exact x_iret h hg hr dX10_strategy_39
theorem c_X10_strategy (l : Launch) {g : cG} (hi : gInj g) (σ : St) (x1 : Int32) (x2 : Int32) (o : Int32 × St) (hf : m_X10_strategy σ x1 x2 = some o) : Met l yX10_strategy (wT yX10_strategy cX10_strategy 3 (some .int)) rmX10_strategy (va_Pc [.ref (gA g 87), .int x1, .int x2] (XPre g σ)) (XQ g (some (.int o.1)) o.2) 0 0 (cA g) :=
  X_met RX10 hi plX10 rfl (Nat.le_of_ble_eq_true rfl) rfl (fun _ _ _ h hg hL hr => w_X10_strategy σ x1 x2 o h hg hL hr hf)
abbrev rmX10_plan : Room := { frames := 2, cells := 0, slots := 0, locals := 43 }
theorem hdX10_plan : yX10_plan.cls = RX10 ∧ yX10_plan.cls ≠ "java/lang/invoke/MethodHandle" ∧ yX10_plan.cls ≠ "java/lang/invoke/VarHandle" ∧ (parseMethodDescriptor yX10_plan.desc).map (fun d => d.parameters.length) = some 3 := by decide +kernel
def m_X10_plan (σ : St) (x1 : Int32) (x2 : Int32) (x3 : Int32) : Option (Int32 × St) :=
  (m_X10_isState σ x1).bind fun u1 =>
  if (bI u1) = 0 then (
    some ((-1), σ)
  ) else (
    if (bI (m_X10_isAgent σ x2)) = 0 then (
      some ((-1), σ)
    ) else (
      if (bI (m_X10_in x3 0 2)) = 0 then (
        some ((-1), σ)
      ) else (
        (m_X10_edit σ).bind fun u9 =>
        chk (((100 * x1) + 5) + x2) 1201 <|
        chk (((100 * x1) + 5) + x2) 1201 <|
        some ((u9 88 (Int32.toNatClampNeg (((100 * x1) + 5) + x2))), (up u9 88 (Int32.toNatClampNeg (((100 * x1) + 5) + x2)) x3))
      )
    )
  )
set_option maxHeartbeats 4000000 in
set_option maxRecDepth 100000 in
theorem w_X10_plan {C : XC} {Q : State → Prop} {g : cG} (σ : St) (x1 : Int32) (x2 : Int32) (x3 : Int32) (o : Int32 × St) (h : XOk C cX10_plan RX10 tG rmX10_plan) (hg : XG C g) (hL : C.2.2.2.2.2.2.2.2.2.2.2.2.1 = 5) (hr : XEnd C (some .int) Q (XQ g (some (.int o.1)) o.2) (cA g)) (hf : m_X10_plan σ x1 x2 x3 = some o) : Xs C (wW g) Q σ 0 [(0, .ref (gA g 87)), (1, .int x1), (2, .int x2), (3, .int x3)] [] := by
  unfold m_X10_plan at hf
  refine x_aload_n h dX10_plan_0 rfl 0 rfl (q := 1) rfl ?_
  refine x_iload_n h dX10_plan_1 rfl 1 rfl (q := 2) rfl ?_
  obtain ⟨u1, hu1, hf2⟩ := bnd_inv hf
  refine x_callVi (As := [.int x1]) (rest := []) h hg (c_X10_isState C.2.1 hg.2.1 σ x1 _ hu1) ml_X10_129 biX10_isState rfl rfl hdX10_isState ⟨Nat.le_of_ble_eq_true rfl, Nat.le_of_ble_eq_true rfl⟩ (by decide) (cE_87 g _) rfl rfl rfl (Nat.le_of_ble_eq_true rfl) dX10_plan_2 ?_
  refine x_if_eq (tgt := 25) h dX10_plan_5 (by decide) (q := 8) rfl hf2 (fun hc3 hf4 => ?_) (fun hc3 hf4 => ?_)
  · skip
    refine x_iconst (v := (-1)) h dX10_plan_25 (by decide) (q := 26) rfl ?_
    have hz := Option.some.inj hf4
    subst hz
    exact x_iret h hg hr dX10_plan_26
  · skip
    refine x_aload_n h dX10_plan_8 rfl 0 rfl (q := 9) rfl ?_
    refine x_iload_n h dX10_plan_9 rfl 2 rfl (q := 10) rfl ?_
    refine x_callVi (As := [.int x2]) (rest := []) h hg (c_X10_isAgent C.2.1 hg.2.1 σ x2 _ rfl) ml_X10_133 biX10_isAgent rfl rfl hdX10_isAgent ⟨Nat.le_of_ble_eq_true rfl, Nat.le_of_ble_eq_true rfl⟩ (by decide) (cE_87 g _) rfl rfl rfl (Nat.le_of_ble_eq_true rfl) dX10_plan_10 ?_
    refine x_if_eq (tgt := 25) h dX10_plan_13 (by decide) (q := 16) rfl hf4 (fun hc5 hf6 => ?_) (fun hc5 hf6 => ?_)
    · skip
      refine x_iconst (v := (-1)) h dX10_plan_25 (by decide) (q := 26) rfl ?_
      have hz := Option.some.inj hf6
      subst hz
      exact x_iret h hg hr dX10_plan_26
    · skip
      refine x_iload_n h dX10_plan_16 rfl 3 rfl (q := 17) rfl ?_
      refine x_iconst (v := 0) h dX10_plan_17 (by decide) (q := 18) rfl ?_
      refine x_iconst (v := 2) h dX10_plan_18 (by decide) (q := 19) rfl ?_
      refine x_callPi (As := [.int x3, .int 0, .int 2]) (rest := []) h (c_X10_in C.2.1 x3 0 2 _ rfl) ml_X10_93 biX10_in rfl rfl hdX10_in ⟨Nat.le_of_ble_eq_true rfl, Nat.le_of_ble_eq_true rfl⟩ rfl rfl (Nat.le_of_ble_eq_true rfl) dX10_plan_19 ?_
      refine x_if_ne (tgt := 27) h dX10_plan_22 (by decide) (q := 25) rfl hf6 (fun hc7 hf8 => ?_) (fun hc7 hf8 => ?_)
      · skip
        refine x_aload_n h dX10_plan_27 rfl 0 rfl (q := 28) rfl ?_
        obtain ⟨u9, hu9, hf10⟩ := bnd_inv hf8
        refine x_callVv (As := []) (rest := []) h hg (c_X10_edit C.2.1 hg.2.1 σ _ hu9) ml_X10_122 biX10_edit rfl rfl hdX10_edit ⟨Nat.le_of_ble_eq_true rfl, Nat.le_of_ble_eq_true rfl⟩ (by decide) (cE_87 g _) rfl rfl rfl (Nat.le_of_ble_eq_true rfl) dX10_plan_28 ?_
        refine x_aload_n h dX10_plan_31 rfl 0 rfl (q := 32) rfl ?_
        refine x_get_X10_87_1 h hg kf_X10_7 nn_X10 dX10_plan_32 ?_
        refine x_bipush (v := 100) h dX10_plan_35 (by decide) (q := 37) rfl ?_
        refine x_iload_n h dX10_plan_37 rfl 1 rfl (q := 38) rfl ?_
        refine x_imul h dX10_plan_38 (q := 39) rfl ?_
        refine x_iconst (v := 5) h dX10_plan_39 (by decide) (q := 40) rfl ?_
        refine x_iadd h dX10_plan_40 (q := 41) rfl ?_
        refine x_iload_n h dX10_plan_41 rfl 2 rfl (q := 42) rfl ?_
        refine x_iadd h dX10_plan_42 (q := 43) rfl ?_
        obtain ⟨hi11, hf12⟩ := chk_inv hf10
        refine x_iald (j := (Int32.toNatClampNeg (((100 * x1) + 5) + x2))) h hg a_88 hi11 rfl dX10_plan_43 (q := 44) rfl ?_
        refine x_istore (lv' := [(4, .int (u9 88 (Int32.toNatClampNeg (((100 * x1) + 5) + x2)))), (0, .ref (gA g 87)), (1, .int x1), (2, .int x2), (3, .int x3)]) h dX10_plan_44 hL (by decide) rfl (q := 46) rfl ?_
        refine x_aload_n h dX10_plan_46 rfl 1 rfl (q := 47) rfl ?_
        refine x_get_X10_87_1 h hg kf_X10_7 nn_X10 dX10_plan_47 ?_
        refine x_bipush (v := 100) h dX10_plan_50 (by decide) (q := 52) rfl ?_
        refine x_iload_n h dX10_plan_52 rfl 2 rfl (q := 53) rfl ?_
        refine x_imul h dX10_plan_53 (q := 54) rfl ?_
        refine x_iconst (v := 5) h dX10_plan_54 (by decide) (q := 55) rfl ?_
        refine x_iadd h dX10_plan_55 (q := 56) rfl ?_
        refine x_iload_n h dX10_plan_56 rfl 3 rfl (q := 57) rfl ?_
        refine x_iadd h dX10_plan_57 (q := 58) rfl ?_
        refine x_iload_n h dX10_plan_58 rfl 4 rfl (q := 59) rfl ?_
        obtain ⟨hi13, hf14⟩ := chk_inv hf12
        refine x_iast (j := (Int32.toNatClampNeg (((100 * x1) + 5) + x2))) h hg a_88 hi13 rfl dX10_plan_59 (q := 60) rfl ?_
        refine x_iload h dX10_plan_60 0 rfl (q := 62) rfl ?_
        have hz := Option.some.inj hf14
        subst hz
        exact x_iret h hg hr dX10_plan_62
      · skip
        refine x_iconst (v := (-1)) h dX10_plan_25 (by decide) (q := 26) rfl ?_
        have hz := Option.some.inj hf8
        subst hz
        exact x_iret h hg hr dX10_plan_26
theorem c_X10_plan (l : Launch) {g : cG} (hi : gInj g) (σ : St) (x1 : Int32) (x2 : Int32) (x3 : Int32) (o : Int32 × St) (hf : m_X10_plan σ x1 x2 x3 = some o) : Met l yX10_plan (wT yX10_plan cX10_plan 5 (some .int)) rmX10_plan (va_Pc [.ref (gA g 87), .int x1, .int x2, .int x3] (XPre g σ)) (XQ g (some (.int o.1)) o.2) 0 0 (cA g) :=
  X_met RX10 hi plX10 rfl (Nat.le_of_ble_eq_true rfl) rfl (fun _ _ _ h hg hL hr => w_X10_plan σ x1 x2 x3 o h hg hL hr hf)
abbrev rmX10_adopt : Room := { frames := 14, cells := 0, slots := 0, locals := 329 }
theorem hdX10_adopt : yX10_adopt.cls = RX10 ∧ yX10_adopt.cls ≠ "java/lang/invoke/MethodHandle" ∧ yX10_adopt.cls ≠ "java/lang/invoke/VarHandle" ∧ (parseMethodDescriptor yX10_adopt.desc).map (fun d => d.parameters.length) = some 1 := by decide +kernel
def m_X10_adopt_b166 (σ : St) (x1 : Int32) (x2 : Int32) (x3 : Int32) (x4 : Int32) (x5 : Int32) (s0 : Int32) (s1 : Int32) (k29 : (St × Int32 × Int32) → Option (Int32 × St)) (k52 : (St × Int32 × Int32) → Option (Int32 × St)) : Option (Int32 × St) :=
  chk s1 1201 <|
  k52 ((up σ 88 (Int32.toNatClampNeg s1) s0), x2, (x5 + 1))
set_option maxHeartbeats 4000000 in
set_option maxRecDepth 100000 in
theorem w_X10_adopt_b166 {C : XC} {Q : State → Prop} {g : cG} (σ : St) (x1 : Int32) (x2 : Int32) (x3 : Int32) (x4 : Int32) (x5 : Int32) (s0 : Int32) (s1 : Int32) (o : Int32 × St) (h : XOk C cX10_adopt RX10 tG rmX10_adopt) (hg : XG C g) (hL : C.2.2.2.2.2.2.2.2.2.2.2.2.1 = 7) (hr : XEnd C (some .int) Q (XQ g (some (.int o.1)) o.2) (cA g)) (k29 : (St × Int32 × Int32) → Option (Int32 × St)) (k52 : (St × Int32 × Int32) → Option (Int32 × St)) (hk29 : ∀ z : St × Int32 × Int32, k29 z = some o → Xs C (wW g) Q z.1 29 [(0, .ref (gA g 87)), (1, .int x1), (2, .int z.2.1), (3, .int z.2.2)] []) (hk52 : ∀ z : St × Int32 × Int32, k52 z = some o → Xs C (wW g) Q z.1 52 [(0, .ref (gA g 87)), (1, .int x1), (2, .int z.2.1), (3, .int x3), (4, .int x4), (5, .int z.2.2)] []) (hf : m_X10_adopt_b166 σ x1 x2 x3 x4 x5 s0 s1 k29 k52 = some o) : Xs C (wW g) Q σ 166 [(0, .ref (gA g 87)), (1, .int x1), (2, .int x2), (3, .int x3), (4, .int x4), (5, .int x5)] [.int s0, .int s1, .ref (gA g 88)] := by
  unfold m_X10_adopt_b166 at hf
  obtain ⟨hi1, hf2⟩ := chk_inv hf
  refine x_iast (j := (Int32.toNatClampNeg s1)) h hg a_88 hi1 rfl dX10_adopt_166 (q := 167) rfl ?_
  refine x_iinc (v := (x5 + 1)) (lv' := [(5, .int (x5 + 1)), (0, .ref (gA g 87)), (1, .int x1), (2, .int x2), (3, .int x3), (4, .int x4)]) (j := 5) h dX10_adopt_167 rfl rfl hL (by decide) rfl (q := 170) rfl ?_
  refine x_goto (q := 52) h dX10_adopt_170 (by decide) ?_
  refine x_sub (lv' := [(0, .ref (gA g 87)), (1, .int x1), (2, .int x2), (3, .int x3), (4, .int x4), (5, .int (x5 + 1))]) [1, 2, 3, 4, 5, 0] rfl ?_
  exact hk52 ((up σ 88 (Int32.toNatClampNeg s1) s0), x2, (x5 + 1)) hf2
def m_X10_adopt_b122 (σ : St) (x1 : Int32) (x3 : Int32) (x4 : Int32) (x5 : Int32) (x6 : Int32) (s0 : Int32) (s1 : Int32) (k29 : (St × Int32 × Int32) → Option (Int32 × St)) (k52 : (St × Int32 × Int32) → Option (Int32 × St)) : Option (Int32 × St) :=
  if x6 = 0 then (
    chk (((100 * x3) + 5) + x5) 1201 <|
    m_X10_adopt_b166 σ x1 (s1 + s0) x3 x4 x5 (σ 88 (Int32.toNatClampNeg (((100 * x3) + 5) + x5))) (((100 * x3) + 5) + x5) k29 k52
  ) else (
    (m_X10_digit x4 x5).bind fun u5 =>
    m_X10_adopt_b166 σ x1 (s1 + s0) x3 x4 x5 u5 (((100 * x3) + 5) + x5) k29 k52
  )
set_option maxHeartbeats 4000000 in
set_option maxRecDepth 100000 in
theorem w_X10_adopt_b122 {C : XC} {Q : State → Prop} {g : cG} (σ : St) (x1 : Int32) (x3 : Int32) (x4 : Int32) (x5 : Int32) (x6 : Int32) (s0 : Int32) (s1 : Int32) (o : Int32 × St) (h : XOk C cX10_adopt RX10 tG rmX10_adopt) (hg : XG C g) (hL : C.2.2.2.2.2.2.2.2.2.2.2.2.1 = 7) (hr : XEnd C (some .int) Q (XQ g (some (.int o.1)) o.2) (cA g)) (k29 : (St × Int32 × Int32) → Option (Int32 × St)) (k52 : (St × Int32 × Int32) → Option (Int32 × St)) (hk29 : ∀ z : St × Int32 × Int32, k29 z = some o → Xs C (wW g) Q z.1 29 [(0, .ref (gA g 87)), (1, .int x1), (2, .int z.2.1), (3, .int z.2.2)] []) (hk52 : ∀ z : St × Int32 × Int32, k52 z = some o → Xs C (wW g) Q z.1 52 [(0, .ref (gA g 87)), (1, .int x1), (2, .int z.2.1), (3, .int x3), (4, .int x4), (5, .int z.2.2)] []) (hf : m_X10_adopt_b122 σ x1 x3 x4 x5 x6 s0 s1 k29 k52 = some o) : Xs C (wW g) Q σ 122 [(0, .ref (gA g 87)), (1, .int x1), (3, .int x3), (4, .int x4), (5, .int x5), (6, .int x6)] [.int s0, .int s1] := by
  unfold m_X10_adopt_b122 at hf
  refine x_iadd h dX10_adopt_122 (q := 123) rfl ?_
  refine x_istore_n (lv' := [(2, .int (s1 + s0)), (0, .ref (gA g 87)), (1, .int x1), (3, .int x3), (4, .int x4), (5, .int x5), (6, .int x6)]) h dX10_adopt_123 rfl hL (by decide) rfl (q := 124) rfl ?_
  refine x_aload_n h dX10_adopt_124 rfl 1 rfl (q := 125) rfl ?_
  refine x_get_X10_87_1 h hg kf_X10_7 nn_X10 dX10_adopt_125 ?_
  refine x_bipush (v := 100) h dX10_adopt_128 (by decide) (q := 130) rfl ?_
  refine x_iload_n h dX10_adopt_130 rfl 3 rfl (q := 131) rfl ?_
  refine x_imul h dX10_adopt_131 (q := 132) rfl ?_
  refine x_iconst (v := 5) h dX10_adopt_132 (by decide) (q := 133) rfl ?_
  refine x_iadd h dX10_adopt_133 (q := 134) rfl ?_
  refine x_iload h dX10_adopt_134 5 rfl (q := 136) rfl ?_
  refine x_iadd h dX10_adopt_136 (q := 137) rfl ?_
  refine x_iload h dX10_adopt_137 6 rfl (q := 139) rfl ?_
  refine x_if_eq (tgt := 152) h dX10_adopt_139 (by decide) (q := 142) rfl hf (fun hc1 hf2 => ?_) (fun hc1 hf2 => ?_)
  · skip
    refine x_aload_n h dX10_adopt_152 rfl 1 rfl (q := 153) rfl ?_
    refine x_get_X10_87_1 h hg kf_X10_7 nn_X10 dX10_adopt_153 ?_
    refine x_bipush (v := 100) h dX10_adopt_156 (by decide) (q := 158) rfl ?_
    refine x_iload_n h dX10_adopt_158 rfl 3 rfl (q := 159) rfl ?_
    refine x_imul h dX10_adopt_159 (q := 160) rfl ?_
    refine x_iconst (v := 5) h dX10_adopt_160 (by decide) (q := 161) rfl ?_
    refine x_iadd h dX10_adopt_161 (q := 162) rfl ?_
    refine x_iload h dX10_adopt_162 5 rfl (q := 164) rfl ?_
    refine x_iadd h dX10_adopt_164 (q := 165) rfl ?_
    obtain ⟨hi3, hf4⟩ := chk_inv hf2
    refine x_iald (j := (Int32.toNatClampNeg (((100 * x3) + 5) + x5))) h hg a_88 hi3 rfl dX10_adopt_165 (q := 166) rfl ?_
    refine x_sub (lv' := [(0, .ref (gA g 87)), (1, .int x1), (2, .int (s1 + s0)), (3, .int x3), (4, .int x4), (5, .int x5)]) [1, 2, 0, 3, 4, 5] rfl ?_
    exact w_X10_adopt_b166 σ x1 (s1 + s0) x3 x4 x5 (σ 88 (Int32.toNatClampNeg (((100 * x3) + 5) + x5))) (((100 * x3) + 5) + x5) o h hg hL hr k29 k52 hk29 hk52 hf4
  · skip
    refine x_iload h dX10_adopt_142 4 rfl (q := 144) rfl ?_
    refine x_iload h dX10_adopt_144 5 rfl (q := 146) rfl ?_
    obtain ⟨u5, hu5, hf6⟩ := bnd_inv hf2
    refine x_callPi (As := [.int x4, .int x5]) (rest := [.int (((100 * x3) + 5) + x5), .ref (gA g 88)]) h (c_X10_digit C.2.1 x4 x5 _ hu5) ml_X10_101 biX10_digit rfl rfl hdX10_digit ⟨Nat.le_of_ble_eq_true rfl, Nat.le_of_ble_eq_true rfl⟩ rfl rfl (Nat.le_of_ble_eq_true rfl) dX10_adopt_146 ?_
    refine x_goto (q := 166) h dX10_adopt_149 (by decide) ?_
    refine x_sub (lv' := [(0, .ref (gA g 87)), (1, .int x1), (2, .int (s1 + s0)), (3, .int x3), (4, .int x4), (5, .int x5)]) [1, 2, 0, 3, 4, 5] rfl ?_
    exact w_X10_adopt_b166 σ x1 (s1 + s0) x3 x4 x5 u5 (((100 * x3) + 5) + x5) o h hg hL hr k29 k52 hk29 hk52 hf6
def m_X10_adopt_b121 (σ : St) (x1 : Int32) (x3 : Int32) (x4 : Int32) (x5 : Int32) (x6 : Int32) (s0 : Int32) (k29 : (St × Int32 × Int32) → Option (Int32 × St)) (k52 : (St × Int32 × Int32) → Option (Int32 × St)) : Option (Int32 × St) :=
  m_X10_adopt_b122 σ x1 x3 x4 x5 x6 0 s0 k29 k52
set_option maxHeartbeats 4000000 in
set_option maxRecDepth 100000 in
theorem w_X10_adopt_b121 {C : XC} {Q : State → Prop} {g : cG} (σ : St) (x1 : Int32) (x3 : Int32) (x4 : Int32) (x5 : Int32) (x6 : Int32) (s0 : Int32) (o : Int32 × St) (h : XOk C cX10_adopt RX10 tG rmX10_adopt) (hg : XG C g) (hL : C.2.2.2.2.2.2.2.2.2.2.2.2.1 = 7) (hr : XEnd C (some .int) Q (XQ g (some (.int o.1)) o.2) (cA g)) (k29 : (St × Int32 × Int32) → Option (Int32 × St)) (k52 : (St × Int32 × Int32) → Option (Int32 × St)) (hk29 : ∀ z : St × Int32 × Int32, k29 z = some o → Xs C (wW g) Q z.1 29 [(0, .ref (gA g 87)), (1, .int x1), (2, .int z.2.1), (3, .int z.2.2)] []) (hk52 : ∀ z : St × Int32 × Int32, k52 z = some o → Xs C (wW g) Q z.1 52 [(0, .ref (gA g 87)), (1, .int x1), (2, .int z.2.1), (3, .int x3), (4, .int x4), (5, .int z.2.2)] []) (hf : m_X10_adopt_b121 σ x1 x3 x4 x5 x6 s0 k29 k52 = some o) : Xs C (wW g) Q σ 121 [(0, .ref (gA g 87)), (1, .int x1), (3, .int x3), (4, .int x4), (5, .int x5), (6, .int x6)] [.int s0] := by
  unfold m_X10_adopt_b121 at hf
  refine x_iconst (v := 0) h dX10_adopt_121 (by decide) (q := 122) rfl ?_
  exact w_X10_adopt_b122 σ x1 x3 x4 x5 x6 0 s0 o h hg hL hr k29 k52 hk29 hk52 hf
def m_X10_adopt_b85 (σ : St) (x1 : Int32) (x2 : Int32) (x3 : Int32) (x4 : Int32) (x5 : Int32) (s0 : Int32) (k29 : (St × Int32 × Int32) → Option (Int32 × St)) (k52 : (St × Int32 × Int32) → Option (Int32 × St)) : Option (Int32 × St) :=
  if s0 = 0 then (
    m_X10_adopt_b121 σ x1 x3 x4 x5 s0 x2 k29 k52
  ) else (
    chk (((100 * x3) + 5) + x5) 1201 <|
    (m_X10_digit x4 x5).bind fun u5 =>
    if (σ 88 (Int32.toNatClampNeg (((100 * x3) + 5) + x5))) = u5 then (
      m_X10_adopt_b121 σ x1 x3 x4 x5 s0 x2 k29 k52
    ) else (
      m_X10_adopt_b122 σ x1 x3 x4 x5 s0 1 x2 k29 k52
    )
  )
set_option maxHeartbeats 4000000 in
set_option maxRecDepth 100000 in
theorem w_X10_adopt_b85 {C : XC} {Q : State → Prop} {g : cG} (σ : St) (x1 : Int32) (x2 : Int32) (x3 : Int32) (x4 : Int32) (x5 : Int32) (s0 : Int32) (o : Int32 × St) (h : XOk C cX10_adopt RX10 tG rmX10_adopt) (hg : XG C g) (hL : C.2.2.2.2.2.2.2.2.2.2.2.2.1 = 7) (hr : XEnd C (some .int) Q (XQ g (some (.int o.1)) o.2) (cA g)) (k29 : (St × Int32 × Int32) → Option (Int32 × St)) (k52 : (St × Int32 × Int32) → Option (Int32 × St)) (hk29 : ∀ z : St × Int32 × Int32, k29 z = some o → Xs C (wW g) Q z.1 29 [(0, .ref (gA g 87)), (1, .int x1), (2, .int z.2.1), (3, .int z.2.2)] []) (hk52 : ∀ z : St × Int32 × Int32, k52 z = some o → Xs C (wW g) Q z.1 52 [(0, .ref (gA g 87)), (1, .int x1), (2, .int z.2.1), (3, .int x3), (4, .int x4), (5, .int z.2.2)] []) (hf : m_X10_adopt_b85 σ x1 x2 x3 x4 x5 s0 k29 k52 = some o) : Xs C (wW g) Q σ 85 [(0, .ref (gA g 87)), (1, .int x1), (2, .int x2), (3, .int x3), (4, .int x4), (5, .int x5)] [.int s0] := by
  unfold m_X10_adopt_b85 at hf
  refine x_istore (lv' := [(6, .int s0), (0, .ref (gA g 87)), (1, .int x1), (2, .int x2), (3, .int x3), (4, .int x4), (5, .int x5)]) h dX10_adopt_85 hL (by decide) rfl (q := 87) rfl ?_
  refine x_iload_n h dX10_adopt_87 rfl 3 rfl (q := 88) rfl ?_
  refine x_iload h dX10_adopt_88 0 rfl (q := 90) rfl ?_
  refine x_if_eq (tgt := 121) h dX10_adopt_90 (by decide) (q := 93) rfl hf (fun hc1 hf2 => ?_) (fun hc1 hf2 => ?_)
  · skip
    refine x_sub (lv' := [(0, .ref (gA g 87)), (1, .int x1), (3, .int x3), (4, .int x4), (5, .int x5), (6, .int s0)]) [1, 2, 4, 5, 6, 0] rfl ?_
    exact w_X10_adopt_b121 σ x1 x3 x4 x5 s0 x2 o h hg hL hr k29 k52 hk29 hk52 hf2
  · skip
    refine x_aload_n h dX10_adopt_93 rfl 1 rfl (q := 94) rfl ?_
    refine x_get_X10_87_1 h hg kf_X10_7 nn_X10 dX10_adopt_94 ?_
    refine x_bipush (v := 100) h dX10_adopt_97 (by decide) (q := 99) rfl ?_
    refine x_iload_n h dX10_adopt_99 rfl 4 rfl (q := 100) rfl ?_
    refine x_imul h dX10_adopt_100 (q := 101) rfl ?_
    refine x_iconst (v := 5) h dX10_adopt_101 (by decide) (q := 102) rfl ?_
    refine x_iadd h dX10_adopt_102 (q := 103) rfl ?_
    refine x_iload h dX10_adopt_103 6 rfl (q := 105) rfl ?_
    refine x_iadd h dX10_adopt_105 (q := 106) rfl ?_
    obtain ⟨hi3, hf4⟩ := chk_inv hf2
    refine x_iald (j := (Int32.toNatClampNeg (((100 * x3) + 5) + x5))) h hg a_88 hi3 rfl dX10_adopt_106 (q := 107) rfl ?_
    refine x_iload h dX10_adopt_107 5 rfl (q := 109) rfl ?_
    refine x_iload h dX10_adopt_109 6 rfl (q := 111) rfl ?_
    obtain ⟨u5, hu5, hf6⟩ := bnd_inv hf4
    refine x_callPi (As := [.int x4, .int x5]) (rest := [.int (σ 88 (Int32.toNatClampNeg (((100 * x3) + 5) + x5))), .int x2]) h (c_X10_digit C.2.1 x4 x5 _ hu5) ml_X10_101 biX10_digit rfl rfl hdX10_digit ⟨Nat.le_of_ble_eq_true rfl, Nat.le_of_ble_eq_true rfl⟩ rfl rfl (Nat.le_of_ble_eq_true rfl) dX10_adopt_111 ?_
    refine x_icmp_eq (tgt := 121) h dX10_adopt_114 (by decide) (q := 117) rfl hf6 (fun hc7 hf8 => ?_) (fun hc7 hf8 => ?_)
    · skip
      refine x_sub (lv' := [(0, .ref (gA g 87)), (1, .int x1), (3, .int x3), (4, .int x4), (5, .int x5), (6, .int s0)]) [1, 2, 4, 5, 6, 0] rfl ?_
      exact w_X10_adopt_b121 σ x1 x3 x4 x5 s0 x2 o h hg hL hr k29 k52 hk29 hk52 hf8
    · skip
      refine x_iconst (v := 1) h dX10_adopt_117 (by decide) (q := 118) rfl ?_
      refine x_goto (q := 122) h dX10_adopt_118 (by decide) ?_
      refine x_sub (lv' := [(0, .ref (gA g 87)), (1, .int x1), (3, .int x3), (4, .int x4), (5, .int x5), (6, .int s0)]) [1, 2, 4, 5, 6, 0] rfl ?_
      exact w_X10_adopt_b122 σ x1 x3 x4 x5 s0 1 x2 o h hg hL hr k29 k52 hk29 hk52 hf8
def m_X10_adopt_b52 (σ : St) (x1 : Int32) (x2 : Int32) (x3 : Int32) (x4 : Int32) (x5 : Int32) (k29 : (St × Int32 × Int32) → Option (Int32 × St)) (k52 : (St × Int32 × Int32) → Option (Int32 × St)) : Option (Int32 × St) :=
  if (σ 87 0) ≤ x5 then (
    k29 (σ, x2, (x3 + 1))
  ) else (
    (m_X10_top σ x1).bind fun u3 =>
    chk u3 540 <|
    if (((σ 96 (Int32.toNatClampNeg u3)) >>> (x5 &&& 31)) &&& 1) = 1 then (
      m_X10_adopt_b85 σ x1 x2 x3 x4 x5 1 k29 k52
    ) else (
      m_X10_adopt_b85 σ x1 x2 x3 x4 x5 0 k29 k52
    )
  )
set_option maxHeartbeats 4000000 in
set_option maxRecDepth 100000 in
theorem w_X10_adopt_b52 {C : XC} {Q : State → Prop} {g : cG} (σ : St) (x1 : Int32) (x2 : Int32) (x3 : Int32) (x4 : Int32) (x5 : Int32) (o : Int32 × St) (h : XOk C cX10_adopt RX10 tG rmX10_adopt) (hg : XG C g) (hL : C.2.2.2.2.2.2.2.2.2.2.2.2.1 = 7) (hr : XEnd C (some .int) Q (XQ g (some (.int o.1)) o.2) (cA g)) (k29 : (St × Int32 × Int32) → Option (Int32 × St)) (k52 : (St × Int32 × Int32) → Option (Int32 × St)) (hk29 : ∀ z : St × Int32 × Int32, k29 z = some o → Xs C (wW g) Q z.1 29 [(0, .ref (gA g 87)), (1, .int x1), (2, .int z.2.1), (3, .int z.2.2)] []) (hk52 : ∀ z : St × Int32 × Int32, k52 z = some o → Xs C (wW g) Q z.1 52 [(0, .ref (gA g 87)), (1, .int x1), (2, .int z.2.1), (3, .int x3), (4, .int x4), (5, .int z.2.2)] []) (hf : m_X10_adopt_b52 σ x1 x2 x3 x4 x5 k29 k52 = some o) : Xs C (wW g) Q σ 52 [(0, .ref (gA g 87)), (1, .int x1), (2, .int x2), (3, .int x3), (4, .int x4), (5, .int x5)] [] := by
  unfold m_X10_adopt_b52 at hf
  refine x_iload h dX10_adopt_52 5 rfl (q := 54) rfl ?_
  refine x_aload_n h dX10_adopt_54 rfl 0 rfl (q := 55) rfl ?_
  refine x_get_X10_87_0 h hg kf_X10_82 nn_X10 dX10_adopt_55 ?_
  refine x_icmp_ge (tgt := 173) h dX10_adopt_58 (by decide) (q := 61) rfl hf (fun hc1 hf2 => ?_) (fun hc1 hf2 => ?_)
  · skip
    refine x_iinc (v := (x3 + 1)) (lv' := [(3, .int (x3 + 1)), (0, .ref (gA g 87)), (1, .int x1), (2, .int x2), (4, .int x4), (5, .int x5)]) (j := 3) h dX10_adopt_173 rfl rfl hL (by decide) rfl (q := 176) rfl ?_
    refine x_goto (q := 29) h dX10_adopt_176 (by decide) ?_
    refine x_sub (lv' := [(0, .ref (gA g 87)), (1, .int x1), (2, .int x2), (3, .int (x3 + 1))]) [1, 2, 3, 0] rfl ?_
    exact hk29 (σ, x2, (x3 + 1)) hf2
  · skip
    refine x_aload_n h dX10_adopt_61 rfl 0 rfl (q := 62) rfl ?_
    refine x_get_X10_87_12 h hg kf_X10_34 nn_X10 dX10_adopt_62 ?_
    refine x_aload_n h dX10_adopt_65 rfl 0 rfl (q := 66) rfl ?_
    refine x_iload_n h dX10_adopt_66 rfl 1 rfl (q := 67) rfl ?_
    obtain ⟨u3, hu3, hf4⟩ := bnd_inv hf2
    refine x_callVi (As := [.int x1]) (rest := [.ref (gA g 96)]) h hg (c_X10_top C.2.1 hg.2.1 σ x1 _ hu3) ml_X10_248 biX10_top rfl rfl hdX10_top ⟨Nat.le_of_ble_eq_true rfl, Nat.le_of_ble_eq_true rfl⟩ (by decide) (cE_87 g _) rfl rfl rfl (Nat.le_of_ble_eq_true rfl) dX10_adopt_67 ?_
    obtain ⟨hi5, hf6⟩ := chk_inv hf4
    refine x_iald (j := (Int32.toNatClampNeg u3)) h hg a_96 hi5 rfl dX10_adopt_70 (q := 71) rfl ?_
    refine x_iload h dX10_adopt_71 5 rfl (q := 73) rfl ?_
    refine x_ishr h dX10_adopt_73 (q := 74) rfl ?_
    refine x_iconst (v := 1) h dX10_adopt_74 (by decide) (q := 75) rfl ?_
    refine x_iand h dX10_adopt_75 (q := 76) rfl ?_
    refine x_iconst (v := 1) h dX10_adopt_76 (by decide) (q := 77) rfl ?_
    refine x_icmp_ne (tgt := 84) h dX10_adopt_77 (by decide) (q := 80) rfl hf6 (fun hc7 hf8 => ?_) (fun hc7 hf8 => ?_)
    · skip
      refine x_iconst (v := 0) h dX10_adopt_84 (by decide) (q := 85) rfl ?_
      exact w_X10_adopt_b85 σ x1 x2 x3 x4 x5 0 o h hg hL hr k29 k52 hk29 hk52 hf8
    · skip
      refine x_iconst (v := 1) h dX10_adopt_80 (by decide) (q := 81) rfl ?_
      refine x_goto (q := 85) h dX10_adopt_81 (by decide) ?_
      exact w_X10_adopt_b85 σ x1 x2 x3 x4 x5 1 o h hg hL hr k29 k52 hk29 hk52 hf8
set_option maxHeartbeats 4000000 in
set_option maxRecDepth 100000 in
theorem w_X10_adopt_l52 {C : XC} {Q : State → Prop} {g : cG} (x1 : Int32) (x3 : Int32) (x4 : Int32) (o : Int32 × St) (h : XOk C cX10_adopt RX10 tG rmX10_adopt) (hg : XG C g) (hL : C.2.2.2.2.2.2.2.2.2.2.2.2.1 = 7) (hr : XEnd C (some .int) Q (XQ g (some (.int o.1)) o.2) (cA g)) (k29 : (St × Int32 × Int32) → Option (Int32 × St)) (hk29 : ∀ z : St × Int32 × Int32, k29 z = some o → Xs C (wW g) Q z.1 29 [(0, .ref (gA g 87)), (1, .int x1), (2, .int z.2.1), (3, .int z.2.2)] []) : ∀ (n : Nat) (z : St × Int32 × Int32), loopF (fun k z => m_X10_adopt_b52 z.1 x1 z.2.1 x3 x4 z.2.2 k29 k) n z = some o → Xs C (wW g) Q z.1 52 [(0, .ref (gA g 87)), (1, .int x1), (2, .int z.2.1), (3, .int x3), (4, .int x4), (5, .int z.2.2)] [] := by
  intro n z hf
  refine loopF_ind (S := St × Int32 × Int32) (O := Int32 × St) (step := (fun k z => m_X10_adopt_b52 z.1 x1 z.2.1 x3 x4 z.2.2 k29 k)) (o := o) (P := fun z => Xs C (wW g) Q z.1 52 [(0, .ref (gA g 87)), (1, .int x1), (2, .int z.2.1), (3, .int x3), (4, .int x4), (5, .int z.2.2)] []) ?_ n z hf
  intro k hk z hf
  exact w_X10_adopt_b52 z.1 x1 z.2.1 x3 x4 z.2.2 o h hg hL hr k29 k hk29 hk hf
def m_X10_adopt_b29 (σ : St) (x1 : Int32) (x2 : Int32) (x3 : Int32) (k29 : (St × Int32 × Int32) → Option (Int32 × St)) : Option (Int32 × St) :=
  chk 1200 1201 <|
  if (σ 88 1200) ≤ x3 then (
    some (x2, σ)
  ) else (
    (m_X10_strategyOf σ x1 x3).bind fun u5 =>
    loopF (fun k z => m_X10_adopt_b52 z.1 x1 z.2.1 x3 u5.1 z.2.2 k29 k) cFu (u5.2, x2, 0)
  )
set_option maxHeartbeats 4000000 in
set_option maxRecDepth 100000 in
theorem w_X10_adopt_b29 {C : XC} {Q : State → Prop} {g : cG} (σ : St) (x1 : Int32) (x2 : Int32) (x3 : Int32) (o : Int32 × St) (h : XOk C cX10_adopt RX10 tG rmX10_adopt) (hg : XG C g) (hL : C.2.2.2.2.2.2.2.2.2.2.2.2.1 = 7) (hr : XEnd C (some .int) Q (XQ g (some (.int o.1)) o.2) (cA g)) (k29 : (St × Int32 × Int32) → Option (Int32 × St)) (hk29 : ∀ z : St × Int32 × Int32, k29 z = some o → Xs C (wW g) Q z.1 29 [(0, .ref (gA g 87)), (1, .int x1), (2, .int z.2.1), (3, .int z.2.2)] []) (hf : m_X10_adopt_b29 σ x1 x2 x3 k29 = some o) : Xs C (wW g) Q σ 29 [(0, .ref (gA g 87)), (1, .int x1), (2, .int x2), (3, .int x3)] [] := by
  unfold m_X10_adopt_b29 at hf
  refine x_iload_n h dX10_adopt_29 rfl 3 rfl (q := 30) rfl ?_
  refine x_aload_n h dX10_adopt_30 rfl 0 rfl (q := 31) rfl ?_
  refine x_get_X10_87_1 h hg kf_X10_7 nn_X10 dX10_adopt_31 ?_
  refine x_sipush (v := 1200) h dX10_adopt_34 (by decide) (q := 37) rfl ?_
  obtain ⟨hi1, hf2⟩ := chk_inv hf
  refine x_iald (j := 1200) h hg a_88 hi1 (by decide) dX10_adopt_37 (q := 38) rfl ?_
  refine x_icmp_ge (tgt := 179) h dX10_adopt_38 (by decide) (q := 41) rfl hf2 (fun hc3 hf4 => ?_) (fun hc3 hf4 => ?_)
  · skip
    refine x_iload_n h dX10_adopt_179 rfl 2 rfl (q := 180) rfl ?_
    have hz := Option.some.inj hf4
    subst hz
    exact x_iret h hg hr dX10_adopt_180
  · skip
    refine x_aload_n h dX10_adopt_41 rfl 0 rfl (q := 42) rfl ?_
    refine x_iload_n h dX10_adopt_42 rfl 1 rfl (q := 43) rfl ?_
    refine x_iload_n h dX10_adopt_43 rfl 3 rfl (q := 44) rfl ?_
    obtain ⟨u5, hu5, hf6⟩ := bnd_inv hf4
    refine x_callVi (As := [.int x1, .int x3]) (rest := []) h hg (c_X10_strategyOf C.2.1 hg.2.1 σ x1 x3 _ hu5) ml_X10_264 biX10_strategyOf rfl rfl hdX10_strategyOf ⟨Nat.le_of_ble_eq_true rfl, Nat.le_of_ble_eq_true rfl⟩ (by decide) (cE_87 g _) rfl rfl rfl (Nat.le_of_ble_eq_true rfl) dX10_adopt_44 ?_
    refine x_istore (lv' := [(4, .int u5.1), (0, .ref (gA g 87)), (1, .int x1), (2, .int x2), (3, .int x3)]) h dX10_adopt_47 hL (by decide) rfl (q := 49) rfl ?_
    refine x_iconst (v := 0) h dX10_adopt_49 (by decide) (q := 50) rfl ?_
    refine x_istore (lv' := [(5, .int 0), (4, .int u5.1), (0, .ref (gA g 87)), (1, .int x1), (2, .int x2), (3, .int x3)]) h dX10_adopt_50 hL (by decide) rfl (q := 52) rfl ?_
    refine x_sub (lv' := [(0, .ref (gA g 87)), (1, .int x1), (2, .int x2), (3, .int x3), (4, .int u5.1), (5, .int 0)]) [2, 3, 4, 5, 1, 0] rfl ?_
    exact w_X10_adopt_l52 x1 x3 u5.1 o h hg hL hr k29 hk29  cFu (u5.2, x2, 0) hf6
set_option maxHeartbeats 4000000 in
set_option maxRecDepth 100000 in
theorem w_X10_adopt_l29 {C : XC} {Q : State → Prop} {g : cG} (x1 : Int32) (o : Int32 × St) (h : XOk C cX10_adopt RX10 tG rmX10_adopt) (hg : XG C g) (hL : C.2.2.2.2.2.2.2.2.2.2.2.2.1 = 7) (hr : XEnd C (some .int) Q (XQ g (some (.int o.1)) o.2) (cA g)) : ∀ (n : Nat) (z : St × Int32 × Int32), loopF (fun k z => m_X10_adopt_b29 z.1 x1 z.2.1 z.2.2 k) n z = some o → Xs C (wW g) Q z.1 29 [(0, .ref (gA g 87)), (1, .int x1), (2, .int z.2.1), (3, .int z.2.2)] [] := by
  intro n z hf
  refine loopF_ind (S := St × Int32 × Int32) (O := Int32 × St) (step := (fun k z => m_X10_adopt_b29 z.1 x1 z.2.1 z.2.2 k)) (o := o) (P := fun z => Xs C (wW g) Q z.1 29 [(0, .ref (gA g 87)), (1, .int x1), (2, .int z.2.1), (3, .int z.2.2)] []) ?_ n z hf
  intro k hk z hf
  exact w_X10_adopt_b29 z.1 x1 z.2.1 z.2.2 o h hg hL hr k hk hf
def m_X10_adopt (σ : St) (x1 : Int32) : Option (Int32 × St) :=
  if (bI (m_X10_isFormula σ x1)) = 0 then (
    some ((-1), σ)
  ) else (
    (m_X10_isGoal σ x1).bind fun u3 =>
    if (bI u3) = 0 then (
      some ((-3), σ)
    ) else (
      (m_X10_edit σ).bind fun u7 =>
      loopF (fun k z => m_X10_adopt_b29 z.1 x1 z.2.1 z.2.2 k) cFu (u7, 0, 0)
    )
  )
set_option maxHeartbeats 4000000 in
set_option maxRecDepth 100000 in
theorem w_X10_adopt {C : XC} {Q : State → Prop} {g : cG} (σ : St) (x1 : Int32) (o : Int32 × St) (h : XOk C cX10_adopt RX10 tG rmX10_adopt) (hg : XG C g) (hL : C.2.2.2.2.2.2.2.2.2.2.2.2.1 = 7) (hr : XEnd C (some .int) Q (XQ g (some (.int o.1)) o.2) (cA g)) (hf : m_X10_adopt σ x1 = some o) : Xs C (wW g) Q σ 0 [(0, .ref (gA g 87)), (1, .int x1)] [] := by
  unfold m_X10_adopt at hf
  refine x_aload_n h dX10_adopt_0 rfl 0 rfl (q := 1) rfl ?_
  refine x_iload_n h dX10_adopt_1 rfl 1 rfl (q := 2) rfl ?_
  refine x_callVi (As := [.int x1]) (rest := []) h hg (c_X10_isFormula C.2.1 hg.2.1 σ x1 _ rfl) ml_X10_203 biX10_isFormula rfl rfl hdX10_isFormula ⟨Nat.le_of_ble_eq_true rfl, Nat.le_of_ble_eq_true rfl⟩ (by decide) (cE_87 g _) rfl rfl rfl (Nat.le_of_ble_eq_true rfl) dX10_adopt_2 ?_
  refine x_if_ne (tgt := 10) h dX10_adopt_5 (by decide) (q := 8) rfl hf (fun hc1 hf2 => ?_) (fun hc1 hf2 => ?_)
  · skip
    refine x_aload_n h dX10_adopt_10 rfl 0 rfl (q := 11) rfl ?_
    refine x_iload_n h dX10_adopt_11 rfl 1 rfl (q := 12) rfl ?_
    obtain ⟨u3, hu3, hf4⟩ := bnd_inv hf2
    refine x_callVi (As := [.int x1]) (rest := []) h hg (c_X10_isGoal C.2.1 hg.2.1 σ x1 _ hu3) ml_X10_261 biX10_isGoal rfl rfl hdX10_isGoal ⟨Nat.le_of_ble_eq_true rfl, Nat.le_of_ble_eq_true rfl⟩ (by decide) (cE_87 g _) rfl rfl rfl (Nat.le_of_ble_eq_true rfl) dX10_adopt_12 ?_
    refine x_if_ne (tgt := 21) h dX10_adopt_15 (by decide) (q := 18) rfl hf4 (fun hc5 hf6 => ?_) (fun hc5 hf6 => ?_)
    · skip
      refine x_aload_n h dX10_adopt_21 rfl 0 rfl (q := 22) rfl ?_
      obtain ⟨u7, hu7, hf8⟩ := bnd_inv hf6
      refine x_callVv (As := []) (rest := []) h hg (c_X10_edit C.2.1 hg.2.1 σ _ hu7) ml_X10_122 biX10_edit rfl rfl hdX10_edit ⟨Nat.le_of_ble_eq_true rfl, Nat.le_of_ble_eq_true rfl⟩ (by decide) (cE_87 g _) rfl rfl rfl (Nat.le_of_ble_eq_true rfl) dX10_adopt_22 ?_
      refine x_iconst (v := 0) h dX10_adopt_25 (by decide) (q := 26) rfl ?_
      refine x_istore_n (lv' := [(2, .int 0), (0, .ref (gA g 87)), (1, .int x1)]) h dX10_adopt_26 rfl hL (by decide) rfl (q := 27) rfl ?_
      refine x_iconst (v := 0) h dX10_adopt_27 (by decide) (q := 28) rfl ?_
      refine x_istore_n (lv' := [(3, .int 0), (2, .int 0), (0, .ref (gA g 87)), (1, .int x1)]) h dX10_adopt_28 rfl hL (by decide) rfl (q := 29) rfl ?_
      refine x_sub (lv' := [(0, .ref (gA g 87)), (1, .int x1), (2, .int 0), (3, .int 0)]) [2, 3, 1, 0] rfl ?_
      exact w_X10_adopt_l29 x1 o h hg hL hr  cFu (u7, 0, 0) hf8
    · skip
      refine x_bipush (v := (-3)) h dX10_adopt_18 (by decide) (q := 20) rfl ?_
      have hz := Option.some.inj hf6
      subst hz
      exact x_iret h hg hr dX10_adopt_20
  · skip
    refine x_iconst (v := (-1)) h dX10_adopt_8 (by decide) (q := 9) rfl ?_
    have hz := Option.some.inj hf2
    subst hz
    exact x_iret h hg hr dX10_adopt_9
theorem c_X10_adopt (l : Launch) {g : cG} (hi : gInj g) (σ : St) (x1 : Int32) (o : Int32 × St) (hf : m_X10_adopt σ x1 = some o) : Met l yX10_adopt (wT yX10_adopt cX10_adopt 7 (some .int)) rmX10_adopt (va_Pc [.ref (gA g 87), .int x1] (XPre g σ)) (XQ g (some (.int o.1)) o.2) 0 0 (cA g) :=
  X_met RX10 hi plX10 rfl (Nat.le_of_ble_eq_true rfl) rfl (fun _ _ _ h hg hL hr => w_X10_adopt σ x1 o h hg hL hr hf)
