abbrev rmX6_spread : Room := { frames := 1, cells := 0, slots := 0, locals := 22 }
theorem hdX6_spread : yX6_spread.cls = RX6 ∧ yX6_spread.cls ≠ "java/lang/invoke/MethodHandle" ∧ yX6_spread.cls ≠ "java/lang/invoke/VarHandle" ∧ (parseMethodDescriptor yX6_spread.desc).map (fun d => d.parameters.length) = some 4 := by decide +kernel
def m_X6_spread_b27 (σ : St) (t3 : Nat) (t4 : Nat) (x1 : Int32) (x2 : Int32) (x5 : Int32) (k27 : (St × Int32) → Option (St)) : Option (St) :=
  if (σ 0 2) ≤ x5 then (
    some σ
  ) else (
    if (rAt 972 (σ 4) ((x2 * 81) + x5)) = (-1) then (
      k27 (σ, (x5 + 1))
    ) else (
      k27 ((rPut σ t4 81 (rAt 1296 (σ 70) ((x1 * 81) + x5)) ((rAt 81 (σ t4) (rAt 1296 (σ 70) ((x1 * 81) + x5))) ||| ((1 : Int32) <<< ((rAt 12 (σ t3) (rAt 972 (σ 4) ((x2 * 81) + x5))) &&& 31)))), (x5 + 1))
    )
  )
set_option maxHeartbeats 4000000 in
set_option maxRecDepth 100000 in
theorem w_X6_spread_b27 {C : XC} {Q : State → Prop} {g : cG} (σ : St) (t3 : Nat) (t4 : Nat) (x1 : Int32) (x2 : Int32) (x5 : Int32) (ht3 : isA t3 12) (ht4 : isA t4 81) (o : St) (h : XOk C cX6_spread RX6 tG rmX6_spread) (hg : XG C g) (hL : C.2.2.2.2.2.2.2.2.2.2.2.2.1 = 8) (hr : XEnd C none Q (XQ g (none) o) (cA g)) (k27 : (St × Int32) → Option (St)) (hk27 : ∀ z : St × Int32, k27 z = some o → Xs C (wW g) Q z.1 27 [(0, .ref (gA g 69)), (1, .int x1), (2, .int x2), (3, .ref (gA g t3)), (4, .ref (gA g t4)), (5, .int z.2)] []) (hf : m_X6_spread_b27 σ t3 t4 x1 x2 x5 k27 = some o) : Xs C (wW g) Q σ 27 [(0, .ref (gA g 69)), (1, .int x1), (2, .int x2), (3, .ref (gA g t3)), (4, .ref (gA g t4)), (5, .int x5)] [] := by
  unfold m_X6_spread_b27 at hf
  refine x_iload h dX6_spread_27 5 rfl (q := 29) rfl ?_
  refine x_aload_n h dX6_spread_29 rfl 0 rfl (q := 30) rfl ?_
  refine x_get_X6_69_0 h hg kf_X6_21 nn_X6 dX6_spread_30 ?_
  refine x_get_X7_0_2 h hg kf_X6_35 nn_X7 dX6_spread_33 ?_
  refine x_icmp_ge (tgt := 109) h dX6_spread_36 (by decide) (q := 39) rfl hf (fun hc1 hf2 => ?_) (fun hc1 hf2 => ?_)
  · skip
    have hz := Option.some.inj hf2
    subst hz
    exact x_vret h hg hr dX6_spread_109
  · skip
    refine x_aload_n h dX6_spread_39 rfl 0 rfl (q := 40) rfl ?_
    refine x_get_X6_69_0 h hg kf_X6_21 nn_X6 dX6_spread_40 ?_
    refine x_get_X7_0_6 h hg kf_X6_41 nn_X7 dX6_spread_43 ?_
    refine x_iload_n h dX6_spread_46 rfl 2 rfl (q := 47) rfl ?_
    refine x_bipush (v := 81) h dX6_spread_47 (by decide) (q := 49) rfl ?_
    refine x_imul h dX6_spread_49 (q := 50) rfl ?_
    refine x_iload h dX6_spread_50 5 rfl (q := 52) rfl ?_
    refine x_iadd h dX6_spread_52 (q := 53) rfl ?_
    refine x_callSi (As := [.ref (gA g 4), .int ((x2 * 81) + x5)]) (rest := []) h hg (c_X5_at C.2.1 hg.2.1 σ a_4 ((x2 * 81) + x5)) ml_X6_44 biX5_at rfl rfl hdX5_at ⟨Nat.le_of_ble_eq_true rfl, Nat.le_of_ble_eq_true rfl⟩ rfl rfl (Nat.le_of_ble_eq_true rfl) dX6_spread_53 ?_
    refine x_istore (lv' := [(6, .int (rAt 972 (σ 4) ((x2 * 81) + x5))), (0, .ref (gA g 69)), (1, .int x1), (2, .int x2), (3, .ref (gA g t3)), (4, .ref (gA g t4)), (5, .int x5)]) h dX6_spread_56 hL (by decide) rfl (q := 58) rfl ?_
    refine x_iload h dX6_spread_58 0 rfl (q := 60) rfl ?_
    refine x_iconst (v := (-1)) h dX6_spread_60 (by decide) (q := 61) rfl ?_
    refine x_icmp_eq (tgt := 103) h dX6_spread_61 (by decide) (q := 64) rfl hf2 (fun hc3 hf4 => ?_) (fun hc3 hf4 => ?_)
    · skip
      refine x_iinc (v := (x5 + 1)) (lv' := [(5, .int (x5 + 1)), (6, .int (rAt 972 (σ 4) ((x2 * 81) + x5))), (0, .ref (gA g 69)), (1, .int x1), (2, .int x2), (3, .ref (gA g t3)), (4, .ref (gA g t4))]) (j := 6) h dX6_spread_103 rfl rfl hL (by decide) rfl (q := 106) rfl ?_
      refine x_goto (q := 27) h dX6_spread_106 (by decide) ?_
      refine x_sub (lv' := [(0, .ref (gA g 69)), (1, .int x1), (2, .int x2), (3, .ref (gA g t3)), (4, .ref (gA g t4)), (5, .int (x5 + 1))]) [2, 3, 4, 5, 6, 0] rfl ?_
      exact hk27 (σ, (x5 + 1)) hf4
    · skip
      refine x_aload_n h dX6_spread_64 rfl 1 rfl (q := 65) rfl ?_
      refine x_get_X6_69_1 h hg kf_X6_9 nn_X6 dX6_spread_65 ?_
      refine x_iload_n h dX6_spread_68 rfl 2 rfl (q := 69) rfl ?_
      refine x_bipush (v := 81) h dX6_spread_69 (by decide) (q := 71) rfl ?_
      refine x_imul h dX6_spread_71 (q := 72) rfl ?_
      refine x_iload h dX6_spread_72 6 rfl (q := 74) rfl ?_
      refine x_iadd h dX6_spread_74 (q := 75) rfl ?_
      refine x_callSi (As := [.ref (gA g 70), .int ((x1 * 81) + x5)]) (rest := []) h hg (c_X5_at C.2.1 hg.2.1 σ a_70 ((x1 * 81) + x5)) ml_X6_44 biX5_at rfl rfl hdX5_at ⟨Nat.le_of_ble_eq_true rfl, Nat.le_of_ble_eq_true rfl⟩ rfl rfl (Nat.le_of_ble_eq_true rfl) dX6_spread_75 ?_
      refine x_istore (lv' := [(7, .int (rAt 1296 (σ 70) ((x1 * 81) + x5))), (6, .int (rAt 972 (σ 4) ((x2 * 81) + x5))), (0, .ref (gA g 69)), (1, .int x1), (2, .int x2), (3, .ref (gA g t3)), (4, .ref (gA g t4)), (5, .int x5)]) h dX6_spread_78 hL (by decide) rfl (q := 80) rfl ?_
      refine x_aload h dX6_spread_80 6 rfl (q := 82) rfl ?_
      refine x_iload h dX6_spread_82 0 rfl (q := 84) rfl ?_
      refine x_aload h dX6_spread_84 6 rfl (q := 86) rfl ?_
      refine x_iload h dX6_spread_86 0 rfl (q := 88) rfl ?_
      refine x_callSi (As := [.ref (gA g t4), .int (rAt 1296 (σ 70) ((x1 * 81) + x5))]) (rest := [.int (rAt 1296 (σ 70) ((x1 * 81) + x5)), .ref (gA g t4)]) h hg (c_X5_at C.2.1 hg.2.1 σ ht4 (rAt 1296 (σ 70) ((x1 * 81) + x5))) ml_X6_44 biX5_at rfl rfl hdX5_at ⟨Nat.le_of_ble_eq_true rfl, Nat.le_of_ble_eq_true rfl⟩ rfl rfl (Nat.le_of_ble_eq_true rfl) dX6_spread_88 ?_
      refine x_iconst (v := 1) h dX6_spread_91 (by decide) (q := 92) rfl ?_
      refine x_aload_n h dX6_spread_92 rfl 5 rfl (q := 93) rfl ?_
      refine x_iload h dX6_spread_93 1 rfl (q := 95) rfl ?_
      refine x_callSi (As := [.ref (gA g t3), .int (rAt 972 (σ 4) ((x2 * 81) + x5))]) (rest := [.int 1, .int (rAt 81 (σ t4) (rAt 1296 (σ 70) ((x1 * 81) + x5))), .int (rAt 1296 (σ 70) ((x1 * 81) + x5)), .ref (gA g t4)]) h hg (c_X5_at C.2.1 hg.2.1 σ ht3 (rAt 972 (σ 4) ((x2 * 81) + x5))) ml_X6_44 biX5_at rfl rfl hdX5_at ⟨Nat.le_of_ble_eq_true rfl, Nat.le_of_ble_eq_true rfl⟩ rfl rfl (Nat.le_of_ble_eq_true rfl) dX6_spread_95 ?_
      refine x_ishl h dX6_spread_98 (q := 99) rfl ?_
      refine x_ior h dX6_spread_99 (q := 100) rfl ?_
      refine x_callSv (As := [.ref (gA g t4), .int (rAt 1296 (σ 70) ((x1 * 81) + x5)), .int ((rAt 81 (σ t4) (rAt 1296 (σ 70) ((x1 * 81) + x5))) ||| ((1 : Int32) <<< ((rAt 12 (σ t3) (rAt 972 (σ 4) ((x2 * 81) + x5))) &&& 31)))]) (rest := []) h hg (c_X5_put C.2.1 hg.2.1 σ ht4 (rAt 1296 (σ 70) ((x1 * 81) + x5)) ((rAt 81 (σ t4) (rAt 1296 (σ 70) ((x1 * 81) + x5))) ||| ((1 : Int32) <<< ((rAt 12 (σ t3) (rAt 972 (σ 4) ((x2 * 81) + x5))) &&& 31)))) ml_X6_29 biX5_put rfl rfl hdX5_put ⟨Nat.le_of_ble_eq_true rfl, Nat.le_of_ble_eq_true rfl⟩ rfl rfl (Nat.le_of_ble_eq_true rfl) dX6_spread_100 ?_
      refine x_iinc (v := (x5 + 1)) (lv' := [(5, .int (x5 + 1)), (7, .int (rAt 1296 (σ 70) ((x1 * 81) + x5))), (6, .int (rAt 972 (σ 4) ((x2 * 81) + x5))), (0, .ref (gA g 69)), (1, .int x1), (2, .int x2), (3, .ref (gA g t3)), (4, .ref (gA g t4))]) (j := 7) h dX6_spread_103 rfl rfl hL (by decide) rfl (q := 106) rfl ?_
      refine x_goto (q := 27) h dX6_spread_106 (by decide) ?_
      refine x_sub (lv' := [(0, .ref (gA g 69)), (1, .int x1), (2, .int x2), (3, .ref (gA g t3)), (4, .ref (gA g t4)), (5, .int (x5 + 1))]) [3, 4, 5, 6, 7, 0] rfl ?_
      exact hk27 ((rPut σ t4 81 (rAt 1296 (σ 70) ((x1 * 81) + x5)) ((rAt 81 (σ t4) (rAt 1296 (σ 70) ((x1 * 81) + x5))) ||| ((1 : Int32) <<< ((rAt 12 (σ t3) (rAt 972 (σ 4) ((x2 * 81) + x5))) &&& 31)))), (x5 + 1)) hf4
set_option maxHeartbeats 4000000 in
set_option maxRecDepth 100000 in
theorem w_X6_spread_l27 {C : XC} {Q : State → Prop} {g : cG} (t3 : Nat) (t4 : Nat) (x1 : Int32) (x2 : Int32) (ht3 : isA t3 12) (ht4 : isA t4 81) (o : St) (h : XOk C cX6_spread RX6 tG rmX6_spread) (hg : XG C g) (hL : C.2.2.2.2.2.2.2.2.2.2.2.2.1 = 8) (hr : XEnd C none Q (XQ g (none) o) (cA g)) : ∀ (n : Nat) (z : St × Int32), loopF (fun k z => m_X6_spread_b27 z.1 t3 t4 x1 x2 z.2 k) n z = some o → Xs C (wW g) Q z.1 27 [(0, .ref (gA g 69)), (1, .int x1), (2, .int x2), (3, .ref (gA g t3)), (4, .ref (gA g t4)), (5, .int z.2)] [] := by
  intro n z hf
  refine loopF_ind (S := St × Int32) (O := St) (step := (fun k z => m_X6_spread_b27 z.1 t3 t4 x1 x2 z.2 k)) (o := o) (P := fun z => Xs C (wW g) Q z.1 27 [(0, .ref (gA g 69)), (1, .int x1), (2, .int x2), (3, .ref (gA g t3)), (4, .ref (gA g t4)), (5, .int z.2)] []) ?_ n z hf
  intro k hk z hf
  exact w_X6_spread_b27 z.1 t3 t4 x1 x2 z.2 ht3 ht4 o h hg hL hr k hk hf
def m_X6_spread_b3 (σ : St) (t3 : Nat) (t4 : Nat) (x1 : Int32) (x2 : Int32) (x5 : Int32) (k3 : (St × Int32) → Option (St)) : Option (St) :=
  if 81 ≤ x5 then (
    loopF (fun k z => m_X6_spread_b27 z.1 t3 t4 x1 x2 z.2 k) cFu (σ, 0)
  ) else (
    k3 ((rPut σ t4 81 x5 0), (x5 + 1))
  )
set_option maxHeartbeats 4000000 in
set_option maxRecDepth 100000 in
theorem w_X6_spread_b3 {C : XC} {Q : State → Prop} {g : cG} (σ : St) (t3 : Nat) (t4 : Nat) (x1 : Int32) (x2 : Int32) (x5 : Int32) (ht3 : isA t3 12) (ht4 : isA t4 81) (o : St) (h : XOk C cX6_spread RX6 tG rmX6_spread) (hg : XG C g) (hL : C.2.2.2.2.2.2.2.2.2.2.2.2.1 = 8) (hr : XEnd C none Q (XQ g (none) o) (cA g)) (k3 : (St × Int32) → Option (St)) (hk3 : ∀ z : St × Int32, k3 z = some o → Xs C (wW g) Q z.1 3 [(0, .ref (gA g 69)), (1, .int x1), (2, .int x2), (3, .ref (gA g t3)), (4, .ref (gA g t4)), (5, .int z.2)] []) (hf : m_X6_spread_b3 σ t3 t4 x1 x2 x5 k3 = some o) : Xs C (wW g) Q σ 3 [(0, .ref (gA g 69)), (1, .int x1), (2, .int x2), (3, .ref (gA g t3)), (4, .ref (gA g t4)), (5, .int x5)] [] := by
  unfold m_X6_spread_b3 at hf
  refine x_iload h dX6_spread_3 5 rfl (q := 5) rfl ?_
  refine x_bipush (v := 81) h dX6_spread_5 (by decide) (q := 7) rfl ?_
  refine x_icmp_ge (tgt := 24) h dX6_spread_7 (by decide) (q := 10) rfl hf (fun hc1 hf2 => ?_) (fun hc1 hf2 => ?_)
  · skip
    refine x_iconst (v := 0) h dX6_spread_24 (by decide) (q := 25) rfl ?_
    refine x_istore (lv' := [(5, .int 0), (0, .ref (gA g 69)), (1, .int x1), (2, .int x2), (3, .ref (gA g t3)), (4, .ref (gA g t4))]) h dX6_spread_25 hL (by decide) rfl (q := 27) rfl ?_
    refine x_sub (lv' := [(0, .ref (gA g 69)), (1, .int x1), (2, .int x2), (3, .ref (gA g t3)), (4, .ref (gA g t4)), (5, .int 0)]) [1, 2, 3, 4, 5, 0] rfl ?_
    exact w_X6_spread_l27 t3 t4 x1 x2 ht3 ht4 o h hg hL hr  cFu (σ, 0) hf2
  · skip
    refine x_aload h dX6_spread_10 4 rfl (q := 12) rfl ?_
    refine x_iload h dX6_spread_12 5 rfl (q := 14) rfl ?_
    refine x_iconst (v := 0) h dX6_spread_14 (by decide) (q := 15) rfl ?_
    refine x_callSv (As := [.ref (gA g t4), .int x5, .int 0]) (rest := []) h hg (c_X5_put C.2.1 hg.2.1 σ ht4 x5 0) ml_X6_29 biX5_put rfl rfl hdX5_put ⟨Nat.le_of_ble_eq_true rfl, Nat.le_of_ble_eq_true rfl⟩ rfl rfl (Nat.le_of_ble_eq_true rfl) dX6_spread_15 ?_
    refine x_iinc (v := (x5 + 1)) (lv' := [(5, .int (x5 + 1)), (0, .ref (gA g 69)), (1, .int x1), (2, .int x2), (3, .ref (gA g t3)), (4, .ref (gA g t4))]) (j := 5) h dX6_spread_18 rfl rfl hL (by decide) rfl (q := 21) rfl ?_
    refine x_goto (q := 3) h dX6_spread_21 (by decide) ?_
    refine x_sub (lv' := [(0, .ref (gA g 69)), (1, .int x1), (2, .int x2), (3, .ref (gA g t3)), (4, .ref (gA g t4)), (5, .int (x5 + 1))]) [1, 2, 3, 4, 5, 0] rfl ?_
    exact hk3 ((rPut σ t4 81 x5 0), (x5 + 1)) hf2
set_option maxHeartbeats 4000000 in
set_option maxRecDepth 100000 in
theorem w_X6_spread_l3 {C : XC} {Q : State → Prop} {g : cG} (t3 : Nat) (t4 : Nat) (x1 : Int32) (x2 : Int32) (ht3 : isA t3 12) (ht4 : isA t4 81) (o : St) (h : XOk C cX6_spread RX6 tG rmX6_spread) (hg : XG C g) (hL : C.2.2.2.2.2.2.2.2.2.2.2.2.1 = 8) (hr : XEnd C none Q (XQ g (none) o) (cA g)) : ∀ (n : Nat) (z : St × Int32), loopF (fun k z => m_X6_spread_b3 z.1 t3 t4 x1 x2 z.2 k) n z = some o → Xs C (wW g) Q z.1 3 [(0, .ref (gA g 69)), (1, .int x1), (2, .int x2), (3, .ref (gA g t3)), (4, .ref (gA g t4)), (5, .int z.2)] [] := by
  intro n z hf
  refine loopF_ind (S := St × Int32) (O := St) (step := (fun k z => m_X6_spread_b3 z.1 t3 t4 x1 x2 z.2 k)) (o := o) (P := fun z => Xs C (wW g) Q z.1 3 [(0, .ref (gA g 69)), (1, .int x1), (2, .int x2), (3, .ref (gA g t3)), (4, .ref (gA g t4)), (5, .int z.2)] []) ?_ n z hf
  intro k hk z hf
  exact w_X6_spread_b3 z.1 t3 t4 x1 x2 z.2 ht3 ht4 o h hg hL hr k hk hf
def m_X6_spread (σ : St) (t3 : Nat) (t4 : Nat) (x1 : Int32) (x2 : Int32) : Option (St) :=
  loopF (fun k z => m_X6_spread_b3 z.1 t3 t4 x1 x2 z.2 k) cFu (σ, 0)
set_option maxHeartbeats 4000000 in
set_option maxRecDepth 100000 in
theorem w_X6_spread {C : XC} {Q : State → Prop} {g : cG} (σ : St) (t3 : Nat) (t4 : Nat) (x1 : Int32) (x2 : Int32) (ht3 : isA t3 12) (ht4 : isA t4 81) (o : St) (h : XOk C cX6_spread RX6 tG rmX6_spread) (hg : XG C g) (hL : C.2.2.2.2.2.2.2.2.2.2.2.2.1 = 8) (hr : XEnd C none Q (XQ g (none) o) (cA g)) (hf : m_X6_spread σ t3 t4 x1 x2 = some o) : Xs C (wW g) Q σ 0 [(0, .ref (gA g 69)), (1, .int x1), (2, .int x2), (3, .ref (gA g t3)), (4, .ref (gA g t4))] [] := by
  unfold m_X6_spread at hf
  refine x_iconst (v := 0) h dX6_spread_0 (by decide) (q := 1) rfl ?_
  refine x_istore (lv' := [(5, .int 0), (0, .ref (gA g 69)), (1, .int x1), (2, .int x2), (3, .ref (gA g t3)), (4, .ref (gA g t4))]) h dX6_spread_1 hL (by decide) rfl (q := 3) rfl ?_
  refine x_sub (lv' := [(0, .ref (gA g 69)), (1, .int x1), (2, .int x2), (3, .ref (gA g t3)), (4, .ref (gA g t4)), (5, .int 0)]) [1, 2, 3, 4, 5, 0] rfl ?_
  exact w_X6_spread_l3 t3 t4 x1 x2 ht3 ht4 o h hg hL hr  cFu (σ, 0) hf
theorem c_X6_spread (l : Launch) {g : cG} (hi : gInj g) (σ : St) (t3 : Nat) (t4 : Nat) (x1 : Int32) (x2 : Int32) (ht3 : isA t3 12) (ht4 : isA t4 81) (o : St) (hf : m_X6_spread σ t3 t4 x1 x2 = some o) : Met l yX6_spread (wT yX6_spread cX6_spread 8 none) rmX6_spread (va_Pc [.ref (gA g 69), .int x1, .int x2, .ref (gA g t3), .ref (gA g t4)] (XPre g σ)) (XQ g (none) o) 0 0 (cA g) :=
  X_met RX6 hi plX6 rfl (Nat.le_of_ble_eq_true rfl) rfl (fun _ _ _ h hg hL hr => w_X6_spread σ t3 t4 x1 x2 ht3 ht4 o h hg hL hr hf)
abbrev rmX6_isForced : Room := { frames := 0, cells := 0, slots := 0, locals := 0 }
theorem hdX6_isForced : yX6_isForced.cls ≠ "java/lang/invoke/MethodHandle" ∧ yX6_isForced.cls ≠ "java/lang/invoke/VarHandle" ∧ (parseMethodDescriptor yX6_isForced.desc).map (fun d => d.parameters.length) = some 2 := by decide +kernel
def m_X6_isForced (x0 : Int32) (x1 : Int32) : Bool :=
  if x0 = 0 then (
    false
  ) else (
    if (x0 &&& (x1 ^^^ (-1))) = 0 then (
      true
    ) else (
      false
    )
  )
set_option maxHeartbeats 4000000 in
set_option maxRecDepth 100000 in
theorem w_X6_isForced {C : XC} {Q : State → Prop} {H0 : Heap} {σ : St} (x0 : Int32) (x1 : Int32) (o : Bool) (h : XOk C cX6_isForced RX6 tG rmX6_isForced) (hH : H0 = C.2.2.2.2.1.heap) (hL : C.2.2.2.2.2.2.2.2.2.2.2.2.1 = 2) (hr : XEnd C (some .boolean) Q (XQp (some (.int (bI o)))) (fun _ => False)) (hf : m_X6_isForced x0 x1 = o) : Xs C (fun _ H => H = H0) Q σ 0 [(0, .int x0), (1, .int x1)] [] := by
  unfold m_X6_isForced at hf
  refine x_iload_n h dX6_isForced_0 rfl 0 rfl (q := 1) rfl ?_
  refine x_if_eq (tgt := 16) h dX6_isForced_1 (by decide) (q := 4) rfl hf (fun hc1 hf2 => ?_) (fun hc1 hf2 => ?_)
  · skip
    refine x_iconst (v := 0) h dX6_isForced_16 (by decide) (q := 17) rfl ?_
    subst hf2
    exact x_zretP (b := false) h hr hH dX6_isForced_17
  · skip
    refine x_iload_n h dX6_isForced_4 rfl 0 rfl (q := 5) rfl ?_
    refine x_iload_n h dX6_isForced_5 rfl 1 rfl (q := 6) rfl ?_
    refine x_iconst (v := (-1)) h dX6_isForced_6 (by decide) (q := 7) rfl ?_
    refine x_ixor h dX6_isForced_7 (q := 8) rfl ?_
    refine x_iand h dX6_isForced_8 (q := 9) rfl ?_
    refine x_if_ne (tgt := 16) h dX6_isForced_9 (by decide) (q := 12) rfl hf2 (fun hc3 hf4 => ?_) (fun hc3 hf4 => ?_)
    · skip
      refine x_iconst (v := 0) h dX6_isForced_16 (by decide) (q := 17) rfl ?_
      subst hf4
      exact x_zretP (b := false) h hr hH dX6_isForced_17
    · skip
      refine x_iconst (v := 1) h dX6_isForced_12 (by decide) (q := 13) rfl ?_
      refine x_goto (q := 17) h dX6_isForced_13 (by decide) ?_
      subst hf4
      exact x_zretP (b := true) h hr hH dX6_isForced_17
theorem c_X6_isForced (l : Launch) (x0 : Int32) (x1 : Int32) (o : Bool) (hf : m_X6_isForced x0 x1 = o) : Met l yX6_isForced (wT yX6_isForced cX6_isForced 2 (some .boolean)) rmX6_isForced (va_Pc [.int x0, .int x1] (fun _ => True)) (XQp (some (.int (bI o)))) 0 0 (fun _ => False) :=
  X_metP RX6 plX6 rfl (Nat.le_of_ble_eq_true rfl) rfl (fun _ _ _ _ _ h hH hL hr => w_X6_isForced x0 x1 o h hH hL hr hf)
abbrev rmX6_chosenJoint : Room := { frames := 1, cells := 0, slots := 0, locals := 21 }
theorem hdX6_chosenJoint : yX6_chosenJoint.cls = RX6 ∧ yX6_chosenJoint.cls ≠ "java/lang/invoke/MethodHandle" ∧ yX6_chosenJoint.cls ≠ "java/lang/invoke/VarHandle" ∧ (parseMethodDescriptor yX6_chosenJoint.desc).map (fun d => d.parameters.length) = some 2 := by decide +kernel
def m_X6_chosenJoint_b64 (σ : St) (x1 : Int32) (x2 : Int32) (x3 : Int32) (x4 : Int32) (x5 : Int32) (x7 : Int32) (s0 : Int32) (k8 : (Int32 × Int32 × Int32) → Option (Int32)) : Option (Int32) :=
  if s0 = 0 then (
    k8 (x3, (x4 * 3), (x5 + 1))
  ) else (
    if ((x1 >>> (x5 &&& 31)) &&& 1) = 0 then (
      k8 (x3, (x4 * 3), (x5 + 1))
    ) else (
      k8 ((x3 + (x7 * x4)), (x4 * 3), (x5 + 1))
    )
  )
set_option maxHeartbeats 4000000 in
set_option maxRecDepth 100000 in
theorem w_X6_chosenJoint_b64 {C : XC} {Q : State → Prop} {g : cG} (σ : St) (x1 : Int32) (x2 : Int32) (x3 : Int32) (x4 : Int32) (x5 : Int32) (x7 : Int32) (s0 : Int32) (o : Int32) (h : XOk C cX6_chosenJoint RX6 tG rmX6_chosenJoint) (hg : XG C g) (hL : C.2.2.2.2.2.2.2.2.2.2.2.2.1 = 9) (hr : XEnd C (some .int) Q (XQ g (some (.int o)) σ) (cA g)) (k8 : (Int32 × Int32 × Int32) → Option (Int32)) (hk8 : ∀ z : Int32 × Int32 × Int32, k8 z = some o → Xs C (wW g) Q σ 8 [(0, .ref (gA g 69)), (1, .int x1), (2, .int x2), (3, .int z.1), (4, .int z.2.1), (5, .int z.2.2)] []) (hf : m_X6_chosenJoint_b64 σ x1 x2 x3 x4 x5 x7 s0 k8 = some o) : Xs C (wW g) Q σ 64 [(0, .ref (gA g 69)), (1, .int x1), (2, .int x2), (3, .int x3), (4, .int x4), (5, .int x5), (7, .int x7)] [.int s0] := by
  unfold m_X6_chosenJoint_b64 at hf
  refine x_istore (lv' := [(8, .int s0), (0, .ref (gA g 69)), (1, .int x1), (2, .int x2), (3, .int x3), (4, .int x4), (5, .int x5), (7, .int x7)]) h dX6_chosenJoint_64 hL (by decide) rfl (q := 66) rfl ?_
  refine x_iload h dX6_chosenJoint_66 0 rfl (q := 68) rfl ?_
  refine x_if_eq (tgt := 88) h dX6_chosenJoint_68 (by decide) (q := 71) rfl hf (fun hc1 hf2 => ?_) (fun hc1 hf2 => ?_)
  · skip
    refine x_iload h dX6_chosenJoint_88 5 rfl (q := 90) rfl ?_
    refine x_iconst (v := 3) h dX6_chosenJoint_90 (by decide) (q := 91) rfl ?_
    refine x_imul h dX6_chosenJoint_91 (q := 92) rfl ?_
    refine x_istore (lv' := [(4, .int (x4 * 3)), (8, .int s0), (0, .ref (gA g 69)), (1, .int x1), (2, .int x2), (3, .int x3), (5, .int x5), (7, .int x7)]) h dX6_chosenJoint_92 hL (by decide) rfl (q := 94) rfl ?_
    refine x_iinc (v := (x5 + 1)) (lv' := [(5, .int (x5 + 1)), (4, .int (x4 * 3)), (8, .int s0), (0, .ref (gA g 69)), (1, .int x1), (2, .int x2), (3, .int x3), (7, .int x7)]) (j := 6) h dX6_chosenJoint_94 rfl rfl hL (by decide) rfl (q := 97) rfl ?_
    refine x_goto (q := 8) h dX6_chosenJoint_97 (by decide) ?_
    refine x_sub (lv' := [(0, .ref (gA g 69)), (1, .int x1), (2, .int x2), (3, .int x3), (4, .int (x4 * 3)), (5, .int (x5 + 1))]) [3, 4, 5, 6, 1, 0] rfl ?_
    exact hk8 (x3, (x4 * 3), (x5 + 1)) hf2
  · skip
    refine x_iload_n h dX6_chosenJoint_71 rfl 2 rfl (q := 72) rfl ?_
    refine x_iload h dX6_chosenJoint_72 6 rfl (q := 74) rfl ?_
    refine x_ishr h dX6_chosenJoint_74 (q := 75) rfl ?_
    refine x_iconst (v := 1) h dX6_chosenJoint_75 (by decide) (q := 76) rfl ?_
    refine x_iand h dX6_chosenJoint_76 (q := 77) rfl ?_
    refine x_if_eq (tgt := 88) h dX6_chosenJoint_77 (by decide) (q := 80) rfl hf2 (fun hc3 hf4 => ?_) (fun hc3 hf4 => ?_)
    · skip
      refine x_iload h dX6_chosenJoint_88 5 rfl (q := 90) rfl ?_
      refine x_iconst (v := 3) h dX6_chosenJoint_90 (by decide) (q := 91) rfl ?_
      refine x_imul h dX6_chosenJoint_91 (q := 92) rfl ?_
      refine x_istore (lv' := [(4, .int (x4 * 3)), (8, .int s0), (0, .ref (gA g 69)), (1, .int x1), (2, .int x2), (3, .int x3), (5, .int x5), (7, .int x7)]) h dX6_chosenJoint_92 hL (by decide) rfl (q := 94) rfl ?_
      refine x_iinc (v := (x5 + 1)) (lv' := [(5, .int (x5 + 1)), (4, .int (x4 * 3)), (8, .int s0), (0, .ref (gA g 69)), (1, .int x1), (2, .int x2), (3, .int x3), (7, .int x7)]) (j := 6) h dX6_chosenJoint_94 rfl rfl hL (by decide) rfl (q := 97) rfl ?_
      refine x_goto (q := 8) h dX6_chosenJoint_97 (by decide) ?_
      refine x_sub (lv' := [(0, .ref (gA g 69)), (1, .int x1), (2, .int x2), (3, .int x3), (4, .int (x4 * 3)), (5, .int (x5 + 1))]) [3, 4, 5, 6, 1, 0] rfl ?_
      exact hk8 (x3, (x4 * 3), (x5 + 1)) hf4
    · skip
      refine x_iload_n h dX6_chosenJoint_80 rfl 4 rfl (q := 81) rfl ?_
      refine x_iload h dX6_chosenJoint_81 7 rfl (q := 83) rfl ?_
      refine x_iload h dX6_chosenJoint_83 5 rfl (q := 85) rfl ?_
      refine x_imul h dX6_chosenJoint_85 (q := 86) rfl ?_
      refine x_iadd h dX6_chosenJoint_86 (q := 87) rfl ?_
      refine x_istore_n (lv' := [(3, .int (x3 + (x7 * x4))), (8, .int s0), (0, .ref (gA g 69)), (1, .int x1), (2, .int x2), (4, .int x4), (5, .int x5), (7, .int x7)]) h dX6_chosenJoint_87 rfl hL (by decide) rfl (q := 88) rfl ?_
      refine x_iload h dX6_chosenJoint_88 5 rfl (q := 90) rfl ?_
      refine x_iconst (v := 3) h dX6_chosenJoint_90 (by decide) (q := 91) rfl ?_
      refine x_imul h dX6_chosenJoint_91 (q := 92) rfl ?_
      refine x_istore (lv' := [(4, .int (x4 * 3)), (3, .int (x3 + (x7 * x4))), (8, .int s0), (0, .ref (gA g 69)), (1, .int x1), (2, .int x2), (5, .int x5), (7, .int x7)]) h dX6_chosenJoint_92 hL (by decide) rfl (q := 94) rfl ?_
      refine x_iinc (v := (x5 + 1)) (lv' := [(5, .int (x5 + 1)), (4, .int (x4 * 3)), (3, .int (x3 + (x7 * x4))), (8, .int s0), (0, .ref (gA g 69)), (1, .int x1), (2, .int x2), (7, .int x7)]) (j := 6) h dX6_chosenJoint_94 rfl rfl hL (by decide) rfl (q := 97) rfl ?_
      refine x_goto (q := 8) h dX6_chosenJoint_97 (by decide) ?_
      refine x_sub (lv' := [(0, .ref (gA g 69)), (1, .int x1), (2, .int x2), (3, .int (x3 + (x7 * x4))), (4, .int (x4 * 3)), (5, .int (x5 + 1))]) [4, 5, 6, 2, 1, 0] rfl ?_
      exact hk8 ((x3 + (x7 * x4)), (x4 * 3), (x5 + 1)) hf4
def m_X6_chosenJoint_b8 (σ : St) (x1 : Int32) (x2 : Int32) (x3 : Int32) (x4 : Int32) (x5 : Int32) (k8 : (Int32 × Int32 × Int32) → Option (Int32)) : Option (Int32) :=
  if (σ 0 0) ≤ x5 then (
    some x3
  ) else (
    if (rAt 48 (σ 2) ((x2 * 4) + x5)) ≤ (rAt 48 (σ 3) ((x2 * 4) + x5)) then (
      m_X6_chosenJoint_b64 σ x1 x2 x3 x4 x5 (rAt 48 (σ 3) ((x2 * 4) + x5)) 0 k8
    ) else (
      m_X6_chosenJoint_b64 σ x1 x2 x3 x4 x5 (rAt 48 (σ 3) ((x2 * 4) + x5)) 1 k8
    )
  )
set_option maxHeartbeats 4000000 in
set_option maxRecDepth 100000 in
theorem w_X6_chosenJoint_b8 {C : XC} {Q : State → Prop} {g : cG} (σ : St) (x1 : Int32) (x2 : Int32) (x3 : Int32) (x4 : Int32) (x5 : Int32) (o : Int32) (h : XOk C cX6_chosenJoint RX6 tG rmX6_chosenJoint) (hg : XG C g) (hL : C.2.2.2.2.2.2.2.2.2.2.2.2.1 = 9) (hr : XEnd C (some .int) Q (XQ g (some (.int o)) σ) (cA g)) (k8 : (Int32 × Int32 × Int32) → Option (Int32)) (hk8 : ∀ z : Int32 × Int32 × Int32, k8 z = some o → Xs C (wW g) Q σ 8 [(0, .ref (gA g 69)), (1, .int x1), (2, .int x2), (3, .int z.1), (4, .int z.2.1), (5, .int z.2.2)] []) (hf : m_X6_chosenJoint_b8 σ x1 x2 x3 x4 x5 k8 = some o) : Xs C (wW g) Q σ 8 [(0, .ref (gA g 69)), (1, .int x1), (2, .int x2), (3, .int x3), (4, .int x4), (5, .int x5)] [] := by
  unfold m_X6_chosenJoint_b8 at hf
  refine x_iload h dX6_chosenJoint_8 5 rfl (q := 10) rfl ?_
  refine x_aload_n h dX6_chosenJoint_10 rfl 0 rfl (q := 11) rfl ?_
  refine x_get_X6_69_0 h hg kf_X6_21 nn_X6 dX6_chosenJoint_11 ?_
  refine x_get_X7_0_0 h hg kf_X6_76 nn_X7 dX6_chosenJoint_14 ?_
  refine x_icmp_ge (tgt := 100) h dX6_chosenJoint_17 (by decide) (q := 20) rfl hf (fun hc1 hf2 => ?_) (fun hc1 hf2 => ?_)
  · skip
    refine x_iload_n h dX6_chosenJoint_100 rfl 3 rfl (q := 101) rfl ?_
    have hz := Option.some.inj hf2
    subst hz
    exact x_iret h hg hr dX6_chosenJoint_101
  · skip
    refine x_iload_n h dX6_chosenJoint_20 rfl 2 rfl (q := 21) rfl ?_
    refine x_iconst (v := 4) h dX6_chosenJoint_21 (by decide) (q := 22) rfl ?_
    refine x_imul h dX6_chosenJoint_22 (q := 23) rfl ?_
    refine x_iload h dX6_chosenJoint_23 5 rfl (q := 25) rfl ?_
    refine x_iadd h dX6_chosenJoint_25 (q := 26) rfl ?_
    refine x_istore (lv' := [(6, .int ((x2 * 4) + x5)), (0, .ref (gA g 69)), (1, .int x1), (2, .int x2), (3, .int x3), (4, .int x4), (5, .int x5)]) h dX6_chosenJoint_26 hL (by decide) rfl (q := 28) rfl ?_
    refine x_aload_n h dX6_chosenJoint_28 rfl 1 rfl (q := 29) rfl ?_
    refine x_get_X6_69_0 h hg kf_X6_21 nn_X6 dX6_chosenJoint_29 ?_
    refine x_get_X7_0_5 h hg kf_X6_79 nn_X7 dX6_chosenJoint_32 ?_
    refine x_iload h dX6_chosenJoint_35 0 rfl (q := 37) rfl ?_
    refine x_callSi (As := [.ref (gA g 3), .int ((x2 * 4) + x5)]) (rest := []) h hg (c_X5_at C.2.1 hg.2.1 σ a_3 ((x2 * 4) + x5)) ml_X6_44 biX5_at rfl rfl hdX5_at ⟨Nat.le_of_ble_eq_true rfl, Nat.le_of_ble_eq_true rfl⟩ rfl rfl (Nat.le_of_ble_eq_true rfl) dX6_chosenJoint_37 ?_
    refine x_istore (lv' := [(7, .int (rAt 48 (σ 3) ((x2 * 4) + x5))), (6, .int ((x2 * 4) + x5)), (0, .ref (gA g 69)), (1, .int x1), (2, .int x2), (3, .int x3), (4, .int x4), (5, .int x5)]) h dX6_chosenJoint_40 hL (by decide) rfl (q := 42) rfl ?_
    refine x_iload h dX6_chosenJoint_42 0 rfl (q := 44) rfl ?_
    refine x_aload_n h dX6_chosenJoint_44 rfl 2 rfl (q := 45) rfl ?_
    refine x_get_X6_69_0 h hg kf_X6_21 nn_X6 dX6_chosenJoint_45 ?_
    refine x_get_X7_0_4 h hg kf_X6_82 nn_X7 dX6_chosenJoint_48 ?_
    refine x_iload h dX6_chosenJoint_51 1 rfl (q := 53) rfl ?_
    refine x_callSi (As := [.ref (gA g 2), .int ((x2 * 4) + x5)]) (rest := [.int (rAt 48 (σ 3) ((x2 * 4) + x5))]) h hg (c_X5_at C.2.1 hg.2.1 σ a_2 ((x2 * 4) + x5)) ml_X6_44 biX5_at rfl rfl hdX5_at ⟨Nat.le_of_ble_eq_true rfl, Nat.le_of_ble_eq_true rfl⟩ rfl rfl (Nat.le_of_ble_eq_true rfl) dX6_chosenJoint_53 ?_
    refine x_icmp_ge (tgt := 63) h dX6_chosenJoint_56 (by decide) (q := 59) rfl hf2 (fun hc3 hf4 => ?_) (fun hc3 hf4 => ?_)
    · skip
      refine x_iconst (v := 0) h dX6_chosenJoint_63 (by decide) (q := 64) rfl ?_
      refine x_sub (lv' := [(0, .ref (gA g 69)), (1, .int x1), (2, .int x2), (3, .int x3), (4, .int x4), (5, .int x5), (7, .int (rAt 48 (σ 3) ((x2 * 4) + x5)))]) [2, 3, 4, 5, 6, 7, 0] rfl ?_
      exact w_X6_chosenJoint_b64 σ x1 x2 x3 x4 x5 (rAt 48 (σ 3) ((x2 * 4) + x5)) 0 o h hg hL hr k8 hk8 hf4
    · skip
      refine x_iconst (v := 1) h dX6_chosenJoint_59 (by decide) (q := 60) rfl ?_
      refine x_goto (q := 64) h dX6_chosenJoint_60 (by decide) ?_
      refine x_sub (lv' := [(0, .ref (gA g 69)), (1, .int x1), (2, .int x2), (3, .int x3), (4, .int x4), (5, .int x5), (7, .int (rAt 48 (σ 3) ((x2 * 4) + x5)))]) [2, 3, 4, 5, 6, 7, 0] rfl ?_
      exact w_X6_chosenJoint_b64 σ x1 x2 x3 x4 x5 (rAt 48 (σ 3) ((x2 * 4) + x5)) 1 o h hg hL hr k8 hk8 hf4
set_option maxHeartbeats 4000000 in
set_option maxRecDepth 100000 in
theorem w_X6_chosenJoint_l8 {C : XC} {Q : State → Prop} {g : cG} (σ : St) (x1 : Int32) (x2 : Int32) (o : Int32) (h : XOk C cX6_chosenJoint RX6 tG rmX6_chosenJoint) (hg : XG C g) (hL : C.2.2.2.2.2.2.2.2.2.2.2.2.1 = 9) (hr : XEnd C (some .int) Q (XQ g (some (.int o)) σ) (cA g)) : ∀ (n : Nat) (z : Int32 × Int32 × Int32), loopF (fun k z => m_X6_chosenJoint_b8 σ x1 x2 z.1 z.2.1 z.2.2 k) n z = some o → Xs C (wW g) Q σ 8 [(0, .ref (gA g 69)), (1, .int x1), (2, .int x2), (3, .int z.1), (4, .int z.2.1), (5, .int z.2.2)] [] := by
  intro n z hf
  refine loopF_ind (S := Int32 × Int32 × Int32) (O := Int32) (step := (fun k z => m_X6_chosenJoint_b8 σ x1 x2 z.1 z.2.1 z.2.2 k)) (o := o) (P := fun z => Xs C (wW g) Q σ 8 [(0, .ref (gA g 69)), (1, .int x1), (2, .int x2), (3, .int z.1), (4, .int z.2.1), (5, .int z.2.2)] []) ?_ n z hf
  intro k hk z hf
  exact w_X6_chosenJoint_b8 σ x1 x2 z.1 z.2.1 z.2.2 o h hg hL hr k hk hf
def m_X6_chosenJoint (σ : St) (x1 : Int32) (x2 : Int32) : Option (Int32) :=
  loopF (fun k z => m_X6_chosenJoint_b8 σ x1 x2 z.1 z.2.1 z.2.2 k) cFu (0, 1, 0)
set_option maxHeartbeats 4000000 in
set_option maxRecDepth 100000 in
theorem w_X6_chosenJoint {C : XC} {Q : State → Prop} {g : cG} (σ : St) (x1 : Int32) (x2 : Int32) (o : Int32) (h : XOk C cX6_chosenJoint RX6 tG rmX6_chosenJoint) (hg : XG C g) (hL : C.2.2.2.2.2.2.2.2.2.2.2.2.1 = 9) (hr : XEnd C (some .int) Q (XQ g (some (.int o)) σ) (cA g)) (hf : m_X6_chosenJoint σ x1 x2 = some o) : Xs C (wW g) Q σ 0 [(0, .ref (gA g 69)), (1, .int x1), (2, .int x2)] [] := by
  unfold m_X6_chosenJoint at hf
  refine x_iconst (v := 0) h dX6_chosenJoint_0 (by decide) (q := 1) rfl ?_
  refine x_istore_n (lv' := [(3, .int 0), (0, .ref (gA g 69)), (1, .int x1), (2, .int x2)]) h dX6_chosenJoint_1 rfl hL (by decide) rfl (q := 2) rfl ?_
  refine x_iconst (v := 1) h dX6_chosenJoint_2 (by decide) (q := 3) rfl ?_
  refine x_istore (lv' := [(4, .int 1), (3, .int 0), (0, .ref (gA g 69)), (1, .int x1), (2, .int x2)]) h dX6_chosenJoint_3 hL (by decide) rfl (q := 5) rfl ?_
  refine x_iconst (v := 0) h dX6_chosenJoint_5 (by decide) (q := 6) rfl ?_
  refine x_istore (lv' := [(5, .int 0), (4, .int 1), (3, .int 0), (0, .ref (gA g 69)), (1, .int x1), (2, .int x2)]) h dX6_chosenJoint_6 hL (by decide) rfl (q := 8) rfl ?_
  refine x_sub (lv' := [(0, .ref (gA g 69)), (1, .int x1), (2, .int x2), (3, .int 0), (4, .int 1), (5, .int 0)]) [3, 4, 5, 2, 1, 0] rfl ?_
  exact w_X6_chosenJoint_l8 σ x1 x2 o h hg hL hr  cFu (0, 1, 0) hf
theorem c_X6_chosenJoint (l : Launch) {g : cG} (hi : gInj g) (σ : St) (x1 : Int32) (x2 : Int32) (o : Int32) (hf : m_X6_chosenJoint σ x1 x2 = some o) : Met l yX6_chosenJoint (wT yX6_chosenJoint cX6_chosenJoint 9 (some .int)) rmX6_chosenJoint (va_Pc [.ref (gA g 69), .int x1, .int x2] (XPre g σ)) (XQ g (some (.int o)) σ) 0 0 (cA g) :=
  X_met RX6 hi plX6 rfl (Nat.le_of_ble_eq_true rfl) rfl (fun _ _ _ h hg hL hr => w_X6_chosenJoint σ x1 x2 o h hg hL hr hf)
abbrev rmX6_leastWithin : Room := { frames := 1, cells := 0, slots := 0, locals := 21 }
theorem hdX6_leastWithin : yX6_leastWithin.cls = RX6 ∧ yX6_leastWithin.cls ≠ "java/lang/invoke/MethodHandle" ∧ yX6_leastWithin.cls ≠ "java/lang/invoke/VarHandle" ∧ (parseMethodDescriptor yX6_leastWithin.desc).map (fun d => d.parameters.length) = some 1 := by decide +kernel
def m_X6_leastWithin_b2 (σ : St) (x1 : Int32) (x2 : Int32) (k2 : Int32 → Option (Int32)) : Option (Int32) :=
  if (σ 0 2) ≤ x2 then (
    some (-9)
  ) else (
    if (bI (m_X6_isForced (rAt 81 (σ 72) x2) x1)) = 0 then (
      k2 (x2 + 1)
    ) else (
      some x2
    )
  )
set_option maxHeartbeats 4000000 in
set_option maxRecDepth 100000 in
theorem w_X6_leastWithin_b2 {C : XC} {Q : State → Prop} {g : cG} (σ : St) (x1 : Int32) (x2 : Int32) (o : Int32) (h : XOk C cX6_leastWithin RX6 tG rmX6_leastWithin) (hg : XG C g) (hL : C.2.2.2.2.2.2.2.2.2.2.2.2.1 = 3) (hr : XEnd C (some .int) Q (XQ g (some (.int o)) σ) (cA g)) (k2 : Int32 → Option (Int32)) (hk2 : ∀ z : Int32, k2 z = some o → Xs C (wW g) Q σ 2 [(0, .ref (gA g 69)), (1, .int x1), (2, .int z)] []) (hf : m_X6_leastWithin_b2 σ x1 x2 k2 = some o) : Xs C (wW g) Q σ 2 [(0, .ref (gA g 69)), (1, .int x1), (2, .int x2)] [] := by
  unfold m_X6_leastWithin_b2 at hf
  refine x_iload_n h dX6_leastWithin_2 rfl 2 rfl (q := 3) rfl ?_
  refine x_aload_n h dX6_leastWithin_3 rfl 0 rfl (q := 4) rfl ?_
  refine x_get_X6_69_0 h hg kf_X6_21 nn_X6 dX6_leastWithin_4 ?_
  refine x_get_X7_0_2 h hg kf_X6_35 nn_X7 dX6_leastWithin_7 ?_
  refine x_icmp_ge (tgt := 36) h dX6_leastWithin_10 (by decide) (q := 13) rfl hf (fun hc1 hf2 => ?_) (fun hc1 hf2 => ?_)
  · skip
    refine x_bipush (v := (-9)) h dX6_leastWithin_36 (by decide) (q := 38) rfl ?_
    have hz := Option.some.inj hf2
    subst hz
    exact x_iret h hg hr dX6_leastWithin_38
  · skip
    refine x_aload_n h dX6_leastWithin_13 rfl 0 rfl (q := 14) rfl ?_
    refine x_get_X6_69_3 h hg kf_X6_18 nn_X6 dX6_leastWithin_14 ?_
    refine x_iload_n h dX6_leastWithin_17 rfl 2 rfl (q := 18) rfl ?_
    refine x_callSi (As := [.ref (gA g 72), .int x2]) (rest := []) h hg (c_X5_at C.2.1 hg.2.1 σ a_72 x2) ml_X6_44 biX5_at rfl rfl hdX5_at ⟨Nat.le_of_ble_eq_true rfl, Nat.le_of_ble_eq_true rfl⟩ rfl rfl (Nat.le_of_ble_eq_true rfl) dX6_leastWithin_18 ?_
    refine x_iload_n h dX6_leastWithin_21 rfl 1 rfl (q := 22) rfl ?_
    refine x_callPi (As := [.int (rAt 81 (σ 72) x2), .int x1]) (rest := []) h (c_X6_isForced C.2.1 (rAt 81 (σ 72) x2) x1 _ rfl) ml_X6_72 biX6_isForced rfl rfl hdX6_isForced ⟨Nat.le_of_ble_eq_true rfl, Nat.le_of_ble_eq_true rfl⟩ rfl rfl (Nat.le_of_ble_eq_true rfl) dX6_leastWithin_22 ?_
    refine x_if_eq (tgt := 30) h dX6_leastWithin_25 (by decide) (q := 28) rfl hf2 (fun hc3 hf4 => ?_) (fun hc3 hf4 => ?_)
    · skip
      refine x_iinc (v := (x2 + 1)) (lv' := [(2, .int (x2 + 1)), (0, .ref (gA g 69)), (1, .int x1)]) (j := 2) h dX6_leastWithin_30 rfl rfl hL (by decide) rfl (q := 33) rfl ?_
      refine x_goto (q := 2) h dX6_leastWithin_33 (by decide) ?_
      refine x_sub (lv' := [(0, .ref (gA g 69)), (1, .int x1), (2, .int (x2 + 1))]) [1, 2, 0] rfl ?_
      exact hk2 (x2 + 1) hf4
    · skip
      refine x_iload_n h dX6_leastWithin_28 rfl 2 rfl (q := 29) rfl ?_
      have hz := Option.some.inj hf4
      subst hz
      exact x_iret h hg hr dX6_leastWithin_29
set_option maxHeartbeats 4000000 in
set_option maxRecDepth 100000 in
theorem w_X6_leastWithin_l2 {C : XC} {Q : State → Prop} {g : cG} (σ : St) (x1 : Int32) (o : Int32) (h : XOk C cX6_leastWithin RX6 tG rmX6_leastWithin) (hg : XG C g) (hL : C.2.2.2.2.2.2.2.2.2.2.2.2.1 = 3) (hr : XEnd C (some .int) Q (XQ g (some (.int o)) σ) (cA g)) : ∀ (n : Nat) (z : Int32), loopF (fun k z => m_X6_leastWithin_b2 σ x1 z k) n z = some o → Xs C (wW g) Q σ 2 [(0, .ref (gA g 69)), (1, .int x1), (2, .int z)] [] := by
  intro n z hf
  refine loopF_ind (S := Int32) (O := Int32) (step := (fun k z => m_X6_leastWithin_b2 σ x1 z k)) (o := o) (P := fun z => Xs C (wW g) Q σ 2 [(0, .ref (gA g 69)), (1, .int x1), (2, .int z)] []) ?_ n z hf
  intro k hk z hf
  exact w_X6_leastWithin_b2 σ x1 z o h hg hL hr k hk hf
def m_X6_leastWithin (σ : St) (x1 : Int32) : Option (Int32) :=
  loopF (fun k z => m_X6_leastWithin_b2 σ x1 z k) cFu 0
set_option maxHeartbeats 4000000 in
set_option maxRecDepth 100000 in
theorem w_X6_leastWithin {C : XC} {Q : State → Prop} {g : cG} (σ : St) (x1 : Int32) (o : Int32) (h : XOk C cX6_leastWithin RX6 tG rmX6_leastWithin) (hg : XG C g) (hL : C.2.2.2.2.2.2.2.2.2.2.2.2.1 = 3) (hr : XEnd C (some .int) Q (XQ g (some (.int o)) σ) (cA g)) (hf : m_X6_leastWithin σ x1 = some o) : Xs C (wW g) Q σ 0 [(0, .ref (gA g 69)), (1, .int x1)] [] := by
  unfold m_X6_leastWithin at hf
  refine x_iconst (v := 0) h dX6_leastWithin_0 (by decide) (q := 1) rfl ?_
  refine x_istore_n (lv' := [(2, .int 0), (0, .ref (gA g 69)), (1, .int x1)]) h dX6_leastWithin_1 rfl hL (by decide) rfl (q := 2) rfl ?_
  refine x_sub (lv' := [(0, .ref (gA g 69)), (1, .int x1), (2, .int 0)]) [1, 2, 0] rfl ?_
  exact w_X6_leastWithin_l2 σ x1 o h hg hL hr  cFu 0 hf
theorem c_X6_leastWithin (l : Launch) {g : cG} (hi : gInj g) (σ : St) (x1 : Int32) (o : Int32) (hf : m_X6_leastWithin σ x1 = some o) : Met l yX6_leastWithin (wT yX6_leastWithin cX6_leastWithin 3 (some .int)) rmX6_leastWithin (va_Pc [.ref (gA g 69), .int x1] (XPre g σ)) (XQ g (some (.int o)) σ) 0 0 (cA g) :=
  X_met RX6 hi plX6 rfl (Nat.le_of_ble_eq_true rfl) rfl (fun _ _ _ h hg hL hr => w_X6_leastWithin σ x1 o h hg hL hr hf)
abbrev rmX6_forcing : Room := { frames := 2, cells := 0, slots := 0, locals := 49 }
theorem hdX6_forcing : yX6_forcing.cls = RX6 ∧ yX6_forcing.cls ≠ "java/lang/invoke/MethodHandle" ∧ yX6_forcing.cls ≠ "java/lang/invoke/VarHandle" ∧ (parseMethodDescriptor yX6_forcing.desc).map (fun d => d.parameters.length) = some 3 := by decide +kernel
def m_X6_forcing_b77 (σ : St) (x1 : Int32) (x2 : Int32) (x3 : Int32) (x4 : Int32) (x5 : Int32) (x6 : Int32) (k6 : (St × Int32 × Int32) → Option (Int32 × St)) : Option (Int32 × St) :=
  if x6 = 0 then (
    k6 (σ, x4, (x5 + 1))
  ) else (
    k6 (σ, (x4 ||| ((1 : Int32) <<< (x5 &&& 31))), (x5 + 1))
  )
set_option maxHeartbeats 4000000 in
set_option maxRecDepth 100000 in
theorem w_X6_forcing_b77 {C : XC} {Q : State → Prop} {g : cG} (σ : St) (x1 : Int32) (x2 : Int32) (x3 : Int32) (x4 : Int32) (x5 : Int32) (x6 : Int32) (o : Int32 × St) (h : XOk C cX6_forcing RX6 tG rmX6_forcing) (hg : XG C g) (hL : C.2.2.2.2.2.2.2.2.2.2.2.2.1 = 7) (hr : XEnd C (some .int) Q (XQ g (some (.int o.1)) o.2) (cA g)) (k6 : (St × Int32 × Int32) → Option (Int32 × St)) (hk6 : ∀ z : St × Int32 × Int32, k6 z = some o → Xs C (wW g) Q z.1 6 [(0, .ref (gA g 69)), (1, .int x1), (2, .int x2), (3, .int x3), (4, .int z.2.1), (5, .int z.2.2)] []) (hf : m_X6_forcing_b77 σ x1 x2 x3 x4 x5 x6 k6 = some o) : Xs C (wW g) Q σ 77 [(0, .ref (gA g 69)), (1, .int x1), (2, .int x2), (3, .int x3), (4, .int x4), (5, .int x5), (6, .int x6)] [] := by
  unfold m_X6_forcing_b77 at hf
  refine x_iload h dX6_forcing_77 6 rfl (q := 79) rfl ?_
  refine x_if_eq (tgt := 91) h dX6_forcing_79 (by decide) (q := 82) rfl hf (fun hc1 hf2 => ?_) (fun hc1 hf2 => ?_)
  · skip
    refine x_iinc (v := (x5 + 1)) (lv' := [(5, .int (x5 + 1)), (0, .ref (gA g 69)), (1, .int x1), (2, .int x2), (3, .int x3), (4, .int x4), (6, .int x6)]) (j := 5) h dX6_forcing_91 rfl rfl hL (by decide) rfl (q := 94) rfl ?_
    refine x_goto (q := 6) h dX6_forcing_94 (by decide) ?_
    refine x_sub (lv' := [(0, .ref (gA g 69)), (1, .int x1), (2, .int x2), (3, .int x3), (4, .int x4), (5, .int (x5 + 1))]) [1, 2, 3, 4, 5, 0] rfl ?_
    exact hk6 (σ, x4, (x5 + 1)) hf2
  · skip
    refine x_iload h dX6_forcing_82 4 rfl (q := 84) rfl ?_
    refine x_iconst (v := 1) h dX6_forcing_84 (by decide) (q := 85) rfl ?_
    refine x_iload h dX6_forcing_85 5 rfl (q := 87) rfl ?_
    refine x_ishl h dX6_forcing_87 (q := 88) rfl ?_
    refine x_ior h dX6_forcing_88 (q := 89) rfl ?_
    refine x_istore (lv' := [(4, .int (x4 ||| ((1 : Int32) <<< (x5 &&& 31)))), (0, .ref (gA g 69)), (1, .int x1), (2, .int x2), (3, .int x3), (5, .int x5), (6, .int x6)]) h dX6_forcing_89 hL (by decide) rfl (q := 91) rfl ?_
    refine x_iinc (v := (x5 + 1)) (lv' := [(5, .int (x5 + 1)), (4, .int (x4 ||| ((1 : Int32) <<< (x5 &&& 31)))), (0, .ref (gA g 69)), (1, .int x1), (2, .int x2), (3, .int x3), (6, .int x6)]) (j := 5) h dX6_forcing_91 rfl rfl hL (by decide) rfl (q := 94) rfl ?_
    refine x_goto (q := 6) h dX6_forcing_94 (by decide) ?_
    refine x_sub (lv' := [(0, .ref (gA g 69)), (1, .int x1), (2, .int x2), (3, .int x3), (4, .int (x4 ||| ((1 : Int32) <<< (x5 &&& 31)))), (5, .int (x5 + 1))]) [2, 3, 4, 5, 1, 0] rfl ?_
    exact hk6 (σ, (x4 ||| ((1 : Int32) <<< (x5 &&& 31))), (x5 + 1)) hf2
def m_X6_forcing_b75 (σ : St) (x1 : Int32) (x2 : Int32) (x3 : Int32) (x4 : Int32) (x5 : Int32) (s0 : Int32) (k6 : (St × Int32 × Int32) → Option (Int32 × St)) : Option (Int32 × St) :=
  m_X6_forcing_b77 σ x1 x2 x3 x4 x5 s0 k6
set_option maxHeartbeats 4000000 in
set_option maxRecDepth 100000 in
theorem w_X6_forcing_b75 {C : XC} {Q : State → Prop} {g : cG} (σ : St) (x1 : Int32) (x2 : Int32) (x3 : Int32) (x4 : Int32) (x5 : Int32) (s0 : Int32) (o : Int32 × St) (h : XOk C cX6_forcing RX6 tG rmX6_forcing) (hg : XG C g) (hL : C.2.2.2.2.2.2.2.2.2.2.2.2.1 = 7) (hr : XEnd C (some .int) Q (XQ g (some (.int o.1)) o.2) (cA g)) (k6 : (St × Int32 × Int32) → Option (Int32 × St)) (hk6 : ∀ z : St × Int32 × Int32, k6 z = some o → Xs C (wW g) Q z.1 6 [(0, .ref (gA g 69)), (1, .int x1), (2, .int x2), (3, .int x3), (4, .int z.2.1), (5, .int z.2.2)] []) (hf : m_X6_forcing_b75 σ x1 x2 x3 x4 x5 s0 k6 = some o) : Xs C (wW g) Q σ 75 [(0, .ref (gA g 69)), (1, .int x1), (2, .int x2), (3, .int x3), (4, .int x4), (5, .int x5)] [.int s0] := by
  unfold m_X6_forcing_b75 at hf
  refine x_istore (lv' := [(6, .int s0), (0, .ref (gA g 69)), (1, .int x1), (2, .int x2), (3, .int x3), (4, .int x4), (5, .int x5)]) h dX6_forcing_75 hL (by decide) rfl (q := 77) rfl ?_
  refine x_sub (lv' := [(0, .ref (gA g 69)), (1, .int x1), (2, .int x2), (3, .int x3), (4, .int x4), (5, .int x5), (6, .int s0)]) [1, 2, 3, 4, 5, 6, 0] rfl ?_
  exact w_X6_forcing_b77 σ x1 x2 x3 x4 x5 s0 o h hg hL hr k6 hk6 hf
def m_X6_forcing_b6 (σ : St) (x1 : Int32) (x2 : Int32) (x3 : Int32) (x4 : Int32) (x5 : Int32) (k6 : (St × Int32 × Int32) → Option (Int32 × St)) : Option (Int32 × St) :=
  if (σ 0 7) ≤ x5 then (
    some (x4, σ)
  ) else (
    (m_X6_spread σ 71 72 x1 x5).bind fun u3 =>
    if x3 = 0 then (
      (m_X6_leastWithin u3 x2).bind fun u7 =>
      if u7 = (-9) then (
        m_X6_forcing_b75 u3 x1 x2 x3 x4 x5 0 k6
      ) else (
        m_X6_forcing_b75 u3 x1 x2 x3 x4 x5 1 k6
      )
    ) else (
      (m_X6_chosenJoint u3 x1 x5).bind fun u11 =>
      m_X6_forcing_b77 u3 x1 x2 x3 x4 x5 (bI (m_X6_isForced (rAt 81 (u3 72) u11) x2)) k6
    )
  )
set_option maxHeartbeats 4000000 in
set_option maxRecDepth 100000 in
theorem w_X6_forcing_b6 {C : XC} {Q : State → Prop} {g : cG} (σ : St) (x1 : Int32) (x2 : Int32) (x3 : Int32) (x4 : Int32) (x5 : Int32) (o : Int32 × St) (h : XOk C cX6_forcing RX6 tG rmX6_forcing) (hg : XG C g) (hL : C.2.2.2.2.2.2.2.2.2.2.2.2.1 = 7) (hr : XEnd C (some .int) Q (XQ g (some (.int o.1)) o.2) (cA g)) (k6 : (St × Int32 × Int32) → Option (Int32 × St)) (hk6 : ∀ z : St × Int32 × Int32, k6 z = some o → Xs C (wW g) Q z.1 6 [(0, .ref (gA g 69)), (1, .int x1), (2, .int x2), (3, .int x3), (4, .int z.2.1), (5, .int z.2.2)] []) (hf : m_X6_forcing_b6 σ x1 x2 x3 x4 x5 k6 = some o) : Xs C (wW g) Q σ 6 [(0, .ref (gA g 69)), (1, .int x1), (2, .int x2), (3, .int x3), (4, .int x4), (5, .int x5)] [] := by
  unfold m_X6_forcing_b6 at hf
  refine x_iload h dX6_forcing_6 5 rfl (q := 8) rfl ?_
  refine x_aload_n h dX6_forcing_8 rfl 0 rfl (q := 9) rfl ?_
  refine x_get_X6_69_0 h hg kf_X6_21 nn_X6 dX6_forcing_9 ?_
  refine x_get_X7_0_7 h hg kf_X6_66 nn_X7 dX6_forcing_12 ?_
  refine x_icmp_ge (tgt := 97) h dX6_forcing_15 (by decide) (q := 18) rfl hf (fun hc1 hf2 => ?_) (fun hc1 hf2 => ?_)
  · skip
    refine x_iload h dX6_forcing_97 4 rfl (q := 99) rfl ?_
    have hz := Option.some.inj hf2
    subst hz
    exact x_iret h hg hr dX6_forcing_99
  · skip
    refine x_aload_n h dX6_forcing_18 rfl 0 rfl (q := 19) rfl ?_
    refine x_iload_n h dX6_forcing_19 rfl 1 rfl (q := 20) rfl ?_
    refine x_iload h dX6_forcing_20 5 rfl (q := 22) rfl ?_
    refine x_aload_n h dX6_forcing_22 rfl 0 rfl (q := 23) rfl ?_
    refine x_get_X6_69_2 h hg kf_X6_15 nn_X6 dX6_forcing_23 ?_
    refine x_aload_n h dX6_forcing_26 rfl 0 rfl (q := 27) rfl ?_
    refine x_get_X6_69_3 h hg kf_X6_18 nn_X6 dX6_forcing_27 ?_
    obtain ⟨u3, hu3, hf4⟩ := bnd_inv hf2
    refine x_callVv (As := [.int x1, .int x5, .ref (gA g 71), .ref (gA g 72)]) (rest := []) h hg (c_X6_spread C.2.1 hg.2.1 σ 71 72 x1 x5 a_71 a_72 _ hu3) ml_X6_48 biX6_spread rfl rfl hdX6_spread ⟨Nat.le_of_ble_eq_true rfl, Nat.le_of_ble_eq_true rfl⟩ (by decide) (cE_69 g _) rfl rfl rfl (Nat.le_of_ble_eq_true rfl) dX6_forcing_30 ?_
    refine x_iload_n h dX6_forcing_33 rfl 3 rfl (q := 34) rfl ?_
    refine x_if_eq (tgt := 60) h dX6_forcing_34 (by decide) (q := 37) rfl hf4 (fun hc5 hf6 => ?_) (fun hc5 hf6 => ?_)
    · skip
      refine x_aload_n h dX6_forcing_60 rfl 0 rfl (q := 61) rfl ?_
      refine x_iload_n h dX6_forcing_61 rfl 2 rfl (q := 62) rfl ?_
      obtain ⟨u7, hu7, hf8⟩ := bnd_inv hf6
      refine x_callVi (As := [.int x2]) (rest := []) h hg (c_X6_leastWithin C.2.1 hg.2.1 u3 x2 _ hu7) ml_X6_52 biX6_leastWithin rfl rfl hdX6_leastWithin ⟨Nat.le_of_ble_eq_true rfl, Nat.le_of_ble_eq_true rfl⟩ (by decide) (cE_69 g _) rfl rfl rfl (Nat.le_of_ble_eq_true rfl) dX6_forcing_62 ?_
      refine x_bipush (v := (-9)) h dX6_forcing_65 (by decide) (q := 67) rfl ?_
      refine x_icmp_eq (tgt := 74) h dX6_forcing_67 (by decide) (q := 70) rfl hf8 (fun hc9 hf10 => ?_) (fun hc9 hf10 => ?_)
      · skip
        refine x_iconst (v := 0) h dX6_forcing_74 (by decide) (q := 75) rfl ?_
        exact w_X6_forcing_b75 u3 x1 x2 x3 x4 x5 0 o h hg hL hr k6 hk6 hf10
      · skip
        refine x_iconst (v := 1) h dX6_forcing_70 (by decide) (q := 71) rfl ?_
        refine x_goto (q := 75) h dX6_forcing_71 (by decide) ?_
        exact w_X6_forcing_b75 u3 x1 x2 x3 x4 x5 1 o h hg hL hr k6 hk6 hf10
    · skip
      refine x_aload_n h dX6_forcing_37 rfl 0 rfl (q := 38) rfl ?_
      refine x_get_X6_69_3 h hg kf_X6_18 nn_X6 dX6_forcing_38 ?_
      refine x_aload_n h dX6_forcing_41 rfl 0 rfl (q := 42) rfl ?_
      refine x_iload_n h dX6_forcing_42 rfl 1 rfl (q := 43) rfl ?_
      refine x_iload h dX6_forcing_43 5 rfl (q := 45) rfl ?_
      obtain ⟨u11, hu11, hf12⟩ := bnd_inv hf6
      refine x_callVi (As := [.int x1, .int x5]) (rest := [.ref (gA g 72)]) h hg (c_X6_chosenJoint C.2.1 hg.2.1 u3 x1 x5 _ hu11) ml_X6_69 biX6_chosenJoint rfl rfl hdX6_chosenJoint ⟨Nat.le_of_ble_eq_true rfl, Nat.le_of_ble_eq_true rfl⟩ (by decide) (cE_69 g _) rfl rfl rfl (Nat.le_of_ble_eq_true rfl) dX6_forcing_45 ?_
      refine x_callSi (As := [.ref (gA g 72), .int u11]) (rest := []) h hg (c_X5_at C.2.1 hg.2.1 u3 a_72 u11) ml_X6_44 biX5_at rfl rfl hdX5_at ⟨Nat.le_of_ble_eq_true rfl, Nat.le_of_ble_eq_true rfl⟩ rfl rfl (Nat.le_of_ble_eq_true rfl) dX6_forcing_48 ?_
      refine x_iload_n h dX6_forcing_51 rfl 2 rfl (q := 52) rfl ?_
      refine x_callPi (As := [.int (rAt 81 (u3 72) u11), .int x2]) (rest := []) h (c_X6_isForced C.2.1 (rAt 81 (u3 72) u11) x2 _ rfl) ml_X6_72 biX6_isForced rfl rfl hdX6_isForced ⟨Nat.le_of_ble_eq_true rfl, Nat.le_of_ble_eq_true rfl⟩ rfl rfl (Nat.le_of_ble_eq_true rfl) dX6_forcing_52 ?_
      refine x_istore (lv' := [(6, .int (bI (m_X6_isForced (rAt 81 (u3 72) u11) x2))), (0, .ref (gA g 69)), (1, .int x1), (2, .int x2), (3, .int x3), (4, .int x4), (5, .int x5)]) h dX6_forcing_55 hL (by decide) rfl (q := 57) rfl ?_
      refine x_goto (q := 77) h dX6_forcing_57 (by decide) ?_
      refine x_sub (lv' := [(0, .ref (gA g 69)), (1, .int x1), (2, .int x2), (3, .int x3), (4, .int x4), (5, .int x5), (6, .int (bI (m_X6_isForced (rAt 81 (u3 72) u11) x2)))]) [1, 2, 3, 4, 5, 6, 0] rfl ?_
      exact w_X6_forcing_b77 u3 x1 x2 x3 x4 x5 (bI (m_X6_isForced (rAt 81 (u3 72) u11) x2)) o h hg hL hr k6 hk6 hf12
set_option maxHeartbeats 4000000 in
set_option maxRecDepth 100000 in
theorem w_X6_forcing_l6 {C : XC} {Q : State → Prop} {g : cG} (x1 : Int32) (x2 : Int32) (x3 : Int32) (o : Int32 × St) (h : XOk C cX6_forcing RX6 tG rmX6_forcing) (hg : XG C g) (hL : C.2.2.2.2.2.2.2.2.2.2.2.2.1 = 7) (hr : XEnd C (some .int) Q (XQ g (some (.int o.1)) o.2) (cA g)) : ∀ (n : Nat) (z : St × Int32 × Int32), loopF (fun k z => m_X6_forcing_b6 z.1 x1 x2 x3 z.2.1 z.2.2 k) n z = some o → Xs C (wW g) Q z.1 6 [(0, .ref (gA g 69)), (1, .int x1), (2, .int x2), (3, .int x3), (4, .int z.2.1), (5, .int z.2.2)] [] := by
  intro n z hf
  refine loopF_ind (S := St × Int32 × Int32) (O := Int32 × St) (step := (fun k z => m_X6_forcing_b6 z.1 x1 x2 x3 z.2.1 z.2.2 k)) (o := o) (P := fun z => Xs C (wW g) Q z.1 6 [(0, .ref (gA g 69)), (1, .int x1), (2, .int x2), (3, .int x3), (4, .int z.2.1), (5, .int z.2.2)] []) ?_ n z hf
  intro k hk z hf
  exact w_X6_forcing_b6 z.1 x1 x2 x3 z.2.1 z.2.2 o h hg hL hr k hk hf
def m_X6_forcing (σ : St) (x1 : Int32) (x2 : Int32) (x3 : Int32) : Option (Int32 × St) :=
  loopF (fun k z => m_X6_forcing_b6 z.1 x1 x2 x3 z.2.1 z.2.2 k) cFu (σ, 0, 0)
set_option maxHeartbeats 4000000 in
set_option maxRecDepth 100000 in
theorem w_X6_forcing {C : XC} {Q : State → Prop} {g : cG} (σ : St) (x1 : Int32) (x2 : Int32) (x3 : Int32) (o : Int32 × St) (h : XOk C cX6_forcing RX6 tG rmX6_forcing) (hg : XG C g) (hL : C.2.2.2.2.2.2.2.2.2.2.2.2.1 = 7) (hr : XEnd C (some .int) Q (XQ g (some (.int o.1)) o.2) (cA g)) (hf : m_X6_forcing σ x1 x2 x3 = some o) : Xs C (wW g) Q σ 0 [(0, .ref (gA g 69)), (1, .int x1), (2, .int x2), (3, .int x3)] [] := by
  unfold m_X6_forcing at hf
  refine x_iconst (v := 0) h dX6_forcing_0 (by decide) (q := 1) rfl ?_
  refine x_istore (lv' := [(4, .int 0), (0, .ref (gA g 69)), (1, .int x1), (2, .int x2), (3, .int x3)]) h dX6_forcing_1 hL (by decide) rfl (q := 3) rfl ?_
  refine x_iconst (v := 0) h dX6_forcing_3 (by decide) (q := 4) rfl ?_
  refine x_istore (lv' := [(5, .int 0), (4, .int 0), (0, .ref (gA g 69)), (1, .int x1), (2, .int x2), (3, .int x3)]) h dX6_forcing_4 hL (by decide) rfl (q := 6) rfl ?_
  refine x_sub (lv' := [(0, .ref (gA g 69)), (1, .int x1), (2, .int x2), (3, .int x3), (4, .int 0), (5, .int 0)]) [2, 3, 4, 5, 1, 0] rfl ?_
  exact w_X6_forcing_l6 x1 x2 x3 o h hg hL hr  cFu (σ, 0, 0) hf
theorem c_X6_forcing (l : Launch) {g : cG} (hi : gInj g) (σ : St) (x1 : Int32) (x2 : Int32) (x3 : Int32) (o : Int32 × St) (hf : m_X6_forcing σ x1 x2 x3 = some o) : Met l yX6_forcing (wT yX6_forcing cX6_forcing 7 (some .int)) rmX6_forcing (va_Pc [.ref (gA g 69), .int x1, .int x2, .int x3] (XPre g σ)) (XQ g (some (.int o.1)) o.2) 0 0 (cA g) :=
  X_met RX6 hi plX6 rfl (Nat.le_of_ble_eq_true rfl) rfl (fun _ _ _ h hg hL hr => w_X6_forcing σ x1 x2 x3 o h hg hL hr hf)
abbrev rmX6_leastForcing : Room := { frames := 2, cells := 0, slots := 0, locals := 49 }
theorem hdX6_leastForcing : yX6_leastForcing.cls = RX6 ∧ yX6_leastForcing.cls ≠ "java/lang/invoke/MethodHandle" ∧ yX6_leastForcing.cls ≠ "java/lang/invoke/VarHandle" ∧ (parseMethodDescriptor yX6_leastForcing.desc).map (fun d => d.parameters.length) = some 3 := by decide +kernel
def m_X6_leastForcing (σ : St) (x1 : Int32) (x2 : Int32) (x3 : Int32) : Option (Int32 × St) :=
  (m_X6_spread σ 71 72 x1 x2).bind fun u1 =>
  (m_X6_leastWithin u1 x3).bind fun u3 =>
  some (u3, u1)
set_option maxHeartbeats 4000000 in
set_option maxRecDepth 100000 in
theorem w_X6_leastForcing {C : XC} {Q : State → Prop} {g : cG} (σ : St) (x1 : Int32) (x2 : Int32) (x3 : Int32) (o : Int32 × St) (h : XOk C cX6_leastForcing RX6 tG rmX6_leastForcing) (hg : XG C g) (hL : C.2.2.2.2.2.2.2.2.2.2.2.2.1 = 4) (hr : XEnd C (some .int) Q (XQ g (some (.int o.1)) o.2) (cA g)) (hf : m_X6_leastForcing σ x1 x2 x3 = some o) : Xs C (wW g) Q σ 0 [(0, .ref (gA g 69)), (1, .int x1), (2, .int x2), (3, .int x3)] [] := by
  unfold m_X6_leastForcing at hf
  refine x_aload_n h dX6_leastForcing_0 rfl 0 rfl (q := 1) rfl ?_
  refine x_iload_n h dX6_leastForcing_1 rfl 1 rfl (q := 2) rfl ?_
  refine x_iload_n h dX6_leastForcing_2 rfl 2 rfl (q := 3) rfl ?_
  refine x_aload_n h dX6_leastForcing_3 rfl 0 rfl (q := 4) rfl ?_
  refine x_get_X6_69_2 h hg kf_X6_15 nn_X6 dX6_leastForcing_4 ?_
  refine x_aload_n h dX6_leastForcing_7 rfl 0 rfl (q := 8) rfl ?_
  refine x_get_X6_69_3 h hg kf_X6_18 nn_X6 dX6_leastForcing_8 ?_
  obtain ⟨u1, hu1, hf2⟩ := bnd_inv hf
  refine x_callVv (As := [.int x1, .int x2, .ref (gA g 71), .ref (gA g 72)]) (rest := []) h hg (c_X6_spread C.2.1 hg.2.1 σ 71 72 x1 x2 a_71 a_72 _ hu1) ml_X6_48 biX6_spread rfl rfl hdX6_spread ⟨Nat.le_of_ble_eq_true rfl, Nat.le_of_ble_eq_true rfl⟩ (by decide) (cE_69 g _) rfl rfl rfl (Nat.le_of_ble_eq_true rfl) dX6_leastForcing_11 ?_
  refine x_aload_n h dX6_leastForcing_14 rfl 0 rfl (q := 15) rfl ?_
  refine x_iload_n h dX6_leastForcing_15 rfl 3 rfl (q := 16) rfl ?_
  obtain ⟨u3, hu3, hf4⟩ := bnd_inv hf2
  refine x_callVi (As := [.int x3]) (rest := []) h hg (c_X6_leastWithin C.2.1 hg.2.1 u1 x3 _ hu3) ml_X6_52 biX6_leastWithin rfl rfl hdX6_leastWithin ⟨Nat.le_of_ble_eq_true rfl, Nat.le_of_ble_eq_true rfl⟩ (by decide) (cE_69 g _) rfl rfl rfl (Nat.le_of_ble_eq_true rfl) dX6_leastForcing_16 ?_
  have hz := Option.some.inj hf4
  subst hz
  exact x_iret h hg hr dX6_leastForcing_19
theorem c_X6_leastForcing (l : Launch) {g : cG} (hi : gInj g) (σ : St) (x1 : Int32) (x2 : Int32) (x3 : Int32) (o : Int32 × St) (hf : m_X6_leastForcing σ x1 x2 x3 = some o) : Met l yX6_leastForcing (wT yX6_leastForcing cX6_leastForcing 4 (some .int)) rmX6_leastForcing (va_Pc [.ref (gA g 69), .int x1, .int x2, .int x3] (XPre g σ)) (XQ g (some (.int o.1)) o.2) 0 0 (cA g) :=
  X_met RX6 hi plX6 rfl (Nat.le_of_ble_eq_true rfl) rfl (fun _ _ _ h hg hL hr => w_X6_leastForcing σ x1 x2 x3 o h hg hL hr hf)
abbrev rmX6_isJointAction : Room := { frames := 2, cells := 0, slots := 0, locals := 49 }
theorem hdX6_isJointAction : yX6_isJointAction.cls = RX6 ∧ yX6_isJointAction.cls ≠ "java/lang/invoke/MethodHandle" ∧ yX6_isJointAction.cls ≠ "java/lang/invoke/VarHandle" ∧ (parseMethodDescriptor yX6_isJointAction.desc).map (fun d => d.parameters.length) = some 3 := by decide +kernel
def m_X6_isJointAction (σ : St) (x1 : Int32) (x2 : Int32) (x3 : Int32) : Option (Bool × St) :=
  (m_X6_spread σ 71 72 x1 x2).bind fun u1 =>
  if (rAt 81 (u1 72) x3) = 0 then (
    some (false, u1)
  ) else (
    some (true, u1)
  )
set_option maxHeartbeats 4000000 in
set_option maxRecDepth 100000 in
theorem w_X6_isJointAction {C : XC} {Q : State → Prop} {g : cG} (σ : St) (x1 : Int32) (x2 : Int32) (x3 : Int32) (o : Bool × St) (h : XOk C cX6_isJointAction RX6 tG rmX6_isJointAction) (hg : XG C g) (hL : C.2.2.2.2.2.2.2.2.2.2.2.2.1 = 4) (hr : XEnd C (some .boolean) Q (XQ g (some (.int (bI o.1))) o.2) (cA g)) (hf : m_X6_isJointAction σ x1 x2 x3 = some o) : Xs C (wW g) Q σ 0 [(0, .ref (gA g 69)), (1, .int x1), (2, .int x2), (3, .int x3)] [] := by
  unfold m_X6_isJointAction at hf
  refine x_aload_n h dX6_isJointAction_0 rfl 0 rfl (q := 1) rfl ?_
  refine x_iload_n h dX6_isJointAction_1 rfl 1 rfl (q := 2) rfl ?_
  refine x_iload_n h dX6_isJointAction_2 rfl 2 rfl (q := 3) rfl ?_
  refine x_aload_n h dX6_isJointAction_3 rfl 0 rfl (q := 4) rfl ?_
  refine x_get_X6_69_2 h hg kf_X6_15 nn_X6 dX6_isJointAction_4 ?_
  refine x_aload_n h dX6_isJointAction_7 rfl 0 rfl (q := 8) rfl ?_
  refine x_get_X6_69_3 h hg kf_X6_18 nn_X6 dX6_isJointAction_8 ?_
  obtain ⟨u1, hu1, hf2⟩ := bnd_inv hf
  refine x_callVv (As := [.int x1, .int x2, .ref (gA g 71), .ref (gA g 72)]) (rest := []) h hg (c_X6_spread C.2.1 hg.2.1 σ 71 72 x1 x2 a_71 a_72 _ hu1) ml_X6_48 biX6_spread rfl rfl hdX6_spread ⟨Nat.le_of_ble_eq_true rfl, Nat.le_of_ble_eq_true rfl⟩ (by decide) (cE_69 g _) rfl rfl rfl (Nat.le_of_ble_eq_true rfl) dX6_isJointAction_11 ?_
  refine x_aload_n h dX6_isJointAction_14 rfl 0 rfl (q := 15) rfl ?_
  refine x_get_X6_69_3 h hg kf_X6_18 nn_X6 dX6_isJointAction_15 ?_
  refine x_iload_n h dX6_isJointAction_18 rfl 3 rfl (q := 19) rfl ?_
  refine x_callSi (As := [.ref (gA g 72), .int x3]) (rest := []) h hg (c_X5_at C.2.1 hg.2.1 u1 a_72 x3) ml_X6_44 biX5_at rfl rfl hdX5_at ⟨Nat.le_of_ble_eq_true rfl, Nat.le_of_ble_eq_true rfl⟩ rfl rfl (Nat.le_of_ble_eq_true rfl) dX6_isJointAction_19 ?_
  refine x_if_eq (tgt := 29) h dX6_isJointAction_22 (by decide) (q := 25) rfl hf2 (fun hc3 hf4 => ?_) (fun hc3 hf4 => ?_)
  · skip
    refine x_iconst (v := 0) h dX6_isJointAction_29 (by decide) (q := 30) rfl ?_
    have hz := Option.some.inj hf4
    subst hz
    exact x_zret (b := false) h hg hr dX6_isJointAction_30
  · skip
    refine x_iconst (v := 1) h dX6_isJointAction_25 (by decide) (q := 26) rfl ?_
    refine x_goto (q := 30) h dX6_isJointAction_26 (by decide) ?_
    have hz := Option.some.inj hf4
    subst hz
    exact x_zret (b := true) h hg hr dX6_isJointAction_30
theorem c_X6_isJointAction (l : Launch) {g : cG} (hi : gInj g) (σ : St) (x1 : Int32) (x2 : Int32) (x3 : Int32) (o : Bool × St) (hf : m_X6_isJointAction σ x1 x2 x3 = some o) : Met l yX6_isJointAction (wT yX6_isJointAction cX6_isJointAction 4 (some .boolean)) rmX6_isJointAction (va_Pc [.ref (gA g 69), .int x1, .int x2, .int x3] (XPre g σ)) (XQ g (some (.int (bI o.1))) o.2) 0 0 (cA g) :=
  X_met RX6 hi plX6 rfl (Nat.le_of_ble_eq_true rfl) rfl (fun _ _ _ h hg hL hr => w_X6_isJointAction σ x1 x2 x3 o h hg hL hr hf)
abbrev rmX6_jointPart : Room := { frames := 1, cells := 0, slots := 0, locals := 21 }
theorem hdX6_jointPart : yX6_jointPart.cls = RX6 ∧ yX6_jointPart.cls ≠ "java/lang/invoke/MethodHandle" ∧ yX6_jointPart.cls ≠ "java/lang/invoke/VarHandle" ∧ (parseMethodDescriptor yX6_jointPart.desc).map (fun d => d.parameters.length) = some 2 := by decide +kernel
def m_X6_jointPart (σ : St) (x1 : Int32) (x2 : Int32) : Int32 :=
  (rAt 1296 (σ 70) ((x1 * 81) + x2))
set_option maxHeartbeats 4000000 in
set_option maxRecDepth 100000 in
theorem w_X6_jointPart {C : XC} {Q : State → Prop} {g : cG} (σ : St) (x1 : Int32) (x2 : Int32) (o : Int32) (h : XOk C cX6_jointPart RX6 tG rmX6_jointPart) (hg : XG C g) (hL : C.2.2.2.2.2.2.2.2.2.2.2.2.1 = 3) (hr : XEnd C (some .int) Q (XQ g (some (.int o)) σ) (cA g)) (hf : m_X6_jointPart σ x1 x2 = o) : Xs C (wW g) Q σ 0 [(0, .ref (gA g 69)), (1, .int x1), (2, .int x2)] [] := by
  unfold m_X6_jointPart at hf
  refine x_aload_n h dX6_jointPart_0 rfl 0 rfl (q := 1) rfl ?_
  refine x_get_X6_69_1 h hg kf_X6_9 nn_X6 dX6_jointPart_1 ?_
  refine x_iload_n h dX6_jointPart_4 rfl 1 rfl (q := 5) rfl ?_
  refine x_bipush (v := 81) h dX6_jointPart_5 (by decide) (q := 7) rfl ?_
  refine x_imul h dX6_jointPart_7 (q := 8) rfl ?_
  refine x_iload_n h dX6_jointPart_8 rfl 2 rfl (q := 9) rfl ?_
  refine x_iadd h dX6_jointPart_9 (q := 10) rfl ?_
  refine x_callSi (As := [.ref (gA g 70), .int ((x1 * 81) + x2)]) (rest := []) h hg (c_X5_at C.2.1 hg.2.1 σ a_70 ((x1 * 81) + x2)) ml_X6_44 biX5_at rfl rfl hdX5_at ⟨Nat.le_of_ble_eq_true rfl, Nat.le_of_ble_eq_true rfl⟩ rfl rfl (Nat.le_of_ble_eq_true rfl) dX6_jointPart_10 ?_
  subst hf
  exact x_iret h hg hr dX6_jointPart_13
theorem c_X6_jointPart (l : Launch) {g : cG} (hi : gInj g) (σ : St) (x1 : Int32) (x2 : Int32) (o : Int32) (hf : m_X6_jointPart σ x1 x2 = o) : Met l yX6_jointPart (wT yX6_jointPart cX6_jointPart 3 (some .int)) rmX6_jointPart (va_Pc [.ref (gA g 69), .int x1, .int x2] (XPre g σ)) (XQ g (some (.int o)) σ) 0 0 (cA g) :=
  X_met RX6 hi plX6 rfl (Nat.le_of_ble_eq_true rfl) rfl (fun _ _ _ h hg hL hr => w_X6_jointPart σ x1 x2 o h hg hL hr hf)
abbrev rmX6_leastLeaving : Room := { frames := 2, cells := 0, slots := 0, locals := 43 }
theorem hdX6_leastLeaving : yX6_leastLeaving.cls = RX6 ∧ yX6_leastLeaving.cls ≠ "java/lang/invoke/MethodHandle" ∧ yX6_leastLeaving.cls ≠ "java/lang/invoke/VarHandle" ∧ (parseMethodDescriptor yX6_leastLeaving.desc).map (fun d => d.parameters.length) = some 4 := by decide +kernel
def m_X6_leastLeaving_b3 (σ : St) (x1 : Int32) (x2 : Int32) (x3 : Int32) (x4 : Int32) (x5 : Int32) (k3 : Int32 → Option (Int32)) : Option (Int32) :=
  if (σ 0 2) ≤ x5 then (
    some (-9)
  ) else (
    if (m_X7_target σ x2 x5) = (-1) then (
      k3 (x5 + 1)
    ) else (
      if (m_X6_jointPart σ x1 x5) = x3 then (
        if ((x4 >>> ((m_X7_target σ x2 x5) &&& 31)) &&& 1) = 0 then (
          some x5
        ) else (
          k3 (x5 + 1)
        )
      ) else (
        k3 (x5 + 1)
      )
    )
  )
set_option maxHeartbeats 4000000 in
set_option maxRecDepth 100000 in
theorem w_X6_leastLeaving_b3 {C : XC} {Q : State → Prop} {g : cG} (σ : St) (x1 : Int32) (x2 : Int32) (x3 : Int32) (x4 : Int32) (x5 : Int32) (o : Int32) (h : XOk C cX6_leastLeaving RX6 tG rmX6_leastLeaving) (hg : XG C g) (hL : C.2.2.2.2.2.2.2.2.2.2.2.2.1 = 7) (hr : XEnd C (some .int) Q (XQ g (some (.int o)) σ) (cA g)) (k3 : Int32 → Option (Int32)) (hk3 : ∀ z : Int32, k3 z = some o → Xs C (wW g) Q σ 3 [(0, .ref (gA g 69)), (1, .int x1), (2, .int x2), (3, .int x3), (4, .int x4), (5, .int z)] []) (hf : m_X6_leastLeaving_b3 σ x1 x2 x3 x4 x5 k3 = some o) : Xs C (wW g) Q σ 3 [(0, .ref (gA g 69)), (1, .int x1), (2, .int x2), (3, .int x3), (4, .int x4), (5, .int x5)] [] := by
  unfold m_X6_leastLeaving_b3 at hf
  refine x_iload h dX6_leastLeaving_3 5 rfl (q := 5) rfl ?_
  refine x_aload_n h dX6_leastLeaving_5 rfl 0 rfl (q := 6) rfl ?_
  refine x_get_X6_69_0 h hg kf_X6_21 nn_X6 dX6_leastLeaving_6 ?_
  refine x_get_X7_0_2 h hg kf_X6_35 nn_X7 dX6_leastLeaving_9 ?_
  refine x_icmp_ge (tgt := 63) h dX6_leastLeaving_12 (by decide) (q := 15) rfl hf (fun hc1 hf2 => ?_) (fun hc1 hf2 => ?_)
  · skip
    refine x_bipush (v := (-9)) h dX6_leastLeaving_63 (by decide) (q := 65) rfl ?_
    have hz := Option.some.inj hf2
    subst hz
    exact x_iret h hg hr dX6_leastLeaving_65
  · skip
    refine x_aload_n h dX6_leastLeaving_15 rfl 0 rfl (q := 16) rfl ?_
    refine x_get_X6_69_0 h hg kf_X6_21 nn_X6 dX6_leastLeaving_16 ?_
    refine x_iload_n h dX6_leastLeaving_19 rfl 2 rfl (q := 20) rfl ?_
    refine x_iload h dX6_leastLeaving_20 5 rfl (q := 22) rfl ?_
    refine x_callVi (As := [.int x2, .int x5]) (rest := []) h hg (c_X7_target C.2.1 hg.2.1 σ x2 x5 _ rfl) ml_X6_56 biX7_target rfl rfl hdX7_target ⟨Nat.le_of_ble_eq_true rfl, Nat.le_of_ble_eq_true rfl⟩ (by decide) (cE_0 g _) rfl rfl rfl (Nat.le_of_ble_eq_true rfl) dX6_leastLeaving_22 ?_
    refine x_istore (lv' := [(6, .int (m_X7_target σ x2 x5)), (0, .ref (gA g 69)), (1, .int x1), (2, .int x2), (3, .int x3), (4, .int x4), (5, .int x5)]) h dX6_leastLeaving_25 hL (by decide) rfl (q := 27) rfl ?_
    refine x_iload h dX6_leastLeaving_27 0 rfl (q := 29) rfl ?_
    refine x_iconst (v := (-1)) h dX6_leastLeaving_29 (by decide) (q := 30) rfl ?_
    refine x_icmp_eq (tgt := 57) h dX6_leastLeaving_30 (by decide) (q := 33) rfl hf2 (fun hc3 hf4 => ?_) (fun hc3 hf4 => ?_)
    · skip
      refine x_iinc (v := (x5 + 1)) (lv' := [(5, .int (x5 + 1)), (6, .int (m_X7_target σ x2 x5)), (0, .ref (gA g 69)), (1, .int x1), (2, .int x2), (3, .int x3), (4, .int x4)]) (j := 6) h dX6_leastLeaving_57 rfl rfl hL (by decide) rfl (q := 60) rfl ?_
      refine x_goto (q := 3) h dX6_leastLeaving_60 (by decide) ?_
      refine x_sub (lv' := [(0, .ref (gA g 69)), (1, .int x1), (2, .int x2), (3, .int x3), (4, .int x4), (5, .int (x5 + 1))]) [2, 3, 4, 5, 6, 0] rfl ?_
      exact hk3 (x5 + 1) hf4
    · skip
      refine x_aload_n h dX6_leastLeaving_33 rfl 1 rfl (q := 34) rfl ?_
      refine x_iload_n h dX6_leastLeaving_34 rfl 2 rfl (q := 35) rfl ?_
      refine x_iload h dX6_leastLeaving_35 6 rfl (q := 37) rfl ?_
      refine x_callVi (As := [.int x1, .int x5]) (rest := []) h hg (c_X6_jointPart C.2.1 hg.2.1 σ x1 x5 _ rfl) ml_X6_59 biX6_jointPart rfl rfl hdX6_jointPart ⟨Nat.le_of_ble_eq_true rfl, Nat.le_of_ble_eq_true rfl⟩ (by decide) (cE_69 g _) rfl rfl rfl (Nat.le_of_ble_eq_true rfl) dX6_leastLeaving_37 ?_
      refine x_iload_n h dX6_leastLeaving_40 rfl 4 rfl (q := 41) rfl ?_
      refine x_icmp_ne (tgt := 57) h dX6_leastLeaving_41 (by decide) (q := 44) rfl hf4 (fun hc5 hf6 => ?_) (fun hc5 hf6 => ?_)
      · skip
        refine x_iinc (v := (x5 + 1)) (lv' := [(5, .int (x5 + 1)), (6, .int (m_X7_target σ x2 x5)), (0, .ref (gA g 69)), (1, .int x1), (2, .int x2), (3, .int x3), (4, .int x4)]) (j := 6) h dX6_leastLeaving_57 rfl rfl hL (by decide) rfl (q := 60) rfl ?_
        refine x_goto (q := 3) h dX6_leastLeaving_60 (by decide) ?_
        refine x_sub (lv' := [(0, .ref (gA g 69)), (1, .int x1), (2, .int x2), (3, .int x3), (4, .int x4), (5, .int (x5 + 1))]) [2, 3, 4, 5, 6, 0] rfl ?_
        exact hk3 (x5 + 1) hf6
      · skip
        refine x_iload h dX6_leastLeaving_44 5 rfl (q := 46) rfl ?_
        refine x_iload h dX6_leastLeaving_46 0 rfl (q := 48) rfl ?_
        refine x_ishr h dX6_leastLeaving_48 (q := 49) rfl ?_
        refine x_iconst (v := 1) h dX6_leastLeaving_49 (by decide) (q := 50) rfl ?_
        refine x_iand h dX6_leastLeaving_50 (q := 51) rfl ?_
        refine x_if_ne (tgt := 57) h dX6_leastLeaving_51 (by decide) (q := 54) rfl hf6 (fun hc7 hf8 => ?_) (fun hc7 hf8 => ?_)
        · skip
          refine x_iinc (v := (x5 + 1)) (lv' := [(5, .int (x5 + 1)), (6, .int (m_X7_target σ x2 x5)), (0, .ref (gA g 69)), (1, .int x1), (2, .int x2), (3, .int x3), (4, .int x4)]) (j := 6) h dX6_leastLeaving_57 rfl rfl hL (by decide) rfl (q := 60) rfl ?_
          refine x_goto (q := 3) h dX6_leastLeaving_60 (by decide) ?_
          refine x_sub (lv' := [(0, .ref (gA g 69)), (1, .int x1), (2, .int x2), (3, .int x3), (4, .int x4), (5, .int (x5 + 1))]) [2, 3, 4, 5, 6, 0] rfl ?_
          exact hk3 (x5 + 1) hf8
        · skip
          refine x_iload h dX6_leastLeaving_54 6 rfl (q := 56) rfl ?_
          have hz := Option.some.inj hf8
          subst hz
          exact x_iret h hg hr dX6_leastLeaving_56
set_option maxHeartbeats 4000000 in
set_option maxRecDepth 100000 in
theorem w_X6_leastLeaving_l3 {C : XC} {Q : State → Prop} {g : cG} (σ : St) (x1 : Int32) (x2 : Int32) (x3 : Int32) (x4 : Int32) (o : Int32) (h : XOk C cX6_leastLeaving RX6 tG rmX6_leastLeaving) (hg : XG C g) (hL : C.2.2.2.2.2.2.2.2.2.2.2.2.1 = 7) (hr : XEnd C (some .int) Q (XQ g (some (.int o)) σ) (cA g)) : ∀ (n : Nat) (z : Int32), loopF (fun k z => m_X6_leastLeaving_b3 σ x1 x2 x3 x4 z k) n z = some o → Xs C (wW g) Q σ 3 [(0, .ref (gA g 69)), (1, .int x1), (2, .int x2), (3, .int x3), (4, .int x4), (5, .int z)] [] := by
  intro n z hf
  refine loopF_ind (S := Int32) (O := Int32) (step := (fun k z => m_X6_leastLeaving_b3 σ x1 x2 x3 x4 z k)) (o := o) (P := fun z => Xs C (wW g) Q σ 3 [(0, .ref (gA g 69)), (1, .int x1), (2, .int x2), (3, .int x3), (4, .int x4), (5, .int z)] []) ?_ n z hf
  intro k hk z hf
  exact w_X6_leastLeaving_b3 σ x1 x2 x3 x4 z o h hg hL hr k hk hf
def m_X6_leastLeaving (σ : St) (x1 : Int32) (x2 : Int32) (x3 : Int32) (x4 : Int32) : Option (Int32) :=
  loopF (fun k z => m_X6_leastLeaving_b3 σ x1 x2 x3 x4 z k) cFu 0
set_option maxHeartbeats 4000000 in
set_option maxRecDepth 100000 in
theorem w_X6_leastLeaving {C : XC} {Q : State → Prop} {g : cG} (σ : St) (x1 : Int32) (x2 : Int32) (x3 : Int32) (x4 : Int32) (o : Int32) (h : XOk C cX6_leastLeaving RX6 tG rmX6_leastLeaving) (hg : XG C g) (hL : C.2.2.2.2.2.2.2.2.2.2.2.2.1 = 7) (hr : XEnd C (some .int) Q (XQ g (some (.int o)) σ) (cA g)) (hf : m_X6_leastLeaving σ x1 x2 x3 x4 = some o) : Xs C (wW g) Q σ 0 [(0, .ref (gA g 69)), (1, .int x1), (2, .int x2), (3, .int x3), (4, .int x4)] [] := by
  unfold m_X6_leastLeaving at hf
  refine x_iconst (v := 0) h dX6_leastLeaving_0 (by decide) (q := 1) rfl ?_
  refine x_istore (lv' := [(5, .int 0), (0, .ref (gA g 69)), (1, .int x1), (2, .int x2), (3, .int x3), (4, .int x4)]) h dX6_leastLeaving_1 hL (by decide) rfl (q := 3) rfl ?_
  refine x_sub (lv' := [(0, .ref (gA g 69)), (1, .int x1), (2, .int x2), (3, .int x3), (4, .int x4), (5, .int 0)]) [1, 2, 3, 4, 5, 0] rfl ?_
  exact w_X6_leastLeaving_l3 σ x1 x2 x3 x4 o h hg hL hr  cFu 0 hf
theorem c_X6_leastLeaving (l : Launch) {g : cG} (hi : gInj g) (σ : St) (x1 : Int32) (x2 : Int32) (x3 : Int32) (x4 : Int32) (o : Int32) (hf : m_X6_leastLeaving σ x1 x2 x3 x4 = some o) : Met l yX6_leastLeaving (wT yX6_leastLeaving cX6_leastLeaving 7 (some .int)) rmX6_leastLeaving (va_Pc [.ref (gA g 69), .int x1, .int x2, .int x3, .int x4] (XPre g σ)) (XQ g (some (.int o)) σ) 0 0 (cA g) :=
  X_met RX6 hi plX6 rfl (Nat.le_of_ble_eq_true rfl) rfl (fun _ _ _ h hg hL hr => w_X6_leastLeaving σ x1 x2 x3 x4 o h hg hL hr hf)
abbrev rmX6_countForced : Room := { frames := 2, cells := 0, slots := 0, locals := 49 }
theorem hdX6_countForced : yX6_countForced.cls = RX6 ∧ yX6_countForced.cls ≠ "java/lang/invoke/MethodHandle" ∧ yX6_countForced.cls ≠ "java/lang/invoke/VarHandle" ∧ (parseMethodDescriptor yX6_countForced.desc).map (fun d => d.parameters.length) = some 2 := by decide +kernel
def m_X6_countForced_b19 (σ : St) (x3 : Int32) (x4 : Int32) (k19 : (Int32 × Int32) → Option (Int32 × St)) : Option (Int32 × St) :=
  if (m_X7_allStates σ) < x4 then (
    some (x3, σ)
  ) else (
    (m_X6_leastWithin σ x4).bind fun u3 =>
    if u3 = (-9) then (
      k19 (x3, (x4 + 1))
    ) else (
      k19 ((x3 + 1), (x4 + 1))
    )
  )
set_option maxHeartbeats 4000000 in
set_option maxRecDepth 100000 in
theorem w_X6_countForced_b19 {C : XC} {Q : State → Prop} {g : cG} (σ : St) (x3 : Int32) (x4 : Int32) (o : Int32 × St) (h : XOk C cX6_countForced RX6 tG rmX6_countForced) (hg : XG C g) (hL : C.2.2.2.2.2.2.2.2.2.2.2.2.1 = 5) (hr : XEnd C (some .int) Q (XQ g (some (.int o.1)) o.2) (cA g)) (k19 : (Int32 × Int32) → Option (Int32 × St)) (hk19 : ∀ z : Int32 × Int32, k19 z = some o → Xs C (wW g) Q σ 19 [(0, .ref (gA g 69)), (3, .int z.1), (4, .int z.2)] []) (hf : m_X6_countForced_b19 σ x3 x4 k19 = some o) : Xs C (wW g) Q σ 19 [(0, .ref (gA g 69)), (3, .int x3), (4, .int x4)] [] := by
  unfold m_X6_countForced_b19 at hf
  refine x_iload h dX6_countForced_19 2 rfl (q := 21) rfl ?_
  refine x_aload_n h dX6_countForced_21 rfl 0 rfl (q := 22) rfl ?_
  refine x_get_X6_69_0 h hg kf_X6_21 nn_X6 dX6_countForced_22 ?_
  refine x_callVi (As := []) (rest := [.int x4]) h hg (c_X7_allStates C.2.1 hg.2.1 σ _ rfl) ml_X6_62 biX7_allStates rfl rfl hdX7_allStates ⟨Nat.le_of_ble_eq_true rfl, Nat.le_of_ble_eq_true rfl⟩ (by decide) (cE_0 g _) rfl rfl rfl (Nat.le_of_ble_eq_true rfl) dX6_countForced_25 ?_
  refine x_icmp_gt (tgt := 51) h dX6_countForced_28 (by decide) (q := 31) rfl hf (fun hc1 hf2 => ?_) (fun hc1 hf2 => ?_)
  · skip
    refine x_iload_n h dX6_countForced_51 rfl 1 rfl (q := 52) rfl ?_
    have hz := Option.some.inj hf2
    subst hz
    exact x_iret h hg hr dX6_countForced_52
  · skip
    refine x_aload_n h dX6_countForced_31 rfl 0 rfl (q := 32) rfl ?_
    refine x_iload h dX6_countForced_32 2 rfl (q := 34) rfl ?_
    obtain ⟨u3, hu3, hf4⟩ := bnd_inv hf2
    refine x_callVi (As := [.int x4]) (rest := []) h hg (c_X6_leastWithin C.2.1 hg.2.1 σ x4 _ hu3) ml_X6_52 biX6_leastWithin rfl rfl hdX6_leastWithin ⟨Nat.le_of_ble_eq_true rfl, Nat.le_of_ble_eq_true rfl⟩ (by decide) (cE_69 g _) rfl rfl rfl (Nat.le_of_ble_eq_true rfl) dX6_countForced_34 ?_
    refine x_bipush (v := (-9)) h dX6_countForced_37 (by decide) (q := 39) rfl ?_
    refine x_icmp_eq (tgt := 45) h dX6_countForced_39 (by decide) (q := 42) rfl hf4 (fun hc5 hf6 => ?_) (fun hc5 hf6 => ?_)
    · skip
      refine x_iinc (v := (x4 + 1)) (lv' := [(4, .int (x4 + 1)), (0, .ref (gA g 69)), (3, .int x3)]) (j := 2) h dX6_countForced_45 rfl rfl hL (by decide) rfl (q := 48) rfl ?_
      refine x_goto (q := 19) h dX6_countForced_48 (by decide) ?_
      refine x_sub (lv' := [(0, .ref (gA g 69)), (3, .int x3), (4, .int (x4 + 1))]) [1, 2, 0] rfl ?_
      exact hk19 (x3, (x4 + 1)) hf6
    · skip
      refine x_iinc (v := (x3 + 1)) (lv' := [(3, .int (x3 + 1)), (0, .ref (gA g 69)), (4, .int x4)]) (j := 1) h dX6_countForced_42 rfl rfl hL (by decide) rfl (q := 45) rfl ?_
      refine x_iinc (v := (x4 + 1)) (lv' := [(4, .int (x4 + 1)), (3, .int (x3 + 1)), (0, .ref (gA g 69))]) (j := 2) h dX6_countForced_45 rfl rfl hL (by decide) rfl (q := 48) rfl ?_
      refine x_goto (q := 19) h dX6_countForced_48 (by decide) ?_
      refine x_sub (lv' := [(0, .ref (gA g 69)), (3, .int (x3 + 1)), (4, .int (x4 + 1))]) [2, 1, 0] rfl ?_
      exact hk19 ((x3 + 1), (x4 + 1)) hf6
set_option maxHeartbeats 4000000 in
set_option maxRecDepth 100000 in
theorem w_X6_countForced_l19 {C : XC} {Q : State → Prop} {g : cG} (σ : St) (o : Int32 × St) (h : XOk C cX6_countForced RX6 tG rmX6_countForced) (hg : XG C g) (hL : C.2.2.2.2.2.2.2.2.2.2.2.2.1 = 5) (hr : XEnd C (some .int) Q (XQ g (some (.int o.1)) o.2) (cA g)) : ∀ (n : Nat) (z : Int32 × Int32), loopF (fun k z => m_X6_countForced_b19 σ z.1 z.2 k) n z = some o → Xs C (wW g) Q σ 19 [(0, .ref (gA g 69)), (3, .int z.1), (4, .int z.2)] [] := by
  intro n z hf
  refine loopF_ind (S := Int32 × Int32) (O := Int32 × St) (step := (fun k z => m_X6_countForced_b19 σ z.1 z.2 k)) (o := o) (P := fun z => Xs C (wW g) Q σ 19 [(0, .ref (gA g 69)), (3, .int z.1), (4, .int z.2)] []) ?_ n z hf
  intro k hk z hf
  exact w_X6_countForced_b19 σ z.1 z.2 o h hg hL hr k hk hf
def m_X6_countForced (σ : St) (x1 : Int32) (x2 : Int32) : Option (Int32 × St) :=
  (m_X6_spread σ 71 72 x1 x2).bind fun u1 =>
  loopF (fun k z => m_X6_countForced_b19 u1 z.1 z.2 k) cFu (0, 0)
set_option maxHeartbeats 4000000 in
set_option maxRecDepth 100000 in
theorem w_X6_countForced {C : XC} {Q : State → Prop} {g : cG} (σ : St) (x1 : Int32) (x2 : Int32) (o : Int32 × St) (h : XOk C cX6_countForced RX6 tG rmX6_countForced) (hg : XG C g) (hL : C.2.2.2.2.2.2.2.2.2.2.2.2.1 = 5) (hr : XEnd C (some .int) Q (XQ g (some (.int o.1)) o.2) (cA g)) (hf : m_X6_countForced σ x1 x2 = some o) : Xs C (wW g) Q σ 0 [(0, .ref (gA g 69)), (1, .int x1), (2, .int x2)] [] := by
  unfold m_X6_countForced at hf
  refine x_aload_n h dX6_countForced_0 rfl 0 rfl (q := 1) rfl ?_
  refine x_iload_n h dX6_countForced_1 rfl 1 rfl (q := 2) rfl ?_
  refine x_iload_n h dX6_countForced_2 rfl 2 rfl (q := 3) rfl ?_
  refine x_aload_n h dX6_countForced_3 rfl 0 rfl (q := 4) rfl ?_
  refine x_get_X6_69_2 h hg kf_X6_15 nn_X6 dX6_countForced_4 ?_
  refine x_aload_n h dX6_countForced_7 rfl 0 rfl (q := 8) rfl ?_
  refine x_get_X6_69_3 h hg kf_X6_18 nn_X6 dX6_countForced_8 ?_
  obtain ⟨u1, hu1, hf2⟩ := bnd_inv hf
  refine x_callVv (As := [.int x1, .int x2, .ref (gA g 71), .ref (gA g 72)]) (rest := []) h hg (c_X6_spread C.2.1 hg.2.1 σ 71 72 x1 x2 a_71 a_72 _ hu1) ml_X6_48 biX6_spread rfl rfl hdX6_spread ⟨Nat.le_of_ble_eq_true rfl, Nat.le_of_ble_eq_true rfl⟩ (by decide) (cE_69 g _) rfl rfl rfl (Nat.le_of_ble_eq_true rfl) dX6_countForced_11 ?_
  refine x_iconst (v := 0) h dX6_countForced_14 (by decide) (q := 15) rfl ?_
  refine x_istore_n (lv' := [(3, .int 0), (0, .ref (gA g 69)), (1, .int x1), (2, .int x2)]) h dX6_countForced_15 rfl hL (by decide) rfl (q := 16) rfl ?_
  refine x_iconst (v := 0) h dX6_countForced_16 (by decide) (q := 17) rfl ?_
  refine x_istore (lv' := [(4, .int 0), (3, .int 0), (0, .ref (gA g 69)), (1, .int x1), (2, .int x2)]) h dX6_countForced_17 hL (by decide) rfl (q := 19) rfl ?_
  refine x_sub (lv' := [(0, .ref (gA g 69)), (3, .int 0), (4, .int 0)]) [2, 1, 0] rfl ?_
  exact w_X6_countForced_l19 u1 o h hg hL hr  cFu (0, 0) hf2
theorem c_X6_countForced (l : Launch) {g : cG} (hi : gInj g) (σ : St) (x1 : Int32) (x2 : Int32) (o : Int32 × St) (hf : m_X6_countForced σ x1 x2 = some o) : Met l yX6_countForced (wT yX6_countForced cX6_countForced 5 (some .int)) rmX6_countForced (va_Pc [.ref (gA g 69), .int x1, .int x2] (XPre g σ)) (XQ g (some (.int o.1)) o.2) 0 0 (cA g) :=
  X_met RX6 hi plX6 rfl (Nat.le_of_ble_eq_true rfl) rfl (fun _ _ _ h hg hL hr => w_X6_countForced σ x1 x2 o h hg hL hr hf)
abbrev rmX6_follow : Room := { frames := 2, cells := 0, slots := 0, locals := 49 }
theorem hdX6_follow : yX6_follow.cls = RX6 ∧ yX6_follow.cls ≠ "java/lang/invoke/MethodHandle" ∧ yX6_follow.cls ≠ "java/lang/invoke/VarHandle" ∧ (parseMethodDescriptor yX6_follow.desc).map (fun d => d.parameters.length) = some 3 := by decide +kernel
def m_X6_follow_b79 (σ : St) (x1 : Int32) (x2 : Int32) (x4 : Int32) (x6 : Int32) (x7 : Int32) (k79 : (Int32 × Int32) → Option (Int32)) : Option (Int32) :=
  if (σ 0 2) ≤ x7 then (
    some x2
  ) else (
    if (m_X7_target σ x2 x7) = (-1) then (
      k79 (x6, (x7 + 1))
    ) else (
      if (m_X6_jointPart σ x1 x7) = x4 then (
        if x6 = 0 then (
          some (m_X7_target σ x2 x7)
        ) else (
          k79 ((x6 + (-1)), (x7 + 1))
        )
      ) else (
        k79 (x6, (x7 + 1))
      )
    )
  )
set_option maxHeartbeats 4000000 in
set_option maxRecDepth 100000 in
theorem w_X6_follow_b79 {C : XC} {Q : State → Prop} {g : cG} (σ : St) (x1 : Int32) (x2 : Int32) (x4 : Int32) (x6 : Int32) (x7 : Int32) (o : Int32) (h : XOk C cX6_follow RX6 tG rmX6_follow) (hg : XG C g) (hL : C.2.2.2.2.2.2.2.2.2.2.2.2.1 = 9) (hr : XEnd C (some .int) Q (XQ g (some (.int o)) σ) (cA g)) (k79 : (Int32 × Int32) → Option (Int32)) (hk79 : ∀ z : Int32 × Int32, k79 z = some o → Xs C (wW g) Q σ 79 [(0, .ref (gA g 69)), (1, .int x1), (2, .int x2), (4, .int x4), (6, .int z.1), (7, .int z.2)] []) (hf : m_X6_follow_b79 σ x1 x2 x4 x6 x7 k79 = some o) : Xs C (wW g) Q σ 79 [(0, .ref (gA g 69)), (1, .int x1), (2, .int x2), (4, .int x4), (6, .int x6), (7, .int x7)] [] := by
  unfold m_X6_follow_b79 at hf
  refine x_iload h dX6_follow_79 5 rfl (q := 81) rfl ?_
  refine x_aload_n h dX6_follow_81 rfl 0 rfl (q := 82) rfl ?_
  refine x_get_X6_69_0 h hg kf_X6_21 nn_X6 dX6_follow_82 ?_
  refine x_get_X7_0_2 h hg kf_X6_35 nn_X7 dX6_follow_85 ?_
  refine x_icmp_ge (tgt := 141) h dX6_follow_88 (by decide) (q := 91) rfl hf (fun hc1 hf2 => ?_) (fun hc1 hf2 => ?_)
  · skip
    refine x_iload_n h dX6_follow_141 rfl 2 rfl (q := 142) rfl ?_
    have hz := Option.some.inj hf2
    subst hz
    exact x_iret h hg hr dX6_follow_142
  · skip
    refine x_aload_n h dX6_follow_91 rfl 0 rfl (q := 92) rfl ?_
    refine x_get_X6_69_0 h hg kf_X6_21 nn_X6 dX6_follow_92 ?_
    refine x_iload_n h dX6_follow_95 rfl 2 rfl (q := 96) rfl ?_
    refine x_iload h dX6_follow_96 5 rfl (q := 98) rfl ?_
    refine x_callVi (As := [.int x2, .int x7]) (rest := []) h hg (c_X7_target C.2.1 hg.2.1 σ x2 x7 _ rfl) ml_X6_56 biX7_target rfl rfl hdX7_target ⟨Nat.le_of_ble_eq_true rfl, Nat.le_of_ble_eq_true rfl⟩ (by decide) (cE_0 g _) rfl rfl rfl (Nat.le_of_ble_eq_true rfl) dX6_follow_98 ?_
    refine x_istore (lv' := [(8, .int (m_X7_target σ x2 x7)), (0, .ref (gA g 69)), (1, .int x1), (2, .int x2), (4, .int x4), (6, .int x6), (7, .int x7)]) h dX6_follow_101 hL (by decide) rfl (q := 103) rfl ?_
    refine x_iload h dX6_follow_103 0 rfl (q := 105) rfl ?_
    refine x_iconst (v := (-1)) h dX6_follow_105 (by decide) (q := 106) rfl ?_
    refine x_icmp_eq (tgt := 135) h dX6_follow_106 (by decide) (q := 109) rfl hf2 (fun hc3 hf4 => ?_) (fun hc3 hf4 => ?_)
    · skip
      refine x_iinc (v := (x7 + 1)) (lv' := [(7, .int (x7 + 1)), (8, .int (m_X7_target σ x2 x7)), (0, .ref (gA g 69)), (1, .int x1), (2, .int x2), (4, .int x4), (6, .int x6)]) (j := 6) h dX6_follow_135 rfl rfl hL (by decide) rfl (q := 138) rfl ?_
      refine x_goto (q := 79) h dX6_follow_138 (by decide) ?_
      refine x_sub (lv' := [(0, .ref (gA g 69)), (1, .int x1), (2, .int x2), (4, .int x4), (6, .int x6), (7, .int (x7 + 1))]) [2, 3, 4, 5, 6, 0] rfl ?_
      exact hk79 (x6, (x7 + 1)) hf4
    · skip
      refine x_aload_n h dX6_follow_109 rfl 1 rfl (q := 110) rfl ?_
      refine x_iload_n h dX6_follow_110 rfl 2 rfl (q := 111) rfl ?_
      refine x_iload h dX6_follow_111 6 rfl (q := 113) rfl ?_
      refine x_callVi (As := [.int x1, .int x7]) (rest := []) h hg (c_X6_jointPart C.2.1 hg.2.1 σ x1 x7 _ rfl) ml_X6_59 biX6_jointPart rfl rfl hdX6_jointPart ⟨Nat.le_of_ble_eq_true rfl, Nat.le_of_ble_eq_true rfl⟩ (by decide) (cE_69 g _) rfl rfl rfl (Nat.le_of_ble_eq_true rfl) dX6_follow_113 ?_
      refine x_iload h dX6_follow_116 4 rfl (q := 118) rfl ?_
      refine x_icmp_eq (tgt := 124) h dX6_follow_118 (by decide) (q := 121) rfl hf4 (fun hc5 hf6 => ?_) (fun hc5 hf6 => ?_)
      · skip
        refine x_iload h dX6_follow_124 5 rfl (q := 126) rfl ?_
        refine x_if_ne (tgt := 132) h dX6_follow_126 (by decide) (q := 129) rfl hf6 (fun hc7 hf8 => ?_) (fun hc7 hf8 => ?_)
        · skip
          refine x_iinc (v := (x6 + (-1))) (lv' := [(6, .int (x6 + (-1))), (8, .int (m_X7_target σ x2 x7)), (0, .ref (gA g 69)), (1, .int x1), (2, .int x2), (4, .int x4), (7, .int x7)]) (j := 5) h dX6_follow_132 rfl rfl hL (by decide) rfl (q := 135) rfl ?_
          refine x_iinc (v := (x7 + 1)) (lv' := [(7, .int (x7 + 1)), (6, .int (x6 + (-1))), (8, .int (m_X7_target σ x2 x7)), (0, .ref (gA g 69)), (1, .int x1), (2, .int x2), (4, .int x4)]) (j := 6) h dX6_follow_135 rfl rfl hL (by decide) rfl (q := 138) rfl ?_
          refine x_goto (q := 79) h dX6_follow_138 (by decide) ?_
          refine x_sub (lv' := [(0, .ref (gA g 69)), (1, .int x1), (2, .int x2), (4, .int x4), (6, .int (x6 + (-1))), (7, .int (x7 + 1))]) [3, 4, 5, 6, 1, 0] rfl ?_
          exact hk79 ((x6 + (-1)), (x7 + 1)) hf8
        · skip
          refine x_iload h dX6_follow_129 0 rfl (q := 131) rfl ?_
          have hz := Option.some.inj hf8
          subst hz
          exact x_iret h hg hr dX6_follow_131
      · skip
        refine x_goto (q := 135) h dX6_follow_121 (by decide) ?_
        refine x_iinc (v := (x7 + 1)) (lv' := [(7, .int (x7 + 1)), (8, .int (m_X7_target σ x2 x7)), (0, .ref (gA g 69)), (1, .int x1), (2, .int x2), (4, .int x4), (6, .int x6)]) (j := 6) h dX6_follow_135 rfl rfl hL (by decide) rfl (q := 138) rfl ?_
        refine x_goto (q := 79) h dX6_follow_138 (by decide) ?_
        refine x_sub (lv' := [(0, .ref (gA g 69)), (1, .int x1), (2, .int x2), (4, .int x4), (6, .int x6), (7, .int (x7 + 1))]) [2, 3, 4, 5, 6, 0] rfl ?_
        exact hk79 (x6, (x7 + 1)) hf6
set_option maxHeartbeats 4000000 in
set_option maxRecDepth 100000 in
theorem w_X6_follow_l79 {C : XC} {Q : State → Prop} {g : cG} (σ : St) (x1 : Int32) (x2 : Int32) (x4 : Int32) (o : Int32) (h : XOk C cX6_follow RX6 tG rmX6_follow) (hg : XG C g) (hL : C.2.2.2.2.2.2.2.2.2.2.2.2.1 = 9) (hr : XEnd C (some .int) Q (XQ g (some (.int o)) σ) (cA g)) : ∀ (n : Nat) (z : Int32 × Int32), loopF (fun k z => m_X6_follow_b79 σ x1 x2 x4 z.1 z.2 k) n z = some o → Xs C (wW g) Q σ 79 [(0, .ref (gA g 69)), (1, .int x1), (2, .int x2), (4, .int x4), (6, .int z.1), (7, .int z.2)] [] := by
  intro n z hf
  refine loopF_ind (S := Int32 × Int32) (O := Int32) (step := (fun k z => m_X6_follow_b79 σ x1 x2 x4 z.1 z.2 k)) (o := o) (P := fun z => Xs C (wW g) Q σ 79 [(0, .ref (gA g 69)), (1, .int x1), (2, .int x2), (4, .int x4), (6, .int z.1), (7, .int z.2)] []) ?_ n z hf
  intro k hk z hf
  exact w_X6_follow_b79 σ x1 x2 x4 z.1 z.2 o h hg hL hr k hk hf
def m_X6_follow_b14 (σ : St) (x1 : Int32) (x2 : Int32) (x3 : Int32) (x4 : Int32) (x5 : Int32) (x6 : Int32) (k14 : (Int32 × Int32) → Option (Int32)) : Option (Int32) :=
  if (σ 0 2) ≤ x6 then (
    if x5 ≤ 0 then (
      loopF (fun k z => m_X6_follow_b79 σ x1 x2 x4 z.1 z.2 k) cFu (0, 0)
    ) else (
      dvz x5 <|
      loopF (fun k z => m_X6_follow_b79 σ x1 x2 x4 z.1 z.2 k) cFu ((x3 - x3 / x5 * x5), 0)
    )
  ) else (
    if (m_X7_target σ x2 x6) = (-1) then (
      k14 (x5, (x6 + 1))
    ) else (
      if (m_X6_jointPart σ x1 x6) = x4 then (
        k14 ((x5 + 1), (x6 + 1))
      ) else (
        k14 (x5, (x6 + 1))
      )
    )
  )
set_option maxHeartbeats 4000000 in
set_option maxRecDepth 100000 in
theorem w_X6_follow_b14 {C : XC} {Q : State → Prop} {g : cG} (σ : St) (x1 : Int32) (x2 : Int32) (x3 : Int32) (x4 : Int32) (x5 : Int32) (x6 : Int32) (o : Int32) (h : XOk C cX6_follow RX6 tG rmX6_follow) (hg : XG C g) (hL : C.2.2.2.2.2.2.2.2.2.2.2.2.1 = 9) (hr : XEnd C (some .int) Q (XQ g (some (.int o)) σ) (cA g)) (k14 : (Int32 × Int32) → Option (Int32)) (hk14 : ∀ z : Int32 × Int32, k14 z = some o → Xs C (wW g) Q σ 14 [(0, .ref (gA g 69)), (1, .int x1), (2, .int x2), (3, .int x3), (4, .int x4), (5, .int z.1), (6, .int z.2)] []) (hf : m_X6_follow_b14 σ x1 x2 x3 x4 x5 x6 k14 = some o) : Xs C (wW g) Q σ 14 [(0, .ref (gA g 69)), (1, .int x1), (2, .int x2), (3, .int x3), (4, .int x4), (5, .int x5), (6, .int x6)] [] := by
  unfold m_X6_follow_b14 at hf
  refine x_iload h dX6_follow_14 6 rfl (q := 16) rfl ?_
  refine x_aload_n h dX6_follow_16 rfl 0 rfl (q := 17) rfl ?_
  refine x_get_X6_69_0 h hg kf_X6_21 nn_X6 dX6_follow_17 ?_
  refine x_get_X7_0_2 h hg kf_X6_35 nn_X7 dX6_follow_20 ?_
  refine x_icmp_ge (tgt := 61) h dX6_follow_23 (by decide) (q := 26) rfl hf (fun hc1 hf2 => ?_) (fun hc1 hf2 => ?_)
  · skip
    refine x_iload h dX6_follow_61 5 rfl (q := 63) rfl ?_
    refine x_if_le (tgt := 73) h dX6_follow_63 (by decide) (q := 66) rfl hf2 (fun hc3 hf4 => ?_) (fun hc3 hf4 => ?_)
    · skip
      refine x_iconst (v := 0) h dX6_follow_73 (by decide) (q := 74) rfl ?_
      refine x_istore (lv' := [(6, .int 0), (0, .ref (gA g 69)), (1, .int x1), (2, .int x2), (3, .int x3), (4, .int x4), (5, .int x5)]) h dX6_follow_74 hL (by decide) rfl (q := 76) rfl ?_
      refine x_iconst (v := 0) h dX6_follow_76 (by decide) (q := 77) rfl ?_
      refine x_istore (lv' := [(7, .int 0), (6, .int 0), (0, .ref (gA g 69)), (1, .int x1), (2, .int x2), (3, .int x3), (4, .int x4), (5, .int x5)]) h dX6_follow_77 hL (by decide) rfl (q := 79) rfl ?_
      refine x_sub (lv' := [(0, .ref (gA g 69)), (1, .int x1), (2, .int x2), (4, .int x4), (6, .int 0), (7, .int 0)]) [2, 3, 4, 6, 1, 0] rfl ?_
      exact w_X6_follow_l79 σ x1 x2 x4 o h hg hL hr  cFu (0, 0) hf4
    · skip
      refine x_iload_n h dX6_follow_66 rfl 3 rfl (q := 67) rfl ?_
      refine x_iload h dX6_follow_67 5 rfl (q := 69) rfl ?_
      obtain ⟨hd5, hf6⟩ := dvz_inv hf4
      refine x_irem h hd5 dX6_follow_69 (q := 70) rfl ?_
      refine x_goto (q := 74) h dX6_follow_70 (by decide) ?_
      refine x_istore (lv' := [(6, .int (x3 - x3 / x5 * x5)), (0, .ref (gA g 69)), (1, .int x1), (2, .int x2), (3, .int x3), (4, .int x4), (5, .int x5)]) h dX6_follow_74 hL (by decide) rfl (q := 76) rfl ?_
      refine x_iconst (v := 0) h dX6_follow_76 (by decide) (q := 77) rfl ?_
      refine x_istore (lv' := [(7, .int 0), (6, .int (x3 - x3 / x5 * x5)), (0, .ref (gA g 69)), (1, .int x1), (2, .int x2), (3, .int x3), (4, .int x4), (5, .int x5)]) h dX6_follow_77 hL (by decide) rfl (q := 79) rfl ?_
      refine x_sub (lv' := [(0, .ref (gA g 69)), (1, .int x1), (2, .int x2), (4, .int x4), (6, .int (x3 - x3 / x5 * x5)), (7, .int 0)]) [2, 3, 4, 6, 1, 0] rfl ?_
      exact w_X6_follow_l79 σ x1 x2 x4 o h hg hL hr  cFu ((x3 - x3 / x5 * x5), 0) hf6
  · skip
    refine x_aload_n h dX6_follow_26 rfl 0 rfl (q := 27) rfl ?_
    refine x_get_X6_69_0 h hg kf_X6_21 nn_X6 dX6_follow_27 ?_
    refine x_iload_n h dX6_follow_30 rfl 2 rfl (q := 31) rfl ?_
    refine x_iload h dX6_follow_31 6 rfl (q := 33) rfl ?_
    refine x_callVi (As := [.int x2, .int x6]) (rest := []) h hg (c_X7_target C.2.1 hg.2.1 σ x2 x6 _ rfl) ml_X6_56 biX7_target rfl rfl hdX7_target ⟨Nat.le_of_ble_eq_true rfl, Nat.le_of_ble_eq_true rfl⟩ (by decide) (cE_0 g _) rfl rfl rfl (Nat.le_of_ble_eq_true rfl) dX6_follow_33 ?_
    refine x_iconst (v := (-1)) h dX6_follow_36 (by decide) (q := 37) rfl ?_
    refine x_icmp_eq (tgt := 55) h dX6_follow_37 (by decide) (q := 40) rfl hf2 (fun hc7 hf8 => ?_) (fun hc7 hf8 => ?_)
    · skip
      refine x_iinc (v := (x6 + 1)) (lv' := [(6, .int (x6 + 1)), (0, .ref (gA g 69)), (1, .int x1), (2, .int x2), (3, .int x3), (4, .int x4), (5, .int x5)]) (j := 6) h dX6_follow_55 rfl rfl hL (by decide) rfl (q := 58) rfl ?_
      refine x_goto (q := 14) h dX6_follow_58 (by decide) ?_
      refine x_sub (lv' := [(0, .ref (gA g 69)), (1, .int x1), (2, .int x2), (3, .int x3), (4, .int x4), (5, .int x5), (6, .int (x6 + 1))]) [1, 2, 3, 4, 5, 6, 0] rfl ?_
      exact hk14 (x5, (x6 + 1)) hf8
    · skip
      refine x_aload_n h dX6_follow_40 rfl 0 rfl (q := 41) rfl ?_
      refine x_iload_n h dX6_follow_41 rfl 1 rfl (q := 42) rfl ?_
      refine x_iload h dX6_follow_42 6 rfl (q := 44) rfl ?_
      refine x_callVi (As := [.int x1, .int x6]) (rest := []) h hg (c_X6_jointPart C.2.1 hg.2.1 σ x1 x6 _ rfl) ml_X6_59 biX6_jointPart rfl rfl hdX6_jointPart ⟨Nat.le_of_ble_eq_true rfl, Nat.le_of_ble_eq_true rfl⟩ (by decide) (cE_69 g _) rfl rfl rfl (Nat.le_of_ble_eq_true rfl) dX6_follow_44 ?_
      refine x_iload h dX6_follow_47 4 rfl (q := 49) rfl ?_
      refine x_icmp_ne (tgt := 55) h dX6_follow_49 (by decide) (q := 52) rfl hf8 (fun hc9 hf10 => ?_) (fun hc9 hf10 => ?_)
      · skip
        refine x_iinc (v := (x6 + 1)) (lv' := [(6, .int (x6 + 1)), (0, .ref (gA g 69)), (1, .int x1), (2, .int x2), (3, .int x3), (4, .int x4), (5, .int x5)]) (j := 6) h dX6_follow_55 rfl rfl hL (by decide) rfl (q := 58) rfl ?_
        refine x_goto (q := 14) h dX6_follow_58 (by decide) ?_
        refine x_sub (lv' := [(0, .ref (gA g 69)), (1, .int x1), (2, .int x2), (3, .int x3), (4, .int x4), (5, .int x5), (6, .int (x6 + 1))]) [1, 2, 3, 4, 5, 6, 0] rfl ?_
        exact hk14 (x5, (x6 + 1)) hf10
      · skip
        refine x_iinc (v := (x5 + 1)) (lv' := [(5, .int (x5 + 1)), (0, .ref (gA g 69)), (1, .int x1), (2, .int x2), (3, .int x3), (4, .int x4), (6, .int x6)]) (j := 5) h dX6_follow_52 rfl rfl hL (by decide) rfl (q := 55) rfl ?_
        refine x_iinc (v := (x6 + 1)) (lv' := [(6, .int (x6 + 1)), (5, .int (x5 + 1)), (0, .ref (gA g 69)), (1, .int x1), (2, .int x2), (3, .int x3), (4, .int x4)]) (j := 6) h dX6_follow_55 rfl rfl hL (by decide) rfl (q := 58) rfl ?_
        refine x_goto (q := 14) h dX6_follow_58 (by decide) ?_
        refine x_sub (lv' := [(0, .ref (gA g 69)), (1, .int x1), (2, .int x2), (3, .int x3), (4, .int x4), (5, .int (x5 + 1)), (6, .int (x6 + 1))]) [2, 3, 4, 5, 6, 1, 0] rfl ?_
        exact hk14 ((x5 + 1), (x6 + 1)) hf10
set_option maxHeartbeats 4000000 in
set_option maxRecDepth 100000 in
theorem w_X6_follow_l14 {C : XC} {Q : State → Prop} {g : cG} (σ : St) (x1 : Int32) (x2 : Int32) (x3 : Int32) (x4 : Int32) (o : Int32) (h : XOk C cX6_follow RX6 tG rmX6_follow) (hg : XG C g) (hL : C.2.2.2.2.2.2.2.2.2.2.2.2.1 = 9) (hr : XEnd C (some .int) Q (XQ g (some (.int o)) σ) (cA g)) : ∀ (n : Nat) (z : Int32 × Int32), loopF (fun k z => m_X6_follow_b14 σ x1 x2 x3 x4 z.1 z.2 k) n z = some o → Xs C (wW g) Q σ 14 [(0, .ref (gA g 69)), (1, .int x1), (2, .int x2), (3, .int x3), (4, .int x4), (5, .int z.1), (6, .int z.2)] [] := by
  intro n z hf
  refine loopF_ind (S := Int32 × Int32) (O := Int32) (step := (fun k z => m_X6_follow_b14 σ x1 x2 x3 x4 z.1 z.2 k)) (o := o) (P := fun z => Xs C (wW g) Q σ 14 [(0, .ref (gA g 69)), (1, .int x1), (2, .int x2), (3, .int x3), (4, .int x4), (5, .int z.1), (6, .int z.2)] []) ?_ n z hf
  intro k hk z hf
  exact w_X6_follow_b14 σ x1 x2 x3 x4 z.1 z.2 o h hg hL hr k hk hf
def m_X6_follow (σ : St) (x1 : Int32) (x2 : Int32) (x3 : Int32) : Option (Int32) :=
  (m_X6_chosenJoint σ x1 x2).bind fun u1 =>
  loopF (fun k z => m_X6_follow_b14 σ x1 x2 x3 u1 z.1 z.2 k) cFu (0, 0)
set_option maxHeartbeats 4000000 in
set_option maxRecDepth 100000 in
theorem w_X6_follow {C : XC} {Q : State → Prop} {g : cG} (σ : St) (x1 : Int32) (x2 : Int32) (x3 : Int32) (o : Int32) (h : XOk C cX6_follow RX6 tG rmX6_follow) (hg : XG C g) (hL : C.2.2.2.2.2.2.2.2.2.2.2.2.1 = 9) (hr : XEnd C (some .int) Q (XQ g (some (.int o)) σ) (cA g)) (hf : m_X6_follow σ x1 x2 x3 = some o) : Xs C (wW g) Q σ 0 [(0, .ref (gA g 69)), (1, .int x1), (2, .int x2), (3, .int x3)] [] := by
  unfold m_X6_follow at hf
  refine x_aload_n h dX6_follow_0 rfl 0 rfl (q := 1) rfl ?_
  refine x_iload_n h dX6_follow_1 rfl 1 rfl (q := 2) rfl ?_
  refine x_iload_n h dX6_follow_2 rfl 2 rfl (q := 3) rfl ?_
  obtain ⟨u1, hu1, hf2⟩ := bnd_inv hf
  refine x_callVi (As := [.int x1, .int x2]) (rest := []) h hg (c_X6_chosenJoint C.2.1 hg.2.1 σ x1 x2 _ hu1) ml_X6_69 biX6_chosenJoint rfl rfl hdX6_chosenJoint ⟨Nat.le_of_ble_eq_true rfl, Nat.le_of_ble_eq_true rfl⟩ (by decide) (cE_69 g _) rfl rfl rfl (Nat.le_of_ble_eq_true rfl) dX6_follow_3 ?_
  refine x_istore (lv' := [(4, .int u1), (0, .ref (gA g 69)), (1, .int x1), (2, .int x2), (3, .int x3)]) h dX6_follow_6 hL (by decide) rfl (q := 8) rfl ?_
  refine x_iconst (v := 0) h dX6_follow_8 (by decide) (q := 9) rfl ?_
  refine x_istore (lv' := [(5, .int 0), (4, .int u1), (0, .ref (gA g 69)), (1, .int x1), (2, .int x2), (3, .int x3)]) h dX6_follow_9 hL (by decide) rfl (q := 11) rfl ?_
  refine x_iconst (v := 0) h dX6_follow_11 (by decide) (q := 12) rfl ?_
  refine x_istore (lv' := [(6, .int 0), (5, .int 0), (4, .int u1), (0, .ref (gA g 69)), (1, .int x1), (2, .int x2), (3, .int x3)]) h dX6_follow_12 hL (by decide) rfl (q := 14) rfl ?_
  refine x_sub (lv' := [(0, .ref (gA g 69)), (1, .int x1), (2, .int x2), (3, .int x3), (4, .int u1), (5, .int 0), (6, .int 0)]) [3, 4, 5, 6, 2, 1, 0] rfl ?_
  exact w_X6_follow_l14 σ x1 x2 x3 u1 o h hg hL hr  cFu (0, 0) hf2
theorem c_X6_follow (l : Launch) {g : cG} (hi : gInj g) (σ : St) (x1 : Int32) (x2 : Int32) (x3 : Int32) (o : Int32) (hf : m_X6_follow σ x1 x2 x3 = some o) : Met l yX6_follow (wT yX6_follow cX6_follow 9 (some .int)) rmX6_follow (va_Pc [.ref (gA g 69), .int x1, .int x2, .int x3] (XPre g σ)) (XQ g (some (.int o)) σ) 0 0 (cA g) :=
  X_met RX6 hi plX6 rfl (Nat.le_of_ble_eq_true rfl) rfl (fun _ _ _ h hg hL hr => w_X6_follow σ x1 x2 x3 o h hg hL hr hf)
abbrev rmX6_partOf : Room := { frames := 0, cells := 0, slots := 0, locals := 0 }
theorem hdX6_partOf : yX6_partOf.cls ≠ "java/lang/invoke/MethodHandle" ∧ yX6_partOf.cls ≠ "java/lang/invoke/VarHandle" ∧ (parseMethodDescriptor yX6_partOf.desc).map (fun d => d.parameters.length) = some 2 := by decide +kernel
def m_X6_partOf_b34 (x0 : Int32) (x2 : Int32) (x3 : Int32) (x4 : Int32) (x5 : Int32) (k10 : (Int32 × Int32 × Int32 × Int32) → Option (Int32)) : Option (Int32) :=
  k10 (x2, (x3 / 3), (x4 * 3), (x5 + 1))
set_option maxHeartbeats 4000000 in
set_option maxRecDepth 100000 in
theorem w_X6_partOf_b34 {C : XC} {Q : State → Prop} {H0 : Heap} {σ : St} (x0 : Int32) (x2 : Int32) (x3 : Int32) (x4 : Int32) (x5 : Int32) (o : Int32) (h : XOk C cX6_partOf RX6 tG rmX6_partOf) (hH : H0 = C.2.2.2.2.1.heap) (hL : C.2.2.2.2.2.2.2.2.2.2.2.2.1 = 6) (hr : XEnd C (some .int) Q (XQp (some (.int o))) (fun _ => False)) (k10 : (Int32 × Int32 × Int32 × Int32) → Option (Int32)) (hk10 : ∀ z : Int32 × Int32 × Int32 × Int32, k10 z = some o → Xs C (fun _ H => H = H0) Q σ 10 [(0, .int x0), (2, .int z.1), (3, .int z.2.1), (4, .int z.2.2.1), (5, .int z.2.2.2)] []) (hf : m_X6_partOf_b34 x0 x2 x3 x4 x5 k10 = some o) : Xs C (fun _ H => H = H0) Q σ 34 [(0, .int x0), (2, .int x2), (3, .int x3), (4, .int x4), (5, .int x5)] [] := by
  unfold m_X6_partOf_b34 at hf
  refine x_iload_n h dX6_partOf_34 rfl 2 rfl (q := 35) rfl ?_
  refine x_iconst (v := 3) h dX6_partOf_35 (by decide) (q := 36) rfl ?_
  refine x_idiv h (by decide) dX6_partOf_36 (q := 37) rfl ?_
  refine x_istore_n (lv' := [(3, .int (x3 / 3)), (0, .int x0), (2, .int x2), (4, .int x4), (5, .int x5)]) h dX6_partOf_37 rfl hL (by decide) rfl (q := 38) rfl ?_
  refine x_iload h dX6_partOf_38 3 rfl (q := 40) rfl ?_
  refine x_iconst (v := 3) h dX6_partOf_40 (by decide) (q := 41) rfl ?_
  refine x_imul h dX6_partOf_41 (q := 42) rfl ?_
  refine x_istore (lv' := [(4, .int (x4 * 3)), (3, .int (x3 / 3)), (0, .int x0), (2, .int x2), (5, .int x5)]) h dX6_partOf_42 hL (by decide) rfl (q := 44) rfl ?_
  refine x_iinc (v := (x5 + 1)) (lv' := [(5, .int (x5 + 1)), (4, .int (x4 * 3)), (3, .int (x3 / 3)), (0, .int x0), (2, .int x2)]) (j := 4) h dX6_partOf_44 rfl rfl hL (by decide) rfl (q := 47) rfl ?_
  refine x_goto (q := 10) h dX6_partOf_47 (by decide) ?_
  refine x_sub (lv' := [(0, .int x0), (2, .int x2), (3, .int (x3 / 3)), (4, .int (x4 * 3)), (5, .int (x5 + 1))]) [3, 4, 2, 1, 0] rfl ?_
  exact hk10 (x2, (x3 / 3), (x4 * 3), (x5 + 1)) hf
def m_X6_partOf_b10 (x0 : Int32) (x2 : Int32) (x3 : Int32) (x4 : Int32) (x5 : Int32) (k10 : (Int32 × Int32 × Int32 × Int32) → Option (Int32)) : Option (Int32) :=
  if 4 ≤ x5 then (
    some x2
  ) else (
    if ((x0 >>> (x5 &&& 31)) &&& 1) = 0 then (
      m_X6_partOf_b34 x0 x2 x3 x4 x5 k10
    ) else (
      m_X6_partOf_b34 x0 (x2 + ((x3 - x3 / 3 * 3) * x4)) x3 x4 x5 k10
    )
  )
set_option maxHeartbeats 4000000 in
set_option maxRecDepth 100000 in
theorem w_X6_partOf_b10 {C : XC} {Q : State → Prop} {H0 : Heap} {σ : St} (x0 : Int32) (x2 : Int32) (x3 : Int32) (x4 : Int32) (x5 : Int32) (o : Int32) (h : XOk C cX6_partOf RX6 tG rmX6_partOf) (hH : H0 = C.2.2.2.2.1.heap) (hL : C.2.2.2.2.2.2.2.2.2.2.2.2.1 = 6) (hr : XEnd C (some .int) Q (XQp (some (.int o))) (fun _ => False)) (k10 : (Int32 × Int32 × Int32 × Int32) → Option (Int32)) (hk10 : ∀ z : Int32 × Int32 × Int32 × Int32, k10 z = some o → Xs C (fun _ H => H = H0) Q σ 10 [(0, .int x0), (2, .int z.1), (3, .int z.2.1), (4, .int z.2.2.1), (5, .int z.2.2.2)] []) (hf : m_X6_partOf_b10 x0 x2 x3 x4 x5 k10 = some o) : Xs C (fun _ H => H = H0) Q σ 10 [(0, .int x0), (2, .int x2), (3, .int x3), (4, .int x4), (5, .int x5)] [] := by
  unfold m_X6_partOf_b10 at hf
  refine x_iload h dX6_partOf_10 4 rfl (q := 12) rfl ?_
  refine x_iconst (v := 4) h dX6_partOf_12 (by decide) (q := 13) rfl ?_
  refine x_icmp_ge (tgt := 50) h dX6_partOf_13 (by decide) (q := 16) rfl hf (fun hc1 hf2 => ?_) (fun hc1 hf2 => ?_)
  · skip
    refine x_iload_n h dX6_partOf_50 rfl 1 rfl (q := 51) rfl ?_
    have hz := Option.some.inj hf2
    subst hz
    exact x_iretP h hr hH dX6_partOf_51
  · skip
    refine x_iload_n h dX6_partOf_16 rfl 0 rfl (q := 17) rfl ?_
    refine x_iload h dX6_partOf_17 4 rfl (q := 19) rfl ?_
    refine x_ishr h dX6_partOf_19 (q := 20) rfl ?_
    refine x_iconst (v := 1) h dX6_partOf_20 (by decide) (q := 21) rfl ?_
    refine x_iand h dX6_partOf_21 (q := 22) rfl ?_
    refine x_if_eq (tgt := 34) h dX6_partOf_22 (by decide) (q := 25) rfl hf2 (fun hc3 hf4 => ?_) (fun hc3 hf4 => ?_)
    · skip
      exact w_X6_partOf_b34 x0 x2 x3 x4 x5 o h hH hL hr k10 hk10 hf4
    · skip
      refine x_iload_n h dX6_partOf_25 rfl 1 rfl (q := 26) rfl ?_
      refine x_iload_n h dX6_partOf_26 rfl 2 rfl (q := 27) rfl ?_
      refine x_iconst (v := 3) h dX6_partOf_27 (by decide) (q := 28) rfl ?_
      refine x_irem h (by decide) dX6_partOf_28 (q := 29) rfl ?_
      refine x_iload h dX6_partOf_29 3 rfl (q := 31) rfl ?_
      refine x_imul h dX6_partOf_31 (q := 32) rfl ?_
      refine x_iadd h dX6_partOf_32 (q := 33) rfl ?_
      refine x_istore_n (lv' := [(2, .int (x2 + ((x3 - x3 / 3 * 3) * x4))), (0, .int x0), (3, .int x3), (4, .int x4), (5, .int x5)]) h dX6_partOf_33 rfl hL (by decide) rfl (q := 34) rfl ?_
      refine x_sub (lv' := [(0, .int x0), (2, .int (x2 + ((x3 - x3 / 3 * 3) * x4))), (3, .int x3), (4, .int x4), (5, .int x5)]) [1, 0, 2, 3, 4] rfl ?_
      exact w_X6_partOf_b34 x0 (x2 + ((x3 - x3 / 3 * 3) * x4)) x3 x4 x5 o h hH hL hr k10 hk10 hf4
set_option maxHeartbeats 4000000 in
set_option maxRecDepth 100000 in
theorem w_X6_partOf_l10 {C : XC} {Q : State → Prop} {H0 : Heap} {σ : St} (x0 : Int32) (o : Int32) (h : XOk C cX6_partOf RX6 tG rmX6_partOf) (hH : H0 = C.2.2.2.2.1.heap) (hL : C.2.2.2.2.2.2.2.2.2.2.2.2.1 = 6) (hr : XEnd C (some .int) Q (XQp (some (.int o))) (fun _ => False)) : ∀ (n : Nat) (z : Int32 × Int32 × Int32 × Int32), loopF (fun k z => m_X6_partOf_b10 x0 z.1 z.2.1 z.2.2.1 z.2.2.2 k) n z = some o → Xs C (fun _ H => H = H0) Q σ 10 [(0, .int x0), (2, .int z.1), (3, .int z.2.1), (4, .int z.2.2.1), (5, .int z.2.2.2)] [] := by
  intro n z hf
  refine loopF_ind (S := Int32 × Int32 × Int32 × Int32) (O := Int32) (step := (fun k z => m_X6_partOf_b10 x0 z.1 z.2.1 z.2.2.1 z.2.2.2 k)) (o := o) (P := fun z => Xs C (fun _ H => H = H0) Q σ 10 [(0, .int x0), (2, .int z.1), (3, .int z.2.1), (4, .int z.2.2.1), (5, .int z.2.2.2)] []) ?_ n z hf
  intro k hk z hf
  exact w_X6_partOf_b10 x0 z.1 z.2.1 z.2.2.1 z.2.2.2 o h hH hL hr k hk hf
def m_X6_partOf (x0 : Int32) (x1 : Int32) : Option (Int32) :=
  loopF (fun k z => m_X6_partOf_b10 x0 z.1 z.2.1 z.2.2.1 z.2.2.2 k) cFu (0, x1, 1, 0)
set_option maxHeartbeats 4000000 in
set_option maxRecDepth 100000 in
theorem w_X6_partOf {C : XC} {Q : State → Prop} {H0 : Heap} {σ : St} (x0 : Int32) (x1 : Int32) (o : Int32) (h : XOk C cX6_partOf RX6 tG rmX6_partOf) (hH : H0 = C.2.2.2.2.1.heap) (hL : C.2.2.2.2.2.2.2.2.2.2.2.2.1 = 6) (hr : XEnd C (some .int) Q (XQp (some (.int o))) (fun _ => False)) (hf : m_X6_partOf x0 x1 = some o) : Xs C (fun _ H => H = H0) Q σ 0 [(0, .int x0), (1, .int x1)] [] := by
  unfold m_X6_partOf at hf
  refine x_iconst (v := 0) h dX6_partOf_0 (by decide) (q := 1) rfl ?_
  refine x_istore_n (lv' := [(2, .int 0), (0, .int x0), (1, .int x1)]) h dX6_partOf_1 rfl hL (by decide) rfl (q := 2) rfl ?_
  refine x_iload_n h dX6_partOf_2 rfl 2 rfl (q := 3) rfl ?_
  refine x_istore_n (lv' := [(3, .int x1), (2, .int 0), (0, .int x0), (1, .int x1)]) h dX6_partOf_3 rfl hL (by decide) rfl (q := 4) rfl ?_
  refine x_iconst (v := 1) h dX6_partOf_4 (by decide) (q := 5) rfl ?_
  refine x_istore (lv' := [(4, .int 1), (3, .int x1), (2, .int 0), (0, .int x0), (1, .int x1)]) h dX6_partOf_5 hL (by decide) rfl (q := 7) rfl ?_
  refine x_iconst (v := 0) h dX6_partOf_7 (by decide) (q := 8) rfl ?_
  refine x_istore (lv' := [(5, .int 0), (4, .int 1), (3, .int x1), (2, .int 0), (0, .int x0), (1, .int x1)]) h dX6_partOf_8 hL (by decide) rfl (q := 10) rfl ?_
  refine x_sub (lv' := [(0, .int x0), (2, .int 0), (3, .int x1), (4, .int 1), (5, .int 0)]) [4, 3, 2, 1, 0] rfl ?_
  exact w_X6_partOf_l10 x0 o h hH hL hr  cFu (0, x1, 1, 0) hf
theorem c_X6_partOf (l : Launch) (x0 : Int32) (x1 : Int32) (o : Int32) (hf : m_X6_partOf x0 x1 = some o) : Met l yX6_partOf (wT yX6_partOf cX6_partOf 6 (some .int)) rmX6_partOf (va_Pc [.int x0, .int x1] (fun _ => True)) (XQp (some (.int o))) 0 0 (fun _ => False) :=
  X_metP RX6 plX6 rfl (Nat.le_of_ble_eq_true rfl) rfl (fun _ _ _ _ _ h hH hL hr => w_X6_partOf x0 x1 o h hH hL hr hf)
