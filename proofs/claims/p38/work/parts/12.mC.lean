abbrev rmX3_labelled : Room := { frames := 2, cells := 0, slots := 0, locals := 42 }
theorem hdX3_labelled : yX3_labelled.cls = RX3 ∧ yX3_labelled.cls ≠ "java/lang/invoke/MethodHandle" ∧ yX3_labelled.cls ≠ "java/lang/invoke/VarHandle" ∧ (parseMethodDescriptor yX3_labelled.desc).map (fun d => d.parameters.length) = some 1 := by decide +kernel
def m_X3_labelled_b4 (σ : St) (x1 : Int32) (x2 : Int32) (x3 : Int32) (k4 : (Int32 × Int32) → Option (Int32)) : Option (Int32) :=
  if (σ 0 7) ≤ x3 then (
    some x2
  ) else (
    k4 ((x2 ||| ((((m_X7_labelSet σ x3) >>> (x1 &&& 31)) &&& 1) <<< (x3 &&& 31))), (x3 + 1))
  )
set_option maxHeartbeats 4000000 in
set_option maxRecDepth 100000 in
theorem w_X3_labelled_b4 {C : XC} {Q : State → Prop} {g : cG} (σ : St) (x1 : Int32) (x2 : Int32) (x3 : Int32) (o : Int32) (h : XOk C cX3_labelled RX3 tG rmX3_labelled) (hg : XG C g) (hL : C.2.2.2.2.2.2.2.2.2.2.2.2.1 = 4) (hr : XEnd C (some .int) Q (XQ g (some (.int o)) σ) (cA g)) (k4 : (Int32 × Int32) → Option (Int32)) (hk4 : ∀ z : Int32 × Int32, k4 z = some o → Xs C (wW g) Q σ 4 [(0, .ref (gA g 78)), (1, .int x1), (2, .int z.1), (3, .int z.2)] []) (hf : m_X3_labelled_b4 σ x1 x2 x3 k4 = some o) : Xs C (wW g) Q σ 4 [(0, .ref (gA g 78)), (1, .int x1), (2, .int x2), (3, .int x3)] [] := by
  unfold m_X3_labelled_b4 at hf
  refine x_iload_n h dX3_labelled_4 rfl 3 rfl (q := 5) rfl ?_
  refine x_aload_n h dX3_labelled_5 rfl 0 rfl (q := 6) rfl ?_
  refine x_get_X3_78_0 h hg kf_X3_18 nn_X3 dX3_labelled_6 ?_
  refine x_get_X7_0_7 h hg kf_X3_81 nn_X7 dX3_labelled_9 ?_
  refine x_icmp_ge (tgt := 38) h dX3_labelled_12 (by decide) (q := 15) rfl hf (fun hc1 hf2 => ?_) (fun hc1 hf2 => ?_)
  · skip
    refine x_iload_n h dX3_labelled_38 rfl 2 rfl (q := 39) rfl ?_
    have hz := Option.some.inj hf2
    subst hz
    exact x_iret h hg hr dX3_labelled_39
  · skip
    refine x_iload_n h dX3_labelled_15 rfl 2 rfl (q := 16) rfl ?_
    refine x_aload_n h dX3_labelled_16 rfl 0 rfl (q := 17) rfl ?_
    refine x_get_X3_78_0 h hg kf_X3_18 nn_X3 dX3_labelled_17 ?_
    refine x_iload_n h dX3_labelled_20 rfl 3 rfl (q := 21) rfl ?_
    refine x_callVi (As := [.int x3]) (rest := [.int x2]) h hg (c_X7_labelSet C.2.1 hg.2.1 σ x3 _ rfl) ml_X3_89 biX7_labelSet rfl rfl hdX7_labelSet ⟨Nat.le_of_ble_eq_true rfl, Nat.le_of_ble_eq_true rfl⟩ (by decide) (cE_0 g _) rfl rfl rfl (Nat.le_of_ble_eq_true rfl) dX3_labelled_21 ?_
    refine x_iload_n h dX3_labelled_24 rfl 1 rfl (q := 25) rfl ?_
    refine x_ishr h dX3_labelled_25 (q := 26) rfl ?_
    refine x_iconst (v := 1) h dX3_labelled_26 (by decide) (q := 27) rfl ?_
    refine x_iand h dX3_labelled_27 (q := 28) rfl ?_
    refine x_iload_n h dX3_labelled_28 rfl 3 rfl (q := 29) rfl ?_
    refine x_ishl h dX3_labelled_29 (q := 30) rfl ?_
    refine x_ior h dX3_labelled_30 (q := 31) rfl ?_
    refine x_istore_n (lv' := [(2, .int (x2 ||| ((((m_X7_labelSet σ x3) >>> (x1 &&& 31)) &&& 1) <<< (x3 &&& 31)))), (0, .ref (gA g 78)), (1, .int x1), (3, .int x3)]) h dX3_labelled_31 rfl hL (by decide) rfl (q := 32) rfl ?_
    refine x_iinc (v := (x3 + 1)) (lv' := [(3, .int (x3 + 1)), (2, .int (x2 ||| ((((m_X7_labelSet σ x3) >>> (x1 &&& 31)) &&& 1) <<< (x3 &&& 31)))), (0, .ref (gA g 78)), (1, .int x1)]) (j := 3) h dX3_labelled_32 rfl rfl hL (by decide) rfl (q := 35) rfl ?_
    refine x_goto (q := 4) h dX3_labelled_35 (by decide) ?_
    refine x_sub (lv' := [(0, .ref (gA g 78)), (1, .int x1), (2, .int (x2 ||| ((((m_X7_labelSet σ x3) >>> (x1 &&& 31)) &&& 1) <<< (x3 &&& 31)))), (3, .int (x3 + 1))]) [2, 3, 1, 0] rfl ?_
    exact hk4 ((x2 ||| ((((m_X7_labelSet σ x3) >>> (x1 &&& 31)) &&& 1) <<< (x3 &&& 31))), (x3 + 1)) hf2
set_option maxHeartbeats 4000000 in
set_option maxRecDepth 100000 in
theorem w_X3_labelled_l4 {C : XC} {Q : State → Prop} {g : cG} (σ : St) (x1 : Int32) (o : Int32) (h : XOk C cX3_labelled RX3 tG rmX3_labelled) (hg : XG C g) (hL : C.2.2.2.2.2.2.2.2.2.2.2.2.1 = 4) (hr : XEnd C (some .int) Q (XQ g (some (.int o)) σ) (cA g)) : ∀ (n : Nat) (z : Int32 × Int32), loopF (fun k z => m_X3_labelled_b4 σ x1 z.1 z.2 k) n z = some o → Xs C (wW g) Q σ 4 [(0, .ref (gA g 78)), (1, .int x1), (2, .int z.1), (3, .int z.2)] [] := by
  intro n z hf
  refine loopF_ind (S := Int32 × Int32) (O := Int32) (step := (fun k z => m_X3_labelled_b4 σ x1 z.1 z.2 k)) (o := o) (P := fun z => Xs C (wW g) Q σ 4 [(0, .ref (gA g 78)), (1, .int x1), (2, .int z.1), (3, .int z.2)] []) ?_ n z hf
  intro k hk z hf
  exact w_X3_labelled_b4 σ x1 z.1 z.2 o h hg hL hr k hk hf
def m_X3_labelled (σ : St) (x1 : Int32) : Option (Int32) :=
  loopF (fun k z => m_X3_labelled_b4 σ x1 z.1 z.2 k) cFu (0, 0)
set_option maxHeartbeats 4000000 in
set_option maxRecDepth 100000 in
theorem w_X3_labelled {C : XC} {Q : State → Prop} {g : cG} (σ : St) (x1 : Int32) (o : Int32) (h : XOk C cX3_labelled RX3 tG rmX3_labelled) (hg : XG C g) (hL : C.2.2.2.2.2.2.2.2.2.2.2.2.1 = 4) (hr : XEnd C (some .int) Q (XQ g (some (.int o)) σ) (cA g)) (hf : m_X3_labelled σ x1 = some o) : Xs C (wW g) Q σ 0 [(0, .ref (gA g 78)), (1, .int x1)] [] := by
  unfold m_X3_labelled at hf
  refine x_iconst (v := 0) h dX3_labelled_0 (by decide) (q := 1) rfl ?_
  refine x_istore_n (lv' := [(2, .int 0), (0, .ref (gA g 78)), (1, .int x1)]) h dX3_labelled_1 rfl hL (by decide) rfl (q := 2) rfl ?_
  refine x_iconst (v := 0) h dX3_labelled_2 (by decide) (q := 3) rfl ?_
  refine x_istore_n (lv' := [(3, .int 0), (2, .int 0), (0, .ref (gA g 78)), (1, .int x1)]) h dX3_labelled_3 rfl hL (by decide) rfl (q := 4) rfl ?_
  refine x_sub (lv' := [(0, .ref (gA g 78)), (1, .int x1), (2, .int 0), (3, .int 0)]) [2, 3, 1, 0] rfl ?_
  exact w_X3_labelled_l4 σ x1 o h hg hL hr  cFu (0, 0) hf
theorem c_X3_labelled (l : Launch) {g : cG} (hi : gInj g) (σ : St) (x1 : Int32) (o : Int32) (hf : m_X3_labelled σ x1 = some o) : Met l yX3_labelled (wT yX3_labelled cX3_labelled 4 (some .int)) rmX3_labelled (va_Pc [.ref (gA g 78), .int x1] (XPre g σ)) (XQ g (some (.int o)) σ) 0 0 (cA g) :=
  X_met RX3 hi plX3 rfl (Nat.le_of_ble_eq_true rfl) rfl (fun _ _ _ h hg hL hr => w_X3_labelled σ x1 o h hg hL hr hf)
abbrev rmX3_plainSet : Room := { frames := 1, cells := 0, slots := 0, locals := 20 }
theorem hdX3_plainSet : yX3_plainSet.cls = RX3 ∧ yX3_plainSet.cls ≠ "java/lang/invoke/MethodHandle" ∧ yX3_plainSet.cls ≠ "java/lang/invoke/VarHandle" ∧ (parseMethodDescriptor yX3_plainSet.desc).map (fun d => d.parameters.length) = some 3 := by decide +kernel
def m_X3_plainSet (σ : St) (x1 : Int32) (x2 : Int32) (x3 : Int32) : Int32 :=
  if x1 = 1 then (
    (m_X7_allStates σ)
  ) else (
    if x1 = 2 then (
      0
    ) else (
      if x1 = 3 then (
        ((m_X7_allStates σ) &&& (x2 ^^^ (-1)))
      ) else (
        if x1 = 4 then (
          (x2 &&& x3)
        ) else (
          if x1 = 5 then (
            (x2 ||| x3)
          ) else (
            0
          )
        )
      )
    )
  )
set_option maxHeartbeats 4000000 in
set_option maxRecDepth 100000 in
theorem w_X3_plainSet {C : XC} {Q : State → Prop} {g : cG} (σ : St) (x1 : Int32) (x2 : Int32) (x3 : Int32) (o : Int32) (h : XOk C cX3_plainSet RX3 tG rmX3_plainSet) (hg : XG C g) (hL : C.2.2.2.2.2.2.2.2.2.2.2.2.1 = 4) (hr : XEnd C (some .int) Q (XQ g (some (.int o)) σ) (cA g)) (hf : m_X3_plainSet σ x1 x2 x3 = o) : Xs C (wW g) Q σ 0 [(0, .ref (gA g 78)), (1, .int x1), (2, .int x2), (3, .int x3)] [] := by
  unfold m_X3_plainSet at hf
  refine x_iload_n h dX3_plainSet_0 rfl 1 rfl (q := 1) rfl ?_
  by_cases hs2 : x1 = 1
  · have hf3 := (if_pos hs2).symm.trans hf
    refine x_tableIn (tgt := 36) h dX3_plainSet_1 (by rw [hs2]; decide) (by rw [hs2]; decide) (off := 35) (by rw [hs2]; decide) (by decide) ?_
    refine x_aload_n h dX3_plainSet_36 rfl 0 rfl (q := 37) rfl ?_
    refine x_get_X3_78_0 h hg kf_X3_18 nn_X3 dX3_plainSet_37 ?_
    refine x_callVi (As := []) (rest := []) h hg (c_X7_allStates C.2.1 hg.2.1 σ _ rfl) ml_X3_92 biX7_allStates rfl rfl hdX7_allStates ⟨Nat.le_of_ble_eq_true rfl, Nat.le_of_ble_eq_true rfl⟩ (by decide) (cE_0 g _) rfl rfl rfl (Nat.le_of_ble_eq_true rfl) dX3_plainSet_40 ?_
    subst hf3
    exact x_iret h hg hr dX3_plainSet_43
  · have hf4 := (if_neg hs2).symm.trans hf
    by_cases hs5 : x1 = 2
    · have hf6 := (if_pos hs5).symm.trans hf4
      refine x_tableIn (tgt := 64) h dX3_plainSet_1 (by rw [hs5]; decide) (by rw [hs5]; decide) (off := 63) (by rw [hs5]; decide) (by decide) ?_
      refine x_iconst (v := 0) h dX3_plainSet_64 (by decide) (q := 65) rfl ?_
      subst hf6
      exact x_iret h hg hr dX3_plainSet_65
    · have hf7 := (if_neg hs5).symm.trans hf4
      by_cases hs8 : x1 = 3
      · have hf9 := (if_pos hs8).symm.trans hf7
        refine x_tableIn (tgt := 44) h dX3_plainSet_1 (by rw [hs8]; decide) (by rw [hs8]; decide) (off := 43) (by rw [hs8]; decide) (by decide) ?_
        refine x_aload_n h dX3_plainSet_44 rfl 0 rfl (q := 45) rfl ?_
        refine x_get_X3_78_0 h hg kf_X3_18 nn_X3 dX3_plainSet_45 ?_
        refine x_callVi (As := []) (rest := []) h hg (c_X7_allStates C.2.1 hg.2.1 σ _ rfl) ml_X3_92 biX7_allStates rfl rfl hdX7_allStates ⟨Nat.le_of_ble_eq_true rfl, Nat.le_of_ble_eq_true rfl⟩ (by decide) (cE_0 g _) rfl rfl rfl (Nat.le_of_ble_eq_true rfl) dX3_plainSet_48 ?_
        refine x_iload_n h dX3_plainSet_51 rfl 2 rfl (q := 52) rfl ?_
        refine x_iconst (v := (-1)) h dX3_plainSet_52 (by decide) (q := 53) rfl ?_
        refine x_ixor h dX3_plainSet_53 (q := 54) rfl ?_
        refine x_iand h dX3_plainSet_54 (q := 55) rfl ?_
        subst hf9
        exact x_iret h hg hr dX3_plainSet_55
      · have hf10 := (if_neg hs8).symm.trans hf7
        by_cases hs11 : x1 = 4
        · have hf12 := (if_pos hs11).symm.trans hf10
          refine x_tableIn (tgt := 56) h dX3_plainSet_1 (by rw [hs11]; decide) (by rw [hs11]; decide) (off := 55) (by rw [hs11]; decide) (by decide) ?_
          refine x_iload_n h dX3_plainSet_56 rfl 2 rfl (q := 57) rfl ?_
          refine x_iload_n h dX3_plainSet_57 rfl 3 rfl (q := 58) rfl ?_
          refine x_iand h dX3_plainSet_58 (q := 59) rfl ?_
          subst hf12
          exact x_iret h hg hr dX3_plainSet_59
        · have hf13 := (if_neg hs11).symm.trans hf10
          by_cases hs14 : x1 = 5
          · have hf15 := (if_pos hs14).symm.trans hf13
            refine x_tableIn (tgt := 60) h dX3_plainSet_1 (by rw [hs14]; decide) (by rw [hs14]; decide) (off := 59) (by rw [hs14]; decide) (by decide) ?_
            refine x_iload_n h dX3_plainSet_60 rfl 2 rfl (q := 61) rfl ?_
            refine x_iload_n h dX3_plainSet_61 rfl 3 rfl (q := 62) rfl ?_
            refine x_ior h dX3_plainSet_62 (q := 63) rfl ?_
            subst hf15
            exact x_iret h hg hr dX3_plainSet_63
          · have hf16 := (if_neg hs14).symm.trans hf13
            refine x_tableOut (tgt := 64) h dX3_plainSet_1 (by have hs2 := ne_toInt hs2; have hs5 := ne_toInt hs5; have hs8 := ne_toInt hs8; have hs11 := ne_toInt hs11; have hs14 := ne_toInt hs14; have ehs2 : (1 : Int32).toInt = 1 := (by decide); have ehs5 : (2 : Int32).toInt = 2 := (by decide); have ehs8 : (3 : Int32).toInt = 3 := (by decide); have ehs11 : (4 : Int32).toInt = 4 := (by decide); have ehs14 : (5 : Int32).toInt = 5 := (by decide); omega) (by decide) ?_
            refine x_iconst (v := 0) h dX3_plainSet_64 (by decide) (q := 65) rfl ?_
            subst hf16
            exact x_iret h hg hr dX3_plainSet_65
theorem c_X3_plainSet (l : Launch) {g : cG} (hi : gInj g) (σ : St) (x1 : Int32) (x2 : Int32) (x3 : Int32) (o : Int32) (hf : m_X3_plainSet σ x1 x2 x3 = o) : Met l yX3_plainSet (wT yX3_plainSet cX3_plainSet 4 (some .int)) rmX3_plainSet (va_Pc [.ref (gA g 78), .int x1, .int x2, .int x3] (XPre g σ)) (XQ g (some (.int o)) σ) 0 0 (cA g) :=
  X_met RX3 hi plX3 rfl (Nat.le_of_ble_eq_true rfl) rfl (fun _ _ _ h hg hL hr => w_X3_plainSet σ x1 x2 x3 o h hg hL hr hf)
abbrev rmX3_reached : Room := { frames := 3, cells := 0, slots := 0, locals := 75 }
theorem hdX3_reached : yX3_reached.cls = RX3 ∧ yX3_reached.cls ≠ "java/lang/invoke/MethodHandle" ∧ yX3_reached.cls ≠ "java/lang/invoke/VarHandle" ∧ (parseMethodDescriptor yX3_reached.desc).map (fun d => d.parameters.length) = some 4 := by decide +kernel
def m_X3_reached_b30 (σ : St) (x1 : Int32) (x2 : Int32) (x3 : Int32) (x4 : Int32) (x5 : Int32) (s0 : Int32) (s1 : Int32) (k3 : (St × Int32) → Option (Int32 × St)) : Option (Int32 × St) :=
  k3 ((rPut σ 80 12 s1 s0), (x5 + 1))
set_option maxHeartbeats 4000000 in
set_option maxRecDepth 100000 in
theorem w_X3_reached_b30 {C : XC} {Q : State → Prop} {g : cG} (σ : St) (x1 : Int32) (x2 : Int32) (x3 : Int32) (x4 : Int32) (x5 : Int32) (s0 : Int32) (s1 : Int32) (o : Int32 × St) (h : XOk C cX3_reached RX3 tG rmX3_reached) (hg : XG C g) (hL : C.2.2.2.2.2.2.2.2.2.2.2.2.1 = 9) (hr : XEnd C (some .int) Q (XQ g (some (.int o.1)) o.2) (cA g)) (k3 : (St × Int32) → Option (Int32 × St)) (hk3 : ∀ z : St × Int32, k3 z = some o → Xs C (wW g) Q z.1 3 [(0, .ref (gA g 78)), (1, .int x1), (2, .int x2), (3, .int x3), (4, .int x4), (5, .int z.2)] []) (hf : m_X3_reached_b30 σ x1 x2 x3 x4 x5 s0 s1 k3 = some o) : Xs C (wW g) Q σ 30 [(0, .ref (gA g 78)), (1, .int x1), (2, .int x2), (3, .int x3), (4, .int x4), (5, .int x5)] [.int s0, .int s1, .ref (gA g 80)] := by
  unfold m_X3_reached_b30 at hf
  refine x_callSv (As := [.ref (gA g 80), .int s1, .int s0]) (rest := []) h hg (c_X5_put C.2.1 hg.2.1 σ a_80 s1 s0) ml_X3_66 biX5_put rfl rfl hdX5_put ⟨Nat.le_of_ble_eq_true rfl, Nat.le_of_ble_eq_true rfl⟩ rfl rfl (Nat.le_of_ble_eq_true rfl) dX3_reached_30 ?_
  refine x_iinc (v := (x5 + 1)) (lv' := [(5, .int (x5 + 1)), (0, .ref (gA g 78)), (1, .int x1), (2, .int x2), (3, .int x3), (4, .int x4)]) (j := 5) h dX3_reached_33 rfl rfl hL (by decide) rfl (q := 36) rfl ?_
  refine x_goto (q := 3) h dX3_reached_36 (by decide) ?_
  refine x_sub (lv' := [(0, .ref (gA g 78)), (1, .int x1), (2, .int x2), (3, .int x3), (4, .int x4), (5, .int (x5 + 1))]) [1, 2, 3, 4, 5, 0] rfl ?_
  exact hk3 ((rPut σ 80 12 s1 s0), (x5 + 1)) hf
def m_X3_reached_b84 (σ : St) (x1 : Int32) (x2 : Int32) (x4 : Int32) (x5 : Int32) (x6 : Int32) (x7 : Int32) (x8 : Int32) (k45 : (St × Int32 × Int32) → Option (Int32 × St)) (k84 : (St × Int32) → Option (Int32 × St)) : Option (Int32 × St) :=
  if 12 ≤ x8 then (
    k45 (σ, (x5 ||| x7), (x6 + 1))
  ) else (
    if ((x7 >>> (x8 &&& 31)) &&& 1) = 0 then (
      k84 (σ, (x8 + 1))
    ) else (
      k84 ((rPut σ 80 12 x8 x6), (x8 + 1))
    )
  )
set_option maxHeartbeats 4000000 in
set_option maxRecDepth 100000 in
theorem w_X3_reached_b84 {C : XC} {Q : State → Prop} {g : cG} (σ : St) (x1 : Int32) (x2 : Int32) (x4 : Int32) (x5 : Int32) (x6 : Int32) (x7 : Int32) (x8 : Int32) (o : Int32 × St) (h : XOk C cX3_reached RX3 tG rmX3_reached) (hg : XG C g) (hL : C.2.2.2.2.2.2.2.2.2.2.2.2.1 = 9) (hr : XEnd C (some .int) Q (XQ g (some (.int o.1)) o.2) (cA g)) (k45 : (St × Int32 × Int32) → Option (Int32 × St)) (k84 : (St × Int32) → Option (Int32 × St)) (hk45 : ∀ z : St × Int32 × Int32, k45 z = some o → Xs C (wW g) Q z.1 45 [(0, .ref (gA g 78)), (1, .int x1), (2, .int x2), (4, .int x4), (5, .int z.2.1), (6, .int z.2.2)] []) (hk84 : ∀ z : St × Int32, k84 z = some o → Xs C (wW g) Q z.1 84 [(0, .ref (gA g 78)), (1, .int x1), (2, .int x2), (4, .int x4), (5, .int x5), (6, .int x6), (7, .int x7), (8, .int z.2)] []) (hf : m_X3_reached_b84 σ x1 x2 x4 x5 x6 x7 x8 k45 k84 = some o) : Xs C (wW g) Q σ 84 [(0, .ref (gA g 78)), (1, .int x1), (2, .int x2), (4, .int x4), (5, .int x5), (6, .int x6), (7, .int x7), (8, .int x8)] [] := by
  unfold m_X3_reached_b84 at hf
  refine x_iload h dX3_reached_84 7 rfl (q := 86) rfl ?_
  refine x_bipush (v := 12) h dX3_reached_86 (by decide) (q := 88) rfl ?_
  refine x_icmp_ge (tgt := 118) h dX3_reached_88 (by decide) (q := 91) rfl hf (fun hc1 hf2 => ?_) (fun hc1 hf2 => ?_)
  · skip
    refine x_iload h dX3_reached_118 4 rfl (q := 120) rfl ?_
    refine x_iload h dX3_reached_120 6 rfl (q := 122) rfl ?_
    refine x_ior h dX3_reached_122 (q := 123) rfl ?_
    refine x_istore (lv' := [(5, .int (x5 ||| x7)), (0, .ref (gA g 78)), (1, .int x1), (2, .int x2), (4, .int x4), (6, .int x6), (7, .int x7), (8, .int x8)]) h dX3_reached_123 hL (by decide) rfl (q := 125) rfl ?_
    refine x_iinc (v := (x6 + 1)) (lv' := [(6, .int (x6 + 1)), (5, .int (x5 ||| x7)), (0, .ref (gA g 78)), (1, .int x1), (2, .int x2), (4, .int x4), (7, .int x7), (8, .int x8)]) (j := 5) h dX3_reached_125 rfl rfl hL (by decide) rfl (q := 128) rfl ?_
    refine x_goto (q := 45) h dX3_reached_128 (by decide) ?_
    refine x_sub (lv' := [(0, .ref (gA g 78)), (1, .int x1), (2, .int x2), (4, .int x4), (5, .int (x5 ||| x7)), (6, .int (x6 + 1))]) [2, 3, 4, 5, 1, 0] rfl ?_
    exact hk45 (σ, (x5 ||| x7), (x6 + 1)) hf2
  · skip
    refine x_iload h dX3_reached_91 6 rfl (q := 93) rfl ?_
    refine x_iload h dX3_reached_93 7 rfl (q := 95) rfl ?_
    refine x_ishr h dX3_reached_95 (q := 96) rfl ?_
    refine x_iconst (v := 1) h dX3_reached_96 (by decide) (q := 97) rfl ?_
    refine x_iand h dX3_reached_97 (q := 98) rfl ?_
    refine x_if_eq (tgt := 112) h dX3_reached_98 (by decide) (q := 101) rfl hf2 (fun hc3 hf4 => ?_) (fun hc3 hf4 => ?_)
    · skip
      refine x_iinc (v := (x8 + 1)) (lv' := [(8, .int (x8 + 1)), (0, .ref (gA g 78)), (1, .int x1), (2, .int x2), (4, .int x4), (5, .int x5), (6, .int x6), (7, .int x7)]) (j := 7) h dX3_reached_112 rfl rfl hL (by decide) rfl (q := 115) rfl ?_
      refine x_goto (q := 84) h dX3_reached_115 (by decide) ?_
      refine x_sub (lv' := [(0, .ref (gA g 78)), (1, .int x1), (2, .int x2), (4, .int x4), (5, .int x5), (6, .int x6), (7, .int x7), (8, .int (x8 + 1))]) [1, 2, 3, 4, 5, 6, 7, 0] rfl ?_
      exact hk84 (σ, (x8 + 1)) hf4
    · skip
      refine x_aload_n h dX3_reached_101 rfl 0 rfl (q := 102) rfl ?_
      refine x_get_X3_78_3 h hg kf_X3_15 nn_X3 dX3_reached_102 ?_
      refine x_iload h dX3_reached_105 7 rfl (q := 107) rfl ?_
      refine x_iload h dX3_reached_107 5 rfl (q := 109) rfl ?_
      refine x_callSv (As := [.ref (gA g 80), .int x8, .int x6]) (rest := []) h hg (c_X5_put C.2.1 hg.2.1 σ a_80 x8 x6) ml_X3_66 biX5_put rfl rfl hdX5_put ⟨Nat.le_of_ble_eq_true rfl, Nat.le_of_ble_eq_true rfl⟩ rfl rfl (Nat.le_of_ble_eq_true rfl) dX3_reached_109 ?_
      refine x_iinc (v := (x8 + 1)) (lv' := [(8, .int (x8 + 1)), (0, .ref (gA g 78)), (1, .int x1), (2, .int x2), (4, .int x4), (5, .int x5), (6, .int x6), (7, .int x7)]) (j := 7) h dX3_reached_112 rfl rfl hL (by decide) rfl (q := 115) rfl ?_
      refine x_goto (q := 84) h dX3_reached_115 (by decide) ?_
      refine x_sub (lv' := [(0, .ref (gA g 78)), (1, .int x1), (2, .int x2), (4, .int x4), (5, .int x5), (6, .int x6), (7, .int x7), (8, .int (x8 + 1))]) [1, 2, 3, 4, 5, 6, 7, 0] rfl ?_
      exact hk84 ((rPut σ 80 12 x8 x6), (x8 + 1)) hf4
set_option maxHeartbeats 4000000 in
set_option maxRecDepth 100000 in
theorem w_X3_reached_l84 {C : XC} {Q : State → Prop} {g : cG} (x1 : Int32) (x2 : Int32) (x4 : Int32) (x5 : Int32) (x6 : Int32) (x7 : Int32) (o : Int32 × St) (h : XOk C cX3_reached RX3 tG rmX3_reached) (hg : XG C g) (hL : C.2.2.2.2.2.2.2.2.2.2.2.2.1 = 9) (hr : XEnd C (some .int) Q (XQ g (some (.int o.1)) o.2) (cA g)) (k45 : (St × Int32 × Int32) → Option (Int32 × St)) (hk45 : ∀ z : St × Int32 × Int32, k45 z = some o → Xs C (wW g) Q z.1 45 [(0, .ref (gA g 78)), (1, .int x1), (2, .int x2), (4, .int x4), (5, .int z.2.1), (6, .int z.2.2)] []) : ∀ (n : Nat) (z : St × Int32), loopF (fun k z => m_X3_reached_b84 z.1 x1 x2 x4 x5 x6 x7 z.2 k45 k) n z = some o → Xs C (wW g) Q z.1 84 [(0, .ref (gA g 78)), (1, .int x1), (2, .int x2), (4, .int x4), (5, .int x5), (6, .int x6), (7, .int x7), (8, .int z.2)] [] := by
  intro n z hf
  refine loopF_ind (S := St × Int32) (O := Int32 × St) (step := (fun k z => m_X3_reached_b84 z.1 x1 x2 x4 x5 x6 x7 z.2 k45 k)) (o := o) (P := fun z => Xs C (wW g) Q z.1 84 [(0, .ref (gA g 78)), (1, .int x1), (2, .int x2), (4, .int x4), (5, .int x5), (6, .int x6), (7, .int x7), (8, .int z.2)] []) ?_ n z hf
  intro k hk z hf
  exact w_X3_reached_b84 z.1 x1 x2 x4 x5 x6 x7 z.2 o h hg hL hr k45 k hk45 hk hf
def m_X3_reached_b45 (σ : St) (x1 : Int32) (x2 : Int32) (x4 : Int32) (x5 : Int32) (x6 : Int32) (k45 : (St × Int32 × Int32) → Option (Int32 × St)) : Option (Int32 × St) :=
  if 12 < x6 then (
    some (x5, σ)
  ) else (
    (m_X6_forcing σ x1 x5 x4).bind fun u3 =>
    if ((x2 &&& (x5 ^^^ (-1))) &&& u3.1) = 0 then (
      some (x5, u3.2)
    ) else (
      loopF (fun k z => m_X3_reached_b84 z.1 x1 x2 x4 x5 x6 ((x2 &&& (x5 ^^^ (-1))) &&& u3.1) z.2 k45 k) cFu (u3.2, 0)
    )
  )
set_option maxHeartbeats 4000000 in
set_option maxRecDepth 100000 in
theorem w_X3_reached_b45 {C : XC} {Q : State → Prop} {g : cG} (σ : St) (x1 : Int32) (x2 : Int32) (x4 : Int32) (x5 : Int32) (x6 : Int32) (o : Int32 × St) (h : XOk C cX3_reached RX3 tG rmX3_reached) (hg : XG C g) (hL : C.2.2.2.2.2.2.2.2.2.2.2.2.1 = 9) (hr : XEnd C (some .int) Q (XQ g (some (.int o.1)) o.2) (cA g)) (k45 : (St × Int32 × Int32) → Option (Int32 × St)) (hk45 : ∀ z : St × Int32 × Int32, k45 z = some o → Xs C (wW g) Q z.1 45 [(0, .ref (gA g 78)), (1, .int x1), (2, .int x2), (4, .int x4), (5, .int z.2.1), (6, .int z.2.2)] []) (hf : m_X3_reached_b45 σ x1 x2 x4 x5 x6 k45 = some o) : Xs C (wW g) Q σ 45 [(0, .ref (gA g 78)), (1, .int x1), (2, .int x2), (4, .int x4), (5, .int x5), (6, .int x6)] [] := by
  unfold m_X3_reached_b45 at hf
  refine x_iload h dX3_reached_45 5 rfl (q := 47) rfl ?_
  refine x_bipush (v := 12) h dX3_reached_47 (by decide) (q := 49) rfl ?_
  refine x_icmp_gt (tgt := 131) h dX3_reached_49 (by decide) (q := 52) rfl hf (fun hc1 hf2 => ?_) (fun hc1 hf2 => ?_)
  · skip
    refine x_iload h dX3_reached_131 4 rfl (q := 133) rfl ?_
    have hz := Option.some.inj hf2
    subst hz
    exact x_iret h hg hr dX3_reached_133
  · skip
    refine x_iload_n h dX3_reached_52 rfl 2 rfl (q := 53) rfl ?_
    refine x_iload h dX3_reached_53 4 rfl (q := 55) rfl ?_
    refine x_iconst (v := (-1)) h dX3_reached_55 (by decide) (q := 56) rfl ?_
    refine x_ixor h dX3_reached_56 (q := 57) rfl ?_
    refine x_iand h dX3_reached_57 (q := 58) rfl ?_
    refine x_aload_n h dX3_reached_58 rfl 0 rfl (q := 59) rfl ?_
    refine x_get_X3_78_1 h hg kf_X3_22 nn_X3 dX3_reached_59 ?_
    refine x_iload_n h dX3_reached_62 rfl 1 rfl (q := 63) rfl ?_
    refine x_iload h dX3_reached_63 4 rfl (q := 65) rfl ?_
    refine x_iload h dX3_reached_65 3 rfl (q := 67) rfl ?_
    obtain ⟨u3, hu3, hf4⟩ := bnd_inv hf2
    refine x_callVi (As := [.int x1, .int x5, .int x4]) (rest := [.int (x2 &&& (x5 ^^^ (-1)))]) h hg (c_X6_forcing C.2.1 hg.2.1 σ x1 x5 x4 _ hu3) ml_X3_95 biX6_forcing rfl rfl hdX6_forcing ⟨Nat.le_of_ble_eq_true rfl, Nat.le_of_ble_eq_true rfl⟩ (by decide) (cE_69 g _) rfl rfl rfl (Nat.le_of_ble_eq_true rfl) dX3_reached_67 ?_
    refine x_iand h dX3_reached_70 (q := 71) rfl ?_
    refine x_istore (lv' := [(7, .int ((x2 &&& (x5 ^^^ (-1))) &&& u3.1)), (0, .ref (gA g 78)), (1, .int x1), (2, .int x2), (4, .int x4), (5, .int x5), (6, .int x6)]) h dX3_reached_71 hL (by decide) rfl (q := 73) rfl ?_
    refine x_iload h dX3_reached_73 0 rfl (q := 75) rfl ?_
    refine x_if_ne (tgt := 81) h dX3_reached_75 (by decide) (q := 78) rfl hf4 (fun hc5 hf6 => ?_) (fun hc5 hf6 => ?_)
    · skip
      refine x_iconst (v := 0) h dX3_reached_81 (by decide) (q := 82) rfl ?_
      refine x_istore (lv' := [(8, .int 0), (7, .int ((x2 &&& (x5 ^^^ (-1))) &&& u3.1)), (0, .ref (gA g 78)), (1, .int x1), (2, .int x2), (4, .int x4), (5, .int x5), (6, .int x6)]) h dX3_reached_82 hL (by decide) rfl (q := 84) rfl ?_
      refine x_sub (lv' := [(0, .ref (gA g 78)), (1, .int x1), (2, .int x2), (4, .int x4), (5, .int x5), (6, .int x6), (7, .int ((x2 &&& (x5 ^^^ (-1))) &&& u3.1)), (8, .int 0)]) [2, 3, 4, 5, 6, 7, 1, 0] rfl ?_
      exact w_X3_reached_l84 x1 x2 x4 x5 x6 ((x2 &&& (x5 ^^^ (-1))) &&& u3.1) o h hg hL hr k45 hk45  cFu (u3.2, 0) hf6
    · skip
      refine x_goto (q := 131) h dX3_reached_78 (by decide) ?_
      refine x_iload h dX3_reached_131 5 rfl (q := 133) rfl ?_
      have hz := Option.some.inj hf6
      subst hz
      exact x_iret h hg hr dX3_reached_133
set_option maxHeartbeats 4000000 in
set_option maxRecDepth 100000 in
theorem w_X3_reached_l45 {C : XC} {Q : State → Prop} {g : cG} (x1 : Int32) (x2 : Int32) (x4 : Int32) (o : Int32 × St) (h : XOk C cX3_reached RX3 tG rmX3_reached) (hg : XG C g) (hL : C.2.2.2.2.2.2.2.2.2.2.2.2.1 = 9) (hr : XEnd C (some .int) Q (XQ g (some (.int o.1)) o.2) (cA g)) : ∀ (n : Nat) (z : St × Int32 × Int32), loopF (fun k z => m_X3_reached_b45 z.1 x1 x2 x4 z.2.1 z.2.2 k) n z = some o → Xs C (wW g) Q z.1 45 [(0, .ref (gA g 78)), (1, .int x1), (2, .int x2), (4, .int x4), (5, .int z.2.1), (6, .int z.2.2)] [] := by
  intro n z hf
  refine loopF_ind (S := St × Int32 × Int32) (O := Int32 × St) (step := (fun k z => m_X3_reached_b45 z.1 x1 x2 x4 z.2.1 z.2.2 k)) (o := o) (P := fun z => Xs C (wW g) Q z.1 45 [(0, .ref (gA g 78)), (1, .int x1), (2, .int x2), (4, .int x4), (5, .int z.2.1), (6, .int z.2.2)] []) ?_ n z hf
  intro k hk z hf
  exact w_X3_reached_b45 z.1 x1 x2 x4 z.2.1 z.2.2 o h hg hL hr k hk hf
def m_X3_reached_b3 (σ : St) (x1 : Int32) (x2 : Int32) (x3 : Int32) (x4 : Int32) (x5 : Int32) (k3 : (St × Int32) → Option (Int32 × St)) : Option (Int32 × St) :=
  if 12 ≤ x5 then (
    loopF (fun k z => m_X3_reached_b45 z.1 x1 x2 x4 z.2.1 z.2.2 k) cFu (σ, x3, 1)
  ) else (
    if ((x3 >>> (x5 &&& 31)) &&& 1) = 0 then (
      m_X3_reached_b30 σ x1 x2 x3 x4 x5 (-1) x5 k3
    ) else (
      m_X3_reached_b30 σ x1 x2 x3 x4 x5 0 x5 k3
    )
  )
set_option maxHeartbeats 4000000 in
set_option maxRecDepth 100000 in
theorem w_X3_reached_b3 {C : XC} {Q : State → Prop} {g : cG} (σ : St) (x1 : Int32) (x2 : Int32) (x3 : Int32) (x4 : Int32) (x5 : Int32) (o : Int32 × St) (h : XOk C cX3_reached RX3 tG rmX3_reached) (hg : XG C g) (hL : C.2.2.2.2.2.2.2.2.2.2.2.2.1 = 9) (hr : XEnd C (some .int) Q (XQ g (some (.int o.1)) o.2) (cA g)) (k3 : (St × Int32) → Option (Int32 × St)) (hk3 : ∀ z : St × Int32, k3 z = some o → Xs C (wW g) Q z.1 3 [(0, .ref (gA g 78)), (1, .int x1), (2, .int x2), (3, .int x3), (4, .int x4), (5, .int z.2)] []) (hf : m_X3_reached_b3 σ x1 x2 x3 x4 x5 k3 = some o) : Xs C (wW g) Q σ 3 [(0, .ref (gA g 78)), (1, .int x1), (2, .int x2), (3, .int x3), (4, .int x4), (5, .int x5)] [] := by
  unfold m_X3_reached_b3 at hf
  refine x_iload h dX3_reached_3 5 rfl (q := 5) rfl ?_
  refine x_bipush (v := 12) h dX3_reached_5 (by decide) (q := 7) rfl ?_
  refine x_icmp_ge (tgt := 39) h dX3_reached_7 (by decide) (q := 10) rfl hf (fun hc1 hf2 => ?_) (fun hc1 hf2 => ?_)
  · skip
    refine x_iload_n h dX3_reached_39 rfl 3 rfl (q := 40) rfl ?_
    refine x_istore (lv' := [(5, .int x3), (0, .ref (gA g 78)), (1, .int x1), (2, .int x2), (3, .int x3), (4, .int x4)]) h dX3_reached_40 hL (by decide) rfl (q := 42) rfl ?_
    refine x_iconst (v := 1) h dX3_reached_42 (by decide) (q := 43) rfl ?_
    refine x_istore (lv' := [(6, .int 1), (5, .int x3), (0, .ref (gA g 78)), (1, .int x1), (2, .int x2), (3, .int x3), (4, .int x4)]) h dX3_reached_43 hL (by decide) rfl (q := 45) rfl ?_
    refine x_sub (lv' := [(0, .ref (gA g 78)), (1, .int x1), (2, .int x2), (4, .int x4), (5, .int x3), (6, .int 1)]) [2, 3, 4, 6, 1, 0] rfl ?_
    exact w_X3_reached_l45 x1 x2 x4 o h hg hL hr  cFu (σ, x3, 1) hf2
  · skip
    refine x_aload_n h dX3_reached_10 rfl 0 rfl (q := 11) rfl ?_
    refine x_get_X3_78_3 h hg kf_X3_15 nn_X3 dX3_reached_11 ?_
    refine x_iload h dX3_reached_14 5 rfl (q := 16) rfl ?_
    refine x_iload_n h dX3_reached_16 rfl 3 rfl (q := 17) rfl ?_
    refine x_iload h dX3_reached_17 5 rfl (q := 19) rfl ?_
    refine x_ishr h dX3_reached_19 (q := 20) rfl ?_
    refine x_iconst (v := 1) h dX3_reached_20 (by decide) (q := 21) rfl ?_
    refine x_iand h dX3_reached_21 (q := 22) rfl ?_
    refine x_if_eq (tgt := 29) h dX3_reached_22 (by decide) (q := 25) rfl hf2 (fun hc3 hf4 => ?_) (fun hc3 hf4 => ?_)
    · skip
      refine x_iconst (v := (-1)) h dX3_reached_29 (by decide) (q := 30) rfl ?_
      exact w_X3_reached_b30 σ x1 x2 x3 x4 x5 (-1) x5 o h hg hL hr k3 hk3 hf4
    · skip
      refine x_iconst (v := 0) h dX3_reached_25 (by decide) (q := 26) rfl ?_
      refine x_goto (q := 30) h dX3_reached_26 (by decide) ?_
      exact w_X3_reached_b30 σ x1 x2 x3 x4 x5 0 x5 o h hg hL hr k3 hk3 hf4
set_option maxHeartbeats 4000000 in
set_option maxRecDepth 100000 in
theorem w_X3_reached_l3 {C : XC} {Q : State → Prop} {g : cG} (x1 : Int32) (x2 : Int32) (x3 : Int32) (x4 : Int32) (o : Int32 × St) (h : XOk C cX3_reached RX3 tG rmX3_reached) (hg : XG C g) (hL : C.2.2.2.2.2.2.2.2.2.2.2.2.1 = 9) (hr : XEnd C (some .int) Q (XQ g (some (.int o.1)) o.2) (cA g)) : ∀ (n : Nat) (z : St × Int32), loopF (fun k z => m_X3_reached_b3 z.1 x1 x2 x3 x4 z.2 k) n z = some o → Xs C (wW g) Q z.1 3 [(0, .ref (gA g 78)), (1, .int x1), (2, .int x2), (3, .int x3), (4, .int x4), (5, .int z.2)] [] := by
  intro n z hf
  refine loopF_ind (S := St × Int32) (O := Int32 × St) (step := (fun k z => m_X3_reached_b3 z.1 x1 x2 x3 x4 z.2 k)) (o := o) (P := fun z => Xs C (wW g) Q z.1 3 [(0, .ref (gA g 78)), (1, .int x1), (2, .int x2), (3, .int x3), (4, .int x4), (5, .int z.2)] []) ?_ n z hf
  intro k hk z hf
  exact w_X3_reached_b3 z.1 x1 x2 x3 x4 z.2 o h hg hL hr k hk hf
def m_X3_reached (σ : St) (x1 : Int32) (x2 : Int32) (x3 : Int32) (x4 : Int32) : Option (Int32 × St) :=
  loopF (fun k z => m_X3_reached_b3 z.1 x1 x2 x3 x4 z.2 k) cFu (σ, 0)
set_option maxHeartbeats 4000000 in
set_option maxRecDepth 100000 in
theorem w_X3_reached {C : XC} {Q : State → Prop} {g : cG} (σ : St) (x1 : Int32) (x2 : Int32) (x3 : Int32) (x4 : Int32) (o : Int32 × St) (h : XOk C cX3_reached RX3 tG rmX3_reached) (hg : XG C g) (hL : C.2.2.2.2.2.2.2.2.2.2.2.2.1 = 9) (hr : XEnd C (some .int) Q (XQ g (some (.int o.1)) o.2) (cA g)) (hf : m_X3_reached σ x1 x2 x3 x4 = some o) : Xs C (wW g) Q σ 0 [(0, .ref (gA g 78)), (1, .int x1), (2, .int x2), (3, .int x3), (4, .int x4)] [] := by
  unfold m_X3_reached at hf
  refine x_iconst (v := 0) h dX3_reached_0 (by decide) (q := 1) rfl ?_
  refine x_istore (lv' := [(5, .int 0), (0, .ref (gA g 78)), (1, .int x1), (2, .int x2), (3, .int x3), (4, .int x4)]) h dX3_reached_1 hL (by decide) rfl (q := 3) rfl ?_
  refine x_sub (lv' := [(0, .ref (gA g 78)), (1, .int x1), (2, .int x2), (3, .int x3), (4, .int x4), (5, .int 0)]) [1, 2, 3, 4, 5, 0] rfl ?_
  exact w_X3_reached_l3 x1 x2 x3 x4 o h hg hL hr  cFu (σ, 0) hf
theorem c_X3_reached (l : Launch) {g : cG} (hi : gInj g) (σ : St) (x1 : Int32) (x2 : Int32) (x3 : Int32) (x4 : Int32) (o : Int32 × St) (hf : m_X3_reached σ x1 x2 x3 x4 = some o) : Met l yX3_reached (wT yX3_reached cX3_reached 9 (some .int)) rmX3_reached (va_Pc [.ref (gA g 78), .int x1, .int x2, .int x3, .int x4] (XPre g σ)) (XQ g (some (.int o.1)) o.2) 0 0 (cA g) :=
  X_met RX3 hi plX3 rfl (Nat.le_of_ble_eq_true rfl) rfl (fun _ _ _ h hg hL hr => w_X3_reached σ x1 x2 x3 x4 o h hg hL hr hf)
abbrev rmX3_kept : Room := { frames := 3, cells := 0, slots := 0, locals := 75 }
theorem hdX3_kept : yX3_kept.cls = RX3 ∧ yX3_kept.cls ≠ "java/lang/invoke/MethodHandle" ∧ yX3_kept.cls ≠ "java/lang/invoke/VarHandle" ∧ (parseMethodDescriptor yX3_kept.desc).map (fun d => d.parameters.length) = some 3 := by decide +kernel
def m_X3_kept_b6 (σ : St) (x1 : Int32) (x3 : Int32) (x4 : Int32) (x5 : Int32) (k6 : (St × Int32 × Int32) → Option (Int32 × St)) : Option (Int32 × St) :=
  if 12 < x5 then (
    some (x4, σ)
  ) else (
    (m_X6_forcing σ x1 x4 x3).bind fun u3 =>
    if (x4 &&& u3.1) = x4 then (
      some (x4, u3.2)
    ) else (
      k6 (u3.2, (x4 &&& u3.1), (x5 + 1))
    )
  )
set_option maxHeartbeats 4000000 in
set_option maxRecDepth 100000 in
theorem w_X3_kept_b6 {C : XC} {Q : State → Prop} {g : cG} (σ : St) (x1 : Int32) (x3 : Int32) (x4 : Int32) (x5 : Int32) (o : Int32 × St) (h : XOk C cX3_kept RX3 tG rmX3_kept) (hg : XG C g) (hL : C.2.2.2.2.2.2.2.2.2.2.2.2.1 = 7) (hr : XEnd C (some .int) Q (XQ g (some (.int o.1)) o.2) (cA g)) (k6 : (St × Int32 × Int32) → Option (Int32 × St)) (hk6 : ∀ z : St × Int32 × Int32, k6 z = some o → Xs C (wW g) Q z.1 6 [(0, .ref (gA g 78)), (1, .int x1), (3, .int x3), (4, .int z.2.1), (5, .int z.2.2)] []) (hf : m_X3_kept_b6 σ x1 x3 x4 x5 k6 = some o) : Xs C (wW g) Q σ 6 [(0, .ref (gA g 78)), (1, .int x1), (3, .int x3), (4, .int x4), (5, .int x5)] [] := by
  unfold m_X3_kept_b6 at hf
  refine x_iload h dX3_kept_6 4 rfl (q := 8) rfl ?_
  refine x_bipush (v := 12) h dX3_kept_8 (by decide) (q := 10) rfl ?_
  refine x_icmp_gt (tgt := 49) h dX3_kept_10 (by decide) (q := 13) rfl hf (fun hc1 hf2 => ?_) (fun hc1 hf2 => ?_)
  · skip
    refine x_iload h dX3_kept_49 3 rfl (q := 51) rfl ?_
    have hz := Option.some.inj hf2
    subst hz
    exact x_iret h hg hr dX3_kept_51
  · skip
    refine x_iload h dX3_kept_13 3 rfl (q := 15) rfl ?_
    refine x_aload_n h dX3_kept_15 rfl 0 rfl (q := 16) rfl ?_
    refine x_get_X3_78_1 h hg kf_X3_22 nn_X3 dX3_kept_16 ?_
    refine x_iload_n h dX3_kept_19 rfl 1 rfl (q := 20) rfl ?_
    refine x_iload h dX3_kept_20 3 rfl (q := 22) rfl ?_
    refine x_iload_n h dX3_kept_22 rfl 2 rfl (q := 23) rfl ?_
    obtain ⟨u3, hu3, hf4⟩ := bnd_inv hf2
    refine x_callVi (As := [.int x1, .int x4, .int x3]) (rest := [.int x4]) h hg (c_X6_forcing C.2.1 hg.2.1 σ x1 x4 x3 _ hu3) ml_X3_95 biX6_forcing rfl rfl hdX6_forcing ⟨Nat.le_of_ble_eq_true rfl, Nat.le_of_ble_eq_true rfl⟩ (by decide) (cE_69 g _) rfl rfl rfl (Nat.le_of_ble_eq_true rfl) dX3_kept_23 ?_
    refine x_iand h dX3_kept_26 (q := 27) rfl ?_
    refine x_istore (lv' := [(6, .int (x4 &&& u3.1)), (0, .ref (gA g 78)), (1, .int x1), (3, .int x3), (4, .int x4), (5, .int x5)]) h dX3_kept_27 hL (by decide) rfl (q := 29) rfl ?_
    refine x_iload h dX3_kept_29 0 rfl (q := 31) rfl ?_
    refine x_iload h dX3_kept_31 4 rfl (q := 33) rfl ?_
    refine x_icmp_ne (tgt := 39) h dX3_kept_33 (by decide) (q := 36) rfl hf4 (fun hc5 hf6 => ?_) (fun hc5 hf6 => ?_)
    · skip
      refine x_iload h dX3_kept_39 0 rfl (q := 41) rfl ?_
      refine x_istore (lv' := [(4, .int (x4 &&& u3.1)), (6, .int (x4 &&& u3.1)), (0, .ref (gA g 78)), (1, .int x1), (3, .int x3), (5, .int x5)]) h dX3_kept_41 hL (by decide) rfl (q := 43) rfl ?_
      refine x_iinc (v := (x5 + 1)) (lv' := [(5, .int (x5 + 1)), (4, .int (x4 &&& u3.1)), (6, .int (x4 &&& u3.1)), (0, .ref (gA g 78)), (1, .int x1), (3, .int x3)]) (j := 5) h dX3_kept_43 rfl rfl hL (by decide) rfl (q := 46) rfl ?_
      refine x_goto (q := 6) h dX3_kept_46 (by decide) ?_
      refine x_sub (lv' := [(0, .ref (gA g 78)), (1, .int x1), (3, .int x3), (4, .int (x4 &&& u3.1)), (5, .int (x5 + 1))]) [3, 4, 5, 1, 0] rfl ?_
      exact hk6 (u3.2, (x4 &&& u3.1), (x5 + 1)) hf6
    · skip
      refine x_goto (q := 49) h dX3_kept_36 (by decide) ?_
      refine x_iload h dX3_kept_49 4 rfl (q := 51) rfl ?_
      have hz := Option.some.inj hf6
      subst hz
      exact x_iret h hg hr dX3_kept_51
set_option maxHeartbeats 4000000 in
set_option maxRecDepth 100000 in
theorem w_X3_kept_l6 {C : XC} {Q : State → Prop} {g : cG} (x1 : Int32) (x3 : Int32) (o : Int32 × St) (h : XOk C cX3_kept RX3 tG rmX3_kept) (hg : XG C g) (hL : C.2.2.2.2.2.2.2.2.2.2.2.2.1 = 7) (hr : XEnd C (some .int) Q (XQ g (some (.int o.1)) o.2) (cA g)) : ∀ (n : Nat) (z : St × Int32 × Int32), loopF (fun k z => m_X3_kept_b6 z.1 x1 x3 z.2.1 z.2.2 k) n z = some o → Xs C (wW g) Q z.1 6 [(0, .ref (gA g 78)), (1, .int x1), (3, .int x3), (4, .int z.2.1), (5, .int z.2.2)] [] := by
  intro n z hf
  refine loopF_ind (S := St × Int32 × Int32) (O := Int32 × St) (step := (fun k z => m_X3_kept_b6 z.1 x1 x3 z.2.1 z.2.2 k)) (o := o) (P := fun z => Xs C (wW g) Q z.1 6 [(0, .ref (gA g 78)), (1, .int x1), (3, .int x3), (4, .int z.2.1), (5, .int z.2.2)] []) ?_ n z hf
  intro k hk z hf
  exact w_X3_kept_b6 z.1 x1 x3 z.2.1 z.2.2 o h hg hL hr k hk hf
def m_X3_kept (σ : St) (x1 : Int32) (x2 : Int32) (x3 : Int32) : Option (Int32 × St) :=
  loopF (fun k z => m_X3_kept_b6 z.1 x1 x3 z.2.1 z.2.2 k) cFu (σ, x2, 0)
set_option maxHeartbeats 4000000 in
set_option maxRecDepth 100000 in
theorem w_X3_kept {C : XC} {Q : State → Prop} {g : cG} (σ : St) (x1 : Int32) (x2 : Int32) (x3 : Int32) (o : Int32 × St) (h : XOk C cX3_kept RX3 tG rmX3_kept) (hg : XG C g) (hL : C.2.2.2.2.2.2.2.2.2.2.2.2.1 = 7) (hr : XEnd C (some .int) Q (XQ g (some (.int o.1)) o.2) (cA g)) (hf : m_X3_kept σ x1 x2 x3 = some o) : Xs C (wW g) Q σ 0 [(0, .ref (gA g 78)), (1, .int x1), (2, .int x2), (3, .int x3)] [] := by
  unfold m_X3_kept at hf
  refine x_iload_n h dX3_kept_0 rfl 2 rfl (q := 1) rfl ?_
  refine x_istore (lv' := [(4, .int x2), (0, .ref (gA g 78)), (1, .int x1), (2, .int x2), (3, .int x3)]) h dX3_kept_1 hL (by decide) rfl (q := 3) rfl ?_
  refine x_iconst (v := 0) h dX3_kept_3 (by decide) (q := 4) rfl ?_
  refine x_istore (lv' := [(5, .int 0), (4, .int x2), (0, .ref (gA g 78)), (1, .int x1), (2, .int x2), (3, .int x3)]) h dX3_kept_4 hL (by decide) rfl (q := 6) rfl ?_
  refine x_sub (lv' := [(0, .ref (gA g 78)), (1, .int x1), (3, .int x3), (4, .int x2), (5, .int 0)]) [2, 3, 5, 1, 0] rfl ?_
  exact w_X3_kept_l6 x1 x3 o h hg hL hr  cFu (σ, x2, 0) hf
theorem c_X3_kept (l : Launch) {g : cG} (hi : gInj g) (σ : St) (x1 : Int32) (x2 : Int32) (x3 : Int32) (o : Int32 × St) (hf : m_X3_kept σ x1 x2 x3 = some o) : Met l yX3_kept (wT yX3_kept cX3_kept 7 (some .int)) rmX3_kept (va_Pc [.ref (gA g 78), .int x1, .int x2, .int x3] (XPre g σ)) (XQ g (some (.int o.1)) o.2) 0 0 (cA g) :=
  X_met RX3 hi plX3 rfl (Nat.le_of_ble_eq_true rfl) rfl (fun _ _ _ h hg hL hr => w_X3_kept σ x1 x2 x3 o h hg hL hr hf)
abbrev rmX3_strongSet : Room := { frames := 4, cells := 0, slots := 0, locals := 103 }
theorem hdX3_strongSet : yX3_strongSet.cls = RX3 ∧ yX3_strongSet.cls ≠ "java/lang/invoke/MethodHandle" ∧ yX3_strongSet.cls ≠ "java/lang/invoke/VarHandle" ∧ (parseMethodDescriptor yX3_strongSet.desc).map (fun d => d.parameters.length) = some 5 := by decide +kernel
def m_X3_strongSet (σ : St) (x1 : Int32) (x2 : Int32) (x3 : Int32) (x4 : Int32) (x5 : Int32) : Option (Int32 × St) :=
  if x1 = 6 then (
    (m_X6_forcing σ x2 x3 x5).bind fun u4 =>
    some (u4.1, u4.2)
  ) else (
    if x1 = 7 then (
      (m_X3_reached σ x2 (m_X7_allStates σ) x3 x5).bind fun u9 =>
      some (u9.1, u9.2)
    ) else (
      if x1 = 8 then (
        (m_X3_kept σ x2 x3 x5).bind fun u14 =>
        some (u14.1, u14.2)
      ) else (
        if x1 = 9 then (
          (m_X3_reached σ x2 x3 x4 x5).bind fun u19 =>
          some (u19.1, u19.2)
        ) else (
          some (0, σ)
        )
      )
    )
  )
set_option maxHeartbeats 4000000 in
set_option maxRecDepth 100000 in
theorem w_X3_strongSet {C : XC} {Q : State → Prop} {g : cG} (σ : St) (x1 : Int32) (x2 : Int32) (x3 : Int32) (x4 : Int32) (x5 : Int32) (o : Int32 × St) (h : XOk C cX3_strongSet RX3 tG rmX3_strongSet) (hg : XG C g) (hL : C.2.2.2.2.2.2.2.2.2.2.2.2.1 = 6) (hr : XEnd C (some .int) Q (XQ g (some (.int o.1)) o.2) (cA g)) (hf : m_X3_strongSet σ x1 x2 x3 x4 x5 = some o) : Xs C (wW g) Q σ 0 [(0, .ref (gA g 78)), (1, .int x1), (2, .int x2), (3, .int x3), (4, .int x4), (5, .int x5)] [] := by
  unfold m_X3_strongSet at hf
  refine x_iload_n h dX3_strongSet_0 rfl 1 rfl (q := 1) rfl ?_
  by_cases hs2 : x1 = 6
  · have hf3 := (if_pos hs2).symm.trans hf
    refine x_tableIn (tgt := 32) h dX3_strongSet_1 (by rw [hs2]; decide) (by rw [hs2]; decide) (off := 31) (by rw [hs2]; decide) (by decide) ?_
    refine x_aload_n h dX3_strongSet_32 rfl 0 rfl (q := 33) rfl ?_
    refine x_get_X3_78_1 h hg kf_X3_22 nn_X3 dX3_strongSet_33 ?_
    refine x_iload_n h dX3_strongSet_36 rfl 2 rfl (q := 37) rfl ?_
    refine x_iload_n h dX3_strongSet_37 rfl 3 rfl (q := 38) rfl ?_
    refine x_iload h dX3_strongSet_38 5 rfl (q := 40) rfl ?_
    obtain ⟨u4, hu4, hf5⟩ := bnd_inv hf3
    refine x_callVi (As := [.int x2, .int x3, .int x5]) (rest := []) h hg (c_X6_forcing C.2.1 hg.2.1 σ x2 x3 x5 _ hu4) ml_X3_95 biX6_forcing rfl rfl hdX6_forcing ⟨Nat.le_of_ble_eq_true rfl, Nat.le_of_ble_eq_true rfl⟩ (by decide) (cE_69 g _) rfl rfl rfl (Nat.le_of_ble_eq_true rfl) dX3_strongSet_40 ?_
    have hz := Option.some.inj hf5
    subst hz
    exact x_iret h hg hr dX3_strongSet_43
  · have hf6 := (if_neg hs2).symm.trans hf
    by_cases hs7 : x1 = 7
    · have hf8 := (if_pos hs7).symm.trans hf6
      refine x_tableIn (tgt := 44) h dX3_strongSet_1 (by rw [hs7]; decide) (by rw [hs7]; decide) (off := 43) (by rw [hs7]; decide) (by decide) ?_
      refine x_aload_n h dX3_strongSet_44 rfl 0 rfl (q := 45) rfl ?_
      refine x_iload_n h dX3_strongSet_45 rfl 2 rfl (q := 46) rfl ?_
      refine x_aload_n h dX3_strongSet_46 rfl 0 rfl (q := 47) rfl ?_
      refine x_get_X3_78_0 h hg kf_X3_18 nn_X3 dX3_strongSet_47 ?_
      refine x_callVi (As := []) (rest := [.int x2, .ref (gA g 78)]) h hg (c_X7_allStates C.2.1 hg.2.1 σ _ rfl) ml_X3_92 biX7_allStates rfl rfl hdX7_allStates ⟨Nat.le_of_ble_eq_true rfl, Nat.le_of_ble_eq_true rfl⟩ (by decide) (cE_0 g _) rfl rfl rfl (Nat.le_of_ble_eq_true rfl) dX3_strongSet_50 ?_
      refine x_iload_n h dX3_strongSet_53 rfl 3 rfl (q := 54) rfl ?_
      refine x_iload h dX3_strongSet_54 5 rfl (q := 56) rfl ?_
      obtain ⟨u9, hu9, hf10⟩ := bnd_inv hf8
      refine x_callVi (As := [.int x2, .int (m_X7_allStates σ), .int x3, .int x5]) (rest := []) h hg (c_X3_reached C.2.1 hg.2.1 σ x2 (m_X7_allStates σ) x3 x5 _ hu9) ml_X3_101 biX3_reached rfl rfl hdX3_reached ⟨Nat.le_of_ble_eq_true rfl, Nat.le_of_ble_eq_true rfl⟩ (by decide) (cE_78 g _) rfl rfl rfl (Nat.le_of_ble_eq_true rfl) dX3_strongSet_56 ?_
      have hz := Option.some.inj hf10
      subst hz
      exact x_iret h hg hr dX3_strongSet_59
    · have hf11 := (if_neg hs7).symm.trans hf6
      by_cases hs12 : x1 = 8
      · have hf13 := (if_pos hs12).symm.trans hf11
        refine x_tableIn (tgt := 60) h dX3_strongSet_1 (by rw [hs12]; decide) (by rw [hs12]; decide) (off := 59) (by rw [hs12]; decide) (by decide) ?_
        refine x_aload_n h dX3_strongSet_60 rfl 0 rfl (q := 61) rfl ?_
        refine x_iload_n h dX3_strongSet_61 rfl 2 rfl (q := 62) rfl ?_
        refine x_iload_n h dX3_strongSet_62 rfl 3 rfl (q := 63) rfl ?_
        refine x_iload h dX3_strongSet_63 5 rfl (q := 65) rfl ?_
        obtain ⟨u14, hu14, hf15⟩ := bnd_inv hf13
        refine x_callVi (As := [.int x2, .int x3, .int x5]) (rest := []) h hg (c_X3_kept C.2.1 hg.2.1 σ x2 x3 x5 _ hu14) ml_X3_105 biX3_kept rfl rfl hdX3_kept ⟨Nat.le_of_ble_eq_true rfl, Nat.le_of_ble_eq_true rfl⟩ (by decide) (cE_78 g _) rfl rfl rfl (Nat.le_of_ble_eq_true rfl) dX3_strongSet_65 ?_
        have hz := Option.some.inj hf15
        subst hz
        exact x_iret h hg hr dX3_strongSet_68
      · have hf16 := (if_neg hs12).symm.trans hf11
        by_cases hs17 : x1 = 9
        · have hf18 := (if_pos hs17).symm.trans hf16
          refine x_tableIn (tgt := 69) h dX3_strongSet_1 (by rw [hs17]; decide) (by rw [hs17]; decide) (off := 68) (by rw [hs17]; decide) (by decide) ?_
          refine x_aload_n h dX3_strongSet_69 rfl 0 rfl (q := 70) rfl ?_
          refine x_iload_n h dX3_strongSet_70 rfl 2 rfl (q := 71) rfl ?_
          refine x_iload_n h dX3_strongSet_71 rfl 3 rfl (q := 72) rfl ?_
          refine x_iload h dX3_strongSet_72 4 rfl (q := 74) rfl ?_
          refine x_iload h dX3_strongSet_74 5 rfl (q := 76) rfl ?_
          obtain ⟨u19, hu19, hf20⟩ := bnd_inv hf18
          refine x_callVi (As := [.int x2, .int x3, .int x4, .int x5]) (rest := []) h hg (c_X3_reached C.2.1 hg.2.1 σ x2 x3 x4 x5 _ hu19) ml_X3_101 biX3_reached rfl rfl hdX3_reached ⟨Nat.le_of_ble_eq_true rfl, Nat.le_of_ble_eq_true rfl⟩ (by decide) (cE_78 g _) rfl rfl rfl (Nat.le_of_ble_eq_true rfl) dX3_strongSet_76 ?_
          have hz := Option.some.inj hf20
          subst hz
          exact x_iret h hg hr dX3_strongSet_79
        · have hf21 := (if_neg hs17).symm.trans hf16
          refine x_tableOut (tgt := 80) h dX3_strongSet_1 (by have hs2 := ne_toInt hs2; have hs7 := ne_toInt hs7; have hs12 := ne_toInt hs12; have hs17 := ne_toInt hs17; have ehs2 : (6 : Int32).toInt = 6 := (by decide); have ehs7 : (7 : Int32).toInt = 7 := (by decide); have ehs12 : (8 : Int32).toInt = 8 := (by decide); have ehs17 : (9 : Int32).toInt = 9 := (by decide); omega) (by decide) ?_
          refine x_iconst (v := 0) h dX3_strongSet_80 (by decide) (q := 81) rfl ?_
          have hz := Option.some.inj hf21
          subst hz
          exact x_iret h hg hr dX3_strongSet_81
theorem c_X3_strongSet (l : Launch) {g : cG} (hi : gInj g) (σ : St) (x1 : Int32) (x2 : Int32) (x3 : Int32) (x4 : Int32) (x5 : Int32) (o : Int32 × St) (hf : m_X3_strongSet σ x1 x2 x3 x4 x5 = some o) : Met l yX3_strongSet (wT yX3_strongSet cX3_strongSet 6 (some .int)) rmX3_strongSet (va_Pc [.ref (gA g 78), .int x1, .int x2, .int x3, .int x4, .int x5] (XPre g σ)) (XQ g (some (.int o.1)) o.2) 0 0 (cA g) :=
  X_met RX3 hi plX3 rfl (Nat.le_of_ble_eq_true rfl) rfl (fun _ _ _ h hg hL hr => w_X3_strongSet σ x1 x2 x3 x4 x5 o h hg hL hr hf)
abbrev rmX3_unavoidable : Room := { frames := 3, cells := 0, slots := 0, locals := 75 }
theorem hdX3_unavoidable : yX3_unavoidable.cls = RX3 ∧ yX3_unavoidable.cls ≠ "java/lang/invoke/MethodHandle" ∧ yX3_unavoidable.cls ≠ "java/lang/invoke/VarHandle" ∧ (parseMethodDescriptor yX3_unavoidable.desc).map (fun d => d.parameters.length) = some 3 := by decide +kernel
def m_X3_unavoidable_b15 (σ : St) (x1 : Int32) (x2 : Int32) (x3 : Int32) (x4 : Int32) (x5 : Int32) (x6 : Int32) (k15 : (St × Int32 × Int32) → Option (Int32 × St)) : Option (Int32 × St) :=
  if 12 < x6 then (
    some (x5, σ)
  ) else (
    (m_X6_forcing σ x1 (x4 &&& (x5 ^^^ (-1))) 0).bind fun u3 =>
    if (x3 ||| (x2 &&& (u3.1 ^^^ (-1)))) = x5 then (
      some (x5, u3.2)
    ) else (
      k15 (u3.2, (x3 ||| (x2 &&& (u3.1 ^^^ (-1)))), (x6 + 1))
    )
  )
set_option maxHeartbeats 4000000 in
set_option maxRecDepth 100000 in
theorem w_X3_unavoidable_b15 {C : XC} {Q : State → Prop} {g : cG} (σ : St) (x1 : Int32) (x2 : Int32) (x3 : Int32) (x4 : Int32) (x5 : Int32) (x6 : Int32) (o : Int32 × St) (h : XOk C cX3_unavoidable RX3 tG rmX3_unavoidable) (hg : XG C g) (hL : C.2.2.2.2.2.2.2.2.2.2.2.2.1 = 8) (hr : XEnd C (some .int) Q (XQ g (some (.int o.1)) o.2) (cA g)) (k15 : (St × Int32 × Int32) → Option (Int32 × St)) (hk15 : ∀ z : St × Int32 × Int32, k15 z = some o → Xs C (wW g) Q z.1 15 [(0, .ref (gA g 78)), (1, .int x1), (2, .int x2), (3, .int x3), (4, .int x4), (5, .int z.2.1), (6, .int z.2.2)] []) (hf : m_X3_unavoidable_b15 σ x1 x2 x3 x4 x5 x6 k15 = some o) : Xs C (wW g) Q σ 15 [(0, .ref (gA g 78)), (1, .int x1), (2, .int x2), (3, .int x3), (4, .int x4), (5, .int x5), (6, .int x6)] [] := by
  unfold m_X3_unavoidable_b15 at hf
  refine x_iload h dX3_unavoidable_15 6 rfl (q := 17) rfl ?_
  refine x_bipush (v := 12) h dX3_unavoidable_17 (by decide) (q := 19) rfl ?_
  refine x_icmp_gt (tgt := 66) h dX3_unavoidable_19 (by decide) (q := 22) rfl hf (fun hc1 hf2 => ?_) (fun hc1 hf2 => ?_)
  · skip
    refine x_iload h dX3_unavoidable_66 5 rfl (q := 68) rfl ?_
    have hz := Option.some.inj hf2
    subst hz
    exact x_iret h hg hr dX3_unavoidable_68
  · skip
    refine x_iload_n h dX3_unavoidable_22 rfl 3 rfl (q := 23) rfl ?_
    refine x_iload_n h dX3_unavoidable_23 rfl 2 rfl (q := 24) rfl ?_
    refine x_aload_n h dX3_unavoidable_24 rfl 0 rfl (q := 25) rfl ?_
    refine x_get_X3_78_1 h hg kf_X3_22 nn_X3 dX3_unavoidable_25 ?_
    refine x_iload_n h dX3_unavoidable_28 rfl 1 rfl (q := 29) rfl ?_
    refine x_iload h dX3_unavoidable_29 4 rfl (q := 31) rfl ?_
    refine x_iload h dX3_unavoidable_31 5 rfl (q := 33) rfl ?_
    refine x_iconst (v := (-1)) h dX3_unavoidable_33 (by decide) (q := 34) rfl ?_
    refine x_ixor h dX3_unavoidable_34 (q := 35) rfl ?_
    refine x_iand h dX3_unavoidable_35 (q := 36) rfl ?_
    refine x_iconst (v := 0) h dX3_unavoidable_36 (by decide) (q := 37) rfl ?_
    obtain ⟨u3, hu3, hf4⟩ := bnd_inv hf2
    refine x_callVi (As := [.int x1, .int (x4 &&& (x5 ^^^ (-1))), .int 0]) (rest := [.int x2, .int x3]) h hg (c_X6_forcing C.2.1 hg.2.1 σ x1 (x4 &&& (x5 ^^^ (-1))) 0 _ hu3) ml_X3_95 biX6_forcing rfl rfl hdX6_forcing ⟨Nat.le_of_ble_eq_true rfl, Nat.le_of_ble_eq_true rfl⟩ (by decide) (cE_69 g _) rfl rfl rfl (Nat.le_of_ble_eq_true rfl) dX3_unavoidable_37 ?_
    refine x_iconst (v := (-1)) h dX3_unavoidable_40 (by decide) (q := 41) rfl ?_
    refine x_ixor h dX3_unavoidable_41 (q := 42) rfl ?_
    refine x_iand h dX3_unavoidable_42 (q := 43) rfl ?_
    refine x_ior h dX3_unavoidable_43 (q := 44) rfl ?_
    refine x_istore (lv' := [(7, .int (x3 ||| (x2 &&& (u3.1 ^^^ (-1))))), (0, .ref (gA g 78)), (1, .int x1), (2, .int x2), (3, .int x3), (4, .int x4), (5, .int x5), (6, .int x6)]) h dX3_unavoidable_44 hL (by decide) rfl (q := 46) rfl ?_
    refine x_iload h dX3_unavoidable_46 0 rfl (q := 48) rfl ?_
    refine x_iload h dX3_unavoidable_48 6 rfl (q := 50) rfl ?_
    refine x_icmp_ne (tgt := 56) h dX3_unavoidable_50 (by decide) (q := 53) rfl hf4 (fun hc5 hf6 => ?_) (fun hc5 hf6 => ?_)
    · skip
      refine x_iload h dX3_unavoidable_56 0 rfl (q := 58) rfl ?_
      refine x_istore (lv' := [(5, .int (x3 ||| (x2 &&& (u3.1 ^^^ (-1))))), (7, .int (x3 ||| (x2 &&& (u3.1 ^^^ (-1))))), (0, .ref (gA g 78)), (1, .int x1), (2, .int x2), (3, .int x3), (4, .int x4), (6, .int x6)]) h dX3_unavoidable_58 hL (by decide) rfl (q := 60) rfl ?_
      refine x_iinc (v := (x6 + 1)) (lv' := [(6, .int (x6 + 1)), (5, .int (x3 ||| (x2 &&& (u3.1 ^^^ (-1))))), (7, .int (x3 ||| (x2 &&& (u3.1 ^^^ (-1))))), (0, .ref (gA g 78)), (1, .int x1), (2, .int x2), (3, .int x3), (4, .int x4)]) (j := 7) h dX3_unavoidable_60 rfl rfl hL (by decide) rfl (q := 63) rfl ?_
      refine x_goto (q := 15) h dX3_unavoidable_63 (by decide) ?_
      refine x_sub (lv' := [(0, .ref (gA g 78)), (1, .int x1), (2, .int x2), (3, .int x3), (4, .int x4), (5, .int (x3 ||| (x2 &&& (u3.1 ^^^ (-1))))), (6, .int (x6 + 1))]) [3, 4, 5, 6, 7, 1, 0] rfl ?_
      exact hk15 (u3.2, (x3 ||| (x2 &&& (u3.1 ^^^ (-1)))), (x6 + 1)) hf6
    · skip
      refine x_goto (q := 66) h dX3_unavoidable_53 (by decide) ?_
      refine x_iload h dX3_unavoidable_66 6 rfl (q := 68) rfl ?_
      have hz := Option.some.inj hf6
      subst hz
      exact x_iret h hg hr dX3_unavoidable_68
set_option maxHeartbeats 4000000 in
set_option maxRecDepth 100000 in
theorem w_X3_unavoidable_l15 {C : XC} {Q : State → Prop} {g : cG} (x1 : Int32) (x2 : Int32) (x3 : Int32) (x4 : Int32) (o : Int32 × St) (h : XOk C cX3_unavoidable RX3 tG rmX3_unavoidable) (hg : XG C g) (hL : C.2.2.2.2.2.2.2.2.2.2.2.2.1 = 8) (hr : XEnd C (some .int) Q (XQ g (some (.int o.1)) o.2) (cA g)) : ∀ (n : Nat) (z : St × Int32 × Int32), loopF (fun k z => m_X3_unavoidable_b15 z.1 x1 x2 x3 x4 z.2.1 z.2.2 k) n z = some o → Xs C (wW g) Q z.1 15 [(0, .ref (gA g 78)), (1, .int x1), (2, .int x2), (3, .int x3), (4, .int x4), (5, .int z.2.1), (6, .int z.2.2)] [] := by
  intro n z hf
  refine loopF_ind (S := St × Int32 × Int32) (O := Int32 × St) (step := (fun k z => m_X3_unavoidable_b15 z.1 x1 x2 x3 x4 z.2.1 z.2.2 k)) (o := o) (P := fun z => Xs C (wW g) Q z.1 15 [(0, .ref (gA g 78)), (1, .int x1), (2, .int x2), (3, .int x3), (4, .int x4), (5, .int z.2.1), (6, .int z.2.2)] []) ?_ n z hf
  intro k hk z hf
  exact w_X3_unavoidable_b15 z.1 x1 x2 x3 x4 z.2.1 z.2.2 o h hg hL hr k hk hf
def m_X3_unavoidable (σ : St) (x1 : Int32) (x2 : Int32) (x3 : Int32) : Option (Int32 × St) :=
  loopF (fun k z => m_X3_unavoidable_b15 z.1 x1 x2 x3 (m_X7_allStates σ) z.2.1 z.2.2 k) cFu (σ, x3, 0)
set_option maxHeartbeats 4000000 in
set_option maxRecDepth 100000 in
theorem w_X3_unavoidable {C : XC} {Q : State → Prop} {g : cG} (σ : St) (x1 : Int32) (x2 : Int32) (x3 : Int32) (o : Int32 × St) (h : XOk C cX3_unavoidable RX3 tG rmX3_unavoidable) (hg : XG C g) (hL : C.2.2.2.2.2.2.2.2.2.2.2.2.1 = 8) (hr : XEnd C (some .int) Q (XQ g (some (.int o.1)) o.2) (cA g)) (hf : m_X3_unavoidable σ x1 x2 x3 = some o) : Xs C (wW g) Q σ 0 [(0, .ref (gA g 78)), (1, .int x1), (2, .int x2), (3, .int x3)] [] := by
  unfold m_X3_unavoidable at hf
  refine x_aload_n h dX3_unavoidable_0 rfl 0 rfl (q := 1) rfl ?_
  refine x_get_X3_78_0 h hg kf_X3_18 nn_X3 dX3_unavoidable_1 ?_
  refine x_callVi (As := []) (rest := []) h hg (c_X7_allStates C.2.1 hg.2.1 σ _ rfl) ml_X3_92 biX7_allStates rfl rfl hdX7_allStates ⟨Nat.le_of_ble_eq_true rfl, Nat.le_of_ble_eq_true rfl⟩ (by decide) (cE_0 g _) rfl rfl rfl (Nat.le_of_ble_eq_true rfl) dX3_unavoidable_4 ?_
  refine x_istore (lv' := [(4, .int (m_X7_allStates σ)), (0, .ref (gA g 78)), (1, .int x1), (2, .int x2), (3, .int x3)]) h dX3_unavoidable_7 hL (by decide) rfl (q := 9) rfl ?_
  refine x_iload_n h dX3_unavoidable_9 rfl 4 rfl (q := 10) rfl ?_
  refine x_istore (lv' := [(5, .int x3), (4, .int (m_X7_allStates σ)), (0, .ref (gA g 78)), (1, .int x1), (2, .int x2), (3, .int x3)]) h dX3_unavoidable_10 hL (by decide) rfl (q := 12) rfl ?_
  refine x_iconst (v := 0) h dX3_unavoidable_12 (by decide) (q := 13) rfl ?_
  refine x_istore (lv' := [(6, .int 0), (5, .int x3), (4, .int (m_X7_allStates σ)), (0, .ref (gA g 78)), (1, .int x1), (2, .int x2), (3, .int x3)]) h dX3_unavoidable_13 hL (by decide) rfl (q := 15) rfl ?_
  refine x_sub (lv' := [(0, .ref (gA g 78)), (1, .int x1), (2, .int x2), (3, .int x3), (4, .int (m_X7_allStates σ)), (5, .int x3), (6, .int 0)]) [3, 4, 5, 6, 2, 1, 0] rfl ?_
  exact w_X3_unavoidable_l15 x1 x2 x3 (m_X7_allStates σ) o h hg hL hr  cFu (σ, x3, 0) hf
theorem c_X3_unavoidable (l : Launch) {g : cG} (hi : gInj g) (σ : St) (x1 : Int32) (x2 : Int32) (x3 : Int32) (o : Int32 × St) (hf : m_X3_unavoidable σ x1 x2 x3 = some o) : Met l yX3_unavoidable (wT yX3_unavoidable cX3_unavoidable 8 (some .int)) rmX3_unavoidable (va_Pc [.ref (gA g 78), .int x1, .int x2, .int x3] (XPre g σ)) (XQ g (some (.int o.1)) o.2) 0 0 (cA g) :=
  X_met RX3 hi plX3 rfl (Nat.le_of_ble_eq_true rfl) rfl (fun _ _ _ h hg hL hr => w_X3_unavoidable σ x1 x2 x3 o h hg hL hr hf)
abbrev rmX3_boxSet : Room := { frames := 4, cells := 0, slots := 0, locals := 103 }
theorem hdX3_boxSet : yX3_boxSet.cls = RX3 ∧ yX3_boxSet.cls ≠ "java/lang/invoke/MethodHandle" ∧ yX3_boxSet.cls ≠ "java/lang/invoke/VarHandle" ∧ (parseMethodDescriptor yX3_boxSet.desc).map (fun d => d.parameters.length) = some 4 := by decide +kernel
def m_X3_boxSet (σ : St) (x1 : Int32) (x2 : Int32) (x3 : Int32) (x4 : Int32) : Option (Int32 × St) :=
  if x1 = 6 then (
    (m_X6_forcing σ x2 ((m_X7_allStates σ) &&& (x3 ^^^ (-1))) 0).bind fun u4 =>
    some (((m_X7_allStates σ) &&& (u4.1 ^^^ (-1))), u4.2)
  ) else (
    if x1 = 7 then (
      (m_X3_kept σ x2 ((m_X7_allStates σ) &&& (x3 ^^^ (-1))) 0).bind fun u9 =>
      some (((m_X7_allStates σ) &&& (u9.1 ^^^ (-1))), u9.2)
    ) else (
      if x1 = 8 then (
        (m_X3_reached σ x2 (m_X7_allStates σ) ((m_X7_allStates σ) &&& (x3 ^^^ (-1))) 0).bind fun u14 =>
        some (((m_X7_allStates σ) &&& (u14.1 ^^^ (-1))), u14.2)
      ) else (
        if x1 = 9 then (
          (m_X3_unavoidable σ x2 x3 x4).bind fun u19 =>
          some (u19.1, u19.2)
        ) else (
          some (0, σ)
        )
      )
    )
  )
set_option maxHeartbeats 4000000 in
set_option maxRecDepth 100000 in
theorem w_X3_boxSet {C : XC} {Q : State → Prop} {g : cG} (σ : St) (x1 : Int32) (x2 : Int32) (x3 : Int32) (x4 : Int32) (o : Int32 × St) (h : XOk C cX3_boxSet RX3 tG rmX3_boxSet) (hg : XG C g) (hL : C.2.2.2.2.2.2.2.2.2.2.2.2.1 = 6) (hr : XEnd C (some .int) Q (XQ g (some (.int o.1)) o.2) (cA g)) (hf : m_X3_boxSet σ x1 x2 x3 x4 = some o) : Xs C (wW g) Q σ 0 [(0, .ref (gA g 78)), (1, .int x1), (2, .int x2), (3, .int x3), (4, .int x4)] [] := by
  unfold m_X3_boxSet at hf
  refine x_aload_n h dX3_boxSet_0 rfl 0 rfl (q := 1) rfl ?_
  refine x_get_X3_78_0 h hg kf_X3_18 nn_X3 dX3_boxSet_1 ?_
  refine x_callVi (As := []) (rest := []) h hg (c_X7_allStates C.2.1 hg.2.1 σ _ rfl) ml_X3_92 biX7_allStates rfl rfl hdX7_allStates ⟨Nat.le_of_ble_eq_true rfl, Nat.le_of_ble_eq_true rfl⟩ (by decide) (cE_0 g _) rfl rfl rfl (Nat.le_of_ble_eq_true rfl) dX3_boxSet_4 ?_
  refine x_istore (lv' := [(5, .int (m_X7_allStates σ)), (0, .ref (gA g 78)), (1, .int x1), (2, .int x2), (3, .int x3), (4, .int x4)]) h dX3_boxSet_7 hL (by decide) rfl (q := 9) rfl ?_
  refine x_iload_n h dX3_boxSet_9 rfl 2 rfl (q := 10) rfl ?_
  by_cases hs2 : x1 = 6
  · have hf3 := (if_pos hs2).symm.trans hf
    refine x_tableIn (tgt := 40) h dX3_boxSet_10 (by rw [hs2]; decide) (by rw [hs2]; decide) (off := 30) (by rw [hs2]; decide) (by decide) ?_
    refine x_iload h dX3_boxSet_40 0 rfl (q := 42) rfl ?_
    refine x_aload_n h dX3_boxSet_42 rfl 1 rfl (q := 43) rfl ?_
    refine x_get_X3_78_1 h hg kf_X3_22 nn_X3 dX3_boxSet_43 ?_
    refine x_iload_n h dX3_boxSet_46 rfl 3 rfl (q := 47) rfl ?_
    refine x_iload h dX3_boxSet_47 0 rfl (q := 49) rfl ?_
    refine x_iload_n h dX3_boxSet_49 rfl 4 rfl (q := 50) rfl ?_
    refine x_iconst (v := (-1)) h dX3_boxSet_50 (by decide) (q := 51) rfl ?_
    refine x_ixor h dX3_boxSet_51 (q := 52) rfl ?_
    refine x_iand h dX3_boxSet_52 (q := 53) rfl ?_
    refine x_iconst (v := 0) h dX3_boxSet_53 (by decide) (q := 54) rfl ?_
    obtain ⟨u4, hu4, hf5⟩ := bnd_inv hf3
    refine x_callVi (As := [.int x2, .int ((m_X7_allStates σ) &&& (x3 ^^^ (-1))), .int 0]) (rest := [.int (m_X7_allStates σ)]) h hg (c_X6_forcing C.2.1 hg.2.1 σ x2 ((m_X7_allStates σ) &&& (x3 ^^^ (-1))) 0 _ hu4) ml_X3_95 biX6_forcing rfl rfl hdX6_forcing ⟨Nat.le_of_ble_eq_true rfl, Nat.le_of_ble_eq_true rfl⟩ (by decide) (cE_69 g _) rfl rfl rfl (Nat.le_of_ble_eq_true rfl) dX3_boxSet_54 ?_
    refine x_iconst (v := (-1)) h dX3_boxSet_57 (by decide) (q := 58) rfl ?_
    refine x_ixor h dX3_boxSet_58 (q := 59) rfl ?_
    refine x_iand h dX3_boxSet_59 (q := 60) rfl ?_
    have hz := Option.some.inj hf5
    subst hz
    exact x_iret h hg hr dX3_boxSet_60
  · have hf6 := (if_neg hs2).symm.trans hf
    by_cases hs7 : x1 = 7
    · have hf8 := (if_pos hs7).symm.trans hf6
      refine x_tableIn (tgt := 61) h dX3_boxSet_10 (by rw [hs7]; decide) (by rw [hs7]; decide) (off := 51) (by rw [hs7]; decide) (by decide) ?_
      refine x_iload h dX3_boxSet_61 0 rfl (q := 63) rfl ?_
      refine x_aload_n h dX3_boxSet_63 rfl 1 rfl (q := 64) rfl ?_
      refine x_iload_n h dX3_boxSet_64 rfl 3 rfl (q := 65) rfl ?_
      refine x_iload h dX3_boxSet_65 0 rfl (q := 67) rfl ?_
      refine x_iload_n h dX3_boxSet_67 rfl 4 rfl (q := 68) rfl ?_
      refine x_iconst (v := (-1)) h dX3_boxSet_68 (by decide) (q := 69) rfl ?_
      refine x_ixor h dX3_boxSet_69 (q := 70) rfl ?_
      refine x_iand h dX3_boxSet_70 (q := 71) rfl ?_
      refine x_iconst (v := 0) h dX3_boxSet_71 (by decide) (q := 72) rfl ?_
      obtain ⟨u9, hu9, hf10⟩ := bnd_inv hf8
      refine x_callVi (As := [.int x2, .int ((m_X7_allStates σ) &&& (x3 ^^^ (-1))), .int 0]) (rest := [.int (m_X7_allStates σ)]) h hg (c_X3_kept C.2.1 hg.2.1 σ x2 ((m_X7_allStates σ) &&& (x3 ^^^ (-1))) 0 _ hu9) ml_X3_105 biX3_kept rfl rfl hdX3_kept ⟨Nat.le_of_ble_eq_true rfl, Nat.le_of_ble_eq_true rfl⟩ (by decide) (cE_78 g _) rfl rfl rfl (Nat.le_of_ble_eq_true rfl) dX3_boxSet_72 ?_
      refine x_iconst (v := (-1)) h dX3_boxSet_75 (by decide) (q := 76) rfl ?_
      refine x_ixor h dX3_boxSet_76 (q := 77) rfl ?_
      refine x_iand h dX3_boxSet_77 (q := 78) rfl ?_
      have hz := Option.some.inj hf10
      subst hz
      exact x_iret h hg hr dX3_boxSet_78
    · have hf11 := (if_neg hs7).symm.trans hf6
      by_cases hs12 : x1 = 8
      · have hf13 := (if_pos hs12).symm.trans hf11
        refine x_tableIn (tgt := 79) h dX3_boxSet_10 (by rw [hs12]; decide) (by rw [hs12]; decide) (off := 69) (by rw [hs12]; decide) (by decide) ?_
        refine x_iload h dX3_boxSet_79 0 rfl (q := 81) rfl ?_
        refine x_aload_n h dX3_boxSet_81 rfl 1 rfl (q := 82) rfl ?_
        refine x_iload_n h dX3_boxSet_82 rfl 3 rfl (q := 83) rfl ?_
        refine x_iload h dX3_boxSet_83 0 rfl (q := 85) rfl ?_
        refine x_iload h dX3_boxSet_85 0 rfl (q := 87) rfl ?_
        refine x_iload_n h dX3_boxSet_87 rfl 4 rfl (q := 88) rfl ?_
        refine x_iconst (v := (-1)) h dX3_boxSet_88 (by decide) (q := 89) rfl ?_
        refine x_ixor h dX3_boxSet_89 (q := 90) rfl ?_
        refine x_iand h dX3_boxSet_90 (q := 91) rfl ?_
        refine x_iconst (v := 0) h dX3_boxSet_91 (by decide) (q := 92) rfl ?_
        obtain ⟨u14, hu14, hf15⟩ := bnd_inv hf13
        refine x_callVi (As := [.int x2, .int (m_X7_allStates σ), .int ((m_X7_allStates σ) &&& (x3 ^^^ (-1))), .int 0]) (rest := [.int (m_X7_allStates σ)]) h hg (c_X3_reached C.2.1 hg.2.1 σ x2 (m_X7_allStates σ) ((m_X7_allStates σ) &&& (x3 ^^^ (-1))) 0 _ hu14) ml_X3_101 biX3_reached rfl rfl hdX3_reached ⟨Nat.le_of_ble_eq_true rfl, Nat.le_of_ble_eq_true rfl⟩ (by decide) (cE_78 g _) rfl rfl rfl (Nat.le_of_ble_eq_true rfl) dX3_boxSet_92 ?_
        refine x_iconst (v := (-1)) h dX3_boxSet_95 (by decide) (q := 96) rfl ?_
        refine x_ixor h dX3_boxSet_96 (q := 97) rfl ?_
        refine x_iand h dX3_boxSet_97 (q := 98) rfl ?_
        have hz := Option.some.inj hf15
        subst hz
        exact x_iret h hg hr dX3_boxSet_98
      · have hf16 := (if_neg hs12).symm.trans hf11
        by_cases hs17 : x1 = 9
        · have hf18 := (if_pos hs17).symm.trans hf16
          refine x_tableIn (tgt := 99) h dX3_boxSet_10 (by rw [hs17]; decide) (by rw [hs17]; decide) (off := 89) (by rw [hs17]; decide) (by decide) ?_
          refine x_aload_n h dX3_boxSet_99 rfl 1 rfl (q := 100) rfl ?_
          refine x_iload_n h dX3_boxSet_100 rfl 3 rfl (q := 101) rfl ?_
          refine x_iload_n h dX3_boxSet_101 rfl 4 rfl (q := 102) rfl ?_
          refine x_iload h dX3_boxSet_102 5 rfl (q := 104) rfl ?_
          obtain ⟨u19, hu19, hf20⟩ := bnd_inv hf18
          refine x_callVi (As := [.int x2, .int x3, .int x4]) (rest := []) h hg (c_X3_unavoidable C.2.1 hg.2.1 σ x2 x3 x4 _ hu19) ml_X3_108 biX3_unavoidable rfl rfl hdX3_unavoidable ⟨Nat.le_of_ble_eq_true rfl, Nat.le_of_ble_eq_true rfl⟩ (by decide) (cE_78 g _) rfl rfl rfl (Nat.le_of_ble_eq_true rfl) dX3_boxSet_104 ?_
          have hz := Option.some.inj hf20
          subst hz
          exact x_iret h hg hr dX3_boxSet_107
        · have hf21 := (if_neg hs17).symm.trans hf16
          refine x_tableOut (tgt := 108) h dX3_boxSet_10 (by have hs2 := ne_toInt hs2; have hs7 := ne_toInt hs7; have hs12 := ne_toInt hs12; have hs17 := ne_toInt hs17; have ehs2 : (6 : Int32).toInt = 6 := (by decide); have ehs7 : (7 : Int32).toInt = 7 := (by decide); have ehs12 : (8 : Int32).toInt = 8 := (by decide); have ehs17 : (9 : Int32).toInt = 9 := (by decide); omega) (by decide) ?_
          refine x_iconst (v := 0) h dX3_boxSet_108 (by decide) (q := 109) rfl ?_
          have hz := Option.some.inj hf21
          subst hz
          exact x_iret h hg hr dX3_boxSet_109
theorem c_X3_boxSet (l : Launch) {g : cG} (hi : gInj g) (σ : St) (x1 : Int32) (x2 : Int32) (x3 : Int32) (x4 : Int32) (o : Int32 × St) (hf : m_X3_boxSet σ x1 x2 x3 x4 = some o) : Met l yX3_boxSet (wT yX3_boxSet cX3_boxSet 6 (some .int)) rmX3_boxSet (va_Pc [.ref (gA g 78), .int x1, .int x2, .int x3, .int x4] (XPre g σ)) (XQ g (some (.int o.1)) o.2) 0 0 (cA g) :=
  X_met RX3 hi plX3 rfl (Nat.le_of_ble_eq_true rfl) rfl (fun _ _ _ h hg hL hr => w_X3_boxSet σ x1 x2 x3 x4 o h hg hL hr hf)
abbrev rmX3_look : Room := { frames := 5, cells := 0, slots := 0, locals := 128 }
theorem hdX3_look : yX3_look.cls = RX3 ∧ yX3_look.cls ≠ "java/lang/invoke/MethodHandle" ∧ yX3_look.cls ≠ "java/lang/invoke/VarHandle" ∧ (parseMethodDescriptor yX3_look.desc).map (fun d => d.parameters.length) = some 1 := by decide +kernel
def m_X3_look_b127 (σ : St) (t1 : Nat) (x2 : Int32) (x6 : Int32) (k2 : (St × Int32) → Option (St)) : Option (St) :=
  k2 ((rPut σ 79 60 x2 x6), (x2 + 1))
set_option maxHeartbeats 4000000 in
set_option maxRecDepth 100000 in
theorem w_X3_look_b127 {C : XC} {Q : State → Prop} {g : cG} (σ : St) (t1 : Nat) (x2 : Int32) (x6 : Int32) (ht1 : isF t1 = true) (o : St) (h : XOk C cX3_look RX3 tG rmX3_look) (hg : XG C g) (hL : C.2.2.2.2.2.2.2.2.2.2.2.2.1 = 7) (hr : XEnd C none Q (XQ g (none) o) (cA g)) (k2 : (St × Int32) → Option (St)) (hk2 : ∀ z : St × Int32, k2 z = some o → Xs C (wW g) Q z.1 2 [(0, .ref (gA g 78)), (1, .ref (gA g t1)), (2, .int z.2)] []) (hf : m_X3_look_b127 σ t1 x2 x6 k2 = some o) : Xs C (wW g) Q σ 127 [(0, .ref (gA g 78)), (1, .ref (gA g t1)), (2, .int x2), (6, .int x6)] [] := by
  unfold m_X3_look_b127 at hf
  refine x_aload_n h dX3_look_127 rfl 0 rfl (q := 128) rfl ?_
  refine x_get_X3_78_2 h hg kf_X3_9 nn_X3 dX3_look_128 ?_
  refine x_iload_n h dX3_look_131 rfl 2 rfl (q := 132) rfl ?_
  refine x_iload h dX3_look_132 3 rfl (q := 134) rfl ?_
  refine x_callSv (As := [.ref (gA g 79), .int x2, .int x6]) (rest := []) h hg (c_X5_put C.2.1 hg.2.1 σ a_79 x2 x6) ml_X3_66 biX5_put rfl rfl hdX5_put ⟨Nat.le_of_ble_eq_true rfl, Nat.le_of_ble_eq_true rfl⟩ rfl rfl (Nat.le_of_ble_eq_true rfl) dX3_look_134 ?_
  refine x_iinc (v := (x2 + 1)) (lv' := [(2, .int (x2 + 1)), (0, .ref (gA g 78)), (1, .ref (gA g t1)), (6, .int x6)]) (j := 2) h dX3_look_137 rfl rfl hL (by decide) rfl (q := 140) rfl ?_
  refine x_goto (q := 2) h dX3_look_140 (by decide) ?_
  refine x_sub (lv' := [(0, .ref (gA g 78)), (1, .ref (gA g t1)), (2, .int (x2 + 1))]) [1, 2, 0] rfl ?_
  exact hk2 ((rPut σ 79 60 x2 x6), (x2 + 1)) hf
def m_X3_look_b2 (σ : St) (t1 : Nat) (x2 : Int32) (k2 : (St × Int32) → Option (St)) : Option (St) :=
  if (σ t1 4) ≤ x2 then (
    some σ
  ) else (
    if (m_X0_kind σ t1 x2) = 2 then (
      (m_X3_labelled σ (m_X0_detail σ t1 x2)).bind fun u13 =>
      m_X3_look_b127 σ t1 x2 u13 k2
    ) else (
      if 6 ≤ (m_X0_kind σ t1 x2) then (
        if 9 < (m_X0_kind σ t1 x2) then (
          (m_X3_boxSet σ ((m_X0_kind σ t1 x2) - 4) (m_X0_detail σ t1 x2) (rAt 60 (σ 79) (m_X0_first σ t1 x2)) (rAt 60 (σ 79) (m_X0_second σ t1 x2))).bind fun u9 =>
          m_X3_look_b127 u9.2 t1 x2 u9.1 k2
        ) else (
          (m_X3_strongSet σ (m_X0_kind σ t1 x2) (m_X0_detail σ t1 x2) (rAt 60 (σ 79) (m_X0_first σ t1 x2)) (rAt 60 (σ 79) (m_X0_second σ t1 x2)) 0).bind fun u11 =>
          m_X3_look_b127 u11.2 t1 x2 u11.1 k2
        )
      ) else (
        m_X3_look_b127 σ t1 x2 (m_X3_plainSet σ (m_X0_kind σ t1 x2) (rAt 60 (σ 79) (m_X0_first σ t1 x2)) (rAt 60 (σ 79) (m_X0_second σ t1 x2))) k2
      )
    )
  )
set_option maxHeartbeats 4000000 in
set_option maxRecDepth 100000 in
theorem w_X3_look_b2 {C : XC} {Q : State → Prop} {g : cG} (σ : St) (t1 : Nat) (x2 : Int32) (ht1 : isF t1 = true) (o : St) (h : XOk C cX3_look RX3 tG rmX3_look) (hg : XG C g) (hL : C.2.2.2.2.2.2.2.2.2.2.2.2.1 = 7) (hr : XEnd C none Q (XQ g (none) o) (cA g)) (k2 : (St × Int32) → Option (St)) (hk2 : ∀ z : St × Int32, k2 z = some o → Xs C (wW g) Q z.1 2 [(0, .ref (gA g 78)), (1, .ref (gA g t1)), (2, .int z.2)] []) (hf : m_X3_look_b2 σ t1 x2 k2 = some o) : Xs C (wW g) Q σ 2 [(0, .ref (gA g 78)), (1, .ref (gA g t1)), (2, .int x2)] [] := by
  unfold m_X3_look_b2 at hf
  refine x_iload_n h dX3_look_2 rfl 2 rfl (q := 3) rfl ?_
  refine x_aload_n h dX3_look_3 rfl 1 rfl (q := 4) rfl ?_
  refine x_get_X0_t_4 ht1 h hg kf_X3_26 nn_X0 dX3_look_4 ?_
  refine x_icmp_ge (tgt := 143) h dX3_look_7 (by decide) (q := 10) rfl hf (fun hc1 hf2 => ?_) (fun hc1 hf2 => ?_)
  · skip
    have hz := Option.some.inj hf2
    subst hz
    exact x_vret h hg hr dX3_look_143
  · skip
    refine x_aload_n h dX3_look_10 rfl 1 rfl (q := 11) rfl ?_
    refine x_iload_n h dX3_look_11 rfl 2 rfl (q := 12) rfl ?_
    refine x_callVi (As := [.int x2]) (rest := []) h hg (c_X0_kind C.2.1 hg.2.1 σ t1 x2 ht1 _ rfl) ml_X3_32 biX0_kind rfl rfl hdX0_kind ⟨Nat.le_of_ble_eq_true rfl, Nat.le_of_ble_eq_true rfl⟩ (isF_lt ht1) (cE_F ht1 g _) rfl rfl rfl (Nat.le_of_ble_eq_true rfl) dX3_look_12 ?_
    refine x_istore_n (lv' := [(3, .int (m_X0_kind σ t1 x2)), (0, .ref (gA g 78)), (1, .ref (gA g t1)), (2, .int x2)]) h dX3_look_15 rfl hL (by decide) rfl (q := 16) rfl ?_
    refine x_aload_n h dX3_look_16 rfl 1 rfl (q := 17) rfl ?_
    refine x_get_X3_78_2 h hg kf_X3_9 nn_X3 dX3_look_17 ?_
    refine x_aload_n h dX3_look_20 rfl 2 rfl (q := 21) rfl ?_
    refine x_iload_n h dX3_look_21 rfl 3 rfl (q := 22) rfl ?_
    refine x_callVi (As := [.int x2]) (rest := [.ref (gA g 79)]) h hg (c_X0_first C.2.1 hg.2.1 σ t1 x2 ht1 _ rfl) ml_X3_36 biX0_first rfl rfl hdX0_first ⟨Nat.le_of_ble_eq_true rfl, Nat.le_of_ble_eq_true rfl⟩ (isF_lt ht1) (cE_F ht1 g _) rfl rfl rfl (Nat.le_of_ble_eq_true rfl) dX3_look_22 ?_
    refine x_callSi (As := [.ref (gA g 79), .int (m_X0_first σ t1 x2)]) (rest := []) h hg (c_X5_at C.2.1 hg.2.1 σ a_79 (m_X0_first σ t1 x2)) ml_X3_39 biX5_at rfl rfl hdX5_at ⟨Nat.le_of_ble_eq_true rfl, Nat.le_of_ble_eq_true rfl⟩ rfl rfl (Nat.le_of_ble_eq_true rfl) dX3_look_25 ?_
    refine x_istore (lv' := [(4, .int (rAt 60 (σ 79) (m_X0_first σ t1 x2))), (3, .int (m_X0_kind σ t1 x2)), (0, .ref (gA g 78)), (1, .ref (gA g t1)), (2, .int x2)]) h dX3_look_28 hL (by decide) rfl (q := 30) rfl ?_
    refine x_aload_n h dX3_look_30 rfl 2 rfl (q := 31) rfl ?_
    refine x_get_X3_78_2 h hg kf_X3_9 nn_X3 dX3_look_31 ?_
    refine x_aload_n h dX3_look_34 rfl 3 rfl (q := 35) rfl ?_
    refine x_iload_n h dX3_look_35 rfl 4 rfl (q := 36) rfl ?_
    refine x_callVi (As := [.int x2]) (rest := [.ref (gA g 79)]) h hg (c_X0_second C.2.1 hg.2.1 σ t1 x2 ht1 _ rfl) ml_X3_45 biX0_second rfl rfl hdX0_second ⟨Nat.le_of_ble_eq_true rfl, Nat.le_of_ble_eq_true rfl⟩ (isF_lt ht1) (cE_F ht1 g _) rfl rfl rfl (Nat.le_of_ble_eq_true rfl) dX3_look_36 ?_
    refine x_callSi (As := [.ref (gA g 79), .int (m_X0_second σ t1 x2)]) (rest := []) h hg (c_X5_at C.2.1 hg.2.1 σ a_79 (m_X0_second σ t1 x2)) ml_X3_39 biX5_at rfl rfl hdX5_at ⟨Nat.le_of_ble_eq_true rfl, Nat.le_of_ble_eq_true rfl⟩ rfl rfl (Nat.le_of_ble_eq_true rfl) dX3_look_39 ?_
    refine x_istore (lv' := [(5, .int (rAt 60 (σ 79) (m_X0_second σ t1 x2))), (4, .int (rAt 60 (σ 79) (m_X0_first σ t1 x2))), (3, .int (m_X0_kind σ t1 x2)), (0, .ref (gA g 78)), (1, .ref (gA g t1)), (2, .int x2)]) h dX3_look_42 hL (by decide) rfl (q := 44) rfl ?_
    refine x_iload_n h dX3_look_44 rfl 2 rfl (q := 45) rfl ?_
    refine x_iconst (v := 2) h dX3_look_45 (by decide) (q := 46) rfl ?_
    refine x_icmp_ne (tgt := 63) h dX3_look_46 (by decide) (q := 49) rfl hf2 (fun hc3 hf4 => ?_) (fun hc3 hf4 => ?_)
    · skip
      refine x_iload_n h dX3_look_63 rfl 2 rfl (q := 64) rfl ?_
      refine x_bipush (v := 6) h dX3_look_64 (by decide) (q := 66) rfl ?_
      refine x_icmp_ge (tgt := 83) h dX3_look_66 (by decide) (q := 69) rfl hf4 (fun hc5 hf6 => ?_) (fun hc5 hf6 => ?_)
      · skip
        refine x_iload_n h dX3_look_83 rfl 2 rfl (q := 84) rfl ?_
        refine x_bipush (v := 9) h dX3_look_84 (by decide) (q := 86) rfl ?_
        refine x_icmp_gt (tgt := 109) h dX3_look_86 (by decide) (q := 89) rfl hf6 (fun hc7 hf8 => ?_) (fun hc7 hf8 => ?_)
        · skip
          refine x_aload_n h dX3_look_109 rfl 3 rfl (q := 110) rfl ?_
          refine x_iload_n h dX3_look_110 rfl 2 rfl (q := 111) rfl ?_
          refine x_iconst (v := 4) h dX3_look_111 (by decide) (q := 112) rfl ?_
          refine x_isub h dX3_look_112 (q := 113) rfl ?_
          refine x_aload_n h dX3_look_113 rfl 4 rfl (q := 114) rfl ?_
          refine x_iload_n h dX3_look_114 rfl 5 rfl (q := 115) rfl ?_
          refine x_callVi (As := [.int x2]) (rest := [.int ((m_X0_kind σ t1 x2) - 4), .ref (gA g 78)]) h hg (c_X0_detail C.2.1 hg.2.1 σ t1 x2 ht1 _ rfl) ml_X3_48 biX0_detail rfl rfl hdX0_detail ⟨Nat.le_of_ble_eq_true rfl, Nat.le_of_ble_eq_true rfl⟩ (isF_lt ht1) (cE_F ht1 g _) rfl rfl rfl (Nat.le_of_ble_eq_true rfl) dX3_look_115 ?_
          refine x_iload h dX3_look_118 1 rfl (q := 120) rfl ?_
          refine x_iload h dX3_look_120 0 rfl (q := 122) rfl ?_
          obtain ⟨u9, hu9, hf10⟩ := bnd_inv hf8
          refine x_callVi (As := [.int ((m_X0_kind σ t1 x2) - 4), .int (m_X0_detail σ t1 x2), .int (rAt 60 (σ 79) (m_X0_first σ t1 x2)), .int (rAt 60 (σ 79) (m_X0_second σ t1 x2))]) (rest := []) h hg (c_X3_boxSet C.2.1 hg.2.1 σ ((m_X0_kind σ t1 x2) - 4) (m_X0_detail σ t1 x2) (rAt 60 (σ 79) (m_X0_first σ t1 x2)) (rAt 60 (σ 79) (m_X0_second σ t1 x2)) _ hu9) ml_X3_62 biX3_boxSet rfl rfl hdX3_boxSet ⟨Nat.le_of_ble_eq_true rfl, Nat.le_of_ble_eq_true rfl⟩ (by decide) (cE_78 g _) rfl rfl rfl (Nat.le_of_ble_eq_true rfl) dX3_look_122 ?_
          refine x_istore (lv' := [(6, .int u9.1), (5, .int (rAt 60 (σ 79) (m_X0_second σ t1 x2))), (4, .int (rAt 60 (σ 79) (m_X0_first σ t1 x2))), (3, .int (m_X0_kind σ t1 x2)), (0, .ref (gA g 78)), (1, .ref (gA g t1)), (2, .int x2)]) h dX3_look_125 hL (by decide) rfl (q := 127) rfl ?_
          refine x_sub (lv' := [(0, .ref (gA g 78)), (1, .ref (gA g t1)), (2, .int x2), (6, .int u9.1)]) [4, 5, 6, 0] rfl ?_
          exact w_X3_look_b127 u9.2 t1 x2 u9.1 ht1 o h hg hL hr k2 hk2 hf10
        · skip
          refine x_aload_n h dX3_look_89 rfl 3 rfl (q := 90) rfl ?_
          refine x_iload_n h dX3_look_90 rfl 2 rfl (q := 91) rfl ?_
          refine x_aload_n h dX3_look_91 rfl 4 rfl (q := 92) rfl ?_
          refine x_iload_n h dX3_look_92 rfl 5 rfl (q := 93) rfl ?_
          refine x_callVi (As := [.int x2]) (rest := [.int (m_X0_kind σ t1 x2), .ref (gA g 78)]) h hg (c_X0_detail C.2.1 hg.2.1 σ t1 x2 ht1 _ rfl) ml_X3_48 biX0_detail rfl rfl hdX0_detail ⟨Nat.le_of_ble_eq_true rfl, Nat.le_of_ble_eq_true rfl⟩ (isF_lt ht1) (cE_F ht1 g _) rfl rfl rfl (Nat.le_of_ble_eq_true rfl) dX3_look_93 ?_
          refine x_iload h dX3_look_96 1 rfl (q := 98) rfl ?_
          refine x_iload h dX3_look_98 0 rfl (q := 100) rfl ?_
          refine x_iconst (v := 0) h dX3_look_100 (by decide) (q := 101) rfl ?_
          obtain ⟨u11, hu11, hf12⟩ := bnd_inv hf8
          refine x_callVi (As := [.int (m_X0_kind σ t1 x2), .int (m_X0_detail σ t1 x2), .int (rAt 60 (σ 79) (m_X0_first σ t1 x2)), .int (rAt 60 (σ 79) (m_X0_second σ t1 x2)), .int 0]) (rest := []) h hg (c_X3_strongSet C.2.1 hg.2.1 σ (m_X0_kind σ t1 x2) (m_X0_detail σ t1 x2) (rAt 60 (σ 79) (m_X0_first σ t1 x2)) (rAt 60 (σ 79) (m_X0_second σ t1 x2)) 0 _ hu11) ml_X3_58 biX3_strongSet rfl rfl hdX3_strongSet ⟨Nat.le_of_ble_eq_true rfl, Nat.le_of_ble_eq_true rfl⟩ (by decide) (cE_78 g _) rfl rfl rfl (Nat.le_of_ble_eq_true rfl) dX3_look_101 ?_
          refine x_istore (lv' := [(6, .int u11.1), (5, .int (rAt 60 (σ 79) (m_X0_second σ t1 x2))), (4, .int (rAt 60 (σ 79) (m_X0_first σ t1 x2))), (3, .int (m_X0_kind σ t1 x2)), (0, .ref (gA g 78)), (1, .ref (gA g t1)), (2, .int x2)]) h dX3_look_104 hL (by decide) rfl (q := 106) rfl ?_
          refine x_goto (q := 127) h dX3_look_106 (by decide) ?_
          refine x_sub (lv' := [(0, .ref (gA g 78)), (1, .ref (gA g t1)), (2, .int x2), (6, .int u11.1)]) [4, 5, 6, 0] rfl ?_
          exact w_X3_look_b127 u11.2 t1 x2 u11.1 ht1 o h hg hL hr k2 hk2 hf12
      · skip
        refine x_aload_n h dX3_look_69 rfl 3 rfl (q := 70) rfl ?_
        refine x_iload_n h dX3_look_70 rfl 2 rfl (q := 71) rfl ?_
        refine x_iload h dX3_look_71 1 rfl (q := 73) rfl ?_
        refine x_iload h dX3_look_73 0 rfl (q := 75) rfl ?_
        refine x_callVi (As := [.int (m_X0_kind σ t1 x2), .int (rAt 60 (σ 79) (m_X0_first σ t1 x2)), .int (rAt 60 (σ 79) (m_X0_second σ t1 x2))]) (rest := []) h hg (c_X3_plainSet C.2.1 hg.2.1 σ (m_X0_kind σ t1 x2) (rAt 60 (σ 79) (m_X0_first σ t1 x2)) (rAt 60 (σ 79) (m_X0_second σ t1 x2)) _ rfl) ml_X3_54 biX3_plainSet rfl rfl hdX3_plainSet ⟨Nat.le_of_ble_eq_true rfl, Nat.le_of_ble_eq_true rfl⟩ (by decide) (cE_78 g _) rfl rfl rfl (Nat.le_of_ble_eq_true rfl) dX3_look_75 ?_
        refine x_istore (lv' := [(6, .int (m_X3_plainSet σ (m_X0_kind σ t1 x2) (rAt 60 (σ 79) (m_X0_first σ t1 x2)) (rAt 60 (σ 79) (m_X0_second σ t1 x2)))), (5, .int (rAt 60 (σ 79) (m_X0_second σ t1 x2))), (4, .int (rAt 60 (σ 79) (m_X0_first σ t1 x2))), (3, .int (m_X0_kind σ t1 x2)), (0, .ref (gA g 78)), (1, .ref (gA g t1)), (2, .int x2)]) h dX3_look_78 hL (by decide) rfl (q := 80) rfl ?_
        refine x_goto (q := 127) h dX3_look_80 (by decide) ?_
        refine x_sub (lv' := [(0, .ref (gA g 78)), (1, .ref (gA g t1)), (2, .int x2), (6, .int (m_X3_plainSet σ (m_X0_kind σ t1 x2) (rAt 60 (σ 79) (m_X0_first σ t1 x2)) (rAt 60 (σ 79) (m_X0_second σ t1 x2))))]) [4, 5, 6, 0] rfl ?_
        exact w_X3_look_b127 σ t1 x2 (m_X3_plainSet σ (m_X0_kind σ t1 x2) (rAt 60 (σ 79) (m_X0_first σ t1 x2)) (rAt 60 (σ 79) (m_X0_second σ t1 x2))) ht1 o h hg hL hr k2 hk2 hf6
    · skip
      refine x_aload_n h dX3_look_49 rfl 3 rfl (q := 50) rfl ?_
      refine x_aload_n h dX3_look_50 rfl 4 rfl (q := 51) rfl ?_
      refine x_iload_n h dX3_look_51 rfl 5 rfl (q := 52) rfl ?_
      refine x_callVi (As := [.int x2]) (rest := [.ref (gA g 78)]) h hg (c_X0_detail C.2.1 hg.2.1 σ t1 x2 ht1 _ rfl) ml_X3_48 biX0_detail rfl rfl hdX0_detail ⟨Nat.le_of_ble_eq_true rfl, Nat.le_of_ble_eq_true rfl⟩ (isF_lt ht1) (cE_F ht1 g _) rfl rfl rfl (Nat.le_of_ble_eq_true rfl) dX3_look_52 ?_
      obtain ⟨u13, hu13, hf14⟩ := bnd_inv hf4
      refine x_callVi (As := [.int (m_X0_detail σ t1 x2)]) (rest := []) h hg (c_X3_labelled C.2.1 hg.2.1 σ (m_X0_detail σ t1 x2) _ hu13) ml_X3_51 biX3_labelled rfl rfl hdX3_labelled ⟨Nat.le_of_ble_eq_true rfl, Nat.le_of_ble_eq_true rfl⟩ (by decide) (cE_78 g _) rfl rfl rfl (Nat.le_of_ble_eq_true rfl) dX3_look_55 ?_
      refine x_istore (lv' := [(6, .int u13), (5, .int (rAt 60 (σ 79) (m_X0_second σ t1 x2))), (4, .int (rAt 60 (σ 79) (m_X0_first σ t1 x2))), (3, .int (m_X0_kind σ t1 x2)), (0, .ref (gA g 78)), (1, .ref (gA g t1)), (2, .int x2)]) h dX3_look_58 hL (by decide) rfl (q := 60) rfl ?_
      refine x_goto (q := 127) h dX3_look_60 (by decide) ?_
      refine x_sub (lv' := [(0, .ref (gA g 78)), (1, .ref (gA g t1)), (2, .int x2), (6, .int u13)]) [4, 5, 6, 0] rfl ?_
      exact w_X3_look_b127 σ t1 x2 u13 ht1 o h hg hL hr k2 hk2 hf14
set_option maxHeartbeats 4000000 in
set_option maxRecDepth 100000 in
theorem w_X3_look_l2 {C : XC} {Q : State → Prop} {g : cG} (t1 : Nat) (ht1 : isF t1 = true) (o : St) (h : XOk C cX3_look RX3 tG rmX3_look) (hg : XG C g) (hL : C.2.2.2.2.2.2.2.2.2.2.2.2.1 = 7) (hr : XEnd C none Q (XQ g (none) o) (cA g)) : ∀ (n : Nat) (z : St × Int32), loopF (fun k z => m_X3_look_b2 z.1 t1 z.2 k) n z = some o → Xs C (wW g) Q z.1 2 [(0, .ref (gA g 78)), (1, .ref (gA g t1)), (2, .int z.2)] [] := by
  intro n z hf
  refine loopF_ind (S := St × Int32) (O := St) (step := (fun k z => m_X3_look_b2 z.1 t1 z.2 k)) (o := o) (P := fun z => Xs C (wW g) Q z.1 2 [(0, .ref (gA g 78)), (1, .ref (gA g t1)), (2, .int z.2)] []) ?_ n z hf
  intro k hk z hf
  exact w_X3_look_b2 z.1 t1 z.2 ht1 o h hg hL hr k hk hf
def m_X3_look (σ : St) (t1 : Nat) : Option (St) :=
  loopF (fun k z => m_X3_look_b2 z.1 t1 z.2 k) cFu (σ, 0)
set_option maxHeartbeats 4000000 in
set_option maxRecDepth 100000 in
theorem w_X3_look {C : XC} {Q : State → Prop} {g : cG} (σ : St) (t1 : Nat) (ht1 : isF t1 = true) (o : St) (h : XOk C cX3_look RX3 tG rmX3_look) (hg : XG C g) (hL : C.2.2.2.2.2.2.2.2.2.2.2.2.1 = 7) (hr : XEnd C none Q (XQ g (none) o) (cA g)) (hf : m_X3_look σ t1 = some o) : Xs C (wW g) Q σ 0 [(0, .ref (gA g 78)), (1, .ref (gA g t1))] [] := by
  unfold m_X3_look at hf
  refine x_iconst (v := 0) h dX3_look_0 (by decide) (q := 1) rfl ?_
  refine x_istore_n (lv' := [(2, .int 0), (0, .ref (gA g 78)), (1, .ref (gA g t1))]) h dX3_look_1 rfl hL (by decide) rfl (q := 2) rfl ?_
  refine x_sub (lv' := [(0, .ref (gA g 78)), (1, .ref (gA g t1)), (2, .int 0)]) [1, 2, 0] rfl ?_
  exact w_X3_look_l2 t1 ht1 o h hg hL hr  cFu (σ, 0) hf
theorem c_X3_look (l : Launch) {g : cG} (hi : gInj g) (σ : St) (t1 : Nat) (ht1 : isF t1 = true) (o : St) (hf : m_X3_look σ t1 = some o) : Met l yX3_look (wT yX3_look cX3_look 7 none) rmX3_look (va_Pc [.ref (gA g 78), .ref (gA g t1)] (XPre g σ)) (XQ g (none) o) 0 0 (cA g) :=
  X_met RX3 hi plX3 rfl (Nat.le_of_ble_eq_true rfl) rfl (fun _ _ _ h hg hL hr => w_X3_look σ t1 ht1 o h hg hL hr hf)
abbrev rmX3_setOf : Room := { frames := 1, cells := 0, slots := 0, locals := 21 }
theorem hdX3_setOf : yX3_setOf.cls = RX3 ∧ yX3_setOf.cls ≠ "java/lang/invoke/MethodHandle" ∧ yX3_setOf.cls ≠ "java/lang/invoke/VarHandle" ∧ (parseMethodDescriptor yX3_setOf.desc).map (fun d => d.parameters.length) = some 1 := by decide +kernel
def m_X3_setOf (σ : St) (x1 : Int32) : Int32 :=
  (rAt 60 (σ 79) x1)
set_option maxHeartbeats 4000000 in
set_option maxRecDepth 100000 in
theorem w_X3_setOf {C : XC} {Q : State → Prop} {g : cG} (σ : St) (x1 : Int32) (o : Int32) (h : XOk C cX3_setOf RX3 tG rmX3_setOf) (hg : XG C g) (hL : C.2.2.2.2.2.2.2.2.2.2.2.2.1 = 2) (hr : XEnd C (some .int) Q (XQ g (some (.int o)) σ) (cA g)) (hf : m_X3_setOf σ x1 = o) : Xs C (wW g) Q σ 0 [(0, .ref (gA g 78)), (1, .int x1)] [] := by
  unfold m_X3_setOf at hf
  refine x_aload_n h dX3_setOf_0 rfl 0 rfl (q := 1) rfl ?_
  refine x_get_X3_78_2 h hg kf_X3_9 nn_X3 dX3_setOf_1 ?_
  refine x_iload_n h dX3_setOf_4 rfl 1 rfl (q := 5) rfl ?_
  refine x_callSi (As := [.ref (gA g 79), .int x1]) (rest := []) h hg (c_X5_at C.2.1 hg.2.1 σ a_79 x1) ml_X3_39 biX5_at rfl rfl hdX5_at ⟨Nat.le_of_ble_eq_true rfl, Nat.le_of_ble_eq_true rfl⟩ rfl rfl (Nat.le_of_ble_eq_true rfl) dX3_setOf_5 ?_
  subst hf
  exact x_iret h hg hr dX3_setOf_8
theorem c_X3_setOf (l : Launch) {g : cG} (hi : gInj g) (σ : St) (x1 : Int32) (o : Int32) (hf : m_X3_setOf σ x1 = o) : Met l yX3_setOf (wT yX3_setOf cX3_setOf 2 (some .int)) rmX3_setOf (va_Pc [.ref (gA g 78), .int x1] (XPre g σ)) (XQ g (some (.int o)) σ) 0 0 (cA g) :=
  X_met RX3 hi plX3 rfl (Nat.le_of_ble_eq_true rfl) rfl (fun _ _ _ h hg hL hr => w_X3_setOf σ x1 o h hg hL hr hf)
abbrev rmX3_whole : Room := { frames := 6, cells := 0, slots := 0, locals := 154 }
theorem hdX3_whole : yX3_whole.cls = RX3 ∧ yX3_whole.cls ≠ "java/lang/invoke/MethodHandle" ∧ yX3_whole.cls ≠ "java/lang/invoke/VarHandle" ∧ (parseMethodDescriptor yX3_whole.desc).map (fun d => d.parameters.length) = some 1 := by decide +kernel
def m_X3_whole (σ : St) (t1 : Nat) : Option (Int32 × St) :=
  (m_X3_look σ t1).bind fun u1 =>
  some ((m_X3_setOf u1 ((u1 t1 4) - 1)), u1)
set_option maxHeartbeats 4000000 in
set_option maxRecDepth 100000 in
theorem w_X3_whole {C : XC} {Q : State → Prop} {g : cG} (σ : St) (t1 : Nat) (ht1 : isF t1 = true) (o : Int32 × St) (h : XOk C cX3_whole RX3 tG rmX3_whole) (hg : XG C g) (hL : C.2.2.2.2.2.2.2.2.2.2.2.2.1 = 2) (hr : XEnd C (some .int) Q (XQ g (some (.int o.1)) o.2) (cA g)) (hf : m_X3_whole σ t1 = some o) : Xs C (wW g) Q σ 0 [(0, .ref (gA g 78)), (1, .ref (gA g t1))] [] := by
  unfold m_X3_whole at hf
  refine x_aload_n h dX3_whole_0 rfl 0 rfl (q := 1) rfl ?_
  refine x_aload_n h dX3_whole_1 rfl 1 rfl (q := 2) rfl ?_
  obtain ⟨u1, hu1, hf2⟩ := bnd_inv hf
  refine x_callVv (As := [.ref (gA g t1)]) (rest := []) h hg (c_X3_look C.2.1 hg.2.1 σ t1 ht1 _ hu1) ml_X3_70 biX3_look rfl rfl hdX3_look ⟨Nat.le_of_ble_eq_true rfl, Nat.le_of_ble_eq_true rfl⟩ (by decide) (cE_78 g _) rfl rfl rfl (Nat.le_of_ble_eq_true rfl) dX3_whole_2 ?_
  refine x_aload_n h dX3_whole_5 rfl 0 rfl (q := 6) rfl ?_
  refine x_aload_n h dX3_whole_6 rfl 1 rfl (q := 7) rfl ?_
  refine x_get_X0_t_4 ht1 h hg kf_X3_26 nn_X0 dX3_whole_7 ?_
  refine x_iconst (v := 1) h dX3_whole_10 (by decide) (q := 11) rfl ?_
  refine x_isub h dX3_whole_11 (q := 12) rfl ?_
  refine x_callVi (As := [.int ((u1 t1 4) - 1)]) (rest := []) h hg (c_X3_setOf C.2.1 hg.2.1 u1 ((u1 t1 4) - 1) _ rfl) ml_X3_74 biX3_setOf rfl rfl hdX3_setOf ⟨Nat.le_of_ble_eq_true rfl, Nat.le_of_ble_eq_true rfl⟩ (by decide) (cE_78 g _) rfl rfl rfl (Nat.le_of_ble_eq_true rfl) dX3_whole_12 ?_
  have hz := Option.some.inj hf2
  subst hz
  exact x_iret h hg hr dX3_whole_15
theorem c_X3_whole (l : Launch) {g : cG} (hi : gInj g) (σ : St) (t1 : Nat) (ht1 : isF t1 = true) (o : Int32 × St) (hf : m_X3_whole σ t1 = some o) : Met l yX3_whole (wT yX3_whole cX3_whole 2 (some .int)) rmX3_whole (va_Pc [.ref (gA g 78), .ref (gA g t1)] (XPre g σ)) (XQ g (some (.int o.1)) o.2) 0 0 (cA g) :=
  X_met RX3 hi plX3 rfl (Nat.le_of_ble_eq_true rfl) rfl (fun _ _ _ h hg hL hr => w_X3_whole σ t1 ht1 o h hg hL hr hf)
abbrev rmX3_goalSet : Room := { frames := 5, cells := 0, slots := 0, locals := 128 }
theorem hdX3_goalSet : yX3_goalSet.cls = RX3 ∧ yX3_goalSet.cls ≠ "java/lang/invoke/MethodHandle" ∧ yX3_goalSet.cls ≠ "java/lang/invoke/VarHandle" ∧ (parseMethodDescriptor yX3_goalSet.desc).map (fun d => d.parameters.length) = some 3 := by decide +kernel
def m_X3_goalSet (σ : St) (t1 : Nat) (x2 : Int32) (x3 : Int32) : Option (Int32 × St) :=
  (m_X3_strongSet σ (m_X0_topKind σ t1) x2 (m_X3_setOf σ (m_X0_first σ t1 ((σ t1 4) - 1))) (m_X3_setOf σ (m_X0_second σ t1 ((σ t1 4) - 1))) x3).bind fun u1 =>
  some (u1.1, u1.2)
set_option maxHeartbeats 4000000 in
set_option maxRecDepth 100000 in
theorem w_X3_goalSet {C : XC} {Q : State → Prop} {g : cG} (σ : St) (t1 : Nat) (x2 : Int32) (x3 : Int32) (ht1 : isF t1 = true) (o : Int32 × St) (h : XOk C cX3_goalSet RX3 tG rmX3_goalSet) (hg : XG C g) (hL : C.2.2.2.2.2.2.2.2.2.2.2.2.1 = 5) (hr : XEnd C (some .int) Q (XQ g (some (.int o.1)) o.2) (cA g)) (hf : m_X3_goalSet σ t1 x2 x3 = some o) : Xs C (wW g) Q σ 0 [(0, .ref (gA g 78)), (1, .ref (gA g t1)), (2, .int x2), (3, .int x3)] [] := by
  unfold m_X3_goalSet at hf
  refine x_aload_n h dX3_goalSet_0 rfl 1 rfl (q := 1) rfl ?_
  refine x_get_X0_t_4 ht1 h hg kf_X3_26 nn_X0 dX3_goalSet_1 ?_
  refine x_iconst (v := 1) h dX3_goalSet_4 (by decide) (q := 5) rfl ?_
  refine x_isub h dX3_goalSet_5 (q := 6) rfl ?_
  refine x_istore (lv' := [(4, .int ((σ t1 4) - 1)), (0, .ref (gA g 78)), (1, .ref (gA g t1)), (2, .int x2), (3, .int x3)]) h dX3_goalSet_6 hL (by decide) rfl (q := 8) rfl ?_
  refine x_aload_n h dX3_goalSet_8 rfl 1 rfl (q := 9) rfl ?_
  refine x_aload_n h dX3_goalSet_9 rfl 2 rfl (q := 10) rfl ?_
  refine x_callVi (As := []) (rest := [.ref (gA g 78)]) h hg (c_X0_topKind C.2.1 hg.2.1 σ t1 ht1 _ rfl) ml_X3_77 biX0_topKind rfl rfl hdX0_topKind ⟨Nat.le_of_ble_eq_true rfl, Nat.le_of_ble_eq_true rfl⟩ (isF_lt ht1) (cE_F ht1 g _) rfl rfl rfl (Nat.le_of_ble_eq_true rfl) dX3_goalSet_10 ?_
  refine x_iload_n h dX3_goalSet_13 rfl 3 rfl (q := 14) rfl ?_
  refine x_aload_n h dX3_goalSet_14 rfl 1 rfl (q := 15) rfl ?_
  refine x_aload_n h dX3_goalSet_15 rfl 2 rfl (q := 16) rfl ?_
  refine x_iload h dX3_goalSet_16 0 rfl (q := 18) rfl ?_
  refine x_callVi (As := [.int ((σ t1 4) - 1)]) (rest := [.ref (gA g 78), .int x2, .int (m_X0_topKind σ t1), .ref (gA g 78)]) h hg (c_X0_first C.2.1 hg.2.1 σ t1 ((σ t1 4) - 1) ht1 _ rfl) ml_X3_36 biX0_first rfl rfl hdX0_first ⟨Nat.le_of_ble_eq_true rfl, Nat.le_of_ble_eq_true rfl⟩ (isF_lt ht1) (cE_F ht1 g _) rfl rfl rfl (Nat.le_of_ble_eq_true rfl) dX3_goalSet_18 ?_
  refine x_callVi (As := [.int (m_X0_first σ t1 ((σ t1 4) - 1))]) (rest := [.int x2, .int (m_X0_topKind σ t1), .ref (gA g 78)]) h hg (c_X3_setOf C.2.1 hg.2.1 σ (m_X0_first σ t1 ((σ t1 4) - 1)) _ rfl) ml_X3_74 biX3_setOf rfl rfl hdX3_setOf ⟨Nat.le_of_ble_eq_true rfl, Nat.le_of_ble_eq_true rfl⟩ (by decide) (cE_78 g _) rfl rfl rfl (Nat.le_of_ble_eq_true rfl) dX3_goalSet_21 ?_
  refine x_aload_n h dX3_goalSet_24 rfl 1 rfl (q := 25) rfl ?_
  refine x_aload_n h dX3_goalSet_25 rfl 2 rfl (q := 26) rfl ?_
  refine x_iload h dX3_goalSet_26 0 rfl (q := 28) rfl ?_
  refine x_callVi (As := [.int ((σ t1 4) - 1)]) (rest := [.ref (gA g 78), .int (m_X3_setOf σ (m_X0_first σ t1 ((σ t1 4) - 1))), .int x2, .int (m_X0_topKind σ t1), .ref (gA g 78)]) h hg (c_X0_second C.2.1 hg.2.1 σ t1 ((σ t1 4) - 1) ht1 _ rfl) ml_X3_45 biX0_second rfl rfl hdX0_second ⟨Nat.le_of_ble_eq_true rfl, Nat.le_of_ble_eq_true rfl⟩ (isF_lt ht1) (cE_F ht1 g _) rfl rfl rfl (Nat.le_of_ble_eq_true rfl) dX3_goalSet_28 ?_
  refine x_callVi (As := [.int (m_X0_second σ t1 ((σ t1 4) - 1))]) (rest := [.int (m_X3_setOf σ (m_X0_first σ t1 ((σ t1 4) - 1))), .int x2, .int (m_X0_topKind σ t1), .ref (gA g 78)]) h hg (c_X3_setOf C.2.1 hg.2.1 σ (m_X0_second σ t1 ((σ t1 4) - 1)) _ rfl) ml_X3_74 biX3_setOf rfl rfl hdX3_setOf ⟨Nat.le_of_ble_eq_true rfl, Nat.le_of_ble_eq_true rfl⟩ (by decide) (cE_78 g _) rfl rfl rfl (Nat.le_of_ble_eq_true rfl) dX3_goalSet_31 ?_
  refine x_iload_n h dX3_goalSet_34 rfl 4 rfl (q := 35) rfl ?_
  obtain ⟨u1, hu1, hf2⟩ := bnd_inv hf
  refine x_callVi (As := [.int (m_X0_topKind σ t1), .int x2, .int (m_X3_setOf σ (m_X0_first σ t1 ((σ t1 4) - 1))), .int (m_X3_setOf σ (m_X0_second σ t1 ((σ t1 4) - 1))), .int x3]) (rest := []) h hg (c_X3_strongSet C.2.1 hg.2.1 σ (m_X0_topKind σ t1) x2 (m_X3_setOf σ (m_X0_first σ t1 ((σ t1 4) - 1))) (m_X3_setOf σ (m_X0_second σ t1 ((σ t1 4) - 1))) x3 _ hu1) ml_X3_58 biX3_strongSet rfl rfl hdX3_strongSet ⟨Nat.le_of_ble_eq_true rfl, Nat.le_of_ble_eq_true rfl⟩ (by decide) (cE_78 g _) rfl rfl rfl (Nat.le_of_ble_eq_true rfl) dX3_goalSet_35 ?_
  have hz := Option.some.inj hf2
  subst hz
  exact x_iret h hg hr dX3_goalSet_38
theorem c_X3_goalSet (l : Launch) {g : cG} (hi : gInj g) (σ : St) (t1 : Nat) (x2 : Int32) (x3 : Int32) (ht1 : isF t1 = true) (o : Int32 × St) (hf : m_X3_goalSet σ t1 x2 x3 = some o) : Met l yX3_goalSet (wT yX3_goalSet cX3_goalSet 5 (some .int)) rmX3_goalSet (va_Pc [.ref (gA g 78), .ref (gA g t1), .int x2, .int x3] (XPre g σ)) (XQ g (some (.int o.1)) o.2) 0 0 (cA g) :=
  X_met RX3 hi plX3 rfl (Nat.le_of_ble_eq_true rfl) rfl (fun _ _ _ h hg hL hr => w_X3_goalSet σ t1 x2 x3 ht1 o h hg hL hr hf)
abbrev rmX3_rankOf : Room := { frames := 1, cells := 0, slots := 0, locals := 21 }
theorem hdX3_rankOf : yX3_rankOf.cls = RX3 ∧ yX3_rankOf.cls ≠ "java/lang/invoke/MethodHandle" ∧ yX3_rankOf.cls ≠ "java/lang/invoke/VarHandle" ∧ (parseMethodDescriptor yX3_rankOf.desc).map (fun d => d.parameters.length) = some 1 := by decide +kernel
def m_X3_rankOf (σ : St) (x1 : Int32) : Int32 :=
  (rAt 12 (σ 80) x1)
set_option maxHeartbeats 4000000 in
set_option maxRecDepth 100000 in
theorem w_X3_rankOf {C : XC} {Q : State → Prop} {g : cG} (σ : St) (x1 : Int32) (o : Int32) (h : XOk C cX3_rankOf RX3 tG rmX3_rankOf) (hg : XG C g) (hL : C.2.2.2.2.2.2.2.2.2.2.2.2.1 = 2) (hr : XEnd C (some .int) Q (XQ g (some (.int o)) σ) (cA g)) (hf : m_X3_rankOf σ x1 = o) : Xs C (wW g) Q σ 0 [(0, .ref (gA g 78)), (1, .int x1)] [] := by
  unfold m_X3_rankOf at hf
  refine x_aload_n h dX3_rankOf_0 rfl 0 rfl (q := 1) rfl ?_
  refine x_get_X3_78_3 h hg kf_X3_15 nn_X3 dX3_rankOf_1 ?_
  refine x_iload_n h dX3_rankOf_4 rfl 1 rfl (q := 5) rfl ?_
  refine x_callSi (As := [.ref (gA g 80), .int x1]) (rest := []) h hg (c_X5_at C.2.1 hg.2.1 σ a_80 x1) ml_X3_39 biX5_at rfl rfl hdX5_at ⟨Nat.le_of_ble_eq_true rfl, Nat.le_of_ble_eq_true rfl⟩ rfl rfl (Nat.le_of_ble_eq_true rfl) dX3_rankOf_5 ?_
  subst hf
  exact x_iret h hg hr dX3_rankOf_8
theorem c_X3_rankOf (l : Launch) {g : cG} (hi : gInj g) (σ : St) (x1 : Int32) (o : Int32) (hf : m_X3_rankOf σ x1 = o) : Met l yX3_rankOf (wT yX3_rankOf cX3_rankOf 2 (some .int)) rmX3_rankOf (va_Pc [.ref (gA g 78), .int x1] (XPre g σ)) (XQ g (some (.int o)) σ) 0 0 (cA g) :=
  X_met RX3 hi plX3 rfl (Nat.le_of_ble_eq_true rfl) rfl (fun _ _ _ h hg hL hr => w_X3_rankOf σ x1 o h hg hL hr hf)
abbrev rmX3_statesBelow : Room := { frames := 2, cells := 0, slots := 0, locals := 42 }
theorem hdX3_statesBelow : yX3_statesBelow.cls = RX3 ∧ yX3_statesBelow.cls ≠ "java/lang/invoke/MethodHandle" ∧ yX3_statesBelow.cls ≠ "java/lang/invoke/VarHandle" ∧ (parseMethodDescriptor yX3_statesBelow.desc).map (fun d => d.parameters.length) = some 1 := by decide +kernel
def m_X3_statesBelow_b4 (σ : St) (x1 : Int32) (x2 : Int32) (x3 : Int32) (k4 : (Int32 × Int32) → Option (Int32)) : Option (Int32) :=
  if (σ 0 7) ≤ x3 then (
    some x2
  ) else (
    if (m_X3_rankOf σ x3) < 0 then (
      k4 (x2, (x3 + 1))
    ) else (
      if x1 ≤ (m_X3_rankOf σ x3) then (
        k4 (x2, (x3 + 1))
      ) else (
        k4 ((x2 ||| ((1 : Int32) <<< (x3 &&& 31))), (x3 + 1))
      )
    )
  )
set_option maxHeartbeats 4000000 in
set_option maxRecDepth 100000 in
theorem w_X3_statesBelow_b4 {C : XC} {Q : State → Prop} {g : cG} (σ : St) (x1 : Int32) (x2 : Int32) (x3 : Int32) (o : Int32) (h : XOk C cX3_statesBelow RX3 tG rmX3_statesBelow) (hg : XG C g) (hL : C.2.2.2.2.2.2.2.2.2.2.2.2.1 = 5) (hr : XEnd C (some .int) Q (XQ g (some (.int o)) σ) (cA g)) (k4 : (Int32 × Int32) → Option (Int32)) (hk4 : ∀ z : Int32 × Int32, k4 z = some o → Xs C (wW g) Q σ 4 [(0, .ref (gA g 78)), (1, .int x1), (2, .int z.1), (3, .int z.2)] []) (hf : m_X3_statesBelow_b4 σ x1 x2 x3 k4 = some o) : Xs C (wW g) Q σ 4 [(0, .ref (gA g 78)), (1, .int x1), (2, .int x2), (3, .int x3)] [] := by
  unfold m_X3_statesBelow_b4 at hf
  refine x_iload_n h dX3_statesBelow_4 rfl 3 rfl (q := 5) rfl ?_
  refine x_aload_n h dX3_statesBelow_5 rfl 0 rfl (q := 6) rfl ?_
  refine x_get_X3_78_0 h hg kf_X3_18 nn_X3 dX3_statesBelow_6 ?_
  refine x_get_X7_0_7 h hg kf_X3_81 nn_X7 dX3_statesBelow_9 ?_
  refine x_icmp_ge (tgt := 45) h dX3_statesBelow_12 (by decide) (q := 15) rfl hf (fun hc1 hf2 => ?_) (fun hc1 hf2 => ?_)
  · skip
    refine x_iload_n h dX3_statesBelow_45 rfl 2 rfl (q := 46) rfl ?_
    have hz := Option.some.inj hf2
    subst hz
    exact x_iret h hg hr dX3_statesBelow_46
  · skip
    refine x_aload_n h dX3_statesBelow_15 rfl 0 rfl (q := 16) rfl ?_
    refine x_iload_n h dX3_statesBelow_16 rfl 3 rfl (q := 17) rfl ?_
    refine x_callVi (As := [.int x3]) (rest := []) h hg (c_X3_rankOf C.2.1 hg.2.1 σ x3 _ rfl) ml_X3_86 biX3_rankOf rfl rfl hdX3_rankOf ⟨Nat.le_of_ble_eq_true rfl, Nat.le_of_ble_eq_true rfl⟩ (by decide) (cE_78 g _) rfl rfl rfl (Nat.le_of_ble_eq_true rfl) dX3_statesBelow_17 ?_
    refine x_istore (lv' := [(4, .int (m_X3_rankOf σ x3)), (0, .ref (gA g 78)), (1, .int x1), (2, .int x2), (3, .int x3)]) h dX3_statesBelow_20 hL (by decide) rfl (q := 22) rfl ?_
    refine x_iload h dX3_statesBelow_22 0 rfl (q := 24) rfl ?_
    refine x_if_lt (tgt := 39) h dX3_statesBelow_24 (by decide) (q := 27) rfl hf2 (fun hc3 hf4 => ?_) (fun hc3 hf4 => ?_)
    · skip
      refine x_iinc (v := (x3 + 1)) (lv' := [(3, .int (x3 + 1)), (4, .int (m_X3_rankOf σ x3)), (0, .ref (gA g 78)), (1, .int x1), (2, .int x2)]) (j := 4) h dX3_statesBelow_39 rfl rfl hL (by decide) rfl (q := 42) rfl ?_
      refine x_goto (q := 4) h dX3_statesBelow_42 (by decide) ?_
      refine x_sub (lv' := [(0, .ref (gA g 78)), (1, .int x1), (2, .int x2), (3, .int (x3 + 1))]) [2, 3, 4, 0] rfl ?_
      exact hk4 (x2, (x3 + 1)) hf4
    · skip
      refine x_iload h dX3_statesBelow_27 0 rfl (q := 29) rfl ?_
      refine x_iload_n h dX3_statesBelow_29 rfl 2 rfl (q := 30) rfl ?_
      refine x_icmp_ge (tgt := 39) h dX3_statesBelow_30 (by decide) (q := 33) rfl hf4 (fun hc5 hf6 => ?_) (fun hc5 hf6 => ?_)
      · skip
        refine x_iinc (v := (x3 + 1)) (lv' := [(3, .int (x3 + 1)), (4, .int (m_X3_rankOf σ x3)), (0, .ref (gA g 78)), (1, .int x1), (2, .int x2)]) (j := 4) h dX3_statesBelow_39 rfl rfl hL (by decide) rfl (q := 42) rfl ?_
        refine x_goto (q := 4) h dX3_statesBelow_42 (by decide) ?_
        refine x_sub (lv' := [(0, .ref (gA g 78)), (1, .int x1), (2, .int x2), (3, .int (x3 + 1))]) [2, 3, 4, 0] rfl ?_
        exact hk4 (x2, (x3 + 1)) hf6
      · skip
        refine x_iload_n h dX3_statesBelow_33 rfl 3 rfl (q := 34) rfl ?_
        refine x_iconst (v := 1) h dX3_statesBelow_34 (by decide) (q := 35) rfl ?_
        refine x_iload_n h dX3_statesBelow_35 rfl 4 rfl (q := 36) rfl ?_
        refine x_ishl h dX3_statesBelow_36 (q := 37) rfl ?_
        refine x_ior h dX3_statesBelow_37 (q := 38) rfl ?_
        refine x_istore_n (lv' := [(2, .int (x2 ||| ((1 : Int32) <<< (x3 &&& 31)))), (4, .int (m_X3_rankOf σ x3)), (0, .ref (gA g 78)), (1, .int x1), (3, .int x3)]) h dX3_statesBelow_38 rfl hL (by decide) rfl (q := 39) rfl ?_
        refine x_iinc (v := (x3 + 1)) (lv' := [(3, .int (x3 + 1)), (2, .int (x2 ||| ((1 : Int32) <<< (x3 &&& 31)))), (4, .int (m_X3_rankOf σ x3)), (0, .ref (gA g 78)), (1, .int x1)]) (j := 4) h dX3_statesBelow_39 rfl rfl hL (by decide) rfl (q := 42) rfl ?_
        refine x_goto (q := 4) h dX3_statesBelow_42 (by decide) ?_
        refine x_sub (lv' := [(0, .ref (gA g 78)), (1, .int x1), (2, .int (x2 ||| ((1 : Int32) <<< (x3 &&& 31)))), (3, .int (x3 + 1))]) [3, 4, 1, 0] rfl ?_
        exact hk4 ((x2 ||| ((1 : Int32) <<< (x3 &&& 31))), (x3 + 1)) hf6
set_option maxHeartbeats 4000000 in
set_option maxRecDepth 100000 in
theorem w_X3_statesBelow_l4 {C : XC} {Q : State → Prop} {g : cG} (σ : St) (x1 : Int32) (o : Int32) (h : XOk C cX3_statesBelow RX3 tG rmX3_statesBelow) (hg : XG C g) (hL : C.2.2.2.2.2.2.2.2.2.2.2.2.1 = 5) (hr : XEnd C (some .int) Q (XQ g (some (.int o)) σ) (cA g)) : ∀ (n : Nat) (z : Int32 × Int32), loopF (fun k z => m_X3_statesBelow_b4 σ x1 z.1 z.2 k) n z = some o → Xs C (wW g) Q σ 4 [(0, .ref (gA g 78)), (1, .int x1), (2, .int z.1), (3, .int z.2)] [] := by
  intro n z hf
  refine loopF_ind (S := Int32 × Int32) (O := Int32) (step := (fun k z => m_X3_statesBelow_b4 σ x1 z.1 z.2 k)) (o := o) (P := fun z => Xs C (wW g) Q σ 4 [(0, .ref (gA g 78)), (1, .int x1), (2, .int z.1), (3, .int z.2)] []) ?_ n z hf
  intro k hk z hf
  exact w_X3_statesBelow_b4 σ x1 z.1 z.2 o h hg hL hr k hk hf
def m_X3_statesBelow (σ : St) (x1 : Int32) : Option (Int32) :=
  loopF (fun k z => m_X3_statesBelow_b4 σ x1 z.1 z.2 k) cFu (0, 0)
set_option maxHeartbeats 4000000 in
set_option maxRecDepth 100000 in
theorem w_X3_statesBelow {C : XC} {Q : State → Prop} {g : cG} (σ : St) (x1 : Int32) (o : Int32) (h : XOk C cX3_statesBelow RX3 tG rmX3_statesBelow) (hg : XG C g) (hL : C.2.2.2.2.2.2.2.2.2.2.2.2.1 = 5) (hr : XEnd C (some .int) Q (XQ g (some (.int o)) σ) (cA g)) (hf : m_X3_statesBelow σ x1 = some o) : Xs C (wW g) Q σ 0 [(0, .ref (gA g 78)), (1, .int x1)] [] := by
  unfold m_X3_statesBelow at hf
  refine x_iconst (v := 0) h dX3_statesBelow_0 (by decide) (q := 1) rfl ?_
  refine x_istore_n (lv' := [(2, .int 0), (0, .ref (gA g 78)), (1, .int x1)]) h dX3_statesBelow_1 rfl hL (by decide) rfl (q := 2) rfl ?_
  refine x_iconst (v := 0) h dX3_statesBelow_2 (by decide) (q := 3) rfl ?_
  refine x_istore_n (lv' := [(3, .int 0), (2, .int 0), (0, .ref (gA g 78)), (1, .int x1)]) h dX3_statesBelow_3 rfl hL (by decide) rfl (q := 4) rfl ?_
  refine x_sub (lv' := [(0, .ref (gA g 78)), (1, .int x1), (2, .int 0), (3, .int 0)]) [2, 3, 1, 0] rfl ?_
  exact w_X3_statesBelow_l4 σ x1 o h hg hL hr  cFu (0, 0) hf
theorem c_X3_statesBelow (l : Launch) {g : cG} (hi : gInj g) (σ : St) (x1 : Int32) (o : Int32) (hf : m_X3_statesBelow σ x1 = some o) : Met l yX3_statesBelow (wT yX3_statesBelow cX3_statesBelow 5 (some .int)) rmX3_statesBelow (va_Pc [.ref (gA g 78), .int x1] (XPre g σ)) (XQ g (some (.int o)) σ) 0 0 (cA g) :=
  X_met RX3 hi plX3 rfl (Nat.le_of_ble_eq_true rfl) rfl (fun _ _ _ h hg hL hr => w_X3_statesBelow σ x1 o h hg hL hr hf)
abbrev rmX8_prepare : Room := { frames := 6, cells := 0, slots := 0, locals := 154 }
theorem hdX8_prepare : yX8_prepare.cls = RX8 ∧ yX8_prepare.cls ≠ "java/lang/invoke/MethodHandle" ∧ yX8_prepare.cls ≠ "java/lang/invoke/VarHandle" ∧ (parseMethodDescriptor yX8_prepare.desc).map (fun d => d.parameters.length) = some 1 := by decide +kernel
def m_X8_prepare (σ : St) (t1 : Nat) : Option (St) :=
  (m_X3_look σ t1).bind fun u1 =>
  (m_X3_goalSet u1 t1 (m_X0_topCoalition u1 t1) 0).bind fun u3 =>
  some (up u3.2 81 3 u3.1)
set_option maxHeartbeats 4000000 in
set_option maxRecDepth 100000 in
theorem w_X8_prepare {C : XC} {Q : State → Prop} {g : cG} (σ : St) (t1 : Nat) (ht1 : isF t1 = true) (o : St) (h : XOk C cX8_prepare RX8 tG rmX8_prepare) (hg : XG C g) (hL : C.2.2.2.2.2.2.2.2.2.2.2.2.1 = 2) (hr : XEnd C none Q (XQ g (none) o) (cA g)) (hf : m_X8_prepare σ t1 = some o) : Xs C (wW g) Q σ 0 [(0, .ref (gA g 81)), (1, .ref (gA g t1))] [] := by
  unfold m_X8_prepare at hf
  refine x_aload_n h dX8_prepare_0 rfl 0 rfl (q := 1) rfl ?_
  refine x_get_X8_81_2 h hg kf_X8_23 nn_X8 dX8_prepare_1 ?_
  refine x_aload_n h dX8_prepare_4 rfl 1 rfl (q := 5) rfl ?_
  obtain ⟨u1, hu1, hf2⟩ := bnd_inv hf
  refine x_callVv (As := [.ref (gA g t1)]) (rest := []) h hg (c_X3_look C.2.1 hg.2.1 σ t1 ht1 _ hu1) ml_X8_27 biX3_look rfl rfl hdX3_look ⟨Nat.le_of_ble_eq_true rfl, Nat.le_of_ble_eq_true rfl⟩ (by decide) (cE_78 g _) rfl rfl rfl (Nat.le_of_ble_eq_true rfl) dX8_prepare_5 ?_
  refine x_aload_n h dX8_prepare_8 rfl 0 rfl (q := 9) rfl ?_
  refine x_aload_n h dX8_prepare_9 rfl 0 rfl (q := 10) rfl ?_
  refine x_get_X8_81_2 h hg kf_X8_23 nn_X8 dX8_prepare_10 ?_
  refine x_aload_n h dX8_prepare_13 rfl 1 rfl (q := 14) rfl ?_
  refine x_aload_n h dX8_prepare_14 rfl 1 rfl (q := 15) rfl ?_
  refine x_callVi (As := []) (rest := [.ref (gA g t1), .ref (gA g 78), .ref (gA g 81)]) h hg (c_X0_topCoalition C.2.1 hg.2.1 u1 t1 ht1 _ rfl) ml_X8_33 biX0_topCoalition rfl rfl hdX0_topCoalition ⟨Nat.le_of_ble_eq_true rfl, Nat.le_of_ble_eq_true rfl⟩ (isF_lt ht1) (cE_F ht1 g _) rfl rfl rfl (Nat.le_of_ble_eq_true rfl) dX8_prepare_15 ?_
  refine x_iconst (v := 0) h dX8_prepare_18 (by decide) (q := 19) rfl ?_
  obtain ⟨u3, hu3, hf4⟩ := bnd_inv hf2
  refine x_callVi (As := [.ref (gA g t1), .int (m_X0_topCoalition u1 t1), .int 0]) (rest := [.ref (gA g 81)]) h hg (c_X3_goalSet C.2.1 hg.2.1 u1 t1 (m_X0_topCoalition u1 t1) 0 ht1 _ hu3) ml_X8_39 biX3_goalSet rfl rfl hdX3_goalSet ⟨Nat.le_of_ble_eq_true rfl, Nat.le_of_ble_eq_true rfl⟩ (by decide) (cE_78 g _) rfl rfl rfl (Nat.le_of_ble_eq_true rfl) dX8_prepare_19 ?_
  refine x_put_X8_81_3 h hg kf_X8_9 nn_X8 dX8_prepare_22 ?_
  have hz := Option.some.inj hf4
  subst hz
  exact x_vret h hg hr dX8_prepare_25
theorem c_X8_prepare (l : Launch) {g : cG} (hi : gInj g) (σ : St) (t1 : Nat) (ht1 : isF t1 = true) (o : St) (hf : m_X8_prepare σ t1 = some o) : Met l yX8_prepare (wT yX8_prepare cX8_prepare 2 none) rmX8_prepare (va_Pc [.ref (gA g 81), .ref (gA g t1)] (XPre g σ)) (XQ g (none) o) 0 0 (cA g) :=
  X_met RX8 hi plX8 rfl (Nat.le_of_ble_eq_true rfl) rfl (fun _ _ _ h hg hL hr => w_X8_prepare σ t1 ht1 o h hg hL hr hf)
abbrev rmX8_jointAt : Room := { frames := 3, cells := 0, slots := 0, locals := 72 }
theorem hdX8_jointAt : yX8_jointAt.cls = RX8 ∧ yX8_jointAt.cls ≠ "java/lang/invoke/MethodHandle" ∧ yX8_jointAt.cls ≠ "java/lang/invoke/VarHandle" ∧ (parseMethodDescriptor yX8_jointAt.desc).map (fun d => d.parameters.length) = some 2 := by decide +kernel
def m_X8_jointAt_b102 (σ : St) (t1 : Nat) (x2 : Int32) (x3 : Int32) : Option (Int32 × St) :=
  (m_X6_leastForcing σ (m_X0_topCoalition σ t1) x2 x3).bind fun u1 =>
  some ((if 0 < u1.1 then u1.1 else 0), u1.2)
set_option maxHeartbeats 4000000 in
set_option maxRecDepth 100000 in
theorem w_X8_jointAt_b102 {C : XC} {Q : State → Prop} {g : cG} (σ : St) (t1 : Nat) (x2 : Int32) (x3 : Int32) (ht1 : isF t1 = true) (o : Int32 × St) (h : XOk C cX8_jointAt RX8 tG rmX8_jointAt) (hg : XG C g) (hL : C.2.2.2.2.2.2.2.2.2.2.2.2.1 = 4) (hr : XEnd C (some .int) Q (XQ g (some (.int o.1)) o.2) (cA g)) (hf : m_X8_jointAt_b102 σ t1 x2 x3  = some o) : Xs C (wW g) Q σ 102 [(0, .ref (gA g 81)), (1, .ref (gA g t1)), (2, .int x2), (3, .int x3)] [] := by
  unfold m_X8_jointAt_b102 at hf
  refine x_iconst (v := 0) h dX8_jointAt_102 (by decide) (q := 103) rfl ?_
  refine x_aload_n h dX8_jointAt_103 rfl 0 rfl (q := 104) rfl ?_
  refine x_get_X8_81_1 h hg kf_X8_19 nn_X8 dX8_jointAt_104 ?_
  refine x_aload_n h dX8_jointAt_107 rfl 1 rfl (q := 108) rfl ?_
  refine x_callVi (As := []) (rest := [.ref (gA g 69), .int 0]) h hg (c_X0_topCoalition C.2.1 hg.2.1 σ t1 ht1 _ rfl) ml_X8_33 biX0_topCoalition rfl rfl hdX0_topCoalition ⟨Nat.le_of_ble_eq_true rfl, Nat.le_of_ble_eq_true rfl⟩ (isF_lt ht1) (cE_F ht1 g _) rfl rfl rfl (Nat.le_of_ble_eq_true rfl) dX8_jointAt_108 ?_
  refine x_iload_n h dX8_jointAt_111 rfl 2 rfl (q := 112) rfl ?_
  refine x_iload_n h dX8_jointAt_112 rfl 3 rfl (q := 113) rfl ?_
  obtain ⟨u1, hu1, hf2⟩ := bnd_inv hf
  refine x_callVi (As := [.int (m_X0_topCoalition σ t1), .int x2, .int x3]) (rest := [.int 0]) h hg (c_X6_leastForcing C.2.1 hg.2.1 σ (m_X0_topCoalition σ t1) x2 x3 _ hu1) ml_X8_62 biX6_leastForcing rfl rfl hdX6_leastForcing ⟨Nat.le_of_ble_eq_true rfl, Nat.le_of_ble_eq_true rfl⟩ (by decide) (cE_69 g _) rfl rfl rfl (Nat.le_of_ble_eq_true rfl) dX8_jointAt_113 ?_
  refine x_mmax h ml_X8_68 st_Mmax ki_Math co_Mmax ⟨Nat.le_of_ble_eq_true rfl, Nat.le_of_ble_eq_true rfl⟩ dX8_jointAt_116 ?_
  have hz := Option.some.inj hf2
  subst hz
  exact x_iret h hg hr dX8_jointAt_119
def m_X8_jointAt (σ : St) (t1 : Nat) (x2 : Int32) : Option (Int32 × St) :=
  if (((σ 81 3) >>> (x2 &&& 31)) &&& 1) = 0 then (
    some (0, σ)
  ) else (
    if (m_X0_topKind σ t1) = 6 then (
      m_X8_jointAt_b102 σ t1 x2 (m_X3_setOf σ (m_X0_first σ t1 ((σ t1 4) - 1)))
    ) else (
      if (m_X0_topKind σ t1) = 8 then (
        m_X8_jointAt_b102 σ t1 x2 (σ 81 3)
      ) else (
        if 0 < (m_X3_rankOf σ x2) then (
          (m_X3_statesBelow σ (m_X3_rankOf σ x2)).bind fun u12 =>
          m_X8_jointAt_b102 σ t1 x2 u12
        ) else (
          some (0, σ)
        )
      )
    )
  )
set_option maxHeartbeats 4000000 in
set_option maxRecDepth 100000 in
theorem w_X8_jointAt {C : XC} {Q : State → Prop} {g : cG} (σ : St) (t1 : Nat) (x2 : Int32) (ht1 : isF t1 = true) (o : Int32 × St) (h : XOk C cX8_jointAt RX8 tG rmX8_jointAt) (hg : XG C g) (hL : C.2.2.2.2.2.2.2.2.2.2.2.2.1 = 4) (hr : XEnd C (some .int) Q (XQ g (some (.int o.1)) o.2) (cA g)) (hf : m_X8_jointAt σ t1 x2 = some o) : Xs C (wW g) Q σ 0 [(0, .ref (gA g 81)), (1, .ref (gA g t1)), (2, .int x2)] [] := by
  unfold m_X8_jointAt at hf
  refine x_aload_n h dX8_jointAt_0 rfl 0 rfl (q := 1) rfl ?_
  refine x_get_X8_81_3 h hg kf_X8_9 nn_X8 dX8_jointAt_1 ?_
  refine x_iload_n h dX8_jointAt_4 rfl 2 rfl (q := 5) rfl ?_
  refine x_ishr h dX8_jointAt_5 (q := 6) rfl ?_
  refine x_iconst (v := 1) h dX8_jointAt_6 (by decide) (q := 7) rfl ?_
  refine x_iand h dX8_jointAt_7 (q := 8) rfl ?_
  refine x_if_ne (tgt := 13) h dX8_jointAt_8 (by decide) (q := 11) rfl hf (fun hc1 hf2 => ?_) (fun hc1 hf2 => ?_)
  · skip
    refine x_aload_n h dX8_jointAt_13 rfl 1 rfl (q := 14) rfl ?_
    refine x_callVi (As := []) (rest := []) h hg (c_X0_topKind C.2.1 hg.2.1 σ t1 ht1 _ rfl) ml_X8_43 biX0_topKind rfl rfl hdX0_topKind ⟨Nat.le_of_ble_eq_true rfl, Nat.le_of_ble_eq_true rfl⟩ (isF_lt ht1) (cE_F ht1 g _) rfl rfl rfl (Nat.le_of_ble_eq_true rfl) dX8_jointAt_14 ?_
    by_cases hs4 : (m_X0_topKind σ t1) = 6
    · have hf5 := (if_pos hs4).symm.trans hf2
      refine x_lookup (tgt := 44) h dX8_jointAt_17 rfl (off := 27) (by rw [hs4]; decide) (by decide) ?_
      refine x_aload_n h dX8_jointAt_44 rfl 0 rfl (q := 45) rfl ?_
      refine x_get_X8_81_2 h hg kf_X8_23 nn_X8 dX8_jointAt_45 ?_
      refine x_aload_n h dX8_jointAt_48 rfl 1 rfl (q := 49) rfl ?_
      refine x_aload_n h dX8_jointAt_49 rfl 1 rfl (q := 50) rfl ?_
      refine x_get_X0_t_4 ht1 h hg kf_X8_46 nn_X0 dX8_jointAt_50 ?_
      refine x_iconst (v := 1) h dX8_jointAt_53 (by decide) (q := 54) rfl ?_
      refine x_isub h dX8_jointAt_54 (q := 55) rfl ?_
      refine x_callVi (As := [.int ((σ t1 4) - 1)]) (rest := [.ref (gA g 78)]) h hg (c_X0_first C.2.1 hg.2.1 σ t1 ((σ t1 4) - 1) ht1 _ rfl) ml_X8_49 biX0_first rfl rfl hdX0_first ⟨Nat.le_of_ble_eq_true rfl, Nat.le_of_ble_eq_true rfl⟩ (isF_lt ht1) (cE_F ht1 g _) rfl rfl rfl (Nat.le_of_ble_eq_true rfl) dX8_jointAt_55 ?_
      refine x_callVi (As := [.int (m_X0_first σ t1 ((σ t1 4) - 1))]) (rest := []) h hg (c_X3_setOf C.2.1 hg.2.1 σ (m_X0_first σ t1 ((σ t1 4) - 1)) _ rfl) ml_X8_53 biX3_setOf rfl rfl hdX3_setOf ⟨Nat.le_of_ble_eq_true rfl, Nat.le_of_ble_eq_true rfl⟩ (by decide) (cE_78 g _) rfl rfl rfl (Nat.le_of_ble_eq_true rfl) dX8_jointAt_58 ?_
      refine x_istore_n (lv' := [(3, .int (m_X3_setOf σ (m_X0_first σ t1 ((σ t1 4) - 1)))), (0, .ref (gA g 81)), (1, .ref (gA g t1)), (2, .int x2)]) h dX8_jointAt_61 rfl hL (by decide) rfl (q := 62) rfl ?_
      refine x_goto (q := 102) h dX8_jointAt_62 (by decide) ?_
      refine x_sub (lv' := [(0, .ref (gA g 81)), (1, .ref (gA g t1)), (2, .int x2), (3, .int (m_X3_setOf σ (m_X0_first σ t1 ((σ t1 4) - 1))))]) [1, 2, 3, 0] rfl ?_
      exact w_X8_jointAt_b102 σ t1 x2 (m_X3_setOf σ (m_X0_first σ t1 ((σ t1 4) - 1))) ht1 o h hg hL hr hf5
    · have hf6 := (if_neg hs4).symm.trans hf2
      by_cases hs7 : (m_X0_topKind σ t1) = 8
      · have hf8 := (if_pos hs7).symm.trans hf6
        refine x_lookup (tgt := 65) h dX8_jointAt_17 rfl (off := 48) (by rw [hs7]; decide) (by decide) ?_
        refine x_aload_n h dX8_jointAt_65 rfl 0 rfl (q := 66) rfl ?_
        refine x_get_X8_81_3 h hg kf_X8_9 nn_X8 dX8_jointAt_66 ?_
        refine x_istore_n (lv' := [(3, .int (σ 81 3)), (0, .ref (gA g 81)), (1, .ref (gA g t1)), (2, .int x2)]) h dX8_jointAt_69 rfl hL (by decide) rfl (q := 70) rfl ?_
        refine x_goto (q := 102) h dX8_jointAt_70 (by decide) ?_
        refine x_sub (lv' := [(0, .ref (gA g 81)), (1, .ref (gA g t1)), (2, .int x2), (3, .int (σ 81 3))]) [1, 2, 3, 0] rfl ?_
        exact w_X8_jointAt_b102 σ t1 x2 (σ 81 3) ht1 o h hg hL hr hf8
      · have hf9 := (if_neg hs7).symm.trans hf6
        refine x_lookup (tgt := 73) h dX8_jointAt_17 rfl (off := 56) (by refine (lv_osw hs4 (by decide)).trans ?_; refine (lv_osw hs7 (by decide)).trans ?_; rfl) (by decide) ?_
        refine x_aload_n h dX8_jointAt_73 rfl 0 rfl (q := 74) rfl ?_
        refine x_get_X8_81_2 h hg kf_X8_23 nn_X8 dX8_jointAt_74 ?_
        refine x_iload_n h dX8_jointAt_77 rfl 2 rfl (q := 78) rfl ?_
        refine x_callVi (As := [.int x2]) (rest := []) h hg (c_X3_rankOf C.2.1 hg.2.1 σ x2 _ rfl) ml_X8_56 biX3_rankOf rfl rfl hdX3_rankOf ⟨Nat.le_of_ble_eq_true rfl, Nat.le_of_ble_eq_true rfl⟩ (by decide) (cE_78 g _) rfl rfl rfl (Nat.le_of_ble_eq_true rfl) dX8_jointAt_78 ?_
        refine x_if_gt (tgt := 86) h dX8_jointAt_81 (by decide) (q := 84) rfl hf9 (fun hc10 hf11 => ?_) (fun hc10 hf11 => ?_)
        · skip
          refine x_aload_n h dX8_jointAt_86 rfl 0 rfl (q := 87) rfl ?_
          refine x_get_X8_81_2 h hg kf_X8_23 nn_X8 dX8_jointAt_87 ?_
          refine x_aload_n h dX8_jointAt_90 rfl 0 rfl (q := 91) rfl ?_
          refine x_get_X8_81_2 h hg kf_X8_23 nn_X8 dX8_jointAt_91 ?_
          refine x_iload_n h dX8_jointAt_94 rfl 2 rfl (q := 95) rfl ?_
          refine x_callVi (As := [.int x2]) (rest := [.ref (gA g 78)]) h hg (c_X3_rankOf C.2.1 hg.2.1 σ x2 _ rfl) ml_X8_56 biX3_rankOf rfl rfl hdX3_rankOf ⟨Nat.le_of_ble_eq_true rfl, Nat.le_of_ble_eq_true rfl⟩ (by decide) (cE_78 g _) rfl rfl rfl (Nat.le_of_ble_eq_true rfl) dX8_jointAt_95 ?_
          obtain ⟨u12, hu12, hf13⟩ := bnd_inv hf11
          refine x_callVi (As := [.int (m_X3_rankOf σ x2)]) (rest := []) h hg (c_X3_statesBelow C.2.1 hg.2.1 σ (m_X3_rankOf σ x2) _ hu12) ml_X8_59 biX3_statesBelow rfl rfl hdX3_statesBelow ⟨Nat.le_of_ble_eq_true rfl, Nat.le_of_ble_eq_true rfl⟩ (by decide) (cE_78 g _) rfl rfl rfl (Nat.le_of_ble_eq_true rfl) dX8_jointAt_98 ?_
          refine x_istore_n (lv' := [(3, .int u12), (0, .ref (gA g 81)), (1, .ref (gA g t1)), (2, .int x2)]) h dX8_jointAt_101 rfl hL (by decide) rfl (q := 102) rfl ?_
          refine x_sub (lv' := [(0, .ref (gA g 81)), (1, .ref (gA g t1)), (2, .int x2), (3, .int u12)]) [1, 2, 3, 0] rfl ?_
          exact w_X8_jointAt_b102 σ t1 x2 u12 ht1 o h hg hL hr hf13
        · skip
          refine x_iconst (v := 0) h dX8_jointAt_84 (by decide) (q := 85) rfl ?_
          have hz := Option.some.inj hf11
          subst hz
          exact x_iret h hg hr dX8_jointAt_85
  · skip
    refine x_iconst (v := 0) h dX8_jointAt_11 (by decide) (q := 12) rfl ?_
    have hz := Option.some.inj hf2
    subst hz
    exact x_iret h hg hr dX8_jointAt_12
theorem c_X8_jointAt (l : Launch) {g : cG} (hi : gInj g) (σ : St) (t1 : Nat) (x2 : Int32) (ht1 : isF t1 = true) (o : Int32 × St) (hf : m_X8_jointAt σ t1 x2 = some o) : Met l yX8_jointAt (wT yX8_jointAt cX8_jointAt 4 (some .int)) rmX8_jointAt (va_Pc [.ref (gA g 81), .ref (gA g t1), .int x2] (XPre g σ)) (XQ g (some (.int o.1)) o.2) 0 0 (cA g) :=
  X_met RX8 hi plX8 rfl (Nat.le_of_ble_eq_true rfl) rfl (fun _ _ _ h hg hL hr => w_X8_jointAt σ t1 x2 ht1 o h hg hL hr hf)
abbrev rmX8_follow : Room := { frames := 4, cells := 0, slots := 0, locals := 95 }
theorem hdX8_follow : yX8_follow.cls = RX8 ∧ yX8_follow.cls ≠ "java/lang/invoke/MethodHandle" ∧ yX8_follow.cls ≠ "java/lang/invoke/VarHandle" ∧ (parseMethodDescriptor yX8_follow.desc).map (fun d => d.parameters.length) = some 1 := by decide +kernel
def m_X8_follow_b67 (σ : St) (t1 : Nat) (x2 : Int32) (x3 : Int32) (x4 : Int32) (x5 : Int32) (x6 : Int32) (s0 : Int32) (k4 : (St × Int32 × Int32) → Option (Int32 × St)) (k26 : (St × Int32 × Int32 × Int32) → Option (Int32 × St)) : Option (Int32 × St) :=
  if s0 = 0 then (
    k26 (σ, x2, x4, (x5 + 1))
  ) else (
    if (m_X7_plannedAction σ x3 x5) = x6 then (
      k26 (σ, x2, x4, (x5 + 1))
    ) else (
      k26 ((m_X7_setPlannedAction σ x3 x5 x6), (x2 + 1), x4, (x5 + 1))
    )
  )
set_option maxHeartbeats 4000000 in
set_option maxRecDepth 100000 in
theorem w_X8_follow_b67 {C : XC} {Q : State → Prop} {g : cG} (σ : St) (t1 : Nat) (x2 : Int32) (x3 : Int32) (x4 : Int32) (x5 : Int32) (x6 : Int32) (s0 : Int32) (ht1 : isF t1 = true) (o : Int32 × St) (h : XOk C cX8_follow RX8 tG rmX8_follow) (hg : XG C g) (hL : C.2.2.2.2.2.2.2.2.2.2.2.2.1 = 8) (hr : XEnd C (some .int) Q (XQ g (some (.int o.1)) o.2) (cA g)) (k4 : (St × Int32 × Int32) → Option (Int32 × St)) (k26 : (St × Int32 × Int32 × Int32) → Option (Int32 × St)) (hk4 : ∀ z : St × Int32 × Int32, k4 z = some o → Xs C (wW g) Q z.1 4 [(0, .ref (gA g 81)), (1, .ref (gA g t1)), (2, .int z.2.1), (3, .int z.2.2)] []) (hk26 : ∀ z : St × Int32 × Int32 × Int32, k26 z = some o → Xs C (wW g) Q z.1 26 [(0, .ref (gA g 81)), (1, .ref (gA g t1)), (2, .int z.2.1), (3, .int x3), (4, .int z.2.2.1), (5, .int z.2.2.2)] []) (hf : m_X8_follow_b67 σ t1 x2 x3 x4 x5 x6 s0 k4 k26 = some o) : Xs C (wW g) Q σ 67 [(0, .ref (gA g 81)), (1, .ref (gA g t1)), (2, .int x2), (3, .int x3), (4, .int x4), (5, .int x5), (6, .int x6)] [.int s0] := by
  unfold m_X8_follow_b67 at hf
  refine x_istore (lv' := [(7, .int s0), (0, .ref (gA g 81)), (1, .ref (gA g t1)), (2, .int x2), (3, .int x3), (4, .int x4), (5, .int x5), (6, .int x6)]) h dX8_follow_67 hL (by decide) rfl (q := 69) rfl ?_
  refine x_iload h dX8_follow_69 0 rfl (q := 71) rfl ?_
  refine x_if_eq (tgt := 104) h dX8_follow_71 (by decide) (q := 74) rfl hf (fun hc1 hf2 => ?_) (fun hc1 hf2 => ?_)
  · skip
    refine x_iinc (v := (x5 + 1)) (lv' := [(5, .int (x5 + 1)), (7, .int s0), (0, .ref (gA g 81)), (1, .ref (gA g t1)), (2, .int x2), (3, .int x3), (4, .int x4), (6, .int x6)]) (j := 6) h dX8_follow_104 rfl rfl hL (by decide) rfl (q := 107) rfl ?_
    refine x_goto (q := 26) h dX8_follow_107 (by decide) ?_
    refine x_sub (lv' := [(0, .ref (gA g 81)), (1, .ref (gA g t1)), (2, .int x2), (3, .int x3), (4, .int x4), (5, .int (x5 + 1))]) [2, 3, 4, 5, 6, 0] rfl ?_
    exact hk26 (σ, x2, x4, (x5 + 1)) hf2
  · skip
    refine x_aload_n h dX8_follow_74 rfl 1 rfl (q := 75) rfl ?_
    refine x_get_X8_81_0 h hg kf_X8_15 nn_X8 dX8_follow_75 ?_
    refine x_iload_n h dX8_follow_78 rfl 4 rfl (q := 79) rfl ?_
    refine x_iload h dX8_follow_79 6 rfl (q := 81) rfl ?_
    refine x_callVi (As := [.int x3, .int x5]) (rest := []) h hg (c_X7_plannedAction C.2.1 hg.2.1 σ x3 x5 _ rfl) ml_X8_86 biX7_plannedAction rfl rfl hdX7_plannedAction ⟨Nat.le_of_ble_eq_true rfl, Nat.le_of_ble_eq_true rfl⟩ (by decide) (cE_0 g _) rfl rfl rfl (Nat.le_of_ble_eq_true rfl) dX8_follow_81 ?_
    refine x_iload h dX8_follow_84 7 rfl (q := 86) rfl ?_
    refine x_icmp_eq (tgt := 104) h dX8_follow_86 (by decide) (q := 89) rfl hf2 (fun hc3 hf4 => ?_) (fun hc3 hf4 => ?_)
    · skip
      refine x_iinc (v := (x5 + 1)) (lv' := [(5, .int (x5 + 1)), (7, .int s0), (0, .ref (gA g 81)), (1, .ref (gA g t1)), (2, .int x2), (3, .int x3), (4, .int x4), (6, .int x6)]) (j := 6) h dX8_follow_104 rfl rfl hL (by decide) rfl (q := 107) rfl ?_
      refine x_goto (q := 26) h dX8_follow_107 (by decide) ?_
      refine x_sub (lv' := [(0, .ref (gA g 81)), (1, .ref (gA g t1)), (2, .int x2), (3, .int x3), (4, .int x4), (5, .int (x5 + 1))]) [2, 3, 4, 5, 6, 0] rfl ?_
      exact hk26 (σ, x2, x4, (x5 + 1)) hf4
    · skip
      refine x_aload_n h dX8_follow_89 rfl 1 rfl (q := 90) rfl ?_
      refine x_get_X8_81_0 h hg kf_X8_15 nn_X8 dX8_follow_90 ?_
      refine x_iload_n h dX8_follow_93 rfl 4 rfl (q := 94) rfl ?_
      refine x_iload h dX8_follow_94 6 rfl (q := 96) rfl ?_
      refine x_iload h dX8_follow_96 7 rfl (q := 98) rfl ?_
      refine x_callVv (As := [.int x3, .int x5, .int x6]) (rest := []) h hg (c_X7_setPlannedAction C.2.1 hg.2.1 σ x3 x5 x6 _ rfl) ml_X8_89 biX7_setPlannedAction rfl rfl hdX7_setPlannedAction ⟨Nat.le_of_ble_eq_true rfl, Nat.le_of_ble_eq_true rfl⟩ (by decide) (cE_0 g _) rfl rfl rfl (Nat.le_of_ble_eq_true rfl) dX8_follow_98 ?_
      refine x_iinc (v := (x2 + 1)) (lv' := [(2, .int (x2 + 1)), (7, .int s0), (0, .ref (gA g 81)), (1, .ref (gA g t1)), (3, .int x3), (4, .int x4), (5, .int x5), (6, .int x6)]) (j := 3) h dX8_follow_101 rfl rfl hL (by decide) rfl (q := 104) rfl ?_
      refine x_iinc (v := (x5 + 1)) (lv' := [(5, .int (x5 + 1)), (2, .int (x2 + 1)), (7, .int s0), (0, .ref (gA g 81)), (1, .ref (gA g t1)), (3, .int x3), (4, .int x4), (6, .int x6)]) (j := 6) h dX8_follow_104 rfl rfl hL (by decide) rfl (q := 107) rfl ?_
      refine x_goto (q := 26) h dX8_follow_107 (by decide) ?_
      refine x_sub (lv' := [(0, .ref (gA g 81)), (1, .ref (gA g t1)), (2, .int (x2 + 1)), (3, .int x3), (4, .int x4), (5, .int (x5 + 1))]) [3, 4, 1, 5, 6, 0] rfl ?_
      exact hk26 ((m_X7_setPlannedAction σ x3 x5 x6), (x2 + 1), x4, (x5 + 1)) hf4
def m_X8_follow_b26 (σ : St) (t1 : Nat) (x2 : Int32) (x3 : Int32) (x4 : Int32) (x5 : Int32) (k4 : (St × Int32 × Int32) → Option (Int32 × St)) (k26 : (St × Int32 × Int32 × Int32) → Option (Int32 × St)) : Option (Int32 × St) :=
  if (σ 0 0) ≤ x5 then (
    k4 (σ, x2, (x3 + 1))
  ) else (
    if (((m_X0_topCoalition σ t1) >>> (x5 &&& 31)) &&& 1) = 0 then (
      m_X8_follow_b67 σ t1 x2 x3 (x4 / 3) x5 (x4 - x4 / 3 * 3) 0 k4 k26
    ) else (
      m_X8_follow_b67 σ t1 x2 x3 (x4 / 3) x5 (x4 - x4 / 3 * 3) 1 k4 k26
    )
  )
set_option maxHeartbeats 4000000 in
set_option maxRecDepth 100000 in
theorem w_X8_follow_b26 {C : XC} {Q : State → Prop} {g : cG} (σ : St) (t1 : Nat) (x2 : Int32) (x3 : Int32) (x4 : Int32) (x5 : Int32) (ht1 : isF t1 = true) (o : Int32 × St) (h : XOk C cX8_follow RX8 tG rmX8_follow) (hg : XG C g) (hL : C.2.2.2.2.2.2.2.2.2.2.2.2.1 = 8) (hr : XEnd C (some .int) Q (XQ g (some (.int o.1)) o.2) (cA g)) (k4 : (St × Int32 × Int32) → Option (Int32 × St)) (k26 : (St × Int32 × Int32 × Int32) → Option (Int32 × St)) (hk4 : ∀ z : St × Int32 × Int32, k4 z = some o → Xs C (wW g) Q z.1 4 [(0, .ref (gA g 81)), (1, .ref (gA g t1)), (2, .int z.2.1), (3, .int z.2.2)] []) (hk26 : ∀ z : St × Int32 × Int32 × Int32, k26 z = some o → Xs C (wW g) Q z.1 26 [(0, .ref (gA g 81)), (1, .ref (gA g t1)), (2, .int z.2.1), (3, .int x3), (4, .int z.2.2.1), (5, .int z.2.2.2)] []) (hf : m_X8_follow_b26 σ t1 x2 x3 x4 x5 k4 k26 = some o) : Xs C (wW g) Q σ 26 [(0, .ref (gA g 81)), (1, .ref (gA g t1)), (2, .int x2), (3, .int x3), (4, .int x4), (5, .int x5)] [] := by
  unfold m_X8_follow_b26 at hf
  refine x_iload h dX8_follow_26 5 rfl (q := 28) rfl ?_
  refine x_aload_n h dX8_follow_28 rfl 0 rfl (q := 29) rfl ?_
  refine x_get_X8_81_0 h hg kf_X8_15 nn_X8 dX8_follow_29 ?_
  refine x_get_X7_0_0 h hg kf_X8_83 nn_X7 dX8_follow_32 ?_
  refine x_icmp_ge (tgt := 110) h dX8_follow_35 (by decide) (q := 38) rfl hf (fun hc1 hf2 => ?_) (fun hc1 hf2 => ?_)
  · skip
    refine x_iinc (v := (x3 + 1)) (lv' := [(3, .int (x3 + 1)), (0, .ref (gA g 81)), (1, .ref (gA g t1)), (2, .int x2), (4, .int x4), (5, .int x5)]) (j := 3) h dX8_follow_110 rfl rfl hL (by decide) rfl (q := 113) rfl ?_
    refine x_goto (q := 4) h dX8_follow_113 (by decide) ?_
    refine x_sub (lv' := [(0, .ref (gA g 81)), (1, .ref (gA g t1)), (2, .int x2), (3, .int (x3 + 1))]) [1, 2, 3, 0] rfl ?_
    exact hk4 (σ, x2, (x3 + 1)) hf2
  · skip
    refine x_iload h dX8_follow_38 4 rfl (q := 40) rfl ?_
    refine x_iconst (v := 3) h dX8_follow_40 (by decide) (q := 41) rfl ?_
    refine x_irem h (by decide) dX8_follow_41 (q := 42) rfl ?_
    refine x_istore (lv' := [(6, .int (x4 - x4 / 3 * 3)), (0, .ref (gA g 81)), (1, .ref (gA g t1)), (2, .int x2), (3, .int x3), (4, .int x4), (5, .int x5)]) h dX8_follow_42 hL (by decide) rfl (q := 44) rfl ?_
    refine x_iload h dX8_follow_44 5 rfl (q := 46) rfl ?_
    refine x_iconst (v := 3) h dX8_follow_46 (by decide) (q := 47) rfl ?_
    refine x_idiv h (by decide) dX8_follow_47 (q := 48) rfl ?_
    refine x_istore (lv' := [(4, .int (x4 / 3)), (6, .int (x4 - x4 / 3 * 3)), (0, .ref (gA g 81)), (1, .ref (gA g t1)), (2, .int x2), (3, .int x3), (5, .int x5)]) h dX8_follow_48 hL (by decide) rfl (q := 50) rfl ?_
    refine x_aload_n h dX8_follow_50 rfl 3 rfl (q := 51) rfl ?_
    refine x_callVi (As := []) (rest := []) h hg (c_X0_topCoalition C.2.1 hg.2.1 σ t1 ht1 _ rfl) ml_X8_33 biX0_topCoalition rfl rfl hdX0_topCoalition ⟨Nat.le_of_ble_eq_true rfl, Nat.le_of_ble_eq_true rfl⟩ (isF_lt ht1) (cE_F ht1 g _) rfl rfl rfl (Nat.le_of_ble_eq_true rfl) dX8_follow_51 ?_
    refine x_iload h dX8_follow_54 6 rfl (q := 56) rfl ?_
    refine x_ishr h dX8_follow_56 (q := 57) rfl ?_
    refine x_iconst (v := 1) h dX8_follow_57 (by decide) (q := 58) rfl ?_
    refine x_iand h dX8_follow_58 (q := 59) rfl ?_
    refine x_if_eq (tgt := 66) h dX8_follow_59 (by decide) (q := 62) rfl hf2 (fun hc3 hf4 => ?_) (fun hc3 hf4 => ?_)
    · skip
      refine x_iconst (v := 0) h dX8_follow_66 (by decide) (q := 67) rfl ?_
      refine x_sub (lv' := [(0, .ref (gA g 81)), (1, .ref (gA g t1)), (2, .int x2), (3, .int x3), (4, .int (x4 / 3)), (5, .int x5), (6, .int (x4 - x4 / 3 * 3))]) [2, 3, 4, 5, 0, 6, 1] rfl ?_
      exact w_X8_follow_b67 σ t1 x2 x3 (x4 / 3) x5 (x4 - x4 / 3 * 3) 0 ht1 o h hg hL hr k4 k26 hk4 hk26 hf4
    · skip
      refine x_iconst (v := 1) h dX8_follow_62 (by decide) (q := 63) rfl ?_
      refine x_goto (q := 67) h dX8_follow_63 (by decide) ?_
      refine x_sub (lv' := [(0, .ref (gA g 81)), (1, .ref (gA g t1)), (2, .int x2), (3, .int x3), (4, .int (x4 / 3)), (5, .int x5), (6, .int (x4 - x4 / 3 * 3))]) [2, 3, 4, 5, 0, 6, 1] rfl ?_
      exact w_X8_follow_b67 σ t1 x2 x3 (x4 / 3) x5 (x4 - x4 / 3 * 3) 1 ht1 o h hg hL hr k4 k26 hk4 hk26 hf4
set_option maxHeartbeats 4000000 in
set_option maxRecDepth 100000 in
theorem w_X8_follow_l26 {C : XC} {Q : State → Prop} {g : cG} (t1 : Nat) (x3 : Int32) (ht1 : isF t1 = true) (o : Int32 × St) (h : XOk C cX8_follow RX8 tG rmX8_follow) (hg : XG C g) (hL : C.2.2.2.2.2.2.2.2.2.2.2.2.1 = 8) (hr : XEnd C (some .int) Q (XQ g (some (.int o.1)) o.2) (cA g)) (k4 : (St × Int32 × Int32) → Option (Int32 × St)) (hk4 : ∀ z : St × Int32 × Int32, k4 z = some o → Xs C (wW g) Q z.1 4 [(0, .ref (gA g 81)), (1, .ref (gA g t1)), (2, .int z.2.1), (3, .int z.2.2)] []) : ∀ (n : Nat) (z : St × Int32 × Int32 × Int32), loopF (fun k z => m_X8_follow_b26 z.1 t1 z.2.1 x3 z.2.2.1 z.2.2.2 k4 k) n z = some o → Xs C (wW g) Q z.1 26 [(0, .ref (gA g 81)), (1, .ref (gA g t1)), (2, .int z.2.1), (3, .int x3), (4, .int z.2.2.1), (5, .int z.2.2.2)] [] := by
  intro n z hf
  refine loopF_ind (S := St × Int32 × Int32 × Int32) (O := Int32 × St) (step := (fun k z => m_X8_follow_b26 z.1 t1 z.2.1 x3 z.2.2.1 z.2.2.2 k4 k)) (o := o) (P := fun z => Xs C (wW g) Q z.1 26 [(0, .ref (gA g 81)), (1, .ref (gA g t1)), (2, .int z.2.1), (3, .int x3), (4, .int z.2.2.1), (5, .int z.2.2.2)] []) ?_ n z hf
  intro k hk z hf
  exact w_X8_follow_b26 z.1 t1 z.2.1 x3 z.2.2.1 z.2.2.2 ht1 o h hg hL hr k4 k hk4 hk hf
def m_X8_follow_b4 (σ : St) (t1 : Nat) (x2 : Int32) (x3 : Int32) (k4 : (St × Int32 × Int32) → Option (Int32 × St)) : Option (Int32 × St) :=
  if (σ 0 7) ≤ x3 then (
    some (x2, σ)
  ) else (
    (m_X8_jointAt σ t1 x3).bind fun u3 =>
    loopF (fun k z => m_X8_follow_b26 z.1 t1 z.2.1 x3 z.2.2.1 z.2.2.2 k4 k) cFu (u3.2, x2, u3.1, 0)
  )
set_option maxHeartbeats 4000000 in
set_option maxRecDepth 100000 in
theorem w_X8_follow_b4 {C : XC} {Q : State → Prop} {g : cG} (σ : St) (t1 : Nat) (x2 : Int32) (x3 : Int32) (ht1 : isF t1 = true) (o : Int32 × St) (h : XOk C cX8_follow RX8 tG rmX8_follow) (hg : XG C g) (hL : C.2.2.2.2.2.2.2.2.2.2.2.2.1 = 8) (hr : XEnd C (some .int) Q (XQ g (some (.int o.1)) o.2) (cA g)) (k4 : (St × Int32 × Int32) → Option (Int32 × St)) (hk4 : ∀ z : St × Int32 × Int32, k4 z = some o → Xs C (wW g) Q z.1 4 [(0, .ref (gA g 81)), (1, .ref (gA g t1)), (2, .int z.2.1), (3, .int z.2.2)] []) (hf : m_X8_follow_b4 σ t1 x2 x3 k4 = some o) : Xs C (wW g) Q σ 4 [(0, .ref (gA g 81)), (1, .ref (gA g t1)), (2, .int x2), (3, .int x3)] [] := by
  unfold m_X8_follow_b4 at hf
  refine x_iload_n h dX8_follow_4 rfl 3 rfl (q := 5) rfl ?_
  refine x_aload_n h dX8_follow_5 rfl 0 rfl (q := 6) rfl ?_
  refine x_get_X8_81_0 h hg kf_X8_15 nn_X8 dX8_follow_6 ?_
  refine x_get_X7_0_7 h hg kf_X8_74 nn_X7 dX8_follow_9 ?_
  refine x_icmp_ge (tgt := 116) h dX8_follow_12 (by decide) (q := 15) rfl hf (fun hc1 hf2 => ?_) (fun hc1 hf2 => ?_)
  · skip
    refine x_iload_n h dX8_follow_116 rfl 2 rfl (q := 117) rfl ?_
    have hz := Option.some.inj hf2
    subst hz
    exact x_iret h hg hr dX8_follow_117
  · skip
    refine x_aload_n h dX8_follow_15 rfl 0 rfl (q := 16) rfl ?_
    refine x_aload_n h dX8_follow_16 rfl 1 rfl (q := 17) rfl ?_
    refine x_iload_n h dX8_follow_17 rfl 3 rfl (q := 18) rfl ?_
    obtain ⟨u3, hu3, hf4⟩ := bnd_inv hf2
    refine x_callVi (As := [.ref (gA g t1), .int x3]) (rest := []) h hg (c_X8_jointAt C.2.1 hg.2.1 σ t1 x3 ht1 _ hu3) ml_X8_79 biX8_jointAt rfl rfl hdX8_jointAt ⟨Nat.le_of_ble_eq_true rfl, Nat.le_of_ble_eq_true rfl⟩ (by decide) (cE_81 g _) rfl rfl rfl (Nat.le_of_ble_eq_true rfl) dX8_follow_18 ?_
    refine x_istore (lv' := [(4, .int u3.1), (0, .ref (gA g 81)), (1, .ref (gA g t1)), (2, .int x2), (3, .int x3)]) h dX8_follow_21 hL (by decide) rfl (q := 23) rfl ?_
    refine x_iconst (v := 0) h dX8_follow_23 (by decide) (q := 24) rfl ?_
    refine x_istore (lv' := [(5, .int 0), (4, .int u3.1), (0, .ref (gA g 81)), (1, .ref (gA g t1)), (2, .int x2), (3, .int x3)]) h dX8_follow_24 hL (by decide) rfl (q := 26) rfl ?_
    refine x_sub (lv' := [(0, .ref (gA g 81)), (1, .ref (gA g t1)), (2, .int x2), (3, .int x3), (4, .int u3.1), (5, .int 0)]) [2, 3, 4, 5, 1, 0] rfl ?_
    exact w_X8_follow_l26 t1 x3 ht1 o h hg hL hr k4 hk4  cFu (u3.2, x2, u3.1, 0) hf4
set_option maxHeartbeats 4000000 in
set_option maxRecDepth 100000 in
theorem w_X8_follow_l4 {C : XC} {Q : State → Prop} {g : cG} (t1 : Nat) (ht1 : isF t1 = true) (o : Int32 × St) (h : XOk C cX8_follow RX8 tG rmX8_follow) (hg : XG C g) (hL : C.2.2.2.2.2.2.2.2.2.2.2.2.1 = 8) (hr : XEnd C (some .int) Q (XQ g (some (.int o.1)) o.2) (cA g)) : ∀ (n : Nat) (z : St × Int32 × Int32), loopF (fun k z => m_X8_follow_b4 z.1 t1 z.2.1 z.2.2 k) n z = some o → Xs C (wW g) Q z.1 4 [(0, .ref (gA g 81)), (1, .ref (gA g t1)), (2, .int z.2.1), (3, .int z.2.2)] [] := by
  intro n z hf
  refine loopF_ind (S := St × Int32 × Int32) (O := Int32 × St) (step := (fun k z => m_X8_follow_b4 z.1 t1 z.2.1 z.2.2 k)) (o := o) (P := fun z => Xs C (wW g) Q z.1 4 [(0, .ref (gA g 81)), (1, .ref (gA g t1)), (2, .int z.2.1), (3, .int z.2.2)] []) ?_ n z hf
  intro k hk z hf
  exact w_X8_follow_b4 z.1 t1 z.2.1 z.2.2 ht1 o h hg hL hr k hk hf
def m_X8_follow (σ : St) (t1 : Nat) : Option (Int32 × St) :=
  loopF (fun k z => m_X8_follow_b4 z.1 t1 z.2.1 z.2.2 k) cFu (σ, 0, 0)
set_option maxHeartbeats 4000000 in
set_option maxRecDepth 100000 in
theorem w_X8_follow {C : XC} {Q : State → Prop} {g : cG} (σ : St) (t1 : Nat) (ht1 : isF t1 = true) (o : Int32 × St) (h : XOk C cX8_follow RX8 tG rmX8_follow) (hg : XG C g) (hL : C.2.2.2.2.2.2.2.2.2.2.2.2.1 = 8) (hr : XEnd C (some .int) Q (XQ g (some (.int o.1)) o.2) (cA g)) (hf : m_X8_follow σ t1 = some o) : Xs C (wW g) Q σ 0 [(0, .ref (gA g 81)), (1, .ref (gA g t1))] [] := by
  unfold m_X8_follow at hf
  refine x_iconst (v := 0) h dX8_follow_0 (by decide) (q := 1) rfl ?_
  refine x_istore_n (lv' := [(2, .int 0), (0, .ref (gA g 81)), (1, .ref (gA g t1))]) h dX8_follow_1 rfl hL (by decide) rfl (q := 2) rfl ?_
  refine x_iconst (v := 0) h dX8_follow_2 (by decide) (q := 3) rfl ?_
  refine x_istore_n (lv' := [(3, .int 0), (2, .int 0), (0, .ref (gA g 81)), (1, .ref (gA g t1))]) h dX8_follow_3 rfl hL (by decide) rfl (q := 4) rfl ?_
  refine x_sub (lv' := [(0, .ref (gA g 81)), (1, .ref (gA g t1)), (2, .int 0), (3, .int 0)]) [2, 3, 1, 0] rfl ?_
  exact w_X8_follow_l4 t1 ht1 o h hg hL hr  cFu (σ, 0, 0) hf
theorem c_X8_follow (l : Launch) {g : cG} (hi : gInj g) (σ : St) (t1 : Nat) (ht1 : isF t1 = true) (o : Int32 × St) (hf : m_X8_follow σ t1 = some o) : Met l yX8_follow (wT yX8_follow cX8_follow 8 (some .int)) rmX8_follow (va_Pc [.ref (gA g 81), .ref (gA g t1)] (XPre g σ)) (XQ g (some (.int o.1)) o.2) 0 0 (cA g) :=
  X_met RX8 hi plX8 rfl (Nat.le_of_ble_eq_true rfl) rfl (fun _ _ _ h hg hL hr => w_X8_follow σ t1 ht1 o h hg hL hr hf)
abbrev rmX8_nextSeed : Room := { frames := 0, cells := 0, slots := 0, locals := 0 }
theorem hdX8_nextSeed : yX8_nextSeed.cls ≠ "java/lang/invoke/MethodHandle" ∧ yX8_nextSeed.cls ≠ "java/lang/invoke/VarHandle" ∧ (parseMethodDescriptor yX8_nextSeed.desc).map (fun d => d.parameters.length) = some 1 := by decide +kernel
def m_X8_nextSeed (x0 : Int32) : Int32 :=
  (((1103515245 * x0) + 12345) &&& 2147483647)
set_option maxHeartbeats 4000000 in
set_option maxRecDepth 100000 in
theorem w_X8_nextSeed {C : XC} {Q : State → Prop} {H0 : Heap} {σ : St} (x0 : Int32) (o : Int32) (h : XOk C cX8_nextSeed RX8 tG rmX8_nextSeed) (hH : H0 = C.2.2.2.2.1.heap) (hL : C.2.2.2.2.2.2.2.2.2.2.2.2.1 = 1) (hr : XEnd C (some .int) Q (XQp (some (.int o))) (fun _ => False)) (hf : m_X8_nextSeed x0 = o) : Xs C (fun _ H => H = H0) Q σ 0 [(0, .int x0)] [] := by
  unfold m_X8_nextSeed at hf
  refine x_ldc (v := 1103515245) h kc_X8_107 dX8_nextSeed_0 (q := 2) rfl ?_
  refine x_iload_n h dX8_nextSeed_2 rfl 0 rfl (q := 3) rfl ?_
  refine x_imul h dX8_nextSeed_3 (q := 4) rfl ?_
  refine x_sipush (v := 12345) h dX8_nextSeed_4 (by decide) (q := 7) rfl ?_
  refine x_iadd h dX8_nextSeed_7 (q := 8) rfl ?_
  refine x_ldc (v := 2147483647) h kc_X8_108 dX8_nextSeed_8 (q := 10) rfl ?_
  refine x_iand h dX8_nextSeed_10 (q := 11) rfl ?_
  subst hf
  exact x_iretP h hr hH dX8_nextSeed_11
theorem c_X8_nextSeed (l : Launch) (x0 : Int32) (o : Int32) (hf : m_X8_nextSeed x0 = o) : Met l yX8_nextSeed (wT yX8_nextSeed cX8_nextSeed 1 (some .int)) rmX8_nextSeed (va_Pc [.int x0] (fun _ => True)) (XQp (some (.int o))) 0 0 (fun _ => False) :=
  X_metP RX8 plX8 rfl (Nat.le_of_ble_eq_true rfl) rfl (fun _ _ _ _ _ h hH hL hr => w_X8_nextSeed x0 o h hH hL hr hf)
abbrev rmX8_run : Room := { frames := 3, cells := 0, slots := 0, locals := 77 }
theorem hdX8_run : yX8_run.cls = RX8 ∧ yX8_run.cls ≠ "java/lang/invoke/MethodHandle" ∧ yX8_run.cls ≠ "java/lang/invoke/VarHandle" ∧ (parseMethodDescriptor yX8_run.desc).map (fun d => d.parameters.length) = some 4 := by decide +kernel
def m_X8_run_b13 (σ : St) (x1 : Int32) (x3 : Int32) (x5 : Int32) (x6 : Int32) (x7 : Int32) (k13 : (Int32 × Int32 × Int32) → Option (Int32)) : Option (Int32) :=
  if x3 ≤ x7 then (
    some x5
  ) else (
    (m_X6_follow σ x1 x5 x6).bind fun u3 =>
    k13 (u3, (m_X8_nextSeed x6), (x7 + 1))
  )
set_option maxHeartbeats 4000000 in
set_option maxRecDepth 100000 in
theorem w_X8_run_b13 {C : XC} {Q : State → Prop} {g : cG} (σ : St) (x1 : Int32) (x3 : Int32) (x5 : Int32) (x6 : Int32) (x7 : Int32) (o : Int32) (h : XOk C cX8_run RX8 tG rmX8_run) (hg : XG C g) (hL : C.2.2.2.2.2.2.2.2.2.2.2.2.1 = 8) (hr : XEnd C (some .int) Q (XQ g (some (.int o)) σ) (cA g)) (k13 : (Int32 × Int32 × Int32) → Option (Int32)) (hk13 : ∀ z : Int32 × Int32 × Int32, k13 z = some o → Xs C (wW g) Q σ 13 [(0, .ref (gA g 81)), (1, .int x1), (3, .int x3), (5, .int z.1), (6, .int z.2.1), (7, .int z.2.2)] []) (hf : m_X8_run_b13 σ x1 x3 x5 x6 x7 k13 = some o) : Xs C (wW g) Q σ 13 [(0, .ref (gA g 81)), (1, .int x1), (3, .int x3), (5, .int x5), (6, .int x6), (7, .int x7)] [] := by
  unfold m_X8_run_b13 at hf
  refine x_iload h dX8_run_13 5 rfl (q := 15) rfl ?_
  refine x_iload_n h dX8_run_15 rfl 2 rfl (q := 16) rfl ?_
  refine x_icmp_ge (tgt := 46) h dX8_run_16 (by decide) (q := 19) rfl hf (fun hc1 hf2 => ?_) (fun hc1 hf2 => ?_)
  · skip
    refine x_iload h dX8_run_46 3 rfl (q := 48) rfl ?_
    have hz := Option.some.inj hf2
    subst hz
    exact x_iret h hg hr dX8_run_48
  · skip
    refine x_aload_n h dX8_run_19 rfl 0 rfl (q := 20) rfl ?_
    refine x_get_X8_81_1 h hg kf_X8_19 nn_X8 dX8_run_20 ?_
    refine x_iload_n h dX8_run_23 rfl 1 rfl (q := 24) rfl ?_
    refine x_iload h dX8_run_24 3 rfl (q := 26) rfl ?_
    refine x_iload h dX8_run_26 4 rfl (q := 28) rfl ?_
    obtain ⟨u3, hu3, hf4⟩ := bnd_inv hf2
    refine x_callVi (As := [.int x1, .int x5, .int x6]) (rest := []) h hg (c_X6_follow C.2.1 hg.2.1 σ x1 x5 x6 _ hu3) ml_X8_96 biX6_follow rfl rfl hdX6_follow ⟨Nat.le_of_ble_eq_true rfl, Nat.le_of_ble_eq_true rfl⟩ (by decide) (cE_69 g _) rfl rfl rfl (Nat.le_of_ble_eq_true rfl) dX8_run_28 ?_
    refine x_istore (lv' := [(5, .int u3), (0, .ref (gA g 81)), (1, .int x1), (3, .int x3), (6, .int x6), (7, .int x7)]) h dX8_run_31 hL (by decide) rfl (q := 33) rfl ?_
    refine x_iload h dX8_run_33 4 rfl (q := 35) rfl ?_
    refine x_callPi (As := [.int x6]) (rest := []) h (c_X8_nextSeed C.2.1 x6 _ rfl) ml_X8_93 biX8_nextSeed rfl rfl hdX8_nextSeed ⟨Nat.le_of_ble_eq_true rfl, Nat.le_of_ble_eq_true rfl⟩ rfl rfl (Nat.le_of_ble_eq_true rfl) dX8_run_35 ?_
    refine x_istore (lv' := [(6, .int (m_X8_nextSeed x6)), (5, .int u3), (0, .ref (gA g 81)), (1, .int x1), (3, .int x3), (7, .int x7)]) h dX8_run_38 hL (by decide) rfl (q := 40) rfl ?_
    refine x_iinc (v := (x7 + 1)) (lv' := [(7, .int (x7 + 1)), (6, .int (m_X8_nextSeed x6)), (5, .int u3), (0, .ref (gA g 81)), (1, .int x1), (3, .int x3)]) (j := 5) h dX8_run_40 rfl rfl hL (by decide) rfl (q := 43) rfl ?_
    refine x_goto (q := 13) h dX8_run_43 (by decide) ?_
    refine x_sub (lv' := [(0, .ref (gA g 81)), (1, .int x1), (3, .int x3), (5, .int u3), (6, .int (m_X8_nextSeed x6)), (7, .int (x7 + 1))]) [3, 4, 5, 2, 1, 0] rfl ?_
    exact hk13 (u3, (m_X8_nextSeed x6), (x7 + 1)) hf4
set_option maxHeartbeats 4000000 in
set_option maxRecDepth 100000 in
theorem w_X8_run_l13 {C : XC} {Q : State → Prop} {g : cG} (σ : St) (x1 : Int32) (x3 : Int32) (o : Int32) (h : XOk C cX8_run RX8 tG rmX8_run) (hg : XG C g) (hL : C.2.2.2.2.2.2.2.2.2.2.2.2.1 = 8) (hr : XEnd C (some .int) Q (XQ g (some (.int o)) σ) (cA g)) : ∀ (n : Nat) (z : Int32 × Int32 × Int32), loopF (fun k z => m_X8_run_b13 σ x1 x3 z.1 z.2.1 z.2.2 k) n z = some o → Xs C (wW g) Q σ 13 [(0, .ref (gA g 81)), (1, .int x1), (3, .int x3), (5, .int z.1), (6, .int z.2.1), (7, .int z.2.2)] [] := by
  intro n z hf
  refine loopF_ind (S := Int32 × Int32 × Int32) (O := Int32) (step := (fun k z => m_X8_run_b13 σ x1 x3 z.1 z.2.1 z.2.2 k)) (o := o) (P := fun z => Xs C (wW g) Q σ 13 [(0, .ref (gA g 81)), (1, .int x1), (3, .int x3), (5, .int z.1), (6, .int z.2.1), (7, .int z.2.2)] []) ?_ n z hf
  intro k hk z hf
  exact w_X8_run_b13 σ x1 x3 z.1 z.2.1 z.2.2 o h hg hL hr k hk hf
def m_X8_run (σ : St) (x1 : Int32) (x2 : Int32) (x3 : Int32) (x4 : Int32) : Option (Int32) :=
  loopF (fun k z => m_X8_run_b13 σ x1 x3 z.1 z.2.1 z.2.2 k) cFu (x2, (m_X8_nextSeed x4), 0)
set_option maxHeartbeats 4000000 in
set_option maxRecDepth 100000 in
theorem w_X8_run {C : XC} {Q : State → Prop} {g : cG} (σ : St) (x1 : Int32) (x2 : Int32) (x3 : Int32) (x4 : Int32) (o : Int32) (h : XOk C cX8_run RX8 tG rmX8_run) (hg : XG C g) (hL : C.2.2.2.2.2.2.2.2.2.2.2.2.1 = 8) (hr : XEnd C (some .int) Q (XQ g (some (.int o)) σ) (cA g)) (hf : m_X8_run σ x1 x2 x3 x4 = some o) : Xs C (wW g) Q σ 0 [(0, .ref (gA g 81)), (1, .int x1), (2, .int x2), (3, .int x3), (4, .int x4)] [] := by
  unfold m_X8_run at hf
  refine x_iload_n h dX8_run_0 rfl 2 rfl (q := 1) rfl ?_
  refine x_istore (lv' := [(5, .int x2), (0, .ref (gA g 81)), (1, .int x1), (2, .int x2), (3, .int x3), (4, .int x4)]) h dX8_run_1 hL (by decide) rfl (q := 3) rfl ?_
  refine x_iload h dX8_run_3 5 rfl (q := 5) rfl ?_
  refine x_callPi (As := [.int x4]) (rest := []) h (c_X8_nextSeed C.2.1 x4 _ rfl) ml_X8_93 biX8_nextSeed rfl rfl hdX8_nextSeed ⟨Nat.le_of_ble_eq_true rfl, Nat.le_of_ble_eq_true rfl⟩ rfl rfl (Nat.le_of_ble_eq_true rfl) dX8_run_5 ?_
  refine x_istore (lv' := [(6, .int (m_X8_nextSeed x4)), (5, .int x2), (0, .ref (gA g 81)), (1, .int x1), (2, .int x2), (3, .int x3), (4, .int x4)]) h dX8_run_8 hL (by decide) rfl (q := 10) rfl ?_
  refine x_iconst (v := 0) h dX8_run_10 (by decide) (q := 11) rfl ?_
  refine x_istore (lv' := [(7, .int 0), (6, .int (m_X8_nextSeed x4)), (5, .int x2), (0, .ref (gA g 81)), (1, .int x1), (2, .int x2), (3, .int x3), (4, .int x4)]) h dX8_run_11 hL (by decide) rfl (q := 13) rfl ?_
  refine x_sub (lv' := [(0, .ref (gA g 81)), (1, .int x1), (3, .int x3), (5, .int x2), (6, .int (m_X8_nextSeed x4)), (7, .int 0)]) [3, 4, 6, 2, 1, 0] rfl ?_
  exact w_X8_run_l13 σ x1 x3 o h hg hL hr  cFu (x2, (m_X8_nextSeed x4), 0) hf
theorem c_X8_run (l : Launch) {g : cG} (hi : gInj g) (σ : St) (x1 : Int32) (x2 : Int32) (x3 : Int32) (x4 : Int32) (o : Int32) (hf : m_X8_run σ x1 x2 x3 x4 = some o) : Met l yX8_run (wT yX8_run cX8_run 8 (some .int)) rmX8_run (va_Pc [.ref (gA g 81), .int x1, .int x2, .int x3, .int x4] (XPre g σ)) (XQ g (some (.int o)) σ) 0 0 (cA g) :=
  X_met RX8 hi plX8 rfl (Nat.le_of_ble_eq_true rfl) rfl (fun _ _ _ h hg hL hr => w_X8_run σ x1 x2 x3 x4 o h hg hL hr hf)
abbrev rmX8_fewest : Room := { frames := 6, cells := 0, slots := 0, locals := 154 }
theorem hdX8_fewest : yX8_fewest.cls = RX8 ∧ yX8_fewest.cls ≠ "java/lang/invoke/MethodHandle" ∧ yX8_fewest.cls ≠ "java/lang/invoke/VarHandle" ∧ (parseMethodDescriptor yX8_fewest.desc).map (fun d => d.parameters.length) = some 2 := by decide +kernel
def m_X8_fewest_b24 (σ : St) (t1 : Nat) (x2 : Int32) (x3 : Int32) (x4 : Int32) (k10 : (St × Int32) → Option (Int32 × St)) (k24 : (St × Int32) → Option (Int32 × St)) : Option (Int32 × St) :=
  if (σ 0 1) ≤ x4 then (
    k10 (σ, (x3 + 1))
  ) else (
    if (m_J6_bitCount_0f7a4 x4) = x3 then (
      (m_X3_goalSet σ t1 x4 0).bind fun u5 =>
      if ((u5.1 >>> (x2 &&& 31)) &&& 1) = 0 then (
        k24 (u5.2, (x4 + 1))
      ) else (
        some (x4, u5.2)
      )
    ) else (
      k24 (σ, (x4 + 1))
    )
  )
set_option maxHeartbeats 4000000 in
set_option maxRecDepth 100000 in
theorem w_X8_fewest_b24 {C : XC} {Q : State → Prop} {g : cG} (σ : St) (t1 : Nat) (x2 : Int32) (x3 : Int32) (x4 : Int32) (ht1 : isF t1 = true) (o : Int32 × St) (h : XOk C cX8_fewest RX8 tG rmX8_fewest) (hg : XG C g) (hL : C.2.2.2.2.2.2.2.2.2.2.2.2.1 = 5) (hr : XEnd C (some .int) Q (XQ g (some (.int o.1)) o.2) (cA g)) (k10 : (St × Int32) → Option (Int32 × St)) (k24 : (St × Int32) → Option (Int32 × St)) (hk10 : ∀ z : St × Int32, k10 z = some o → Xs C (wW g) Q z.1 10 [(0, .ref (gA g 81)), (1, .ref (gA g t1)), (2, .int x2), (3, .int z.2)] []) (hk24 : ∀ z : St × Int32, k24 z = some o → Xs C (wW g) Q z.1 24 [(0, .ref (gA g 81)), (1, .ref (gA g t1)), (2, .int x2), (3, .int x3), (4, .int z.2)] []) (hf : m_X8_fewest_b24 σ t1 x2 x3 x4 k10 k24 = some o) : Xs C (wW g) Q σ 24 [(0, .ref (gA g 81)), (1, .ref (gA g t1)), (2, .int x2), (3, .int x3), (4, .int x4)] [] := by
  unfold m_X8_fewest_b24 at hf
  refine x_iload h dX8_fewest_24 4 rfl (q := 26) rfl ?_
  refine x_aload_n h dX8_fewest_26 rfl 0 rfl (q := 27) rfl ?_
  refine x_get_X8_81_0 h hg kf_X8_15 nn_X8 dX8_fewest_27 ?_
  refine x_get_X7_0_1 h hg kf_X8_99 nn_X7 dX8_fewest_30 ?_
  refine x_icmp_ge (tgt := 72) h dX8_fewest_33 (by decide) (q := 36) rfl hf (fun hc1 hf2 => ?_) (fun hc1 hf2 => ?_)
  · skip
    refine x_iinc (v := (x3 + 1)) (lv' := [(3, .int (x3 + 1)), (0, .ref (gA g 81)), (1, .ref (gA g t1)), (2, .int x2), (4, .int x4)]) (j := 3) h dX8_fewest_72 rfl rfl hL (by decide) rfl (q := 75) rfl ?_
    refine x_goto (q := 10) h dX8_fewest_75 (by decide) ?_
    refine x_sub (lv' := [(0, .ref (gA g 81)), (1, .ref (gA g t1)), (2, .int x2), (3, .int (x3 + 1))]) [1, 2, 3, 0] rfl ?_
    exact hk10 (σ, (x3 + 1)) hf2
  · skip
    refine x_iload h dX8_fewest_36 4 rfl (q := 38) rfl ?_
    refine x_callPi (As := [.int x4]) (rest := []) h (c_J6_bitCount_0f7a4 C.2.1 x4 _ rfl) ml_X8_102 biJ6_bitCount_0f7a4 rfl rfl hdJ6_bitCount_0f7a4 ⟨Nat.le_of_ble_eq_true rfl, Nat.le_of_ble_eq_true rfl⟩ rfl rfl (Nat.le_of_ble_eq_true rfl) dX8_fewest_38 ?_
    refine x_iload_n h dX8_fewest_41 rfl 3 rfl (q := 42) rfl ?_
    refine x_icmp_ne (tgt := 66) h dX8_fewest_42 (by decide) (q := 45) rfl hf2 (fun hc3 hf4 => ?_) (fun hc3 hf4 => ?_)
    · skip
      refine x_iinc (v := (x4 + 1)) (lv' := [(4, .int (x4 + 1)), (0, .ref (gA g 81)), (1, .ref (gA g t1)), (2, .int x2), (3, .int x3)]) (j := 4) h dX8_fewest_66 rfl rfl hL (by decide) rfl (q := 69) rfl ?_
      refine x_goto (q := 24) h dX8_fewest_69 (by decide) ?_
      refine x_sub (lv' := [(0, .ref (gA g 81)), (1, .ref (gA g t1)), (2, .int x2), (3, .int x3), (4, .int (x4 + 1))]) [1, 2, 3, 4, 0] rfl ?_
      exact hk24 (σ, (x4 + 1)) hf4
    · skip
      refine x_aload_n h dX8_fewest_45 rfl 0 rfl (q := 46) rfl ?_
      refine x_get_X8_81_2 h hg kf_X8_23 nn_X8 dX8_fewest_46 ?_
      refine x_aload_n h dX8_fewest_49 rfl 1 rfl (q := 50) rfl ?_
      refine x_iload h dX8_fewest_50 4 rfl (q := 52) rfl ?_
      refine x_iconst (v := 0) h dX8_fewest_52 (by decide) (q := 53) rfl ?_
      obtain ⟨u5, hu5, hf6⟩ := bnd_inv hf4
      refine x_callVi (As := [.ref (gA g t1), .int x4, .int 0]) (rest := []) h hg (c_X3_goalSet C.2.1 hg.2.1 σ t1 x4 0 ht1 _ hu5) ml_X8_39 biX3_goalSet rfl rfl hdX3_goalSet ⟨Nat.le_of_ble_eq_true rfl, Nat.le_of_ble_eq_true rfl⟩ (by decide) (cE_78 g _) rfl rfl rfl (Nat.le_of_ble_eq_true rfl) dX8_fewest_53 ?_
      refine x_iload_n h dX8_fewest_56 rfl 2 rfl (q := 57) rfl ?_
      refine x_ishr h dX8_fewest_57 (q := 58) rfl ?_
      refine x_iconst (v := 1) h dX8_fewest_58 (by decide) (q := 59) rfl ?_
      refine x_iand h dX8_fewest_59 (q := 60) rfl ?_
      refine x_if_eq (tgt := 66) h dX8_fewest_60 (by decide) (q := 63) rfl hf6 (fun hc7 hf8 => ?_) (fun hc7 hf8 => ?_)
      · skip
        refine x_iinc (v := (x4 + 1)) (lv' := [(4, .int (x4 + 1)), (0, .ref (gA g 81)), (1, .ref (gA g t1)), (2, .int x2), (3, .int x3)]) (j := 4) h dX8_fewest_66 rfl rfl hL (by decide) rfl (q := 69) rfl ?_
        refine x_goto (q := 24) h dX8_fewest_69 (by decide) ?_
        refine x_sub (lv' := [(0, .ref (gA g 81)), (1, .ref (gA g t1)), (2, .int x2), (3, .int x3), (4, .int (x4 + 1))]) [1, 2, 3, 4, 0] rfl ?_
        exact hk24 (u5.2, (x4 + 1)) hf8
      · skip
        refine x_iload h dX8_fewest_63 4 rfl (q := 65) rfl ?_
        have hz := Option.some.inj hf8
        subst hz
        exact x_iret h hg hr dX8_fewest_65
set_option maxHeartbeats 4000000 in
set_option maxRecDepth 100000 in
theorem w_X8_fewest_l24 {C : XC} {Q : State → Prop} {g : cG} (t1 : Nat) (x2 : Int32) (x3 : Int32) (ht1 : isF t1 = true) (o : Int32 × St) (h : XOk C cX8_fewest RX8 tG rmX8_fewest) (hg : XG C g) (hL : C.2.2.2.2.2.2.2.2.2.2.2.2.1 = 5) (hr : XEnd C (some .int) Q (XQ g (some (.int o.1)) o.2) (cA g)) (k10 : (St × Int32) → Option (Int32 × St)) (hk10 : ∀ z : St × Int32, k10 z = some o → Xs C (wW g) Q z.1 10 [(0, .ref (gA g 81)), (1, .ref (gA g t1)), (2, .int x2), (3, .int z.2)] []) : ∀ (n : Nat) (z : St × Int32), loopF (fun k z => m_X8_fewest_b24 z.1 t1 x2 x3 z.2 k10 k) n z = some o → Xs C (wW g) Q z.1 24 [(0, .ref (gA g 81)), (1, .ref (gA g t1)), (2, .int x2), (3, .int x3), (4, .int z.2)] [] := by
  intro n z hf
  refine loopF_ind (S := St × Int32) (O := Int32 × St) (step := (fun k z => m_X8_fewest_b24 z.1 t1 x2 x3 z.2 k10 k)) (o := o) (P := fun z => Xs C (wW g) Q z.1 24 [(0, .ref (gA g 81)), (1, .ref (gA g t1)), (2, .int x2), (3, .int x3), (4, .int z.2)] []) ?_ n z hf
  intro k hk z hf
  exact w_X8_fewest_b24 z.1 t1 x2 x3 z.2 ht1 o h hg hL hr k10 k hk10 hk hf
def m_X8_fewest_b10 (σ : St) (t1 : Nat) (x2 : Int32) (x3 : Int32) (k10 : (St × Int32) → Option (Int32 × St)) : Option (Int32 × St) :=
  if (σ 0 0) < x3 then (
    some ((-9), σ)
  ) else (
    loopF (fun k z => m_X8_fewest_b24 z.1 t1 x2 x3 z.2 k10 k) cFu (σ, 0)
  )
set_option maxHeartbeats 4000000 in
set_option maxRecDepth 100000 in
theorem w_X8_fewest_b10 {C : XC} {Q : State → Prop} {g : cG} (σ : St) (t1 : Nat) (x2 : Int32) (x3 : Int32) (ht1 : isF t1 = true) (o : Int32 × St) (h : XOk C cX8_fewest RX8 tG rmX8_fewest) (hg : XG C g) (hL : C.2.2.2.2.2.2.2.2.2.2.2.2.1 = 5) (hr : XEnd C (some .int) Q (XQ g (some (.int o.1)) o.2) (cA g)) (k10 : (St × Int32) → Option (Int32 × St)) (hk10 : ∀ z : St × Int32, k10 z = some o → Xs C (wW g) Q z.1 10 [(0, .ref (gA g 81)), (1, .ref (gA g t1)), (2, .int x2), (3, .int z.2)] []) (hf : m_X8_fewest_b10 σ t1 x2 x3 k10 = some o) : Xs C (wW g) Q σ 10 [(0, .ref (gA g 81)), (1, .ref (gA g t1)), (2, .int x2), (3, .int x3)] [] := by
  unfold m_X8_fewest_b10 at hf
  refine x_iload_n h dX8_fewest_10 rfl 3 rfl (q := 11) rfl ?_
  refine x_aload_n h dX8_fewest_11 rfl 0 rfl (q := 12) rfl ?_
  refine x_get_X8_81_0 h hg kf_X8_15 nn_X8 dX8_fewest_12 ?_
  refine x_get_X7_0_0 h hg kf_X8_83 nn_X7 dX8_fewest_15 ?_
  refine x_icmp_gt (tgt := 78) h dX8_fewest_18 (by decide) (q := 21) rfl hf (fun hc1 hf2 => ?_) (fun hc1 hf2 => ?_)
  · skip
    refine x_bipush (v := (-9)) h dX8_fewest_78 (by decide) (q := 80) rfl ?_
    have hz := Option.some.inj hf2
    subst hz
    exact x_iret h hg hr dX8_fewest_80
  · skip
    refine x_iconst (v := 0) h dX8_fewest_21 (by decide) (q := 22) rfl ?_
    refine x_istore (lv' := [(4, .int 0), (0, .ref (gA g 81)), (1, .ref (gA g t1)), (2, .int x2), (3, .int x3)]) h dX8_fewest_22 hL (by decide) rfl (q := 24) rfl ?_
    refine x_sub (lv' := [(0, .ref (gA g 81)), (1, .ref (gA g t1)), (2, .int x2), (3, .int x3), (4, .int 0)]) [1, 2, 3, 4, 0] rfl ?_
    exact w_X8_fewest_l24 t1 x2 x3 ht1 o h hg hL hr k10 hk10  cFu (σ, 0) hf2
set_option maxHeartbeats 4000000 in
set_option maxRecDepth 100000 in
theorem w_X8_fewest_l10 {C : XC} {Q : State → Prop} {g : cG} (t1 : Nat) (x2 : Int32) (ht1 : isF t1 = true) (o : Int32 × St) (h : XOk C cX8_fewest RX8 tG rmX8_fewest) (hg : XG C g) (hL : C.2.2.2.2.2.2.2.2.2.2.2.2.1 = 5) (hr : XEnd C (some .int) Q (XQ g (some (.int o.1)) o.2) (cA g)) : ∀ (n : Nat) (z : St × Int32), loopF (fun k z => m_X8_fewest_b10 z.1 t1 x2 z.2 k) n z = some o → Xs C (wW g) Q z.1 10 [(0, .ref (gA g 81)), (1, .ref (gA g t1)), (2, .int x2), (3, .int z.2)] [] := by
  intro n z hf
  refine loopF_ind (S := St × Int32) (O := Int32 × St) (step := (fun k z => m_X8_fewest_b10 z.1 t1 x2 z.2 k)) (o := o) (P := fun z => Xs C (wW g) Q z.1 10 [(0, .ref (gA g 81)), (1, .ref (gA g t1)), (2, .int x2), (3, .int z.2)] []) ?_ n z hf
  intro k hk z hf
  exact w_X8_fewest_b10 z.1 t1 x2 z.2 ht1 o h hg hL hr k hk hf
def m_X8_fewest (σ : St) (t1 : Nat) (x2 : Int32) : Option (Int32 × St) :=
  (m_X3_look σ t1).bind fun u1 =>
  loopF (fun k z => m_X8_fewest_b10 z.1 t1 x2 z.2 k) cFu (u1, 0)
set_option maxHeartbeats 4000000 in
set_option maxRecDepth 100000 in
theorem w_X8_fewest {C : XC} {Q : State → Prop} {g : cG} (σ : St) (t1 : Nat) (x2 : Int32) (ht1 : isF t1 = true) (o : Int32 × St) (h : XOk C cX8_fewest RX8 tG rmX8_fewest) (hg : XG C g) (hL : C.2.2.2.2.2.2.2.2.2.2.2.2.1 = 5) (hr : XEnd C (some .int) Q (XQ g (some (.int o.1)) o.2) (cA g)) (hf : m_X8_fewest σ t1 x2 = some o) : Xs C (wW g) Q σ 0 [(0, .ref (gA g 81)), (1, .ref (gA g t1)), (2, .int x2)] [] := by
  unfold m_X8_fewest at hf
  refine x_aload_n h dX8_fewest_0 rfl 0 rfl (q := 1) rfl ?_
  refine x_get_X8_81_2 h hg kf_X8_23 nn_X8 dX8_fewest_1 ?_
  refine x_aload_n h dX8_fewest_4 rfl 1 rfl (q := 5) rfl ?_
  obtain ⟨u1, hu1, hf2⟩ := bnd_inv hf
  refine x_callVv (As := [.ref (gA g t1)]) (rest := []) h hg (c_X3_look C.2.1 hg.2.1 σ t1 ht1 _ hu1) ml_X8_27 biX3_look rfl rfl hdX3_look ⟨Nat.le_of_ble_eq_true rfl, Nat.le_of_ble_eq_true rfl⟩ (by decide) (cE_78 g _) rfl rfl rfl (Nat.le_of_ble_eq_true rfl) dX8_fewest_5 ?_
  refine x_iconst (v := 0) h dX8_fewest_8 (by decide) (q := 9) rfl ?_
  refine x_istore_n (lv' := [(3, .int 0), (0, .ref (gA g 81)), (1, .ref (gA g t1)), (2, .int x2)]) h dX8_fewest_9 rfl hL (by decide) rfl (q := 10) rfl ?_
  refine x_sub (lv' := [(0, .ref (gA g 81)), (1, .ref (gA g t1)), (2, .int x2), (3, .int 0)]) [1, 2, 3, 0] rfl ?_
  exact w_X8_fewest_l10 t1 x2 ht1 o h hg hL hr  cFu (u1, 0) hf2
theorem c_X8_fewest (l : Launch) {g : cG} (hi : gInj g) (σ : St) (t1 : Nat) (x2 : Int32) (ht1 : isF t1 = true) (o : Int32 × St) (hf : m_X8_fewest σ t1 x2 = some o) : Met l yX8_fewest (wT yX8_fewest cX8_fewest 5 (some .int)) rmX8_fewest (va_Pc [.ref (gA g 81), .ref (gA g t1), .int x2] (XPre g σ)) (XQ g (some (.int o.1)) o.2) 0 0 (cA g) :=
  X_met RX8 hi plX8 rfl (Nat.le_of_ble_eq_true rfl) rfl (fun _ _ _ h hg hL hr => w_X8_fewest σ t1 x2 ht1 o h hg hL hr hf)
