abbrev rmX2_classNumber : Room := { frames := 1, cells := 0, slots := 0, locals := 21 }
theorem hdX2_classNumber : yX2_classNumber.cls = RX2 ∧ yX2_classNumber.cls ≠ "java/lang/invoke/MethodHandle" ∧ yX2_classNumber.cls ≠ "java/lang/invoke/VarHandle" ∧ (parseMethodDescriptor yX2_classNumber.desc).map (fun d => d.parameters.length) = some 1 := by decide +kernel
def m_X2_classNumber (σ : St) (x1 : Int32) : Int32 :=
  (rAt 12 (σ 83) x1)
set_option maxHeartbeats 4000000 in
set_option maxRecDepth 100000 in
theorem w_X2_classNumber {C : XC} {Q : State → Prop} {g : cG} (σ : St) (x1 : Int32) (o : Int32) (h : XOk C cX2_classNumber RX2 tG rmX2_classNumber) (hg : XG C g) (hL : C.2.2.2.2.2.2.2.2.2.2.2.2.1 = 2) (hr : XEnd C (some .int) Q (XQ g (some (.int o)) σ) (cA g)) (hf : m_X2_classNumber σ x1 = o) : Xs C (wW g) Q σ 0 [(0, .ref (gA g 82)), (1, .int x1)] [] := by
  unfold m_X2_classNumber at hf
  refine x_aload_n h dX2_classNumber_0 rfl 0 rfl (q := 1) rfl ?_
  refine x_get_X2_82_2 h hg kf_X2_9 nn_X2 dX2_classNumber_1 ?_
  refine x_iload_n h dX2_classNumber_4 rfl 1 rfl (q := 5) rfl ?_
  refine x_callSi (As := [.ref (gA g 83), .int x1]) (rest := []) h hg (c_X5_at C.2.1 hg.2.1 σ a_83 x1) ml_X2_32 biX5_at rfl rfl hdX5_at ⟨Nat.le_of_ble_eq_true rfl, Nat.le_of_ble_eq_true rfl⟩ rfl rfl (Nat.le_of_ble_eq_true rfl) dX2_classNumber_5 ?_
  subst hf
  exact x_iret h hg hr dX2_classNumber_8
theorem c_X2_classNumber (l : Launch) {g : cG} (hi : gInj g) (σ : St) (x1 : Int32) (o : Int32) (hf : m_X2_classNumber σ x1 = o) : Met l yX2_classNumber (wT yX2_classNumber cX2_classNumber 2 (some .int)) rmX2_classNumber (va_Pc [.ref (gA g 82), .int x1] (XPre g σ)) (XQ g (some (.int o)) σ) 0 0 (cA g) :=
  X_met RX2 hi plX2 rfl (Nat.le_of_ble_eq_true rfl) rfl (fun _ _ _ h hg hL hr => w_X2_classNumber σ x1 o h hg hL hr hf)
abbrev rmX2_hasWithin : Room := { frames := 1, cells := 0, slots := 0, locals := 21 }
theorem hdX2_hasWithin : yX2_hasWithin.cls = RX2 ∧ yX2_hasWithin.cls ≠ "java/lang/invoke/MethodHandle" ∧ yX2_hasWithin.cls ≠ "java/lang/invoke/VarHandle" ∧ (parseMethodDescriptor yX2_hasWithin.desc).map (fun d => d.parameters.length) = some 2 := by decide +kernel
def m_X2_hasWithin_b2 (σ : St) (t1 : Nat) (x2 : Int32) (x3 : Int32) (k2 : Int32 → Option (Bool)) : Option (Bool) :=
  if (σ 0 2) ≤ x3 then (
    some false
  ) else (
    if (bI (m_X6_isForced (rAt 81 (σ t1) x3) x2)) = 0 then (
      k2 (x3 + 1)
    ) else (
      some true
    )
  )
set_option maxHeartbeats 4000000 in
set_option maxRecDepth 100000 in
theorem w_X2_hasWithin_b2 {C : XC} {Q : State → Prop} {g : cG} (σ : St) (t1 : Nat) (x2 : Int32) (x3 : Int32) (ht1 : isA t1 81) (o : Bool) (h : XOk C cX2_hasWithin RX2 tG rmX2_hasWithin) (hg : XG C g) (hL : C.2.2.2.2.2.2.2.2.2.2.2.2.1 = 4) (hr : XEnd C (some .boolean) Q (XQ g (some (.int (bI o))) σ) (cA g)) (k2 : Int32 → Option (Bool)) (hk2 : ∀ z : Int32, k2 z = some o → Xs C (wW g) Q σ 2 [(0, .ref (gA g 82)), (1, .ref (gA g t1)), (2, .int x2), (3, .int z)] []) (hf : m_X2_hasWithin_b2 σ t1 x2 x3 k2 = some o) : Xs C (wW g) Q σ 2 [(0, .ref (gA g 82)), (1, .ref (gA g t1)), (2, .int x2), (3, .int x3)] [] := by
  unfold m_X2_hasWithin_b2 at hf
  refine x_iload_n h dX2_hasWithin_2 rfl 3 rfl (q := 3) rfl ?_
  refine x_aload_n h dX2_hasWithin_3 rfl 0 rfl (q := 4) rfl ?_
  refine x_get_X2_82_0 h hg kf_X2_24 nn_X2 dX2_hasWithin_4 ?_
  refine x_get_X7_0_2 h hg kf_X2_89 nn_X7 dX2_hasWithin_7 ?_
  refine x_icmp_ge (tgt := 33) h dX2_hasWithin_10 (by decide) (q := 13) rfl hf (fun hc1 hf2 => ?_) (fun hc1 hf2 => ?_)
  · skip
    refine x_iconst (v := 0) h dX2_hasWithin_33 (by decide) (q := 34) rfl ?_
    have hz := Option.some.inj hf2
    subst hz
    exact x_zret (b := false) h hg hr dX2_hasWithin_34
  · skip
    refine x_aload_n h dX2_hasWithin_13 rfl 1 rfl (q := 14) rfl ?_
    refine x_iload_n h dX2_hasWithin_14 rfl 3 rfl (q := 15) rfl ?_
    refine x_callSi (As := [.ref (gA g t1), .int x3]) (rest := []) h hg (c_X5_at C.2.1 hg.2.1 σ ht1 x3) ml_X2_32 biX5_at rfl rfl hdX5_at ⟨Nat.le_of_ble_eq_true rfl, Nat.le_of_ble_eq_true rfl⟩ rfl rfl (Nat.le_of_ble_eq_true rfl) dX2_hasWithin_15 ?_
    refine x_iload_n h dX2_hasWithin_18 rfl 2 rfl (q := 19) rfl ?_
    refine x_callPi (As := [.int (rAt 81 (σ t1) x3), .int x2]) (rest := []) h (c_X6_isForced C.2.1 (rAt 81 (σ t1) x3) x2 _ rfl) ml_X2_96 biX6_isForced rfl rfl hdX6_isForced ⟨Nat.le_of_ble_eq_true rfl, Nat.le_of_ble_eq_true rfl⟩ rfl rfl (Nat.le_of_ble_eq_true rfl) dX2_hasWithin_19 ?_
    refine x_if_eq (tgt := 27) h dX2_hasWithin_22 (by decide) (q := 25) rfl hf2 (fun hc3 hf4 => ?_) (fun hc3 hf4 => ?_)
    · skip
      refine x_iinc (v := (x3 + 1)) (lv' := [(3, .int (x3 + 1)), (0, .ref (gA g 82)), (1, .ref (gA g t1)), (2, .int x2)]) (j := 3) h dX2_hasWithin_27 rfl rfl hL (by decide) rfl (q := 30) rfl ?_
      refine x_goto (q := 2) h dX2_hasWithin_30 (by decide) ?_
      refine x_sub (lv' := [(0, .ref (gA g 82)), (1, .ref (gA g t1)), (2, .int x2), (3, .int (x3 + 1))]) [1, 2, 3, 0] rfl ?_
      exact hk2 (x3 + 1) hf4
    · skip
      refine x_iconst (v := 1) h dX2_hasWithin_25 (by decide) (q := 26) rfl ?_
      have hz := Option.some.inj hf4
      subst hz
      exact x_zret (b := true) h hg hr dX2_hasWithin_26
set_option maxHeartbeats 4000000 in
set_option maxRecDepth 100000 in
theorem w_X2_hasWithin_l2 {C : XC} {Q : State → Prop} {g : cG} (σ : St) (t1 : Nat) (x2 : Int32) (ht1 : isA t1 81) (o : Bool) (h : XOk C cX2_hasWithin RX2 tG rmX2_hasWithin) (hg : XG C g) (hL : C.2.2.2.2.2.2.2.2.2.2.2.2.1 = 4) (hr : XEnd C (some .boolean) Q (XQ g (some (.int (bI o))) σ) (cA g)) : ∀ (n : Nat) (z : Int32), loopF (fun k z => m_X2_hasWithin_b2 σ t1 x2 z k) n z = some o → Xs C (wW g) Q σ 2 [(0, .ref (gA g 82)), (1, .ref (gA g t1)), (2, .int x2), (3, .int z)] [] := by
  intro n z hf
  refine loopF_ind (S := Int32) (O := Bool) (step := (fun k z => m_X2_hasWithin_b2 σ t1 x2 z k)) (o := o) (P := fun z => Xs C (wW g) Q σ 2 [(0, .ref (gA g 82)), (1, .ref (gA g t1)), (2, .int x2), (3, .int z)] []) ?_ n z hf
  intro k hk z hf
  exact w_X2_hasWithin_b2 σ t1 x2 z ht1 o h hg hL hr k hk hf
def m_X2_hasWithin (σ : St) (t1 : Nat) (x2 : Int32) : Option (Bool) :=
  loopF (fun k z => m_X2_hasWithin_b2 σ t1 x2 z k) cFu 0
set_option maxHeartbeats 4000000 in
set_option maxRecDepth 100000 in
theorem w_X2_hasWithin {C : XC} {Q : State → Prop} {g : cG} (σ : St) (t1 : Nat) (x2 : Int32) (ht1 : isA t1 81) (o : Bool) (h : XOk C cX2_hasWithin RX2 tG rmX2_hasWithin) (hg : XG C g) (hL : C.2.2.2.2.2.2.2.2.2.2.2.2.1 = 4) (hr : XEnd C (some .boolean) Q (XQ g (some (.int (bI o))) σ) (cA g)) (hf : m_X2_hasWithin σ t1 x2 = some o) : Xs C (wW g) Q σ 0 [(0, .ref (gA g 82)), (1, .ref (gA g t1)), (2, .int x2)] [] := by
  unfold m_X2_hasWithin at hf
  refine x_iconst (v := 0) h dX2_hasWithin_0 (by decide) (q := 1) rfl ?_
  refine x_istore_n (lv' := [(3, .int 0), (0, .ref (gA g 82)), (1, .ref (gA g t1)), (2, .int x2)]) h dX2_hasWithin_1 rfl hL (by decide) rfl (q := 2) rfl ?_
  refine x_sub (lv' := [(0, .ref (gA g 82)), (1, .ref (gA g t1)), (2, .int x2), (3, .int 0)]) [1, 2, 3, 0] rfl ?_
  exact w_X2_hasWithin_l2 σ t1 x2 ht1 o h hg hL hr  cFu 0 hf
theorem c_X2_hasWithin (l : Launch) {g : cG} (hi : gInj g) (σ : St) (t1 : Nat) (x2 : Int32) (ht1 : isA t1 81) (o : Bool) (hf : m_X2_hasWithin σ t1 x2 = some o) : Met l yX2_hasWithin (wT yX2_hasWithin cX2_hasWithin 4 (some .boolean)) rmX2_hasWithin (va_Pc [.ref (gA g 82), .ref (gA g t1), .int x2] (XPre g σ)) (XQ g (some (.int (bI o))) σ) 0 0 (cA g) :=
  X_met RX2 hi plX2 rfl (Nat.le_of_ble_eq_true rfl) rfl (fun _ _ _ h hg hL hr => w_X2_hasWithin σ t1 x2 ht1 o h hg hL hr hf)
abbrev rmX2_answers : Room := { frames := 2, cells := 0, slots := 0, locals := 44 }
theorem hdX2_answers : yX2_answers.cls = RX2 ∧ yX2_answers.cls ≠ "java/lang/invoke/MethodHandle" ∧ yX2_answers.cls ≠ "java/lang/invoke/VarHandle" ∧ (parseMethodDescriptor yX2_answers.desc).map (fun d => d.parameters.length) = some 2 := by decide +kernel
def m_X2_answers_b2 (σ : St) (t1 : Nat) (t2 : Nat) (x3 : Int32) (k2 : Int32 → Option (Bool)) : Option (Bool) :=
  if (σ 0 2) ≤ x3 then (
    some true
  ) else (
    if (rAt 81 (σ t1) x3) = 0 then (
      k2 (x3 + 1)
    ) else (
      (m_X2_hasWithin σ t2 (rAt 81 (σ t1) x3)).bind fun u5 =>
      if (bI u5) = 0 then (
        some false
      ) else (
        k2 (x3 + 1)
      )
    )
  )
set_option maxHeartbeats 4000000 in
set_option maxRecDepth 100000 in
theorem w_X2_answers_b2 {C : XC} {Q : State → Prop} {g : cG} (σ : St) (t1 : Nat) (t2 : Nat) (x3 : Int32) (ht1 : isA t1 81) (ht2 : isA t2 81) (o : Bool) (h : XOk C cX2_answers RX2 tG rmX2_answers) (hg : XG C g) (hL : C.2.2.2.2.2.2.2.2.2.2.2.2.1 = 5) (hr : XEnd C (some .boolean) Q (XQ g (some (.int (bI o))) σ) (cA g)) (k2 : Int32 → Option (Bool)) (hk2 : ∀ z : Int32, k2 z = some o → Xs C (wW g) Q σ 2 [(0, .ref (gA g 82)), (1, .ref (gA g t1)), (2, .ref (gA g t2)), (3, .int z)] []) (hf : m_X2_answers_b2 σ t1 t2 x3 k2 = some o) : Xs C (wW g) Q σ 2 [(0, .ref (gA g 82)), (1, .ref (gA g t1)), (2, .ref (gA g t2)), (3, .int x3)] [] := by
  unfold m_X2_answers_b2 at hf
  refine x_iload_n h dX2_answers_2 rfl 3 rfl (q := 3) rfl ?_
  refine x_aload_n h dX2_answers_3 rfl 0 rfl (q := 4) rfl ?_
  refine x_get_X2_82_0 h hg kf_X2_24 nn_X2 dX2_answers_4 ?_
  refine x_get_X7_0_2 h hg kf_X2_89 nn_X7 dX2_answers_7 ?_
  refine x_icmp_ge (tgt := 43) h dX2_answers_10 (by decide) (q := 13) rfl hf (fun hc1 hf2 => ?_) (fun hc1 hf2 => ?_)
  · skip
    refine x_iconst (v := 1) h dX2_answers_43 (by decide) (q := 44) rfl ?_
    have hz := Option.some.inj hf2
    subst hz
    exact x_zret (b := true) h hg hr dX2_answers_44
  · skip
    refine x_aload_n h dX2_answers_13 rfl 1 rfl (q := 14) rfl ?_
    refine x_iload_n h dX2_answers_14 rfl 3 rfl (q := 15) rfl ?_
    refine x_callSi (As := [.ref (gA g t1), .int x3]) (rest := []) h hg (c_X5_at C.2.1 hg.2.1 σ ht1 x3) ml_X2_32 biX5_at rfl rfl hdX5_at ⟨Nat.le_of_ble_eq_true rfl, Nat.le_of_ble_eq_true rfl⟩ rfl rfl (Nat.le_of_ble_eq_true rfl) dX2_answers_15 ?_
    refine x_istore (lv' := [(4, .int (rAt 81 (σ t1) x3)), (0, .ref (gA g 82)), (1, .ref (gA g t1)), (2, .ref (gA g t2)), (3, .int x3)]) h dX2_answers_18 hL (by decide) rfl (q := 20) rfl ?_
    refine x_iload h dX2_answers_20 0 rfl (q := 22) rfl ?_
    refine x_if_eq (tgt := 37) h dX2_answers_22 (by decide) (q := 25) rfl hf2 (fun hc3 hf4 => ?_) (fun hc3 hf4 => ?_)
    · skip
      refine x_iinc (v := (x3 + 1)) (lv' := [(3, .int (x3 + 1)), (4, .int (rAt 81 (σ t1) x3)), (0, .ref (gA g 82)), (1, .ref (gA g t1)), (2, .ref (gA g t2))]) (j := 4) h dX2_answers_37 rfl rfl hL (by decide) rfl (q := 40) rfl ?_
      refine x_goto (q := 2) h dX2_answers_40 (by decide) ?_
      refine x_sub (lv' := [(0, .ref (gA g 82)), (1, .ref (gA g t1)), (2, .ref (gA g t2)), (3, .int (x3 + 1))]) [2, 3, 4, 0] rfl ?_
      exact hk2 (x3 + 1) hf4
    · skip
      refine x_aload_n h dX2_answers_25 rfl 1 rfl (q := 26) rfl ?_
      refine x_aload_n h dX2_answers_26 rfl 3 rfl (q := 27) rfl ?_
      refine x_iload h dX2_answers_27 0 rfl (q := 29) rfl ?_
      obtain ⟨u5, hu5, hf6⟩ := bnd_inv hf4
      refine x_callVi (As := [.ref (gA g t2), .int (rAt 81 (σ t1) x3)]) (rest := []) h hg (c_X2_hasWithin C.2.1 hg.2.1 σ t2 (rAt 81 (σ t1) x3) ht2 _ hu5) ml_X2_92 biX2_hasWithin rfl rfl hdX2_hasWithin ⟨Nat.le_of_ble_eq_true rfl, Nat.le_of_ble_eq_true rfl⟩ (by decide) (cE_82 g _) rfl rfl rfl (Nat.le_of_ble_eq_true rfl) dX2_answers_29 ?_
      refine x_if_ne (tgt := 37) h dX2_answers_32 (by decide) (q := 35) rfl hf6 (fun hc7 hf8 => ?_) (fun hc7 hf8 => ?_)
      · skip
        refine x_iinc (v := (x3 + 1)) (lv' := [(3, .int (x3 + 1)), (4, .int (rAt 81 (σ t1) x3)), (0, .ref (gA g 82)), (1, .ref (gA g t1)), (2, .ref (gA g t2))]) (j := 4) h dX2_answers_37 rfl rfl hL (by decide) rfl (q := 40) rfl ?_
        refine x_goto (q := 2) h dX2_answers_40 (by decide) ?_
        refine x_sub (lv' := [(0, .ref (gA g 82)), (1, .ref (gA g t1)), (2, .ref (gA g t2)), (3, .int (x3 + 1))]) [2, 3, 4, 0] rfl ?_
        exact hk2 (x3 + 1) hf8
      · skip
        refine x_iconst (v := 0) h dX2_answers_35 (by decide) (q := 36) rfl ?_
        have hz := Option.some.inj hf8
        subst hz
        exact x_zret (b := false) h hg hr dX2_answers_36
set_option maxHeartbeats 4000000 in
set_option maxRecDepth 100000 in
theorem w_X2_answers_l2 {C : XC} {Q : State → Prop} {g : cG} (σ : St) (t1 : Nat) (t2 : Nat) (ht1 : isA t1 81) (ht2 : isA t2 81) (o : Bool) (h : XOk C cX2_answers RX2 tG rmX2_answers) (hg : XG C g) (hL : C.2.2.2.2.2.2.2.2.2.2.2.2.1 = 5) (hr : XEnd C (some .boolean) Q (XQ g (some (.int (bI o))) σ) (cA g)) : ∀ (n : Nat) (z : Int32), loopF (fun k z => m_X2_answers_b2 σ t1 t2 z k) n z = some o → Xs C (wW g) Q σ 2 [(0, .ref (gA g 82)), (1, .ref (gA g t1)), (2, .ref (gA g t2)), (3, .int z)] [] := by
  intro n z hf
  refine loopF_ind (S := Int32) (O := Bool) (step := (fun k z => m_X2_answers_b2 σ t1 t2 z k)) (o := o) (P := fun z => Xs C (wW g) Q σ 2 [(0, .ref (gA g 82)), (1, .ref (gA g t1)), (2, .ref (gA g t2)), (3, .int z)] []) ?_ n z hf
  intro k hk z hf
  exact w_X2_answers_b2 σ t1 t2 z ht1 ht2 o h hg hL hr k hk hf
def m_X2_answers (σ : St) (t1 : Nat) (t2 : Nat) : Option (Bool) :=
  loopF (fun k z => m_X2_answers_b2 σ t1 t2 z k) cFu 0
set_option maxHeartbeats 4000000 in
set_option maxRecDepth 100000 in
theorem w_X2_answers {C : XC} {Q : State → Prop} {g : cG} (σ : St) (t1 : Nat) (t2 : Nat) (ht1 : isA t1 81) (ht2 : isA t2 81) (o : Bool) (h : XOk C cX2_answers RX2 tG rmX2_answers) (hg : XG C g) (hL : C.2.2.2.2.2.2.2.2.2.2.2.2.1 = 5) (hr : XEnd C (some .boolean) Q (XQ g (some (.int (bI o))) σ) (cA g)) (hf : m_X2_answers σ t1 t2 = some o) : Xs C (wW g) Q σ 0 [(0, .ref (gA g 82)), (1, .ref (gA g t1)), (2, .ref (gA g t2))] [] := by
  unfold m_X2_answers at hf
  refine x_iconst (v := 0) h dX2_answers_0 (by decide) (q := 1) rfl ?_
  refine x_istore_n (lv' := [(3, .int 0), (0, .ref (gA g 82)), (1, .ref (gA g t1)), (2, .ref (gA g t2))]) h dX2_answers_1 rfl hL (by decide) rfl (q := 2) rfl ?_
  refine x_sub (lv' := [(0, .ref (gA g 82)), (1, .ref (gA g t1)), (2, .ref (gA g t2)), (3, .int 0)]) [1, 2, 3, 0] rfl ?_
  exact w_X2_answers_l2 σ t1 t2 ht1 ht2 o h hg hL hr  cFu 0 hf
theorem c_X2_answers (l : Launch) {g : cG} (hi : gInj g) (σ : St) (t1 : Nat) (t2 : Nat) (ht1 : isA t1 81) (ht2 : isA t2 81) (o : Bool) (hf : m_X2_answers σ t1 t2 = some o) : Met l yX2_answers (wT yX2_answers cX2_answers 5 (some .boolean)) rmX2_answers (va_Pc [.ref (gA g 82), .ref (gA g t1), .ref (gA g t2)] (XPre g σ)) (XQ g (some (.int (bI o))) σ) 0 0 (cA g) :=
  X_met RX2 hi plX2 rfl (Nat.le_of_ble_eq_true rfl) rfl (fun _ _ _ h hg hL hr => w_X2_answers σ t1 t2 ht1 ht2 o h hg hL hr hf)
abbrev rmX2_areAlike : Room := { frames := 3, cells := 0, slots := 0, locals := 68 }
theorem hdX2_areAlike : yX2_areAlike.cls = RX2 ∧ yX2_areAlike.cls ≠ "java/lang/invoke/MethodHandle" ∧ yX2_areAlike.cls ≠ "java/lang/invoke/VarHandle" ∧ (parseMethodDescriptor yX2_areAlike.desc).map (fun d => d.parameters.length) = some 2 := by decide +kernel
def m_X2_areAlike_b2 (σ : St) (x1 : Int32) (x2 : Int32) (x3 : Int32) (k2 : (St × Int32) → Option (Bool × St)) : Option (Bool × St) :=
  if (σ 0 1) ≤ x3 then (
    some (true, σ)
  ) else (
    (m_X6_spread σ 83 85 x3 x1).bind fun u3 =>
    (m_X6_spread u3 83 86 x3 x2).bind fun u5 =>
    (m_X2_answers u5 85 86).bind fun u7 =>
    if (bI u7) = 0 then (
      some (false, u5)
    ) else (
      (m_X2_answers u5 86 85).bind fun u11 =>
      if (bI u11) = 0 then (
        some (false, u5)
      ) else (
        k2 (u5, (x3 + 1))
      )
    )
  )
set_option maxHeartbeats 4000000 in
set_option maxRecDepth 100000 in
theorem w_X2_areAlike_b2 {C : XC} {Q : State → Prop} {g : cG} (σ : St) (x1 : Int32) (x2 : Int32) (x3 : Int32) (o : Bool × St) (h : XOk C cX2_areAlike RX2 tG rmX2_areAlike) (hg : XG C g) (hL : C.2.2.2.2.2.2.2.2.2.2.2.2.1 = 4) (hr : XEnd C (some .boolean) Q (XQ g (some (.int (bI o.1))) o.2) (cA g)) (k2 : (St × Int32) → Option (Bool × St)) (hk2 : ∀ z : St × Int32, k2 z = some o → Xs C (wW g) Q z.1 2 [(0, .ref (gA g 82)), (1, .int x1), (2, .int x2), (3, .int z.2)] []) (hf : m_X2_areAlike_b2 σ x1 x2 x3 k2 = some o) : Xs C (wW g) Q σ 2 [(0, .ref (gA g 82)), (1, .int x1), (2, .int x2), (3, .int x3)] [] := by
  unfold m_X2_areAlike_b2 at hf
  refine x_iload_n h dX2_areAlike_2 rfl 3 rfl (q := 3) rfl ?_
  refine x_aload_n h dX2_areAlike_3 rfl 0 rfl (q := 4) rfl ?_
  refine x_get_X2_82_0 h hg kf_X2_24 nn_X2 dX2_areAlike_4 ?_
  refine x_get_X7_0_1 h hg kf_X2_76 nn_X7 dX2_areAlike_7 ?_
  refine x_icmp_ge (tgt := 85) h dX2_areAlike_10 (by decide) (q := 13) rfl hf (fun hc1 hf2 => ?_) (fun hc1 hf2 => ?_)
  · skip
    refine x_iconst (v := 1) h dX2_areAlike_85 (by decide) (q := 86) rfl ?_
    have hz := Option.some.inj hf2
    subst hz
    exact x_zret (b := true) h hg hr dX2_areAlike_86
  · skip
    refine x_aload_n h dX2_areAlike_13 rfl 0 rfl (q := 14) rfl ?_
    refine x_get_X2_82_1 h hg kf_X2_28 nn_X2 dX2_areAlike_14 ?_
    refine x_iload_n h dX2_areAlike_17 rfl 3 rfl (q := 18) rfl ?_
    refine x_iload_n h dX2_areAlike_18 rfl 1 rfl (q := 19) rfl ?_
    refine x_aload_n h dX2_areAlike_19 rfl 0 rfl (q := 20) rfl ?_
    refine x_get_X2_82_2 h hg kf_X2_9 nn_X2 dX2_areAlike_20 ?_
    refine x_aload_n h dX2_areAlike_23 rfl 0 rfl (q := 24) rfl ?_
    refine x_get_X2_82_4 h hg kf_X2_18 nn_X2 dX2_areAlike_24 ?_
    obtain ⟨u3, hu3, hf4⟩ := bnd_inv hf2
    refine x_callVv (As := [.int x3, .int x1, .ref (gA g 83), .ref (gA g 85)]) (rest := []) h hg (c_X6_spread C.2.1 hg.2.1 σ 83 85 x3 x1 a_83 a_85 _ hu3) ml_X2_79 biX6_spread rfl rfl hdX6_spread ⟨Nat.le_of_ble_eq_true rfl, Nat.le_of_ble_eq_true rfl⟩ (by decide) (cE_69 g _) rfl rfl rfl (Nat.le_of_ble_eq_true rfl) dX2_areAlike_27 ?_
    refine x_aload_n h dX2_areAlike_30 rfl 0 rfl (q := 31) rfl ?_
    refine x_get_X2_82_1 h hg kf_X2_28 nn_X2 dX2_areAlike_31 ?_
    refine x_iload_n h dX2_areAlike_34 rfl 3 rfl (q := 35) rfl ?_
    refine x_iload_n h dX2_areAlike_35 rfl 2 rfl (q := 36) rfl ?_
    refine x_aload_n h dX2_areAlike_36 rfl 0 rfl (q := 37) rfl ?_
    refine x_get_X2_82_2 h hg kf_X2_9 nn_X2 dX2_areAlike_37 ?_
    refine x_aload_n h dX2_areAlike_40 rfl 0 rfl (q := 41) rfl ?_
    refine x_get_X2_82_5 h hg kf_X2_21 nn_X2 dX2_areAlike_41 ?_
    obtain ⟨u5, hu5, hf6⟩ := bnd_inv hf4
    refine x_callVv (As := [.int x3, .int x2, .ref (gA g 83), .ref (gA g 86)]) (rest := []) h hg (c_X6_spread C.2.1 hg.2.1 u3 83 86 x3 x2 a_83 a_86 _ hu5) ml_X2_79 biX6_spread rfl rfl hdX6_spread ⟨Nat.le_of_ble_eq_true rfl, Nat.le_of_ble_eq_true rfl⟩ (by decide) (cE_69 g _) rfl rfl rfl (Nat.le_of_ble_eq_true rfl) dX2_areAlike_44 ?_
    refine x_aload_n h dX2_areAlike_47 rfl 0 rfl (q := 48) rfl ?_
    refine x_aload_n h dX2_areAlike_48 rfl 0 rfl (q := 49) rfl ?_
    refine x_get_X2_82_4 h hg kf_X2_18 nn_X2 dX2_areAlike_49 ?_
    refine x_aload_n h dX2_areAlike_52 rfl 0 rfl (q := 53) rfl ?_
    refine x_get_X2_82_5 h hg kf_X2_21 nn_X2 dX2_areAlike_53 ?_
    obtain ⟨u7, hu7, hf8⟩ := bnd_inv hf6
    refine x_callVi (As := [.ref (gA g 85), .ref (gA g 86)]) (rest := []) h hg (c_X2_answers C.2.1 hg.2.1 u5 85 86 a_85 a_86 _ hu7) ml_X2_85 biX2_answers rfl rfl hdX2_answers ⟨Nat.le_of_ble_eq_true rfl, Nat.le_of_ble_eq_true rfl⟩ (by decide) (cE_82 g _) rfl rfl rfl (Nat.le_of_ble_eq_true rfl) dX2_areAlike_56 ?_
    refine x_if_eq (tgt := 77) h dX2_areAlike_59 (by decide) (q := 62) rfl hf8 (fun hc9 hf10 => ?_) (fun hc9 hf10 => ?_)
    · skip
      refine x_iconst (v := 0) h dX2_areAlike_77 (by decide) (q := 78) rfl ?_
      have hz := Option.some.inj hf10
      subst hz
      exact x_zret (b := false) h hg hr dX2_areAlike_78
    · skip
      refine x_aload_n h dX2_areAlike_62 rfl 0 rfl (q := 63) rfl ?_
      refine x_aload_n h dX2_areAlike_63 rfl 0 rfl (q := 64) rfl ?_
      refine x_get_X2_82_5 h hg kf_X2_21 nn_X2 dX2_areAlike_64 ?_
      refine x_aload_n h dX2_areAlike_67 rfl 0 rfl (q := 68) rfl ?_
      refine x_get_X2_82_4 h hg kf_X2_18 nn_X2 dX2_areAlike_68 ?_
      obtain ⟨u11, hu11, hf12⟩ := bnd_inv hf10
      refine x_callVi (As := [.ref (gA g 86), .ref (gA g 85)]) (rest := []) h hg (c_X2_answers C.2.1 hg.2.1 u5 86 85 a_86 a_85 _ hu11) ml_X2_85 biX2_answers rfl rfl hdX2_answers ⟨Nat.le_of_ble_eq_true rfl, Nat.le_of_ble_eq_true rfl⟩ (by decide) (cE_82 g _) rfl rfl rfl (Nat.le_of_ble_eq_true rfl) dX2_areAlike_71 ?_
      refine x_if_ne (tgt := 79) h dX2_areAlike_74 (by decide) (q := 77) rfl hf12 (fun hc13 hf14 => ?_) (fun hc13 hf14 => ?_)
      · skip
        refine x_iinc (v := (x3 + 1)) (lv' := [(3, .int (x3 + 1)), (0, .ref (gA g 82)), (1, .int x1), (2, .int x2)]) (j := 3) h dX2_areAlike_79 rfl rfl hL (by decide) rfl (q := 82) rfl ?_
        refine x_goto (q := 2) h dX2_areAlike_82 (by decide) ?_
        refine x_sub (lv' := [(0, .ref (gA g 82)), (1, .int x1), (2, .int x2), (3, .int (x3 + 1))]) [1, 2, 3, 0] rfl ?_
        exact hk2 (u5, (x3 + 1)) hf14
      · skip
        refine x_iconst (v := 0) h dX2_areAlike_77 (by decide) (q := 78) rfl ?_
        have hz := Option.some.inj hf14
        subst hz
        exact x_zret (b := false) h hg hr dX2_areAlike_78
set_option maxHeartbeats 4000000 in
set_option maxRecDepth 100000 in
theorem w_X2_areAlike_l2 {C : XC} {Q : State → Prop} {g : cG} (x1 : Int32) (x2 : Int32) (o : Bool × St) (h : XOk C cX2_areAlike RX2 tG rmX2_areAlike) (hg : XG C g) (hL : C.2.2.2.2.2.2.2.2.2.2.2.2.1 = 4) (hr : XEnd C (some .boolean) Q (XQ g (some (.int (bI o.1))) o.2) (cA g)) : ∀ (n : Nat) (z : St × Int32), loopF (fun k z => m_X2_areAlike_b2 z.1 x1 x2 z.2 k) n z = some o → Xs C (wW g) Q z.1 2 [(0, .ref (gA g 82)), (1, .int x1), (2, .int x2), (3, .int z.2)] [] := by
  intro n z hf
  refine loopF_ind (S := St × Int32) (O := Bool × St) (step := (fun k z => m_X2_areAlike_b2 z.1 x1 x2 z.2 k)) (o := o) (P := fun z => Xs C (wW g) Q z.1 2 [(0, .ref (gA g 82)), (1, .int x1), (2, .int x2), (3, .int z.2)] []) ?_ n z hf
  intro k hk z hf
  exact w_X2_areAlike_b2 z.1 x1 x2 z.2 o h hg hL hr k hk hf
def m_X2_areAlike (σ : St) (x1 : Int32) (x2 : Int32) : Option (Bool × St) :=
  loopF (fun k z => m_X2_areAlike_b2 z.1 x1 x2 z.2 k) cFu (σ, 0)
set_option maxHeartbeats 4000000 in
set_option maxRecDepth 100000 in
theorem w_X2_areAlike {C : XC} {Q : State → Prop} {g : cG} (σ : St) (x1 : Int32) (x2 : Int32) (o : Bool × St) (h : XOk C cX2_areAlike RX2 tG rmX2_areAlike) (hg : XG C g) (hL : C.2.2.2.2.2.2.2.2.2.2.2.2.1 = 4) (hr : XEnd C (some .boolean) Q (XQ g (some (.int (bI o.1))) o.2) (cA g)) (hf : m_X2_areAlike σ x1 x2 = some o) : Xs C (wW g) Q σ 0 [(0, .ref (gA g 82)), (1, .int x1), (2, .int x2)] [] := by
  unfold m_X2_areAlike at hf
  refine x_iconst (v := 0) h dX2_areAlike_0 (by decide) (q := 1) rfl ?_
  refine x_istore_n (lv' := [(3, .int 0), (0, .ref (gA g 82)), (1, .int x1), (2, .int x2)]) h dX2_areAlike_1 rfl hL (by decide) rfl (q := 2) rfl ?_
  refine x_sub (lv' := [(0, .ref (gA g 82)), (1, .int x1), (2, .int x2), (3, .int 0)]) [1, 2, 3, 0] rfl ?_
  exact w_X2_areAlike_l2 x1 x2 o h hg hL hr  cFu (σ, 0) hf
theorem c_X2_areAlike (l : Launch) {g : cG} (hi : gInj g) (σ : St) (x1 : Int32) (x2 : Int32) (o : Bool × St) (hf : m_X2_areAlike σ x1 x2 = some o) : Met l yX2_areAlike (wT yX2_areAlike cX2_areAlike 4 (some .boolean)) rmX2_areAlike (va_Pc [.ref (gA g 82), .int x1, .int x2] (XPre g σ)) (XQ g (some (.int (bI o.1))) o.2) 0 0 (cA g) :=
  X_met RX2 hi plX2 rfl (Nat.le_of_ble_eq_true rfl) rfl (fun _ _ _ h hg hL hr => w_X2_areAlike σ x1 x2 o h hg hL hr hf)
abbrev rmX2_firstLike : Room := { frames := 4, cells := 0, slots := 0, locals := 91 }
theorem hdX2_firstLike : yX2_firstLike.cls = RX2 ∧ yX2_firstLike.cls ≠ "java/lang/invoke/MethodHandle" ∧ yX2_firstLike.cls ≠ "java/lang/invoke/VarHandle" ∧ (parseMethodDescriptor yX2_firstLike.desc).map (fun d => d.parameters.length) = some 1 := by decide +kernel
def m_X2_firstLike_b2 (σ : St) (x1 : Int32) (x2 : Int32) (k2 : (St × Int32) → Option (Int32 × St)) : Option (Int32 × St) :=
  if x1 ≤ x2 then (
    some (x1, σ)
  ) else (
    if (m_X2_classNumber σ x2) = (m_X2_classNumber σ x1) then (
      if (m_X7_labelSet σ x2) = (m_X7_labelSet σ x1) then (
        (m_X2_areAlike σ x2 x1).bind fun u7 =>
        if (bI u7.1) = 0 then (
          k2 (u7.2, (x2 + 1))
        ) else (
          some (x2, u7.2)
        )
      ) else (
        k2 (σ, (x2 + 1))
      )
    ) else (
      k2 (σ, (x2 + 1))
    )
  )
set_option maxHeartbeats 4000000 in
set_option maxRecDepth 100000 in
theorem w_X2_firstLike_b2 {C : XC} {Q : State → Prop} {g : cG} (σ : St) (x1 : Int32) (x2 : Int32) (o : Int32 × St) (h : XOk C cX2_firstLike RX2 tG rmX2_firstLike) (hg : XG C g) (hL : C.2.2.2.2.2.2.2.2.2.2.2.2.1 = 3) (hr : XEnd C (some .int) Q (XQ g (some (.int o.1)) o.2) (cA g)) (k2 : (St × Int32) → Option (Int32 × St)) (hk2 : ∀ z : St × Int32, k2 z = some o → Xs C (wW g) Q z.1 2 [(0, .ref (gA g 82)), (1, .int x1), (2, .int z.2)] []) (hf : m_X2_firstLike_b2 σ x1 x2 k2 = some o) : Xs C (wW g) Q σ 2 [(0, .ref (gA g 82)), (1, .int x1), (2, .int x2)] [] := by
  unfold m_X2_firstLike_b2 at hf
  refine x_iload_n h dX2_firstLike_2 rfl 2 rfl (q := 3) rfl ?_
  refine x_iload_n h dX2_firstLike_3 rfl 1 rfl (q := 4) rfl ?_
  refine x_icmp_ge (tgt := 56) h dX2_firstLike_4 (by decide) (q := 7) rfl hf (fun hc1 hf2 => ?_) (fun hc1 hf2 => ?_)
  · skip
    refine x_iload_n h dX2_firstLike_56 rfl 1 rfl (q := 57) rfl ?_
    have hz := Option.some.inj hf2
    subst hz
    exact x_iret h hg hr dX2_firstLike_57
  · skip
    refine x_aload_n h dX2_firstLike_7 rfl 0 rfl (q := 8) rfl ?_
    refine x_iload_n h dX2_firstLike_8 rfl 2 rfl (q := 9) rfl ?_
    refine x_callVi (As := [.int x2]) (rest := []) h hg (c_X2_classNumber C.2.1 hg.2.1 σ x2 _ rfl) ml_X2_66 biX2_classNumber rfl rfl hdX2_classNumber ⟨Nat.le_of_ble_eq_true rfl, Nat.le_of_ble_eq_true rfl⟩ (by decide) (cE_82 g _) rfl rfl rfl (Nat.le_of_ble_eq_true rfl) dX2_firstLike_9 ?_
    refine x_aload_n h dX2_firstLike_12 rfl 0 rfl (q := 13) rfl ?_
    refine x_iload_n h dX2_firstLike_13 rfl 1 rfl (q := 14) rfl ?_
    refine x_callVi (As := [.int x1]) (rest := [.int (m_X2_classNumber σ x2)]) h hg (c_X2_classNumber C.2.1 hg.2.1 σ x1 _ rfl) ml_X2_66 biX2_classNumber rfl rfl hdX2_classNumber ⟨Nat.le_of_ble_eq_true rfl, Nat.le_of_ble_eq_true rfl⟩ (by decide) (cE_82 g _) rfl rfl rfl (Nat.le_of_ble_eq_true rfl) dX2_firstLike_14 ?_
    refine x_icmp_ne (tgt := 50) h dX2_firstLike_17 (by decide) (q := 20) rfl hf2 (fun hc3 hf4 => ?_) (fun hc3 hf4 => ?_)
    · skip
      refine x_iinc (v := (x2 + 1)) (lv' := [(2, .int (x2 + 1)), (0, .ref (gA g 82)), (1, .int x1)]) (j := 2) h dX2_firstLike_50 rfl rfl hL (by decide) rfl (q := 53) rfl ?_
      refine x_goto (q := 2) h dX2_firstLike_53 (by decide) ?_
      refine x_sub (lv' := [(0, .ref (gA g 82)), (1, .int x1), (2, .int (x2 + 1))]) [1, 2, 0] rfl ?_
      exact hk2 (σ, (x2 + 1)) hf4
    · skip
      refine x_aload_n h dX2_firstLike_20 rfl 0 rfl (q := 21) rfl ?_
      refine x_get_X2_82_0 h hg kf_X2_24 nn_X2 dX2_firstLike_21 ?_
      refine x_iload_n h dX2_firstLike_24 rfl 2 rfl (q := 25) rfl ?_
      refine x_callVi (As := [.int x2]) (rest := []) h hg (c_X7_labelSet C.2.1 hg.2.1 σ x2 _ rfl) ml_X2_69 biX7_labelSet rfl rfl hdX7_labelSet ⟨Nat.le_of_ble_eq_true rfl, Nat.le_of_ble_eq_true rfl⟩ (by decide) (cE_0 g _) rfl rfl rfl (Nat.le_of_ble_eq_true rfl) dX2_firstLike_25 ?_
      refine x_aload_n h dX2_firstLike_28 rfl 0 rfl (q := 29) rfl ?_
      refine x_get_X2_82_0 h hg kf_X2_24 nn_X2 dX2_firstLike_29 ?_
      refine x_iload_n h dX2_firstLike_32 rfl 1 rfl (q := 33) rfl ?_
      refine x_callVi (As := [.int x1]) (rest := [.int (m_X7_labelSet σ x2)]) h hg (c_X7_labelSet C.2.1 hg.2.1 σ x1 _ rfl) ml_X2_69 biX7_labelSet rfl rfl hdX7_labelSet ⟨Nat.le_of_ble_eq_true rfl, Nat.le_of_ble_eq_true rfl⟩ (by decide) (cE_0 g _) rfl rfl rfl (Nat.le_of_ble_eq_true rfl) dX2_firstLike_33 ?_
      refine x_icmp_ne (tgt := 50) h dX2_firstLike_36 (by decide) (q := 39) rfl hf4 (fun hc5 hf6 => ?_) (fun hc5 hf6 => ?_)
      · skip
        refine x_iinc (v := (x2 + 1)) (lv' := [(2, .int (x2 + 1)), (0, .ref (gA g 82)), (1, .int x1)]) (j := 2) h dX2_firstLike_50 rfl rfl hL (by decide) rfl (q := 53) rfl ?_
        refine x_goto (q := 2) h dX2_firstLike_53 (by decide) ?_
        refine x_sub (lv' := [(0, .ref (gA g 82)), (1, .int x1), (2, .int (x2 + 1))]) [1, 2, 0] rfl ?_
        exact hk2 (σ, (x2 + 1)) hf6
      · skip
        refine x_aload_n h dX2_firstLike_39 rfl 0 rfl (q := 40) rfl ?_
        refine x_iload_n h dX2_firstLike_40 rfl 2 rfl (q := 41) rfl ?_
        refine x_iload_n h dX2_firstLike_41 rfl 1 rfl (q := 42) rfl ?_
        obtain ⟨u7, hu7, hf8⟩ := bnd_inv hf6
        refine x_callVi (As := [.int x2, .int x1]) (rest := []) h hg (c_X2_areAlike C.2.1 hg.2.1 σ x2 x1 _ hu7) ml_X2_72 biX2_areAlike rfl rfl hdX2_areAlike ⟨Nat.le_of_ble_eq_true rfl, Nat.le_of_ble_eq_true rfl⟩ (by decide) (cE_82 g _) rfl rfl rfl (Nat.le_of_ble_eq_true rfl) dX2_firstLike_42 ?_
        refine x_if_eq (tgt := 50) h dX2_firstLike_45 (by decide) (q := 48) rfl hf8 (fun hc9 hf10 => ?_) (fun hc9 hf10 => ?_)
        · skip
          refine x_iinc (v := (x2 + 1)) (lv' := [(2, .int (x2 + 1)), (0, .ref (gA g 82)), (1, .int x1)]) (j := 2) h dX2_firstLike_50 rfl rfl hL (by decide) rfl (q := 53) rfl ?_
          refine x_goto (q := 2) h dX2_firstLike_53 (by decide) ?_
          refine x_sub (lv' := [(0, .ref (gA g 82)), (1, .int x1), (2, .int (x2 + 1))]) [1, 2, 0] rfl ?_
          exact hk2 (u7.2, (x2 + 1)) hf10
        · skip
          refine x_iload_n h dX2_firstLike_48 rfl 2 rfl (q := 49) rfl ?_
          have hz := Option.some.inj hf10
          subst hz
          exact x_iret h hg hr dX2_firstLike_49
set_option maxHeartbeats 4000000 in
set_option maxRecDepth 100000 in
theorem w_X2_firstLike_l2 {C : XC} {Q : State → Prop} {g : cG} (x1 : Int32) (o : Int32 × St) (h : XOk C cX2_firstLike RX2 tG rmX2_firstLike) (hg : XG C g) (hL : C.2.2.2.2.2.2.2.2.2.2.2.2.1 = 3) (hr : XEnd C (some .int) Q (XQ g (some (.int o.1)) o.2) (cA g)) : ∀ (n : Nat) (z : St × Int32), loopF (fun k z => m_X2_firstLike_b2 z.1 x1 z.2 k) n z = some o → Xs C (wW g) Q z.1 2 [(0, .ref (gA g 82)), (1, .int x1), (2, .int z.2)] [] := by
  intro n z hf
  refine loopF_ind (S := St × Int32) (O := Int32 × St) (step := (fun k z => m_X2_firstLike_b2 z.1 x1 z.2 k)) (o := o) (P := fun z => Xs C (wW g) Q z.1 2 [(0, .ref (gA g 82)), (1, .int x1), (2, .int z.2)] []) ?_ n z hf
  intro k hk z hf
  exact w_X2_firstLike_b2 z.1 x1 z.2 o h hg hL hr k hk hf
def m_X2_firstLike (σ : St) (x1 : Int32) : Option (Int32 × St) :=
  loopF (fun k z => m_X2_firstLike_b2 z.1 x1 z.2 k) cFu (σ, 0)
set_option maxHeartbeats 4000000 in
set_option maxRecDepth 100000 in
theorem w_X2_firstLike {C : XC} {Q : State → Prop} {g : cG} (σ : St) (x1 : Int32) (o : Int32 × St) (h : XOk C cX2_firstLike RX2 tG rmX2_firstLike) (hg : XG C g) (hL : C.2.2.2.2.2.2.2.2.2.2.2.2.1 = 3) (hr : XEnd C (some .int) Q (XQ g (some (.int o.1)) o.2) (cA g)) (hf : m_X2_firstLike σ x1 = some o) : Xs C (wW g) Q σ 0 [(0, .ref (gA g 82)), (1, .int x1)] [] := by
  unfold m_X2_firstLike at hf
  refine x_iconst (v := 0) h dX2_firstLike_0 (by decide) (q := 1) rfl ?_
  refine x_istore_n (lv' := [(2, .int 0), (0, .ref (gA g 82)), (1, .int x1)]) h dX2_firstLike_1 rfl hL (by decide) rfl (q := 2) rfl ?_
  refine x_sub (lv' := [(0, .ref (gA g 82)), (1, .int x1), (2, .int 0)]) [1, 2, 0] rfl ?_
  exact w_X2_firstLike_l2 x1 o h hg hL hr  cFu (σ, 0) hf
theorem c_X2_firstLike (l : Launch) {g : cG} (hi : gInj g) (σ : St) (x1 : Int32) (o : Int32 × St) (hf : m_X2_firstLike σ x1 = some o) : Met l yX2_firstLike (wT yX2_firstLike cX2_firstLike 3 (some .int)) rmX2_firstLike (va_Pc [.ref (gA g 82), .int x1] (XPre g σ)) (XQ g (some (.int o.1)) o.2) 0 0 (cA g) :=
  X_met RX2 hi plX2 rfl (Nat.le_of_ble_eq_true rfl) rfl (fun _ _ _ h hg hL hr => w_X2_firstLike σ x1 o h hg hL hr hf)
abbrev rmX2_refine : Room := { frames := 5, cells := 0, slots := 0, locals := 113 }
theorem hdX2_refine : yX2_refine.cls = RX2 ∧ yX2_refine.cls ≠ "java/lang/invoke/MethodHandle" ∧ yX2_refine.cls ≠ "java/lang/invoke/VarHandle" ∧ (parseMethodDescriptor yX2_refine.desc).map (fun d => d.parameters.length) = some 0 := by decide +kernel
def m_X2_refine_b4 (σ : St) (x1 : Int32) (x2 : Int32) (k4 : (St × Int32 × Int32) → Option (Int32 × St)) : Option (Int32 × St) :=
  if (σ 0 7) ≤ x2 then (
    some (x1, σ)
  ) else (
    (m_X2_firstLike σ x2).bind fun u3 =>
    if x2 ≤ u3.1 then (
      k4 ((rPut u3.2 84 12 x2 x1), (x1 + 1), (x2 + 1))
    ) else (
      k4 ((rPut u3.2 84 12 x2 (rAt 12 (u3.2 84) u3.1)), x1, (x2 + 1))
    )
  )
set_option maxHeartbeats 4000000 in
set_option maxRecDepth 100000 in
theorem w_X2_refine_b4 {C : XC} {Q : State → Prop} {g : cG} (σ : St) (x1 : Int32) (x2 : Int32) (o : Int32 × St) (h : XOk C cX2_refine RX2 tG rmX2_refine) (hg : XG C g) (hL : C.2.2.2.2.2.2.2.2.2.2.2.2.1 = 4) (hr : XEnd C (some .int) Q (XQ g (some (.int o.1)) o.2) (cA g)) (k4 : (St × Int32 × Int32) → Option (Int32 × St)) (hk4 : ∀ z : St × Int32 × Int32, k4 z = some o → Xs C (wW g) Q z.1 4 [(0, .ref (gA g 82)), (1, .int z.2.1), (2, .int z.2.2)] []) (hf : m_X2_refine_b4 σ x1 x2 k4 = some o) : Xs C (wW g) Q σ 4 [(0, .ref (gA g 82)), (1, .int x1), (2, .int x2)] [] := by
  unfold m_X2_refine_b4 at hf
  refine x_iload_n h dX2_refine_4 rfl 2 rfl (q := 5) rfl ?_
  refine x_aload_n h dX2_refine_5 rfl 0 rfl (q := 6) rfl ?_
  refine x_get_X2_82_0 h hg kf_X2_24 nn_X2 dX2_refine_6 ?_
  refine x_get_X7_0_7 h hg kf_X2_42 nn_X7 dX2_refine_9 ?_
  refine x_icmp_ge (tgt := 63) h dX2_refine_12 (by decide) (q := 15) rfl hf (fun hc1 hf2 => ?_) (fun hc1 hf2 => ?_)
  · skip
    refine x_iload_n h dX2_refine_63 rfl 1 rfl (q := 64) rfl ?_
    have hz := Option.some.inj hf2
    subst hz
    exact x_iret h hg hr dX2_refine_64
  · skip
    refine x_aload_n h dX2_refine_15 rfl 0 rfl (q := 16) rfl ?_
    refine x_iload_n h dX2_refine_16 rfl 2 rfl (q := 17) rfl ?_
    obtain ⟨u3, hu3, hf4⟩ := bnd_inv hf2
    refine x_callVi (As := [.int x2]) (rest := []) h hg (c_X2_firstLike C.2.1 hg.2.1 σ x2 _ hu3) ml_X2_62 biX2_firstLike rfl rfl hdX2_firstLike ⟨Nat.le_of_ble_eq_true rfl, Nat.le_of_ble_eq_true rfl⟩ (by decide) (cE_82 g _) rfl rfl rfl (Nat.le_of_ble_eq_true rfl) dX2_refine_17 ?_
    refine x_istore_n (lv' := [(3, .int u3.1), (0, .ref (gA g 82)), (1, .int x1), (2, .int x2)]) h dX2_refine_20 rfl hL (by decide) rfl (q := 21) rfl ?_
    refine x_iload_n h dX2_refine_21 rfl 0 rfl (q := 22) rfl ?_
    refine x_iload_n h dX2_refine_22 rfl 3 rfl (q := 23) rfl ?_
    refine x_icmp_ge (tgt := 45) h dX2_refine_23 (by decide) (q := 26) rfl hf4 (fun hc5 hf6 => ?_) (fun hc5 hf6 => ?_)
    · skip
      refine x_aload_n h dX2_refine_45 rfl 1 rfl (q := 46) rfl ?_
      refine x_get_X2_82_3 h hg kf_X2_15 nn_X2 dX2_refine_46 ?_
      refine x_iload_n h dX2_refine_49 rfl 3 rfl (q := 50) rfl ?_
      refine x_iload_n h dX2_refine_50 rfl 2 rfl (q := 51) rfl ?_
      refine x_callSv (As := [.ref (gA g 84), .int x2, .int x1]) (rest := []) h hg (c_X5_put C.2.1 hg.2.1 u3.2 a_84 x2 x1) ml_X2_38 biX5_put rfl rfl hdX5_put ⟨Nat.le_of_ble_eq_true rfl, Nat.le_of_ble_eq_true rfl⟩ rfl rfl (Nat.le_of_ble_eq_true rfl) dX2_refine_51 ?_
      refine x_iinc (v := (x1 + 1)) (lv' := [(1, .int (x1 + 1)), (3, .int u3.1), (0, .ref (gA g 82)), (2, .int x2)]) (j := 2) h dX2_refine_54 rfl rfl hL (by decide) rfl (q := 57) rfl ?_
      refine x_iinc (v := (x2 + 1)) (lv' := [(2, .int (x2 + 1)), (1, .int (x1 + 1)), (3, .int u3.1), (0, .ref (gA g 82))]) (j := 3) h dX2_refine_57 rfl rfl hL (by decide) rfl (q := 60) rfl ?_
      refine x_goto (q := 4) h dX2_refine_60 (by decide) ?_
      refine x_sub (lv' := [(0, .ref (gA g 82)), (1, .int (x1 + 1)), (2, .int (x2 + 1))]) [3, 1, 0] rfl ?_
      exact hk4 ((rPut u3.2 84 12 x2 x1), (x1 + 1), (x2 + 1)) hf6
    · skip
      refine x_aload_n h dX2_refine_26 rfl 1 rfl (q := 27) rfl ?_
      refine x_get_X2_82_3 h hg kf_X2_15 nn_X2 dX2_refine_27 ?_
      refine x_iload_n h dX2_refine_30 rfl 3 rfl (q := 31) rfl ?_
      refine x_aload_n h dX2_refine_31 rfl 1 rfl (q := 32) rfl ?_
      refine x_get_X2_82_3 h hg kf_X2_15 nn_X2 dX2_refine_32 ?_
      refine x_iload_n h dX2_refine_35 rfl 0 rfl (q := 36) rfl ?_
      refine x_callSi (As := [.ref (gA g 84), .int u3.1]) (rest := [.int x2, .ref (gA g 84)]) h hg (c_X5_at C.2.1 hg.2.1 u3.2 a_84 u3.1) ml_X2_32 biX5_at rfl rfl hdX5_at ⟨Nat.le_of_ble_eq_true rfl, Nat.le_of_ble_eq_true rfl⟩ rfl rfl (Nat.le_of_ble_eq_true rfl) dX2_refine_36 ?_
      refine x_callSv (As := [.ref (gA g 84), .int x2, .int (rAt 12 (u3.2 84) u3.1)]) (rest := []) h hg (c_X5_put C.2.1 hg.2.1 u3.2 a_84 x2 (rAt 12 (u3.2 84) u3.1)) ml_X2_38 biX5_put rfl rfl hdX5_put ⟨Nat.le_of_ble_eq_true rfl, Nat.le_of_ble_eq_true rfl⟩ rfl rfl (Nat.le_of_ble_eq_true rfl) dX2_refine_39 ?_
      refine x_goto (q := 57) h dX2_refine_42 (by decide) ?_
      refine x_iinc (v := (x2 + 1)) (lv' := [(2, .int (x2 + 1)), (3, .int u3.1), (0, .ref (gA g 82)), (1, .int x1)]) (j := 3) h dX2_refine_57 rfl rfl hL (by decide) rfl (q := 60) rfl ?_
      refine x_goto (q := 4) h dX2_refine_60 (by decide) ?_
      refine x_sub (lv' := [(0, .ref (gA g 82)), (1, .int x1), (2, .int (x2 + 1))]) [2, 3, 0] rfl ?_
      exact hk4 ((rPut u3.2 84 12 x2 (rAt 12 (u3.2 84) u3.1)), x1, (x2 + 1)) hf6
set_option maxHeartbeats 4000000 in
set_option maxRecDepth 100000 in
theorem w_X2_refine_l4 {C : XC} {Q : State → Prop} {g : cG} (o : Int32 × St) (h : XOk C cX2_refine RX2 tG rmX2_refine) (hg : XG C g) (hL : C.2.2.2.2.2.2.2.2.2.2.2.2.1 = 4) (hr : XEnd C (some .int) Q (XQ g (some (.int o.1)) o.2) (cA g)) : ∀ (n : Nat) (z : St × Int32 × Int32), loopF (fun k z => m_X2_refine_b4 z.1 z.2.1 z.2.2 k) n z = some o → Xs C (wW g) Q z.1 4 [(0, .ref (gA g 82)), (1, .int z.2.1), (2, .int z.2.2)] [] := by
  intro n z hf
  refine loopF_ind (S := St × Int32 × Int32) (O := Int32 × St) (step := (fun k z => m_X2_refine_b4 z.1 z.2.1 z.2.2 k)) (o := o) (P := fun z => Xs C (wW g) Q z.1 4 [(0, .ref (gA g 82)), (1, .int z.2.1), (2, .int z.2.2)] []) ?_ n z hf
  intro k hk z hf
  exact w_X2_refine_b4 z.1 z.2.1 z.2.2 o h hg hL hr k hk hf
def m_X2_refine (σ : St) : Option (Int32 × St) :=
  loopF (fun k z => m_X2_refine_b4 z.1 z.2.1 z.2.2 k) cFu (σ, 0, 0)
set_option maxHeartbeats 4000000 in
set_option maxRecDepth 100000 in
theorem w_X2_refine {C : XC} {Q : State → Prop} {g : cG} (σ : St) (o : Int32 × St) (h : XOk C cX2_refine RX2 tG rmX2_refine) (hg : XG C g) (hL : C.2.2.2.2.2.2.2.2.2.2.2.2.1 = 4) (hr : XEnd C (some .int) Q (XQ g (some (.int o.1)) o.2) (cA g)) (hf : m_X2_refine σ = some o) : Xs C (wW g) Q σ 0 [(0, .ref (gA g 82))] [] := by
  unfold m_X2_refine at hf
  refine x_iconst (v := 0) h dX2_refine_0 (by decide) (q := 1) rfl ?_
  refine x_istore_n (lv' := [(1, .int 0), (0, .ref (gA g 82))]) h dX2_refine_1 rfl hL (by decide) rfl (q := 2) rfl ?_
  refine x_iconst (v := 0) h dX2_refine_2 (by decide) (q := 3) rfl ?_
  refine x_istore_n (lv' := [(2, .int 0), (1, .int 0), (0, .ref (gA g 82))]) h dX2_refine_3 rfl hL (by decide) rfl (q := 4) rfl ?_
  refine x_sub (lv' := [(0, .ref (gA g 82)), (1, .int 0), (2, .int 0)]) [2, 1, 0] rfl ?_
  exact w_X2_refine_l4  o h hg hL hr  cFu (σ, 0, 0) hf
theorem c_X2_refine (l : Launch) {g : cG} (hi : gInj g) (σ : St) (o : Int32 × St) (hf : m_X2_refine σ = some o) : Met l yX2_refine (wT yX2_refine cX2_refine 4 (some .int)) rmX2_refine (va_Pc [.ref (gA g 82)] (XPre g σ)) (XQ g (some (.int o.1)) o.2) 0 0 (cA g) :=
  X_met RX2 hi plX2 rfl (Nat.le_of_ble_eq_true rfl) rfl (fun _ _ _ h hg hL hr => w_X2_refine σ o h hg hL hr hf)
abbrev rmX2_divide : Room := { frames := 6, cells := 0, slots := 0, locals := 136 }
theorem hdX2_divide : yX2_divide.cls = RX2 ∧ yX2_divide.cls ≠ "java/lang/invoke/MethodHandle" ∧ yX2_divide.cls ≠ "java/lang/invoke/VarHandle" ∧ (parseMethodDescriptor yX2_divide.desc).map (fun d => d.parameters.length) = some 0 := by decide +kernel
def m_X2_divide_b37 (σ : St) (x1 : Int32) (x2 : Int32) (k37 : (St × Int32 × Int32) → Option (Int32 × St)) : Option (Int32 × St) :=
  if 12 < x2 then (
    some (x1, σ)
  ) else (
    (m_X2_refine σ).bind fun u3 =>
    if u3.1 = x1 then (
      some (x1, (rCopy u3.2 84 12 83 12))
    ) else (
      k37 ((rCopy u3.2 84 12 83 12), u3.1, (x2 + 1))
    )
  )
set_option maxHeartbeats 4000000 in
set_option maxRecDepth 100000 in
theorem w_X2_divide_b37 {C : XC} {Q : State → Prop} {g : cG} (σ : St) (x1 : Int32) (x2 : Int32) (o : Int32 × St) (h : XOk C cX2_divide RX2 tG rmX2_divide) (hg : XG C g) (hL : C.2.2.2.2.2.2.2.2.2.2.2.2.1 = 4) (hr : XEnd C (some .int) Q (XQ g (some (.int o.1)) o.2) (cA g)) (k37 : (St × Int32 × Int32) → Option (Int32 × St)) (hk37 : ∀ z : St × Int32 × Int32, k37 z = some o → Xs C (wW g) Q z.1 37 [(0, .ref (gA g 82)), (1, .int z.2.1), (2, .int z.2.2)] []) (hf : m_X2_divide_b37 σ x1 x2 k37 = some o) : Xs C (wW g) Q σ 37 [(0, .ref (gA g 82)), (1, .int x1), (2, .int x2)] [] := by
  unfold m_X2_divide_b37 at hf
  refine x_iload_n h dX2_divide_37 rfl 2 rfl (q := 38) rfl ?_
  refine x_bipush (v := 12) h dX2_divide_38 (by decide) (q := 40) rfl ?_
  refine x_icmp_gt (tgt := 75) h dX2_divide_40 (by decide) (q := 43) rfl hf (fun hc1 hf2 => ?_) (fun hc1 hf2 => ?_)
  · skip
    refine x_iload_n h dX2_divide_75 rfl 1 rfl (q := 76) rfl ?_
    have hz := Option.some.inj hf2
    subst hz
    exact x_iret h hg hr dX2_divide_76
  · skip
    refine x_aload_n h dX2_divide_43 rfl 0 rfl (q := 44) rfl ?_
    obtain ⟨u3, hu3, hf4⟩ := bnd_inv hf2
    refine x_callVi (As := []) (rest := []) h hg (c_X2_refine C.2.1 hg.2.1 σ _ hu3) ml_X2_54 biX2_refine rfl rfl hdX2_refine ⟨Nat.le_of_ble_eq_true rfl, Nat.le_of_ble_eq_true rfl⟩ (by decide) (cE_82 g _) rfl rfl rfl (Nat.le_of_ble_eq_true rfl) dX2_divide_44 ?_
    refine x_istore_n (lv' := [(3, .int u3.1), (0, .ref (gA g 82)), (1, .int x1), (2, .int x2)]) h dX2_divide_47 rfl hL (by decide) rfl (q := 48) rfl ?_
    refine x_aload_n h dX2_divide_48 rfl 1 rfl (q := 49) rfl ?_
    refine x_get_X2_82_3 h hg kf_X2_15 nn_X2 dX2_divide_49 ?_
    refine x_aload_n h dX2_divide_52 rfl 1 rfl (q := 53) rfl ?_
    refine x_get_X2_82_2 h hg kf_X2_9 nn_X2 dX2_divide_53 ?_
    refine x_callSv (As := [.ref (gA g 84), .ref (gA g 83)]) (rest := []) h hg (c_X5_copy C.2.1 hg.2.1 u3.2 a_84 a_83 ) ml_X2_58 biX5_copy rfl rfl hdX5_copy ⟨Nat.le_of_ble_eq_true rfl, Nat.le_of_ble_eq_true rfl⟩ rfl rfl (Nat.le_of_ble_eq_true rfl) dX2_divide_56 ?_
    refine x_iload_n h dX2_divide_59 rfl 0 rfl (q := 60) rfl ?_
    refine x_iload_n h dX2_divide_60 rfl 2 rfl (q := 61) rfl ?_
    refine x_icmp_ne (tgt := 67) h dX2_divide_61 (by decide) (q := 64) rfl hf4 (fun hc5 hf6 => ?_) (fun hc5 hf6 => ?_)
    · skip
      refine x_iload_n h dX2_divide_67 rfl 0 rfl (q := 68) rfl ?_
      refine x_istore_n (lv' := [(1, .int u3.1), (3, .int u3.1), (0, .ref (gA g 82)), (2, .int x2)]) h dX2_divide_68 rfl hL (by decide) rfl (q := 69) rfl ?_
      refine x_iinc (v := (x2 + 1)) (lv' := [(2, .int (x2 + 1)), (1, .int u3.1), (3, .int u3.1), (0, .ref (gA g 82))]) (j := 3) h dX2_divide_69 rfl rfl hL (by decide) rfl (q := 72) rfl ?_
      refine x_goto (q := 37) h dX2_divide_72 (by decide) ?_
      refine x_sub (lv' := [(0, .ref (gA g 82)), (1, .int u3.1), (2, .int (x2 + 1))]) [3, 1, 0] rfl ?_
      exact hk37 ((rCopy u3.2 84 12 83 12), u3.1, (x2 + 1)) hf6
    · skip
      refine x_goto (q := 75) h dX2_divide_64 (by decide) ?_
      refine x_iload_n h dX2_divide_75 rfl 2 rfl (q := 76) rfl ?_
      have hz := Option.some.inj hf6
      subst hz
      exact x_iret h hg hr dX2_divide_76
set_option maxHeartbeats 4000000 in
set_option maxRecDepth 100000 in
theorem w_X2_divide_l37 {C : XC} {Q : State → Prop} {g : cG} (o : Int32 × St) (h : XOk C cX2_divide RX2 tG rmX2_divide) (hg : XG C g) (hL : C.2.2.2.2.2.2.2.2.2.2.2.2.1 = 4) (hr : XEnd C (some .int) Q (XQ g (some (.int o.1)) o.2) (cA g)) : ∀ (n : Nat) (z : St × Int32 × Int32), loopF (fun k z => m_X2_divide_b37 z.1 z.2.1 z.2.2 k) n z = some o → Xs C (wW g) Q z.1 37 [(0, .ref (gA g 82)), (1, .int z.2.1), (2, .int z.2.2)] [] := by
  intro n z hf
  refine loopF_ind (S := St × Int32 × Int32) (O := Int32 × St) (step := (fun k z => m_X2_divide_b37 z.1 z.2.1 z.2.2 k)) (o := o) (P := fun z => Xs C (wW g) Q z.1 37 [(0, .ref (gA g 82)), (1, .int z.2.1), (2, .int z.2.2)] []) ?_ n z hf
  intro k hk z hf
  exact w_X2_divide_b37 z.1 z.2.1 z.2.2 o h hg hL hr k hk hf
def m_X2_divide_b2 (σ : St) (x1 : Int32) (k2 : (St × Int32) → Option (Int32 × St)) : Option (Int32 × St) :=
  if 12 ≤ x1 then (
    loopF (fun k z => m_X2_divide_b37 z.1 z.2.1 z.2.2 k) cFu (σ, (if (σ 0 7) < 1 then (σ 0 7) else 1), 0)
  ) else (
    k2 ((rPut σ 83 12 x1 0), (x1 + 1))
  )
set_option maxHeartbeats 4000000 in
set_option maxRecDepth 100000 in
theorem w_X2_divide_b2 {C : XC} {Q : State → Prop} {g : cG} (σ : St) (x1 : Int32) (o : Int32 × St) (h : XOk C cX2_divide RX2 tG rmX2_divide) (hg : XG C g) (hL : C.2.2.2.2.2.2.2.2.2.2.2.2.1 = 4) (hr : XEnd C (some .int) Q (XQ g (some (.int o.1)) o.2) (cA g)) (k2 : (St × Int32) → Option (Int32 × St)) (hk2 : ∀ z : St × Int32, k2 z = some o → Xs C (wW g) Q z.1 2 [(0, .ref (gA g 82)), (1, .int z.2)] []) (hf : m_X2_divide_b2 σ x1 k2 = some o) : Xs C (wW g) Q σ 2 [(0, .ref (gA g 82)), (1, .int x1)] [] := by
  unfold m_X2_divide_b2 at hf
  refine x_iload_n h dX2_divide_2 rfl 1 rfl (q := 3) rfl ?_
  refine x_bipush (v := 12) h dX2_divide_3 (by decide) (q := 5) rfl ?_
  refine x_icmp_ge (tgt := 23) h dX2_divide_5 (by decide) (q := 8) rfl hf (fun hc1 hf2 => ?_) (fun hc1 hf2 => ?_)
  · skip
    refine x_iconst (v := 1) h dX2_divide_23 (by decide) (q := 24) rfl ?_
    refine x_aload_n h dX2_divide_24 rfl 0 rfl (q := 25) rfl ?_
    refine x_get_X2_82_0 h hg kf_X2_24 nn_X2 dX2_divide_25 ?_
    refine x_get_X7_0_7 h hg kf_X2_42 nn_X7 dX2_divide_28 ?_
    refine x_mmin h ml_X2_48 st_Mmin ki_Math co_Mmin ⟨Nat.le_of_ble_eq_true rfl, Nat.le_of_ble_eq_true rfl⟩ dX2_divide_31 ?_
    refine x_istore_n (lv' := [(1, .int (if (σ 0 7) < 1 then (σ 0 7) else 1)), (0, .ref (gA g 82))]) h dX2_divide_34 rfl hL (by decide) rfl (q := 35) rfl ?_
    refine x_iconst (v := 0) h dX2_divide_35 (by decide) (q := 36) rfl ?_
    refine x_istore_n (lv' := [(2, .int 0), (1, .int (if (σ 0 7) < 1 then (σ 0 7) else 1)), (0, .ref (gA g 82))]) h dX2_divide_36 rfl hL (by decide) rfl (q := 37) rfl ?_
    refine x_sub (lv' := [(0, .ref (gA g 82)), (1, .int (if (σ 0 7) < 1 then (σ 0 7) else 1)), (2, .int 0)]) [2, 1, 0] rfl ?_
    exact w_X2_divide_l37  o h hg hL hr  cFu (σ, (if (σ 0 7) < 1 then (σ 0 7) else 1), 0) hf2
  · skip
    refine x_aload_n h dX2_divide_8 rfl 0 rfl (q := 9) rfl ?_
    refine x_get_X2_82_2 h hg kf_X2_9 nn_X2 dX2_divide_9 ?_
    refine x_iload_n h dX2_divide_12 rfl 1 rfl (q := 13) rfl ?_
    refine x_iconst (v := 0) h dX2_divide_13 (by decide) (q := 14) rfl ?_
    refine x_callSv (As := [.ref (gA g 83), .int x1, .int 0]) (rest := []) h hg (c_X5_put C.2.1 hg.2.1 σ a_83 x1 0) ml_X2_38 biX5_put rfl rfl hdX5_put ⟨Nat.le_of_ble_eq_true rfl, Nat.le_of_ble_eq_true rfl⟩ rfl rfl (Nat.le_of_ble_eq_true rfl) dX2_divide_14 ?_
    refine x_iinc (v := (x1 + 1)) (lv' := [(1, .int (x1 + 1)), (0, .ref (gA g 82))]) (j := 1) h dX2_divide_17 rfl rfl hL (by decide) rfl (q := 20) rfl ?_
    refine x_goto (q := 2) h dX2_divide_20 (by decide) ?_
    refine x_sub (lv' := [(0, .ref (gA g 82)), (1, .int (x1 + 1))]) [1, 0] rfl ?_
    exact hk2 ((rPut σ 83 12 x1 0), (x1 + 1)) hf2
set_option maxHeartbeats 4000000 in
set_option maxRecDepth 100000 in
theorem w_X2_divide_l2 {C : XC} {Q : State → Prop} {g : cG} (o : Int32 × St) (h : XOk C cX2_divide RX2 tG rmX2_divide) (hg : XG C g) (hL : C.2.2.2.2.2.2.2.2.2.2.2.2.1 = 4) (hr : XEnd C (some .int) Q (XQ g (some (.int o.1)) o.2) (cA g)) : ∀ (n : Nat) (z : St × Int32), loopF (fun k z => m_X2_divide_b2 z.1 z.2 k) n z = some o → Xs C (wW g) Q z.1 2 [(0, .ref (gA g 82)), (1, .int z.2)] [] := by
  intro n z hf
  refine loopF_ind (S := St × Int32) (O := Int32 × St) (step := (fun k z => m_X2_divide_b2 z.1 z.2 k)) (o := o) (P := fun z => Xs C (wW g) Q z.1 2 [(0, .ref (gA g 82)), (1, .int z.2)] []) ?_ n z hf
  intro k hk z hf
  exact w_X2_divide_b2 z.1 z.2 o h hg hL hr k hk hf
def m_X2_divide (σ : St) : Option (Int32 × St) :=
  loopF (fun k z => m_X2_divide_b2 z.1 z.2 k) cFu (σ, 0)
set_option maxHeartbeats 4000000 in
set_option maxRecDepth 100000 in
theorem w_X2_divide {C : XC} {Q : State → Prop} {g : cG} (σ : St) (o : Int32 × St) (h : XOk C cX2_divide RX2 tG rmX2_divide) (hg : XG C g) (hL : C.2.2.2.2.2.2.2.2.2.2.2.2.1 = 4) (hr : XEnd C (some .int) Q (XQ g (some (.int o.1)) o.2) (cA g)) (hf : m_X2_divide σ = some o) : Xs C (wW g) Q σ 0 [(0, .ref (gA g 82))] [] := by
  unfold m_X2_divide at hf
  refine x_iconst (v := 0) h dX2_divide_0 (by decide) (q := 1) rfl ?_
  refine x_istore_n (lv' := [(1, .int 0), (0, .ref (gA g 82))]) h dX2_divide_1 rfl hL (by decide) rfl (q := 2) rfl ?_
  refine x_sub (lv' := [(0, .ref (gA g 82)), (1, .int 0)]) [1, 0] rfl ?_
  exact w_X2_divide_l2  o h hg hL hr  cFu (σ, 0) hf
theorem c_X2_divide (l : Launch) {g : cG} (hi : gInj g) (σ : St) (o : Int32 × St) (hf : m_X2_divide σ = some o) : Met l yX2_divide (wT yX2_divide cX2_divide 4 (some .int)) rmX2_divide (va_Pc [.ref (gA g 82)] (XPre g σ)) (XQ g (some (.int o.1)) o.2) 0 0 (cA g) :=
  X_met RX2 hi plX2 rfl (Nat.le_of_ble_eq_true rfl) rfl (fun _ _ _ h hg hL hr => w_X2_divide σ o h hg hL hr hf)
abbrev rmX4_append : Room := { frames := 1, cells := 0, slots := 0, locals := 22 }
theorem hdX4_append : yX4_append.cls = RX4 ∧ yX4_append.cls ≠ "java/lang/invoke/MethodHandle" ∧ yX4_append.cls ≠ "java/lang/invoke/VarHandle" ∧ (parseMethodDescriptor yX4_append.desc).map (fun d => d.parameters.length) = some 1 := by decide +kernel
def m_X4_append (σ : St) (x1 : Int32) : Bool × St :=
  if (σ 73 5) < 60 then (
    (true, (up (rPut σ 74 60 (σ 73 5) x1) 73 5 (((rPut σ 74 60 (σ 73 5) x1) 73 5) + 1)))
  ) else (
    (false, σ)
  )
set_option maxHeartbeats 4000000 in
set_option maxRecDepth 100000 in
theorem w_X4_append {C : XC} {Q : State → Prop} {g : cG} (σ : St) (x1 : Int32) (o : Bool × St) (h : XOk C cX4_append RX4 tG rmX4_append) (hg : XG C g) (hL : C.2.2.2.2.2.2.2.2.2.2.2.2.1 = 2) (hr : XEnd C (some .boolean) Q (XQ g (some (.int (bI o.1))) o.2) (cA g)) (hf : m_X4_append σ x1 = o) : Xs C (wW g) Q σ 0 [(0, .ref (gA g 73)), (1, .int x1)] [] := by
  unfold m_X4_append at hf
  refine x_aload_n h dX4_append_0 rfl 0 rfl (q := 1) rfl ?_
  refine x_get_X4_73_5 h hg kf_X4_24 nn_X4 dX4_append_1 ?_
  refine x_bipush (v := 60) h dX4_append_4 (by decide) (q := 6) rfl ?_
  refine x_icmp_lt (tgt := 11) h dX4_append_6 (by decide) (q := 9) rfl hf (fun hc1 hf2 => ?_) (fun hc1 hf2 => ?_)
  · skip
    refine x_aload_n h dX4_append_11 rfl 0 rfl (q := 12) rfl ?_
    refine x_get_X4_73_1 h hg kf_X4_9 nn_X4 dX4_append_12 ?_
    refine x_aload_n h dX4_append_15 rfl 0 rfl (q := 16) rfl ?_
    refine x_get_X4_73_5 h hg kf_X4_24 nn_X4 dX4_append_16 ?_
    refine x_iload_n h dX4_append_19 rfl 1 rfl (q := 20) rfl ?_
    refine x_callSv (As := [.ref (gA g 74), .int (σ 73 5), .int x1]) (rest := []) h hg (c_X5_put C.2.1 hg.2.1 σ a_74 (σ 73 5) x1) ml_X4_31 biX5_put rfl rfl hdX5_put ⟨Nat.le_of_ble_eq_true rfl, Nat.le_of_ble_eq_true rfl⟩ rfl rfl (Nat.le_of_ble_eq_true rfl) dX4_append_20 ?_
    refine x_aload_n h dX4_append_23 rfl 0 rfl (q := 24) rfl ?_
    refine x_dup h dX4_append_24 rfl (q := 25) rfl ?_
    refine x_get_X4_73_5 h hg kf_X4_24 nn_X4 dX4_append_25 ?_
    refine x_iconst (v := 1) h dX4_append_28 (by decide) (q := 29) rfl ?_
    refine x_iadd h dX4_append_29 (q := 30) rfl ?_
    refine x_put_X4_73_5 h hg kf_X4_24 nn_X4 dX4_append_30 ?_
    refine x_iconst (v := 1) h dX4_append_33 (by decide) (q := 34) rfl ?_
    subst hf2
    exact x_zret (b := true) h hg hr dX4_append_34
  · skip
    refine x_iconst (v := 0) h dX4_append_9 (by decide) (q := 10) rfl ?_
    subst hf2
    exact x_zret (b := false) h hg hr dX4_append_10
theorem c_X4_append (l : Launch) {g : cG} (hi : gInj g) (σ : St) (x1 : Int32) (o : Bool × St) (hf : m_X4_append σ x1 = o) : Met l yX4_append (wT yX4_append cX4_append 2 (some .boolean)) rmX4_append (va_Pc [.ref (gA g 73), .int x1] (XPre g σ)) (XQ g (some (.int (bI o.1))) o.2) 0 0 (cA g) :=
  X_met RX4 hi plX4 rfl (Nat.le_of_ble_eq_true rfl) rfl (fun _ _ _ h hg hL hr => w_X4_append σ x1 o h hg hL hr hf)
abbrev rmX4_pushOperand : Room := { frames := 1, cells := 0, slots := 0, locals := 22 }
theorem hdX4_pushOperand : yX4_pushOperand.cls = RX4 ∧ yX4_pushOperand.cls ≠ "java/lang/invoke/MethodHandle" ∧ yX4_pushOperand.cls ≠ "java/lang/invoke/VarHandle" ∧ (parseMethodDescriptor yX4_pushOperand.desc).map (fun d => d.parameters.length) = some 1 := by decide +kernel
def m_X4_pushOperand (σ : St) (x1 : Int32) : St :=
  (up (rPut σ 77 60 (σ 73 7) x1) 73 7 (((rPut σ 77 60 (σ 73 7) x1) 73 7) + 1))
set_option maxHeartbeats 4000000 in
set_option maxRecDepth 100000 in
theorem w_X4_pushOperand {C : XC} {Q : State → Prop} {g : cG} (σ : St) (x1 : Int32) (o : St) (h : XOk C cX4_pushOperand RX4 tG rmX4_pushOperand) (hg : XG C g) (hL : C.2.2.2.2.2.2.2.2.2.2.2.2.1 = 2) (hr : XEnd C none Q (XQ g (none) o) (cA g)) (hf : m_X4_pushOperand σ x1 = o) : Xs C (wW g) Q σ 0 [(0, .ref (gA g 73)), (1, .int x1)] [] := by
  unfold m_X4_pushOperand at hf
  refine x_aload_n h dX4_pushOperand_0 rfl 0 rfl (q := 1) rfl ?_
  refine x_get_X4_73_4 h hg kf_X4_21 nn_X4 dX4_pushOperand_1 ?_
  refine x_aload_n h dX4_pushOperand_4 rfl 0 rfl (q := 5) rfl ?_
  refine x_get_X4_73_7 h hg kf_X4_49 nn_X4 dX4_pushOperand_5 ?_
  refine x_iload_n h dX4_pushOperand_8 rfl 1 rfl (q := 9) rfl ?_
  refine x_callSv (As := [.ref (gA g 77), .int (σ 73 7), .int x1]) (rest := []) h hg (c_X5_put C.2.1 hg.2.1 σ a_77 (σ 73 7) x1) ml_X4_31 biX5_put rfl rfl hdX5_put ⟨Nat.le_of_ble_eq_true rfl, Nat.le_of_ble_eq_true rfl⟩ rfl rfl (Nat.le_of_ble_eq_true rfl) dX4_pushOperand_9 ?_
  refine x_aload_n h dX4_pushOperand_12 rfl 0 rfl (q := 13) rfl ?_
  refine x_dup h dX4_pushOperand_13 rfl (q := 14) rfl ?_
  refine x_get_X4_73_7 h hg kf_X4_49 nn_X4 dX4_pushOperand_14 ?_
  refine x_iconst (v := 1) h dX4_pushOperand_17 (by decide) (q := 18) rfl ?_
  refine x_iadd h dX4_pushOperand_18 (q := 19) rfl ?_
  refine x_put_X4_73_7 h hg kf_X4_49 nn_X4 dX4_pushOperand_19 ?_
  subst hf
  exact x_vret h hg hr dX4_pushOperand_22
theorem c_X4_pushOperand (l : Launch) {g : cG} (hi : gInj g) (σ : St) (x1 : Int32) (o : St) (hf : m_X4_pushOperand σ x1 = o) : Met l yX4_pushOperand (wT yX4_pushOperand cX4_pushOperand 2 none) rmX4_pushOperand (va_Pc [.ref (gA g 73), .int x1] (XPre g σ)) (XQ g (none) o) 0 0 (cA g) :=
  X_met RX4 hi plX4 rfl (Nat.le_of_ble_eq_true rfl) rfl (fun _ _ _ h hg hL hr => w_X4_pushOperand σ x1 o h hg hL hr hf)
abbrev rmX4_addLeaf : Room := { frames := 2, cells := 0, slots := 0, locals := 46 }
theorem hdX4_addLeaf : yX4_addLeaf.cls = RX4 ∧ yX4_addLeaf.cls ≠ "java/lang/invoke/MethodHandle" ∧ yX4_addLeaf.cls ≠ "java/lang/invoke/VarHandle" ∧ (parseMethodDescriptor yX4_addLeaf.desc).map (fun d => d.parameters.length) = some 2 := by decide +kernel
def m_X4_addLeaf (σ : St) (x1 : Int32) (x2 : Int32) : Option (Bool × St) :=
  oF (dF (σ 73 11)) none fun tt1 =>
  some (true, (up (m_X4_pushOperand (m_X0_add σ tt1 x1 x2 0 0).2 (m_X0_add σ tt1 x1 x2 0 0).1) 73 8 3))
set_option maxHeartbeats 4000000 in
set_option maxRecDepth 100000 in
theorem w_X4_addLeaf {C : XC} {Q : State → Prop} {g : cG} (σ : St) (x1 : Int32) (x2 : Int32) (o : Bool × St) (h : XOk C cX4_addLeaf RX4 tG rmX4_addLeaf) (hg : XG C g) (hL : C.2.2.2.2.2.2.2.2.2.2.2.2.1 = 3) (hr : XEnd C (some .boolean) Q (XQ g (some (.int (bI o.1))) o.2) (cA g)) (hf : m_X4_addLeaf σ x1 x2 = some o) : Xs C (wW g) Q σ 0 [(0, .ref (gA g 73)), (1, .int x1), (2, .int x2)] [] := by
  unfold m_X4_addLeaf at hf
  refine x_aload_n h dX4_addLeaf_0 rfl 0 rfl (q := 1) rfl ?_
  refine x_aload_n h dX4_addLeaf_1 rfl 0 rfl (q := 2) rfl ?_
  refine x_get_X4_73_11 h hg kf_X4_37 nn_X4 dX4_addLeaf_2 ?_
  obtain ⟨tt1, he, htt1, hf2⟩ : ∃ t, dF (σ 73 11) = some t ∧ isF t = true ∧ _ := by
      rcases oF_inv hf with ⟨_, hq⟩ | hq
      · cases hq
      · exact hq
  rw [show rfF g (σ 73 11) = .ref (gA g tt1) from by rw [rfF, he]; rfl]
  refine x_iload_n h dX4_addLeaf_5 rfl 1 rfl (q := 6) rfl ?_
  refine x_iload_n h dX4_addLeaf_6 rfl 2 rfl (q := 7) rfl ?_
  refine x_iconst (v := 0) h dX4_addLeaf_7 (by decide) (q := 8) rfl ?_
  refine x_iconst (v := 0) h dX4_addLeaf_8 (by decide) (q := 9) rfl ?_
  refine x_callVi (As := [.int x1, .int x2, .int 0, .int 0]) (rest := [.ref (gA g 73)]) h hg (c_X0_add C.2.1 hg.2.1 σ tt1 x1 x2 0 0 htt1 _ rfl) ml_X4_109 biX0_add rfl rfl hdX0_add ⟨Nat.le_of_ble_eq_true rfl, Nat.le_of_ble_eq_true rfl⟩ (isF_lt htt1) (cE_F htt1 g _) rfl rfl rfl (Nat.le_of_ble_eq_true rfl) dX4_addLeaf_9 ?_
  refine x_callVv (As := [.int (m_X0_add σ tt1 x1 x2 0 0).1]) (rest := []) h hg (c_X4_pushOperand C.2.1 hg.2.1 (m_X0_add σ tt1 x1 x2 0 0).2 (m_X0_add σ tt1 x1 x2 0 0).1 _ rfl) ml_X4_113 biX4_pushOperand rfl rfl hdX4_pushOperand ⟨Nat.le_of_ble_eq_true rfl, Nat.le_of_ble_eq_true rfl⟩ (by decide) (cE_73 g _) rfl rfl rfl (Nat.le_of_ble_eq_true rfl) dX4_addLeaf_12 ?_
  refine x_aload_n h dX4_addLeaf_15 rfl 0 rfl (q := 16) rfl ?_
  refine x_iconst (v := 3) h dX4_addLeaf_16 (by decide) (q := 17) rfl ?_
  refine x_put_X4_73_8 h hg kf_X4_52 nn_X4 dX4_addLeaf_17 ?_
  refine x_iconst (v := 1) h dX4_addLeaf_20 (by decide) (q := 21) rfl ?_
  have hz := Option.some.inj hf2
  subst hz
  exact x_zret (b := true) h hg hr dX4_addLeaf_21
theorem c_X4_addLeaf (l : Launch) {g : cG} (hi : gInj g) (σ : St) (x1 : Int32) (x2 : Int32) (o : Bool × St) (hf : m_X4_addLeaf σ x1 x2 = some o) : Met l yX4_addLeaf (wT yX4_addLeaf cX4_addLeaf 3 (some .boolean)) rmX4_addLeaf (va_Pc [.ref (gA g 73), .int x1, .int x2] (XPre g σ)) (XQ g (some (.int (bI o.1))) o.2) 0 0 (cA g) :=
  X_met RX4 hi plX4 rfl (Nat.le_of_ble_eq_true rfl) rfl (fun _ _ _ h hg hL hr => w_X4_addLeaf σ x1 x2 o h hg hL hr hf)
abbrev rmX4_push : Room := { frames := 1, cells := 0, slots := 0, locals := 22 }
theorem hdX4_push : yX4_push.cls = RX4 ∧ yX4_push.cls ≠ "java/lang/invoke/MethodHandle" ∧ yX4_push.cls ≠ "java/lang/invoke/VarHandle" ∧ (parseMethodDescriptor yX4_push.desc).map (fun d => d.parameters.length) = some 2 := by decide +kernel
def m_X4_push (σ : St) (x1 : Int32) (x2 : Int32) : Bool × St :=
  (true, (up (up (rPut (rPut σ 75 60 (σ 73 6) x1) 76 60 ((rPut σ 75 60 (σ 73 6) x1) 73 6) x2) 73 6 (((rPut (rPut σ 75 60 (σ 73 6) x1) 76 60 ((rPut σ 75 60 (σ 73 6) x1) 73 6) x2) 73 6) + 1)) 73 8 0))
set_option maxHeartbeats 4000000 in
set_option maxRecDepth 100000 in
theorem w_X4_push {C : XC} {Q : State → Prop} {g : cG} (σ : St) (x1 : Int32) (x2 : Int32) (o : Bool × St) (h : XOk C cX4_push RX4 tG rmX4_push) (hg : XG C g) (hL : C.2.2.2.2.2.2.2.2.2.2.2.2.1 = 3) (hr : XEnd C (some .boolean) Q (XQ g (some (.int (bI o.1))) o.2) (cA g)) (hf : m_X4_push σ x1 x2 = o) : Xs C (wW g) Q σ 0 [(0, .ref (gA g 73)), (1, .int x1), (2, .int x2)] [] := by
  unfold m_X4_push at hf
  refine x_aload_n h dX4_push_0 rfl 0 rfl (q := 1) rfl ?_
  refine x_get_X4_73_2 h hg kf_X4_15 nn_X4 dX4_push_1 ?_
  refine x_aload_n h dX4_push_4 rfl 0 rfl (q := 5) rfl ?_
  refine x_get_X4_73_6 h hg kf_X4_46 nn_X4 dX4_push_5 ?_
  refine x_iload_n h dX4_push_8 rfl 1 rfl (q := 9) rfl ?_
  refine x_callSv (As := [.ref (gA g 75), .int (σ 73 6), .int x1]) (rest := []) h hg (c_X5_put C.2.1 hg.2.1 σ a_75 (σ 73 6) x1) ml_X4_31 biX5_put rfl rfl hdX5_put ⟨Nat.le_of_ble_eq_true rfl, Nat.le_of_ble_eq_true rfl⟩ rfl rfl (Nat.le_of_ble_eq_true rfl) dX4_push_9 ?_
  refine x_aload_n h dX4_push_12 rfl 0 rfl (q := 13) rfl ?_
  refine x_get_X4_73_3 h hg kf_X4_18 nn_X4 dX4_push_13 ?_
  refine x_aload_n h dX4_push_16 rfl 0 rfl (q := 17) rfl ?_
  refine x_get_X4_73_6 h hg kf_X4_46 nn_X4 dX4_push_17 ?_
  refine x_iload_n h dX4_push_20 rfl 2 rfl (q := 21) rfl ?_
  refine x_callSv (As := [.ref (gA g 76), .int ((rPut σ 75 60 (σ 73 6) x1) 73 6), .int x2]) (rest := []) h hg (c_X5_put C.2.1 hg.2.1 (rPut σ 75 60 (σ 73 6) x1) a_76 ((rPut σ 75 60 (σ 73 6) x1) 73 6) x2) ml_X4_31 biX5_put rfl rfl hdX5_put ⟨Nat.le_of_ble_eq_true rfl, Nat.le_of_ble_eq_true rfl⟩ rfl rfl (Nat.le_of_ble_eq_true rfl) dX4_push_21 ?_
  refine x_aload_n h dX4_push_24 rfl 0 rfl (q := 25) rfl ?_
  refine x_dup h dX4_push_25 rfl (q := 26) rfl ?_
  refine x_get_X4_73_6 h hg kf_X4_46 nn_X4 dX4_push_26 ?_
  refine x_iconst (v := 1) h dX4_push_29 (by decide) (q := 30) rfl ?_
  refine x_iadd h dX4_push_30 (q := 31) rfl ?_
  refine x_put_X4_73_6 h hg kf_X4_46 nn_X4 dX4_push_31 ?_
  refine x_aload_n h dX4_push_34 rfl 0 rfl (q := 35) rfl ?_
  refine x_iconst (v := 0) h dX4_push_35 (by decide) (q := 36) rfl ?_
  refine x_put_X4_73_8 h hg kf_X4_52 nn_X4 dX4_push_36 ?_
  refine x_iconst (v := 1) h dX4_push_39 (by decide) (q := 40) rfl ?_
  subst hf
  exact x_zret (b := true) h hg hr dX4_push_40
theorem c_X4_push (l : Launch) {g : cG} (hi : gInj g) (σ : St) (x1 : Int32) (x2 : Int32) (o : Bool × St) (hf : m_X4_push σ x1 x2 = o) : Met l yX4_push (wT yX4_push cX4_push 3 (some .boolean)) rmX4_push (va_Pc [.ref (gA g 73), .int x1, .int x2] (XPre g σ)) (XQ g (some (.int (bI o.1))) o.2) 0 0 (cA g) :=
  X_met RX4 hi plX4 rfl (Nat.le_of_ble_eq_true rfl) rfl (fun _ _ _ h hg hL hr => w_X4_push σ x1 x2 o h hg hL hr hf)
abbrev rmX4_takeUnit : Room := { frames := 3, cells := 0, slots := 0, locals := 68 }
theorem hdX4_takeUnit : yX4_takeUnit.cls = RX4 ∧ yX4_takeUnit.cls ≠ "java/lang/invoke/MethodHandle" ∧ yX4_takeUnit.cls ≠ "java/lang/invoke/VarHandle" ∧ (parseMethodDescriptor yX4_takeUnit.desc).map (fun d => d.parameters.length) = some 1 := by decide +kernel
def m_X4_takeUnit_b126 (σ : St) (s0 : Int32) : Option (Bool × St) :=
  some (true, (up (up σ 73 10 s0) 73 8 1))
set_option maxHeartbeats 4000000 in
set_option maxRecDepth 100000 in
theorem w_X4_takeUnit_b126 {C : XC} {Q : State → Prop} {g : cG} (σ : St) (s0 : Int32) (o : Bool × St) (h : XOk C cX4_takeUnit RX4 tG rmX4_takeUnit) (hg : XG C g) (hL : C.2.2.2.2.2.2.2.2.2.2.2.2.1 = 2) (hr : XEnd C (some .boolean) Q (XQ g (some (.int (bI o.1))) o.2) (cA g)) (hf : m_X4_takeUnit_b126 σ s0  = some o) : Xs C (wW g) Q σ 126 [(0, .ref (gA g 73))] [.int s0, .ref (gA g 73)] := by
  unfold m_X4_takeUnit_b126 at hf
  refine x_put_X4_73_10 h hg kf_X4_92 nn_X4 dX4_takeUnit_126 ?_
  refine x_aload_n h dX4_takeUnit_129 rfl 0 rfl (q := 130) rfl ?_
  refine x_iconst (v := 1) h dX4_takeUnit_130 (by decide) (q := 131) rfl ?_
  refine x_put_X4_73_8 h hg kf_X4_52 nn_X4 dX4_takeUnit_131 ?_
  refine x_iconst (v := 1) h dX4_takeUnit_134 (by decide) (q := 135) rfl ?_
  have hz := Option.some.inj hf
  subst hz
  exact x_zret (b := true) h hg hr dX4_takeUnit_135
def m_X4_takeUnit_b109 (σ : St) (x1 : Int32) : Option (Bool × St) :=
  if x1 = 91 then (
    m_X4_takeUnit_b126 (up σ 73 9 0) 4
  ) else (
    m_X4_takeUnit_b126 (up σ 73 9 0) 0
  )
set_option maxHeartbeats 4000000 in
set_option maxRecDepth 100000 in
theorem w_X4_takeUnit_b109 {C : XC} {Q : State → Prop} {g : cG} (σ : St) (x1 : Int32) (o : Bool × St) (h : XOk C cX4_takeUnit RX4 tG rmX4_takeUnit) (hg : XG C g) (hL : C.2.2.2.2.2.2.2.2.2.2.2.2.1 = 2) (hr : XEnd C (some .boolean) Q (XQ g (some (.int (bI o.1))) o.2) (cA g)) (hf : m_X4_takeUnit_b109 σ x1  = some o) : Xs C (wW g) Q σ 109 [(0, .ref (gA g 73)), (1, .int x1)] [] := by
  unfold m_X4_takeUnit_b109 at hf
  refine x_aload_n h dX4_takeUnit_109 rfl 0 rfl (q := 110) rfl ?_
  refine x_iconst (v := 0) h dX4_takeUnit_110 (by decide) (q := 111) rfl ?_
  refine x_put_X4_73_9 h hg kf_X4_89 nn_X4 dX4_takeUnit_111 ?_
  refine x_aload_n h dX4_takeUnit_114 rfl 0 rfl (q := 115) rfl ?_
  refine x_iload_n h dX4_takeUnit_115 rfl 1 rfl (q := 116) rfl ?_
  refine x_bipush (v := 91) h dX4_takeUnit_116 (by decide) (q := 118) rfl ?_
  refine x_icmp_ne (tgt := 125) h dX4_takeUnit_118 (by decide) (q := 121) rfl hf (fun hc1 hf2 => ?_) (fun hc1 hf2 => ?_)
  · skip
    refine x_iconst (v := 0) h dX4_takeUnit_125 (by decide) (q := 126) rfl ?_
    refine x_sub (lv' := [(0, .ref (gA g 73))]) [0] rfl ?_
    exact w_X4_takeUnit_b126 (up σ 73 9 0) 0 o h hg hL hr hf2
  · skip
    refine x_iconst (v := 4) h dX4_takeUnit_121 (by decide) (q := 122) rfl ?_
    refine x_goto (q := 126) h dX4_takeUnit_122 (by decide) ?_
    refine x_sub (lv' := [(0, .ref (gA g 73))]) [0] rfl ?_
    exact w_X4_takeUnit_b126 (up σ 73 9 0) 4 o h hg hL hr hf2
def m_X4_takeUnit_b22 (σ : St) (x1 : Int32) : Option (Bool × St) :=
  if x1 = 33 then (
    some ((m_X4_push σ 3 0).1, (m_X4_push σ 3 0).2)
  ) else (
    if x1 = 40 then (
      some ((m_X4_push σ 14 0).1, (m_X4_push σ 14 0).2)
    ) else (
      if x1 = 48 then (
        (m_X4_addLeaf σ 0 0).bind fun u10 =>
        some (u10.1, u10.2)
      ) else (
        if x1 = 49 then (
          (m_X4_addLeaf σ 1 0).bind fun u15 =>
          some (u15.1, u15.2)
        ) else (
          if x1 = 60 then (
            m_X4_takeUnit_b109 σ x1
          ) else (
            if x1 = 91 then (
              m_X4_takeUnit_b109 σ x1
            ) else (
              some (false, σ)
            )
          )
        )
      )
    )
  )
set_option maxHeartbeats 4000000 in
set_option maxRecDepth 100000 in
theorem w_X4_takeUnit_b22 {C : XC} {Q : State → Prop} {g : cG} (σ : St) (x1 : Int32) (o : Bool × St) (h : XOk C cX4_takeUnit RX4 tG rmX4_takeUnit) (hg : XG C g) (hL : C.2.2.2.2.2.2.2.2.2.2.2.2.1 = 2) (hr : XEnd C (some .boolean) Q (XQ g (some (.int (bI o.1))) o.2) (cA g)) (hf : m_X4_takeUnit_b22 σ x1  = some o) : Xs C (wW g) Q σ 22 [(0, .ref (gA g 73)), (1, .int x1)] [] := by
  unfold m_X4_takeUnit_b22 at hf
  refine x_iload_n h dX4_takeUnit_22 rfl 1 rfl (q := 23) rfl ?_
  by_cases hs2 : x1 = 33
  · have hf3 := (if_pos hs2).symm.trans hf
    refine x_lookup (tgt := 94) h dX4_takeUnit_23 rfl (off := 71) (by rw [hs2]; decide) (by decide) ?_
    refine x_aload_n h dX4_takeUnit_94 rfl 0 rfl (q := 95) rfl ?_
    refine x_iconst (v := 3) h dX4_takeUnit_95 (by decide) (q := 96) rfl ?_
    refine x_iconst (v := 0) h dX4_takeUnit_96 (by decide) (q := 97) rfl ?_
    refine x_callVi (As := [.int 3, .int 0]) (rest := []) h hg (c_X4_push C.2.1 hg.2.1 σ 3 0 _ rfl) ml_X4_86 biX4_push rfl rfl hdX4_push ⟨Nat.le_of_ble_eq_true rfl, Nat.le_of_ble_eq_true rfl⟩ (by decide) (cE_73 g _) rfl rfl rfl (Nat.le_of_ble_eq_true rfl) dX4_takeUnit_97 ?_
    have hz := Option.some.inj hf3
    subst hz
    exact x_zret (b := (m_X4_push σ 3 0).1) h hg hr dX4_takeUnit_100
  · have hf4 := (if_neg hs2).symm.trans hf
    by_cases hs5 : x1 = 40
    · have hf6 := (if_pos hs5).symm.trans hf4
      refine x_lookup (tgt := 101) h dX4_takeUnit_23 rfl (off := 78) (by rw [hs5]; decide) (by decide) ?_
      refine x_aload_n h dX4_takeUnit_101 rfl 0 rfl (q := 102) rfl ?_
      refine x_bipush (v := 14) h dX4_takeUnit_102 (by decide) (q := 104) rfl ?_
      refine x_iconst (v := 0) h dX4_takeUnit_104 (by decide) (q := 105) rfl ?_
      refine x_callVi (As := [.int 14, .int 0]) (rest := []) h hg (c_X4_push C.2.1 hg.2.1 σ 14 0 _ rfl) ml_X4_86 biX4_push rfl rfl hdX4_push ⟨Nat.le_of_ble_eq_true rfl, Nat.le_of_ble_eq_true rfl⟩ (by decide) (cE_73 g _) rfl rfl rfl (Nat.le_of_ble_eq_true rfl) dX4_takeUnit_105 ?_
      have hz := Option.some.inj hf6
      subst hz
      exact x_zret (b := (m_X4_push σ 14 0).1) h hg hr dX4_takeUnit_108
    · have hf7 := (if_neg hs5).symm.trans hf4
      by_cases hs8 : x1 = 48
      · have hf9 := (if_pos hs8).symm.trans hf7
        refine x_lookup (tgt := 80) h dX4_takeUnit_23 rfl (off := 57) (by rw [hs8]; decide) (by decide) ?_
        refine x_aload_n h dX4_takeUnit_80 rfl 0 rfl (q := 81) rfl ?_
        refine x_iconst (v := 0) h dX4_takeUnit_81 (by decide) (q := 82) rfl ?_
        refine x_iconst (v := 0) h dX4_takeUnit_82 (by decide) (q := 83) rfl ?_
        obtain ⟨u10, hu10, hf11⟩ := bnd_inv hf9
        refine x_callVi (As := [.int 0, .int 0]) (rest := []) h hg (c_X4_addLeaf C.2.1 hg.2.1 σ 0 0 _ hu10) ml_X4_82 biX4_addLeaf rfl rfl hdX4_addLeaf ⟨Nat.le_of_ble_eq_true rfl, Nat.le_of_ble_eq_true rfl⟩ (by decide) (cE_73 g _) rfl rfl rfl (Nat.le_of_ble_eq_true rfl) dX4_takeUnit_83 ?_
        have hz := Option.some.inj hf11
        subst hz
        exact x_zret (b := u10.1) h hg hr dX4_takeUnit_86
      · have hf12 := (if_neg hs8).symm.trans hf7
        by_cases hs13 : x1 = 49
        · have hf14 := (if_pos hs13).symm.trans hf12
          refine x_lookup (tgt := 87) h dX4_takeUnit_23 rfl (off := 64) (by rw [hs13]; decide) (by decide) ?_
          refine x_aload_n h dX4_takeUnit_87 rfl 0 rfl (q := 88) rfl ?_
          refine x_iconst (v := 1) h dX4_takeUnit_88 (by decide) (q := 89) rfl ?_
          refine x_iconst (v := 0) h dX4_takeUnit_89 (by decide) (q := 90) rfl ?_
          obtain ⟨u15, hu15, hf16⟩ := bnd_inv hf14
          refine x_callVi (As := [.int 1, .int 0]) (rest := []) h hg (c_X4_addLeaf C.2.1 hg.2.1 σ 1 0 _ hu15) ml_X4_82 biX4_addLeaf rfl rfl hdX4_addLeaf ⟨Nat.le_of_ble_eq_true rfl, Nat.le_of_ble_eq_true rfl⟩ (by decide) (cE_73 g _) rfl rfl rfl (Nat.le_of_ble_eq_true rfl) dX4_takeUnit_90 ?_
          have hz := Option.some.inj hf16
          subst hz
          exact x_zret (b := u15.1) h hg hr dX4_takeUnit_93
        · have hf17 := (if_neg hs13).symm.trans hf12
          by_cases hs18 : x1 = 60
          · have hf19 := (if_pos hs18).symm.trans hf17
            refine x_lookup (tgt := 109) h dX4_takeUnit_23 rfl (off := 86) (by rw [hs18]; decide) (by decide) ?_
            exact w_X4_takeUnit_b109 σ x1 o h hg hL hr hf19
          · have hf20 := (if_neg hs18).symm.trans hf17
            by_cases hs21 : x1 = 91
            · have hf22 := (if_pos hs21).symm.trans hf20
              refine x_lookup (tgt := 109) h dX4_takeUnit_23 rfl (off := 86) (by rw [hs21]; decide) (by decide) ?_
              exact w_X4_takeUnit_b109 σ x1 o h hg hL hr hf22
            · have hf23 := (if_neg hs21).symm.trans hf20
              refine x_lookup (tgt := 136) h dX4_takeUnit_23 rfl (off := 113) (by refine (lv_osw hs2 (by decide)).trans ?_; refine (lv_osw hs5 (by decide)).trans ?_; refine (lv_osw hs8 (by decide)).trans ?_; refine (lv_osw hs13 (by decide)).trans ?_; refine (lv_osw hs18 (by decide)).trans ?_; refine (lv_osw hs21 (by decide)).trans ?_; rfl) (by decide) ?_
              refine x_iconst (v := 0) h dX4_takeUnit_136 (by decide) (q := 137) rfl ?_
              have hz := Option.some.inj hf23
              subst hz
              exact x_zret (b := false) h hg hr dX4_takeUnit_137
def m_X4_takeUnit (σ : St) (x1 : Int32) : Option (Bool × St) :=
  if x1 < 97 then (
    m_X4_takeUnit_b22 σ x1
  ) else (
    if 122 < x1 then (
      m_X4_takeUnit_b22 σ x1
    ) else (
      (m_X4_addLeaf σ 2 (x1 - 97)).bind fun u5 =>
      some (u5.1, u5.2)
    )
  )
set_option maxHeartbeats 4000000 in
set_option maxRecDepth 100000 in
theorem w_X4_takeUnit {C : XC} {Q : State → Prop} {g : cG} (σ : St) (x1 : Int32) (o : Bool × St) (h : XOk C cX4_takeUnit RX4 tG rmX4_takeUnit) (hg : XG C g) (hL : C.2.2.2.2.2.2.2.2.2.2.2.2.1 = 2) (hr : XEnd C (some .boolean) Q (XQ g (some (.int (bI o.1))) o.2) (cA g)) (hf : m_X4_takeUnit σ x1 = some o) : Xs C (wW g) Q σ 0 [(0, .ref (gA g 73)), (1, .int x1)] [] := by
  unfold m_X4_takeUnit at hf
  refine x_iload_n h dX4_takeUnit_0 rfl 1 rfl (q := 1) rfl ?_
  refine x_bipush (v := 97) h dX4_takeUnit_1 (by decide) (q := 3) rfl ?_
  refine x_icmp_lt (tgt := 22) h dX4_takeUnit_3 (by decide) (q := 6) rfl hf (fun hc1 hf2 => ?_) (fun hc1 hf2 => ?_)
  · skip
    exact w_X4_takeUnit_b22 σ x1 o h hg hL hr hf2
  · skip
    refine x_iload_n h dX4_takeUnit_6 rfl 1 rfl (q := 7) rfl ?_
    refine x_bipush (v := 122) h dX4_takeUnit_7 (by decide) (q := 9) rfl ?_
    refine x_icmp_gt (tgt := 22) h dX4_takeUnit_9 (by decide) (q := 12) rfl hf2 (fun hc3 hf4 => ?_) (fun hc3 hf4 => ?_)
    · skip
      exact w_X4_takeUnit_b22 σ x1 o h hg hL hr hf4
    · skip
      refine x_aload_n h dX4_takeUnit_12 rfl 0 rfl (q := 13) rfl ?_
      refine x_iconst (v := 2) h dX4_takeUnit_13 (by decide) (q := 14) rfl ?_
      refine x_iload_n h dX4_takeUnit_14 rfl 1 rfl (q := 15) rfl ?_
      refine x_bipush (v := 97) h dX4_takeUnit_15 (by decide) (q := 17) rfl ?_
      refine x_isub h dX4_takeUnit_17 (q := 18) rfl ?_
      obtain ⟨u5, hu5, hf6⟩ := bnd_inv hf4
      refine x_callVi (As := [.int 2, .int (x1 - 97)]) (rest := []) h hg (c_X4_addLeaf C.2.1 hg.2.1 σ 2 (x1 - 97) _ hu5) ml_X4_82 biX4_addLeaf rfl rfl hdX4_addLeaf ⟨Nat.le_of_ble_eq_true rfl, Nat.le_of_ble_eq_true rfl⟩ (by decide) (cE_73 g _) rfl rfl rfl (Nat.le_of_ble_eq_true rfl) dX4_takeUnit_18 ?_
      have hz := Option.some.inj hf6
      subst hz
      exact x_zret (b := u5.1) h hg hr dX4_takeUnit_21
theorem c_X4_takeUnit (l : Launch) {g : cG} (hi : gInj g) (σ : St) (x1 : Int32) (o : Bool × St) (hf : m_X4_takeUnit σ x1 = some o) : Met l yX4_takeUnit (wT yX4_takeUnit cX4_takeUnit 2 (some .boolean)) rmX4_takeUnit (va_Pc [.ref (gA g 73), .int x1] (XPre g σ)) (XQ g (some (.int (bI o.1))) o.2) 0 0 (cA g) :=
  X_met RX4 hi plX4 rfl (Nat.le_of_ble_eq_true rfl) rfl (fun _ _ _ h hg hL hr => w_X4_takeUnit σ x1 o h hg hL hr hf)
abbrev rmX4_takeAgent : Room := { frames := 0, cells := 0, slots := 0, locals := 0 }
theorem hdX4_takeAgent : yX4_takeAgent.cls = RX4 ∧ yX4_takeAgent.cls ≠ "java/lang/invoke/MethodHandle" ∧ yX4_takeAgent.cls ≠ "java/lang/invoke/VarHandle" ∧ (parseMethodDescriptor yX4_takeAgent.desc).map (fun d => d.parameters.length) = some 1 := by decide +kernel
def m_X4_takeAgent_b15 (σ : St) (x1 : Int32) (s0 : Int32) (s1 : Int32) : Bool × St :=
  if s1 = s0 then (
    (true, (up σ 73 8 2))
  ) else (
    if (x1 - 48) < 0 then (
      (false, σ)
    ) else (
      if (σ 73 0) ≤ (x1 - 48) then (
        (false, σ)
      ) else (
        if ((σ 73 9) >>> ((x1 - 48) &&& 31)) = 0 then (
          (true, (up σ 73 9 ((σ 73 9) ||| ((1 : Int32) <<< ((x1 - 48) &&& 31)))))
        ) else (
          (false, σ)
        )
      )
    )
  )
set_option maxHeartbeats 4000000 in
set_option maxRecDepth 100000 in
theorem w_X4_takeAgent_b15 {C : XC} {Q : State → Prop} {g : cG} (σ : St) (x1 : Int32) (s0 : Int32) (s1 : Int32) (o : Bool × St) (h : XOk C cX4_takeAgent RX4 tG rmX4_takeAgent) (hg : XG C g) (hL : C.2.2.2.2.2.2.2.2.2.2.2.2.1 = 3) (hr : XEnd C (some .boolean) Q (XQ g (some (.int (bI o.1))) o.2) (cA g)) (hf : m_X4_takeAgent_b15 σ x1 s0 s1  = o) : Xs C (wW g) Q σ 15 [(0, .ref (gA g 73)), (1, .int x1)] [.int s0, .int s1] := by
  unfold m_X4_takeAgent_b15 at hf
  refine x_icmp_ne (tgt := 25) h dX4_takeAgent_15 (by decide) (q := 18) rfl hf (fun hc1 hf2 => ?_) (fun hc1 hf2 => ?_)
  · skip
    refine x_iload_n h dX4_takeAgent_25 rfl 1 rfl (q := 26) rfl ?_
    refine x_bipush (v := 48) h dX4_takeAgent_26 (by decide) (q := 28) rfl ?_
    refine x_isub h dX4_takeAgent_28 (q := 29) rfl ?_
    refine x_istore_n (lv' := [(2, .int (x1 - 48)), (0, .ref (gA g 73)), (1, .int x1)]) h dX4_takeAgent_29 rfl hL (by decide) rfl (q := 30) rfl ?_
    refine x_iload_n h dX4_takeAgent_30 rfl 0 rfl (q := 31) rfl ?_
    refine x_if_lt (tgt := 51) h dX4_takeAgent_31 (by decide) (q := 34) rfl hf2 (fun hc3 hf4 => ?_) (fun hc3 hf4 => ?_)
    · skip
      refine x_iconst (v := 0) h dX4_takeAgent_51 (by decide) (q := 52) rfl ?_
      subst hf4
      exact x_zret (b := false) h hg hr dX4_takeAgent_52
    · skip
      refine x_iload_n h dX4_takeAgent_34 rfl 0 rfl (q := 35) rfl ?_
      refine x_aload_n h dX4_takeAgent_35 rfl 1 rfl (q := 36) rfl ?_
      refine x_get_X4_73_0 h hg kf_X4_28 nn_X4 dX4_takeAgent_36 ?_
      refine x_icmp_ge (tgt := 51) h dX4_takeAgent_39 (by decide) (q := 42) rfl hf4 (fun hc5 hf6 => ?_) (fun hc5 hf6 => ?_)
      · skip
        refine x_iconst (v := 0) h dX4_takeAgent_51 (by decide) (q := 52) rfl ?_
        subst hf6
        exact x_zret (b := false) h hg hr dX4_takeAgent_52
      · skip
        refine x_aload_n h dX4_takeAgent_42 rfl 1 rfl (q := 43) rfl ?_
        refine x_get_X4_73_9 h hg kf_X4_89 nn_X4 dX4_takeAgent_43 ?_
        refine x_iload_n h dX4_takeAgent_46 rfl 0 rfl (q := 47) rfl ?_
        refine x_ishr h dX4_takeAgent_47 (q := 48) rfl ?_
        refine x_if_eq (tgt := 53) h dX4_takeAgent_48 (by decide) (q := 51) rfl hf6 (fun hc7 hf8 => ?_) (fun hc7 hf8 => ?_)
        · skip
          refine x_aload_n h dX4_takeAgent_53 rfl 1 rfl (q := 54) rfl ?_
          refine x_dup h dX4_takeAgent_54 rfl (q := 55) rfl ?_
          refine x_get_X4_73_9 h hg kf_X4_89 nn_X4 dX4_takeAgent_55 ?_
          refine x_iconst (v := 1) h dX4_takeAgent_58 (by decide) (q := 59) rfl ?_
          refine x_iload_n h dX4_takeAgent_59 rfl 0 rfl (q := 60) rfl ?_
          refine x_ishl h dX4_takeAgent_60 (q := 61) rfl ?_
          refine x_ior h dX4_takeAgent_61 (q := 62) rfl ?_
          refine x_put_X4_73_9 h hg kf_X4_89 nn_X4 dX4_takeAgent_62 ?_
          refine x_iconst (v := 1) h dX4_takeAgent_65 (by decide) (q := 66) rfl ?_
          subst hf8
          exact x_zret (b := true) h hg hr dX4_takeAgent_66
        · skip
          refine x_iconst (v := 0) h dX4_takeAgent_51 (by decide) (q := 52) rfl ?_
          subst hf8
          exact x_zret (b := false) h hg hr dX4_takeAgent_52
  · skip
    refine x_aload_n h dX4_takeAgent_18 rfl 0 rfl (q := 19) rfl ?_
    refine x_iconst (v := 2) h dX4_takeAgent_19 (by decide) (q := 20) rfl ?_
    refine x_put_X4_73_8 h hg kf_X4_52 nn_X4 dX4_takeAgent_20 ?_
    refine x_iconst (v := 1) h dX4_takeAgent_23 (by decide) (q := 24) rfl ?_
    subst hf2
    exact x_zret (b := true) h hg hr dX4_takeAgent_24
def m_X4_takeAgent (σ : St) (x1 : Int32) : Bool × St :=
  if (σ 73 10) = 0 then (
    m_X4_takeAgent_b15 σ x1 62 x1
  ) else (
    m_X4_takeAgent_b15 σ x1 93 x1
  )
set_option maxHeartbeats 4000000 in
set_option maxRecDepth 100000 in
theorem w_X4_takeAgent {C : XC} {Q : State → Prop} {g : cG} (σ : St) (x1 : Int32) (o : Bool × St) (h : XOk C cX4_takeAgent RX4 tG rmX4_takeAgent) (hg : XG C g) (hL : C.2.2.2.2.2.2.2.2.2.2.2.2.1 = 3) (hr : XEnd C (some .boolean) Q (XQ g (some (.int (bI o.1))) o.2) (cA g)) (hf : m_X4_takeAgent σ x1 = o) : Xs C (wW g) Q σ 0 [(0, .ref (gA g 73)), (1, .int x1)] [] := by
  unfold m_X4_takeAgent at hf
  refine x_iload_n h dX4_takeAgent_0 rfl 1 rfl (q := 1) rfl ?_
  refine x_aload_n h dX4_takeAgent_1 rfl 0 rfl (q := 2) rfl ?_
  refine x_get_X4_73_10 h hg kf_X4_92 nn_X4 dX4_takeAgent_2 ?_
  refine x_if_ne (tgt := 13) h dX4_takeAgent_5 (by decide) (q := 8) rfl hf (fun hc1 hf2 => ?_) (fun hc1 hf2 => ?_)
  · skip
    refine x_bipush (v := 93) h dX4_takeAgent_13 (by decide) (q := 15) rfl ?_
    exact w_X4_takeAgent_b15 σ x1 93 x1 o h hg hL hr hf2
  · skip
    refine x_bipush (v := 62) h dX4_takeAgent_8 (by decide) (q := 10) rfl ?_
    refine x_goto (q := 15) h dX4_takeAgent_10 (by decide) ?_
    exact w_X4_takeAgent_b15 σ x1 62 x1 o h hg hL hr hf2
theorem c_X4_takeAgent (l : Launch) {g : cG} (hi : gInj g) (σ : St) (x1 : Int32) (o : Bool × St) (hf : m_X4_takeAgent σ x1 = o) : Met l yX4_takeAgent (wT yX4_takeAgent cX4_takeAgent 3 (some .boolean)) rmX4_takeAgent (va_Pc [.ref (gA g 73), .int x1] (XPre g σ)) (XQ g (some (.int (bI o.1))) o.2) 0 0 (cA g) :=
  X_met RX4 hi plX4 rfl (Nat.le_of_ble_eq_true rfl) rfl (fun _ _ _ h hg hL hr => w_X4_takeAgent σ x1 o h hg hL hr hf)
abbrev rmX4_takeGoal : Room := { frames := 2, cells := 0, slots := 0, locals := 44 }
theorem hdX4_takeGoal : yX4_takeGoal.cls = RX4 ∧ yX4_takeGoal.cls ≠ "java/lang/invoke/MethodHandle" ∧ yX4_takeGoal.cls ≠ "java/lang/invoke/VarHandle" ∧ (parseMethodDescriptor yX4_takeGoal.desc).map (fun d => d.parameters.length) = some 1 := by decide +kernel
def m_X4_takeGoal (σ : St) (x1 : Int32) : Bool × St :=
  if x1 = 40 then (
    ((m_X4_push σ (15 + (σ 73 10)) (σ 73 9)).1, (m_X4_push σ (15 + (σ 73 10)) (σ 73 9)).2)
  ) else (
    if x1 = 70 then (
      ((m_X4_push σ (7 + (σ 73 10)) (σ 73 9)).1, (m_X4_push σ (7 + (σ 73 10)) (σ 73 9)).2)
    ) else (
      if x1 = 71 then (
        ((m_X4_push σ (8 + (σ 73 10)) (σ 73 9)).1, (m_X4_push σ (8 + (σ 73 10)) (σ 73 9)).2)
      ) else (
        if x1 = 88 then (
          ((m_X4_push σ (6 + (σ 73 10)) (σ 73 9)).1, (m_X4_push σ (6 + (σ 73 10)) (σ 73 9)).2)
        ) else (
          (false, σ)
        )
      )
    )
  )
set_option maxHeartbeats 4000000 in
set_option maxRecDepth 100000 in
theorem w_X4_takeGoal {C : XC} {Q : State → Prop} {g : cG} (σ : St) (x1 : Int32) (o : Bool × St) (h : XOk C cX4_takeGoal RX4 tG rmX4_takeGoal) (hg : XG C g) (hL : C.2.2.2.2.2.2.2.2.2.2.2.2.1 = 2) (hr : XEnd C (some .boolean) Q (XQ g (some (.int (bI o.1))) o.2) (cA g)) (hf : m_X4_takeGoal σ x1 = o) : Xs C (wW g) Q σ 0 [(0, .ref (gA g 73)), (1, .int x1)] [] := by
  unfold m_X4_takeGoal at hf
  refine x_iload_n h dX4_takeGoal_0 rfl 1 rfl (q := 1) rfl ?_
  by_cases hs2 : x1 = 40
  · have hf3 := (if_pos hs2).symm.trans hf
    refine x_lookup (tgt := 92) h dX4_takeGoal_1 rfl (off := 91) (by rw [hs2]; decide) (by decide) ?_
    refine x_aload_n h dX4_takeGoal_92 rfl 0 rfl (q := 93) rfl ?_
    refine x_bipush (v := 15) h dX4_takeGoal_93 (by decide) (q := 95) rfl ?_
    refine x_aload_n h dX4_takeGoal_95 rfl 0 rfl (q := 96) rfl ?_
    refine x_get_X4_73_10 h hg kf_X4_92 nn_X4 dX4_takeGoal_96 ?_
    refine x_iadd h dX4_takeGoal_99 (q := 100) rfl ?_
    refine x_aload_n h dX4_takeGoal_100 rfl 0 rfl (q := 101) rfl ?_
    refine x_get_X4_73_9 h hg kf_X4_89 nn_X4 dX4_takeGoal_101 ?_
    refine x_callVi (As := [.int (15 + (σ 73 10)), .int (σ 73 9)]) (rest := []) h hg (c_X4_push C.2.1 hg.2.1 σ (15 + (σ 73 10)) (σ 73 9) _ rfl) ml_X4_86 biX4_push rfl rfl hdX4_push ⟨Nat.le_of_ble_eq_true rfl, Nat.le_of_ble_eq_true rfl⟩ (by decide) (cE_73 g _) rfl rfl rfl (Nat.le_of_ble_eq_true rfl) dX4_takeGoal_104 ?_
    subst hf3
    exact x_zret (b := (m_X4_push σ (15 + (σ 73 10)) (σ 73 9)).1) h hg hr dX4_takeGoal_107
  · have hf4 := (if_neg hs2).symm.trans hf
    by_cases hs5 : x1 = 70
    · have hf6 := (if_pos hs5).symm.trans hf4
      refine x_lookup (tgt := 60) h dX4_takeGoal_1 rfl (off := 59) (by rw [hs5]; decide) (by decide) ?_
      refine x_aload_n h dX4_takeGoal_60 rfl 0 rfl (q := 61) rfl ?_
      refine x_bipush (v := 7) h dX4_takeGoal_61 (by decide) (q := 63) rfl ?_
      refine x_aload_n h dX4_takeGoal_63 rfl 0 rfl (q := 64) rfl ?_
      refine x_get_X4_73_10 h hg kf_X4_92 nn_X4 dX4_takeGoal_64 ?_
      refine x_iadd h dX4_takeGoal_67 (q := 68) rfl ?_
      refine x_aload_n h dX4_takeGoal_68 rfl 0 rfl (q := 69) rfl ?_
      refine x_get_X4_73_9 h hg kf_X4_89 nn_X4 dX4_takeGoal_69 ?_
      refine x_callVi (As := [.int (7 + (σ 73 10)), .int (σ 73 9)]) (rest := []) h hg (c_X4_push C.2.1 hg.2.1 σ (7 + (σ 73 10)) (σ 73 9) _ rfl) ml_X4_86 biX4_push rfl rfl hdX4_push ⟨Nat.le_of_ble_eq_true rfl, Nat.le_of_ble_eq_true rfl⟩ (by decide) (cE_73 g _) rfl rfl rfl (Nat.le_of_ble_eq_true rfl) dX4_takeGoal_72 ?_
      subst hf6
      exact x_zret (b := (m_X4_push σ (7 + (σ 73 10)) (σ 73 9)).1) h hg hr dX4_takeGoal_75
    · have hf7 := (if_neg hs5).symm.trans hf4
      by_cases hs8 : x1 = 71
      · have hf9 := (if_pos hs8).symm.trans hf7
        refine x_lookup (tgt := 76) h dX4_takeGoal_1 rfl (off := 75) (by rw [hs8]; decide) (by decide) ?_
        refine x_aload_n h dX4_takeGoal_76 rfl 0 rfl (q := 77) rfl ?_
        refine x_bipush (v := 8) h dX4_takeGoal_77 (by decide) (q := 79) rfl ?_
        refine x_aload_n h dX4_takeGoal_79 rfl 0 rfl (q := 80) rfl ?_
        refine x_get_X4_73_10 h hg kf_X4_92 nn_X4 dX4_takeGoal_80 ?_
        refine x_iadd h dX4_takeGoal_83 (q := 84) rfl ?_
        refine x_aload_n h dX4_takeGoal_84 rfl 0 rfl (q := 85) rfl ?_
        refine x_get_X4_73_9 h hg kf_X4_89 nn_X4 dX4_takeGoal_85 ?_
        refine x_callVi (As := [.int (8 + (σ 73 10)), .int (σ 73 9)]) (rest := []) h hg (c_X4_push C.2.1 hg.2.1 σ (8 + (σ 73 10)) (σ 73 9) _ rfl) ml_X4_86 biX4_push rfl rfl hdX4_push ⟨Nat.le_of_ble_eq_true rfl, Nat.le_of_ble_eq_true rfl⟩ (by decide) (cE_73 g _) rfl rfl rfl (Nat.le_of_ble_eq_true rfl) dX4_takeGoal_88 ?_
        subst hf9
        exact x_zret (b := (m_X4_push σ (8 + (σ 73 10)) (σ 73 9)).1) h hg hr dX4_takeGoal_91
      · have hf10 := (if_neg hs8).symm.trans hf7
        by_cases hs11 : x1 = 88
        · have hf12 := (if_pos hs11).symm.trans hf10
          refine x_lookup (tgt := 44) h dX4_takeGoal_1 rfl (off := 43) (by rw [hs11]; decide) (by decide) ?_
          refine x_aload_n h dX4_takeGoal_44 rfl 0 rfl (q := 45) rfl ?_
          refine x_bipush (v := 6) h dX4_takeGoal_45 (by decide) (q := 47) rfl ?_
          refine x_aload_n h dX4_takeGoal_47 rfl 0 rfl (q := 48) rfl ?_
          refine x_get_X4_73_10 h hg kf_X4_92 nn_X4 dX4_takeGoal_48 ?_
          refine x_iadd h dX4_takeGoal_51 (q := 52) rfl ?_
          refine x_aload_n h dX4_takeGoal_52 rfl 0 rfl (q := 53) rfl ?_
          refine x_get_X4_73_9 h hg kf_X4_89 nn_X4 dX4_takeGoal_53 ?_
          refine x_callVi (As := [.int (6 + (σ 73 10)), .int (σ 73 9)]) (rest := []) h hg (c_X4_push C.2.1 hg.2.1 σ (6 + (σ 73 10)) (σ 73 9) _ rfl) ml_X4_86 biX4_push rfl rfl hdX4_push ⟨Nat.le_of_ble_eq_true rfl, Nat.le_of_ble_eq_true rfl⟩ (by decide) (cE_73 g _) rfl rfl rfl (Nat.le_of_ble_eq_true rfl) dX4_takeGoal_56 ?_
          subst hf12
          exact x_zret (b := (m_X4_push σ (6 + (σ 73 10)) (σ 73 9)).1) h hg hr dX4_takeGoal_59
        · have hf13 := (if_neg hs11).symm.trans hf10
          refine x_lookup (tgt := 108) h dX4_takeGoal_1 rfl (off := 107) (by refine (lv_osw hs2 (by decide)).trans ?_; refine (lv_osw hs5 (by decide)).trans ?_; refine (lv_osw hs8 (by decide)).trans ?_; refine (lv_osw hs11 (by decide)).trans ?_; rfl) (by decide) ?_
          refine x_iconst (v := 0) h dX4_takeGoal_108 (by decide) (q := 109) rfl ?_
          subst hf13
          exact x_zret (b := false) h hg hr dX4_takeGoal_109
theorem c_X4_takeGoal (l : Launch) {g : cG} (hi : gInj g) (σ : St) (x1 : Int32) (o : Bool × St) (hf : m_X4_takeGoal σ x1 = o) : Met l yX4_takeGoal (wT yX4_takeGoal cX4_takeGoal 2 (some .boolean)) rmX4_takeGoal (va_Pc [.ref (gA g 73), .int x1] (XPre g σ)) (XQ g (some (.int (bI o.1))) o.2) 0 0 (cA g) :=
  X_met RX4 hi plX4 rfl (Nat.le_of_ble_eq_true rfl) rfl (fun _ _ _ h hg hL hr => w_X4_takeGoal σ x1 o h hg hL hr hf)
abbrev rmX4_topOpen : Room := { frames := 1, cells := 0, slots := 0, locals := 21 }
theorem hdX4_topOpen : yX4_topOpen.cls = RX4 ∧ yX4_topOpen.cls ≠ "java/lang/invoke/MethodHandle" ∧ yX4_topOpen.cls ≠ "java/lang/invoke/VarHandle" ∧ (parseMethodDescriptor yX4_topOpen.desc).map (fun d => d.parameters.length) = some 0 := by decide +kernel
def m_X4_topOpen (σ : St) : Int32 :=
  if (σ 73 6) ≤ 0 then (
    (-1)
  ) else (
    (rAt 60 (σ 75) ((σ 73 6) - 1))
  )
set_option maxHeartbeats 4000000 in
set_option maxRecDepth 100000 in
theorem w_X4_topOpen {C : XC} {Q : State → Prop} {g : cG} (σ : St) (o : Int32) (h : XOk C cX4_topOpen RX4 tG rmX4_topOpen) (hg : XG C g) (hL : C.2.2.2.2.2.2.2.2.2.2.2.2.1 = 1) (hr : XEnd C (some .int) Q (XQ g (some (.int o)) σ) (cA g)) (hf : m_X4_topOpen σ = o) : Xs C (wW g) Q σ 0 [(0, .ref (gA g 73))] [] := by
  unfold m_X4_topOpen at hf
  refine x_aload_n h dX4_topOpen_0 rfl 0 rfl (q := 1) rfl ?_
  refine x_get_X4_73_6 h hg kf_X4_46 nn_X4 dX4_topOpen_1 ?_
  refine x_if_le (tgt := 23) h dX4_topOpen_4 (by decide) (q := 7) rfl hf (fun hc1 hf2 => ?_) (fun hc1 hf2 => ?_)
  · skip
    refine x_iconst (v := (-1)) h dX4_topOpen_23 (by decide) (q := 24) rfl ?_
    subst hf2
    exact x_iret h hg hr dX4_topOpen_24
  · skip
    refine x_aload_n h dX4_topOpen_7 rfl 0 rfl (q := 8) rfl ?_
    refine x_get_X4_73_2 h hg kf_X4_15 nn_X4 dX4_topOpen_8 ?_
    refine x_aload_n h dX4_topOpen_11 rfl 0 rfl (q := 12) rfl ?_
    refine x_get_X4_73_6 h hg kf_X4_46 nn_X4 dX4_topOpen_12 ?_
    refine x_iconst (v := 1) h dX4_topOpen_15 (by decide) (q := 16) rfl ?_
    refine x_isub h dX4_topOpen_16 (q := 17) rfl ?_
    refine x_callSi (As := [.ref (gA g 75), .int ((σ 73 6) - 1)]) (rest := []) h hg (c_X5_at C.2.1 hg.2.1 σ a_75 ((σ 73 6) - 1)) ml_X4_55 biX5_at rfl rfl hdX5_at ⟨Nat.le_of_ble_eq_true rfl, Nat.le_of_ble_eq_true rfl⟩ rfl rfl (Nat.le_of_ble_eq_true rfl) dX4_topOpen_17 ?_
    refine x_goto (q := 24) h dX4_topOpen_20 (by decide) ?_
    subst hf2
    exact x_iret h hg hr dX4_topOpen_24
theorem c_X4_topOpen (l : Launch) {g : cG} (hi : gInj g) (σ : St) (o : Int32) (hf : m_X4_topOpen σ = o) : Met l yX4_topOpen (wT yX4_topOpen cX4_topOpen 1 (some .int)) rmX4_topOpen (va_Pc [.ref (gA g 73)] (XPre g σ)) (XQ g (some (.int o)) σ) 0 0 (cA g) :=
  X_met RX4 hi plX4 rfl (Nat.le_of_ble_eq_true rfl) rfl (fun _ _ _ h hg hL hr => w_X4_topOpen σ o h hg hL hr hf)
abbrev rmX4_isPrefix : Room := { frames := 0, cells := 0, slots := 0, locals := 0 }
theorem hdX4_isPrefix : yX4_isPrefix.cls ≠ "java/lang/invoke/MethodHandle" ∧ yX4_isPrefix.cls ≠ "java/lang/invoke/VarHandle" ∧ (parseMethodDescriptor yX4_isPrefix.desc).map (fun d => d.parameters.length) = some 1 := by decide +kernel
def m_X4_isPrefix_b20 (s0 : Int32) : Bool :=
  if s0 < 6 then (
    false
  ) else (
    if 8 < s0 then (
      false
    ) else (
      true
    )
  )
set_option maxHeartbeats 4000000 in
set_option maxRecDepth 100000 in
theorem w_X4_isPrefix_b20 {C : XC} {Q : State → Prop} {H0 : Heap} {σ : St} (s0 : Int32) (o : Bool) (h : XOk C cX4_isPrefix RX4 tG rmX4_isPrefix) (hH : H0 = C.2.2.2.2.1.heap) (hL : C.2.2.2.2.2.2.2.2.2.2.2.2.1 = 2) (hr : XEnd C (some .boolean) Q (XQp (some (.int (bI o)))) (fun _ => False)) (hf : m_X4_isPrefix_b20 s0  = o) : Xs C (fun _ H => H = H0) Q σ 20 [] [.int s0] := by
  unfold m_X4_isPrefix_b20 at hf
  refine x_istore_n (lv' := [(1, .int s0)]) h dX4_isPrefix_20 rfl hL (by decide) rfl (q := 21) rfl ?_
  refine x_iload_n h dX4_isPrefix_21 rfl 0 rfl (q := 22) rfl ?_
  refine x_bipush (v := 6) h dX4_isPrefix_22 (by decide) (q := 24) rfl ?_
  refine x_icmp_lt (tgt := 37) h dX4_isPrefix_24 (by decide) (q := 27) rfl hf (fun hc1 hf2 => ?_) (fun hc1 hf2 => ?_)
  · skip
    refine x_iconst (v := 0) h dX4_isPrefix_37 (by decide) (q := 38) rfl ?_
    subst hf2
    exact x_zretP (b := false) h hr hH dX4_isPrefix_38
  · skip
    refine x_iload_n h dX4_isPrefix_27 rfl 0 rfl (q := 28) rfl ?_
    refine x_bipush (v := 8) h dX4_isPrefix_28 (by decide) (q := 30) rfl ?_
    refine x_icmp_gt (tgt := 37) h dX4_isPrefix_30 (by decide) (q := 33) rfl hf2 (fun hc3 hf4 => ?_) (fun hc3 hf4 => ?_)
    · skip
      refine x_iconst (v := 0) h dX4_isPrefix_37 (by decide) (q := 38) rfl ?_
      subst hf4
      exact x_zretP (b := false) h hr hH dX4_isPrefix_38
    · skip
      refine x_iconst (v := 1) h dX4_isPrefix_33 (by decide) (q := 34) rfl ?_
      refine x_goto (q := 38) h dX4_isPrefix_34 (by decide) ?_
      subst hf4
      exact x_zretP (b := true) h hr hH dX4_isPrefix_38
def m_X4_isPrefix (x0 : Int32) : Bool :=
  if x0 = 3 then (
    true
  ) else (
    if x0 ≤ 9 then (
      m_X4_isPrefix_b20 x0
    ) else (
      m_X4_isPrefix_b20 (x0 - 4)
    )
  )
set_option maxHeartbeats 4000000 in
set_option maxRecDepth 100000 in
theorem w_X4_isPrefix {C : XC} {Q : State → Prop} {H0 : Heap} {σ : St} (x0 : Int32) (o : Bool) (h : XOk C cX4_isPrefix RX4 tG rmX4_isPrefix) (hH : H0 = C.2.2.2.2.1.heap) (hL : C.2.2.2.2.2.2.2.2.2.2.2.2.1 = 2) (hr : XEnd C (some .boolean) Q (XQp (some (.int (bI o)))) (fun _ => False)) (hf : m_X4_isPrefix x0 = o) : Xs C (fun _ H => H = H0) Q σ 0 [(0, .int x0)] [] := by
  unfold m_X4_isPrefix at hf
  refine x_iload_n h dX4_isPrefix_0 rfl 0 rfl (q := 1) rfl ?_
  refine x_iconst (v := 3) h dX4_isPrefix_1 (by decide) (q := 2) rfl ?_
  refine x_icmp_ne (tgt := 7) h dX4_isPrefix_2 (by decide) (q := 5) rfl hf (fun hc1 hf2 => ?_) (fun hc1 hf2 => ?_)
  · skip
    refine x_iload_n h dX4_isPrefix_7 rfl 0 rfl (q := 8) rfl ?_
    refine x_bipush (v := 9) h dX4_isPrefix_8 (by decide) (q := 10) rfl ?_
    refine x_icmp_le (tgt := 19) h dX4_isPrefix_10 (by decide) (q := 13) rfl hf2 (fun hc3 hf4 => ?_) (fun hc3 hf4 => ?_)
    · skip
      refine x_iload_n h dX4_isPrefix_19 rfl 0 rfl (q := 20) rfl ?_
      refine x_sub (lv' := []) [] rfl ?_
      exact w_X4_isPrefix_b20 x0 o h hH hL hr hf4
    · skip
      refine x_iload_n h dX4_isPrefix_13 rfl 0 rfl (q := 14) rfl ?_
      refine x_iconst (v := 4) h dX4_isPrefix_14 (by decide) (q := 15) rfl ?_
      refine x_isub h dX4_isPrefix_15 (q := 16) rfl ?_
      refine x_goto (q := 20) h dX4_isPrefix_16 (by decide) ?_
      refine x_sub (lv' := []) [] rfl ?_
      exact w_X4_isPrefix_b20 (x0 - 4) o h hH hL hr hf4
  · skip
    refine x_iconst (v := 1) h dX4_isPrefix_5 (by decide) (q := 6) rfl ?_
    subst hf2
    exact x_zretP (b := true) h hr hH dX4_isPrefix_6
theorem c_X4_isPrefix (l : Launch) (x0 : Int32) (o : Bool) (hf : m_X4_isPrefix x0 = o) : Met l yX4_isPrefix (wT yX4_isPrefix cX4_isPrefix 2 (some .boolean)) rmX4_isPrefix (va_Pc [.int x0] (fun _ => True)) (XQp (some (.int (bI o)))) 0 0 (fun _ => False) :=
  X_metP RX4 plX4 rfl (Nat.le_of_ble_eq_true rfl) rfl (fun _ _ _ _ _ h hH hL hr => w_X4_isPrefix x0 o h hH hL hr hf)
abbrev rmX4_popOperand : Room := { frames := 1, cells := 0, slots := 0, locals := 21 }
theorem hdX4_popOperand : yX4_popOperand.cls = RX4 ∧ yX4_popOperand.cls ≠ "java/lang/invoke/MethodHandle" ∧ yX4_popOperand.cls ≠ "java/lang/invoke/VarHandle" ∧ (parseMethodDescriptor yX4_popOperand.desc).map (fun d => d.parameters.length) = some 0 := by decide +kernel
def m_X4_popOperand (σ : St) : Int32 × St :=
  ((rAt 60 ((up σ 73 7 ((σ 73 7) - 1)) 77) ((up σ 73 7 ((σ 73 7) - 1)) 73 7)), (up σ 73 7 ((σ 73 7) - 1)))
set_option maxHeartbeats 4000000 in
set_option maxRecDepth 100000 in
theorem w_X4_popOperand {C : XC} {Q : State → Prop} {g : cG} (σ : St) (o : Int32 × St) (h : XOk C cX4_popOperand RX4 tG rmX4_popOperand) (hg : XG C g) (hL : C.2.2.2.2.2.2.2.2.2.2.2.2.1 = 1) (hr : XEnd C (some .int) Q (XQ g (some (.int o.1)) o.2) (cA g)) (hf : m_X4_popOperand σ = o) : Xs C (wW g) Q σ 0 [(0, .ref (gA g 73))] [] := by
  unfold m_X4_popOperand at hf
  refine x_aload_n h dX4_popOperand_0 rfl 0 rfl (q := 1) rfl ?_
  refine x_dup h dX4_popOperand_1 rfl (q := 2) rfl ?_
  refine x_get_X4_73_7 h hg kf_X4_49 nn_X4 dX4_popOperand_2 ?_
  refine x_iconst (v := 1) h dX4_popOperand_5 (by decide) (q := 6) rfl ?_
  refine x_isub h dX4_popOperand_6 (q := 7) rfl ?_
  refine x_put_X4_73_7 h hg kf_X4_49 nn_X4 dX4_popOperand_7 ?_
  refine x_aload_n h dX4_popOperand_10 rfl 0 rfl (q := 11) rfl ?_
  refine x_get_X4_73_4 h hg kf_X4_21 nn_X4 dX4_popOperand_11 ?_
  refine x_aload_n h dX4_popOperand_14 rfl 0 rfl (q := 15) rfl ?_
  refine x_get_X4_73_7 h hg kf_X4_49 nn_X4 dX4_popOperand_15 ?_
  refine x_callSi (As := [.ref (gA g 77), .int ((up σ 73 7 ((σ 73 7) - 1)) 73 7)]) (rest := []) h hg (c_X5_at C.2.1 hg.2.1 (up σ 73 7 ((σ 73 7) - 1)) a_77 ((up σ 73 7 ((σ 73 7) - 1)) 73 7)) ml_X4_55 biX5_at rfl rfl hdX5_at ⟨Nat.le_of_ble_eq_true rfl, Nat.le_of_ble_eq_true rfl⟩ rfl rfl (Nat.le_of_ble_eq_true rfl) dX4_popOperand_18 ?_
  subst hf
  exact x_iret h hg hr dX4_popOperand_21
theorem c_X4_popOperand (l : Launch) {g : cG} (hi : gInj g) (σ : St) (o : Int32 × St) (hf : m_X4_popOperand σ = o) : Met l yX4_popOperand (wT yX4_popOperand cX4_popOperand 1 (some .int)) rmX4_popOperand (va_Pc [.ref (gA g 73)] (XPre g σ)) (XQ g (some (.int o.1)) o.2) 0 0 (cA g) :=
  X_met RX4 hi plX4 rfl (Nat.le_of_ble_eq_true rfl) rfl (fun _ _ _ h hg hL hr => w_X4_popOperand σ o h hg hL hr hf)
abbrev rmX4_close : Room := { frames := 2, cells := 0, slots := 0, locals := 46 }
theorem hdX4_close : yX4_close.cls = RX4 ∧ yX4_close.cls ≠ "java/lang/invoke/MethodHandle" ∧ yX4_close.cls ≠ "java/lang/invoke/VarHandle" ∧ (parseMethodDescriptor yX4_close.desc).map (fun d => d.parameters.length) = some 0 := by decide +kernel
def m_X4_close_b44 (σ : St) (x1 : Int32) (x2 : Int32) (s0 : Int32) : Option (St) :=
  oF (dF ((m_X4_popOperand σ).2 73 11)) none fun tt1 =>
  some (m_X4_pushOperand (m_X0_add (m_X4_popOperand σ).2 tt1 x1 x2 (m_X4_popOperand σ).1 s0).2 (m_X0_add (m_X4_popOperand σ).2 tt1 x1 x2 (m_X4_popOperand σ).1 s0).1)
set_option maxHeartbeats 4000000 in
set_option maxRecDepth 100000 in
theorem w_X4_close_b44 {C : XC} {Q : State → Prop} {g : cG} (σ : St) (x1 : Int32) (x2 : Int32) (s0 : Int32) (o : St) (h : XOk C cX4_close RX4 tG rmX4_close) (hg : XG C g) (hL : C.2.2.2.2.2.2.2.2.2.2.2.2.1 = 5) (hr : XEnd C none Q (XQ g (none) o) (cA g)) (hf : m_X4_close_b44 σ x1 x2 s0  = some o) : Xs C (wW g) Q σ 44 [(0, .ref (gA g 73)), (1, .int x1), (2, .int x2)] [.int s0] := by
  unfold m_X4_close_b44 at hf
  refine x_istore_n (lv' := [(3, .int s0), (0, .ref (gA g 73)), (1, .int x1), (2, .int x2)]) h dX4_close_44 rfl hL (by decide) rfl (q := 45) rfl ?_
  refine x_aload_n h dX4_close_45 rfl 1 rfl (q := 46) rfl ?_
  refine x_callVi (As := []) (rest := []) h hg (c_X4_popOperand C.2.1 hg.2.1 σ _ rfl) ml_X4_119 biX4_popOperand rfl rfl hdX4_popOperand ⟨Nat.le_of_ble_eq_true rfl, Nat.le_of_ble_eq_true rfl⟩ (by decide) (cE_73 g _) rfl rfl rfl (Nat.le_of_ble_eq_true rfl) dX4_close_46 ?_
  refine x_istore (lv' := [(4, .int (m_X4_popOperand σ).1), (3, .int s0), (0, .ref (gA g 73)), (1, .int x1), (2, .int x2)]) h dX4_close_49 hL (by decide) rfl (q := 51) rfl ?_
  refine x_aload_n h dX4_close_51 rfl 2 rfl (q := 52) rfl ?_
  refine x_aload_n h dX4_close_52 rfl 2 rfl (q := 53) rfl ?_
  refine x_get_X4_73_11 h hg kf_X4_37 nn_X4 dX4_close_53 ?_
  obtain ⟨tt1, he, htt1, hf2⟩ : ∃ t, dF ((m_X4_popOperand σ).2 73 11) = some t ∧ isF t = true ∧ _ := by
      rcases oF_inv hf with ⟨_, hq⟩ | hq
      · cases hq
      · exact hq
  rw [show rfF g ((m_X4_popOperand σ).2 73 11) = .ref (gA g tt1) from by rw [rfF, he]; rfl]
  refine x_iload_n h dX4_close_56 rfl 3 rfl (q := 57) rfl ?_
  refine x_iload_n h dX4_close_57 rfl 4 rfl (q := 58) rfl ?_
  refine x_iload h dX4_close_58 0 rfl (q := 60) rfl ?_
  refine x_iload_n h dX4_close_60 rfl 1 rfl (q := 61) rfl ?_
  refine x_callVi (As := [.int x1, .int x2, .int (m_X4_popOperand σ).1, .int s0]) (rest := [.ref (gA g 73)]) h hg (c_X0_add C.2.1 hg.2.1 (m_X4_popOperand σ).2 tt1 x1 x2 (m_X4_popOperand σ).1 s0 htt1 _ rfl) ml_X4_109 biX0_add rfl rfl hdX0_add ⟨Nat.le_of_ble_eq_true rfl, Nat.le_of_ble_eq_true rfl⟩ (isF_lt htt1) (cE_F htt1 g _) rfl rfl rfl (Nat.le_of_ble_eq_true rfl) dX4_close_61 ?_
  refine x_callVv (As := [.int (m_X0_add (m_X4_popOperand σ).2 tt1 x1 x2 (m_X4_popOperand σ).1 s0).1]) (rest := []) h hg (c_X4_pushOperand C.2.1 hg.2.1 (m_X0_add (m_X4_popOperand σ).2 tt1 x1 x2 (m_X4_popOperand σ).1 s0).2 (m_X0_add (m_X4_popOperand σ).2 tt1 x1 x2 (m_X4_popOperand σ).1 s0).1 _ rfl) ml_X4_113 biX4_pushOperand rfl rfl hdX4_pushOperand ⟨Nat.le_of_ble_eq_true rfl, Nat.le_of_ble_eq_true rfl⟩ (by decide) (cE_73 g _) rfl rfl rfl (Nat.le_of_ble_eq_true rfl) dX4_close_64 ?_
  have hz := Option.some.inj hf2
  subst hz
  exact x_vret h hg hr dX4_close_67
def m_X4_close (σ : St) : Option (St) :=
  if (bI (m_X4_isPrefix (m_X4_topOpen σ))) = 0 then (
    m_X4_close_b44 (m_X4_popOperand (up σ 73 6 ((σ 73 6) - 1))).2 (m_X4_topOpen σ) (rAt 60 (σ 76) ((σ 73 6) - 1)) (m_X4_popOperand (up σ 73 6 ((σ 73 6) - 1))).1
  ) else (
    m_X4_close_b44 (up σ 73 6 ((σ 73 6) - 1)) (m_X4_topOpen σ) (rAt 60 (σ 76) ((σ 73 6) - 1)) 0
  )
set_option maxHeartbeats 4000000 in
set_option maxRecDepth 100000 in
theorem w_X4_close {C : XC} {Q : State → Prop} {g : cG} (σ : St) (o : St) (h : XOk C cX4_close RX4 tG rmX4_close) (hg : XG C g) (hL : C.2.2.2.2.2.2.2.2.2.2.2.2.1 = 5) (hr : XEnd C none Q (XQ g (none) o) (cA g)) (hf : m_X4_close σ = some o) : Xs C (wW g) Q σ 0 [(0, .ref (gA g 73))] [] := by
  unfold m_X4_close at hf
  refine x_aload_n h dX4_close_0 rfl 0 rfl (q := 1) rfl ?_
  refine x_callVi (As := []) (rest := []) h hg (c_X4_topOpen C.2.1 hg.2.1 σ _ rfl) ml_X4_102 biX4_topOpen rfl rfl hdX4_topOpen ⟨Nat.le_of_ble_eq_true rfl, Nat.le_of_ble_eq_true rfl⟩ (by decide) (cE_73 g _) rfl rfl rfl (Nat.le_of_ble_eq_true rfl) dX4_close_1 ?_
  refine x_istore_n (lv' := [(1, .int (m_X4_topOpen σ)), (0, .ref (gA g 73))]) h dX4_close_4 rfl hL (by decide) rfl (q := 5) rfl ?_
  refine x_aload_n h dX4_close_5 rfl 1 rfl (q := 6) rfl ?_
  refine x_get_X4_73_3 h hg kf_X4_18 nn_X4 dX4_close_6 ?_
  refine x_aload_n h dX4_close_9 rfl 1 rfl (q := 10) rfl ?_
  refine x_get_X4_73_6 h hg kf_X4_46 nn_X4 dX4_close_10 ?_
  refine x_iconst (v := 1) h dX4_close_13 (by decide) (q := 14) rfl ?_
  refine x_isub h dX4_close_14 (q := 15) rfl ?_
  refine x_callSi (As := [.ref (gA g 76), .int ((σ 73 6) - 1)]) (rest := []) h hg (c_X5_at C.2.1 hg.2.1 σ a_76 ((σ 73 6) - 1)) ml_X4_55 biX5_at rfl rfl hdX5_at ⟨Nat.le_of_ble_eq_true rfl, Nat.le_of_ble_eq_true rfl⟩ rfl rfl (Nat.le_of_ble_eq_true rfl) dX4_close_15 ?_
  refine x_istore_n (lv' := [(2, .int (rAt 60 (σ 76) ((σ 73 6) - 1))), (1, .int (m_X4_topOpen σ)), (0, .ref (gA g 73))]) h dX4_close_18 rfl hL (by decide) rfl (q := 19) rfl ?_
  refine x_aload_n h dX4_close_19 rfl 2 rfl (q := 20) rfl ?_
  refine x_dup h dX4_close_20 rfl (q := 21) rfl ?_
  refine x_get_X4_73_6 h hg kf_X4_46 nn_X4 dX4_close_21 ?_
  refine x_iconst (v := 1) h dX4_close_24 (by decide) (q := 25) rfl ?_
  refine x_isub h dX4_close_25 (q := 26) rfl ?_
  refine x_put_X4_73_6 h hg kf_X4_46 nn_X4 dX4_close_26 ?_
  refine x_iload_n h dX4_close_29 rfl 1 rfl (q := 30) rfl ?_
  refine x_callPi (As := [.int (m_X4_topOpen σ)]) (rest := []) h (c_X4_isPrefix C.2.1 (m_X4_topOpen σ) _ rfl) ml_X4_116 biX4_isPrefix rfl rfl hdX4_isPrefix ⟨Nat.le_of_ble_eq_true rfl, Nat.le_of_ble_eq_true rfl⟩ rfl rfl (Nat.le_of_ble_eq_true rfl) dX4_close_30 ?_
  refine x_if_eq (tgt := 40) h dX4_close_33 (by decide) (q := 36) rfl hf (fun hc1 hf2 => ?_) (fun hc1 hf2 => ?_)
  · skip
    refine x_aload_n h dX4_close_40 rfl 2 rfl (q := 41) rfl ?_
    refine x_callVi (As := []) (rest := []) h hg (c_X4_popOperand C.2.1 hg.2.1 (up σ 73 6 ((σ 73 6) - 1)) _ rfl) ml_X4_119 biX4_popOperand rfl rfl hdX4_popOperand ⟨Nat.le_of_ble_eq_true rfl, Nat.le_of_ble_eq_true rfl⟩ (by decide) (cE_73 g _) rfl rfl rfl (Nat.le_of_ble_eq_true rfl) dX4_close_41 ?_
    refine x_sub (lv' := [(0, .ref (gA g 73)), (1, .int (m_X4_topOpen σ)), (2, .int (rAt 60 (σ 76) ((σ 73 6) - 1)))]) [2, 1, 0] rfl ?_
    exact w_X4_close_b44 (m_X4_popOperand (up σ 73 6 ((σ 73 6) - 1))).2 (m_X4_topOpen σ) (rAt 60 (σ 76) ((σ 73 6) - 1)) (m_X4_popOperand (up σ 73 6 ((σ 73 6) - 1))).1 o h hg hL hr hf2
  · skip
    refine x_iconst (v := 0) h dX4_close_36 (by decide) (q := 37) rfl ?_
    refine x_goto (q := 44) h dX4_close_37 (by decide) ?_
    refine x_sub (lv' := [(0, .ref (gA g 73)), (1, .int (m_X4_topOpen σ)), (2, .int (rAt 60 (σ 76) ((σ 73 6) - 1)))]) [2, 1, 0] rfl ?_
    exact w_X4_close_b44 (up σ 73 6 ((σ 73 6) - 1)) (m_X4_topOpen σ) (rAt 60 (σ 76) ((σ 73 6) - 1)) 0 o h hg hL hr hf2
theorem c_X4_close (l : Launch) {g : cG} (hi : gInj g) (σ : St) (o : St) (hf : m_X4_close σ = some o) : Met l yX4_close (wT yX4_close cX4_close 5 none) rmX4_close (va_Pc [.ref (gA g 73)] (XPre g σ)) (XQ g (none) o) 0 0 (cA g) :=
  X_met RX4 hi plX4 rfl (Nat.le_of_ble_eq_true rfl) rfl (fun _ _ _ h hg hL hr => w_X4_close σ o h hg hL hr hf)
abbrev rmX4_closeIf : Room := { frames := 3, cells := 0, slots := 0, locals := 70 }
theorem hdX4_closeIf : yX4_closeIf.cls = RX4 ∧ yX4_closeIf.cls ≠ "java/lang/invoke/MethodHandle" ∧ yX4_closeIf.cls ≠ "java/lang/invoke/VarHandle" ∧ (parseMethodDescriptor yX4_closeIf.desc).map (fun d => d.parameters.length) = some 1 := by decide +kernel
def m_X4_closeIf (σ : St) (x1 : Int32) : Option (St) :=
  if (m_X4_topOpen σ) = x1 then (
    (m_X4_close σ).bind fun u3 =>
    some u3
  ) else (
    some σ
  )
set_option maxHeartbeats 4000000 in
set_option maxRecDepth 100000 in
theorem w_X4_closeIf {C : XC} {Q : State → Prop} {g : cG} (σ : St) (x1 : Int32) (o : St) (h : XOk C cX4_closeIf RX4 tG rmX4_closeIf) (hg : XG C g) (hL : C.2.2.2.2.2.2.2.2.2.2.2.2.1 = 2) (hr : XEnd C none Q (XQ g (none) o) (cA g)) (hf : m_X4_closeIf σ x1 = some o) : Xs C (wW g) Q σ 0 [(0, .ref (gA g 73)), (1, .int x1)] [] := by
  unfold m_X4_closeIf at hf
  refine x_aload_n h dX4_closeIf_0 rfl 0 rfl (q := 1) rfl ?_
  refine x_callVi (As := []) (rest := []) h hg (c_X4_topOpen C.2.1 hg.2.1 σ _ rfl) ml_X4_102 biX4_topOpen rfl rfl hdX4_topOpen ⟨Nat.le_of_ble_eq_true rfl, Nat.le_of_ble_eq_true rfl⟩ (by decide) (cE_73 g _) rfl rfl rfl (Nat.le_of_ble_eq_true rfl) dX4_closeIf_1 ?_
  refine x_iload_n h dX4_closeIf_4 rfl 1 rfl (q := 5) rfl ?_
  refine x_icmp_ne (tgt := 12) h dX4_closeIf_5 (by decide) (q := 8) rfl hf (fun hc1 hf2 => ?_) (fun hc1 hf2 => ?_)
  · skip
    have hz := Option.some.inj hf2
    subst hz
    exact x_vret h hg hr dX4_closeIf_12
  · skip
    refine x_aload_n h dX4_closeIf_8 rfl 0 rfl (q := 9) rfl ?_
    obtain ⟨u3, hu3, hf4⟩ := bnd_inv hf2
    refine x_callVv (As := []) (rest := []) h hg (c_X4_close C.2.1 hg.2.1 σ _ hu3) ml_X4_106 biX4_close rfl rfl hdX4_close ⟨Nat.le_of_ble_eq_true rfl, Nat.le_of_ble_eq_true rfl⟩ (by decide) (cE_73 g _) rfl rfl rfl (Nat.le_of_ble_eq_true rfl) dX4_closeIf_9 ?_
    have hz := Option.some.inj hf4
    subst hz
    exact x_vret h hg hr dX4_closeIf_12
theorem c_X4_closeIf (l : Launch) {g : cG} (hi : gInj g) (σ : St) (x1 : Int32) (o : St) (hf : m_X4_closeIf σ x1 = some o) : Met l yX4_closeIf (wT yX4_closeIf cX4_closeIf 2 none) rmX4_closeIf (va_Pc [.ref (gA g 73), .int x1] (XPre g σ)) (XQ g (none) o) 0 0 (cA g) :=
  X_met RX4 hi plX4 rfl (Nat.le_of_ble_eq_true rfl) rfl (fun _ _ _ h hg hL hr => w_X4_closeIf σ x1 o h hg hL hr hf)
abbrev rmX4_takeUntil : Room := { frames := 2, cells := 0, slots := 0, locals := 41 }
theorem hdX4_takeUntil : yX4_takeUntil.cls = RX4 ∧ yX4_takeUntil.cls ≠ "java/lang/invoke/MethodHandle" ∧ yX4_takeUntil.cls ≠ "java/lang/invoke/VarHandle" ∧ (parseMethodDescriptor yX4_takeUntil.desc).map (fun d => d.parameters.length) = some 0 := by decide +kernel
def m_X4_takeUntil_b19 (σ : St) (x1 : Int32) : Bool × St :=
  (true, (up (rPut σ 75 60 ((σ 73 6) - 1) ((x1 - 15) + 9)) 73 8 0))
set_option maxHeartbeats 4000000 in
set_option maxRecDepth 100000 in
theorem w_X4_takeUntil_b19 {C : XC} {Q : State → Prop} {g : cG} (σ : St) (x1 : Int32) (o : Bool × St) (h : XOk C cX4_takeUntil RX4 tG rmX4_takeUntil) (hg : XG C g) (hL : C.2.2.2.2.2.2.2.2.2.2.2.2.1 = 2) (hr : XEnd C (some .boolean) Q (XQ g (some (.int (bI o.1))) o.2) (cA g)) (hf : m_X4_takeUntil_b19 σ x1  = o) : Xs C (wW g) Q σ 19 [(0, .ref (gA g 73)), (1, .int x1)] [] := by
  unfold m_X4_takeUntil_b19 at hf
  refine x_aload_n h dX4_takeUntil_19 rfl 0 rfl (q := 20) rfl ?_
  refine x_get_X4_73_2 h hg kf_X4_15 nn_X4 dX4_takeUntil_20 ?_
  refine x_aload_n h dX4_takeUntil_23 rfl 0 rfl (q := 24) rfl ?_
  refine x_get_X4_73_6 h hg kf_X4_46 nn_X4 dX4_takeUntil_24 ?_
  refine x_iconst (v := 1) h dX4_takeUntil_27 (by decide) (q := 28) rfl ?_
  refine x_isub h dX4_takeUntil_28 (q := 29) rfl ?_
  refine x_iload_n h dX4_takeUntil_29 rfl 1 rfl (q := 30) rfl ?_
  refine x_bipush (v := 15) h dX4_takeUntil_30 (by decide) (q := 32) rfl ?_
  refine x_isub h dX4_takeUntil_32 (q := 33) rfl ?_
  refine x_bipush (v := 9) h dX4_takeUntil_33 (by decide) (q := 35) rfl ?_
  refine x_iadd h dX4_takeUntil_35 (q := 36) rfl ?_
  refine x_callSv (As := [.ref (gA g 75), .int ((σ 73 6) - 1), .int ((x1 - 15) + 9)]) (rest := []) h hg (c_X5_put C.2.1 hg.2.1 σ a_75 ((σ 73 6) - 1) ((x1 - 15) + 9)) ml_X4_31 biX5_put rfl rfl hdX5_put ⟨Nat.le_of_ble_eq_true rfl, Nat.le_of_ble_eq_true rfl⟩ rfl rfl (Nat.le_of_ble_eq_true rfl) dX4_takeUntil_36 ?_
  refine x_aload_n h dX4_takeUntil_39 rfl 0 rfl (q := 40) rfl ?_
  refine x_iconst (v := 0) h dX4_takeUntil_40 (by decide) (q := 41) rfl ?_
  refine x_put_X4_73_8 h hg kf_X4_52 nn_X4 dX4_takeUntil_41 ?_
  refine x_iconst (v := 1) h dX4_takeUntil_44 (by decide) (q := 45) rfl ?_
  subst hf
  exact x_zret (b := true) h hg hr dX4_takeUntil_45
def m_X4_takeUntil (σ : St) : Bool × St :=
  if (m_X4_topOpen σ) = 15 then (
    m_X4_takeUntil_b19 σ (m_X4_topOpen σ)
  ) else (
    if (m_X4_topOpen σ) = 19 then (
      m_X4_takeUntil_b19 σ (m_X4_topOpen σ)
    ) else (
      (false, σ)
    )
  )
set_option maxHeartbeats 4000000 in
set_option maxRecDepth 100000 in
theorem w_X4_takeUntil {C : XC} {Q : State → Prop} {g : cG} (σ : St) (o : Bool × St) (h : XOk C cX4_takeUntil RX4 tG rmX4_takeUntil) (hg : XG C g) (hL : C.2.2.2.2.2.2.2.2.2.2.2.2.1 = 2) (hr : XEnd C (some .boolean) Q (XQ g (some (.int (bI o.1))) o.2) (cA g)) (hf : m_X4_takeUntil σ = o) : Xs C (wW g) Q σ 0 [(0, .ref (gA g 73))] [] := by
  unfold m_X4_takeUntil at hf
  refine x_aload_n h dX4_takeUntil_0 rfl 0 rfl (q := 1) rfl ?_
  refine x_callVi (As := []) (rest := []) h hg (c_X4_topOpen C.2.1 hg.2.1 σ _ rfl) ml_X4_102 biX4_topOpen rfl rfl hdX4_topOpen ⟨Nat.le_of_ble_eq_true rfl, Nat.le_of_ble_eq_true rfl⟩ (by decide) (cE_73 g _) rfl rfl rfl (Nat.le_of_ble_eq_true rfl) dX4_takeUntil_1 ?_
  refine x_istore_n (lv' := [(1, .int (m_X4_topOpen σ)), (0, .ref (gA g 73))]) h dX4_takeUntil_4 rfl hL (by decide) rfl (q := 5) rfl ?_
  refine x_iload_n h dX4_takeUntil_5 rfl 0 rfl (q := 6) rfl ?_
  refine x_bipush (v := 15) h dX4_takeUntil_6 (by decide) (q := 8) rfl ?_
  refine x_icmp_eq (tgt := 19) h dX4_takeUntil_8 (by decide) (q := 11) rfl hf (fun hc1 hf2 => ?_) (fun hc1 hf2 => ?_)
  · skip
    refine x_sub (lv' := [(0, .ref (gA g 73)), (1, .int (m_X4_topOpen σ))]) [1, 0] rfl ?_
    exact w_X4_takeUntil_b19 σ (m_X4_topOpen σ) o h hg hL hr hf2
  · skip
    refine x_iload_n h dX4_takeUntil_11 rfl 0 rfl (q := 12) rfl ?_
    refine x_bipush (v := 19) h dX4_takeUntil_12 (by decide) (q := 14) rfl ?_
    refine x_icmp_eq (tgt := 19) h dX4_takeUntil_14 (by decide) (q := 17) rfl hf2 (fun hc3 hf4 => ?_) (fun hc3 hf4 => ?_)
    · skip
      refine x_sub (lv' := [(0, .ref (gA g 73)), (1, .int (m_X4_topOpen σ))]) [1, 0] rfl ?_
      exact w_X4_takeUntil_b19 σ (m_X4_topOpen σ) o h hg hL hr hf4
    · skip
      refine x_iconst (v := 0) h dX4_takeUntil_17 (by decide) (q := 18) rfl ?_
      subst hf4
      exact x_zret (b := false) h hg hr dX4_takeUntil_18
theorem c_X4_takeUntil (l : Launch) {g : cG} (hi : gInj g) (σ : St) (o : Bool × St) (hf : m_X4_takeUntil σ = o) : Met l yX4_takeUntil (wT yX4_takeUntil cX4_takeUntil 2 (some .boolean)) rmX4_takeUntil (va_Pc [.ref (gA g 73)] (XPre g σ)) (XQ g (some (.int (bI o.1))) o.2) 0 0 (cA g) :=
  X_met RX4 hi plX4 rfl (Nat.le_of_ble_eq_true rfl) rfl (fun _ _ _ h hg hL hr => w_X4_takeUntil σ o h hg hL hr hf)
abbrev rmX4_takeBracket : Room := { frames := 3, cells := 0, slots := 0, locals := 70 }
theorem hdX4_takeBracket : yX4_takeBracket.cls = RX4 ∧ yX4_takeBracket.cls ≠ "java/lang/invoke/MethodHandle" ∧ yX4_takeBracket.cls ≠ "java/lang/invoke/VarHandle" ∧ (parseMethodDescriptor yX4_takeBracket.desc).map (fun d => d.parameters.length) = some 0 := by decide +kernel
def m_X4_takeBracket_b45 (σ : St) : Option (Bool × St) :=
  some (true, (up σ 73 8 3))
set_option maxHeartbeats 4000000 in
set_option maxRecDepth 100000 in
theorem w_X4_takeBracket_b45 {C : XC} {Q : State → Prop} {g : cG} (σ : St) (o : Bool × St) (h : XOk C cX4_takeBracket RX4 tG rmX4_takeBracket) (hg : XG C g) (hL : C.2.2.2.2.2.2.2.2.2.2.2.2.1 = 2) (hr : XEnd C (some .boolean) Q (XQ g (some (.int (bI o.1))) o.2) (cA g)) (hf : m_X4_takeBracket_b45 σ  = some o) : Xs C (wW g) Q σ 45 [(0, .ref (gA g 73))] [] := by
  unfold m_X4_takeBracket_b45 at hf
  refine x_aload_n h dX4_takeBracket_45 rfl 0 rfl (q := 46) rfl ?_
  refine x_iconst (v := 3) h dX4_takeBracket_46 (by decide) (q := 47) rfl ?_
  refine x_put_X4_73_8 h hg kf_X4_52 nn_X4 dX4_takeBracket_47 ?_
  refine x_iconst (v := 1) h dX4_takeBracket_50 (by decide) (q := 51) rfl ?_
  have hz := Option.some.inj hf
  subst hz
  exact x_zret (b := true) h hg hr dX4_takeBracket_51
def m_X4_takeBracket_b36 (σ : St) : Option (Bool × St) :=
  (m_X4_close σ).bind fun u1 =>
  m_X4_takeBracket_b45 u1
set_option maxHeartbeats 4000000 in
set_option maxRecDepth 100000 in
theorem w_X4_takeBracket_b36 {C : XC} {Q : State → Prop} {g : cG} (σ : St) (o : Bool × St) (h : XOk C cX4_takeBracket RX4 tG rmX4_takeBracket) (hg : XG C g) (hL : C.2.2.2.2.2.2.2.2.2.2.2.2.1 = 2) (hr : XEnd C (some .boolean) Q (XQ g (some (.int (bI o.1))) o.2) (cA g)) (hf : m_X4_takeBracket_b36 σ  = some o) : Xs C (wW g) Q σ 36 [(0, .ref (gA g 73))] [] := by
  unfold m_X4_takeBracket_b36 at hf
  refine x_aload_n h dX4_takeBracket_36 rfl 0 rfl (q := 37) rfl ?_
  obtain ⟨u1, hu1, hf2⟩ := bnd_inv hf
  refine x_callVv (As := []) (rest := []) h hg (c_X4_close C.2.1 hg.2.1 σ _ hu1) ml_X4_106 biX4_close rfl rfl hdX4_close ⟨Nat.le_of_ble_eq_true rfl, Nat.le_of_ble_eq_true rfl⟩ (by decide) (cE_73 g _) rfl rfl rfl (Nat.le_of_ble_eq_true rfl) dX4_takeBracket_37 ?_
  refine x_goto (q := 45) h dX4_takeBracket_40 (by decide) ?_
  exact w_X4_takeBracket_b45 u1 o h hg hL hr hf2
def m_X4_takeBracket (σ : St) : Option (Bool × St) :=
  if (m_X4_topOpen σ) = 14 then (
    m_X4_takeBracket_b45 (up σ 73 6 ((σ 73 6) - 1))
  ) else (
    if (m_X4_topOpen σ) = 9 then (
      m_X4_takeBracket_b36 σ
    ) else (
      if (m_X4_topOpen σ) = 13 then (
        m_X4_takeBracket_b36 σ
      ) else (
        some (false, σ)
      )
    )
  )
set_option maxHeartbeats 4000000 in
set_option maxRecDepth 100000 in
theorem w_X4_takeBracket {C : XC} {Q : State → Prop} {g : cG} (σ : St) (o : Bool × St) (h : XOk C cX4_takeBracket RX4 tG rmX4_takeBracket) (hg : XG C g) (hL : C.2.2.2.2.2.2.2.2.2.2.2.2.1 = 2) (hr : XEnd C (some .boolean) Q (XQ g (some (.int (bI o.1))) o.2) (cA g)) (hf : m_X4_takeBracket σ = some o) : Xs C (wW g) Q σ 0 [(0, .ref (gA g 73))] [] := by
  unfold m_X4_takeBracket at hf
  refine x_aload_n h dX4_takeBracket_0 rfl 0 rfl (q := 1) rfl ?_
  refine x_callVi (As := []) (rest := []) h hg (c_X4_topOpen C.2.1 hg.2.1 σ _ rfl) ml_X4_102 biX4_topOpen rfl rfl hdX4_topOpen ⟨Nat.le_of_ble_eq_true rfl, Nat.le_of_ble_eq_true rfl⟩ (by decide) (cE_73 g _) rfl rfl rfl (Nat.le_of_ble_eq_true rfl) dX4_takeBracket_1 ?_
  refine x_istore_n (lv' := [(1, .int (m_X4_topOpen σ)), (0, .ref (gA g 73))]) h dX4_takeBracket_4 rfl hL (by decide) rfl (q := 5) rfl ?_
  refine x_iload_n h dX4_takeBracket_5 rfl 0 rfl (q := 6) rfl ?_
  refine x_bipush (v := 14) h dX4_takeBracket_6 (by decide) (q := 8) rfl ?_
  refine x_icmp_ne (tgt := 24) h dX4_takeBracket_8 (by decide) (q := 11) rfl hf (fun hc1 hf2 => ?_) (fun hc1 hf2 => ?_)
  · skip
    refine x_iload_n h dX4_takeBracket_24 rfl 0 rfl (q := 25) rfl ?_
    refine x_bipush (v := 9) h dX4_takeBracket_25 (by decide) (q := 27) rfl ?_
    refine x_icmp_eq (tgt := 36) h dX4_takeBracket_27 (by decide) (q := 30) rfl hf2 (fun hc3 hf4 => ?_) (fun hc3 hf4 => ?_)
    · skip
      refine x_sub (lv' := [(0, .ref (gA g 73))]) [1] rfl ?_
      exact w_X4_takeBracket_b36 σ o h hg hL hr hf4
    · skip
      refine x_iload_n h dX4_takeBracket_30 rfl 0 rfl (q := 31) rfl ?_
      refine x_bipush (v := 13) h dX4_takeBracket_31 (by decide) (q := 33) rfl ?_
      refine x_icmp_ne (tgt := 43) h dX4_takeBracket_33 (by decide) (q := 36) rfl hf4 (fun hc5 hf6 => ?_) (fun hc5 hf6 => ?_)
      · skip
        refine x_iconst (v := 0) h dX4_takeBracket_43 (by decide) (q := 44) rfl ?_
        have hz := Option.some.inj hf6
        subst hz
        exact x_zret (b := false) h hg hr dX4_takeBracket_44
      · skip
        refine x_sub (lv' := [(0, .ref (gA g 73))]) [1] rfl ?_
        exact w_X4_takeBracket_b36 σ o h hg hL hr hf6
  · skip
    refine x_aload_n h dX4_takeBracket_11 rfl 1 rfl (q := 12) rfl ?_
    refine x_dup h dX4_takeBracket_12 rfl (q := 13) rfl ?_
    refine x_get_X4_73_6 h hg kf_X4_46 nn_X4 dX4_takeBracket_13 ?_
    refine x_iconst (v := 1) h dX4_takeBracket_16 (by decide) (q := 17) rfl ?_
    refine x_isub h dX4_takeBracket_17 (q := 18) rfl ?_
    refine x_put_X4_73_6 h hg kf_X4_46 nn_X4 dX4_takeBracket_18 ?_
    refine x_goto (q := 45) h dX4_takeBracket_21 (by decide) ?_
    refine x_sub (lv' := [(0, .ref (gA g 73))]) [1] rfl ?_
    exact w_X4_takeBracket_b45 (up σ 73 6 ((σ 73 6) - 1)) o h hg hL hr hf2
theorem c_X4_takeBracket (l : Launch) {g : cG} (hi : gInj g) (σ : St) (o : Bool × St) (hf : m_X4_takeBracket σ = some o) : Met l yX4_takeBracket (wT yX4_takeBracket cX4_takeBracket 2 (some .boolean)) rmX4_takeBracket (va_Pc [.ref (gA g 73)] (XPre g σ)) (XQ g (some (.int (bI o.1))) o.2) 0 0 (cA g) :=
  X_met RX4 hi plX4 rfl (Nat.le_of_ble_eq_true rfl) rfl (fun _ _ _ h hg hL hr => w_X4_takeBracket σ o h hg hL hr hf)
abbrev rmX4_takeAfterUnit : Room := { frames := 4, cells := 0, slots := 0, locals := 91 }
theorem hdX4_takeAfterUnit : yX4_takeAfterUnit.cls = RX4 ∧ yX4_takeAfterUnit.cls ≠ "java/lang/invoke/MethodHandle" ∧ yX4_takeAfterUnit.cls ≠ "java/lang/invoke/VarHandle" ∧ (parseMethodDescriptor yX4_takeAfterUnit.desc).map (fun d => d.parameters.length) = some 1 := by decide +kernel
def m_X4_takeAfterUnit (σ : St) (x1 : Int32) : Option (Bool × St) :=
  (m_X4_closeIf σ 4).bind fun u1 =>
  if x1 = 38 then (
    some ((m_X4_push u1 4 0).1, (m_X4_push u1 4 0).2)
  ) else (
    (m_X4_closeIf u1 5).bind fun u5 =>
    if x1 = 41 then (
      (m_X4_takeBracket u5).bind fun u10 =>
      some (u10.1, u10.2)
    ) else (
      if x1 = 85 then (
        some ((m_X4_takeUntil u5).1, (m_X4_takeUntil u5).2)
      ) else (
        if x1 = 124 then (
          some ((m_X4_push u5 5 0).1, (m_X4_push u5 5 0).2)
        ) else (
          some (false, u5)
        )
      )
    )
  )
set_option maxHeartbeats 4000000 in
set_option maxRecDepth 100000 in
theorem w_X4_takeAfterUnit {C : XC} {Q : State → Prop} {g : cG} (σ : St) (x1 : Int32) (o : Bool × St) (h : XOk C cX4_takeAfterUnit RX4 tG rmX4_takeAfterUnit) (hg : XG C g) (hL : C.2.2.2.2.2.2.2.2.2.2.2.2.1 = 2) (hr : XEnd C (some .boolean) Q (XQ g (some (.int (bI o.1))) o.2) (cA g)) (hf : m_X4_takeAfterUnit σ x1 = some o) : Xs C (wW g) Q σ 0 [(0, .ref (gA g 73)), (1, .int x1)] [] := by
  unfold m_X4_takeAfterUnit at hf
  refine x_aload_n h dX4_takeAfterUnit_0 rfl 0 rfl (q := 1) rfl ?_
  refine x_iconst (v := 4) h dX4_takeAfterUnit_1 (by decide) (q := 2) rfl ?_
  obtain ⟨u1, hu1, hf2⟩ := bnd_inv hf
  refine x_callVv (As := [.int 4]) (rest := []) h hg (c_X4_closeIf C.2.1 hg.2.1 σ 4 _ hu1) ml_X4_66 biX4_closeIf rfl rfl hdX4_closeIf ⟨Nat.le_of_ble_eq_true rfl, Nat.le_of_ble_eq_true rfl⟩ (by decide) (cE_73 g _) rfl rfl rfl (Nat.le_of_ble_eq_true rfl) dX4_takeAfterUnit_2 ?_
  refine x_iload_n h dX4_takeAfterUnit_5 rfl 1 rfl (q := 6) rfl ?_
  refine x_bipush (v := 38) h dX4_takeAfterUnit_6 (by decide) (q := 8) rfl ?_
  refine x_icmp_ne (tgt := 18) h dX4_takeAfterUnit_8 (by decide) (q := 11) rfl hf2 (fun hc3 hf4 => ?_) (fun hc3 hf4 => ?_)
  · skip
    refine x_aload_n h dX4_takeAfterUnit_18 rfl 0 rfl (q := 19) rfl ?_
    refine x_iconst (v := 5) h dX4_takeAfterUnit_19 (by decide) (q := 20) rfl ?_
    obtain ⟨u5, hu5, hf6⟩ := bnd_inv hf4
    refine x_callVv (As := [.int 5]) (rest := []) h hg (c_X4_closeIf C.2.1 hg.2.1 u1 5 _ hu5) ml_X4_66 biX4_closeIf rfl rfl hdX4_closeIf ⟨Nat.le_of_ble_eq_true rfl, Nat.le_of_ble_eq_true rfl⟩ (by decide) (cE_73 g _) rfl rfl rfl (Nat.le_of_ble_eq_true rfl) dX4_takeAfterUnit_20 ?_
    refine x_iload_n h dX4_takeAfterUnit_23 rfl 1 rfl (q := 24) rfl ?_
    by_cases hs8 : x1 = 41
    · have hf9 := (if_pos hs8).symm.trans hf6
      refine x_lookup (tgt := 72) h dX4_takeAfterUnit_24 rfl (off := 48) (by rw [hs8]; decide) (by decide) ?_
      refine x_aload_n h dX4_takeAfterUnit_72 rfl 0 rfl (q := 73) rfl ?_
      obtain ⟨u10, hu10, hf11⟩ := bnd_inv hf9
      refine x_callVi (As := []) (rest := []) h hg (c_X4_takeBracket C.2.1 hg.2.1 u5 _ hu10) ml_X4_99 biX4_takeBracket rfl rfl hdX4_takeBracket ⟨Nat.le_of_ble_eq_true rfl, Nat.le_of_ble_eq_true rfl⟩ (by decide) (cE_73 g _) rfl rfl rfl (Nat.le_of_ble_eq_true rfl) dX4_takeAfterUnit_73 ?_
      have hz := Option.some.inj hf11
      subst hz
      exact x_zret (b := u10.1) h hg hr dX4_takeAfterUnit_76
    · have hf12 := (if_neg hs8).symm.trans hf6
      by_cases hs13 : x1 = 85
      · have hf14 := (if_pos hs13).symm.trans hf12
        refine x_lookup (tgt := 67) h dX4_takeAfterUnit_24 rfl (off := 43) (by rw [hs13]; decide) (by decide) ?_
        refine x_aload_n h dX4_takeAfterUnit_67 rfl 0 rfl (q := 68) rfl ?_
        refine x_callVi (As := []) (rest := []) h hg (c_X4_takeUntil C.2.1 hg.2.1 u5 _ rfl) ml_X4_95 biX4_takeUntil rfl rfl hdX4_takeUntil ⟨Nat.le_of_ble_eq_true rfl, Nat.le_of_ble_eq_true rfl⟩ (by decide) (cE_73 g _) rfl rfl rfl (Nat.le_of_ble_eq_true rfl) dX4_takeAfterUnit_68 ?_
        have hz := Option.some.inj hf14
        subst hz
        exact x_zret (b := (m_X4_takeUntil u5).1) h hg hr dX4_takeAfterUnit_71
      · have hf15 := (if_neg hs13).symm.trans hf12
        by_cases hs16 : x1 = 124
        · have hf17 := (if_pos hs16).symm.trans hf15
          refine x_lookup (tgt := 60) h dX4_takeAfterUnit_24 rfl (off := 36) (by rw [hs16]; decide) (by decide) ?_
          refine x_aload_n h dX4_takeAfterUnit_60 rfl 0 rfl (q := 61) rfl ?_
          refine x_iconst (v := 5) h dX4_takeAfterUnit_61 (by decide) (q := 62) rfl ?_
          refine x_iconst (v := 0) h dX4_takeAfterUnit_62 (by decide) (q := 63) rfl ?_
          refine x_callVi (As := [.int 5, .int 0]) (rest := []) h hg (c_X4_push C.2.1 hg.2.1 u5 5 0 _ rfl) ml_X4_86 biX4_push rfl rfl hdX4_push ⟨Nat.le_of_ble_eq_true rfl, Nat.le_of_ble_eq_true rfl⟩ (by decide) (cE_73 g _) rfl rfl rfl (Nat.le_of_ble_eq_true rfl) dX4_takeAfterUnit_63 ?_
          have hz := Option.some.inj hf17
          subst hz
          exact x_zret (b := (m_X4_push u5 5 0).1) h hg hr dX4_takeAfterUnit_66
        · have hf18 := (if_neg hs16).symm.trans hf15
          refine x_lookup (tgt := 77) h dX4_takeAfterUnit_24 rfl (off := 53) (by refine (lv_osw hs8 (by decide)).trans ?_; refine (lv_osw hs13 (by decide)).trans ?_; refine (lv_osw hs16 (by decide)).trans ?_; rfl) (by decide) ?_
          refine x_iconst (v := 0) h dX4_takeAfterUnit_77 (by decide) (q := 78) rfl ?_
          have hz := Option.some.inj hf18
          subst hz
          exact x_zret (b := false) h hg hr dX4_takeAfterUnit_78
  · skip
    refine x_aload_n h dX4_takeAfterUnit_11 rfl 0 rfl (q := 12) rfl ?_
    refine x_iconst (v := 4) h dX4_takeAfterUnit_12 (by decide) (q := 13) rfl ?_
    refine x_iconst (v := 0) h dX4_takeAfterUnit_13 (by decide) (q := 14) rfl ?_
    refine x_callVi (As := [.int 4, .int 0]) (rest := []) h hg (c_X4_push C.2.1 hg.2.1 u1 4 0 _ rfl) ml_X4_86 biX4_push rfl rfl hdX4_push ⟨Nat.le_of_ble_eq_true rfl, Nat.le_of_ble_eq_true rfl⟩ (by decide) (cE_73 g _) rfl rfl rfl (Nat.le_of_ble_eq_true rfl) dX4_takeAfterUnit_14 ?_
    have hz := Option.some.inj hf4
    subst hz
    exact x_zret (b := (m_X4_push u1 4 0).1) h hg hr dX4_takeAfterUnit_17
theorem c_X4_takeAfterUnit (l : Launch) {g : cG} (hi : gInj g) (σ : St) (x1 : Int32) (o : Bool × St) (hf : m_X4_takeAfterUnit σ x1 = some o) : Met l yX4_takeAfterUnit (wT yX4_takeAfterUnit cX4_takeAfterUnit 2 (some .boolean)) rmX4_takeAfterUnit (va_Pc [.ref (gA g 73), .int x1] (XPre g σ)) (XQ g (some (.int (bI o.1))) o.2) 0 0 (cA g) :=
  X_met RX4 hi plX4 rfl (Nat.le_of_ble_eq_true rfl) rfl (fun _ _ _ h hg hL hr => w_X4_takeAfterUnit σ x1 o h hg hL hr hf)
abbrev rmX4_take : Room := { frames := 5, cells := 0, slots := 0, locals := 112 }
theorem hdX4_take : yX4_take.cls = RX4 ∧ yX4_take.cls ≠ "java/lang/invoke/MethodHandle" ∧ yX4_take.cls ≠ "java/lang/invoke/VarHandle" ∧ (parseMethodDescriptor yX4_take.desc).map (fun d => d.parameters.length) = some 1 := by decide +kernel
def m_X4_take (σ : St) (x1 : Int32) : Option (Bool × St) :=
  if (σ 73 8) = 0 then (
    (m_X4_takeUnit σ x1).bind fun u4 =>
    some (u4.1, u4.2)
  ) else (
    if (σ 73 8) = 1 then (
      some ((m_X4_takeAgent σ x1).1, (m_X4_takeAgent σ x1).2)
    ) else (
      if (σ 73 8) = 2 then (
        some ((m_X4_takeGoal σ x1).1, (m_X4_takeGoal σ x1).2)
      ) else (
        (m_X4_takeAfterUnit σ x1).bind fun u13 =>
        some (u13.1, u13.2)
      )
    )
  )
set_option maxHeartbeats 4000000 in
set_option maxRecDepth 100000 in
theorem w_X4_take {C : XC} {Q : State → Prop} {g : cG} (σ : St) (x1 : Int32) (o : Bool × St) (h : XOk C cX4_take RX4 tG rmX4_take) (hg : XG C g) (hL : C.2.2.2.2.2.2.2.2.2.2.2.2.1 = 2) (hr : XEnd C (some .boolean) Q (XQ g (some (.int (bI o.1))) o.2) (cA g)) (hf : m_X4_take σ x1 = some o) : Xs C (wW g) Q σ 0 [(0, .ref (gA g 73)), (1, .int x1)] [] := by
  unfold m_X4_take at hf
  refine x_aload_n h dX4_take_0 rfl 0 rfl (q := 1) rfl ?_
  refine x_get_X4_73_8 h hg kf_X4_52 nn_X4 dX4_take_1 ?_
  by_cases hs2 : (σ 73 8) = 0
  · have hf3 := (if_pos hs2).symm.trans hf
    refine x_tableIn (tgt := 32) h dX4_take_4 (by rw [hs2]; decide) (by rw [hs2]; decide) (off := 28) (by rw [hs2]; decide) (by decide) ?_
    refine x_aload_n h dX4_take_32 rfl 0 rfl (q := 33) rfl ?_
    refine x_iload_n h dX4_take_33 rfl 1 rfl (q := 34) rfl ?_
    obtain ⟨u4, hu4, hf5⟩ := bnd_inv hf3
    refine x_callVi (As := [.int x1]) (rest := []) h hg (c_X4_takeUnit C.2.1 hg.2.1 σ x1 _ hu4) ml_X4_70 biX4_takeUnit rfl rfl hdX4_takeUnit ⟨Nat.le_of_ble_eq_true rfl, Nat.le_of_ble_eq_true rfl⟩ (by decide) (cE_73 g _) rfl rfl rfl (Nat.le_of_ble_eq_true rfl) dX4_take_34 ?_
    have hz := Option.some.inj hf5
    subst hz
    exact x_zret (b := u4.1) h hg hr dX4_take_37
  · have hf6 := (if_neg hs2).symm.trans hf
    by_cases hs7 : (σ 73 8) = 1
    · have hf8 := (if_pos hs7).symm.trans hf6
      refine x_tableIn (tgt := 38) h dX4_take_4 (by rw [hs7]; decide) (by rw [hs7]; decide) (off := 34) (by rw [hs7]; decide) (by decide) ?_
      refine x_aload_n h dX4_take_38 rfl 0 rfl (q := 39) rfl ?_
      refine x_iload_n h dX4_take_39 rfl 1 rfl (q := 40) rfl ?_
      refine x_callVi (As := [.int x1]) (rest := []) h hg (c_X4_takeAgent C.2.1 hg.2.1 σ x1 _ rfl) ml_X4_73 biX4_takeAgent rfl rfl hdX4_takeAgent ⟨Nat.le_of_ble_eq_true rfl, Nat.le_of_ble_eq_true rfl⟩ (by decide) (cE_73 g _) rfl rfl rfl (Nat.le_of_ble_eq_true rfl) dX4_take_40 ?_
      have hz := Option.some.inj hf8
      subst hz
      exact x_zret (b := (m_X4_takeAgent σ x1).1) h hg hr dX4_take_43
    · have hf9 := (if_neg hs7).symm.trans hf6
      by_cases hs10 : (σ 73 8) = 2
      · have hf11 := (if_pos hs10).symm.trans hf9
        refine x_tableIn (tgt := 44) h dX4_take_4 (by rw [hs10]; decide) (by rw [hs10]; decide) (off := 40) (by rw [hs10]; decide) (by decide) ?_
        refine x_aload_n h dX4_take_44 rfl 0 rfl (q := 45) rfl ?_
        refine x_iload_n h dX4_take_45 rfl 1 rfl (q := 46) rfl ?_
        refine x_callVi (As := [.int x1]) (rest := []) h hg (c_X4_takeGoal C.2.1 hg.2.1 σ x1 _ rfl) ml_X4_76 biX4_takeGoal rfl rfl hdX4_takeGoal ⟨Nat.le_of_ble_eq_true rfl, Nat.le_of_ble_eq_true rfl⟩ (by decide) (cE_73 g _) rfl rfl rfl (Nat.le_of_ble_eq_true rfl) dX4_take_46 ?_
        have hz := Option.some.inj hf11
        subst hz
        exact x_zret (b := (m_X4_takeGoal σ x1).1) h hg hr dX4_take_49
      · have hf12 := (if_neg hs10).symm.trans hf9
        refine x_tableOut (tgt := 50) h dX4_take_4 (by have hs2 := ne_toInt hs2; have hs7 := ne_toInt hs7; have hs10 := ne_toInt hs10; have ehs2 : (0 : Int32).toInt = 0 := (by decide); have ehs7 : (1 : Int32).toInt = 1 := (by decide); have ehs10 : (2 : Int32).toInt = 2 := (by decide); omega) (by decide) ?_
        refine x_aload_n h dX4_take_50 rfl 0 rfl (q := 51) rfl ?_
        refine x_iload_n h dX4_take_51 rfl 1 rfl (q := 52) rfl ?_
        obtain ⟨u13, hu13, hf14⟩ := bnd_inv hf12
        refine x_callVi (As := [.int x1]) (rest := []) h hg (c_X4_takeAfterUnit C.2.1 hg.2.1 σ x1 _ hu13) ml_X4_79 biX4_takeAfterUnit rfl rfl hdX4_takeAfterUnit ⟨Nat.le_of_ble_eq_true rfl, Nat.le_of_ble_eq_true rfl⟩ (by decide) (cE_73 g _) rfl rfl rfl (Nat.le_of_ble_eq_true rfl) dX4_take_52 ?_
        have hz := Option.some.inj hf14
        subst hz
        exact x_zret (b := u13.1) h hg hr dX4_take_55
theorem c_X4_take (l : Launch) {g : cG} (hi : gInj g) (σ : St) (x1 : Int32) (o : Bool × St) (hf : m_X4_take σ x1 = some o) : Met l yX4_take (wT yX4_take cX4_take 2 (some .boolean)) rmX4_take (va_Pc [.ref (gA g 73), .int x1] (XPre g σ)) (XQ g (some (.int (bI o.1))) o.2) 0 0 (cA g) :=
  X_met RX4 hi plX4 rfl (Nat.le_of_ble_eq_true rfl) rfl (fun _ _ _ h hg hL hr => w_X4_take σ x1 o h hg hL hr hf)
abbrev rmX4_closePrefixes : Room := { frames := 3, cells := 0, slots := 0, locals := 70 }
theorem hdX4_closePrefixes : yX4_closePrefixes.cls = RX4 ∧ yX4_closePrefixes.cls ≠ "java/lang/invoke/MethodHandle" ∧ yX4_closePrefixes.cls ≠ "java/lang/invoke/VarHandle" ∧ (parseMethodDescriptor yX4_closePrefixes.desc).map (fun d => d.parameters.length) = some 0 := by decide +kernel
def m_X4_closePrefixes_b5 (σ : St) (x1 : Int32) (k5 : (St × Int32) → Option (St)) : Option (St) :=
  if x1 ≤ 0 then (
    some σ
  ) else (
    if (bI (m_X4_isPrefix (m_X4_topOpen σ))) = 0 then (
      some σ
    ) else (
      (m_X4_close σ).bind fun u5 =>
      k5 (u5, (x1 + (-1)))
    )
  )
set_option maxHeartbeats 4000000 in
set_option maxRecDepth 100000 in
theorem w_X4_closePrefixes_b5 {C : XC} {Q : State → Prop} {g : cG} (σ : St) (x1 : Int32) (o : St) (h : XOk C cX4_closePrefixes RX4 tG rmX4_closePrefixes) (hg : XG C g) (hL : C.2.2.2.2.2.2.2.2.2.2.2.2.1 = 2) (hr : XEnd C none Q (XQ g (none) o) (cA g)) (k5 : (St × Int32) → Option (St)) (hk5 : ∀ z : St × Int32, k5 z = some o → Xs C (wW g) Q z.1 5 [(0, .ref (gA g 73)), (1, .int z.2)] []) (hf : m_X4_closePrefixes_b5 σ x1 k5 = some o) : Xs C (wW g) Q σ 5 [(0, .ref (gA g 73)), (1, .int x1)] [] := by
  unfold m_X4_closePrefixes_b5 at hf
  refine x_iload_n h dX4_closePrefixes_5 rfl 1 rfl (q := 6) rfl ?_
  refine x_if_le (tgt := 29) h dX4_closePrefixes_6 (by decide) (q := 9) rfl hf (fun hc1 hf2 => ?_) (fun hc1 hf2 => ?_)
  · skip
    have hz := Option.some.inj hf2
    subst hz
    exact x_vret h hg hr dX4_closePrefixes_29
  · skip
    refine x_aload_n h dX4_closePrefixes_9 rfl 0 rfl (q := 10) rfl ?_
    refine x_callVi (As := []) (rest := []) h hg (c_X4_topOpen C.2.1 hg.2.1 σ _ rfl) ml_X4_102 biX4_topOpen rfl rfl hdX4_topOpen ⟨Nat.le_of_ble_eq_true rfl, Nat.le_of_ble_eq_true rfl⟩ (by decide) (cE_73 g _) rfl rfl rfl (Nat.le_of_ble_eq_true rfl) dX4_closePrefixes_10 ?_
    refine x_callPi (As := [.int (m_X4_topOpen σ)]) (rest := []) h (c_X4_isPrefix C.2.1 (m_X4_topOpen σ) _ rfl) ml_X4_116 biX4_isPrefix rfl rfl hdX4_isPrefix ⟨Nat.le_of_ble_eq_true rfl, Nat.le_of_ble_eq_true rfl⟩ rfl rfl (Nat.le_of_ble_eq_true rfl) dX4_closePrefixes_13 ?_
    refine x_if_eq (tgt := 29) h dX4_closePrefixes_16 (by decide) (q := 19) rfl hf2 (fun hc3 hf4 => ?_) (fun hc3 hf4 => ?_)
    · skip
      have hz := Option.some.inj hf4
      subst hz
      exact x_vret h hg hr dX4_closePrefixes_29
    · skip
      refine x_aload_n h dX4_closePrefixes_19 rfl 0 rfl (q := 20) rfl ?_
      obtain ⟨u5, hu5, hf6⟩ := bnd_inv hf4
      refine x_callVv (As := []) (rest := []) h hg (c_X4_close C.2.1 hg.2.1 σ _ hu5) ml_X4_106 biX4_close rfl rfl hdX4_close ⟨Nat.le_of_ble_eq_true rfl, Nat.le_of_ble_eq_true rfl⟩ (by decide) (cE_73 g _) rfl rfl rfl (Nat.le_of_ble_eq_true rfl) dX4_closePrefixes_20 ?_
      refine x_iinc (v := (x1 + (-1))) (lv' := [(1, .int (x1 + (-1))), (0, .ref (gA g 73))]) (j := 1) h dX4_closePrefixes_23 rfl rfl hL (by decide) rfl (q := 26) rfl ?_
      refine x_goto (q := 5) h dX4_closePrefixes_26 (by decide) ?_
      refine x_sub (lv' := [(0, .ref (gA g 73)), (1, .int (x1 + (-1)))]) [1, 0] rfl ?_
      exact hk5 (u5, (x1 + (-1))) hf6
set_option maxHeartbeats 4000000 in
set_option maxRecDepth 100000 in
theorem w_X4_closePrefixes_l5 {C : XC} {Q : State → Prop} {g : cG} (o : St) (h : XOk C cX4_closePrefixes RX4 tG rmX4_closePrefixes) (hg : XG C g) (hL : C.2.2.2.2.2.2.2.2.2.2.2.2.1 = 2) (hr : XEnd C none Q (XQ g (none) o) (cA g)) : ∀ (n : Nat) (z : St × Int32), loopF (fun k z => m_X4_closePrefixes_b5 z.1 z.2 k) n z = some o → Xs C (wW g) Q z.1 5 [(0, .ref (gA g 73)), (1, .int z.2)] [] := by
  intro n z hf
  refine loopF_ind (S := St × Int32) (O := St) (step := (fun k z => m_X4_closePrefixes_b5 z.1 z.2 k)) (o := o) (P := fun z => Xs C (wW g) Q z.1 5 [(0, .ref (gA g 73)), (1, .int z.2)] []) ?_ n z hf
  intro k hk z hf
  exact w_X4_closePrefixes_b5 z.1 z.2 o h hg hL hr k hk hf
def m_X4_closePrefixes (σ : St) : Option (St) :=
  loopF (fun k z => m_X4_closePrefixes_b5 z.1 z.2 k) cFu (σ, (σ 73 6))
set_option maxHeartbeats 4000000 in
set_option maxRecDepth 100000 in
theorem w_X4_closePrefixes {C : XC} {Q : State → Prop} {g : cG} (σ : St) (o : St) (h : XOk C cX4_closePrefixes RX4 tG rmX4_closePrefixes) (hg : XG C g) (hL : C.2.2.2.2.2.2.2.2.2.2.2.2.1 = 2) (hr : XEnd C none Q (XQ g (none) o) (cA g)) (hf : m_X4_closePrefixes σ = some o) : Xs C (wW g) Q σ 0 [(0, .ref (gA g 73))] [] := by
  unfold m_X4_closePrefixes at hf
  refine x_aload_n h dX4_closePrefixes_0 rfl 0 rfl (q := 1) rfl ?_
  refine x_get_X4_73_6 h hg kf_X4_46 nn_X4 dX4_closePrefixes_1 ?_
  refine x_istore_n (lv' := [(1, .int (σ 73 6)), (0, .ref (gA g 73))]) h dX4_closePrefixes_4 rfl hL (by decide) rfl (q := 5) rfl ?_
  refine x_sub (lv' := [(0, .ref (gA g 73)), (1, .int (σ 73 6))]) [1, 0] rfl ?_
  exact w_X4_closePrefixes_l5  o h hg hL hr  cFu (σ, (σ 73 6)) hf
theorem c_X4_closePrefixes (l : Launch) {g : cG} (hi : gInj g) (σ : St) (o : St) (hf : m_X4_closePrefixes σ = some o) : Met l yX4_closePrefixes (wT yX4_closePrefixes cX4_closePrefixes 2 none) rmX4_closePrefixes (va_Pc [.ref (gA g 73)] (XPre g σ)) (XQ g (none) o) 0 0 (cA g) :=
  X_met RX4 hi plX4 rfl (Nat.le_of_ble_eq_true rfl) rfl (fun _ _ _ h hg hL hr => w_X4_closePrefixes σ o h hg hL hr hf)
abbrev rmX4_parse : Room := { frames := 6, cells := 0, slots := 0, locals := 133 }
theorem hdX4_parse : yX4_parse.cls = RX4 ∧ yX4_parse.cls ≠ "java/lang/invoke/MethodHandle" ∧ yX4_parse.cls ≠ "java/lang/invoke/VarHandle" ∧ (parseMethodDescriptor yX4_parse.desc).map (fun d => d.parameters.length) = some 1 := by decide +kernel
def m_X4_parse_b36 (σ : St) (t1 : Nat) (x2 : Int32) (k36 : (St × Int32) → Option (Int32 × St)) : Option (Int32 × St) :=
  if (σ 73 5) ≤ x2 then (
    if (σ 73 8) = 3 then (
      (m_X4_closeIf σ 4).bind fun u5 =>
      (m_X4_closeIf u5 5).bind fun u7 =>
      if (u7 73 6) = 0 then (
        some ((-1), u7)
      ) else (
        some ((u7 73 5), u7)
      )
    ) else (
      some ((σ 73 5), σ)
    )
  ) else (
    (m_X4_take σ (rAt 60 (σ 74) x2)).bind fun u11 =>
    if (bI u11.1) = 0 then (
      some (x2, u11.2)
    ) else (
      if (u11.2 73 8) = 3 then (
        (m_X4_closePrefixes u11.2).bind fun u17 =>
        k36 (u17, (x2 + 1))
      ) else (
        k36 (u11.2, (x2 + 1))
      )
    )
  )
set_option maxHeartbeats 4000000 in
set_option maxRecDepth 100000 in
theorem w_X4_parse_b36 {C : XC} {Q : State → Prop} {g : cG} (σ : St) (t1 : Nat) (x2 : Int32) (ht1 : isF t1 = true) (o : Int32 × St) (h : XOk C cX4_parse RX4 tG rmX4_parse) (hg : XG C g) (hL : C.2.2.2.2.2.2.2.2.2.2.2.2.1 = 3) (hr : XEnd C (some .int) Q (XQ g (some (.int o.1)) o.2) (cA g)) (k36 : (St × Int32) → Option (Int32 × St)) (hk36 : ∀ z : St × Int32, k36 z = some o → Xs C (wW g) Q z.1 36 [(0, .ref (gA g 73)), (2, .int z.2)] []) (hf : m_X4_parse_b36 σ t1 x2 k36 = some o) : Xs C (wW g) Q σ 36 [(0, .ref (gA g 73)), (2, .int x2)] [] := by
  unfold m_X4_parse_b36 at hf
  refine x_iload_n h dX4_parse_36 rfl 1 rfl (q := 37) rfl ?_
  refine x_aload_n h dX4_parse_37 rfl 0 rfl (q := 38) rfl ?_
  refine x_get_X4_73_5 h hg kf_X4_24 nn_X4 dX4_parse_38 ?_
  refine x_icmp_ge (tgt := 79) h dX4_parse_41 (by decide) (q := 44) rfl hf (fun hc1 hf2 => ?_) (fun hc1 hf2 => ?_)
  · skip
    refine x_aload_n h dX4_parse_79 rfl 0 rfl (q := 80) rfl ?_
    refine x_get_X4_73_8 h hg kf_X4_52 nn_X4 dX4_parse_80 ?_
    refine x_iconst (v := 3) h dX4_parse_83 (by decide) (q := 84) rfl ?_
    refine x_icmp_eq (tgt := 92) h dX4_parse_84 (by decide) (q := 87) rfl hf2 (fun hc3 hf4 => ?_) (fun hc3 hf4 => ?_)
    · skip
      refine x_aload_n h dX4_parse_92 rfl 0 rfl (q := 93) rfl ?_
      refine x_iconst (v := 4) h dX4_parse_93 (by decide) (q := 94) rfl ?_
      obtain ⟨u5, hu5, hf6⟩ := bnd_inv hf4
      refine x_callVv (As := [.int 4]) (rest := []) h hg (c_X4_closeIf C.2.1 hg.2.1 σ 4 _ hu5) ml_X4_66 biX4_closeIf rfl rfl hdX4_closeIf ⟨Nat.le_of_ble_eq_true rfl, Nat.le_of_ble_eq_true rfl⟩ (by decide) (cE_73 g _) rfl rfl rfl (Nat.le_of_ble_eq_true rfl) dX4_parse_94 ?_
      refine x_aload_n h dX4_parse_97 rfl 0 rfl (q := 98) rfl ?_
      refine x_iconst (v := 5) h dX4_parse_98 (by decide) (q := 99) rfl ?_
      obtain ⟨u7, hu7, hf8⟩ := bnd_inv hf6
      refine x_callVv (As := [.int 5]) (rest := []) h hg (c_X4_closeIf C.2.1 hg.2.1 u5 5 _ hu7) ml_X4_66 biX4_closeIf rfl rfl hdX4_closeIf ⟨Nat.le_of_ble_eq_true rfl, Nat.le_of_ble_eq_true rfl⟩ (by decide) (cE_73 g _) rfl rfl rfl (Nat.le_of_ble_eq_true rfl) dX4_parse_99 ?_
      refine x_aload_n h dX4_parse_102 rfl 0 rfl (q := 103) rfl ?_
      refine x_get_X4_73_6 h hg kf_X4_46 nn_X4 dX4_parse_103 ?_
      refine x_if_ne (tgt := 113) h dX4_parse_106 (by decide) (q := 109) rfl hf8 (fun hc9 hf10 => ?_) (fun hc9 hf10 => ?_)
      · skip
        refine x_aload_n h dX4_parse_113 rfl 0 rfl (q := 114) rfl ?_
        refine x_get_X4_73_5 h hg kf_X4_24 nn_X4 dX4_parse_114 ?_
        have hz := Option.some.inj hf10
        subst hz
        exact x_iret h hg hr dX4_parse_117
      · skip
        refine x_iconst (v := (-1)) h dX4_parse_109 (by decide) (q := 110) rfl ?_
        refine x_goto (q := 117) h dX4_parse_110 (by decide) ?_
        have hz := Option.some.inj hf10
        subst hz
        exact x_iret h hg hr dX4_parse_117
    · skip
      refine x_aload_n h dX4_parse_87 rfl 0 rfl (q := 88) rfl ?_
      refine x_get_X4_73_5 h hg kf_X4_24 nn_X4 dX4_parse_88 ?_
      have hz := Option.some.inj hf4
      subst hz
      exact x_iret h hg hr dX4_parse_91
  · skip
    refine x_aload_n h dX4_parse_44 rfl 0 rfl (q := 45) rfl ?_
    refine x_aload_n h dX4_parse_45 rfl 0 rfl (q := 46) rfl ?_
    refine x_get_X4_73_1 h hg kf_X4_9 nn_X4 dX4_parse_46 ?_
    refine x_iload_n h dX4_parse_49 rfl 1 rfl (q := 50) rfl ?_
    refine x_callSi (As := [.ref (gA g 74), .int x2]) (rest := [.ref (gA g 73)]) h hg (c_X5_at C.2.1 hg.2.1 σ a_74 x2) ml_X4_55 biX5_at rfl rfl hdX5_at ⟨Nat.le_of_ble_eq_true rfl, Nat.le_of_ble_eq_true rfl⟩ rfl rfl (Nat.le_of_ble_eq_true rfl) dX4_parse_50 ?_
    obtain ⟨u11, hu11, hf12⟩ := bnd_inv hf2
    refine x_callVi (As := [.int (rAt 60 (σ 74) x2)]) (rest := []) h hg (c_X4_take C.2.1 hg.2.1 σ (rAt 60 (σ 74) x2) _ hu11) ml_X4_59 biX4_take rfl rfl hdX4_take ⟨Nat.le_of_ble_eq_true rfl, Nat.le_of_ble_eq_true rfl⟩ (by decide) (cE_73 g _) rfl rfl rfl (Nat.le_of_ble_eq_true rfl) dX4_parse_53 ?_
    refine x_if_ne (tgt := 61) h dX4_parse_56 (by decide) (q := 59) rfl hf12 (fun hc13 hf14 => ?_) (fun hc13 hf14 => ?_)
    · skip
      refine x_aload_n h dX4_parse_61 rfl 0 rfl (q := 62) rfl ?_
      refine x_get_X4_73_8 h hg kf_X4_52 nn_X4 dX4_parse_62 ?_
      refine x_iconst (v := 3) h dX4_parse_65 (by decide) (q := 66) rfl ?_
      refine x_icmp_ne (tgt := 73) h dX4_parse_66 (by decide) (q := 69) rfl hf14 (fun hc15 hf16 => ?_) (fun hc15 hf16 => ?_)
      · skip
        refine x_iinc (v := (x2 + 1)) (lv' := [(2, .int (x2 + 1)), (0, .ref (gA g 73))]) (j := 1) h dX4_parse_73 rfl rfl hL (by decide) rfl (q := 76) rfl ?_
        refine x_goto (q := 36) h dX4_parse_76 (by decide) ?_
        refine x_sub (lv' := [(0, .ref (gA g 73)), (2, .int (x2 + 1))]) [1, 0] rfl ?_
        exact hk36 (u11.2, (x2 + 1)) hf16
      · skip
        refine x_aload_n h dX4_parse_69 rfl 0 rfl (q := 70) rfl ?_
        obtain ⟨u17, hu17, hf18⟩ := bnd_inv hf16
        refine x_callVv (As := []) (rest := []) h hg (c_X4_closePrefixes C.2.1 hg.2.1 u11.2 _ hu17) ml_X4_63 biX4_closePrefixes rfl rfl hdX4_closePrefixes ⟨Nat.le_of_ble_eq_true rfl, Nat.le_of_ble_eq_true rfl⟩ (by decide) (cE_73 g _) rfl rfl rfl (Nat.le_of_ble_eq_true rfl) dX4_parse_70 ?_
        refine x_iinc (v := (x2 + 1)) (lv' := [(2, .int (x2 + 1)), (0, .ref (gA g 73))]) (j := 1) h dX4_parse_73 rfl rfl hL (by decide) rfl (q := 76) rfl ?_
        refine x_goto (q := 36) h dX4_parse_76 (by decide) ?_
        refine x_sub (lv' := [(0, .ref (gA g 73)), (2, .int (x2 + 1))]) [1, 0] rfl ?_
        exact hk36 (u17, (x2 + 1)) hf18
    · skip
      refine x_iload_n h dX4_parse_59 rfl 1 rfl (q := 60) rfl ?_
      have hz := Option.some.inj hf14
      subst hz
      exact x_iret h hg hr dX4_parse_60
set_option maxHeartbeats 4000000 in
set_option maxRecDepth 100000 in
theorem w_X4_parse_l36 {C : XC} {Q : State → Prop} {g : cG} (t1 : Nat) (ht1 : isF t1 = true) (o : Int32 × St) (h : XOk C cX4_parse RX4 tG rmX4_parse) (hg : XG C g) (hL : C.2.2.2.2.2.2.2.2.2.2.2.2.1 = 3) (hr : XEnd C (some .int) Q (XQ g (some (.int o.1)) o.2) (cA g)) : ∀ (n : Nat) (z : St × Int32), loopF (fun k z => m_X4_parse_b36 z.1 t1 z.2 k) n z = some o → Xs C (wW g) Q z.1 36 [(0, .ref (gA g 73)), (2, .int z.2)] [] := by
  intro n z hf
  refine loopF_ind (S := St × Int32) (O := Int32 × St) (step := (fun k z => m_X4_parse_b36 z.1 t1 z.2 k)) (o := o) (P := fun z => Xs C (wW g) Q z.1 36 [(0, .ref (gA g 73)), (2, .int z.2)] []) ?_ n z hf
  intro k hk z hf
  exact w_X4_parse_b36 z.1 t1 z.2 ht1 o h hg hL hr k hk hf
def m_X4_parse (σ : St) (t1 : Nat) : Option (Int32 × St) :=
  oF (dF ((up σ 73 11 (nI t1)) 73 11)) none fun tt1 =>
  loopF (fun k z => m_X4_parse_b36 z.1 t1 z.2 k) cFu ((up (up (up (up (up σ 73 11 (nI t1)) tt1 4 0) 73 6 0) 73 7 0) 73 8 0), 0)
set_option maxHeartbeats 4000000 in
set_option maxRecDepth 100000 in
theorem w_X4_parse {C : XC} {Q : State → Prop} {g : cG} (σ : St) (t1 : Nat) (ht1 : isF t1 = true) (o : Int32 × St) (h : XOk C cX4_parse RX4 tG rmX4_parse) (hg : XG C g) (hL : C.2.2.2.2.2.2.2.2.2.2.2.2.1 = 3) (hr : XEnd C (some .int) Q (XQ g (some (.int o.1)) o.2) (cA g)) (hf : m_X4_parse σ t1 = some o) : Xs C (wW g) Q σ 0 [(0, .ref (gA g 73)), (1, .ref (gA g t1))] [] := by
  unfold m_X4_parse at hf
  refine x_aload_n h dX4_parse_0 rfl 1 rfl (q := 1) rfl ?_
  refine x_ifnonnull (tgt := 6) h dX4_parse_1 (by decide) ?_
  refine x_aload_n h dX4_parse_6 rfl 0 rfl (q := 7) rfl ?_
  refine x_aload_n h dX4_parse_7 rfl 1 rfl (q := 8) rfl ?_
  refine x_putfml h hg ht1 kf_X4_37 nn_X4 dX4_parse_8 ?_
  refine x_aload_n h dX4_parse_11 rfl 0 rfl (q := 12) rfl ?_
  refine x_get_X4_73_11 h hg kf_X4_37 nn_X4 dX4_parse_12 ?_
  obtain ⟨tt1, he, htt1, hf2⟩ : ∃ t, dF ((up σ 73 11 (nI t1)) 73 11) = some t ∧ isF t = true ∧ _ := by
      rcases oF_inv hf with ⟨_, hq⟩ | hq
      · cases hq
      · exact hq
  rw [show rfF g ((up σ 73 11 (nI t1)) 73 11) = .ref (gA g tt1) from by rw [rfF, he]; rfl]
  refine x_iconst (v := 0) h dX4_parse_15 (by decide) (q := 16) rfl ?_
  refine x_put_X0_t_4 htt1 h hg kf_X4_41 nn_X0 dX4_parse_16 ?_
  refine x_aload_n h dX4_parse_19 rfl 0 rfl (q := 20) rfl ?_
  refine x_iconst (v := 0) h dX4_parse_20 (by decide) (q := 21) rfl ?_
  refine x_put_X4_73_6 h hg kf_X4_46 nn_X4 dX4_parse_21 ?_
  refine x_aload_n h dX4_parse_24 rfl 0 rfl (q := 25) rfl ?_
  refine x_iconst (v := 0) h dX4_parse_25 (by decide) (q := 26) rfl ?_
  refine x_put_X4_73_7 h hg kf_X4_49 nn_X4 dX4_parse_26 ?_
  refine x_aload_n h dX4_parse_29 rfl 0 rfl (q := 30) rfl ?_
  refine x_iconst (v := 0) h dX4_parse_30 (by decide) (q := 31) rfl ?_
  refine x_put_X4_73_8 h hg kf_X4_52 nn_X4 dX4_parse_31 ?_
  refine x_iconst (v := 0) h dX4_parse_34 (by decide) (q := 35) rfl ?_
  refine x_istore_n (lv' := [(2, .int 0), (0, .ref (gA g 73)), (1, .ref (gA g t1))]) h dX4_parse_35 rfl hL (by decide) rfl (q := 36) rfl ?_
  refine x_sub (lv' := [(0, .ref (gA g 73)), (2, .int 0)]) [1, 0] rfl ?_
  exact w_X4_parse_l36 t1 ht1 o h hg hL hr  cFu ((up (up (up (up (up σ 73 11 (nI t1)) tt1 4 0) 73 6 0) 73 7 0) 73 8 0), 0) hf2
theorem c_X4_parse (l : Launch) {g : cG} (hi : gInj g) (σ : St) (t1 : Nat) (ht1 : isF t1 = true) (o : Int32 × St) (hf : m_X4_parse σ t1 = some o) : Met l yX4_parse (wT yX4_parse cX4_parse 3 (some .int)) rmX4_parse (va_Pc [.ref (gA g 73), .ref (gA g t1)] (XPre g σ)) (XQ g (some (.int o.1)) o.2) 0 0 (cA g) :=
  X_met RX4 hi plX4 rfl (Nat.le_of_ble_eq_true rfl) rfl (fun _ _ _ h hg hL hr => w_X4_parse σ t1 ht1 o h hg hL hr hf)
