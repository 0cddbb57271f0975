abbrev rmX9_agents : Room := { frames := 0, cells := 0, slots := 0, locals := 0 }
theorem hdX9_agents : yX9_agents.cls = RX9 ∧ yX9_agents.cls ≠ "java/lang/invoke/MethodHandle" ∧ yX9_agents.cls ≠ "java/lang/invoke/VarHandle" ∧ (parseMethodDescriptor yX9_agents.desc).map (fun d => d.parameters.length) = some 0 := by decide +kernel
def m_X9_agents (σ : St) : Int32 :=
  (σ 0 0)
set_option maxHeartbeats 4000000 in
set_option maxRecDepth 100000 in
theorem w_X9_agents {C : XC} {Q : State → Prop} {g : cG} (σ : St) (o : Int32) (h : XOk C cX9_agents RX9 tG rmX9_agents) (hg : XG C g) (hL : C.2.2.2.2.2.2.2.2.2.2.2.2.1 = 1) (hr : XEnd C (some .int) Q (XQ g (some (.int o)) σ) (cA g)) (hf : m_X9_agents σ = o) : Xs C (wW g) Q σ 0 [(0, .ref (gA g 65))] [] := by
  unfold m_X9_agents at hf
  refine x_aload_n h dX9_agents_0 rfl 0 rfl (q := 1) rfl ?_
  refine x_get_X9_65_0 h hg kf_X9_33 nn_X9 dX9_agents_1 ?_
  refine x_get_X7_0_0 h hg kf_X9_86 nn_X7 dX9_agents_4 ?_
  subst hf
  exact x_iret h hg hr dX9_agents_7
theorem c_X9_agents (l : Launch) {g : cG} (hi : gInj g) (σ : St) (o : Int32) (hf : m_X9_agents σ = o) : Met l yX9_agents (wT yX9_agents cX9_agents 1 (some .int)) rmX9_agents (va_Pc [.ref (gA g 65)] (XPre g σ)) (XQ g (some (.int o)) σ) 0 0 (cA g) :=
  X_met RX9 hi plX9 rfl (Nat.le_of_ble_eq_true rfl) rfl (fun _ _ _ h hg hL hr => w_X9_agents σ o h hg hL hr hf)
abbrev rmX9_addState : Room := { frames := 5, cells := 0, slots := 0, locals := 110 }
theorem hdX9_addState : yX9_addState.cls = RX9 ∧ yX9_addState.cls ≠ "java/lang/invoke/MethodHandle" ∧ yX9_addState.cls ≠ "java/lang/invoke/VarHandle" ∧ (parseMethodDescriptor yX9_addState.desc).map (fun d => d.parameters.length) = some 0 := by decide +kernel
def m_X9_addState (σ : St) : Option (Int32 × St) :=
  if (σ 0 7) < 12 then (
    (m_X1_keep σ).bind fun u3 =>
    (m_X7_grow u3).bind fun u5 =>
    some (u5.1, u5.2)
  ) else (
    some ((-2), σ)
  )
set_option maxHeartbeats 4000000 in
set_option maxRecDepth 100000 in
theorem w_X9_addState {C : XC} {Q : State → Prop} {g : cG} (σ : St) (o : Int32 × St) (h : XOk C cX9_addState RX9 tG rmX9_addState) (hg : XG C g) (hL : C.2.2.2.2.2.2.2.2.2.2.2.2.1 = 1) (hr : XEnd C (some .int) Q (XQ g (some (.int o.1)) o.2) (cA g)) (hf : m_X9_addState σ = some o) : Xs C (wW g) Q σ 0 [(0, .ref (gA g 65))] [] := by
  unfold m_X9_addState at hf
  refine x_aload_n h dX9_addState_0 rfl 0 rfl (q := 1) rfl ?_
  refine x_get_X9_65_0 h hg kf_X9_33 nn_X9 dX9_addState_1 ?_
  refine x_get_X7_0_7 h hg kf_X9_89 nn_X7 dX9_addState_4 ?_
  refine x_bipush (v := 12) h dX9_addState_7 (by decide) (q := 9) rfl ?_
  refine x_icmp_lt (tgt := 15) h dX9_addState_9 (by decide) (q := 12) rfl hf (fun hc1 hf2 => ?_) (fun hc1 hf2 => ?_)
  · skip
    refine x_aload_n h dX9_addState_15 rfl 0 rfl (q := 16) rfl ?_
    refine x_get_X9_65_1 h hg kf_X9_40 nn_X9 dX9_addState_16 ?_
    refine x_aload_n h dX9_addState_19 rfl 0 rfl (q := 20) rfl ?_
    refine x_get_X9_65_0 h hg kf_X9_33 nn_X9 dX9_addState_20 ?_
    obtain ⟨u3, hu3, hf4⟩ := bnd_inv hf2
    refine x_callVv (As := [.ref (gA g 0)]) (rest := []) h hg (c_X1_keep C.2.1 hg.2.1 σ _ hu3) ml_X9_92 biX1_keep rfl rfl hdX1_keep ⟨Nat.le_of_ble_eq_true rfl, Nat.le_of_ble_eq_true rfl⟩ (by decide) (cE_67 g _) rfl rfl rfl (Nat.le_of_ble_eq_true rfl) dX9_addState_23 ?_
    refine x_aload_n h dX9_addState_26 rfl 0 rfl (q := 27) rfl ?_
    refine x_get_X9_65_0 h hg kf_X9_33 nn_X9 dX9_addState_27 ?_
    obtain ⟨u5, hu5, hf6⟩ := bnd_inv hf4
    refine x_callVi (As := []) (rest := []) h hg (c_X7_grow C.2.1 hg.2.1 u3 _ hu5) ml_X9_95 biX7_grow rfl rfl hdX7_grow ⟨Nat.le_of_ble_eq_true rfl, Nat.le_of_ble_eq_true rfl⟩ (by decide) (cE_0 g _) rfl rfl rfl (Nat.le_of_ble_eq_true rfl) dX9_addState_30 ?_
    have hz := Option.some.inj hf6
    subst hz
    exact x_iret h hg hr dX9_addState_33
  · skip
    refine x_bipush (v := (-2)) h dX9_addState_12 (by decide) (q := 14) rfl ?_
    have hz := Option.some.inj hf2
    subst hz
    exact x_iret h hg hr dX9_addState_14
theorem c_X9_addState (l : Launch) {g : cG} (hi : gInj g) (σ : St) (o : Int32 × St) (hf : m_X9_addState σ = some o) : Met l yX9_addState (wT yX9_addState cX9_addState 1 (some .int)) rmX9_addState (va_Pc [.ref (gA g 65)] (XPre g σ)) (XQ g (some (.int o.1)) o.2) 0 0 (cA g) :=
  X_met RX9 hi plX9 rfl (Nat.le_of_ble_eq_true rfl) rfl (fun _ _ _ h hg hL hr => w_X9_addState σ o h hg hL hr hf)
abbrev rmX9_states : Room := { frames := 0, cells := 0, slots := 0, locals := 0 }
theorem hdX9_states : yX9_states.cls = RX9 ∧ yX9_states.cls ≠ "java/lang/invoke/MethodHandle" ∧ yX9_states.cls ≠ "java/lang/invoke/VarHandle" ∧ (parseMethodDescriptor yX9_states.desc).map (fun d => d.parameters.length) = some 0 := by decide +kernel
def m_X9_states (σ : St) : Int32 :=
  (σ 0 7)
set_option maxHeartbeats 4000000 in
set_option maxRecDepth 100000 in
theorem w_X9_states {C : XC} {Q : State → Prop} {g : cG} (σ : St) (o : Int32) (h : XOk C cX9_states RX9 tG rmX9_states) (hg : XG C g) (hL : C.2.2.2.2.2.2.2.2.2.2.2.2.1 = 1) (hr : XEnd C (some .int) Q (XQ g (some (.int o)) σ) (cA g)) (hf : m_X9_states σ = o) : Xs C (wW g) Q σ 0 [(0, .ref (gA g 65))] [] := by
  unfold m_X9_states at hf
  refine x_aload_n h dX9_states_0 rfl 0 rfl (q := 1) rfl ?_
  refine x_get_X9_65_0 h hg kf_X9_33 nn_X9 dX9_states_1 ?_
  refine x_get_X7_0_7 h hg kf_X9_89 nn_X7 dX9_states_4 ?_
  subst hf
  exact x_iret h hg hr dX9_states_7
theorem c_X9_states (l : Launch) {g : cG} (hi : gInj g) (σ : St) (o : Int32) (hf : m_X9_states σ = o) : Met l yX9_states (wT yX9_states cX9_states 1 (some .int)) rmX9_states (va_Pc [.ref (gA g 65)] (XPre g σ)) (XQ g (some (.int o)) σ) 0 0 (cA g) :=
  X_met RX9 hi plX9 rfl (Nat.le_of_ble_eq_true rfl) rfl (fun _ _ _ h hg hL hr => w_X9_states σ o h hg hL hr hf)
abbrev rmX9_setActions : Room := { frames := 5, cells := 0, slots := 0, locals := 111 }
theorem hdX9_setActions : yX9_setActions.cls = RX9 ∧ yX9_setActions.cls ≠ "java/lang/invoke/MethodHandle" ∧ yX9_setActions.cls ≠ "java/lang/invoke/VarHandle" ∧ (parseMethodDescriptor yX9_setActions.desc).map (fun d => d.parameters.length) = some 3 := by decide +kernel
def m_X9_setActions (σ : St) (x1 : Int32) (x2 : Int32) (x3 : Int32) : Option (Int32 × St) :=
  if (bI (m_X7_hasPlace σ x1 x2)) = 0 then (
    some ((-1), σ)
  ) else (
    if x3 < 1 then (
      some ((-1), σ)
    ) else (
      if x3 ≤ 3 then (
        (m_X1_keep σ).bind fun u7 =>
        (m_X7_setActionCount u7 x1 x2 x3).bind fun u9 =>
        some ((m_X7_actionCount u7 x1 x2), u9)
      ) else (
        some ((-1), σ)
      )
    )
  )
set_option maxHeartbeats 4000000 in
set_option maxRecDepth 100000 in
theorem w_X9_setActions {C : XC} {Q : State → Prop} {g : cG} (σ : St) (x1 : Int32) (x2 : Int32) (x3 : Int32) (o : Int32 × St) (h : XOk C cX9_setActions RX9 tG rmX9_setActions) (hg : XG C g) (hL : C.2.2.2.2.2.2.2.2.2.2.2.2.1 = 5) (hr : XEnd C (some .int) Q (XQ g (some (.int o.1)) o.2) (cA g)) (hf : m_X9_setActions σ x1 x2 x3 = some o) : Xs C (wW g) Q σ 0 [(0, .ref (gA g 65)), (1, .int x1), (2, .int x2), (3, .int x3)] [] := by
  unfold m_X9_setActions at hf
  refine x_aload_n h dX9_setActions_0 rfl 0 rfl (q := 1) rfl ?_
  refine x_get_X9_65_0 h hg kf_X9_33 nn_X9 dX9_setActions_1 ?_
  refine x_iload_n h dX9_setActions_4 rfl 1 rfl (q := 5) rfl ?_
  refine x_iload_n h dX9_setActions_5 rfl 2 rfl (q := 6) rfl ?_
  refine x_callVi (As := [.int x1, .int x2]) (rest := []) h hg (c_X7_hasPlace C.2.1 hg.2.1 σ x1 x2 _ rfl) ml_X9_99 biX7_hasPlace rfl rfl hdX7_hasPlace ⟨Nat.le_of_ble_eq_true rfl, Nat.le_of_ble_eq_true rfl⟩ (by decide) (cE_0 g _) rfl rfl rfl (Nat.le_of_ble_eq_true rfl) dX9_setActions_6 ?_
  refine x_if_eq (tgt := 22) h dX9_setActions_9 (by decide) (q := 12) rfl hf (fun hc1 hf2 => ?_) (fun hc1 hf2 => ?_)
  · skip
    refine x_iconst (v := (-1)) h dX9_setActions_22 (by decide) (q := 23) rfl ?_
    have hz := Option.some.inj hf2
    subst hz
    exact x_iret h hg hr dX9_setActions_23
  · skip
    refine x_iload_n h dX9_setActions_12 rfl 3 rfl (q := 13) rfl ?_
    refine x_iconst (v := 1) h dX9_setActions_13 (by decide) (q := 14) rfl ?_
    refine x_icmp_lt (tgt := 22) h dX9_setActions_14 (by decide) (q := 17) rfl hf2 (fun hc3 hf4 => ?_) (fun hc3 hf4 => ?_)
    · skip
      refine x_iconst (v := (-1)) h dX9_setActions_22 (by decide) (q := 23) rfl ?_
      have hz := Option.some.inj hf4
      subst hz
      exact x_iret h hg hr dX9_setActions_23
    · skip
      refine x_iload_n h dX9_setActions_17 rfl 3 rfl (q := 18) rfl ?_
      refine x_iconst (v := 3) h dX9_setActions_18 (by decide) (q := 19) rfl ?_
      refine x_icmp_le (tgt := 24) h dX9_setActions_19 (by decide) (q := 22) rfl hf4 (fun hc5 hf6 => ?_) (fun hc5 hf6 => ?_)
      · skip
        refine x_aload_n h dX9_setActions_24 rfl 0 rfl (q := 25) rfl ?_
        refine x_get_X9_65_1 h hg kf_X9_40 nn_X9 dX9_setActions_25 ?_
        refine x_aload_n h dX9_setActions_28 rfl 0 rfl (q := 29) rfl ?_
        refine x_get_X9_65_0 h hg kf_X9_33 nn_X9 dX9_setActions_29 ?_
        obtain ⟨u7, hu7, hf8⟩ := bnd_inv hf6
        refine x_callVv (As := [.ref (gA g 0)]) (rest := []) h hg (c_X1_keep C.2.1 hg.2.1 σ _ hu7) ml_X9_92 biX1_keep rfl rfl hdX1_keep ⟨Nat.le_of_ble_eq_true rfl, Nat.le_of_ble_eq_true rfl⟩ (by decide) (cE_67 g _) rfl rfl rfl (Nat.le_of_ble_eq_true rfl) dX9_setActions_32 ?_
        refine x_aload_n h dX9_setActions_35 rfl 0 rfl (q := 36) rfl ?_
        refine x_get_X9_65_0 h hg kf_X9_33 nn_X9 dX9_setActions_36 ?_
        refine x_iload_n h dX9_setActions_39 rfl 1 rfl (q := 40) rfl ?_
        refine x_iload_n h dX9_setActions_40 rfl 2 rfl (q := 41) rfl ?_
        refine x_callVi (As := [.int x1, .int x2]) (rest := []) h hg (c_X7_actionCount C.2.1 hg.2.1 u7 x1 x2 _ rfl) ml_X9_103 biX7_actionCount rfl rfl hdX7_actionCount ⟨Nat.le_of_ble_eq_true rfl, Nat.le_of_ble_eq_true rfl⟩ (by decide) (cE_0 g _) rfl rfl rfl (Nat.le_of_ble_eq_true rfl) dX9_setActions_41 ?_
        refine x_istore (lv' := [(4, .int (m_X7_actionCount u7 x1 x2)), (0, .ref (gA g 65)), (1, .int x1), (2, .int x2), (3, .int x3)]) h dX9_setActions_44 hL (by decide) rfl (q := 46) rfl ?_
        refine x_aload_n h dX9_setActions_46 rfl 1 rfl (q := 47) rfl ?_
        refine x_get_X9_65_0 h hg kf_X9_33 nn_X9 dX9_setActions_47 ?_
        refine x_iload_n h dX9_setActions_50 rfl 2 rfl (q := 51) rfl ?_
        refine x_iload_n h dX9_setActions_51 rfl 3 rfl (q := 52) rfl ?_
        refine x_iload_n h dX9_setActions_52 rfl 4 rfl (q := 53) rfl ?_
        obtain ⟨u9, hu9, hf10⟩ := bnd_inv hf8
        refine x_callVv (As := [.int x1, .int x2, .int x3]) (rest := []) h hg (c_X7_setActionCount C.2.1 hg.2.1 u7 x1 x2 x3 _ hu9) ml_X9_106 biX7_setActionCount rfl rfl hdX7_setActionCount ⟨Nat.le_of_ble_eq_true rfl, Nat.le_of_ble_eq_true rfl⟩ (by decide) (cE_0 g _) rfl rfl rfl (Nat.le_of_ble_eq_true rfl) dX9_setActions_53 ?_
        refine x_iload h dX9_setActions_56 0 rfl (q := 58) rfl ?_
        have hz := Option.some.inj hf10
        subst hz
        exact x_iret h hg hr dX9_setActions_58
      · skip
        refine x_iconst (v := (-1)) h dX9_setActions_22 (by decide) (q := 23) rfl ?_
        have hz := Option.some.inj hf6
        subst hz
        exact x_iret h hg hr dX9_setActions_23
theorem c_X9_setActions (l : Launch) {g : cG} (hi : gInj g) (σ : St) (x1 : Int32) (x2 : Int32) (x3 : Int32) (o : Int32 × St) (hf : m_X9_setActions σ x1 x2 x3 = some o) : Met l yX9_setActions (wT yX9_setActions cX9_setActions 5 (some .int)) rmX9_setActions (va_Pc [.ref (gA g 65), .int x1, .int x2, .int x3] (XPre g σ)) (XQ g (some (.int o.1)) o.2) 0 0 (cA g) :=
  X_met RX9 hi plX9 rfl (Nat.le_of_ble_eq_true rfl) rfl (fun _ _ _ h hg hL hr => w_X9_setActions σ x1 x2 x3 o h hg hL hr hf)
abbrev rmX9_actions : Room := { frames := 2, cells := 0, slots := 0, locals := 43 }
theorem hdX9_actions : yX9_actions.cls = RX9 ∧ yX9_actions.cls ≠ "java/lang/invoke/MethodHandle" ∧ yX9_actions.cls ≠ "java/lang/invoke/VarHandle" ∧ (parseMethodDescriptor yX9_actions.desc).map (fun d => d.parameters.length) = some 2 := by decide +kernel
def m_X9_actions (σ : St) (x1 : Int32) (x2 : Int32) : Int32 :=
  if (bI (m_X7_hasPlace σ x1 x2)) = 0 then (
    (-1)
  ) else (
    (m_X7_actionCount σ x1 x2)
  )
set_option maxHeartbeats 4000000 in
set_option maxRecDepth 100000 in
theorem w_X9_actions {C : XC} {Q : State → Prop} {g : cG} (σ : St) (x1 : Int32) (x2 : Int32) (o : Int32) (h : XOk C cX9_actions RX9 tG rmX9_actions) (hg : XG C g) (hL : C.2.2.2.2.2.2.2.2.2.2.2.2.1 = 3) (hr : XEnd C (some .int) Q (XQ g (some (.int o)) σ) (cA g)) (hf : m_X9_actions σ x1 x2 = o) : Xs C (wW g) Q σ 0 [(0, .ref (gA g 65)), (1, .int x1), (2, .int x2)] [] := by
  unfold m_X9_actions at hf
  refine x_aload_n h dX9_actions_0 rfl 0 rfl (q := 1) rfl ?_
  refine x_get_X9_65_0 h hg kf_X9_33 nn_X9 dX9_actions_1 ?_
  refine x_iload_n h dX9_actions_4 rfl 1 rfl (q := 5) rfl ?_
  refine x_iload_n h dX9_actions_5 rfl 2 rfl (q := 6) rfl ?_
  refine x_callVi (As := [.int x1, .int x2]) (rest := []) h hg (c_X7_hasPlace C.2.1 hg.2.1 σ x1 x2 _ rfl) ml_X9_99 biX7_hasPlace rfl rfl hdX7_hasPlace ⟨Nat.le_of_ble_eq_true rfl, Nat.le_of_ble_eq_true rfl⟩ (by decide) (cE_0 g _) rfl rfl rfl (Nat.le_of_ble_eq_true rfl) dX9_actions_6 ?_
  refine x_if_eq (tgt := 24) h dX9_actions_9 (by decide) (q := 12) rfl hf (fun hc1 hf2 => ?_) (fun hc1 hf2 => ?_)
  · skip
    refine x_iconst (v := (-1)) h dX9_actions_24 (by decide) (q := 25) rfl ?_
    subst hf2
    exact x_iret h hg hr dX9_actions_25
  · skip
    refine x_aload_n h dX9_actions_12 rfl 0 rfl (q := 13) rfl ?_
    refine x_get_X9_65_0 h hg kf_X9_33 nn_X9 dX9_actions_13 ?_
    refine x_iload_n h dX9_actions_16 rfl 1 rfl (q := 17) rfl ?_
    refine x_iload_n h dX9_actions_17 rfl 2 rfl (q := 18) rfl ?_
    refine x_callVi (As := [.int x1, .int x2]) (rest := []) h hg (c_X7_actionCount C.2.1 hg.2.1 σ x1 x2 _ rfl) ml_X9_103 biX7_actionCount rfl rfl hdX7_actionCount ⟨Nat.le_of_ble_eq_true rfl, Nat.le_of_ble_eq_true rfl⟩ (by decide) (cE_0 g _) rfl rfl rfl (Nat.le_of_ble_eq_true rfl) dX9_actions_18 ?_
    refine x_goto (q := 25) h dX9_actions_21 (by decide) ?_
    subst hf2
    exact x_iret h hg hr dX9_actions_25
theorem c_X9_actions (l : Launch) {g : cG} (hi : gInj g) (σ : St) (x1 : Int32) (x2 : Int32) (o : Int32) (hf : m_X9_actions σ x1 x2 = o) : Met l yX9_actions (wT yX9_actions cX9_actions 3 (some .int)) rmX9_actions (va_Pc [.ref (gA g 65), .int x1, .int x2] (XPre g σ)) (XQ g (some (.int o)) σ) 0 0 (cA g) :=
  X_met RX9 hi plX9 rfl (Nat.le_of_ble_eq_true rfl) rfl (fun _ _ _ h hg hL hr => w_X9_actions σ x1 x2 o h hg hL hr hf)
abbrev rmX9_label : Room := { frames := 4, cells := 0, slots := 0, locals := 104 }
theorem hdX9_label : yX9_label.cls = RX9 ∧ yX9_label.cls ≠ "java/lang/invoke/MethodHandle" ∧ yX9_label.cls ≠ "java/lang/invoke/VarHandle" ∧ (parseMethodDescriptor yX9_label.desc).map (fun d => d.parameters.length) = some 3 := by decide +kernel
def m_X9_label_b78 (σ : St) (x4 : Int32) (x5 : Int32) (s0 : Int32) (s1 : Int32) : Option (Int32 × St) :=
  if (x5 &&& x4) = 0 then (
    some (0, (m_X7_setLabelSet σ s1 s0))
  ) else (
    some (1, (m_X7_setLabelSet σ s1 s0))
  )
set_option maxHeartbeats 4000000 in
set_option maxRecDepth 100000 in
theorem w_X9_label_b78 {C : XC} {Q : State → Prop} {g : cG} (σ : St) (x4 : Int32) (x5 : Int32) (s0 : Int32) (s1 : Int32) (o : Int32 × St) (h : XOk C cX9_label RX9 tG rmX9_label) (hg : XG C g) (hL : C.2.2.2.2.2.2.2.2.2.2.2.2.1 = 6) (hr : XEnd C (some .int) Q (XQ g (some (.int o.1)) o.2) (cA g)) (hf : m_X9_label_b78 σ x4 x5 s0 s1  = some o) : Xs C (wW g) Q σ 78 [(4, .int x4), (5, .int x5)] [.int s0, .int s1, .ref (gA g 0)] := by
  unfold m_X9_label_b78 at hf
  refine x_callVv (As := [.int s1, .int s0]) (rest := []) h hg (c_X7_setLabelSet C.2.1 hg.2.1 σ s1 s0 _ rfl) ml_X9_118 biX7_setLabelSet rfl rfl hdX7_setLabelSet ⟨Nat.le_of_ble_eq_true rfl, Nat.le_of_ble_eq_true rfl⟩ (by decide) (cE_0 g _) rfl rfl rfl (Nat.le_of_ble_eq_true rfl) dX9_label_78 ?_
  refine x_iload h dX9_label_81 1 rfl (q := 83) rfl ?_
  refine x_iload h dX9_label_83 0 rfl (q := 85) rfl ?_
  refine x_iand h dX9_label_85 (q := 86) rfl ?_
  refine x_if_eq (tgt := 93) h dX9_label_86 (by decide) (q := 89) rfl hf (fun hc1 hf2 => ?_) (fun hc1 hf2 => ?_)
  · skip
    refine x_iconst (v := 0) h dX9_label_93 (by decide) (q := 94) rfl ?_
    have hz := Option.some.inj hf2
    subst hz
    exact x_iret h hg hr dX9_label_94
  · skip
    refine x_iconst (v := 1) h dX9_label_89 (by decide) (q := 90) rfl ?_
    refine x_goto (q := 94) h dX9_label_90 (by decide) ?_
    have hz := Option.some.inj hf2
    subst hz
    exact x_iret h hg hr dX9_label_94
def m_X9_label (σ : St) (x1 : Int32) (x2 : Int32) (x3 : Int32) : Option (Int32 × St) :=
  if (bI (m_X7_hasState σ x1)) = 0 then (
    some ((-1), σ)
  ) else (
    if x2 < 97 then (
      some ((-1), σ)
    ) else (
      if x2 ≤ 122 then (
        (m_X1_keep σ).bind fun u7 =>
        if x3 = 0 then (
          m_X9_label_b78 u7 ((1 : Int32) <<< ((x2 - 97) &&& 31)) (m_X7_labelSet u7 x1) ((m_X7_labelSet u7 x1) &&& (((1 : Int32) <<< ((x2 - 97) &&& 31)) ^^^ (-1))) x1
        ) else (
          m_X9_label_b78 u7 ((1 : Int32) <<< ((x2 - 97) &&& 31)) (m_X7_labelSet u7 x1) ((m_X7_labelSet u7 x1) ||| ((1 : Int32) <<< ((x2 - 97) &&& 31))) x1
        )
      ) else (
        some ((-1), σ)
      )
    )
  )
set_option maxHeartbeats 4000000 in
set_option maxRecDepth 100000 in
theorem w_X9_label {C : XC} {Q : State → Prop} {g : cG} (σ : St) (x1 : Int32) (x2 : Int32) (x3 : Int32) (o : Int32 × St) (h : XOk C cX9_label RX9 tG rmX9_label) (hg : XG C g) (hL : C.2.2.2.2.2.2.2.2.2.2.2.2.1 = 6) (hr : XEnd C (some .int) Q (XQ g (some (.int o.1)) o.2) (cA g)) (hf : m_X9_label σ x1 x2 x3 = some o) : Xs C (wW g) Q σ 0 [(0, .ref (gA g 65)), (1, .int x1), (2, .int x2), (3, .int x3)] [] := by
  unfold m_X9_label at hf
  refine x_aload_n h dX9_label_0 rfl 0 rfl (q := 1) rfl ?_
  refine x_get_X9_65_0 h hg kf_X9_33 nn_X9 dX9_label_1 ?_
  refine x_iload_n h dX9_label_4 rfl 1 rfl (q := 5) rfl ?_
  refine x_callVi (As := [.int x1]) (rest := []) h hg (c_X7_hasState C.2.1 hg.2.1 σ x1 _ rfl) ml_X9_110 biX7_hasState rfl rfl hdX7_hasState ⟨Nat.le_of_ble_eq_true rfl, Nat.le_of_ble_eq_true rfl⟩ (by decide) (cE_0 g _) rfl rfl rfl (Nat.le_of_ble_eq_true rfl) dX9_label_5 ?_
  refine x_if_eq (tgt := 23) h dX9_label_8 (by decide) (q := 11) rfl hf (fun hc1 hf2 => ?_) (fun hc1 hf2 => ?_)
  · skip
    refine x_iconst (v := (-1)) h dX9_label_23 (by decide) (q := 24) rfl ?_
    have hz := Option.some.inj hf2
    subst hz
    exact x_iret h hg hr dX9_label_24
  · skip
    refine x_iload_n h dX9_label_11 rfl 2 rfl (q := 12) rfl ?_
    refine x_bipush (v := 97) h dX9_label_12 (by decide) (q := 14) rfl ?_
    refine x_icmp_lt (tgt := 23) h dX9_label_14 (by decide) (q := 17) rfl hf2 (fun hc3 hf4 => ?_) (fun hc3 hf4 => ?_)
    · skip
      refine x_iconst (v := (-1)) h dX9_label_23 (by decide) (q := 24) rfl ?_
      have hz := Option.some.inj hf4
      subst hz
      exact x_iret h hg hr dX9_label_24
    · skip
      refine x_iload_n h dX9_label_17 rfl 2 rfl (q := 18) rfl ?_
      refine x_bipush (v := 122) h dX9_label_18 (by decide) (q := 20) rfl ?_
      refine x_icmp_le (tgt := 25) h dX9_label_20 (by decide) (q := 23) rfl hf4 (fun hc5 hf6 => ?_) (fun hc5 hf6 => ?_)
      · skip
        refine x_aload_n h dX9_label_25 rfl 0 rfl (q := 26) rfl ?_
        refine x_get_X9_65_1 h hg kf_X9_40 nn_X9 dX9_label_26 ?_
        refine x_aload_n h dX9_label_29 rfl 0 rfl (q := 30) rfl ?_
        refine x_get_X9_65_0 h hg kf_X9_33 nn_X9 dX9_label_30 ?_
        obtain ⟨u7, hu7, hf8⟩ := bnd_inv hf6
        refine x_callVv (As := [.ref (gA g 0)]) (rest := []) h hg (c_X1_keep C.2.1 hg.2.1 σ _ hu7) ml_X9_92 biX1_keep rfl rfl hdX1_keep ⟨Nat.le_of_ble_eq_true rfl, Nat.le_of_ble_eq_true rfl⟩ (by decide) (cE_67 g _) rfl rfl rfl (Nat.le_of_ble_eq_true rfl) dX9_label_33 ?_
        refine x_iconst (v := 1) h dX9_label_36 (by decide) (q := 37) rfl ?_
        refine x_iload_n h dX9_label_37 rfl 2 rfl (q := 38) rfl ?_
        refine x_bipush (v := 97) h dX9_label_38 (by decide) (q := 40) rfl ?_
        refine x_isub h dX9_label_40 (q := 41) rfl ?_
        refine x_ishl h dX9_label_41 (q := 42) rfl ?_
        refine x_istore (lv' := [(4, .int ((1 : Int32) <<< ((x2 - 97) &&& 31))), (0, .ref (gA g 65)), (1, .int x1), (2, .int x2), (3, .int x3)]) h dX9_label_42 hL (by decide) rfl (q := 44) rfl ?_
        refine x_aload_n h dX9_label_44 rfl 1 rfl (q := 45) rfl ?_
        refine x_get_X9_65_0 h hg kf_X9_33 nn_X9 dX9_label_45 ?_
        refine x_iload_n h dX9_label_48 rfl 2 rfl (q := 49) rfl ?_
        refine x_callVi (As := [.int x1]) (rest := []) h hg (c_X7_labelSet C.2.1 hg.2.1 u7 x1 _ rfl) ml_X9_114 biX7_labelSet rfl rfl hdX7_labelSet ⟨Nat.le_of_ble_eq_true rfl, Nat.le_of_ble_eq_true rfl⟩ (by decide) (cE_0 g _) rfl rfl rfl (Nat.le_of_ble_eq_true rfl) dX9_label_49 ?_
        refine x_istore (lv' := [(5, .int (m_X7_labelSet u7 x1)), (4, .int ((1 : Int32) <<< ((x2 - 97) &&& 31))), (0, .ref (gA g 65)), (1, .int x1), (2, .int x2), (3, .int x3)]) h dX9_label_52 hL (by decide) rfl (q := 54) rfl ?_
        refine x_aload_n h dX9_label_54 rfl 2 rfl (q := 55) rfl ?_
        refine x_get_X9_65_0 h hg kf_X9_33 nn_X9 dX9_label_55 ?_
        refine x_iload_n h dX9_label_58 rfl 3 rfl (q := 59) rfl ?_
        refine x_iload_n h dX9_label_59 rfl 5 rfl (q := 60) rfl ?_
        refine x_if_eq (tgt := 71) h dX9_label_60 (by decide) (q := 63) rfl hf8 (fun hc9 hf10 => ?_) (fun hc9 hf10 => ?_)
        · skip
          refine x_iload h dX9_label_71 0 rfl (q := 73) rfl ?_
          refine x_iload h dX9_label_73 1 rfl (q := 75) rfl ?_
          refine x_iconst (v := (-1)) h dX9_label_75 (by decide) (q := 76) rfl ?_
          refine x_ixor h dX9_label_76 (q := 77) rfl ?_
          refine x_iand h dX9_label_77 (q := 78) rfl ?_
          refine x_sub (lv' := [(4, .int ((1 : Int32) <<< ((x2 - 97) &&& 31))), (5, .int (m_X7_labelSet u7 x1))]) [1, 0] rfl ?_
          exact w_X9_label_b78 u7 ((1 : Int32) <<< ((x2 - 97) &&& 31)) (m_X7_labelSet u7 x1) ((m_X7_labelSet u7 x1) &&& (((1 : Int32) <<< ((x2 - 97) &&& 31)) ^^^ (-1))) x1 o h hg hL hr hf10
        · skip
          refine x_iload h dX9_label_63 0 rfl (q := 65) rfl ?_
          refine x_iload h dX9_label_65 1 rfl (q := 67) rfl ?_
          refine x_ior h dX9_label_67 (q := 68) rfl ?_
          refine x_goto (q := 78) h dX9_label_68 (by decide) ?_
          refine x_sub (lv' := [(4, .int ((1 : Int32) <<< ((x2 - 97) &&& 31))), (5, .int (m_X7_labelSet u7 x1))]) [1, 0] rfl ?_
          exact w_X9_label_b78 u7 ((1 : Int32) <<< ((x2 - 97) &&& 31)) (m_X7_labelSet u7 x1) ((m_X7_labelSet u7 x1) ||| ((1 : Int32) <<< ((x2 - 97) &&& 31))) x1 o h hg hL hr hf10
      · skip
        refine x_iconst (v := (-1)) h dX9_label_23 (by decide) (q := 24) rfl ?_
        have hz := Option.some.inj hf6
        subst hz
        exact x_iret h hg hr dX9_label_24
theorem c_X9_label (l : Launch) {g : cG} (hi : gInj g) (σ : St) (x1 : Int32) (x2 : Int32) (x3 : Int32) (o : Int32 × St) (hf : m_X9_label σ x1 x2 x3 = some o) : Met l yX9_label (wT yX9_label cX9_label 6 (some .int)) rmX9_label (va_Pc [.ref (gA g 65), .int x1, .int x2, .int x3] (XPre g σ)) (XQ g (some (.int o.1)) o.2) 0 0 (cA g) :=
  X_met RX9 hi plX9 rfl (Nat.le_of_ble_eq_true rfl) rfl (fun _ _ _ h hg hL hr => w_X9_label σ x1 x2 x3 o h hg hL hr hf)
abbrev rmX9_labels : Room := { frames := 2, cells := 0, slots := 0, locals := 42 }
theorem hdX9_labels : yX9_labels.cls = RX9 ∧ yX9_labels.cls ≠ "java/lang/invoke/MethodHandle" ∧ yX9_labels.cls ≠ "java/lang/invoke/VarHandle" ∧ (parseMethodDescriptor yX9_labels.desc).map (fun d => d.parameters.length) = some 1 := by decide +kernel
def m_X9_labels (σ : St) (x1 : Int32) : Int32 :=
  if (bI (m_X7_hasState σ x1)) = 0 then (
    (-1)
  ) else (
    (m_X7_labelSet σ x1)
  )
set_option maxHeartbeats 4000000 in
set_option maxRecDepth 100000 in
theorem w_X9_labels {C : XC} {Q : State → Prop} {g : cG} (σ : St) (x1 : Int32) (o : Int32) (h : XOk C cX9_labels RX9 tG rmX9_labels) (hg : XG C g) (hL : C.2.2.2.2.2.2.2.2.2.2.2.2.1 = 2) (hr : XEnd C (some .int) Q (XQ g (some (.int o)) σ) (cA g)) (hf : m_X9_labels σ x1 = o) : Xs C (wW g) Q σ 0 [(0, .ref (gA g 65)), (1, .int x1)] [] := by
  unfold m_X9_labels at hf
  refine x_aload_n h dX9_labels_0 rfl 0 rfl (q := 1) rfl ?_
  refine x_get_X9_65_0 h hg kf_X9_33 nn_X9 dX9_labels_1 ?_
  refine x_iload_n h dX9_labels_4 rfl 1 rfl (q := 5) rfl ?_
  refine x_callVi (As := [.int x1]) (rest := []) h hg (c_X7_hasState C.2.1 hg.2.1 σ x1 _ rfl) ml_X9_110 biX7_hasState rfl rfl hdX7_hasState ⟨Nat.le_of_ble_eq_true rfl, Nat.le_of_ble_eq_true rfl⟩ (by decide) (cE_0 g _) rfl rfl rfl (Nat.le_of_ble_eq_true rfl) dX9_labels_5 ?_
  refine x_if_eq (tgt := 22) h dX9_labels_8 (by decide) (q := 11) rfl hf (fun hc1 hf2 => ?_) (fun hc1 hf2 => ?_)
  · skip
    refine x_iconst (v := (-1)) h dX9_labels_22 (by decide) (q := 23) rfl ?_
    subst hf2
    exact x_iret h hg hr dX9_labels_23
  · skip
    refine x_aload_n h dX9_labels_11 rfl 0 rfl (q := 12) rfl ?_
    refine x_get_X9_65_0 h hg kf_X9_33 nn_X9 dX9_labels_12 ?_
    refine x_iload_n h dX9_labels_15 rfl 1 rfl (q := 16) rfl ?_
    refine x_callVi (As := [.int x1]) (rest := []) h hg (c_X7_labelSet C.2.1 hg.2.1 σ x1 _ rfl) ml_X9_114 biX7_labelSet rfl rfl hdX7_labelSet ⟨Nat.le_of_ble_eq_true rfl, Nat.le_of_ble_eq_true rfl⟩ (by decide) (cE_0 g _) rfl rfl rfl (Nat.le_of_ble_eq_true rfl) dX9_labels_16 ?_
    refine x_goto (q := 23) h dX9_labels_19 (by decide) ?_
    subst hf2
    exact x_iret h hg hr dX9_labels_23
theorem c_X9_labels (l : Launch) {g : cG} (hi : gInj g) (σ : St) (x1 : Int32) (o : Int32) (hf : m_X9_labels σ x1 = o) : Met l yX9_labels (wT yX9_labels cX9_labels 2 (some .int)) rmX9_labels (va_Pc [.ref (gA g 65), .int x1] (XPre g σ)) (XQ g (some (.int o)) σ) 0 0 (cA g) :=
  X_met RX9 hi plX9 rfl (Nat.le_of_ble_eq_true rfl) rfl (fun _ _ _ h hg hL hr => w_X9_labels σ x1 o h hg hL hr hf)
abbrev rmX9_setMove : Room := { frames := 4, cells := 0, slots := 0, locals := 104 }
theorem hdX9_setMove : yX9_setMove.cls = RX9 ∧ yX9_setMove.cls ≠ "java/lang/invoke/MethodHandle" ∧ yX9_setMove.cls ≠ "java/lang/invoke/VarHandle" ∧ (parseMethodDescriptor yX9_setMove.desc).map (fun d => d.parameters.length) = some 3 := by decide +kernel
def m_X9_setMove (σ : St) (x1 : Int32) (x2 : Int32) (x3 : Int32) : Option (Int32 × St) :=
  if (m_X7_target σ x1 x2) < 0 then (
    some ((-1), σ)
  ) else (
    if (bI (m_X7_hasState σ x3)) = 0 then (
      some ((-1), σ)
    ) else (
      (m_X1_keep σ).bind fun u5 =>
      some ((m_X7_target σ x1 x2), (m_X7_setTarget u5 x1 x2 x3))
    )
  )
set_option maxHeartbeats 4000000 in
set_option maxRecDepth 100000 in
theorem w_X9_setMove {C : XC} {Q : State → Prop} {g : cG} (σ : St) (x1 : Int32) (x2 : Int32) (x3 : Int32) (o : Int32 × St) (h : XOk C cX9_setMove RX9 tG rmX9_setMove) (hg : XG C g) (hL : C.2.2.2.2.2.2.2.2.2.2.2.2.1 = 5) (hr : XEnd C (some .int) Q (XQ g (some (.int o.1)) o.2) (cA g)) (hf : m_X9_setMove σ x1 x2 x3 = some o) : Xs C (wW g) Q σ 0 [(0, .ref (gA g 65)), (1, .int x1), (2, .int x2), (3, .int x3)] [] := by
  unfold m_X9_setMove at hf
  refine x_aload_n h dX9_setMove_0 rfl 0 rfl (q := 1) rfl ?_
  refine x_get_X9_65_0 h hg kf_X9_33 nn_X9 dX9_setMove_1 ?_
  refine x_iload_n h dX9_setMove_4 rfl 1 rfl (q := 5) rfl ?_
  refine x_iload_n h dX9_setMove_5 rfl 2 rfl (q := 6) rfl ?_
  refine x_callVi (As := [.int x1, .int x2]) (rest := []) h hg (c_X7_target C.2.1 hg.2.1 σ x1 x2 _ rfl) ml_X9_122 biX7_target rfl rfl hdX7_target ⟨Nat.le_of_ble_eq_true rfl, Nat.le_of_ble_eq_true rfl⟩ (by decide) (cE_0 g _) rfl rfl rfl (Nat.le_of_ble_eq_true rfl) dX9_setMove_6 ?_
  refine x_istore (lv' := [(4, .int (m_X7_target σ x1 x2)), (0, .ref (gA g 65)), (1, .int x1), (2, .int x2), (3, .int x3)]) h dX9_setMove_9 hL (by decide) rfl (q := 11) rfl ?_
  refine x_iload h dX9_setMove_11 0 rfl (q := 13) rfl ?_
  refine x_if_lt (tgt := 27) h dX9_setMove_13 (by decide) (q := 16) rfl hf (fun hc1 hf2 => ?_) (fun hc1 hf2 => ?_)
  · skip
    refine x_iconst (v := (-1)) h dX9_setMove_27 (by decide) (q := 28) rfl ?_
    have hz := Option.some.inj hf2
    subst hz
    exact x_iret h hg hr dX9_setMove_28
  · skip
    refine x_aload_n h dX9_setMove_16 rfl 1 rfl (q := 17) rfl ?_
    refine x_get_X9_65_0 h hg kf_X9_33 nn_X9 dX9_setMove_17 ?_
    refine x_iload_n h dX9_setMove_20 rfl 4 rfl (q := 21) rfl ?_
    refine x_callVi (As := [.int x3]) (rest := []) h hg (c_X7_hasState C.2.1 hg.2.1 σ x3 _ rfl) ml_X9_110 biX7_hasState rfl rfl hdX7_hasState ⟨Nat.le_of_ble_eq_true rfl, Nat.le_of_ble_eq_true rfl⟩ (by decide) (cE_0 g _) rfl rfl rfl (Nat.le_of_ble_eq_true rfl) dX9_setMove_21 ?_
    refine x_if_ne (tgt := 29) h dX9_setMove_24 (by decide) (q := 27) rfl hf2 (fun hc3 hf4 => ?_) (fun hc3 hf4 => ?_)
    · skip
      refine x_aload_n h dX9_setMove_29 rfl 1 rfl (q := 30) rfl ?_
      refine x_get_X9_65_1 h hg kf_X9_40 nn_X9 dX9_setMove_30 ?_
      refine x_aload_n h dX9_setMove_33 rfl 1 rfl (q := 34) rfl ?_
      refine x_get_X9_65_0 h hg kf_X9_33 nn_X9 dX9_setMove_34 ?_
      obtain ⟨u5, hu5, hf6⟩ := bnd_inv hf4
      refine x_callVv (As := [.ref (gA g 0)]) (rest := []) h hg (c_X1_keep C.2.1 hg.2.1 σ _ hu5) ml_X9_92 biX1_keep rfl rfl hdX1_keep ⟨Nat.le_of_ble_eq_true rfl, Nat.le_of_ble_eq_true rfl⟩ (by decide) (cE_67 g _) rfl rfl rfl (Nat.le_of_ble_eq_true rfl) dX9_setMove_37 ?_
      refine x_aload_n h dX9_setMove_40 rfl 1 rfl (q := 41) rfl ?_
      refine x_get_X9_65_0 h hg kf_X9_33 nn_X9 dX9_setMove_41 ?_
      refine x_iload_n h dX9_setMove_44 rfl 2 rfl (q := 45) rfl ?_
      refine x_iload_n h dX9_setMove_45 rfl 3 rfl (q := 46) rfl ?_
      refine x_iload_n h dX9_setMove_46 rfl 4 rfl (q := 47) rfl ?_
      refine x_callVv (As := [.int x1, .int x2, .int x3]) (rest := []) h hg (c_X7_setTarget C.2.1 hg.2.1 u5 x1 x2 x3 _ rfl) ml_X9_125 biX7_setTarget rfl rfl hdX7_setTarget ⟨Nat.le_of_ble_eq_true rfl, Nat.le_of_ble_eq_true rfl⟩ (by decide) (cE_0 g _) rfl rfl rfl (Nat.le_of_ble_eq_true rfl) dX9_setMove_47 ?_
      refine x_iload h dX9_setMove_50 0 rfl (q := 52) rfl ?_
      have hz := Option.some.inj hf6
      subst hz
      exact x_iret h hg hr dX9_setMove_52
    · skip
      refine x_iconst (v := (-1)) h dX9_setMove_27 (by decide) (q := 28) rfl ?_
      have hz := Option.some.inj hf4
      subst hz
      exact x_iret h hg hr dX9_setMove_28
theorem c_X9_setMove (l : Launch) {g : cG} (hi : gInj g) (σ : St) (x1 : Int32) (x2 : Int32) (x3 : Int32) (o : Int32 × St) (hf : m_X9_setMove σ x1 x2 x3 = some o) : Met l yX9_setMove (wT yX9_setMove cX9_setMove 5 (some .int)) rmX9_setMove (va_Pc [.ref (gA g 65), .int x1, .int x2, .int x3] (XPre g σ)) (XQ g (some (.int o.1)) o.2) 0 0 (cA g) :=
  X_met RX9 hi plX9 rfl (Nat.le_of_ble_eq_true rfl) rfl (fun _ _ _ h hg hL hr => w_X9_setMove σ x1 x2 x3 o h hg hL hr hf)
abbrev rmX9_setAll : Room := { frames := 4, cells := 0, slots := 0, locals := 104 }
theorem hdX9_setAll : yX9_setAll.cls = RX9 ∧ yX9_setAll.cls ≠ "java/lang/invoke/MethodHandle" ∧ yX9_setAll.cls ≠ "java/lang/invoke/VarHandle" ∧ (parseMethodDescriptor yX9_setAll.desc).map (fun d => d.parameters.length) = some 4 := by decide +kernel
def m_X9_setAll (σ : St) (x1 : Int32) (x2 : Int32) (x3 : Int32) (x4 : Int32) : Option (Int32 × St) :=
  if (bI (m_X7_hasPlace σ x1 x2)) = 0 then (
    some ((-1), σ)
  ) else (
    if (bI (m_X7_hasState σ x4)) = 0 then (
      some ((-1), σ)
    ) else (
      if x3 < 0 then (
        some ((-1), σ)
      ) else (
        if x3 < (m_X7_actionCount σ x1 x2) then (
          (m_X1_keep σ).bind fun u9 =>
          (m_X7_redirect u9 x1 x2 x3 x4).bind fun u11 =>
          some (u11.1, u11.2)
        ) else (
          some ((-1), σ)
        )
      )
    )
  )
set_option maxHeartbeats 4000000 in
set_option maxRecDepth 100000 in
theorem w_X9_setAll {C : XC} {Q : State → Prop} {g : cG} (σ : St) (x1 : Int32) (x2 : Int32) (x3 : Int32) (x4 : Int32) (o : Int32 × St) (h : XOk C cX9_setAll RX9 tG rmX9_setAll) (hg : XG C g) (hL : C.2.2.2.2.2.2.2.2.2.2.2.2.1 = 5) (hr : XEnd C (some .int) Q (XQ g (some (.int o.1)) o.2) (cA g)) (hf : m_X9_setAll σ x1 x2 x3 x4 = some o) : Xs C (wW g) Q σ 0 [(0, .ref (gA g 65)), (1, .int x1), (2, .int x2), (3, .int x3), (4, .int x4)] [] := by
  unfold m_X9_setAll at hf
  refine x_aload_n h dX9_setAll_0 rfl 0 rfl (q := 1) rfl ?_
  refine x_get_X9_65_0 h hg kf_X9_33 nn_X9 dX9_setAll_1 ?_
  refine x_iload_n h dX9_setAll_4 rfl 1 rfl (q := 5) rfl ?_
  refine x_iload_n h dX9_setAll_5 rfl 2 rfl (q := 6) rfl ?_
  refine x_callVi (As := [.int x1, .int x2]) (rest := []) h hg (c_X7_hasPlace C.2.1 hg.2.1 σ x1 x2 _ rfl) ml_X9_99 biX7_hasPlace rfl rfl hdX7_hasPlace ⟨Nat.le_of_ble_eq_true rfl, Nat.le_of_ble_eq_true rfl⟩ (by decide) (cE_0 g _) rfl rfl rfl (Nat.le_of_ble_eq_true rfl) dX9_setAll_6 ?_
  refine x_if_eq (tgt := 24) h dX9_setAll_9 (by decide) (q := 12) rfl hf (fun hc1 hf2 => ?_) (fun hc1 hf2 => ?_)
  · skip
    refine x_iconst (v := (-1)) h dX9_setAll_24 (by decide) (q := 25) rfl ?_
    have hz := Option.some.inj hf2
    subst hz
    exact x_iret h hg hr dX9_setAll_25
  · skip
    refine x_aload_n h dX9_setAll_12 rfl 0 rfl (q := 13) rfl ?_
    refine x_get_X9_65_0 h hg kf_X9_33 nn_X9 dX9_setAll_13 ?_
    refine x_iload h dX9_setAll_16 4 rfl (q := 18) rfl ?_
    refine x_callVi (As := [.int x4]) (rest := []) h hg (c_X7_hasState C.2.1 hg.2.1 σ x4 _ rfl) ml_X9_110 biX7_hasState rfl rfl hdX7_hasState ⟨Nat.le_of_ble_eq_true rfl, Nat.le_of_ble_eq_true rfl⟩ (by decide) (cE_0 g _) rfl rfl rfl (Nat.le_of_ble_eq_true rfl) dX9_setAll_18 ?_
    refine x_if_ne (tgt := 26) h dX9_setAll_21 (by decide) (q := 24) rfl hf2 (fun hc3 hf4 => ?_) (fun hc3 hf4 => ?_)
    · skip
      refine x_iload_n h dX9_setAll_26 rfl 3 rfl (q := 27) rfl ?_
      refine x_if_lt (tgt := 43) h dX9_setAll_27 (by decide) (q := 30) rfl hf4 (fun hc5 hf6 => ?_) (fun hc5 hf6 => ?_)
      · skip
        refine x_iconst (v := (-1)) h dX9_setAll_43 (by decide) (q := 44) rfl ?_
        have hz := Option.some.inj hf6
        subst hz
        exact x_iret h hg hr dX9_setAll_44
      · skip
        refine x_iload_n h dX9_setAll_30 rfl 3 rfl (q := 31) rfl ?_
        refine x_aload_n h dX9_setAll_31 rfl 0 rfl (q := 32) rfl ?_
        refine x_get_X9_65_0 h hg kf_X9_33 nn_X9 dX9_setAll_32 ?_
        refine x_iload_n h dX9_setAll_35 rfl 1 rfl (q := 36) rfl ?_
        refine x_iload_n h dX9_setAll_36 rfl 2 rfl (q := 37) rfl ?_
        refine x_callVi (As := [.int x1, .int x2]) (rest := [.int x3]) h hg (c_X7_actionCount C.2.1 hg.2.1 σ x1 x2 _ rfl) ml_X9_103 biX7_actionCount rfl rfl hdX7_actionCount ⟨Nat.le_of_ble_eq_true rfl, Nat.le_of_ble_eq_true rfl⟩ (by decide) (cE_0 g _) rfl rfl rfl (Nat.le_of_ble_eq_true rfl) dX9_setAll_37 ?_
        refine x_icmp_lt (tgt := 45) h dX9_setAll_40 (by decide) (q := 43) rfl hf6 (fun hc7 hf8 => ?_) (fun hc7 hf8 => ?_)
        · skip
          refine x_aload_n h dX9_setAll_45 rfl 0 rfl (q := 46) rfl ?_
          refine x_get_X9_65_1 h hg kf_X9_40 nn_X9 dX9_setAll_46 ?_
          refine x_aload_n h dX9_setAll_49 rfl 0 rfl (q := 50) rfl ?_
          refine x_get_X9_65_0 h hg kf_X9_33 nn_X9 dX9_setAll_50 ?_
          obtain ⟨u9, hu9, hf10⟩ := bnd_inv hf8
          refine x_callVv (As := [.ref (gA g 0)]) (rest := []) h hg (c_X1_keep C.2.1 hg.2.1 σ _ hu9) ml_X9_92 biX1_keep rfl rfl hdX1_keep ⟨Nat.le_of_ble_eq_true rfl, Nat.le_of_ble_eq_true rfl⟩ (by decide) (cE_67 g _) rfl rfl rfl (Nat.le_of_ble_eq_true rfl) dX9_setAll_53 ?_
          refine x_aload_n h dX9_setAll_56 rfl 0 rfl (q := 57) rfl ?_
          refine x_get_X9_65_0 h hg kf_X9_33 nn_X9 dX9_setAll_57 ?_
          refine x_iload_n h dX9_setAll_60 rfl 1 rfl (q := 61) rfl ?_
          refine x_iload_n h dX9_setAll_61 rfl 2 rfl (q := 62) rfl ?_
          refine x_iload_n h dX9_setAll_62 rfl 3 rfl (q := 63) rfl ?_
          refine x_iload h dX9_setAll_63 4 rfl (q := 65) rfl ?_
          obtain ⟨u11, hu11, hf12⟩ := bnd_inv hf10
          refine x_callVi (As := [.int x1, .int x2, .int x3, .int x4]) (rest := []) h hg (c_X7_redirect C.2.1 hg.2.1 u9 x1 x2 x3 x4 _ hu11) ml_X9_128 biX7_redirect rfl rfl hdX7_redirect ⟨Nat.le_of_ble_eq_true rfl, Nat.le_of_ble_eq_true rfl⟩ (by decide) (cE_0 g _) rfl rfl rfl (Nat.le_of_ble_eq_true rfl) dX9_setAll_65 ?_
          have hz := Option.some.inj hf12
          subst hz
          exact x_iret h hg hr dX9_setAll_68
        · skip
          refine x_iconst (v := (-1)) h dX9_setAll_43 (by decide) (q := 44) rfl ?_
          have hz := Option.some.inj hf8
          subst hz
          exact x_iret h hg hr dX9_setAll_44
    · skip
      refine x_iconst (v := (-1)) h dX9_setAll_24 (by decide) (q := 25) rfl ?_
      have hz := Option.some.inj hf4
      subst hz
      exact x_iret h hg hr dX9_setAll_25
theorem c_X9_setAll (l : Launch) {g : cG} (hi : gInj g) (σ : St) (x1 : Int32) (x2 : Int32) (x3 : Int32) (x4 : Int32) (o : Int32 × St) (hf : m_X9_setAll σ x1 x2 x3 x4 = some o) : Met l yX9_setAll (wT yX9_setAll cX9_setAll 5 (some .int)) rmX9_setAll (va_Pc [.ref (gA g 65), .int x1, .int x2, .int x3, .int x4] (XPre g σ)) (XQ g (some (.int o.1)) o.2) 0 0 (cA g) :=
  X_met RX9 hi plX9 rfl (Nat.le_of_ble_eq_true rfl) rfl (fun _ _ _ h hg hL hr => w_X9_setAll σ x1 x2 x3 x4 o h hg hL hr hf)
abbrev rmX9_next : Room := { frames := 2, cells := 0, slots := 0, locals := 43 }
theorem hdX9_next : yX9_next.cls = RX9 ∧ yX9_next.cls ≠ "java/lang/invoke/MethodHandle" ∧ yX9_next.cls ≠ "java/lang/invoke/VarHandle" ∧ (parseMethodDescriptor yX9_next.desc).map (fun d => d.parameters.length) = some 2 := by decide +kernel
def m_X9_next (σ : St) (x1 : Int32) (x2 : Int32) : Int32 :=
  if 0 ≤ (m_X7_target σ x1 x2) then (
    (m_X7_target σ x1 x2)
  ) else (
    (-1)
  )
set_option maxHeartbeats 4000000 in
set_option maxRecDepth 100000 in
theorem w_X9_next {C : XC} {Q : State → Prop} {g : cG} (σ : St) (x1 : Int32) (x2 : Int32) (o : Int32) (h : XOk C cX9_next RX9 tG rmX9_next) (hg : XG C g) (hL : C.2.2.2.2.2.2.2.2.2.2.2.2.1 = 4) (hr : XEnd C (some .int) Q (XQ g (some (.int o)) σ) (cA g)) (hf : m_X9_next σ x1 x2 = o) : Xs C (wW g) Q σ 0 [(0, .ref (gA g 65)), (1, .int x1), (2, .int x2)] [] := by
  unfold m_X9_next at hf
  refine x_aload_n h dX9_next_0 rfl 0 rfl (q := 1) rfl ?_
  refine x_get_X9_65_0 h hg kf_X9_33 nn_X9 dX9_next_1 ?_
  refine x_iload_n h dX9_next_4 rfl 1 rfl (q := 5) rfl ?_
  refine x_iload_n h dX9_next_5 rfl 2 rfl (q := 6) rfl ?_
  refine x_callVi (As := [.int x1, .int x2]) (rest := []) h hg (c_X7_target C.2.1 hg.2.1 σ x1 x2 _ rfl) ml_X9_122 biX7_target rfl rfl hdX7_target ⟨Nat.le_of_ble_eq_true rfl, Nat.le_of_ble_eq_true rfl⟩ (by decide) (cE_0 g _) rfl rfl rfl (Nat.le_of_ble_eq_true rfl) dX9_next_6 ?_
  refine x_istore_n (lv' := [(3, .int (m_X7_target σ x1 x2)), (0, .ref (gA g 65)), (1, .int x1), (2, .int x2)]) h dX9_next_9 rfl hL (by decide) rfl (q := 10) rfl ?_
  refine x_iload_n h dX9_next_10 rfl 0 rfl (q := 11) rfl ?_
  refine x_if_ge (tgt := 18) h dX9_next_11 (by decide) (q := 14) rfl hf (fun hc1 hf2 => ?_) (fun hc1 hf2 => ?_)
  · skip
    refine x_iload_n h dX9_next_18 rfl 0 rfl (q := 19) rfl ?_
    subst hf2
    exact x_iret h hg hr dX9_next_19
  · skip
    refine x_iconst (v := (-1)) h dX9_next_14 (by decide) (q := 15) rfl ?_
    refine x_goto (q := 19) h dX9_next_15 (by decide) ?_
    subst hf2
    exact x_iret h hg hr dX9_next_19
theorem c_X9_next (l : Launch) {g : cG} (hi : gInj g) (σ : St) (x1 : Int32) (x2 : Int32) (o : Int32) (hf : m_X9_next σ x1 x2 = o) : Met l yX9_next (wT yX9_next cX9_next 4 (some .int)) rmX9_next (va_Pc [.ref (gA g 65), .int x1, .int x2] (XPre g σ)) (XQ g (some (.int o)) σ) 0 0 (cA g) :=
  X_met RX9 hi plX9 rfl (Nat.le_of_ble_eq_true rfl) rfl (fun _ _ _ h hg hL hr => w_X9_next σ x1 x2 o h hg hL hr hf)
abbrev rmX9_moves : Room := { frames := 3, cells := 0, slots := 0, locals := 66 }
theorem hdX9_moves : yX9_moves.cls = RX9 ∧ yX9_moves.cls ≠ "java/lang/invoke/MethodHandle" ∧ yX9_moves.cls ≠ "java/lang/invoke/VarHandle" ∧ (parseMethodDescriptor yX9_moves.desc).map (fun d => d.parameters.length) = some 1 := by decide +kernel
def m_X9_moves (σ : St) (x1 : Int32) : Option (Int32) :=
  if (bI (m_X7_hasState σ x1)) = 0 then (
    some (-1)
  ) else (
    (m_X7_possibleMoves σ x1).bind fun u3 =>
    some u3
  )
set_option maxHeartbeats 4000000 in
set_option maxRecDepth 100000 in
theorem w_X9_moves {C : XC} {Q : State → Prop} {g : cG} (σ : St) (x1 : Int32) (o : Int32) (h : XOk C cX9_moves RX9 tG rmX9_moves) (hg : XG C g) (hL : C.2.2.2.2.2.2.2.2.2.2.2.2.1 = 2) (hr : XEnd C (some .int) Q (XQ g (some (.int o)) σ) (cA g)) (hf : m_X9_moves σ x1 = some o) : Xs C (wW g) Q σ 0 [(0, .ref (gA g 65)), (1, .int x1)] [] := by
  unfold m_X9_moves at hf
  refine x_aload_n h dX9_moves_0 rfl 0 rfl (q := 1) rfl ?_
  refine x_get_X9_65_0 h hg kf_X9_33 nn_X9 dX9_moves_1 ?_
  refine x_iload_n h dX9_moves_4 rfl 1 rfl (q := 5) rfl ?_
  refine x_callVi (As := [.int x1]) (rest := []) h hg (c_X7_hasState C.2.1 hg.2.1 σ x1 _ rfl) ml_X9_110 biX7_hasState rfl rfl hdX7_hasState ⟨Nat.le_of_ble_eq_true rfl, Nat.le_of_ble_eq_true rfl⟩ (by decide) (cE_0 g _) rfl rfl rfl (Nat.le_of_ble_eq_true rfl) dX9_moves_5 ?_
  refine x_if_eq (tgt := 22) h dX9_moves_8 (by decide) (q := 11) rfl hf (fun hc1 hf2 => ?_) (fun hc1 hf2 => ?_)
  · skip
    refine x_iconst (v := (-1)) h dX9_moves_22 (by decide) (q := 23) rfl ?_
    have hz := Option.some.inj hf2
    subst hz
    exact x_iret h hg hr dX9_moves_23
  · skip
    refine x_aload_n h dX9_moves_11 rfl 0 rfl (q := 12) rfl ?_
    refine x_get_X9_65_0 h hg kf_X9_33 nn_X9 dX9_moves_12 ?_
    refine x_iload_n h dX9_moves_15 rfl 1 rfl (q := 16) rfl ?_
    obtain ⟨u3, hu3, hf4⟩ := bnd_inv hf2
    refine x_callVi (As := [.int x1]) (rest := []) h hg (c_X7_possibleMoves C.2.1 hg.2.1 σ x1 _ hu3) ml_X9_132 biX7_possibleMoves rfl rfl hdX7_possibleMoves ⟨Nat.le_of_ble_eq_true rfl, Nat.le_of_ble_eq_true rfl⟩ (by decide) (cE_0 g _) rfl rfl rfl (Nat.le_of_ble_eq_true rfl) dX9_moves_16 ?_
    refine x_goto (q := 23) h dX9_moves_19 (by decide) ?_
    have hz := Option.some.inj hf4
    subst hz
    exact x_iret h hg hr dX9_moves_23
theorem c_X9_moves (l : Launch) {g : cG} (hi : gInj g) (σ : St) (x1 : Int32) (o : Int32) (hf : m_X9_moves σ x1 = some o) : Met l yX9_moves (wT yX9_moves cX9_moves 2 (some .int)) rmX9_moves (va_Pc [.ref (gA g 65), .int x1] (XPre g σ)) (XQ g (some (.int o)) σ) 0 0 (cA g) :=
  X_met RX9 hi plX9 rfl (Nat.le_of_ble_eq_true rfl) rfl (fun _ _ _ h hg hL hr => w_X9_moves σ x1 o h hg hL hr hf)
abbrev rmX9_isQuestion : Room := { frames := 1, cells := 0, slots := 0, locals := 21 }
theorem hdX9_isQuestion : yX9_isQuestion.cls = RX9 ∧ yX9_isQuestion.cls ≠ "java/lang/invoke/MethodHandle" ∧ yX9_isQuestion.cls ≠ "java/lang/invoke/VarHandle" ∧ (parseMethodDescriptor yX9_isQuestion.desc).map (fun d => d.parameters.length) = some 2 := by decide +kernel
def m_X9_isQuestion (σ : St) (x1 : Int32) (x2 : Int32) : Bool :=
  if (bI (m_X7_hasCoalition σ x1)) = 0 then (
    false
  ) else (
    if (bI (m_X7_hasState σ x2)) = 0 then (
      false
    ) else (
      true
    )
  )
set_option maxHeartbeats 4000000 in
set_option maxRecDepth 100000 in
theorem w_X9_isQuestion {C : XC} {Q : State → Prop} {g : cG} (σ : St) (x1 : Int32) (x2 : Int32) (o : Bool) (h : XOk C cX9_isQuestion RX9 tG rmX9_isQuestion) (hg : XG C g) (hL : C.2.2.2.2.2.2.2.2.2.2.2.2.1 = 3) (hr : XEnd C (some .boolean) Q (XQ g (some (.int (bI o))) σ) (cA g)) (hf : m_X9_isQuestion σ x1 x2 = o) : Xs C (wW g) Q σ 0 [(0, .ref (gA g 65)), (1, .int x1), (2, .int x2)] [] := by
  unfold m_X9_isQuestion at hf
  refine x_aload_n h dX9_isQuestion_0 rfl 0 rfl (q := 1) rfl ?_
  refine x_get_X9_65_0 h hg kf_X9_33 nn_X9 dX9_isQuestion_1 ?_
  refine x_iload_n h dX9_isQuestion_4 rfl 1 rfl (q := 5) rfl ?_
  refine x_callVi (As := [.int x1]) (rest := []) h hg (c_X7_hasCoalition C.2.1 hg.2.1 σ x1 _ rfl) ml_X9_245 biX7_hasCoalition rfl rfl hdX7_hasCoalition ⟨Nat.le_of_ble_eq_true rfl, Nat.le_of_ble_eq_true rfl⟩ (by decide) (cE_0 g _) rfl rfl rfl (Nat.le_of_ble_eq_true rfl) dX9_isQuestion_5 ?_
  refine x_if_eq (tgt := 26) h dX9_isQuestion_8 (by decide) (q := 11) rfl hf (fun hc1 hf2 => ?_) (fun hc1 hf2 => ?_)
  · skip
    refine x_iconst (v := 0) h dX9_isQuestion_26 (by decide) (q := 27) rfl ?_
    subst hf2
    exact x_zret (b := false) h hg hr dX9_isQuestion_27
  · skip
    refine x_aload_n h dX9_isQuestion_11 rfl 0 rfl (q := 12) rfl ?_
    refine x_get_X9_65_0 h hg kf_X9_33 nn_X9 dX9_isQuestion_12 ?_
    refine x_iload_n h dX9_isQuestion_15 rfl 2 rfl (q := 16) rfl ?_
    refine x_callVi (As := [.int x2]) (rest := []) h hg (c_X7_hasState C.2.1 hg.2.1 σ x2 _ rfl) ml_X9_110 biX7_hasState rfl rfl hdX7_hasState ⟨Nat.le_of_ble_eq_true rfl, Nat.le_of_ble_eq_true rfl⟩ (by decide) (cE_0 g _) rfl rfl rfl (Nat.le_of_ble_eq_true rfl) dX9_isQuestion_16 ?_
    refine x_if_eq (tgt := 26) h dX9_isQuestion_19 (by decide) (q := 22) rfl hf2 (fun hc3 hf4 => ?_) (fun hc3 hf4 => ?_)
    · skip
      refine x_iconst (v := 0) h dX9_isQuestion_26 (by decide) (q := 27) rfl ?_
      subst hf4
      exact x_zret (b := false) h hg hr dX9_isQuestion_27
    · skip
      refine x_iconst (v := 1) h dX9_isQuestion_22 (by decide) (q := 23) rfl ?_
      refine x_goto (q := 27) h dX9_isQuestion_23 (by decide) ?_
      subst hf4
      exact x_zret (b := true) h hg hr dX9_isQuestion_27
theorem c_X9_isQuestion (l : Launch) {g : cG} (hi : gInj g) (σ : St) (x1 : Int32) (x2 : Int32) (o : Bool) (hf : m_X9_isQuestion σ x1 x2 = o) : Met l yX9_isQuestion (wT yX9_isQuestion cX9_isQuestion 3 (some .boolean)) rmX9_isQuestion (va_Pc [.ref (gA g 65), .int x1, .int x2] (XPre g σ)) (XQ g (some (.int (bI o))) σ) 0 0 (cA g) :=
  X_met RX9 hi plX9 rfl (Nat.le_of_ble_eq_true rfl) rfl (fun _ _ _ h hg hL hr => w_X9_isQuestion σ x1 x2 o h hg hL hr hf)
abbrev rmX9_force : Room := { frames := 3, cells := 0, slots := 0, locals := 72 }
theorem hdX9_force : yX9_force.cls = RX9 ∧ yX9_force.cls ≠ "java/lang/invoke/MethodHandle" ∧ yX9_force.cls ≠ "java/lang/invoke/VarHandle" ∧ (parseMethodDescriptor yX9_force.desc).map (fun d => d.parameters.length) = some 3 := by decide +kernel
def m_X9_force (σ : St) (x1 : Int32) (x2 : Int32) (x3 : Int32) : Option (Int32 × St) :=
  if (bI (m_X9_isQuestion σ x1 x2)) = 0 then (
    some ((-1), σ)
  ) else (
    if (bI (m_X7_hasSet σ x3)) = 0 then (
      some ((-1), σ)
    ) else (
      (m_X6_leastForcing σ x1 x2 x3).bind fun u5 =>
      some (u5.1, u5.2)
    )
  )
set_option maxHeartbeats 4000000 in
set_option maxRecDepth 100000 in
theorem w_X9_force {C : XC} {Q : State → Prop} {g : cG} (σ : St) (x1 : Int32) (x2 : Int32) (x3 : Int32) (o : Int32 × St) (h : XOk C cX9_force RX9 tG rmX9_force) (hg : XG C g) (hL : C.2.2.2.2.2.2.2.2.2.2.2.2.1 = 4) (hr : XEnd C (some .int) Q (XQ g (some (.int o.1)) o.2) (cA g)) (hf : m_X9_force σ x1 x2 x3 = some o) : Xs C (wW g) Q σ 0 [(0, .ref (gA g 65)), (1, .int x1), (2, .int x2), (3, .int x3)] [] := by
  unfold m_X9_force at hf
  refine x_aload_n h dX9_force_0 rfl 0 rfl (q := 1) rfl ?_
  refine x_iload_n h dX9_force_1 rfl 1 rfl (q := 2) rfl ?_
  refine x_iload_n h dX9_force_2 rfl 2 rfl (q := 3) rfl ?_
  refine x_callVi (As := [.int x1, .int x2]) (rest := []) h hg (c_X9_isQuestion C.2.1 hg.2.1 σ x1 x2 _ rfl) ml_X9_135 biX9_isQuestion rfl rfl hdX9_isQuestion ⟨Nat.le_of_ble_eq_true rfl, Nat.le_of_ble_eq_true rfl⟩ (by decide) (cE_65 g _) rfl rfl rfl (Nat.le_of_ble_eq_true rfl) dX9_force_3 ?_
  refine x_if_eq (tgt := 20) h dX9_force_6 (by decide) (q := 9) rfl hf (fun hc1 hf2 => ?_) (fun hc1 hf2 => ?_)
  · skip
    refine x_iconst (v := (-1)) h dX9_force_20 (by decide) (q := 21) rfl ?_
    have hz := Option.some.inj hf2
    subst hz
    exact x_iret h hg hr dX9_force_21
  · skip
    refine x_aload_n h dX9_force_9 rfl 0 rfl (q := 10) rfl ?_
    refine x_get_X9_65_0 h hg kf_X9_33 nn_X9 dX9_force_10 ?_
    refine x_iload_n h dX9_force_13 rfl 3 rfl (q := 14) rfl ?_
    refine x_callVi (As := [.int x3]) (rest := []) h hg (c_X7_hasSet C.2.1 hg.2.1 σ x3 _ rfl) ml_X9_138 biX7_hasSet rfl rfl hdX7_hasSet ⟨Nat.le_of_ble_eq_true rfl, Nat.le_of_ble_eq_true rfl⟩ (by decide) (cE_0 g _) rfl rfl rfl (Nat.le_of_ble_eq_true rfl) dX9_force_14 ?_
    refine x_if_ne (tgt := 22) h dX9_force_17 (by decide) (q := 20) rfl hf2 (fun hc3 hf4 => ?_) (fun hc3 hf4 => ?_)
    · skip
      refine x_aload_n h dX9_force_22 rfl 0 rfl (q := 23) rfl ?_
      refine x_get_X9_65_2 h hg kf_X9_49 nn_X9 dX9_force_23 ?_
      refine x_iload_n h dX9_force_26 rfl 1 rfl (q := 27) rfl ?_
      refine x_iload_n h dX9_force_27 rfl 2 rfl (q := 28) rfl ?_
      refine x_iload_n h dX9_force_28 rfl 3 rfl (q := 29) rfl ?_
      obtain ⟨u5, hu5, hf6⟩ := bnd_inv hf4
      refine x_callVi (As := [.int x1, .int x2, .int x3]) (rest := []) h hg (c_X6_leastForcing C.2.1 hg.2.1 σ x1 x2 x3 _ hu5) ml_X9_141 biX6_leastForcing rfl rfl hdX6_leastForcing ⟨Nat.le_of_ble_eq_true rfl, Nat.le_of_ble_eq_true rfl⟩ (by decide) (cE_69 g _) rfl rfl rfl (Nat.le_of_ble_eq_true rfl) dX9_force_29 ?_
      have hz := Option.some.inj hf6
      subst hz
      exact x_iret h hg hr dX9_force_32
    · skip
      refine x_iconst (v := (-1)) h dX9_force_20 (by decide) (q := 21) rfl ?_
      have hz := Option.some.inj hf4
      subst hz
      exact x_iret h hg hr dX9_force_21
theorem c_X9_force (l : Launch) {g : cG} (hi : gInj g) (σ : St) (x1 : Int32) (x2 : Int32) (x3 : Int32) (o : Int32 × St) (hf : m_X9_force σ x1 x2 x3 = some o) : Met l yX9_force (wT yX9_force cX9_force 4 (some .int)) rmX9_force (va_Pc [.ref (gA g 65), .int x1, .int x2, .int x3] (XPre g σ)) (XQ g (some (.int o.1)) o.2) 0 0 (cA g) :=
  X_met RX9 hi plX9 rfl (Nat.le_of_ble_eq_true rfl) rfl (fun _ _ _ h hg hL hr => w_X9_force σ x1 x2 x3 o h hg hL hr hf)
abbrev rmX9_reply : Room := { frames := 3, cells := 0, slots := 0, locals := 72 }
theorem hdX9_reply : yX9_reply.cls = RX9 ∧ yX9_reply.cls ≠ "java/lang/invoke/MethodHandle" ∧ yX9_reply.cls ≠ "java/lang/invoke/VarHandle" ∧ (parseMethodDescriptor yX9_reply.desc).map (fun d => d.parameters.length) = some 4 := by decide +kernel
def m_X9_reply (σ : St) (x1 : Int32) (x2 : Int32) (x3 : Int32) (x4 : Int32) : Option (Int32 × St) :=
  if (bI (m_X9_isQuestion σ x1 x2)) = 0 then (
    some ((-1), σ)
  ) else (
    if (bI (m_X7_hasSet σ x4)) = 0 then (
      some ((-1), σ)
    ) else (
      (m_X6_isJointAction σ x1 x2 x3).bind fun u5 =>
      if (bI u5.1) = 0 then (
        some ((-1), u5.2)
      ) else (
        (m_X6_leastLeaving u5.2 x1 x2 x3 x4).bind fun u9 =>
        some (u9, u5.2)
      )
    )
  )
set_option maxHeartbeats 4000000 in
set_option maxRecDepth 100000 in
theorem w_X9_reply {C : XC} {Q : State → Prop} {g : cG} (σ : St) (x1 : Int32) (x2 : Int32) (x3 : Int32) (x4 : Int32) (o : Int32 × St) (h : XOk C cX9_reply RX9 tG rmX9_reply) (hg : XG C g) (hL : C.2.2.2.2.2.2.2.2.2.2.2.2.1 = 5) (hr : XEnd C (some .int) Q (XQ g (some (.int o.1)) o.2) (cA g)) (hf : m_X9_reply σ x1 x2 x3 x4 = some o) : Xs C (wW g) Q σ 0 [(0, .ref (gA g 65)), (1, .int x1), (2, .int x2), (3, .int x3), (4, .int x4)] [] := by
  unfold m_X9_reply at hf
  refine x_aload_n h dX9_reply_0 rfl 0 rfl (q := 1) rfl ?_
  refine x_iload_n h dX9_reply_1 rfl 1 rfl (q := 2) rfl ?_
  refine x_iload_n h dX9_reply_2 rfl 2 rfl (q := 3) rfl ?_
  refine x_callVi (As := [.int x1, .int x2]) (rest := []) h hg (c_X9_isQuestion C.2.1 hg.2.1 σ x1 x2 _ rfl) ml_X9_135 biX9_isQuestion rfl rfl hdX9_isQuestion ⟨Nat.le_of_ble_eq_true rfl, Nat.le_of_ble_eq_true rfl⟩ (by decide) (cE_65 g _) rfl rfl rfl (Nat.le_of_ble_eq_true rfl) dX9_reply_3 ?_
  refine x_if_eq (tgt := 21) h dX9_reply_6 (by decide) (q := 9) rfl hf (fun hc1 hf2 => ?_) (fun hc1 hf2 => ?_)
  · skip
    refine x_iconst (v := (-1)) h dX9_reply_21 (by decide) (q := 22) rfl ?_
    have hz := Option.some.inj hf2
    subst hz
    exact x_iret h hg hr dX9_reply_22
  · skip
    refine x_aload_n h dX9_reply_9 rfl 0 rfl (q := 10) rfl ?_
    refine x_get_X9_65_0 h hg kf_X9_33 nn_X9 dX9_reply_10 ?_
    refine x_iload h dX9_reply_13 4 rfl (q := 15) rfl ?_
    refine x_callVi (As := [.int x4]) (rest := []) h hg (c_X7_hasSet C.2.1 hg.2.1 σ x4 _ rfl) ml_X9_138 biX7_hasSet rfl rfl hdX7_hasSet ⟨Nat.le_of_ble_eq_true rfl, Nat.le_of_ble_eq_true rfl⟩ (by decide) (cE_0 g _) rfl rfl rfl (Nat.le_of_ble_eq_true rfl) dX9_reply_15 ?_
    refine x_if_ne (tgt := 23) h dX9_reply_18 (by decide) (q := 21) rfl hf2 (fun hc3 hf4 => ?_) (fun hc3 hf4 => ?_)
    · skip
      refine x_aload_n h dX9_reply_23 rfl 0 rfl (q := 24) rfl ?_
      refine x_get_X9_65_2 h hg kf_X9_49 nn_X9 dX9_reply_24 ?_
      refine x_iload_n h dX9_reply_27 rfl 1 rfl (q := 28) rfl ?_
      refine x_iload_n h dX9_reply_28 rfl 2 rfl (q := 29) rfl ?_
      refine x_iload_n h dX9_reply_29 rfl 3 rfl (q := 30) rfl ?_
      obtain ⟨u5, hu5, hf6⟩ := bnd_inv hf4
      refine x_callVi (As := [.int x1, .int x2, .int x3]) (rest := []) h hg (c_X6_isJointAction C.2.1 hg.2.1 σ x1 x2 x3 _ hu5) ml_X9_145 biX6_isJointAction rfl rfl hdX6_isJointAction ⟨Nat.le_of_ble_eq_true rfl, Nat.le_of_ble_eq_true rfl⟩ (by decide) (cE_69 g _) rfl rfl rfl (Nat.le_of_ble_eq_true rfl) dX9_reply_30 ?_
      refine x_if_ne (tgt := 38) h dX9_reply_33 (by decide) (q := 36) rfl hf6 (fun hc7 hf8 => ?_) (fun hc7 hf8 => ?_)
      · skip
        refine x_aload_n h dX9_reply_38 rfl 0 rfl (q := 39) rfl ?_
        refine x_get_X9_65_2 h hg kf_X9_49 nn_X9 dX9_reply_39 ?_
        refine x_iload_n h dX9_reply_42 rfl 1 rfl (q := 43) rfl ?_
        refine x_iload_n h dX9_reply_43 rfl 2 rfl (q := 44) rfl ?_
        refine x_iload_n h dX9_reply_44 rfl 3 rfl (q := 45) rfl ?_
        refine x_iload h dX9_reply_45 4 rfl (q := 47) rfl ?_
        obtain ⟨u9, hu9, hf10⟩ := bnd_inv hf8
        refine x_callVi (As := [.int x1, .int x2, .int x3, .int x4]) (rest := []) h hg (c_X6_leastLeaving C.2.1 hg.2.1 u5.2 x1 x2 x3 x4 _ hu9) ml_X9_149 biX6_leastLeaving rfl rfl hdX6_leastLeaving ⟨Nat.le_of_ble_eq_true rfl, Nat.le_of_ble_eq_true rfl⟩ (by decide) (cE_69 g _) rfl rfl rfl (Nat.le_of_ble_eq_true rfl) dX9_reply_47 ?_
        have hz := Option.some.inj hf10
        subst hz
        exact x_iret h hg hr dX9_reply_50
      · skip
        refine x_iconst (v := (-1)) h dX9_reply_36 (by decide) (q := 37) rfl ?_
        have hz := Option.some.inj hf8
        subst hz
        exact x_iret h hg hr dX9_reply_37
    · skip
      refine x_iconst (v := (-1)) h dX9_reply_21 (by decide) (q := 22) rfl ?_
      have hz := Option.some.inj hf4
      subst hz
      exact x_iret h hg hr dX9_reply_22
theorem c_X9_reply (l : Launch) {g : cG} (hi : gInj g) (σ : St) (x1 : Int32) (x2 : Int32) (x3 : Int32) (x4 : Int32) (o : Int32 × St) (hf : m_X9_reply σ x1 x2 x3 x4 = some o) : Met l yX9_reply (wT yX9_reply cX9_reply 5 (some .int)) rmX9_reply (va_Pc [.ref (gA g 65), .int x1, .int x2, .int x3, .int x4] (XPre g σ)) (XQ g (some (.int o.1)) o.2) 0 0 (cA g) :=
  X_met RX9 hi plX9 rfl (Nat.le_of_ble_eq_true rfl) rfl (fun _ _ _ h hg hL hr => w_X9_reply σ x1 x2 x3 x4 o h hg hL hr hf)
abbrev rmX9_forced : Room := { frames := 3, cells := 0, slots := 0, locals := 73 }
theorem hdX9_forced : yX9_forced.cls = RX9 ∧ yX9_forced.cls ≠ "java/lang/invoke/MethodHandle" ∧ yX9_forced.cls ≠ "java/lang/invoke/VarHandle" ∧ (parseMethodDescriptor yX9_forced.desc).map (fun d => d.parameters.length) = some 2 := by decide +kernel
def m_X9_forced (σ : St) (x1 : Int32) (x2 : Int32) : Option (Int32 × St) :=
  if (bI (m_X9_isQuestion σ x1 x2)) = 0 then (
    some ((-1), σ)
  ) else (
    (m_X6_countForced σ x1 x2).bind fun u3 =>
    some (u3.1, u3.2)
  )
set_option maxHeartbeats 4000000 in
set_option maxRecDepth 100000 in
theorem w_X9_forced {C : XC} {Q : State → Prop} {g : cG} (σ : St) (x1 : Int32) (x2 : Int32) (o : Int32 × St) (h : XOk C cX9_forced RX9 tG rmX9_forced) (hg : XG C g) (hL : C.2.2.2.2.2.2.2.2.2.2.2.2.1 = 3) (hr : XEnd C (some .int) Q (XQ g (some (.int o.1)) o.2) (cA g)) (hf : m_X9_forced σ x1 x2 = some o) : Xs C (wW g) Q σ 0 [(0, .ref (gA g 65)), (1, .int x1), (2, .int x2)] [] := by
  unfold m_X9_forced at hf
  refine x_aload_n h dX9_forced_0 rfl 0 rfl (q := 1) rfl ?_
  refine x_iload_n h dX9_forced_1 rfl 1 rfl (q := 2) rfl ?_
  refine x_iload_n h dX9_forced_2 rfl 2 rfl (q := 3) rfl ?_
  refine x_callVi (As := [.int x1, .int x2]) (rest := []) h hg (c_X9_isQuestion C.2.1 hg.2.1 σ x1 x2 _ rfl) ml_X9_135 biX9_isQuestion rfl rfl hdX9_isQuestion ⟨Nat.le_of_ble_eq_true rfl, Nat.le_of_ble_eq_true rfl⟩ (by decide) (cE_65 g _) rfl rfl rfl (Nat.le_of_ble_eq_true rfl) dX9_forced_3 ?_
  refine x_if_eq (tgt := 21) h dX9_forced_6 (by decide) (q := 9) rfl hf (fun hc1 hf2 => ?_) (fun hc1 hf2 => ?_)
  · skip
    refine x_iconst (v := (-1)) h dX9_forced_21 (by decide) (q := 22) rfl ?_
    have hz := Option.some.inj hf2
    subst hz
    exact x_iret h hg hr dX9_forced_22
  · skip
    refine x_aload_n h dX9_forced_9 rfl 0 rfl (q := 10) rfl ?_
    refine x_get_X9_65_2 h hg kf_X9_49 nn_X9 dX9_forced_10 ?_
    refine x_iload_n h dX9_forced_13 rfl 1 rfl (q := 14) rfl ?_
    refine x_iload_n h dX9_forced_14 rfl 2 rfl (q := 15) rfl ?_
    obtain ⟨u3, hu3, hf4⟩ := bnd_inv hf2
    refine x_callVi (As := [.int x1, .int x2]) (rest := []) h hg (c_X6_countForced C.2.1 hg.2.1 σ x1 x2 _ hu3) ml_X9_152 biX6_countForced rfl rfl hdX6_countForced ⟨Nat.le_of_ble_eq_true rfl, Nat.le_of_ble_eq_true rfl⟩ (by decide) (cE_69 g _) rfl rfl rfl (Nat.le_of_ble_eq_true rfl) dX9_forced_15 ?_
    refine x_goto (q := 22) h dX9_forced_18 (by decide) ?_
    have hz := Option.some.inj hf4
    subst hz
    exact x_iret h hg hr dX9_forced_22
theorem c_X9_forced (l : Launch) {g : cG} (hi : gInj g) (σ : St) (x1 : Int32) (x2 : Int32) (o : Int32 × St) (hf : m_X9_forced σ x1 x2 = some o) : Met l yX9_forced (wT yX9_forced cX9_forced 3 (some .int)) rmX9_forced (va_Pc [.ref (gA g 65), .int x1, .int x2] (XPre g σ)) (XQ g (some (.int o.1)) o.2) 0 0 (cA g) :=
  X_met RX9 hi plX9 rfl (Nat.le_of_ble_eq_true rfl) rfl (fun _ _ _ h hg hL hr => w_X9_forced σ x1 x2 o h hg hL hr hf)
abbrev rmX9_type : Room := { frames := 2, cells := 0, slots := 0, locals := 43 }
theorem hdX9_type : yX9_type.cls = RX9 ∧ yX9_type.cls ≠ "java/lang/invoke/MethodHandle" ∧ yX9_type.cls ≠ "java/lang/invoke/VarHandle" ∧ (parseMethodDescriptor yX9_type.desc).map (fun d => d.parameters.length) = some 1 := by decide +kernel
def m_X9_type (σ : St) (x1 : Int32) : Int32 × St :=
  if x1 < 32 then (
    ((-1), σ)
  ) else (
    if x1 ≤ 126 then (
      if (bI (m_X4_append σ x1).1) = 0 then (
        ((-2), (m_X4_append σ x1).2)
      ) else (
        (((m_X4_append σ x1).2 73 5), (m_X4_append σ x1).2)
      )
    ) else (
      ((-1), σ)
    )
  )
set_option maxHeartbeats 4000000 in
set_option maxRecDepth 100000 in
theorem w_X9_type {C : XC} {Q : State → Prop} {g : cG} (σ : St) (x1 : Int32) (o : Int32 × St) (h : XOk C cX9_type RX9 tG rmX9_type) (hg : XG C g) (hL : C.2.2.2.2.2.2.2.2.2.2.2.2.1 = 2) (hr : XEnd C (some .int) Q (XQ g (some (.int o.1)) o.2) (cA g)) (hf : m_X9_type σ x1 = o) : Xs C (wW g) Q σ 0 [(0, .ref (gA g 65)), (1, .int x1)] [] := by
  unfold m_X9_type at hf
  refine x_iload_n h dX9_type_0 rfl 1 rfl (q := 1) rfl ?_
  refine x_bipush (v := 32) h dX9_type_1 (by decide) (q := 3) rfl ?_
  refine x_icmp_lt (tgt := 12) h dX9_type_3 (by decide) (q := 6) rfl hf (fun hc1 hf2 => ?_) (fun hc1 hf2 => ?_)
  · skip
    refine x_iconst (v := (-1)) h dX9_type_12 (by decide) (q := 13) rfl ?_
    subst hf2
    exact x_iret h hg hr dX9_type_13
  · skip
    refine x_iload_n h dX9_type_6 rfl 1 rfl (q := 7) rfl ?_
    refine x_bipush (v := 126) h dX9_type_7 (by decide) (q := 9) rfl ?_
    refine x_icmp_le (tgt := 14) h dX9_type_9 (by decide) (q := 12) rfl hf2 (fun hc3 hf4 => ?_) (fun hc3 hf4 => ?_)
    · skip
      refine x_aload_n h dX9_type_14 rfl 0 rfl (q := 15) rfl ?_
      refine x_get_X9_65_3 h hg kf_X9_56 nn_X9 dX9_type_15 ?_
      refine x_iload_n h dX9_type_18 rfl 1 rfl (q := 19) rfl ?_
      refine x_callVi (As := [.int x1]) (rest := []) h hg (c_X4_append C.2.1 hg.2.1 σ x1 _ rfl) ml_X9_155 biX4_append rfl rfl hdX4_append ⟨Nat.le_of_ble_eq_true rfl, Nat.le_of_ble_eq_true rfl⟩ (by decide) (cE_73 g _) rfl rfl rfl (Nat.le_of_ble_eq_true rfl) dX9_type_19 ?_
      refine x_if_eq (tgt := 35) h dX9_type_22 (by decide) (q := 25) rfl hf4 (fun hc5 hf6 => ?_) (fun hc5 hf6 => ?_)
      · skip
        refine x_bipush (v := (-2)) h dX9_type_35 (by decide) (q := 37) rfl ?_
        subst hf6
        exact x_iret h hg hr dX9_type_37
      · skip
        refine x_aload_n h dX9_type_25 rfl 0 rfl (q := 26) rfl ?_
        refine x_get_X9_65_3 h hg kf_X9_56 nn_X9 dX9_type_26 ?_
        refine x_get_X4_73_5 h hg kf_X9_158 nn_X4 dX9_type_29 ?_
        refine x_goto (q := 37) h dX9_type_32 (by decide) ?_
        subst hf6
        exact x_iret h hg hr dX9_type_37
    · skip
      refine x_iconst (v := (-1)) h dX9_type_12 (by decide) (q := 13) rfl ?_
      subst hf4
      exact x_iret h hg hr dX9_type_13
theorem c_X9_type (l : Launch) {g : cG} (hi : gInj g) (σ : St) (x1 : Int32) (o : Int32 × St) (hf : m_X9_type σ x1 = o) : Met l yX9_type (wT yX9_type cX9_type 2 (some .int)) rmX9_type (va_Pc [.ref (gA g 65), .int x1] (XPre g σ)) (XQ g (some (.int o.1)) o.2) 0 0 (cA g) :=
  X_met RX9 hi plX9 rfl (Nat.le_of_ble_eq_true rfl) rfl (fun _ _ _ h hg hL hr => w_X9_type σ x1 o h hg hL hr hf)
abbrev rmX9_read : Room := { frames := 7, cells := 0, slots := 0, locals := 155 }
theorem hdX9_read : yX9_read.cls = RX9 ∧ yX9_read.cls ≠ "java/lang/invoke/MethodHandle" ∧ yX9_read.cls ≠ "java/lang/invoke/VarHandle" ∧ (parseMethodDescriptor yX9_read.desc).map (fun d => d.parameters.length) = some 0 := by decide +kernel
def m_X9_read (σ : St) : Option (Int32 × St) :=
  if (σ 65 8) < 0 then (
    some ((-2), σ)
  ) else (
    if (σ 65 8) < 8 then (
      chk (σ 65 8) 8 <|
      (m_X4_parse σ (25 + 5 * (Int32.toNatClampNeg (σ 65 8)))).bind fun u7 =>
      if u7.1 < 0 then (
        some ((((up (up u7.2 73 5 0) 65 8 (((up u7.2 73 5 0) 65 8) + 1)) 65 8) - 1), (up (up u7.2 73 5 0) 65 8 (((up u7.2 73 5 0) 65 8) + 1)))
      ) else (
        some (((-100) - u7.1), u7.2)
      )
    ) else (
      some ((-2), σ)
    )
  )
set_option maxHeartbeats 4000000 in
set_option maxRecDepth 100000 in
theorem w_X9_read {C : XC} {Q : State → Prop} {g : cG} (σ : St) (o : Int32 × St) (h : XOk C cX9_read RX9 tG rmX9_read) (hg : XG C g) (hL : C.2.2.2.2.2.2.2.2.2.2.2.2.1 = 2) (hr : XEnd C (some .int) Q (XQ g (some (.int o.1)) o.2) (cA g)) (hf : m_X9_read σ = some o) : Xs C (wW g) Q σ 0 [(0, .ref (gA g 65))] [] := by
  unfold m_X9_read at hf
  refine x_aload_n h dX9_read_0 rfl 0 rfl (q := 1) rfl ?_
  refine x_get_X9_65_8 h hg kf_X9_15 nn_X9 dX9_read_1 ?_
  refine x_if_lt (tgt := 19) h dX9_read_4 (by decide) (q := 7) rfl hf (fun hc1 hf2 => ?_) (fun hc1 hf2 => ?_)
  · skip
    refine x_bipush (v := (-2)) h dX9_read_19 (by decide) (q := 21) rfl ?_
    have hz := Option.some.inj hf2
    subst hz
    exact x_iret h hg hr dX9_read_21
  · skip
    refine x_aload_n h dX9_read_7 rfl 0 rfl (q := 8) rfl ?_
    refine x_get_X9_65_8 h hg kf_X9_15 nn_X9 dX9_read_8 ?_
    refine x_aload_n h dX9_read_11 rfl 0 rfl (q := 12) rfl ?_
    refine x_get_X9_65_7 h hg kf_X9_11 nn_X9 dX9_read_12 ?_
    refine x_alenF h hg dX9_read_15 (q := 16) rfl ?_
    refine x_icmp_lt (tgt := 22) h dX9_read_16 (by decide) (q := 19) rfl hf2 (fun hc3 hf4 => ?_) (fun hc3 hf4 => ?_)
    · skip
      refine x_aload_n h dX9_read_22 rfl 0 rfl (q := 23) rfl ?_
      refine x_get_X9_65_3 h hg kf_X9_56 nn_X9 dX9_read_23 ?_
      refine x_aload_n h dX9_read_26 rfl 0 rfl (q := 27) rfl ?_
      refine x_get_X9_65_7 h hg kf_X9_11 nn_X9 dX9_read_27 ?_
      refine x_aload_n h dX9_read_30 rfl 0 rfl (q := 31) rfl ?_
      refine x_get_X9_65_8 h hg kf_X9_15 nn_X9 dX9_read_31 ?_
      obtain ⟨hi5, hf6⟩ := chk_inv hf4
      refine x_kept h hg hi5 dX9_read_34 (q := 35) rfl ?_
      obtain ⟨u7, hu7, hf8⟩ := bnd_inv hf6
      refine x_callVi (As := [.ref (gA g (25 + 5 * (Int32.toNatClampNeg (σ 65 8))))]) (rest := []) h hg (c_X4_parse C.2.1 hg.2.1 σ (25 + 5 * (Int32.toNatClampNeg (σ 65 8))) (isF_in hi5) _ hu7) ml_X9_161 biX4_parse rfl rfl hdX4_parse ⟨Nat.le_of_ble_eq_true rfl, Nat.le_of_ble_eq_true rfl⟩ (by decide) (cE_73 g _) rfl rfl rfl (Nat.le_of_ble_eq_true rfl) dX9_read_35 ?_
      refine x_istore_n (lv' := [(1, .int u7.1), (0, .ref (gA g 65))]) h dX9_read_38 rfl hL (by decide) rfl (q := 39) rfl ?_
      refine x_iload_n h dX9_read_39 rfl 0 rfl (q := 40) rfl ?_
      refine x_if_lt (tgt := 48) h dX9_read_40 (by decide) (q := 43) rfl hf8 (fun hc9 hf10 => ?_) (fun hc9 hf10 => ?_)
      · skip
        refine x_aload_n h dX9_read_48 rfl 1 rfl (q := 49) rfl ?_
        refine x_get_X9_65_3 h hg kf_X9_56 nn_X9 dX9_read_49 ?_
        refine x_iconst (v := 0) h dX9_read_52 (by decide) (q := 53) rfl ?_
        refine x_put_X4_73_5 h hg kf_X9_158 nn_X4 dX9_read_53 ?_
        refine x_aload_n h dX9_read_56 rfl 1 rfl (q := 57) rfl ?_
        refine x_dup h dX9_read_57 rfl (q := 58) rfl ?_
        refine x_get_X9_65_8 h hg kf_X9_15 nn_X9 dX9_read_58 ?_
        refine x_iconst (v := 1) h dX9_read_61 (by decide) (q := 62) rfl ?_
        refine x_iadd h dX9_read_62 (q := 63) rfl ?_
        refine x_put_X9_65_8 h hg kf_X9_15 nn_X9 dX9_read_63 ?_
        refine x_aload_n h dX9_read_66 rfl 1 rfl (q := 67) rfl ?_
        refine x_get_X9_65_8 h hg kf_X9_15 nn_X9 dX9_read_67 ?_
        refine x_iconst (v := 1) h dX9_read_70 (by decide) (q := 71) rfl ?_
        refine x_isub h dX9_read_71 (q := 72) rfl ?_
        have hz := Option.some.inj hf10
        subst hz
        exact x_iret h hg hr dX9_read_72
      · skip
        refine x_bipush (v := (-100)) h dX9_read_43 (by decide) (q := 45) rfl ?_
        refine x_iload_n h dX9_read_45 rfl 0 rfl (q := 46) rfl ?_
        refine x_isub h dX9_read_46 (q := 47) rfl ?_
        have hz := Option.some.inj hf10
        subst hz
        exact x_iret h hg hr dX9_read_47
    · skip
      refine x_bipush (v := (-2)) h dX9_read_19 (by decide) (q := 21) rfl ?_
      have hz := Option.some.inj hf4
      subst hz
      exact x_iret h hg hr dX9_read_21
theorem c_X9_read (l : Launch) {g : cG} (hi : gInj g) (σ : St) (o : Int32 × St) (hf : m_X9_read σ = some o) : Met l yX9_read (wT yX9_read cX9_read 2 (some .int)) rmX9_read (va_Pc [.ref (gA g 65)] (XPre g σ)) (XQ g (some (.int o.1)) o.2) 0 0 (cA g) :=
  X_met RX9 hi plX9 rfl (Nat.le_of_ble_eq_true rfl) rfl (fun _ _ _ h hg hL hr => w_X9_read σ o h hg hL hr hf)
abbrev rmX9_forget : Room := { frames := 0, cells := 0, slots := 0, locals := 0 }
theorem hdX9_forget : yX9_forget.cls = RX9 ∧ yX9_forget.cls ≠ "java/lang/invoke/MethodHandle" ∧ yX9_forget.cls ≠ "java/lang/invoke/VarHandle" ∧ (parseMethodDescriptor yX9_forget.desc).map (fun d => d.parameters.length) = some 0 := by decide +kernel
def m_X9_forget (σ : St) : Int32 × St :=
  ((σ 65 8), (up σ 65 8 0))
set_option maxHeartbeats 4000000 in
set_option maxRecDepth 100000 in
theorem w_X9_forget {C : XC} {Q : State → Prop} {g : cG} (σ : St) (o : Int32 × St) (h : XOk C cX9_forget RX9 tG rmX9_forget) (hg : XG C g) (hL : C.2.2.2.2.2.2.2.2.2.2.2.2.1 = 2) (hr : XEnd C (some .int) Q (XQ g (some (.int o.1)) o.2) (cA g)) (hf : m_X9_forget σ = o) : Xs C (wW g) Q σ 0 [(0, .ref (gA g 65))] [] := by
  unfold m_X9_forget at hf
  refine x_aload_n h dX9_forget_0 rfl 0 rfl (q := 1) rfl ?_
  refine x_get_X9_65_8 h hg kf_X9_15 nn_X9 dX9_forget_1 ?_
  refine x_istore_n (lv' := [(1, .int (σ 65 8)), (0, .ref (gA g 65))]) h dX9_forget_4 rfl hL (by decide) rfl (q := 5) rfl ?_
  refine x_aload_n h dX9_forget_5 rfl 1 rfl (q := 6) rfl ?_
  refine x_iconst (v := 0) h dX9_forget_6 (by decide) (q := 7) rfl ?_
  refine x_put_X9_65_8 h hg kf_X9_15 nn_X9 dX9_forget_7 ?_
  refine x_iload_n h dX9_forget_10 rfl 0 rfl (q := 11) rfl ?_
  subst hf
  exact x_iret h hg hr dX9_forget_11
theorem c_X9_forget (l : Launch) {g : cG} (hi : gInj g) (σ : St) (o : Int32 × St) (hf : m_X9_forget σ = o) : Met l yX9_forget (wT yX9_forget cX9_forget 2 (some .int)) rmX9_forget (va_Pc [.ref (gA g 65)] (XPre g σ)) (XQ g (some (.int o.1)) o.2) 0 0 (cA g) :=
  X_met RX9 hi plX9 rfl (Nat.le_of_ble_eq_true rfl) rfl (fun _ _ _ h hg hL hr => w_X9_forget σ o h hg hL hr hf)
abbrev rmX9_formulas : Room := { frames := 0, cells := 0, slots := 0, locals := 0 }
theorem hdX9_formulas : yX9_formulas.cls = RX9 ∧ yX9_formulas.cls ≠ "java/lang/invoke/MethodHandle" ∧ yX9_formulas.cls ≠ "java/lang/invoke/VarHandle" ∧ (parseMethodDescriptor yX9_formulas.desc).map (fun d => d.parameters.length) = some 0 := by decide +kernel
def m_X9_formulas (σ : St) : Int32 :=
  (σ 65 8)
set_option maxHeartbeats 4000000 in
set_option maxRecDepth 100000 in
theorem w_X9_formulas {C : XC} {Q : State → Prop} {g : cG} (σ : St) (o : Int32) (h : XOk C cX9_formulas RX9 tG rmX9_formulas) (hg : XG C g) (hL : C.2.2.2.2.2.2.2.2.2.2.2.2.1 = 1) (hr : XEnd C (some .int) Q (XQ g (some (.int o)) σ) (cA g)) (hf : m_X9_formulas σ = o) : Xs C (wW g) Q σ 0 [(0, .ref (gA g 65))] [] := by
  unfold m_X9_formulas at hf
  refine x_aload_n h dX9_formulas_0 rfl 0 rfl (q := 1) rfl ?_
  refine x_get_X9_65_8 h hg kf_X9_15 nn_X9 dX9_formulas_1 ?_
  subst hf
  exact x_iret h hg hr dX9_formulas_4
theorem c_X9_formulas (l : Launch) {g : cG} (hi : gInj g) (σ : St) (o : Int32) (hf : m_X9_formulas σ = o) : Met l yX9_formulas (wT yX9_formulas cX9_formulas 1 (some .int)) rmX9_formulas (va_Pc [.ref (gA g 65)] (XPre g σ)) (XQ g (some (.int o)) σ) 0 0 (cA g) :=
  X_met RX9 hi plX9 rfl (Nat.le_of_ble_eq_true rfl) rfl (fun _ _ _ h hg hL hr => w_X9_formulas σ o h hg hL hr hf)
abbrev rmX9_formulaOf : Room := { frames := 0, cells := 0, slots := 0, locals := 0 }
theorem hdX9_formulaOf : yX9_formulaOf.cls = RX9 ∧ yX9_formulaOf.cls ≠ "java/lang/invoke/MethodHandle" ∧ yX9_formulaOf.cls ≠ "java/lang/invoke/VarHandle" ∧ (parseMethodDescriptor yX9_formulaOf.desc).map (fun d => d.parameters.length) = some 1 := by decide +kernel
def m_X9_formulaOf (σ : St) (x1 : Int32) : Option (Option Nat) :=
  if x1 < 0 then (
    some none
  ) else (
    if (σ 65 8) ≤ x1 then (
      some none
    ) else (
      if x1 < 8 then (
        chk x1 8 <|
        some (some (25 + 5 * (Int32.toNatClampNeg x1)))
      ) else (
        some none
      )
    )
  )
set_option maxHeartbeats 4000000 in
set_option maxRecDepth 100000 in
theorem w_X9_formulaOf {C : XC} {Q : State → Prop} {g : cG} (σ : St) (x1 : Int32) (o : Option Nat) (h : XOk C cX9_formulaOf RX9 tG rmX9_formulaOf) (hg : XG C g) (hL : C.2.2.2.2.2.2.2.2.2.2.2.2.1 = 2) (hr : XEnd C (some (.object "CoalitionChecker$Formula")) Q (XQ g (some (rfV g o)) σ) (cA g)) (hf : m_X9_formulaOf σ x1 = some o) : Xs C (wW g) Q σ 0 [(0, .ref (gA g 65)), (1, .int x1)] [] := by
  unfold m_X9_formulaOf at hf
  refine x_iload_n h dX9_formulaOf_0 rfl 1 rfl (q := 1) rfl ?_
  refine x_if_lt (tgt := 21) h dX9_formulaOf_1 (by decide) (q := 4) rfl hf (fun hc1 hf2 => ?_) (fun hc1 hf2 => ?_)
  · skip
    refine x_null (g := g) h dX9_formulaOf_21 (q := 22) rfl ?_
    have hz := Option.some.inj hf2
    subst hz
    exact x_aret (o := none) h hg hr dX9_formulaOf_22
  · skip
    refine x_iload_n h dX9_formulaOf_4 rfl 1 rfl (q := 5) rfl ?_
    refine x_aload_n h dX9_formulaOf_5 rfl 0 rfl (q := 6) rfl ?_
    refine x_get_X9_65_8 h hg kf_X9_15 nn_X9 dX9_formulaOf_6 ?_
    refine x_icmp_ge (tgt := 21) h dX9_formulaOf_9 (by decide) (q := 12) rfl hf2 (fun hc3 hf4 => ?_) (fun hc3 hf4 => ?_)
    · skip
      refine x_null (g := g) h dX9_formulaOf_21 (q := 22) rfl ?_
      have hz := Option.some.inj hf4
      subst hz
      exact x_aret (o := none) h hg hr dX9_formulaOf_22
    · skip
      refine x_iload_n h dX9_formulaOf_12 rfl 1 rfl (q := 13) rfl ?_
      refine x_aload_n h dX9_formulaOf_13 rfl 0 rfl (q := 14) rfl ?_
      refine x_get_X9_65_7 h hg kf_X9_11 nn_X9 dX9_formulaOf_14 ?_
      refine x_alenF h hg dX9_formulaOf_17 (q := 18) rfl ?_
      refine x_icmp_lt (tgt := 23) h dX9_formulaOf_18 (by decide) (q := 21) rfl hf4 (fun hc5 hf6 => ?_) (fun hc5 hf6 => ?_)
      · skip
        refine x_aload_n h dX9_formulaOf_23 rfl 0 rfl (q := 24) rfl ?_
        refine x_get_X9_65_7 h hg kf_X9_11 nn_X9 dX9_formulaOf_24 ?_
        refine x_iload_n h dX9_formulaOf_27 rfl 1 rfl (q := 28) rfl ?_
        obtain ⟨hi7, hf8⟩ := chk_inv hf6
        refine x_kept h hg hi7 dX9_formulaOf_28 (q := 29) rfl ?_
        have hz := Option.some.inj hf8
        subst hz
        exact x_aret (o := (some (25 + 5 * (Int32.toNatClampNeg x1)))) h hg hr dX9_formulaOf_29
      · skip
        refine x_null (g := g) h dX9_formulaOf_21 (q := 22) rfl ?_
        have hz := Option.some.inj hf6
        subst hz
        exact x_aret (o := none) h hg hr dX9_formulaOf_22
theorem c_X9_formulaOf (l : Launch) {g : cG} (hi : gInj g) (σ : St) (x1 : Int32) (o : Option Nat) (hf : m_X9_formulaOf σ x1 = some o) : Met l yX9_formulaOf (wT yX9_formulaOf cX9_formulaOf 2 (some (.object "CoalitionChecker$Formula"))) rmX9_formulaOf (va_Pc [.ref (gA g 65), .int x1] (XPre g σ)) (XQ g (some (rfV g o)) σ) 0 0 (cA g) :=
  X_met RX9 hi plX9 rfl (Nat.le_of_ble_eq_true rfl) rfl (fun _ _ _ h hg hL hr => w_X9_formulaOf σ x1 o h hg hL hr hf)
abbrev rmX9_parts : Room := { frames := 1, cells := 0, slots := 0, locals := 21 }
theorem hdX9_parts : yX9_parts.cls = RX9 ∧ yX9_parts.cls ≠ "java/lang/invoke/MethodHandle" ∧ yX9_parts.cls ≠ "java/lang/invoke/VarHandle" ∧ (parseMethodDescriptor yX9_parts.desc).map (fun d => d.parameters.length) = some 1 := by decide +kernel
def m_X9_parts (σ : St) (x1 : Int32) : Option (Int32) :=
  (m_X9_formulaOf σ x1).bind fun u1 =>
  oF u1 (
    some (-1)
  ) (fun tt3 =>
    some (σ tt3 4)
  )
set_option maxHeartbeats 4000000 in
set_option maxRecDepth 100000 in
theorem w_X9_parts {C : XC} {Q : State → Prop} {g : cG} (σ : St) (x1 : Int32) (o : Int32) (h : XOk C cX9_parts RX9 tG rmX9_parts) (hg : XG C g) (hL : C.2.2.2.2.2.2.2.2.2.2.2.2.1 = 3) (hr : XEnd C (some .int) Q (XQ g (some (.int o)) σ) (cA g)) (hf : m_X9_parts σ x1 = some o) : Xs C (wW g) Q σ 0 [(0, .ref (gA g 65)), (1, .int x1)] [] := by
  unfold m_X9_parts at hf
  refine x_aload_n h dX9_parts_0 rfl 0 rfl (q := 1) rfl ?_
  refine x_iload_n h dX9_parts_1 rfl 1 rfl (q := 2) rfl ?_
  obtain ⟨u1, hu1, hf2⟩ := bnd_inv hf
  refine x_callVq (As := [.int x1]) (rest := []) h hg (c_X9_formulaOf C.2.1 hg.2.1 σ x1 _ hu1) ml_X9_165 biX9_formulaOf rfl rfl hdX9_formulaOf ⟨Nat.le_of_ble_eq_true rfl, Nat.le_of_ble_eq_true rfl⟩ (by decide) (cE_65 g _) rfl rfl rfl (Nat.le_of_ble_eq_true rfl) dX9_parts_2 ?_
  refine x_astore_nq (lv' := [(2, rfV g u1), (0, .ref (gA g 65)), (1, .int x1)]) h dX9_parts_5 rfl hL (by decide) rfl (q := 6) rfl ?_
  refine x_aload_nq h dX9_parts_6 rfl 0 rfl (q := 7) rfl ?_
  rcases oF_inv hf2 with ⟨he, hf4⟩ | ⟨tt3, he, htt3, hf4⟩
  · subst he
    refine x_ifnonnullN h dX9_parts_7 (q := 10) rfl ?_
    refine x_iconst (v := (-1)) h dX9_parts_10 (by decide) (q := 11) rfl ?_
    refine x_goto (q := 18) h dX9_parts_11 (by decide) ?_
    have hz := Option.some.inj hf4
    subst hz
    exact x_iret h hg hr dX9_parts_18
  · subst he
    refine x_ifnonnull (tgt := 14) h dX9_parts_7 (by decide) ?_
    refine x_aload_n h dX9_parts_14 rfl 0 rfl (q := 15) rfl ?_
    refine x_get_X0_t_4 htt3 h hg kf_X9_169 nn_X0 dX9_parts_15 ?_
    have hz := Option.some.inj hf4
    subst hz
    exact x_iret h hg hr dX9_parts_18
theorem c_X9_parts (l : Launch) {g : cG} (hi : gInj g) (σ : St) (x1 : Int32) (o : Int32) (hf : m_X9_parts σ x1 = some o) : Met l yX9_parts (wT yX9_parts cX9_parts 3 (some .int)) rmX9_parts (va_Pc [.ref (gA g 65), .int x1] (XPre g σ)) (XQ g (some (.int o)) σ) 0 0 (cA g) :=
  X_met RX9 hi plX9 rfl (Nat.le_of_ble_eq_true rfl) rfl (fun _ _ _ h hg hL hr => w_X9_parts σ x1 o h hg hL hr hf)
abbrev rmX9_where : Room := { frames := 6, cells := 0, slots := 0, locals := 154 }
theorem hdX9_where : yX9_where.cls = RX9 ∧ yX9_where.cls ≠ "java/lang/invoke/MethodHandle" ∧ yX9_where.cls ≠ "java/lang/invoke/VarHandle" ∧ (parseMethodDescriptor yX9_where.desc).map (fun d => d.parameters.length) = some 2 := by decide +kernel
def m_X9_where (σ : St) (x1 : Int32) (x2 : Int32) : Option (Int32 × St) :=
  (m_X9_formulaOf σ x1).bind fun u1 =>
  oF u1 (
    some ((-1), σ)
  ) (fun tt3 =>
    if x2 < 0 then (
      some ((-1), σ)
    ) else (
      if x2 < (σ tt3 4) then (
        (m_X3_look σ tt3).bind fun u9 =>
        some ((m_X3_setOf u9 x2), u9)
      ) else (
        some ((-1), σ)
      )
    )
  )
set_option maxHeartbeats 4000000 in
set_option maxRecDepth 100000 in
theorem w_X9_where {C : XC} {Q : State → Prop} {g : cG} (σ : St) (x1 : Int32) (x2 : Int32) (o : Int32 × St) (h : XOk C cX9_where RX9 tG rmX9_where) (hg : XG C g) (hL : C.2.2.2.2.2.2.2.2.2.2.2.2.1 = 4) (hr : XEnd C (some .int) Q (XQ g (some (.int o.1)) o.2) (cA g)) (hf : m_X9_where σ x1 x2 = some o) : Xs C (wW g) Q σ 0 [(0, .ref (gA g 65)), (1, .int x1), (2, .int x2)] [] := by
  unfold m_X9_where at hf
  refine x_aload_n h dX9_where_0 rfl 0 rfl (q := 1) rfl ?_
  refine x_iload_n h dX9_where_1 rfl 1 rfl (q := 2) rfl ?_
  obtain ⟨u1, hu1, hf2⟩ := bnd_inv hf
  refine x_callVq (As := [.int x1]) (rest := []) h hg (c_X9_formulaOf C.2.1 hg.2.1 σ x1 _ hu1) ml_X9_165 biX9_formulaOf rfl rfl hdX9_formulaOf ⟨Nat.le_of_ble_eq_true rfl, Nat.le_of_ble_eq_true rfl⟩ (by decide) (cE_65 g _) rfl rfl rfl (Nat.le_of_ble_eq_true rfl) dX9_where_2 ?_
  refine x_astore_nq (lv' := [(3, rfV g u1), (0, .ref (gA g 65)), (1, .int x1), (2, .int x2)]) h dX9_where_5 rfl hL (by decide) rfl (q := 6) rfl ?_
  refine x_aload_nq h dX9_where_6 rfl 0 rfl (q := 7) rfl ?_
  rcases oF_inv hf2 with ⟨he, hf4⟩ | ⟨tt3, he, htt3, hf4⟩
  · subst he
    refine x_ifnullN (tgt := 22) h dX9_where_7 (by decide) ?_
    refine x_iconst (v := (-1)) h dX9_where_22 (by decide) (q := 23) rfl ?_
    have hz := Option.some.inj hf4
    subst hz
    exact x_iret h hg hr dX9_where_23
  · subst he
    refine x_ifnull h dX9_where_7 (q := 10) rfl ?_
    refine x_iload_n h dX9_where_10 rfl 3 rfl (q := 11) rfl ?_
    refine x_if_lt (tgt := 22) h dX9_where_11 (by decide) (q := 14) rfl hf4 (fun hc5 hf6 => ?_) (fun hc5 hf6 => ?_)
    · skip
      refine x_iconst (v := (-1)) h dX9_where_22 (by decide) (q := 23) rfl ?_
      have hz := Option.some.inj hf6
      subst hz
      exact x_iret h hg hr dX9_where_23
    · skip
      refine x_iload_n h dX9_where_14 rfl 3 rfl (q := 15) rfl ?_
      refine x_aload_n h dX9_where_15 rfl 0 rfl (q := 16) rfl ?_
      refine x_get_X0_t_4 htt3 h hg kf_X9_169 nn_X0 dX9_where_16 ?_
      refine x_icmp_lt (tgt := 24) h dX9_where_19 (by decide) (q := 22) rfl hf6 (fun hc7 hf8 => ?_) (fun hc7 hf8 => ?_)
      · skip
        refine x_aload_n h dX9_where_24 rfl 1 rfl (q := 25) rfl ?_
        refine x_get_X9_65_4 h hg kf_X9_65 nn_X9 dX9_where_25 ?_
        refine x_aload_n h dX9_where_28 rfl 0 rfl (q := 29) rfl ?_
        obtain ⟨u9, hu9, hf10⟩ := bnd_inv hf8
        refine x_callVv (As := [.ref (gA g tt3)]) (rest := []) h hg (c_X3_look C.2.1 hg.2.1 σ tt3 htt3 _ hu9) ml_X9_172 biX3_look rfl rfl hdX3_look ⟨Nat.le_of_ble_eq_true rfl, Nat.le_of_ble_eq_true rfl⟩ (by decide) (cE_78 g _) rfl rfl rfl (Nat.le_of_ble_eq_true rfl) dX9_where_29 ?_
        refine x_aload_n h dX9_where_32 rfl 1 rfl (q := 33) rfl ?_
        refine x_get_X9_65_4 h hg kf_X9_65 nn_X9 dX9_where_33 ?_
        refine x_iload_n h dX9_where_36 rfl 3 rfl (q := 37) rfl ?_
        refine x_callVi (As := [.int x2]) (rest := []) h hg (c_X3_setOf C.2.1 hg.2.1 u9 x2 _ rfl) ml_X9_176 biX3_setOf rfl rfl hdX3_setOf ⟨Nat.le_of_ble_eq_true rfl, Nat.le_of_ble_eq_true rfl⟩ (by decide) (cE_78 g _) rfl rfl rfl (Nat.le_of_ble_eq_true rfl) dX9_where_37 ?_
        have hz := Option.some.inj hf10
        subst hz
        exact x_iret h hg hr dX9_where_40
      · skip
        refine x_iconst (v := (-1)) h dX9_where_22 (by decide) (q := 23) rfl ?_
        have hz := Option.some.inj hf8
        subst hz
        exact x_iret h hg hr dX9_where_23
theorem c_X9_where (l : Launch) {g : cG} (hi : gInj g) (σ : St) (x1 : Int32) (x2 : Int32) (o : Int32 × St) (hf : m_X9_where σ x1 x2 = some o) : Met l yX9_where (wT yX9_where cX9_where 4 (some .int)) rmX9_where (va_Pc [.ref (gA g 65), .int x1, .int x2] (XPre g σ)) (XQ g (some (.int o.1)) o.2) 0 0 (cA g) :=
  X_met RX9 hi plX9 rfl (Nat.le_of_ble_eq_true rfl) rfl (fun _ _ _ h hg hL hr => w_X9_where σ x1 x2 o h hg hL hr hf)
abbrev rmX9_holds : Room := { frames := 7, cells := 0, slots := 0, locals := 175 }
theorem hdX9_holds : yX9_holds.cls = RX9 ∧ yX9_holds.cls ≠ "java/lang/invoke/MethodHandle" ∧ yX9_holds.cls ≠ "java/lang/invoke/VarHandle" ∧ (parseMethodDescriptor yX9_holds.desc).map (fun d => d.parameters.length) = some 2 := by decide +kernel
def m_X9_holds (σ : St) (x1 : Int32) (x2 : Int32) : Option (Int32 × St) :=
  (m_X9_formulaOf σ x1).bind fun u1 =>
  oF u1 (
    some ((-1), σ)
  ) (fun tt3 =>
    if (bI (m_X7_hasState σ x2)) = 0 then (
      some ((-1), σ)
    ) else (
      (m_X3_whole σ tt3).bind fun u7 =>
      some (((u7.1 >>> (x2 &&& 31)) &&& 1), u7.2)
    )
  )
set_option maxHeartbeats 4000000 in
set_option maxRecDepth 100000 in
theorem w_X9_holds {C : XC} {Q : State → Prop} {g : cG} (σ : St) (x1 : Int32) (x2 : Int32) (o : Int32 × St) (h : XOk C cX9_holds RX9 tG rmX9_holds) (hg : XG C g) (hL : C.2.2.2.2.2.2.2.2.2.2.2.2.1 = 4) (hr : XEnd C (some .int) Q (XQ g (some (.int o.1)) o.2) (cA g)) (hf : m_X9_holds σ x1 x2 = some o) : Xs C (wW g) Q σ 0 [(0, .ref (gA g 65)), (1, .int x1), (2, .int x2)] [] := by
  unfold m_X9_holds at hf
  refine x_aload_n h dX9_holds_0 rfl 0 rfl (q := 1) rfl ?_
  refine x_iload_n h dX9_holds_1 rfl 1 rfl (q := 2) rfl ?_
  obtain ⟨u1, hu1, hf2⟩ := bnd_inv hf
  refine x_callVq (As := [.int x1]) (rest := []) h hg (c_X9_formulaOf C.2.1 hg.2.1 σ x1 _ hu1) ml_X9_165 biX9_formulaOf rfl rfl hdX9_formulaOf ⟨Nat.le_of_ble_eq_true rfl, Nat.le_of_ble_eq_true rfl⟩ (by decide) (cE_65 g _) rfl rfl rfl (Nat.le_of_ble_eq_true rfl) dX9_holds_2 ?_
  refine x_astore_nq (lv' := [(3, rfV g u1), (0, .ref (gA g 65)), (1, .int x1), (2, .int x2)]) h dX9_holds_5 rfl hL (by decide) rfl (q := 6) rfl ?_
  refine x_aload_nq h dX9_holds_6 rfl 0 rfl (q := 7) rfl ?_
  rcases oF_inv hf2 with ⟨he, hf4⟩ | ⟨tt3, he, htt3, hf4⟩
  · subst he
    refine x_ifnullN (tgt := 21) h dX9_holds_7 (by decide) ?_
    refine x_iconst (v := (-1)) h dX9_holds_21 (by decide) (q := 22) rfl ?_
    have hz := Option.some.inj hf4
    subst hz
    exact x_iret h hg hr dX9_holds_22
  · subst he
    refine x_ifnull h dX9_holds_7 (q := 10) rfl ?_
    refine x_aload_n h dX9_holds_10 rfl 1 rfl (q := 11) rfl ?_
    refine x_get_X9_65_0 h hg kf_X9_33 nn_X9 dX9_holds_11 ?_
    refine x_iload_n h dX9_holds_14 rfl 3 rfl (q := 15) rfl ?_
    refine x_callVi (As := [.int x2]) (rest := []) h hg (c_X7_hasState C.2.1 hg.2.1 σ x2 _ rfl) ml_X9_110 biX7_hasState rfl rfl hdX7_hasState ⟨Nat.le_of_ble_eq_true rfl, Nat.le_of_ble_eq_true rfl⟩ (by decide) (cE_0 g _) rfl rfl rfl (Nat.le_of_ble_eq_true rfl) dX9_holds_15 ?_
    refine x_if_ne (tgt := 23) h dX9_holds_18 (by decide) (q := 21) rfl hf4 (fun hc5 hf6 => ?_) (fun hc5 hf6 => ?_)
    · skip
      refine x_aload_n h dX9_holds_23 rfl 1 rfl (q := 24) rfl ?_
      refine x_get_X9_65_4 h hg kf_X9_65 nn_X9 dX9_holds_24 ?_
      refine x_aload_n h dX9_holds_27 rfl 0 rfl (q := 28) rfl ?_
      obtain ⟨u7, hu7, hf8⟩ := bnd_inv hf6
      refine x_callVi (As := [.ref (gA g tt3)]) (rest := []) h hg (c_X3_whole C.2.1 hg.2.1 σ tt3 htt3 _ hu7) ml_X9_179 biX3_whole rfl rfl hdX3_whole ⟨Nat.le_of_ble_eq_true rfl, Nat.le_of_ble_eq_true rfl⟩ (by decide) (cE_78 g _) rfl rfl rfl (Nat.le_of_ble_eq_true rfl) dX9_holds_28 ?_
      refine x_iload_n h dX9_holds_31 rfl 3 rfl (q := 32) rfl ?_
      refine x_ishr h dX9_holds_32 (q := 33) rfl ?_
      refine x_iconst (v := 1) h dX9_holds_33 (by decide) (q := 34) rfl ?_
      refine x_iand h dX9_holds_34 (q := 35) rfl ?_
      have hz := Option.some.inj hf8
      subst hz
      exact x_iret h hg hr dX9_holds_35
    · skip
      refine x_iconst (v := (-1)) h dX9_holds_21 (by decide) (q := 22) rfl ?_
      have hz := Option.some.inj hf6
      subst hz
      exact x_iret h hg hr dX9_holds_22
theorem c_X9_holds (l : Launch) {g : cG} (hi : gInj g) (σ : St) (x1 : Int32) (x2 : Int32) (o : Int32 × St) (hf : m_X9_holds σ x1 x2 = some o) : Met l yX9_holds (wT yX9_holds cX9_holds 4 (some .int)) rmX9_holds (va_Pc [.ref (gA g 65), .int x1, .int x2] (XPre g σ)) (XQ g (some (.int o.1)) o.2) 0 0 (cA g) :=
  X_met RX9 hi plX9 rfl (Nat.le_of_ble_eq_true rfl) rfl (fun _ _ _ h hg hL hr => w_X9_holds σ x1 x2 o h hg hL hr hf)
abbrev rmX9_rank : Room := { frames := 6, cells := 0, slots := 0, locals := 154 }
theorem hdX9_rank : yX9_rank.cls = RX9 ∧ yX9_rank.cls ≠ "java/lang/invoke/MethodHandle" ∧ yX9_rank.cls ≠ "java/lang/invoke/VarHandle" ∧ (parseMethodDescriptor yX9_rank.desc).map (fun d => d.parameters.length) = some 2 := by decide +kernel
def m_X9_rank_b44 (σ : St) (x2 : Int32) (c3 : Nat) : Option (Int32 × St) :=
  (m_X3_look σ c3).bind fun u1 =>
  (m_X3_goalSet u1 c3 (m_X0_topCoalition u1 c3) 0).bind fun u3 =>
  if 0 ≤ (m_X3_rankOf u3.2 x2) then (
    some ((m_X3_rankOf u3.2 x2), u3.2)
  ) else (
    some ((-9), u3.2)
  )
set_option maxHeartbeats 4000000 in
set_option maxRecDepth 100000 in
theorem w_X9_rank_b44 {C : XC} {Q : State → Prop} {g : cG} (σ : St) (x2 : Int32) (c3 : Nat) (hc3 : isF c3 = true) (o : Int32 × St) (h : XOk C cX9_rank RX9 tG rmX9_rank) (hg : XG C g) (hL : C.2.2.2.2.2.2.2.2.2.2.2.2.1 = 5) (hr : XEnd C (some .int) Q (XQ g (some (.int o.1)) o.2) (cA g)) (hf : m_X9_rank_b44 σ x2 c3  = some o) : Xs C (wW g) Q σ 44 [(0, .ref (gA g 65)), (2, .int x2), (3, .ref (gA g c3))] [] := by
  unfold m_X9_rank_b44 at hf
  refine x_aload_n h dX9_rank_44 rfl 0 rfl (q := 45) rfl ?_
  refine x_get_X9_65_4 h hg kf_X9_65 nn_X9 dX9_rank_45 ?_
  refine x_aload_n h dX9_rank_48 rfl 2 rfl (q := 49) rfl ?_
  obtain ⟨u1, hu1, hf2⟩ := bnd_inv hf
  refine x_callVv (As := [.ref (gA g c3)]) (rest := []) h hg (c_X3_look C.2.1 hg.2.1 σ c3 hc3 _ hu1) ml_X9_172 biX3_look rfl rfl hdX3_look ⟨Nat.le_of_ble_eq_true rfl, Nat.le_of_ble_eq_true rfl⟩ (by decide) (cE_78 g _) rfl rfl rfl (Nat.le_of_ble_eq_true rfl) dX9_rank_49 ?_
  refine x_aload_n h dX9_rank_52 rfl 0 rfl (q := 53) rfl ?_
  refine x_get_X9_65_4 h hg kf_X9_65 nn_X9 dX9_rank_53 ?_
  refine x_aload_n h dX9_rank_56 rfl 2 rfl (q := 57) rfl ?_
  refine x_aload_n h dX9_rank_57 rfl 2 rfl (q := 58) rfl ?_
  refine x_callVi (As := []) (rest := [.ref (gA g c3), .ref (gA g 78)]) h hg (c_X0_topCoalition C.2.1 hg.2.1 u1 c3 hc3 _ rfl) ml_X9_190 biX0_topCoalition rfl rfl hdX0_topCoalition ⟨Nat.le_of_ble_eq_true rfl, Nat.le_of_ble_eq_true rfl⟩ (isF_lt hc3) (cE_F hc3 g _) rfl rfl rfl (Nat.le_of_ble_eq_true rfl) dX9_rank_58 ?_
  refine x_iconst (v := 0) h dX9_rank_61 (by decide) (q := 62) rfl ?_
  obtain ⟨u3, hu3, hf4⟩ := bnd_inv hf2
  refine x_callVi (As := [.ref (gA g c3), .int (m_X0_topCoalition u1 c3), .int 0]) (rest := []) h hg (c_X3_goalSet C.2.1 hg.2.1 u1 c3 (m_X0_topCoalition u1 c3) 0 hc3 _ hu3) ml_X9_193 biX3_goalSet rfl rfl hdX3_goalSet ⟨Nat.le_of_ble_eq_true rfl, Nat.le_of_ble_eq_true rfl⟩ (by decide) (cE_78 g _) rfl rfl rfl (Nat.le_of_ble_eq_true rfl) dX9_rank_62 ?_
  refine x_pop h dX9_rank_65 rfl (q := 66) rfl ?_
  refine x_aload_n h dX9_rank_66 rfl 0 rfl (q := 67) rfl ?_
  refine x_get_X9_65_4 h hg kf_X9_65 nn_X9 dX9_rank_67 ?_
  refine x_iload_n h dX9_rank_70 rfl 1 rfl (q := 71) rfl ?_
  refine x_callVi (As := [.int x2]) (rest := []) h hg (c_X3_rankOf C.2.1 hg.2.1 u3.2 x2 _ rfl) ml_X9_197 biX3_rankOf rfl rfl hdX3_rankOf ⟨Nat.le_of_ble_eq_true rfl, Nat.le_of_ble_eq_true rfl⟩ (by decide) (cE_78 g _) rfl rfl rfl (Nat.le_of_ble_eq_true rfl) dX9_rank_71 ?_
  refine x_istore (lv' := [(4, .int (m_X3_rankOf u3.2 x2)), (0, .ref (gA g 65)), (2, .int x2), (3, .ref (gA g c3))]) h dX9_rank_74 hL (by decide) rfl (q := 76) rfl ?_
  refine x_iload h dX9_rank_76 0 rfl (q := 78) rfl ?_
  refine x_if_ge (tgt := 86) h dX9_rank_78 (by decide) (q := 81) rfl hf4 (fun hc5 hf6 => ?_) (fun hc5 hf6 => ?_)
  · skip
    refine x_iload h dX9_rank_86 0 rfl (q := 88) rfl ?_
    have hz := Option.some.inj hf6
    subst hz
    exact x_iret h hg hr dX9_rank_88
  · skip
    refine x_bipush (v := (-9)) h dX9_rank_81 (by decide) (q := 83) rfl ?_
    refine x_goto (q := 88) h dX9_rank_83 (by decide) ?_
    have hz := Option.some.inj hf6
    subst hz
    exact x_iret h hg hr dX9_rank_88
def m_X9_rank (σ : St) (x1 : Int32) (x2 : Int32) : Option (Int32 × St) :=
  (m_X9_formulaOf σ x1).bind fun u1 =>
  oF u1 (
    some ((-1), σ)
  ) (fun tt3 =>
    if (bI (m_X7_hasState σ x2)) = 0 then (
      some ((-1), σ)
    ) else (
      if (m_X0_topKind σ tt3) = 7 then (
        m_X9_rank_b44 σ x2 tt3
      ) else (
        if (m_X0_topKind σ tt3) = 9 then (
          m_X9_rank_b44 σ x2 tt3
        ) else (
          some ((-3), σ)
        )
      )
    )
  )
set_option maxHeartbeats 4000000 in
set_option maxRecDepth 100000 in
theorem w_X9_rank {C : XC} {Q : State → Prop} {g : cG} (σ : St) (x1 : Int32) (x2 : Int32) (o : Int32 × St) (h : XOk C cX9_rank RX9 tG rmX9_rank) (hg : XG C g) (hL : C.2.2.2.2.2.2.2.2.2.2.2.2.1 = 5) (hr : XEnd C (some .int) Q (XQ g (some (.int o.1)) o.2) (cA g)) (hf : m_X9_rank σ x1 x2 = some o) : Xs C (wW g) Q σ 0 [(0, .ref (gA g 65)), (1, .int x1), (2, .int x2)] [] := by
  unfold m_X9_rank at hf
  refine x_aload_n h dX9_rank_0 rfl 0 rfl (q := 1) rfl ?_
  refine x_iload_n h dX9_rank_1 rfl 1 rfl (q := 2) rfl ?_
  obtain ⟨u1, hu1, hf2⟩ := bnd_inv hf
  refine x_callVq (As := [.int x1]) (rest := []) h hg (c_X9_formulaOf C.2.1 hg.2.1 σ x1 _ hu1) ml_X9_165 biX9_formulaOf rfl rfl hdX9_formulaOf ⟨Nat.le_of_ble_eq_true rfl, Nat.le_of_ble_eq_true rfl⟩ (by decide) (cE_65 g _) rfl rfl rfl (Nat.le_of_ble_eq_true rfl) dX9_rank_2 ?_
  refine x_astore_nq (lv' := [(3, rfV g u1), (0, .ref (gA g 65)), (1, .int x1), (2, .int x2)]) h dX9_rank_5 rfl hL (by decide) rfl (q := 6) rfl ?_
  refine x_aload_nq h dX9_rank_6 rfl 0 rfl (q := 7) rfl ?_
  rcases oF_inv hf2 with ⟨he, hf4⟩ | ⟨tt3, he, htt3, hf4⟩
  · subst he
    refine x_ifnullN (tgt := 21) h dX9_rank_7 (by decide) ?_
    refine x_iconst (v := (-1)) h dX9_rank_21 (by decide) (q := 22) rfl ?_
    have hz := Option.some.inj hf4
    subst hz
    exact x_iret h hg hr dX9_rank_22
  · subst he
    refine x_ifnull h dX9_rank_7 (q := 10) rfl ?_
    refine x_aload_n h dX9_rank_10 rfl 1 rfl (q := 11) rfl ?_
    refine x_get_X9_65_0 h hg kf_X9_33 nn_X9 dX9_rank_11 ?_
    refine x_iload_n h dX9_rank_14 rfl 3 rfl (q := 15) rfl ?_
    refine x_callVi (As := [.int x2]) (rest := []) h hg (c_X7_hasState C.2.1 hg.2.1 σ x2 _ rfl) ml_X9_110 biX7_hasState rfl rfl hdX7_hasState ⟨Nat.le_of_ble_eq_true rfl, Nat.le_of_ble_eq_true rfl⟩ (by decide) (cE_0 g _) rfl rfl rfl (Nat.le_of_ble_eq_true rfl) dX9_rank_15 ?_
    refine x_if_ne (tgt := 23) h dX9_rank_18 (by decide) (q := 21) rfl hf4 (fun hc5 hf6 => ?_) (fun hc5 hf6 => ?_)
    · skip
      refine x_aload_n h dX9_rank_23 rfl 0 rfl (q := 24) rfl ?_
      refine x_callVi (As := []) (rest := []) h hg (c_X0_topKind C.2.1 hg.2.1 σ tt3 htt3 _ rfl) ml_X9_187 biX0_topKind rfl rfl hdX0_topKind ⟨Nat.le_of_ble_eq_true rfl, Nat.le_of_ble_eq_true rfl⟩ (isF_lt htt3) (cE_F htt3 g _) rfl rfl rfl (Nat.le_of_ble_eq_true rfl) dX9_rank_24 ?_
      refine x_bipush (v := 7) h dX9_rank_27 (by decide) (q := 29) rfl ?_
      refine x_icmp_eq (tgt := 44) h dX9_rank_29 (by decide) (q := 32) rfl hf6 (fun hc7 hf8 => ?_) (fun hc7 hf8 => ?_)
      · skip
        refine x_sub (lv' := [(0, .ref (gA g 65)), (2, .int x2), (3, .ref (gA g tt3))]) [1, 3, 0] rfl ?_
        exact w_X9_rank_b44 σ x2 tt3 htt3 o h hg hL hr hf8
      · skip
        refine x_aload_n h dX9_rank_32 rfl 0 rfl (q := 33) rfl ?_
        refine x_callVi (As := []) (rest := []) h hg (c_X0_topKind C.2.1 hg.2.1 σ tt3 htt3 _ rfl) ml_X9_187 biX0_topKind rfl rfl hdX0_topKind ⟨Nat.le_of_ble_eq_true rfl, Nat.le_of_ble_eq_true rfl⟩ (isF_lt htt3) (cE_F htt3 g _) rfl rfl rfl (Nat.le_of_ble_eq_true rfl) dX9_rank_33 ?_
        refine x_bipush (v := 9) h dX9_rank_36 (by decide) (q := 38) rfl ?_
        refine x_icmp_eq (tgt := 44) h dX9_rank_38 (by decide) (q := 41) rfl hf8 (fun hc9 hf10 => ?_) (fun hc9 hf10 => ?_)
        · skip
          refine x_sub (lv' := [(0, .ref (gA g 65)), (2, .int x2), (3, .ref (gA g tt3))]) [1, 3, 0] rfl ?_
          exact w_X9_rank_b44 σ x2 tt3 htt3 o h hg hL hr hf10
        · skip
          refine x_bipush (v := (-3)) h dX9_rank_41 (by decide) (q := 43) rfl ?_
          have hz := Option.some.inj hf10
          subst hz
          exact x_iret h hg hr dX9_rank_43
    · skip
      refine x_iconst (v := (-1)) h dX9_rank_21 (by decide) (q := 22) rfl ?_
      have hz := Option.some.inj hf6
      subst hz
      exact x_iret h hg hr dX9_rank_22
theorem c_X9_rank (l : Launch) {g : cG} (hi : gInj g) (σ : St) (x1 : Int32) (x2 : Int32) (o : Int32 × St) (hf : m_X9_rank σ x1 x2 = some o) : Met l yX9_rank (wT yX9_rank cX9_rank 5 (some .int)) rmX9_rank (va_Pc [.ref (gA g 65), .int x1, .int x2] (XPre g σ)) (XQ g (some (.int o.1)) o.2) 0 0 (cA g) :=
  X_met RX9 hi plX9 rfl (Nat.le_of_ble_eq_true rfl) rfl (fun _ _ _ h hg hL hr => w_X9_rank σ x1 x2 o h hg hL hr hf)
abbrev rmX9_strategy : Room := { frames := 7, cells := 0, slots := 0, locals := 175 }
theorem hdX9_strategy : yX9_strategy.cls = RX9 ∧ yX9_strategy.cls ≠ "java/lang/invoke/MethodHandle" ∧ yX9_strategy.cls ≠ "java/lang/invoke/VarHandle" ∧ (parseMethodDescriptor yX9_strategy.desc).map (fun d => d.parameters.length) = some 2 := by decide +kernel
def m_X9_strategy (σ : St) (x1 : Int32) (x2 : Int32) : Option (Int32 × St) :=
  (m_X9_formulaOf σ x1).bind fun u1 =>
  oF u1 (
    some ((-1), σ)
  ) (fun tt3 =>
    if (bI (m_X7_hasState σ x2)) = 0 then (
      some ((-1), σ)
    ) else (
      if (bI (m_X0_hasStrategy σ tt3)) = 0 then (
        some ((-3), σ)
      ) else (
        (m_X8_prepare σ tt3).bind fun u9 =>
        (m_X8_jointAt u9 tt3 x2).bind fun u11 =>
        some (u11.1, u11.2)
      )
    )
  )
set_option maxHeartbeats 4000000 in
set_option maxRecDepth 100000 in
theorem w_X9_strategy {C : XC} {Q : State → Prop} {g : cG} (σ : St) (x1 : Int32) (x2 : Int32) (o : Int32 × St) (h : XOk C cX9_strategy RX9 tG rmX9_strategy) (hg : XG C g) (hL : C.2.2.2.2.2.2.2.2.2.2.2.2.1 = 4) (hr : XEnd C (some .int) Q (XQ g (some (.int o.1)) o.2) (cA g)) (hf : m_X9_strategy σ x1 x2 = some o) : Xs C (wW g) Q σ 0 [(0, .ref (gA g 65)), (1, .int x1), (2, .int x2)] [] := by
  unfold m_X9_strategy at hf
  refine x_aload_n h dX9_strategy_0 rfl 0 rfl (q := 1) rfl ?_
  refine x_iload_n h dX9_strategy_1 rfl 1 rfl (q := 2) rfl ?_
  obtain ⟨u1, hu1, hf2⟩ := bnd_inv hf
  refine x_callVq (As := [.int x1]) (rest := []) h hg (c_X9_formulaOf C.2.1 hg.2.1 σ x1 _ hu1) ml_X9_165 biX9_formulaOf rfl rfl hdX9_formulaOf ⟨Nat.le_of_ble_eq_true rfl, Nat.le_of_ble_eq_true rfl⟩ (by decide) (cE_65 g _) rfl rfl rfl (Nat.le_of_ble_eq_true rfl) dX9_strategy_2 ?_
  refine x_astore_nq (lv' := [(3, rfV g u1), (0, .ref (gA g 65)), (1, .int x1), (2, .int x2)]) h dX9_strategy_5 rfl hL (by decide) rfl (q := 6) rfl ?_
  refine x_aload_nq h dX9_strategy_6 rfl 0 rfl (q := 7) rfl ?_
  rcases oF_inv hf2 with ⟨he, hf4⟩ | ⟨tt3, he, htt3, hf4⟩
  · subst he
    refine x_ifnullN (tgt := 21) h dX9_strategy_7 (by decide) ?_
    refine x_iconst (v := (-1)) h dX9_strategy_21 (by decide) (q := 22) rfl ?_
    have hz := Option.some.inj hf4
    subst hz
    exact x_iret h hg hr dX9_strategy_22
  · subst he
    refine x_ifnull h dX9_strategy_7 (q := 10) rfl ?_
    refine x_aload_n h dX9_strategy_10 rfl 1 rfl (q := 11) rfl ?_
    refine x_get_X9_65_0 h hg kf_X9_33 nn_X9 dX9_strategy_11 ?_
    refine x_iload_n h dX9_strategy_14 rfl 3 rfl (q := 15) rfl ?_
    refine x_callVi (As := [.int x2]) (rest := []) h hg (c_X7_hasState C.2.1 hg.2.1 σ x2 _ rfl) ml_X9_110 biX7_hasState rfl rfl hdX7_hasState ⟨Nat.le_of_ble_eq_true rfl, Nat.le_of_ble_eq_true rfl⟩ (by decide) (cE_0 g _) rfl rfl rfl (Nat.le_of_ble_eq_true rfl) dX9_strategy_15 ?_
    refine x_if_ne (tgt := 23) h dX9_strategy_18 (by decide) (q := 21) rfl hf4 (fun hc5 hf6 => ?_) (fun hc5 hf6 => ?_)
    · skip
      refine x_aload_n h dX9_strategy_23 rfl 0 rfl (q := 24) rfl ?_
      refine x_callVi (As := []) (rest := []) h hg (c_X0_hasStrategy C.2.1 hg.2.1 σ tt3 htt3 _ rfl) ml_X9_200 biX0_hasStrategy rfl rfl hdX0_hasStrategy ⟨Nat.le_of_ble_eq_true rfl, Nat.le_of_ble_eq_true rfl⟩ (isF_lt htt3) (cE_F htt3 g _) rfl rfl rfl (Nat.le_of_ble_eq_true rfl) dX9_strategy_24 ?_
      refine x_if_ne (tgt := 33) h dX9_strategy_27 (by decide) (q := 30) rfl hf6 (fun hc7 hf8 => ?_) (fun hc7 hf8 => ?_)
      · skip
        refine x_aload_n h dX9_strategy_33 rfl 1 rfl (q := 34) rfl ?_
        refine x_get_X9_65_5 h hg kf_X9_74 nn_X9 dX9_strategy_34 ?_
        refine x_aload_n h dX9_strategy_37 rfl 0 rfl (q := 38) rfl ?_
        obtain ⟨u9, hu9, hf10⟩ := bnd_inv hf8
        refine x_callVv (As := [.ref (gA g tt3)]) (rest := []) h hg (c_X8_prepare C.2.1 hg.2.1 σ tt3 htt3 _ hu9) ml_X9_204 biX8_prepare rfl rfl hdX8_prepare ⟨Nat.le_of_ble_eq_true rfl, Nat.le_of_ble_eq_true rfl⟩ (by decide) (cE_81 g _) rfl rfl rfl (Nat.le_of_ble_eq_true rfl) dX9_strategy_38 ?_
        refine x_aload_n h dX9_strategy_41 rfl 1 rfl (q := 42) rfl ?_
        refine x_get_X9_65_5 h hg kf_X9_74 nn_X9 dX9_strategy_42 ?_
        refine x_aload_n h dX9_strategy_45 rfl 0 rfl (q := 46) rfl ?_
        refine x_iload_n h dX9_strategy_46 rfl 3 rfl (q := 47) rfl ?_
        obtain ⟨u11, hu11, hf12⟩ := bnd_inv hf10
        refine x_callVi (As := [.ref (gA g tt3), .int x2]) (rest := []) h hg (c_X8_jointAt C.2.1 hg.2.1 u9 tt3 x2 htt3 _ hu11) ml_X9_207 biX8_jointAt rfl rfl hdX8_jointAt ⟨Nat.le_of_ble_eq_true rfl, Nat.le_of_ble_eq_true rfl⟩ (by decide) (cE_81 g _) rfl rfl rfl (Nat.le_of_ble_eq_true rfl) dX9_strategy_47 ?_
        have hz := Option.some.inj hf12
        subst hz
        exact x_iret h hg hr dX9_strategy_50
      · skip
        refine x_bipush (v := (-3)) h dX9_strategy_30 (by decide) (q := 32) rfl ?_
        have hz := Option.some.inj hf8
        subst hz
        exact x_iret h hg hr dX9_strategy_32
    · skip
      refine x_iconst (v := (-1)) h dX9_strategy_21 (by decide) (q := 22) rfl ?_
      have hz := Option.some.inj hf6
      subst hz
      exact x_iret h hg hr dX9_strategy_22
theorem c_X9_strategy (l : Launch) {g : cG} (hi : gInj g) (σ : St) (x1 : Int32) (x2 : Int32) (o : Int32 × St) (hf : m_X9_strategy σ x1 x2 = some o) : Met l yX9_strategy (wT yX9_strategy cX9_strategy 4 (some .int)) rmX9_strategy (va_Pc [.ref (gA g 65), .int x1, .int x2] (XPre g σ)) (XQ g (some (.int o.1)) o.2) 0 0 (cA g) :=
  X_met RX9 hi plX9 rfl (Nat.le_of_ble_eq_true rfl) rfl (fun _ _ _ h hg hL hr => w_X9_strategy σ x1 x2 o h hg hL hr hf)
abbrev rmX9_plan : Room := { frames := 4, cells := 0, slots := 0, locals := 104 }
theorem hdX9_plan : yX9_plan.cls = RX9 ∧ yX9_plan.cls ≠ "java/lang/invoke/MethodHandle" ∧ yX9_plan.cls ≠ "java/lang/invoke/VarHandle" ∧ (parseMethodDescriptor yX9_plan.desc).map (fun d => d.parameters.length) = some 3 := by decide +kernel
def m_X9_plan (σ : St) (x1 : Int32) (x2 : Int32) (x3 : Int32) : Option (Int32 × St) :=
  if (bI (m_X7_hasPlace σ x1 x2)) = 0 then (
    some ((-1), σ)
  ) else (
    if x3 < 0 then (
      some ((-1), σ)
    ) else (
      if x3 < 3 then (
        (m_X1_keep σ).bind fun u7 =>
        some ((m_X7_plannedAction u7 x1 x2), (m_X7_setPlannedAction u7 x1 x2 x3))
      ) else (
        some ((-1), σ)
      )
    )
  )
set_option maxHeartbeats 4000000 in
set_option maxRecDepth 100000 in
theorem w_X9_plan {C : XC} {Q : State → Prop} {g : cG} (σ : St) (x1 : Int32) (x2 : Int32) (x3 : Int32) (o : Int32 × St) (h : XOk C cX9_plan RX9 tG rmX9_plan) (hg : XG C g) (hL : C.2.2.2.2.2.2.2.2.2.2.2.2.1 = 5) (hr : XEnd C (some .int) Q (XQ g (some (.int o.1)) o.2) (cA g)) (hf : m_X9_plan σ x1 x2 x3 = some o) : Xs C (wW g) Q σ 0 [(0, .ref (gA g 65)), (1, .int x1), (2, .int x2), (3, .int x3)] [] := by
  unfold m_X9_plan at hf
  refine x_aload_n h dX9_plan_0 rfl 0 rfl (q := 1) rfl ?_
  refine x_get_X9_65_0 h hg kf_X9_33 nn_X9 dX9_plan_1 ?_
  refine x_iload_n h dX9_plan_4 rfl 1 rfl (q := 5) rfl ?_
  refine x_iload_n h dX9_plan_5 rfl 2 rfl (q := 6) rfl ?_
  refine x_callVi (As := [.int x1, .int x2]) (rest := []) h hg (c_X7_hasPlace C.2.1 hg.2.1 σ x1 x2 _ rfl) ml_X9_99 biX7_hasPlace rfl rfl hdX7_hasPlace ⟨Nat.le_of_ble_eq_true rfl, Nat.le_of_ble_eq_true rfl⟩ (by decide) (cE_0 g _) rfl rfl rfl (Nat.le_of_ble_eq_true rfl) dX9_plan_6 ?_
  refine x_if_eq (tgt := 21) h dX9_plan_9 (by decide) (q := 12) rfl hf (fun hc1 hf2 => ?_) (fun hc1 hf2 => ?_)
  · skip
    refine x_iconst (v := (-1)) h dX9_plan_21 (by decide) (q := 22) rfl ?_
    have hz := Option.some.inj hf2
    subst hz
    exact x_iret h hg hr dX9_plan_22
  · skip
    refine x_iload_n h dX9_plan_12 rfl 3 rfl (q := 13) rfl ?_
    refine x_if_lt (tgt := 21) h dX9_plan_13 (by decide) (q := 16) rfl hf2 (fun hc3 hf4 => ?_) (fun hc3 hf4 => ?_)
    · skip
      refine x_iconst (v := (-1)) h dX9_plan_21 (by decide) (q := 22) rfl ?_
      have hz := Option.some.inj hf4
      subst hz
      exact x_iret h hg hr dX9_plan_22
    · skip
      refine x_iload_n h dX9_plan_16 rfl 3 rfl (q := 17) rfl ?_
      refine x_iconst (v := 3) h dX9_plan_17 (by decide) (q := 18) rfl ?_
      refine x_icmp_lt (tgt := 23) h dX9_plan_18 (by decide) (q := 21) rfl hf4 (fun hc5 hf6 => ?_) (fun hc5 hf6 => ?_)
      · skip
        refine x_aload_n h dX9_plan_23 rfl 0 rfl (q := 24) rfl ?_
        refine x_get_X9_65_1 h hg kf_X9_40 nn_X9 dX9_plan_24 ?_
        refine x_aload_n h dX9_plan_27 rfl 0 rfl (q := 28) rfl ?_
        refine x_get_X9_65_0 h hg kf_X9_33 nn_X9 dX9_plan_28 ?_
        obtain ⟨u7, hu7, hf8⟩ := bnd_inv hf6
        refine x_callVv (As := [.ref (gA g 0)]) (rest := []) h hg (c_X1_keep C.2.1 hg.2.1 σ _ hu7) ml_X9_92 biX1_keep rfl rfl hdX1_keep ⟨Nat.le_of_ble_eq_true rfl, Nat.le_of_ble_eq_true rfl⟩ (by decide) (cE_67 g _) rfl rfl rfl (Nat.le_of_ble_eq_true rfl) dX9_plan_31 ?_
        refine x_aload_n h dX9_plan_34 rfl 0 rfl (q := 35) rfl ?_
        refine x_get_X9_65_0 h hg kf_X9_33 nn_X9 dX9_plan_35 ?_
        refine x_iload_n h dX9_plan_38 rfl 1 rfl (q := 39) rfl ?_
        refine x_iload_n h dX9_plan_39 rfl 2 rfl (q := 40) rfl ?_
        refine x_callVi (As := [.int x1, .int x2]) (rest := []) h hg (c_X7_plannedAction C.2.1 hg.2.1 u7 x1 x2 _ rfl) ml_X9_211 biX7_plannedAction rfl rfl hdX7_plannedAction ⟨Nat.le_of_ble_eq_true rfl, Nat.le_of_ble_eq_true rfl⟩ (by decide) (cE_0 g _) rfl rfl rfl (Nat.le_of_ble_eq_true rfl) dX9_plan_40 ?_
        refine x_istore (lv' := [(4, .int (m_X7_plannedAction u7 x1 x2)), (0, .ref (gA g 65)), (1, .int x1), (2, .int x2), (3, .int x3)]) h dX9_plan_43 hL (by decide) rfl (q := 45) rfl ?_
        refine x_aload_n h dX9_plan_45 rfl 1 rfl (q := 46) rfl ?_
        refine x_get_X9_65_0 h hg kf_X9_33 nn_X9 dX9_plan_46 ?_
        refine x_iload_n h dX9_plan_49 rfl 2 rfl (q := 50) rfl ?_
        refine x_iload_n h dX9_plan_50 rfl 3 rfl (q := 51) rfl ?_
        refine x_iload_n h dX9_plan_51 rfl 4 rfl (q := 52) rfl ?_
        refine x_callVv (As := [.int x1, .int x2, .int x3]) (rest := []) h hg (c_X7_setPlannedAction C.2.1 hg.2.1 u7 x1 x2 x3 _ rfl) ml_X9_214 biX7_setPlannedAction rfl rfl hdX7_setPlannedAction ⟨Nat.le_of_ble_eq_true rfl, Nat.le_of_ble_eq_true rfl⟩ (by decide) (cE_0 g _) rfl rfl rfl (Nat.le_of_ble_eq_true rfl) dX9_plan_52 ?_
        refine x_iload h dX9_plan_55 0 rfl (q := 57) rfl ?_
        have hz := Option.some.inj hf8
        subst hz
        exact x_iret h hg hr dX9_plan_57
      · skip
        refine x_iconst (v := (-1)) h dX9_plan_21 (by decide) (q := 22) rfl ?_
        have hz := Option.some.inj hf6
        subst hz
        exact x_iret h hg hr dX9_plan_22
theorem c_X9_plan (l : Launch) {g : cG} (hi : gInj g) (σ : St) (x1 : Int32) (x2 : Int32) (x3 : Int32) (o : Int32 × St) (hf : m_X9_plan σ x1 x2 x3 = some o) : Met l yX9_plan (wT yX9_plan cX9_plan 5 (some .int)) rmX9_plan (va_Pc [.ref (gA g 65), .int x1, .int x2, .int x3] (XPre g σ)) (XQ g (some (.int o.1)) o.2) 0 0 (cA g) :=
  X_met RX9 hi plX9 rfl (Nat.le_of_ble_eq_true rfl) rfl (fun _ _ _ h hg hL hr => w_X9_plan σ x1 x2 x3 o h hg hL hr hf)
abbrev rmX9_adopt : Room := { frames := 7, cells := 0, slots := 0, locals := 175 }
theorem hdX9_adopt : yX9_adopt.cls = RX9 ∧ yX9_adopt.cls ≠ "java/lang/invoke/MethodHandle" ∧ yX9_adopt.cls ≠ "java/lang/invoke/VarHandle" ∧ (parseMethodDescriptor yX9_adopt.desc).map (fun d => d.parameters.length) = some 1 := by decide +kernel
def m_X9_adopt (σ : St) (x1 : Int32) : Option (Int32 × St) :=
  (m_X9_formulaOf σ x1).bind fun u1 =>
  oF u1 (
    some ((-1), σ)
  ) (fun tt3 =>
    if (bI (m_X0_hasStrategy σ tt3)) = 0 then (
      some ((-3), σ)
    ) else (
      (m_X1_keep σ).bind fun u7 =>
      (m_X8_prepare u7 tt3).bind fun u9 =>
      (m_X8_follow u9 tt3).bind fun u11 =>
      some (u11.1, u11.2)
    )
  )
set_option maxHeartbeats 4000000 in
set_option maxRecDepth 100000 in
theorem w_X9_adopt {C : XC} {Q : State → Prop} {g : cG} (σ : St) (x1 : Int32) (o : Int32 × St) (h : XOk C cX9_adopt RX9 tG rmX9_adopt) (hg : XG C g) (hL : C.2.2.2.2.2.2.2.2.2.2.2.2.1 = 3) (hr : XEnd C (some .int) Q (XQ g (some (.int o.1)) o.2) (cA g)) (hf : m_X9_adopt σ x1 = some o) : Xs C (wW g) Q σ 0 [(0, .ref (gA g 65)), (1, .int x1)] [] := by
  unfold m_X9_adopt at hf
  refine x_aload_n h dX9_adopt_0 rfl 0 rfl (q := 1) rfl ?_
  refine x_iload_n h dX9_adopt_1 rfl 1 rfl (q := 2) rfl ?_
  obtain ⟨u1, hu1, hf2⟩ := bnd_inv hf
  refine x_callVq (As := [.int x1]) (rest := []) h hg (c_X9_formulaOf C.2.1 hg.2.1 σ x1 _ hu1) ml_X9_165 biX9_formulaOf rfl rfl hdX9_formulaOf ⟨Nat.le_of_ble_eq_true rfl, Nat.le_of_ble_eq_true rfl⟩ (by decide) (cE_65 g _) rfl rfl rfl (Nat.le_of_ble_eq_true rfl) dX9_adopt_2 ?_
  refine x_astore_nq (lv' := [(2, rfV g u1), (0, .ref (gA g 65)), (1, .int x1)]) h dX9_adopt_5 rfl hL (by decide) rfl (q := 6) rfl ?_
  refine x_aload_nq h dX9_adopt_6 rfl 0 rfl (q := 7) rfl ?_
  rcases oF_inv hf2 with ⟨he, hf4⟩ | ⟨tt3, he, htt3, hf4⟩
  · subst he
    refine x_ifnonnullN h dX9_adopt_7 (q := 10) rfl ?_
    refine x_iconst (v := (-1)) h dX9_adopt_10 (by decide) (q := 11) rfl ?_
    have hz := Option.some.inj hf4
    subst hz
    exact x_iret h hg hr dX9_adopt_11
  · subst he
    refine x_ifnonnull (tgt := 12) h dX9_adopt_7 (by decide) ?_
    refine x_aload_n h dX9_adopt_12 rfl 0 rfl (q := 13) rfl ?_
    refine x_callVi (As := []) (rest := []) h hg (c_X0_hasStrategy C.2.1 hg.2.1 σ tt3 htt3 _ rfl) ml_X9_200 biX0_hasStrategy rfl rfl hdX0_hasStrategy ⟨Nat.le_of_ble_eq_true rfl, Nat.le_of_ble_eq_true rfl⟩ (isF_lt htt3) (cE_F htt3 g _) rfl rfl rfl (Nat.le_of_ble_eq_true rfl) dX9_adopt_13 ?_
    refine x_if_ne (tgt := 22) h dX9_adopt_16 (by decide) (q := 19) rfl hf4 (fun hc5 hf6 => ?_) (fun hc5 hf6 => ?_)
    · skip
      refine x_aload_n h dX9_adopt_22 rfl 1 rfl (q := 23) rfl ?_
      refine x_get_X9_65_1 h hg kf_X9_40 nn_X9 dX9_adopt_23 ?_
      refine x_aload_n h dX9_adopt_26 rfl 1 rfl (q := 27) rfl ?_
      refine x_get_X9_65_0 h hg kf_X9_33 nn_X9 dX9_adopt_27 ?_
      obtain ⟨u7, hu7, hf8⟩ := bnd_inv hf6
      refine x_callVv (As := [.ref (gA g 0)]) (rest := []) h hg (c_X1_keep C.2.1 hg.2.1 σ _ hu7) ml_X9_92 biX1_keep rfl rfl hdX1_keep ⟨Nat.le_of_ble_eq_true rfl, Nat.le_of_ble_eq_true rfl⟩ (by decide) (cE_67 g _) rfl rfl rfl (Nat.le_of_ble_eq_true rfl) dX9_adopt_30 ?_
      refine x_aload_n h dX9_adopt_33 rfl 1 rfl (q := 34) rfl ?_
      refine x_get_X9_65_5 h hg kf_X9_74 nn_X9 dX9_adopt_34 ?_
      refine x_aload_n h dX9_adopt_37 rfl 0 rfl (q := 38) rfl ?_
      obtain ⟨u9, hu9, hf10⟩ := bnd_inv hf8
      refine x_callVv (As := [.ref (gA g tt3)]) (rest := []) h hg (c_X8_prepare C.2.1 hg.2.1 u7 tt3 htt3 _ hu9) ml_X9_204 biX8_prepare rfl rfl hdX8_prepare ⟨Nat.le_of_ble_eq_true rfl, Nat.le_of_ble_eq_true rfl⟩ (by decide) (cE_81 g _) rfl rfl rfl (Nat.le_of_ble_eq_true rfl) dX9_adopt_38 ?_
      refine x_aload_n h dX9_adopt_41 rfl 1 rfl (q := 42) rfl ?_
      refine x_get_X9_65_5 h hg kf_X9_74 nn_X9 dX9_adopt_42 ?_
      refine x_aload_n h dX9_adopt_45 rfl 0 rfl (q := 46) rfl ?_
      obtain ⟨u11, hu11, hf12⟩ := bnd_inv hf10
      refine x_callVi (As := [.ref (gA g tt3)]) (rest := []) h hg (c_X8_follow C.2.1 hg.2.1 u9 tt3 htt3 _ hu11) ml_X9_217 biX8_follow rfl rfl hdX8_follow ⟨Nat.le_of_ble_eq_true rfl, Nat.le_of_ble_eq_true rfl⟩ (by decide) (cE_81 g _) rfl rfl rfl (Nat.le_of_ble_eq_true rfl) dX9_adopt_46 ?_
      have hz := Option.some.inj hf12
      subst hz
      exact x_iret h hg hr dX9_adopt_49
    · skip
      refine x_bipush (v := (-3)) h dX9_adopt_19 (by decide) (q := 21) rfl ?_
      have hz := Option.some.inj hf6
      subst hz
      exact x_iret h hg hr dX9_adopt_21
theorem c_X9_adopt (l : Launch) {g : cG} (hi : gInj g) (σ : St) (x1 : Int32) (o : Int32 × St) (hf : m_X9_adopt σ x1 = some o) : Met l yX9_adopt (wT yX9_adopt cX9_adopt 3 (some .int)) rmX9_adopt (va_Pc [.ref (gA g 65), .int x1] (XPre g σ)) (XQ g (some (.int o.1)) o.2) 0 0 (cA g) :=
  X_met RX9 hi plX9 rfl (Nat.le_of_ble_eq_true rfl) rfl (fun _ _ _ h hg hL hr => w_X9_adopt σ x1 o h hg hL hr hf)
abbrev rmX9_planned : Room := { frames := 2, cells := 0, slots := 0, locals := 43 }
theorem hdX9_planned : yX9_planned.cls = RX9 ∧ yX9_planned.cls ≠ "java/lang/invoke/MethodHandle" ∧ yX9_planned.cls ≠ "java/lang/invoke/VarHandle" ∧ (parseMethodDescriptor yX9_planned.desc).map (fun d => d.parameters.length) = some 2 := by decide +kernel
def m_X9_planned (σ : St) (x1 : Int32) (x2 : Int32) : Int32 :=
  if (bI (m_X7_hasPlace σ x1 x2)) = 0 then (
    (-1)
  ) else (
    (m_X7_plannedAction σ x1 x2)
  )
set_option maxHeartbeats 4000000 in
set_option maxRecDepth 100000 in
theorem w_X9_planned {C : XC} {Q : State → Prop} {g : cG} (σ : St) (x1 : Int32) (x2 : Int32) (o : Int32) (h : XOk C cX9_planned RX9 tG rmX9_planned) (hg : XG C g) (hL : C.2.2.2.2.2.2.2.2.2.2.2.2.1 = 3) (hr : XEnd C (some .int) Q (XQ g (some (.int o)) σ) (cA g)) (hf : m_X9_planned σ x1 x2 = o) : Xs C (wW g) Q σ 0 [(0, .ref (gA g 65)), (1, .int x1), (2, .int x2)] [] := by
  unfold m_X9_planned at hf
  refine x_aload_n h dX9_planned_0 rfl 0 rfl (q := 1) rfl ?_
  refine x_get_X9_65_0 h hg kf_X9_33 nn_X9 dX9_planned_1 ?_
  refine x_iload_n h dX9_planned_4 rfl 1 rfl (q := 5) rfl ?_
  refine x_iload_n h dX9_planned_5 rfl 2 rfl (q := 6) rfl ?_
  refine x_callVi (As := [.int x1, .int x2]) (rest := []) h hg (c_X7_hasPlace C.2.1 hg.2.1 σ x1 x2 _ rfl) ml_X9_99 biX7_hasPlace rfl rfl hdX7_hasPlace ⟨Nat.le_of_ble_eq_true rfl, Nat.le_of_ble_eq_true rfl⟩ (by decide) (cE_0 g _) rfl rfl rfl (Nat.le_of_ble_eq_true rfl) dX9_planned_6 ?_
  refine x_if_eq (tgt := 24) h dX9_planned_9 (by decide) (q := 12) rfl hf (fun hc1 hf2 => ?_) (fun hc1 hf2 => ?_)
  · skip
    refine x_iconst (v := (-1)) h dX9_planned_24 (by decide) (q := 25) rfl ?_
    subst hf2
    exact x_iret h hg hr dX9_planned_25
  · skip
    refine x_aload_n h dX9_planned_12 rfl 0 rfl (q := 13) rfl ?_
    refine x_get_X9_65_0 h hg kf_X9_33 nn_X9 dX9_planned_13 ?_
    refine x_iload_n h dX9_planned_16 rfl 1 rfl (q := 17) rfl ?_
    refine x_iload_n h dX9_planned_17 rfl 2 rfl (q := 18) rfl ?_
    refine x_callVi (As := [.int x1, .int x2]) (rest := []) h hg (c_X7_plannedAction C.2.1 hg.2.1 σ x1 x2 _ rfl) ml_X9_211 biX7_plannedAction rfl rfl hdX7_plannedAction ⟨Nat.le_of_ble_eq_true rfl, Nat.le_of_ble_eq_true rfl⟩ (by decide) (cE_0 g _) rfl rfl rfl (Nat.le_of_ble_eq_true rfl) dX9_planned_18 ?_
    refine x_goto (q := 25) h dX9_planned_21 (by decide) ?_
    subst hf2
    exact x_iret h hg hr dX9_planned_25
theorem c_X9_planned (l : Launch) {g : cG} (hi : gInj g) (σ : St) (x1 : Int32) (x2 : Int32) (o : Int32) (hf : m_X9_planned σ x1 x2 = o) : Met l yX9_planned (wT yX9_planned cX9_planned 3 (some .int)) rmX9_planned (va_Pc [.ref (gA g 65), .int x1, .int x2] (XPre g σ)) (XQ g (some (.int o)) σ) 0 0 (cA g) :=
  X_met RX9 hi plX9 rfl (Nat.le_of_ble_eq_true rfl) rfl (fun _ _ _ h hg hL hr => w_X9_planned σ x1 x2 o h hg hL hr hf)
abbrev rmX9_enforced : Room := { frames := 6, cells := 0, slots := 0, locals := 154 }
theorem hdX9_enforced : yX9_enforced.cls = RX9 ∧ yX9_enforced.cls ≠ "java/lang/invoke/MethodHandle" ∧ yX9_enforced.cls ≠ "java/lang/invoke/VarHandle" ∧ (parseMethodDescriptor yX9_enforced.desc).map (fun d => d.parameters.length) = some 1 := by decide +kernel
def m_X9_enforced (σ : St) (x1 : Int32) : Option (Int32 × St) :=
  (m_X9_formulaOf σ x1).bind fun u1 =>
  oF u1 (
    some ((-1), σ)
  ) (fun tt3 =>
    if (bI (m_X0_hasStrategy σ tt3)) = 0 then (
      some ((-3), σ)
    ) else (
      (m_X3_look σ tt3).bind fun u7 =>
      (m_X3_goalSet u7 tt3 (m_X0_topCoalition u7 tt3) 1).bind fun u9 =>
      some (u9.1, u9.2)
    )
  )
set_option maxHeartbeats 4000000 in
set_option maxRecDepth 100000 in
theorem w_X9_enforced {C : XC} {Q : State → Prop} {g : cG} (σ : St) (x1 : Int32) (o : Int32 × St) (h : XOk C cX9_enforced RX9 tG rmX9_enforced) (hg : XG C g) (hL : C.2.2.2.2.2.2.2.2.2.2.2.2.1 = 3) (hr : XEnd C (some .int) Q (XQ g (some (.int o.1)) o.2) (cA g)) (hf : m_X9_enforced σ x1 = some o) : Xs C (wW g) Q σ 0 [(0, .ref (gA g 65)), (1, .int x1)] [] := by
  unfold m_X9_enforced at hf
  refine x_aload_n h dX9_enforced_0 rfl 0 rfl (q := 1) rfl ?_
  refine x_iload_n h dX9_enforced_1 rfl 1 rfl (q := 2) rfl ?_
  obtain ⟨u1, hu1, hf2⟩ := bnd_inv hf
  refine x_callVq (As := [.int x1]) (rest := []) h hg (c_X9_formulaOf C.2.1 hg.2.1 σ x1 _ hu1) ml_X9_165 biX9_formulaOf rfl rfl hdX9_formulaOf ⟨Nat.le_of_ble_eq_true rfl, Nat.le_of_ble_eq_true rfl⟩ (by decide) (cE_65 g _) rfl rfl rfl (Nat.le_of_ble_eq_true rfl) dX9_enforced_2 ?_
  refine x_astore_nq (lv' := [(2, rfV g u1), (0, .ref (gA g 65)), (1, .int x1)]) h dX9_enforced_5 rfl hL (by decide) rfl (q := 6) rfl ?_
  refine x_aload_nq h dX9_enforced_6 rfl 0 rfl (q := 7) rfl ?_
  rcases oF_inv hf2 with ⟨he, hf4⟩ | ⟨tt3, he, htt3, hf4⟩
  · subst he
    refine x_ifnonnullN h dX9_enforced_7 (q := 10) rfl ?_
    refine x_iconst (v := (-1)) h dX9_enforced_10 (by decide) (q := 11) rfl ?_
    have hz := Option.some.inj hf4
    subst hz
    exact x_iret h hg hr dX9_enforced_11
  · subst he
    refine x_ifnonnull (tgt := 12) h dX9_enforced_7 (by decide) ?_
    refine x_aload_n h dX9_enforced_12 rfl 0 rfl (q := 13) rfl ?_
    refine x_callVi (As := []) (rest := []) h hg (c_X0_hasStrategy C.2.1 hg.2.1 σ tt3 htt3 _ rfl) ml_X9_200 biX0_hasStrategy rfl rfl hdX0_hasStrategy ⟨Nat.le_of_ble_eq_true rfl, Nat.le_of_ble_eq_true rfl⟩ (isF_lt htt3) (cE_F htt3 g _) rfl rfl rfl (Nat.le_of_ble_eq_true rfl) dX9_enforced_13 ?_
    refine x_if_ne (tgt := 22) h dX9_enforced_16 (by decide) (q := 19) rfl hf4 (fun hc5 hf6 => ?_) (fun hc5 hf6 => ?_)
    · skip
      refine x_aload_n h dX9_enforced_22 rfl 1 rfl (q := 23) rfl ?_
      refine x_get_X9_65_4 h hg kf_X9_65 nn_X9 dX9_enforced_23 ?_
      refine x_aload_n h dX9_enforced_26 rfl 0 rfl (q := 27) rfl ?_
      obtain ⟨u7, hu7, hf8⟩ := bnd_inv hf6
      refine x_callVv (As := [.ref (gA g tt3)]) (rest := []) h hg (c_X3_look C.2.1 hg.2.1 σ tt3 htt3 _ hu7) ml_X9_172 biX3_look rfl rfl hdX3_look ⟨Nat.le_of_ble_eq_true rfl, Nat.le_of_ble_eq_true rfl⟩ (by decide) (cE_78 g _) rfl rfl rfl (Nat.le_of_ble_eq_true rfl) dX9_enforced_27 ?_
      refine x_aload_n h dX9_enforced_30 rfl 1 rfl (q := 31) rfl ?_
      refine x_get_X9_65_4 h hg kf_X9_65 nn_X9 dX9_enforced_31 ?_
      refine x_aload_n h dX9_enforced_34 rfl 0 rfl (q := 35) rfl ?_
      refine x_aload_n h dX9_enforced_35 rfl 0 rfl (q := 36) rfl ?_
      refine x_callVi (As := []) (rest := [.ref (gA g tt3), .ref (gA g 78)]) h hg (c_X0_topCoalition C.2.1 hg.2.1 u7 tt3 htt3 _ rfl) ml_X9_190 biX0_topCoalition rfl rfl hdX0_topCoalition ⟨Nat.le_of_ble_eq_true rfl, Nat.le_of_ble_eq_true rfl⟩ (isF_lt htt3) (cE_F htt3 g _) rfl rfl rfl (Nat.le_of_ble_eq_true rfl) dX9_enforced_36 ?_
      refine x_iconst (v := 1) h dX9_enforced_39 (by decide) (q := 40) rfl ?_
      obtain ⟨u9, hu9, hf10⟩ := bnd_inv hf8
      refine x_callVi (As := [.ref (gA g tt3), .int (m_X0_topCoalition u7 tt3), .int 1]) (rest := []) h hg (c_X3_goalSet C.2.1 hg.2.1 u7 tt3 (m_X0_topCoalition u7 tt3) 1 htt3 _ hu9) ml_X9_193 biX3_goalSet rfl rfl hdX3_goalSet ⟨Nat.le_of_ble_eq_true rfl, Nat.le_of_ble_eq_true rfl⟩ (by decide) (cE_78 g _) rfl rfl rfl (Nat.le_of_ble_eq_true rfl) dX9_enforced_40 ?_
      have hz := Option.some.inj hf10
      subst hz
      exact x_iret h hg hr dX9_enforced_43
    · skip
      refine x_bipush (v := (-3)) h dX9_enforced_19 (by decide) (q := 21) rfl ?_
      have hz := Option.some.inj hf6
      subst hz
      exact x_iret h hg hr dX9_enforced_21
theorem c_X9_enforced (l : Launch) {g : cG} (hi : gInj g) (σ : St) (x1 : Int32) (o : Int32 × St) (hf : m_X9_enforced σ x1 = some o) : Met l yX9_enforced (wT yX9_enforced cX9_enforced 3 (some .int)) rmX9_enforced (va_Pc [.ref (gA g 65), .int x1] (XPre g σ)) (XQ g (some (.int o.1)) o.2) 0 0 (cA g) :=
  X_met RX9 hi plX9 rfl (Nat.le_of_ble_eq_true rfl) rfl (fun _ _ _ h hg hL hr => w_X9_enforced σ x1 o h hg hL hr hf)
abbrev rmX9_play : Room := { frames := 4, cells := 0, slots := 0, locals := 104 }
theorem hdX9_play : yX9_play.cls = RX9 ∧ yX9_play.cls ≠ "java/lang/invoke/MethodHandle" ∧ yX9_play.cls ≠ "java/lang/invoke/VarHandle" ∧ (parseMethodDescriptor yX9_play.desc).map (fun d => d.parameters.length) = some 4 := by decide +kernel
def m_X9_play (σ : St) (x1 : Int32) (x2 : Int32) (x3 : Int32) (x4 : Int32) : Option (Int32) :=
  (m_X9_formulaOf σ x1).bind fun u1 =>
  oF u1 (
    some (-1)
  ) (fun tt3 =>
    if (bI (m_X7_hasState σ x2)) = 0 then (
      some (-1)
    ) else (
      if x3 < 0 then (
        some (-1)
      ) else (
        if x3 ≤ 200 then (
          if (bI (m_X0_hasStrategy σ tt3)) = 0 then (
            some (-3)
          ) else (
            (m_X8_run σ (m_X0_topCoalition σ tt3) x2 x3 x4).bind fun u13 =>
            some u13
          )
        ) else (
          some (-1)
        )
      )
    )
  )
set_option maxHeartbeats 4000000 in
set_option maxRecDepth 100000 in
theorem w_X9_play {C : XC} {Q : State → Prop} {g : cG} (σ : St) (x1 : Int32) (x2 : Int32) (x3 : Int32) (x4 : Int32) (o : Int32) (h : XOk C cX9_play RX9 tG rmX9_play) (hg : XG C g) (hL : C.2.2.2.2.2.2.2.2.2.2.2.2.1 = 6) (hr : XEnd C (some .int) Q (XQ g (some (.int o)) σ) (cA g)) (hf : m_X9_play σ x1 x2 x3 x4 = some o) : Xs C (wW g) Q σ 0 [(0, .ref (gA g 65)), (1, .int x1), (2, .int x2), (3, .int x3), (4, .int x4)] [] := by
  unfold m_X9_play at hf
  refine x_aload_n h dX9_play_0 rfl 0 rfl (q := 1) rfl ?_
  refine x_iload_n h dX9_play_1 rfl 1 rfl (q := 2) rfl ?_
  obtain ⟨u1, hu1, hf2⟩ := bnd_inv hf
  refine x_callVq (As := [.int x1]) (rest := []) h hg (c_X9_formulaOf C.2.1 hg.2.1 σ x1 _ hu1) ml_X9_165 biX9_formulaOf rfl rfl hdX9_formulaOf ⟨Nat.le_of_ble_eq_true rfl, Nat.le_of_ble_eq_true rfl⟩ (by decide) (cE_65 g _) rfl rfl rfl (Nat.le_of_ble_eq_true rfl) dX9_play_2 ?_
  refine x_astoreq (lv' := [(5, rfV g u1), (0, .ref (gA g 65)), (1, .int x1), (2, .int x2), (3, .int x3), (4, .int x4)]) h dX9_play_5 hL (by decide) rfl (q := 7) rfl ?_
  refine x_aloadq h dX9_play_7 0 rfl (q := 9) rfl ?_
  rcases oF_inv hf2 with ⟨he, hf4⟩ | ⟨tt3, he, htt3, hf4⟩
  · subst he
    refine x_ifnullN (tgt := 34) h dX9_play_9 (by decide) ?_
    refine x_iconst (v := (-1)) h dX9_play_34 (by decide) (q := 35) rfl ?_
    have hz := Option.some.inj hf4
    subst hz
    exact x_iret h hg hr dX9_play_35
  · subst he
    refine x_ifnull h dX9_play_9 (q := 12) rfl ?_
    refine x_aload_n h dX9_play_12 rfl 1 rfl (q := 13) rfl ?_
    refine x_get_X9_65_0 h hg kf_X9_33 nn_X9 dX9_play_13 ?_
    refine x_iload_n h dX9_play_16 rfl 3 rfl (q := 17) rfl ?_
    refine x_callVi (As := [.int x2]) (rest := []) h hg (c_X7_hasState C.2.1 hg.2.1 σ x2 _ rfl) ml_X9_110 biX7_hasState rfl rfl hdX7_hasState ⟨Nat.le_of_ble_eq_true rfl, Nat.le_of_ble_eq_true rfl⟩ (by decide) (cE_0 g _) rfl rfl rfl (Nat.le_of_ble_eq_true rfl) dX9_play_17 ?_
    refine x_if_eq (tgt := 34) h dX9_play_20 (by decide) (q := 23) rfl hf4 (fun hc5 hf6 => ?_) (fun hc5 hf6 => ?_)
    · skip
      refine x_iconst (v := (-1)) h dX9_play_34 (by decide) (q := 35) rfl ?_
      have hz := Option.some.inj hf6
      subst hz
      exact x_iret h hg hr dX9_play_35
    · skip
      refine x_iload_n h dX9_play_23 rfl 4 rfl (q := 24) rfl ?_
      refine x_if_lt (tgt := 34) h dX9_play_24 (by decide) (q := 27) rfl hf6 (fun hc7 hf8 => ?_) (fun hc7 hf8 => ?_)
      · skip
        refine x_iconst (v := (-1)) h dX9_play_34 (by decide) (q := 35) rfl ?_
        have hz := Option.some.inj hf8
        subst hz
        exact x_iret h hg hr dX9_play_35
      · skip
        refine x_iload_n h dX9_play_27 rfl 4 rfl (q := 28) rfl ?_
        refine x_sipush (v := 200) h dX9_play_28 (by decide) (q := 31) rfl ?_
        refine x_icmp_le (tgt := 36) h dX9_play_31 (by decide) (q := 34) rfl hf8 (fun hc9 hf10 => ?_) (fun hc9 hf10 => ?_)
        · skip
          refine x_aload h dX9_play_36 0 rfl (q := 38) rfl ?_
          refine x_callVi (As := []) (rest := []) h hg (c_X0_hasStrategy C.2.1 hg.2.1 σ tt3 htt3 _ rfl) ml_X9_200 biX0_hasStrategy rfl rfl hdX0_hasStrategy ⟨Nat.le_of_ble_eq_true rfl, Nat.le_of_ble_eq_true rfl⟩ (isF_lt htt3) (cE_F htt3 g _) rfl rfl rfl (Nat.le_of_ble_eq_true rfl) dX9_play_38 ?_
          refine x_if_ne (tgt := 47) h dX9_play_41 (by decide) (q := 44) rfl hf10 (fun hc11 hf12 => ?_) (fun hc11 hf12 => ?_)
          · skip
            refine x_aload_n h dX9_play_47 rfl 1 rfl (q := 48) rfl ?_
            refine x_get_X9_65_5 h hg kf_X9_74 nn_X9 dX9_play_48 ?_
            refine x_aload h dX9_play_51 0 rfl (q := 53) rfl ?_
            refine x_callVi (As := []) (rest := [.ref (gA g 81)]) h hg (c_X0_topCoalition C.2.1 hg.2.1 σ tt3 htt3 _ rfl) ml_X9_190 biX0_topCoalition rfl rfl hdX0_topCoalition ⟨Nat.le_of_ble_eq_true rfl, Nat.le_of_ble_eq_true rfl⟩ (isF_lt htt3) (cE_F htt3 g _) rfl rfl rfl (Nat.le_of_ble_eq_true rfl) dX9_play_53 ?_
            refine x_iload_n h dX9_play_56 rfl 3 rfl (q := 57) rfl ?_
            refine x_iload_n h dX9_play_57 rfl 4 rfl (q := 58) rfl ?_
            refine x_iload h dX9_play_58 5 rfl (q := 60) rfl ?_
            obtain ⟨u13, hu13, hf14⟩ := bnd_inv hf12
            refine x_callVi (As := [.int (m_X0_topCoalition σ tt3), .int x2, .int x3, .int x4]) (rest := []) h hg (c_X8_run C.2.1 hg.2.1 σ (m_X0_topCoalition σ tt3) x2 x3 x4 _ hu13) ml_X9_220 biX8_run rfl rfl hdX8_run ⟨Nat.le_of_ble_eq_true rfl, Nat.le_of_ble_eq_true rfl⟩ (by decide) (cE_81 g _) rfl rfl rfl (Nat.le_of_ble_eq_true rfl) dX9_play_60 ?_
            have hz := Option.some.inj hf14
            subst hz
            exact x_iret h hg hr dX9_play_63
          · skip
            refine x_bipush (v := (-3)) h dX9_play_44 (by decide) (q := 46) rfl ?_
            have hz := Option.some.inj hf12
            subst hz
            exact x_iret h hg hr dX9_play_46
        · skip
          refine x_iconst (v := (-1)) h dX9_play_34 (by decide) (q := 35) rfl ?_
          have hz := Option.some.inj hf10
          subst hz
          exact x_iret h hg hr dX9_play_35
theorem c_X9_play (l : Launch) {g : cG} (hi : gInj g) (σ : St) (x1 : Int32) (x2 : Int32) (x3 : Int32) (x4 : Int32) (o : Int32) (hf : m_X9_play σ x1 x2 x3 x4 = some o) : Met l yX9_play (wT yX9_play cX9_play 6 (some .int)) rmX9_play (va_Pc [.ref (gA g 65), .int x1, .int x2, .int x3, .int x4] (XPre g σ)) (XQ g (some (.int o)) σ) 0 0 (cA g) :=
  X_met RX9 hi plX9 rfl (Nat.le_of_ble_eq_true rfl) rfl (fun _ _ _ h hg hL hr => w_X9_play σ x1 x2 x3 x4 o h hg hL hr hf)
abbrev rmX9_smallest : Room := { frames := 7, cells := 0, slots := 0, locals := 178 }
theorem hdX9_smallest : yX9_smallest.cls = RX9 ∧ yX9_smallest.cls ≠ "java/lang/invoke/MethodHandle" ∧ yX9_smallest.cls ≠ "java/lang/invoke/VarHandle" ∧ (parseMethodDescriptor yX9_smallest.desc).map (fun d => d.parameters.length) = some 2 := by decide +kernel
def m_X9_smallest (σ : St) (x1 : Int32) (x2 : Int32) : Option (Int32 × St) :=
  (m_X9_formulaOf σ x1).bind fun u1 =>
  oF u1 (
    some ((-1), σ)
  ) (fun tt3 =>
    if (bI (m_X7_hasState σ x2)) = 0 then (
      some ((-1), σ)
    ) else (
      if (bI (m_X0_hasStrategy σ tt3)) = 0 then (
        some ((-3), σ)
      ) else (
        (m_X8_fewest σ tt3 x2).bind fun u9 =>
        some (u9.1, u9.2)
      )
    )
  )
set_option maxHeartbeats 4000000 in
set_option maxRecDepth 100000 in
theorem w_X9_smallest {C : XC} {Q : State → Prop} {g : cG} (σ : St) (x1 : Int32) (x2 : Int32) (o : Int32 × St) (h : XOk C cX9_smallest RX9 tG rmX9_smallest) (hg : XG C g) (hL : C.2.2.2.2.2.2.2.2.2.2.2.2.1 = 4) (hr : XEnd C (some .int) Q (XQ g (some (.int o.1)) o.2) (cA g)) (hf : m_X9_smallest σ x1 x2 = some o) : Xs C (wW g) Q σ 0 [(0, .ref (gA g 65)), (1, .int x1), (2, .int x2)] [] := by
  unfold m_X9_smallest at hf
  refine x_aload_n h dX9_smallest_0 rfl 0 rfl (q := 1) rfl ?_
  refine x_iload_n h dX9_smallest_1 rfl 1 rfl (q := 2) rfl ?_
  obtain ⟨u1, hu1, hf2⟩ := bnd_inv hf
  refine x_callVq (As := [.int x1]) (rest := []) h hg (c_X9_formulaOf C.2.1 hg.2.1 σ x1 _ hu1) ml_X9_165 biX9_formulaOf rfl rfl hdX9_formulaOf ⟨Nat.le_of_ble_eq_true rfl, Nat.le_of_ble_eq_true rfl⟩ (by decide) (cE_65 g _) rfl rfl rfl (Nat.le_of_ble_eq_true rfl) dX9_smallest_2 ?_
  refine x_astore_nq (lv' := [(3, rfV g u1), (0, .ref (gA g 65)), (1, .int x1), (2, .int x2)]) h dX9_smallest_5 rfl hL (by decide) rfl (q := 6) rfl ?_
  refine x_aload_nq h dX9_smallest_6 rfl 0 rfl (q := 7) rfl ?_
  rcases oF_inv hf2 with ⟨he, hf4⟩ | ⟨tt3, he, htt3, hf4⟩
  · subst he
    refine x_ifnullN (tgt := 21) h dX9_smallest_7 (by decide) ?_
    refine x_iconst (v := (-1)) h dX9_smallest_21 (by decide) (q := 22) rfl ?_
    have hz := Option.some.inj hf4
    subst hz
    exact x_iret h hg hr dX9_smallest_22
  · subst he
    refine x_ifnull h dX9_smallest_7 (q := 10) rfl ?_
    refine x_aload_n h dX9_smallest_10 rfl 1 rfl (q := 11) rfl ?_
    refine x_get_X9_65_0 h hg kf_X9_33 nn_X9 dX9_smallest_11 ?_
    refine x_iload_n h dX9_smallest_14 rfl 3 rfl (q := 15) rfl ?_
    refine x_callVi (As := [.int x2]) (rest := []) h hg (c_X7_hasState C.2.1 hg.2.1 σ x2 _ rfl) ml_X9_110 biX7_hasState rfl rfl hdX7_hasState ⟨Nat.le_of_ble_eq_true rfl, Nat.le_of_ble_eq_true rfl⟩ (by decide) (cE_0 g _) rfl rfl rfl (Nat.le_of_ble_eq_true rfl) dX9_smallest_15 ?_
    refine x_if_ne (tgt := 23) h dX9_smallest_18 (by decide) (q := 21) rfl hf4 (fun hc5 hf6 => ?_) (fun hc5 hf6 => ?_)
    · skip
      refine x_aload_n h dX9_smallest_23 rfl 0 rfl (q := 24) rfl ?_
      refine x_callVi (As := []) (rest := []) h hg (c_X0_hasStrategy C.2.1 hg.2.1 σ tt3 htt3 _ rfl) ml_X9_200 biX0_hasStrategy rfl rfl hdX0_hasStrategy ⟨Nat.le_of_ble_eq_true rfl, Nat.le_of_ble_eq_true rfl⟩ (isF_lt htt3) (cE_F htt3 g _) rfl rfl rfl (Nat.le_of_ble_eq_true rfl) dX9_smallest_24 ?_
      refine x_if_ne (tgt := 33) h dX9_smallest_27 (by decide) (q := 30) rfl hf6 (fun hc7 hf8 => ?_) (fun hc7 hf8 => ?_)
      · skip
        refine x_aload_n h dX9_smallest_33 rfl 1 rfl (q := 34) rfl ?_
        refine x_get_X9_65_5 h hg kf_X9_74 nn_X9 dX9_smallest_34 ?_
        refine x_aload_n h dX9_smallest_37 rfl 0 rfl (q := 38) rfl ?_
        refine x_iload_n h dX9_smallest_38 rfl 3 rfl (q := 39) rfl ?_
        obtain ⟨u9, hu9, hf10⟩ := bnd_inv hf8
        refine x_callVi (As := [.ref (gA g tt3), .int x2]) (rest := []) h hg (c_X8_fewest C.2.1 hg.2.1 σ tt3 x2 htt3 _ hu9) ml_X9_223 biX8_fewest rfl rfl hdX8_fewest ⟨Nat.le_of_ble_eq_true rfl, Nat.le_of_ble_eq_true rfl⟩ (by decide) (cE_81 g _) rfl rfl rfl (Nat.le_of_ble_eq_true rfl) dX9_smallest_39 ?_
        have hz := Option.some.inj hf10
        subst hz
        exact x_iret h hg hr dX9_smallest_42
      · skip
        refine x_bipush (v := (-3)) h dX9_smallest_30 (by decide) (q := 32) rfl ?_
        have hz := Option.some.inj hf8
        subst hz
        exact x_iret h hg hr dX9_smallest_32
    · skip
      refine x_iconst (v := (-1)) h dX9_smallest_21 (by decide) (q := 22) rfl ?_
      have hz := Option.some.inj hf6
      subst hz
      exact x_iret h hg hr dX9_smallest_22
theorem c_X9_smallest (l : Launch) {g : cG} (hi : gInj g) (σ : St) (x1 : Int32) (x2 : Int32) (o : Int32 × St) (hf : m_X9_smallest σ x1 x2 = some o) : Met l yX9_smallest (wT yX9_smallest cX9_smallest 4 (some .int)) rmX9_smallest (va_Pc [.ref (gA g 65), .int x1, .int x2] (XPre g σ)) (XQ g (some (.int o.1)) o.2) 0 0 (cA g) :=
  X_met RX9 hi plX9 rfl (Nat.le_of_ble_eq_true rfl) rfl (fun _ _ _ h hg hL hr => w_X9_smallest σ x1 x2 o h hg hL hr hf)
abbrev rmX9_classes : Room := { frames := 7, cells := 0, slots := 0, locals := 159 }
theorem hdX9_classes : yX9_classes.cls = RX9 ∧ yX9_classes.cls ≠ "java/lang/invoke/MethodHandle" ∧ yX9_classes.cls ≠ "java/lang/invoke/VarHandle" ∧ (parseMethodDescriptor yX9_classes.desc).map (fun d => d.parameters.length) = some 0 := by decide +kernel
def m_X9_classes (σ : St) : Option (Int32 × St) :=
  (m_X2_divide σ).bind fun u1 =>
  some (u1.1, u1.2)
set_option maxHeartbeats 4000000 in
set_option maxRecDepth 100000 in
theorem w_X9_classes {C : XC} {Q : State → Prop} {g : cG} (σ : St) (o : Int32 × St) (h : XOk C cX9_classes RX9 tG rmX9_classes) (hg : XG C g) (hL : C.2.2.2.2.2.2.2.2.2.2.2.2.1 = 1) (hr : XEnd C (some .int) Q (XQ g (some (.int o.1)) o.2) (cA g)) (hf : m_X9_classes σ = some o) : Xs C (wW g) Q σ 0 [(0, .ref (gA g 65))] [] := by
  unfold m_X9_classes at hf
  refine x_aload_n h dX9_classes_0 rfl 0 rfl (q := 1) rfl ?_
  refine x_get_X9_65_6 h hg kf_X9_81 nn_X9 dX9_classes_1 ?_
  obtain ⟨u1, hu1, hf2⟩ := bnd_inv hf
  refine x_callVi (As := []) (rest := []) h hg (c_X2_divide C.2.1 hg.2.1 σ _ hu1) ml_X9_226 biX2_divide rfl rfl hdX2_divide ⟨Nat.le_of_ble_eq_true rfl, Nat.le_of_ble_eq_true rfl⟩ (by decide) (cE_82 g _) rfl rfl rfl (Nat.le_of_ble_eq_true rfl) dX9_classes_4 ?_
  have hz := Option.some.inj hf2
  subst hz
  exact x_iret h hg hr dX9_classes_7
theorem c_X9_classes (l : Launch) {g : cG} (hi : gInj g) (σ : St) (o : Int32 × St) (hf : m_X9_classes σ = some o) : Met l yX9_classes (wT yX9_classes cX9_classes 1 (some .int)) rmX9_classes (va_Pc [.ref (gA g 65)] (XPre g σ)) (XQ g (some (.int o.1)) o.2) 0 0 (cA g) :=
  X_met RX9 hi plX9 rfl (Nat.le_of_ble_eq_true rfl) rfl (fun _ _ _ h hg hL hr => w_X9_classes σ o h hg hL hr hf)
abbrev rmX9_classOf : Room := { frames := 7, cells := 0, slots := 0, locals := 159 }
theorem hdX9_classOf : yX9_classOf.cls = RX9 ∧ yX9_classOf.cls ≠ "java/lang/invoke/MethodHandle" ∧ yX9_classOf.cls ≠ "java/lang/invoke/VarHandle" ∧ (parseMethodDescriptor yX9_classOf.desc).map (fun d => d.parameters.length) = some 1 := by decide +kernel
def m_X9_classOf (σ : St) (x1 : Int32) : Option (Int32 × St) :=
  if (bI (m_X7_hasState σ x1)) = 0 then (
    some ((-1), σ)
  ) else (
    (m_X2_divide σ).bind fun u3 =>
    some ((m_X2_classNumber u3.2 x1), u3.2)
  )
set_option maxHeartbeats 4000000 in
set_option maxRecDepth 100000 in
theorem w_X9_classOf {C : XC} {Q : State → Prop} {g : cG} (σ : St) (x1 : Int32) (o : Int32 × St) (h : XOk C cX9_classOf RX9 tG rmX9_classOf) (hg : XG C g) (hL : C.2.2.2.2.2.2.2.2.2.2.2.2.1 = 2) (hr : XEnd C (some .int) Q (XQ g (some (.int o.1)) o.2) (cA g)) (hf : m_X9_classOf σ x1 = some o) : Xs C (wW g) Q σ 0 [(0, .ref (gA g 65)), (1, .int x1)] [] := by
  unfold m_X9_classOf at hf
  refine x_aload_n h dX9_classOf_0 rfl 0 rfl (q := 1) rfl ?_
  refine x_get_X9_65_0 h hg kf_X9_33 nn_X9 dX9_classOf_1 ?_
  refine x_iload_n h dX9_classOf_4 rfl 1 rfl (q := 5) rfl ?_
  refine x_callVi (As := [.int x1]) (rest := []) h hg (c_X7_hasState C.2.1 hg.2.1 σ x1 _ rfl) ml_X9_110 biX7_hasState rfl rfl hdX7_hasState ⟨Nat.le_of_ble_eq_true rfl, Nat.le_of_ble_eq_true rfl⟩ (by decide) (cE_0 g _) rfl rfl rfl (Nat.le_of_ble_eq_true rfl) dX9_classOf_5 ?_
  refine x_if_ne (tgt := 13) h dX9_classOf_8 (by decide) (q := 11) rfl hf (fun hc1 hf2 => ?_) (fun hc1 hf2 => ?_)
  · skip
    refine x_aload_n h dX9_classOf_13 rfl 0 rfl (q := 14) rfl ?_
    refine x_get_X9_65_6 h hg kf_X9_81 nn_X9 dX9_classOf_14 ?_
    obtain ⟨u3, hu3, hf4⟩ := bnd_inv hf2
    refine x_callVi (As := []) (rest := []) h hg (c_X2_divide C.2.1 hg.2.1 σ _ hu3) ml_X9_226 biX2_divide rfl rfl hdX2_divide ⟨Nat.le_of_ble_eq_true rfl, Nat.le_of_ble_eq_true rfl⟩ (by decide) (cE_82 g _) rfl rfl rfl (Nat.le_of_ble_eq_true rfl) dX9_classOf_17 ?_
    refine x_pop h dX9_classOf_20 rfl (q := 21) rfl ?_
    refine x_aload_n h dX9_classOf_21 rfl 0 rfl (q := 22) rfl ?_
    refine x_get_X9_65_6 h hg kf_X9_81 nn_X9 dX9_classOf_22 ?_
    refine x_iload_n h dX9_classOf_25 rfl 1 rfl (q := 26) rfl ?_
    refine x_callVi (As := [.int x1]) (rest := []) h hg (c_X2_classNumber C.2.1 hg.2.1 u3.2 x1 _ rfl) ml_X9_229 biX2_classNumber rfl rfl hdX2_classNumber ⟨Nat.le_of_ble_eq_true rfl, Nat.le_of_ble_eq_true rfl⟩ (by decide) (cE_82 g _) rfl rfl rfl (Nat.le_of_ble_eq_true rfl) dX9_classOf_26 ?_
    have hz := Option.some.inj hf4
    subst hz
    exact x_iret h hg hr dX9_classOf_29
  · skip
    refine x_iconst (v := (-1)) h dX9_classOf_11 (by decide) (q := 12) rfl ?_
    have hz := Option.some.inj hf2
    subst hz
    exact x_iret h hg hr dX9_classOf_12
theorem c_X9_classOf (l : Launch) {g : cG} (hi : gInj g) (σ : St) (x1 : Int32) (o : Int32 × St) (hf : m_X9_classOf σ x1 = some o) : Met l yX9_classOf (wT yX9_classOf cX9_classOf 2 (some .int)) rmX9_classOf (va_Pc [.ref (gA g 65), .int x1] (XPre g σ)) (XQ g (some (.int o.1)) o.2) 0 0 (cA g) :=
  X_met RX9 hi plX9 rfl (Nat.le_of_ble_eq_true rfl) rfl (fun _ _ _ h hg hL hr => w_X9_classOf σ x1 o h hg hL hr hf)
abbrev rmX9_undo : Room := { frames := 4, cells := 0, slots := 0, locals := 104 }
theorem hdX9_undo : yX9_undo.cls = RX9 ∧ yX9_undo.cls ≠ "java/lang/invoke/MethodHandle" ∧ yX9_undo.cls ≠ "java/lang/invoke/VarHandle" ∧ (parseMethodDescriptor yX9_undo.desc).map (fun d => d.parameters.length) = some 0 := by decide +kernel
def m_X9_undo (σ : St) : Option (Int32 × St) :=
  (m_X1_restore σ).bind fun u1 =>
  if (bI u1.1) = 0 then (
    some ((-9), u1.2)
  ) else (
    some ((u1.2 67 2), u1.2)
  )
set_option maxHeartbeats 4000000 in
set_option maxRecDepth 100000 in
theorem w_X9_undo {C : XC} {Q : State → Prop} {g : cG} (σ : St) (o : Int32 × St) (h : XOk C cX9_undo RX9 tG rmX9_undo) (hg : XG C g) (hL : C.2.2.2.2.2.2.2.2.2.2.2.2.1 = 1) (hr : XEnd C (some .int) Q (XQ g (some (.int o.1)) o.2) (cA g)) (hf : m_X9_undo σ = some o) : Xs C (wW g) Q σ 0 [(0, .ref (gA g 65))] [] := by
  unfold m_X9_undo at hf
  refine x_aload_n h dX9_undo_0 rfl 0 rfl (q := 1) rfl ?_
  refine x_get_X9_65_1 h hg kf_X9_40 nn_X9 dX9_undo_1 ?_
  refine x_aload_n h dX9_undo_4 rfl 0 rfl (q := 5) rfl ?_
  refine x_get_X9_65_0 h hg kf_X9_33 nn_X9 dX9_undo_5 ?_
  obtain ⟨u1, hu1, hf2⟩ := bnd_inv hf
  refine x_callVi (As := [.ref (gA g 0)]) (rest := []) h hg (c_X1_restore C.2.1 hg.2.1 σ _ hu1) ml_X9_232 biX1_restore rfl rfl hdX1_restore ⟨Nat.le_of_ble_eq_true rfl, Nat.le_of_ble_eq_true rfl⟩ (by decide) (cE_67 g _) rfl rfl rfl (Nat.le_of_ble_eq_true rfl) dX9_undo_8 ?_
  refine x_if_eq (tgt := 24) h dX9_undo_11 (by decide) (q := 14) rfl hf2 (fun hc3 hf4 => ?_) (fun hc3 hf4 => ?_)
  · skip
    refine x_bipush (v := (-9)) h dX9_undo_24 (by decide) (q := 26) rfl ?_
    have hz := Option.some.inj hf4
    subst hz
    exact x_iret h hg hr dX9_undo_26
  · skip
    refine x_aload_n h dX9_undo_14 rfl 0 rfl (q := 15) rfl ?_
    refine x_get_X9_65_1 h hg kf_X9_40 nn_X9 dX9_undo_15 ?_
    refine x_get_X1_67_2 h hg kf_X9_236 nn_X1 dX9_undo_18 ?_
    refine x_goto (q := 26) h dX9_undo_21 (by decide) ?_
    have hz := Option.some.inj hf4
    subst hz
    exact x_iret h hg hr dX9_undo_26
theorem c_X9_undo (l : Launch) {g : cG} (hi : gInj g) (σ : St) (o : Int32 × St) (hf : m_X9_undo σ = some o) : Met l yX9_undo (wT yX9_undo cX9_undo 1 (some .int)) rmX9_undo (va_Pc [.ref (gA g 65)] (XPre g σ)) (XQ g (some (.int o.1)) o.2) 0 0 (cA g) :=
  X_met RX9 hi plX9 rfl (Nat.le_of_ble_eq_true rfl) rfl (fun _ _ _ h hg hL hr => w_X9_undo σ o h hg hL hr hf)
abbrev rmX9_fingerprint : Room := { frames := 3, cells := 0, slots := 0, locals := 70 }
theorem hdX9_fingerprint : yX9_fingerprint.cls = RX9 ∧ yX9_fingerprint.cls ≠ "java/lang/invoke/MethodHandle" ∧ yX9_fingerprint.cls ≠ "java/lang/invoke/VarHandle" ∧ (parseMethodDescriptor yX9_fingerprint.desc).map (fun d => d.parameters.length) = some 0 := by decide +kernel
def m_X9_fingerprint (σ : St) : Option (Int64) :=
  (m_X7_mix σ 41).bind fun u1 =>
  some ((u1 * 31) + ((σ 65 8)).toInt64)
set_option maxHeartbeats 4000000 in
set_option maxRecDepth 100000 in
theorem w_X9_fingerprint {C : XC} {Q : State → Prop} {g : cG} (σ : St) (o : Int64) (h : XOk C cX9_fingerprint RX9 tG rmX9_fingerprint) (hg : XG C g) (hL : C.2.2.2.2.2.2.2.2.2.2.2.2.1 = 1) (hr : XEnd C (some .long) Q (XQ g (some (.long o)) σ) (cA g)) (hf : m_X9_fingerprint σ = some o) : Xs C (wW g) Q σ 0 [(0, .ref (gA g 65))] [] := by
  unfold m_X9_fingerprint at hf
  refine x_aload_n h dX9_fingerprint_0 rfl 0 rfl (q := 1) rfl ?_
  refine x_get_X9_65_0 h hg kf_X9_33 nn_X9 dX9_fingerprint_1 ?_
  refine x_ldc2 (v := 41) h kc_X9_237 dX9_fingerprint_4 (q := 7) rfl ?_
  obtain ⟨u1, hu1, hf2⟩ := bnd_inv hf
  refine x_callVl (As := [.long 41]) (rest := []) h hg (c_X7_mix C.2.1 hg.2.1 σ 41 _ hu1) ml_X9_239 biX7_mix rfl rfl hdX7_mix ⟨Nat.le_of_ble_eq_true rfl, Nat.le_of_ble_eq_true rfl⟩ (by decide) (cE_0 g _) rfl rfl rfl (Nat.le_of_ble_eq_true rfl) dX9_fingerprint_7 ?_
  refine x_ldc2 (v := 31) h kc_X9_243 dX9_fingerprint_10 (q := 13) rfl ?_
  refine x_lmul h dX9_fingerprint_13 (q := 14) rfl ?_
  refine x_aload_n h dX9_fingerprint_14 rfl 0 rfl (q := 15) rfl ?_
  refine x_get_X9_65_8 h hg kf_X9_15 nn_X9 dX9_fingerprint_15 ?_
  refine x_i2l h dX9_fingerprint_18 (q := 19) rfl ?_
  refine x_ladd h dX9_fingerprint_19 (q := 20) rfl ?_
  have hz := Option.some.inj hf2
  subst hz
  exact x_lret h hg hr dX9_fingerprint_20
theorem c_X9_fingerprint (l : Launch) {g : cG} (hi : gInj g) (σ : St) (o : Int64) (hf : m_X9_fingerprint σ = some o) : Met l yX9_fingerprint (wT yX9_fingerprint cX9_fingerprint 1 (some .long)) rmX9_fingerprint (va_Pc [.ref (gA g 65)] (XPre g σ)) (XQ g (some (.long o)) σ) 0 0 (cA g) :=
  X_met RX9 hi plX9 rfl (Nat.le_of_ble_eq_true rfl) rfl (fun _ _ _ h hg hL hr => w_X9_fingerprint σ o h hg hL hr hf)
