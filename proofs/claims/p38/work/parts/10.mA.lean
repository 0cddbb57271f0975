theorem hdX5_put : yX5_put.cls ≠ "java/lang/invoke/MethodHandle" ∧ yX5_put.cls ≠ "java/lang/invoke/VarHandle" ∧ (parseMethodDescriptor yX5_put.desc).map (fun d => d.parameters.length) = some 3 := by decide +kernel
theorem hdX5_at : yX5_at.cls ≠ "java/lang/invoke/MethodHandle" ∧ yX5_at.cls ≠ "java/lang/invoke/VarHandle" ∧ (parseMethodDescriptor yX5_at.desc).map (fun d => d.parameters.length) = some 2 := by decide +kernel
theorem hdX5_copy : yX5_copy.cls ≠ "java/lang/invoke/MethodHandle" ∧ yX5_copy.cls ≠ "java/lang/invoke/VarHandle" ∧ (parseMethodDescriptor yX5_copy.desc).map (fun d => d.parameters.length) = some 2 := by decide +kernel
abbrev rmX0_add : Room := { frames := 1, cells := 0, slots := 0, locals := 22 }
theorem hdX0_add : yX0_add.cls = RX0 ∧ yX0_add.cls ≠ "java/lang/invoke/MethodHandle" ∧ yX0_add.cls ≠ "java/lang/invoke/VarHandle" ∧ (parseMethodDescriptor yX0_add.desc).map (fun d => d.parameters.length) = some 4 := by decide +kernel
def m_X0_add (σ : St) (t0 : Nat) (x1 : Int32) (x2 : Int32) (x3 : Int32) (x4 : Int32) : Int32 × St :=
  ((((up (rPut (rPut (rPut (rPut σ (t0 + 1) 60 (σ t0 4) x1) (t0 + 4) 60 ((rPut σ (t0 + 1) 60 (σ t0 4) x1) t0 4) x2) (t0 + 2) 60 ((rPut (rPut σ (t0 + 1) 60 (σ t0 4) x1) (t0 + 4) 60 ((rPut σ (t0 + 1) 60 (σ t0 4) x1) t0 4) x2) t0 4) x3) (t0 + 3) 60 ((rPut (rPut (rPut σ (t0 + 1) 60 (σ t0 4) x1) (t0 + 4) 60 ((rPut σ (t0 + 1) 60 (σ t0 4) x1) t0 4) x2) (t0 + 2) 60 ((rPut (rPut σ (t0 + 1) 60 (σ t0 4) x1) (t0 + 4) 60 ((rPut σ (t0 + 1) 60 (σ t0 4) x1) t0 4) x2) t0 4) x3) t0 4) x4) t0 4 (((rPut (rPut (rPut (rPut σ (t0 + 1) 60 (σ t0 4) x1) (t0 + 4) 60 ((rPut σ (t0 + 1) 60 (σ t0 4) x1) t0 4) x2) (t0 + 2) 60 ((rPut (rPut σ (t0 + 1) 60 (σ t0 4) x1) (t0 + 4) 60 ((rPut σ (t0 + 1) 60 (σ t0 4) x1) t0 4) x2) t0 4) x3) (t0 + 3) 60 ((rPut (rPut (rPut σ (t0 + 1) 60 (σ t0 4) x1) (t0 + 4) 60 ((rPut σ (t0 + 1) 60 (σ t0 4) x1) t0 4) x2) (t0 + 2) 60 ((rPut (rPut σ (t0 + 1) 60 (σ t0 4) x1) (t0 + 4) 60 ((rPut σ (t0 + 1) 60 (σ t0 4) x1) t0 4) x2) t0 4) x3) t0 4) x4) t0 4) + 1)) t0 4) - 1), (up (rPut (rPut (rPut (rPut σ (t0 + 1) 60 (σ t0 4) x1) (t0 + 4) 60 ((rPut σ (t0 + 1) 60 (σ t0 4) x1) t0 4) x2) (t0 + 2) 60 ((rPut (rPut σ (t0 + 1) 60 (σ t0 4) x1) (t0 + 4) 60 ((rPut σ (t0 + 1) 60 (σ t0 4) x1) t0 4) x2) t0 4) x3) (t0 + 3) 60 ((rPut (rPut (rPut σ (t0 + 1) 60 (σ t0 4) x1) (t0 + 4) 60 ((rPut σ (t0 + 1) 60 (σ t0 4) x1) t0 4) x2) (t0 + 2) 60 ((rPut (rPut σ (t0 + 1) 60 (σ t0 4) x1) (t0 + 4) 60 ((rPut σ (t0 + 1) 60 (σ t0 4) x1) t0 4) x2) t0 4) x3) t0 4) x4) t0 4 (((rPut (rPut (rPut (rPut σ (t0 + 1) 60 (σ t0 4) x1) (t0 + 4) 60 ((rPut σ (t0 + 1) 60 (σ t0 4) x1) t0 4) x2) (t0 + 2) 60 ((rPut (rPut σ (t0 + 1) 60 (σ t0 4) x1) (t0 + 4) 60 ((rPut σ (t0 + 1) 60 (σ t0 4) x1) t0 4) x2) t0 4) x3) (t0 + 3) 60 ((rPut (rPut (rPut σ (t0 + 1) 60 (σ t0 4) x1) (t0 + 4) 60 ((rPut σ (t0 + 1) 60 (σ t0 4) x1) t0 4) x2) (t0 + 2) 60 ((rPut (rPut σ (t0 + 1) 60 (σ t0 4) x1) (t0 + 4) 60 ((rPut σ (t0 + 1) 60 (σ t0 4) x1) t0 4) x2) t0 4) x3) t0 4) x4) t0 4) + 1)))
set_option maxHeartbeats 4000000 in
set_option maxRecDepth 100000 in
theorem w_X0_add {C : XC} {Q : State → Prop} {g : cG} (σ : St) (t0 : Nat) (x1 : Int32) (x2 : Int32) (x3 : Int32) (x4 : Int32) (ht0 : isF t0 = true) (o : Int32 × St) (h : XOk C cX0_add RX0 tG rmX0_add) (hg : XG C g) (hL : C.2.2.2.2.2.2.2.2.2.2.2.2.1 = 5) (hr : XEnd C (some .int) Q (XQ g (some (.int o.1)) o.2) (cA g)) (hf : m_X0_add σ t0 x1 x2 x3 x4 = o) : Xs C (wW g) Q σ 0 [(0, .ref (gA g t0)), (1, .int x1), (2, .int x2), (3, .int x3), (4, .int x4)] [] := by
  unfold m_X0_add at hf
  refine x_aload_n h dX0_add_0 rfl 0 rfl (q := 1) rfl ?_
  refine x_get_X0_t_0 ht0 h hg kf_X0_9 nn_X0 dX0_add_1 ?_
  refine x_aload_n h dX0_add_4 rfl 0 rfl (q := 5) rfl ?_
  refine x_get_X0_t_4 ht0 h hg kf_X0_24 nn_X0 dX0_add_5 ?_
  refine x_iload_n h dX0_add_8 rfl 1 rfl (q := 9) rfl ?_
  refine x_callSv (As := [.ref (gA g (t0 + 1)), .int (σ t0 4), .int x1]) (rest := []) h hg (c_X5_put C.2.1 hg.2.1 σ (a_F1 ht0) (σ t0 4) x1) ml_X0_28 biX5_put rfl rfl hdX5_put ⟨Nat.le_of_ble_eq_true rfl, Nat.le_of_ble_eq_true rfl⟩ rfl rfl (Nat.le_of_ble_eq_true rfl) dX0_add_9 ?_
  refine x_aload_n h dX0_add_12 rfl 0 rfl (q := 13) rfl ?_
  refine x_get_X0_t_3 ht0 h hg kf_X0_21 nn_X0 dX0_add_13 ?_
  refine x_aload_n h dX0_add_16 rfl 0 rfl (q := 17) rfl ?_
  refine x_get_X0_t_4 ht0 h hg kf_X0_24 nn_X0 dX0_add_17 ?_
  refine x_iload_n h dX0_add_20 rfl 2 rfl (q := 21) rfl ?_
  refine x_callSv (As := [.ref (gA g (t0 + 4)), .int ((rPut σ (t0 + 1) 60 (σ t0 4) x1) t0 4), .int x2]) (rest := []) h hg (c_X5_put C.2.1 hg.2.1 (rPut σ (t0 + 1) 60 (σ t0 4) x1) (a_F4 ht0) ((rPut σ (t0 + 1) 60 (σ t0 4) x1) t0 4) x2) ml_X0_28 biX5_put rfl rfl hdX5_put ⟨Nat.le_of_ble_eq_true rfl, Nat.le_of_ble_eq_true rfl⟩ rfl rfl (Nat.le_of_ble_eq_true rfl) dX0_add_21 ?_
  refine x_aload_n h dX0_add_24 rfl 0 rfl (q := 25) rfl ?_
  refine x_get_X0_t_1 ht0 h hg kf_X0_15 nn_X0 dX0_add_25 ?_
  refine x_aload_n h dX0_add_28 rfl 0 rfl (q := 29) rfl ?_
  refine x_get_X0_t_4 ht0 h hg kf_X0_24 nn_X0 dX0_add_29 ?_
  refine x_iload_n h dX0_add_32 rfl 3 rfl (q := 33) rfl ?_
  refine x_callSv (As := [.ref (gA g (t0 + 2)), .int ((rPut (rPut σ (t0 + 1) 60 (σ t0 4) x1) (t0 + 4) 60 ((rPut σ (t0 + 1) 60 (σ t0 4) x1) t0 4) x2) t0 4), .int x3]) (rest := []) h hg (c_X5_put C.2.1 hg.2.1 (rPut (rPut σ (t0 + 1) 60 (σ t0 4) x1) (t0 + 4) 60 ((rPut σ (t0 + 1) 60 (σ t0 4) x1) t0 4) x2) (a_F2 ht0) ((rPut (rPut σ (t0 + 1) 60 (σ t0 4) x1) (t0 + 4) 60 ((rPut σ (t0 + 1) 60 (σ t0 4) x1) t0 4) x2) t0 4) x3) ml_X0_28 biX5_put rfl rfl hdX5_put ⟨Nat.le_of_ble_eq_true rfl, Nat.le_of_ble_eq_true rfl⟩ rfl rfl (Nat.le_of_ble_eq_true rfl) dX0_add_33 ?_
  refine x_aload_n h dX0_add_36 rfl 0 rfl (q := 37) rfl ?_
  refine x_get_X0_t_2 ht0 h hg kf_X0_18 nn_X0 dX0_add_37 ?_
  refine x_aload_n h dX0_add_40 rfl 0 rfl (q := 41) rfl ?_
  refine x_get_X0_t_4 ht0 h hg kf_X0_24 nn_X0 dX0_add_41 ?_
  refine x_iload h dX0_add_44 4 rfl (q := 46) rfl ?_
  refine x_callSv (As := [.ref (gA g (t0 + 3)), .int ((rPut (rPut (rPut σ (t0 + 1) 60 (σ t0 4) x1) (t0 + 4) 60 ((rPut σ (t0 + 1) 60 (σ t0 4) x1) t0 4) x2) (t0 + 2) 60 ((rPut (rPut σ (t0 + 1) 60 (σ t0 4) x1) (t0 + 4) 60 ((rPut σ (t0 + 1) 60 (σ t0 4) x1) t0 4) x2) t0 4) x3) t0 4), .int x4]) (rest := []) h hg (c_X5_put C.2.1 hg.2.1 (rPut (rPut (rPut σ (t0 + 1) 60 (σ t0 4) x1) (t0 + 4) 60 ((rPut σ (t0 + 1) 60 (σ t0 4) x1) t0 4) x2) (t0 + 2) 60 ((rPut (rPut σ (t0 + 1) 60 (σ t0 4) x1) (t0 + 4) 60 ((rPut σ (t0 + 1) 60 (σ t0 4) x1) t0 4) x2) t0 4) x3) (a_F3 ht0) ((rPut (rPut (rPut σ (t0 + 1) 60 (σ t0 4) x1) (t0 + 4) 60 ((rPut σ (t0 + 1) 60 (σ t0 4) x1) t0 4) x2) (t0 + 2) 60 ((rPut (rPut σ (t0 + 1) 60 (σ t0 4) x1) (t0 + 4) 60 ((rPut σ (t0 + 1) 60 (σ t0 4) x1) t0 4) x2) t0 4) x3) t0 4) x4) ml_X0_28 biX5_put rfl rfl hdX5_put ⟨Nat.le_of_ble_eq_true rfl, Nat.le_of_ble_eq_true rfl⟩ rfl rfl (Nat.le_of_ble_eq_true rfl) dX0_add_46 ?_
  refine x_aload_n h dX0_add_49 rfl 0 rfl (q := 50) rfl ?_
  refine x_dup h dX0_add_50 rfl (q := 51) rfl ?_
  refine x_get_X0_t_4 ht0 h hg kf_X0_24 nn_X0 dX0_add_51 ?_
  refine x_iconst (v := 1) h dX0_add_54 (by decide) (q := 55) rfl ?_
  refine x_iadd h dX0_add_55 (q := 56) rfl ?_
  refine x_put_X0_t_4 ht0 h hg kf_X0_24 nn_X0 dX0_add_56 ?_
  refine x_aload_n h dX0_add_59 rfl 0 rfl (q := 60) rfl ?_
  refine x_get_X0_t_4 ht0 h hg kf_X0_24 nn_X0 dX0_add_60 ?_
  refine x_iconst (v := 1) h dX0_add_63 (by decide) (q := 64) rfl ?_
  refine x_isub h dX0_add_64 (q := 65) rfl ?_
  subst hf
  exact x_iret h hg hr dX0_add_65
theorem c_X0_add (l : Launch) {g : cG} (hi : gInj g) (σ : St) (t0 : Nat) (x1 : Int32) (x2 : Int32) (x3 : Int32) (x4 : Int32) (ht0 : isF t0 = true) (o : Int32 × St) (hf : m_X0_add σ t0 x1 x2 x3 x4 = o) : Met l yX0_add (wT yX0_add cX0_add 5 (some .int)) rmX0_add (va_Pc [.ref (gA g t0), .int x1, .int x2, .int x3, .int x4] (XPre g σ)) (XQ g (some (.int o.1)) o.2) 0 0 (cA g) :=
  X_met RX0 hi plX0 rfl (Nat.le_of_ble_eq_true rfl) rfl (fun _ _ _ h hg hL hr => w_X0_add σ t0 x1 x2 x3 x4 ht0 o h hg hL hr hf)
abbrev rmX0_kind : Room := { frames := 1, cells := 0, slots := 0, locals := 21 }
theorem hdX0_kind : yX0_kind.cls = RX0 ∧ yX0_kind.cls ≠ "java/lang/invoke/MethodHandle" ∧ yX0_kind.cls ≠ "java/lang/invoke/VarHandle" ∧ (parseMethodDescriptor yX0_kind.desc).map (fun d => d.parameters.length) = some 1 := by decide +kernel
def m_X0_kind (σ : St) (t0 : Nat) (x1 : Int32) : Int32 :=
  (rAt 60 (σ (t0 + 1)) x1)
set_option maxHeartbeats 4000000 in
set_option maxRecDepth 100000 in
theorem w_X0_kind {C : XC} {Q : State → Prop} {g : cG} (σ : St) (t0 : Nat) (x1 : Int32) (ht0 : isF t0 = true) (o : Int32) (h : XOk C cX0_kind RX0 tG rmX0_kind) (hg : XG C g) (hL : C.2.2.2.2.2.2.2.2.2.2.2.2.1 = 2) (hr : XEnd C (some .int) Q (XQ g (some (.int o)) σ) (cA g)) (hf : m_X0_kind σ t0 x1 = o) : Xs C (wW g) Q σ 0 [(0, .ref (gA g t0)), (1, .int x1)] [] := by
  unfold m_X0_kind at hf
  refine x_aload_n h dX0_kind_0 rfl 0 rfl (q := 1) rfl ?_
  refine x_get_X0_t_0 ht0 h hg kf_X0_9 nn_X0 dX0_kind_1 ?_
  refine x_iload_n h dX0_kind_4 rfl 1 rfl (q := 5) rfl ?_
  refine x_callSi (As := [.ref (gA g (t0 + 1)), .int x1]) (rest := []) h hg (c_X5_at C.2.1 hg.2.1 σ (a_F1 ht0) x1) ml_X0_34 biX5_at rfl rfl hdX5_at ⟨Nat.le_of_ble_eq_true rfl, Nat.le_of_ble_eq_true rfl⟩ rfl rfl (Nat.le_of_ble_eq_true rfl) dX0_kind_5 ?_
  subst hf
  exact x_iret h hg hr dX0_kind_8
theorem c_X0_kind (l : Launch) {g : cG} (hi : gInj g) (σ : St) (t0 : Nat) (x1 : Int32) (ht0 : isF t0 = true) (o : Int32) (hf : m_X0_kind σ t0 x1 = o) : Met l yX0_kind (wT yX0_kind cX0_kind 2 (some .int)) rmX0_kind (va_Pc [.ref (gA g t0), .int x1] (XPre g σ)) (XQ g (some (.int o)) σ) 0 0 (cA g) :=
  X_met RX0 hi plX0 rfl (Nat.le_of_ble_eq_true rfl) rfl (fun _ _ _ h hg hL hr => w_X0_kind σ t0 x1 ht0 o h hg hL hr hf)
abbrev rmX0_detail : Room := { frames := 1, cells := 0, slots := 0, locals := 21 }
theorem hdX0_detail : yX0_detail.cls = RX0 ∧ yX0_detail.cls ≠ "java/lang/invoke/MethodHandle" ∧ yX0_detail.cls ≠ "java/lang/invoke/VarHandle" ∧ (parseMethodDescriptor yX0_detail.desc).map (fun d => d.parameters.length) = some 1 := by decide +kernel
def m_X0_detail (σ : St) (t0 : Nat) (x1 : Int32) : Int32 :=
  (rAt 60 (σ (t0 + 4)) x1)
set_option maxHeartbeats 4000000 in
set_option maxRecDepth 100000 in
theorem w_X0_detail {C : XC} {Q : State → Prop} {g : cG} (σ : St) (t0 : Nat) (x1 : Int32) (ht0 : isF t0 = true) (o : Int32) (h : XOk C cX0_detail RX0 tG rmX0_detail) (hg : XG C g) (hL : C.2.2.2.2.2.2.2.2.2.2.2.2.1 = 2) (hr : XEnd C (some .int) Q (XQ g (some (.int o)) σ) (cA g)) (hf : m_X0_detail σ t0 x1 = o) : Xs C (wW g) Q σ 0 [(0, .ref (gA g t0)), (1, .int x1)] [] := by
  unfold m_X0_detail at hf
  refine x_aload_n h dX0_detail_0 rfl 0 rfl (q := 1) rfl ?_
  refine x_get_X0_t_3 ht0 h hg kf_X0_21 nn_X0 dX0_detail_1 ?_
  refine x_iload_n h dX0_detail_4 rfl 1 rfl (q := 5) rfl ?_
  refine x_callSi (As := [.ref (gA g (t0 + 4)), .int x1]) (rest := []) h hg (c_X5_at C.2.1 hg.2.1 σ (a_F4 ht0) x1) ml_X0_34 biX5_at rfl rfl hdX5_at ⟨Nat.le_of_ble_eq_true rfl, Nat.le_of_ble_eq_true rfl⟩ rfl rfl (Nat.le_of_ble_eq_true rfl) dX0_detail_5 ?_
  subst hf
  exact x_iret h hg hr dX0_detail_8
theorem c_X0_detail (l : Launch) {g : cG} (hi : gInj g) (σ : St) (t0 : Nat) (x1 : Int32) (ht0 : isF t0 = true) (o : Int32) (hf : m_X0_detail σ t0 x1 = o) : Met l yX0_detail (wT yX0_detail cX0_detail 2 (some .int)) rmX0_detail (va_Pc [.ref (gA g t0), .int x1] (XPre g σ)) (XQ g (some (.int o)) σ) 0 0 (cA g) :=
  X_met RX0 hi plX0 rfl (Nat.le_of_ble_eq_true rfl) rfl (fun _ _ _ h hg hL hr => w_X0_detail σ t0 x1 ht0 o h hg hL hr hf)
abbrev rmX0_first : Room := { frames := 1, cells := 0, slots := 0, locals := 21 }
theorem hdX0_first : yX0_first.cls = RX0 ∧ yX0_first.cls ≠ "java/lang/invoke/MethodHandle" ∧ yX0_first.cls ≠ "java/lang/invoke/VarHandle" ∧ (parseMethodDescriptor yX0_first.desc).map (fun d => d.parameters.length) = some 1 := by decide +kernel
def m_X0_first (σ : St) (t0 : Nat) (x1 : Int32) : Int32 :=
  (rAt 60 (σ (t0 + 2)) x1)
set_option maxHeartbeats 4000000 in
set_option maxRecDepth 100000 in
theorem w_X0_first {C : XC} {Q : State → Prop} {g : cG} (σ : St) (t0 : Nat) (x1 : Int32) (ht0 : isF t0 = true) (o : Int32) (h : XOk C cX0_first RX0 tG rmX0_first) (hg : XG C g) (hL : C.2.2.2.2.2.2.2.2.2.2.2.2.1 = 2) (hr : XEnd C (some .int) Q (XQ g (some (.int o)) σ) (cA g)) (hf : m_X0_first σ t0 x1 = o) : Xs C (wW g) Q σ 0 [(0, .ref (gA g t0)), (1, .int x1)] [] := by
  unfold m_X0_first at hf
  refine x_aload_n h dX0_first_0 rfl 0 rfl (q := 1) rfl ?_
  refine x_get_X0_t_1 ht0 h hg kf_X0_15 nn_X0 dX0_first_1 ?_
  refine x_iload_n h dX0_first_4 rfl 1 rfl (q := 5) rfl ?_
  refine x_callSi (As := [.ref (gA g (t0 + 2)), .int x1]) (rest := []) h hg (c_X5_at C.2.1 hg.2.1 σ (a_F2 ht0) x1) ml_X0_34 biX5_at rfl rfl hdX5_at ⟨Nat.le_of_ble_eq_true rfl, Nat.le_of_ble_eq_true rfl⟩ rfl rfl (Nat.le_of_ble_eq_true rfl) dX0_first_5 ?_
  subst hf
  exact x_iret h hg hr dX0_first_8
theorem c_X0_first (l : Launch) {g : cG} (hi : gInj g) (σ : St) (t0 : Nat) (x1 : Int32) (ht0 : isF t0 = true) (o : Int32) (hf : m_X0_first σ t0 x1 = o) : Met l yX0_first (wT yX0_first cX0_first 2 (some .int)) rmX0_first (va_Pc [.ref (gA g t0), .int x1] (XPre g σ)) (XQ g (some (.int o)) σ) 0 0 (cA g) :=
  X_met RX0 hi plX0 rfl (Nat.le_of_ble_eq_true rfl) rfl (fun _ _ _ h hg hL hr => w_X0_first σ t0 x1 ht0 o h hg hL hr hf)
abbrev rmX0_second : Room := { frames := 1, cells := 0, slots := 0, locals := 21 }
theorem hdX0_second : yX0_second.cls = RX0 ∧ yX0_second.cls ≠ "java/lang/invoke/MethodHandle" ∧ yX0_second.cls ≠ "java/lang/invoke/VarHandle" ∧ (parseMethodDescriptor yX0_second.desc).map (fun d => d.parameters.length) = some 1 := by decide +kernel
def m_X0_second (σ : St) (t0 : Nat) (x1 : Int32) : Int32 :=
  (rAt 60 (σ (t0 + 3)) x1)
set_option maxHeartbeats 4000000 in
set_option maxRecDepth 100000 in
theorem w_X0_second {C : XC} {Q : State → Prop} {g : cG} (σ : St) (t0 : Nat) (x1 : Int32) (ht0 : isF t0 = true) (o : Int32) (h : XOk C cX0_second RX0 tG rmX0_second) (hg : XG C g) (hL : C.2.2.2.2.2.2.2.2.2.2.2.2.1 = 2) (hr : XEnd C (some .int) Q (XQ g (some (.int o)) σ) (cA g)) (hf : m_X0_second σ t0 x1 = o) : Xs C (wW g) Q σ 0 [(0, .ref (gA g t0)), (1, .int x1)] [] := by
  unfold m_X0_second at hf
  refine x_aload_n h dX0_second_0 rfl 0 rfl (q := 1) rfl ?_
  refine x_get_X0_t_2 ht0 h hg kf_X0_18 nn_X0 dX0_second_1 ?_
  refine x_iload_n h dX0_second_4 rfl 1 rfl (q := 5) rfl ?_
  refine x_callSi (As := [.ref (gA g (t0 + 3)), .int x1]) (rest := []) h hg (c_X5_at C.2.1 hg.2.1 σ (a_F3 ht0) x1) ml_X0_34 biX5_at rfl rfl hdX5_at ⟨Nat.le_of_ble_eq_true rfl, Nat.le_of_ble_eq_true rfl⟩ rfl rfl (Nat.le_of_ble_eq_true rfl) dX0_second_5 ?_
  subst hf
  exact x_iret h hg hr dX0_second_8
theorem c_X0_second (l : Launch) {g : cG} (hi : gInj g) (σ : St) (t0 : Nat) (x1 : Int32) (ht0 : isF t0 = true) (o : Int32) (hf : m_X0_second σ t0 x1 = o) : Met l yX0_second (wT yX0_second cX0_second 2 (some .int)) rmX0_second (va_Pc [.ref (gA g t0), .int x1] (XPre g σ)) (XQ g (some (.int o)) σ) 0 0 (cA g) :=
  X_met RX0 hi plX0 rfl (Nat.le_of_ble_eq_true rfl) rfl (fun _ _ _ h hg hL hr => w_X0_second σ t0 x1 ht0 o h hg hL hr hf)
abbrev rmX0_topKind : Room := { frames := 2, cells := 0, slots := 0, locals := 42 }
theorem hdX0_topKind : yX0_topKind.cls = RX0 ∧ yX0_topKind.cls ≠ "java/lang/invoke/MethodHandle" ∧ yX0_topKind.cls ≠ "java/lang/invoke/VarHandle" ∧ (parseMethodDescriptor yX0_topKind.desc).map (fun d => d.parameters.length) = some 0 := by decide +kernel
def m_X0_topKind (σ : St) (t0 : Nat) : Int32 :=
  (m_X0_kind σ t0 ((σ t0 4) - 1))
set_option maxHeartbeats 4000000 in
set_option maxRecDepth 100000 in
theorem w_X0_topKind {C : XC} {Q : State → Prop} {g : cG} (σ : St) (t0 : Nat) (ht0 : isF t0 = true) (o : Int32) (h : XOk C cX0_topKind RX0 tG rmX0_topKind) (hg : XG C g) (hL : C.2.2.2.2.2.2.2.2.2.2.2.2.1 = 1) (hr : XEnd C (some .int) Q (XQ g (some (.int o)) σ) (cA g)) (hf : m_X0_topKind σ t0 = o) : Xs C (wW g) Q σ 0 [(0, .ref (gA g t0))] [] := by
  unfold m_X0_topKind at hf
  refine x_aload_n h dX0_topKind_0 rfl 0 rfl (q := 1) rfl ?_
  refine x_aload_n h dX0_topKind_1 rfl 0 rfl (q := 2) rfl ?_
  refine x_get_X0_t_4 ht0 h hg kf_X0_24 nn_X0 dX0_topKind_2 ?_
  refine x_iconst (v := 1) h dX0_topKind_5 (by decide) (q := 6) rfl ?_
  refine x_isub h dX0_topKind_6 (q := 7) rfl ?_
  refine x_callVi (As := [.int ((σ t0 4) - 1)]) (rest := []) h hg (c_X0_kind C.2.1 hg.2.1 σ t0 ((σ t0 4) - 1) ht0 _ rfl) ml_X0_38 biX0_kind rfl rfl hdX0_kind ⟨Nat.le_of_ble_eq_true rfl, Nat.le_of_ble_eq_true rfl⟩ (isF_lt ht0) (cE_F ht0 g _) rfl rfl rfl (Nat.le_of_ble_eq_true rfl) dX0_topKind_7 ?_
  subst hf
  exact x_iret h hg hr dX0_topKind_10
theorem c_X0_topKind (l : Launch) {g : cG} (hi : gInj g) (σ : St) (t0 : Nat) (ht0 : isF t0 = true) (o : Int32) (hf : m_X0_topKind σ t0 = o) : Met l yX0_topKind (wT yX0_topKind cX0_topKind 1 (some .int)) rmX0_topKind (va_Pc [.ref (gA g t0)] (XPre g σ)) (XQ g (some (.int o)) σ) 0 0 (cA g) :=
  X_met RX0 hi plX0 rfl (Nat.le_of_ble_eq_true rfl) rfl (fun _ _ _ h hg hL hr => w_X0_topKind σ t0 ht0 o h hg hL hr hf)
abbrev rmX0_topCoalition : Room := { frames := 2, cells := 0, slots := 0, locals := 42 }
theorem hdX0_topCoalition : yX0_topCoalition.cls = RX0 ∧ yX0_topCoalition.cls ≠ "java/lang/invoke/MethodHandle" ∧ yX0_topCoalition.cls ≠ "java/lang/invoke/VarHandle" ∧ (parseMethodDescriptor yX0_topCoalition.desc).map (fun d => d.parameters.length) = some 0 := by decide +kernel
def m_X0_topCoalition (σ : St) (t0 : Nat) : Int32 :=
  (m_X0_detail σ t0 ((σ t0 4) - 1))
set_option maxHeartbeats 4000000 in
set_option maxRecDepth 100000 in
theorem w_X0_topCoalition {C : XC} {Q : State → Prop} {g : cG} (σ : St) (t0 : Nat) (ht0 : isF t0 = true) (o : Int32) (h : XOk C cX0_topCoalition RX0 tG rmX0_topCoalition) (hg : XG C g) (hL : C.2.2.2.2.2.2.2.2.2.2.2.2.1 = 1) (hr : XEnd C (some .int) Q (XQ g (some (.int o)) σ) (cA g)) (hf : m_X0_topCoalition σ t0 = o) : Xs C (wW g) Q σ 0 [(0, .ref (gA g t0))] [] := by
  unfold m_X0_topCoalition at hf
  refine x_aload_n h dX0_topCoalition_0 rfl 0 rfl (q := 1) rfl ?_
  refine x_aload_n h dX0_topCoalition_1 rfl 0 rfl (q := 2) rfl ?_
  refine x_get_X0_t_4 ht0 h hg kf_X0_24 nn_X0 dX0_topCoalition_2 ?_
  refine x_iconst (v := 1) h dX0_topCoalition_5 (by decide) (q := 6) rfl ?_
  refine x_isub h dX0_topCoalition_6 (q := 7) rfl ?_
  refine x_callVi (As := [.int ((σ t0 4) - 1)]) (rest := []) h hg (c_X0_detail C.2.1 hg.2.1 σ t0 ((σ t0 4) - 1) ht0 _ rfl) ml_X0_42 biX0_detail rfl rfl hdX0_detail ⟨Nat.le_of_ble_eq_true rfl, Nat.le_of_ble_eq_true rfl⟩ (isF_lt ht0) (cE_F ht0 g _) rfl rfl rfl (Nat.le_of_ble_eq_true rfl) dX0_topCoalition_7 ?_
  subst hf
  exact x_iret h hg hr dX0_topCoalition_10
theorem c_X0_topCoalition (l : Launch) {g : cG} (hi : gInj g) (σ : St) (t0 : Nat) (ht0 : isF t0 = true) (o : Int32) (hf : m_X0_topCoalition σ t0 = o) : Met l yX0_topCoalition (wT yX0_topCoalition cX0_topCoalition 1 (some .int)) rmX0_topCoalition (va_Pc [.ref (gA g t0)] (XPre g σ)) (XQ g (some (.int o)) σ) 0 0 (cA g) :=
  X_met RX0 hi plX0 rfl (Nat.le_of_ble_eq_true rfl) rfl (fun _ _ _ h hg hL hr => w_X0_topCoalition σ t0 ht0 o h hg hL hr hf)
abbrev rmX0_hasStrategy : Room := { frames := 3, cells := 0, slots := 0, locals := 62 }
theorem hdX0_hasStrategy : yX0_hasStrategy.cls = RX0 ∧ yX0_hasStrategy.cls ≠ "java/lang/invoke/MethodHandle" ∧ yX0_hasStrategy.cls ≠ "java/lang/invoke/VarHandle" ∧ (parseMethodDescriptor yX0_hasStrategy.desc).map (fun d => d.parameters.length) = some 0 := by decide +kernel
def m_X0_hasStrategy (σ : St) (t0 : Nat) : Bool :=
  if (m_X0_topKind σ t0) < 6 then (
    false
  ) else (
    if 9 < (m_X0_topKind σ t0) then (
      false
    ) else (
      true
    )
  )
set_option maxHeartbeats 4000000 in
set_option maxRecDepth 100000 in
theorem w_X0_hasStrategy {C : XC} {Q : State → Prop} {g : cG} (σ : St) (t0 : Nat) (ht0 : isF t0 = true) (o : Bool) (h : XOk C cX0_hasStrategy RX0 tG rmX0_hasStrategy) (hg : XG C g) (hL : C.2.2.2.2.2.2.2.2.2.2.2.2.1 = 1) (hr : XEnd C (some .boolean) Q (XQ g (some (.int (bI o))) σ) (cA g)) (hf : m_X0_hasStrategy σ t0 = o) : Xs C (wW g) Q σ 0 [(0, .ref (gA g t0))] [] := by
  unfold m_X0_hasStrategy at hf
  refine x_aload_n h dX0_hasStrategy_0 rfl 0 rfl (q := 1) rfl ?_
  refine x_callVi (As := []) (rest := []) h hg (c_X0_topKind C.2.1 hg.2.1 σ t0 ht0 _ rfl) ml_X0_45 biX0_topKind rfl rfl hdX0_topKind ⟨Nat.le_of_ble_eq_true rfl, Nat.le_of_ble_eq_true rfl⟩ (isF_lt ht0) (cE_F ht0 g _) rfl rfl rfl (Nat.le_of_ble_eq_true rfl) dX0_hasStrategy_1 ?_
  refine x_bipush (v := 6) h dX0_hasStrategy_4 (by decide) (q := 6) rfl ?_
  refine x_icmp_lt (tgt := 22) h dX0_hasStrategy_6 (by decide) (q := 9) rfl hf (fun hc1 hf2 => ?_) (fun hc1 hf2 => ?_)
  · skip
    refine x_iconst (v := 0) h dX0_hasStrategy_22 (by decide) (q := 23) rfl ?_
    subst hf2
    exact x_zret (b := false) h hg hr dX0_hasStrategy_23
  · skip
    refine x_aload_n h dX0_hasStrategy_9 rfl 0 rfl (q := 10) rfl ?_
    refine x_callVi (As := []) (rest := []) h hg (c_X0_topKind C.2.1 hg.2.1 σ t0 ht0 _ rfl) ml_X0_45 biX0_topKind rfl rfl hdX0_topKind ⟨Nat.le_of_ble_eq_true rfl, Nat.le_of_ble_eq_true rfl⟩ (isF_lt ht0) (cE_F ht0 g _) rfl rfl rfl (Nat.le_of_ble_eq_true rfl) dX0_hasStrategy_10 ?_
    refine x_bipush (v := 9) h dX0_hasStrategy_13 (by decide) (q := 15) rfl ?_
    refine x_icmp_gt (tgt := 22) h dX0_hasStrategy_15 (by decide) (q := 18) rfl hf2 (fun hc3 hf4 => ?_) (fun hc3 hf4 => ?_)
    · skip
      refine x_iconst (v := 0) h dX0_hasStrategy_22 (by decide) (q := 23) rfl ?_
      subst hf4
      exact x_zret (b := false) h hg hr dX0_hasStrategy_23
    · skip
      refine x_iconst (v := 1) h dX0_hasStrategy_18 (by decide) (q := 19) rfl ?_
      refine x_goto (q := 23) h dX0_hasStrategy_19 (by decide) ?_
      subst hf4
      exact x_zret (b := true) h hg hr dX0_hasStrategy_23
theorem c_X0_hasStrategy (l : Launch) {g : cG} (hi : gInj g) (σ : St) (t0 : Nat) (ht0 : isF t0 = true) (o : Bool) (hf : m_X0_hasStrategy σ t0 = o) : Met l yX0_hasStrategy (wT yX0_hasStrategy cX0_hasStrategy 1 (some .boolean)) rmX0_hasStrategy (va_Pc [.ref (gA g t0)] (XPre g σ)) (XQ g (some (.int (bI o))) σ) 0 0 (cA g) :=
  X_met RX0 hi plX0 rfl (Nat.le_of_ble_eq_true rfl) rfl (fun _ _ _ h hg hL hr => w_X0_hasStrategy σ t0 ht0 o h hg hL hr hf)
abbrev rmX1_slotAt : Room := { frames := 0, cells := 0, slots := 0, locals := 0 }
theorem hdX1_slotAt : yX1_slotAt.cls = RX1 ∧ yX1_slotAt.cls ≠ "java/lang/invoke/MethodHandle" ∧ yX1_slotAt.cls ≠ "java/lang/invoke/VarHandle" ∧ (parseMethodDescriptor yX1_slotAt.desc).map (fun d => d.parameters.length) = some 1 := by decide +kernel
def m_X1_slotAt (σ : St) (x1 : Int32) : Option (Option Nat) :=
  if (((σ 67 1) + x1) - ((σ 67 1) + x1) / 4 * 4) < 0 then (
    some none
  ) else (
    if 4 ≤ (((σ 67 1) + x1) - ((σ 67 1) + x1) / 4 * 4) then (
      some none
    ) else (
      chk (((σ 67 1) + x1) - ((σ 67 1) + x1) / 4 * 4) 4 <|
      some (some (5 + 5 * (Int32.toNatClampNeg (((σ 67 1) + x1) - ((σ 67 1) + x1) / 4 * 4))))
    )
  )
set_option maxHeartbeats 4000000 in
set_option maxRecDepth 100000 in
theorem w_X1_slotAt {C : XC} {Q : State → Prop} {g : cG} (σ : St) (x1 : Int32) (o : Option Nat) (h : XOk C cX1_slotAt RX1 tG rmX1_slotAt) (hg : XG C g) (hL : C.2.2.2.2.2.2.2.2.2.2.2.2.1 = 3) (hr : XEnd C (some (.object "CoalitionChecker$Structure")) Q (XQ g (some (rfV g o)) σ) (cA g)) (hf : m_X1_slotAt σ x1 = some o) : Xs C (wW g) Q σ 0 [(0, .ref (gA g 67)), (1, .int x1)] [] := by
  unfold m_X1_slotAt at hf
  refine x_aload_n h dX1_slotAt_0 rfl 0 rfl (q := 1) rfl ?_
  refine x_get_X1_67_1 h hg kf_X1_17 nn_X1 dX1_slotAt_1 ?_
  refine x_iload_n h dX1_slotAt_4 rfl 1 rfl (q := 5) rfl ?_
  refine x_iadd h dX1_slotAt_5 (q := 6) rfl ?_
  refine x_iconst (v := 4) h dX1_slotAt_6 (by decide) (q := 7) rfl ?_
  refine x_irem h (by decide) dX1_slotAt_7 (q := 8) rfl ?_
  refine x_istore_n (lv' := [(2, .int (((σ 67 1) + x1) - ((σ 67 1) + x1) / 4 * 4)), (0, .ref (gA g 67)), (1, .int x1)]) h dX1_slotAt_8 rfl hL (by decide) rfl (q := 9) rfl ?_
  refine x_iload_n h dX1_slotAt_9 rfl 0 rfl (q := 10) rfl ?_
  refine x_if_lt (tgt := 31) h dX1_slotAt_10 (by decide) (q := 13) rfl hf (fun hc1 hf2 => ?_) (fun hc1 hf2 => ?_)
  · skip
    refine x_null (g := g) h dX1_slotAt_31 (q := 32) rfl ?_
    have hz := Option.some.inj hf2
    subst hz
    exact x_aret (o := none) h hg hr dX1_slotAt_32
  · skip
    refine x_iload_n h dX1_slotAt_13 rfl 0 rfl (q := 14) rfl ?_
    refine x_aload_n h dX1_slotAt_14 rfl 1 rfl (q := 15) rfl ?_
    refine x_get_X1_67_0 h hg kf_X1_11 nn_X1 dX1_slotAt_15 ?_
    refine x_alenS h hg dX1_slotAt_18 (q := 19) rfl ?_
    refine x_icmp_ge (tgt := 31) h dX1_slotAt_19 (by decide) (q := 22) rfl hf2 (fun hc3 hf4 => ?_) (fun hc3 hf4 => ?_)
    · skip
      refine x_null (g := g) h dX1_slotAt_31 (q := 32) rfl ?_
      have hz := Option.some.inj hf4
      subst hz
      exact x_aret (o := none) h hg hr dX1_slotAt_32
    · skip
      refine x_aload_n h dX1_slotAt_22 rfl 1 rfl (q := 23) rfl ?_
      refine x_get_X1_67_0 h hg kf_X1_11 nn_X1 dX1_slotAt_23 ?_
      refine x_iload_n h dX1_slotAt_26 rfl 0 rfl (q := 27) rfl ?_
      obtain ⟨hi5, hf6⟩ := chk_inv hf4
      refine x_ring h hg hi5 dX1_slotAt_27 (q := 28) rfl ?_
      refine x_goto (q := 32) h dX1_slotAt_28 (by decide) ?_
      have hz := Option.some.inj hf6
      subst hz
      exact x_aret (o := (some (5 + 5 * (Int32.toNatClampNeg (((σ 67 1) + x1) - ((σ 67 1) + x1) / 4 * 4))))) h hg hr dX1_slotAt_32
theorem c_X1_slotAt (l : Launch) {g : cG} (hi : gInj g) (σ : St) (x1 : Int32) (o : Option Nat) (hf : m_X1_slotAt σ x1 = some o) : Met l yX1_slotAt (wT yX1_slotAt cX1_slotAt 3 (some (.object "CoalitionChecker$Structure"))) rmX1_slotAt (va_Pc [.ref (gA g 67), .int x1] (XPre g σ)) (XQ g (some (rfV g o)) σ) 0 0 (cA g) :=
  X_met RX1 hi plX1 rfl (Nat.le_of_ble_eq_true rfl) rfl (fun _ _ _ h hg hL hr => w_X1_slotAt σ x1 o h hg hL hr hf)
abbrev rmX7_copyFrom : Room := { frames := 2, cells := 0, slots := 0, locals := 61 }
theorem hdX7_copyFrom : yX7_copyFrom.cls = RX7 ∧ yX7_copyFrom.cls ≠ "java/lang/invoke/MethodHandle" ∧ yX7_copyFrom.cls ≠ "java/lang/invoke/VarHandle" ∧ (parseMethodDescriptor yX7_copyFrom.desc).map (fun d => d.parameters.length) = some 1 := by decide +kernel
def m_X7_copyFrom (σ : St) (t0 : Nat) (t1 : Nat) : St :=
  (rCopy (rCopy (rCopy (rCopy (up σ t0 7 (σ t1 7)) (t1 + 1) 12 (t0 + 1) 12) (t1 + 2) 48 (t0 + 2) 48) (t1 + 3) 48 (t0 + 3) 48) (t1 + 4) 972 (t0 + 4) 972)
set_option maxHeartbeats 4000000 in
set_option maxRecDepth 100000 in
theorem w_X7_copyFrom {C : XC} {Q : State → Prop} {g : cG} (σ : St) (t0 : Nat) (t1 : Nat) (ht0 : isS t0 = true) (ht1 : isS t1 = true) (o : St) (h : XOk C cX7_copyFrom RX7 tG rmX7_copyFrom) (hg : XG C g) (hL : C.2.2.2.2.2.2.2.2.2.2.2.2.1 = 2) (hr : XEnd C none Q (XQ g (none) o) (cA g)) (hf : m_X7_copyFrom σ t0 t1 = o) : Xs C (wW g) Q σ 0 [(0, .ref (gA g t0)), (1, .ref (gA g t1))] [] := by
  unfold m_X7_copyFrom at hf
  refine x_aload_n h dX7_copyFrom_0 rfl 0 rfl (q := 1) rfl ?_
  refine x_aload_n h dX7_copyFrom_1 rfl 1 rfl (q := 2) rfl ?_
  refine x_get_X7_t_7 ht1 h hg kf_X7_24 nn_X7 dX7_copyFrom_2 ?_
  refine x_put_X7_t_7 ht0 h hg kf_X7_24 nn_X7 dX7_copyFrom_5 ?_
  refine x_aload_n h dX7_copyFrom_8 rfl 1 rfl (q := 9) rfl ?_
  refine x_get_X7_t_3 ht1 h hg kf_X7_9 nn_X7 dX7_copyFrom_9 ?_
  refine x_aload_n h dX7_copyFrom_12 rfl 0 rfl (q := 13) rfl ?_
  refine x_get_X7_t_3 ht0 h hg kf_X7_9 nn_X7 dX7_copyFrom_13 ?_
  refine x_callSv (As := [.ref (gA g (t1 + 1)), .ref (gA g (t0 + 1))]) (rest := []) h hg (c_X5_copy C.2.1 hg.2.1 (up σ t0 7 (σ t1 7)) (a_S1 ht1) (a_S1 ht0) ) ml_X7_37 biX5_copy rfl rfl hdX5_copy ⟨Nat.le_of_ble_eq_true rfl, Nat.le_of_ble_eq_true rfl⟩ rfl rfl (Nat.le_of_ble_eq_true rfl) dX7_copyFrom_16 ?_
  refine x_aload_n h dX7_copyFrom_19 rfl 1 rfl (q := 20) rfl ?_
  refine x_get_X7_t_4 ht1 h hg kf_X7_15 nn_X7 dX7_copyFrom_20 ?_
  refine x_aload_n h dX7_copyFrom_23 rfl 0 rfl (q := 24) rfl ?_
  refine x_get_X7_t_4 ht0 h hg kf_X7_15 nn_X7 dX7_copyFrom_24 ?_
  refine x_callSv (As := [.ref (gA g (t1 + 2)), .ref (gA g (t0 + 2))]) (rest := []) h hg (c_X5_copy C.2.1 hg.2.1 (rCopy (up σ t0 7 (σ t1 7)) (t1 + 1) 12 (t0 + 1) 12) (a_S2 ht1) (a_S2 ht0) ) ml_X7_37 biX5_copy rfl rfl hdX5_copy ⟨Nat.le_of_ble_eq_true rfl, Nat.le_of_ble_eq_true rfl⟩ rfl rfl (Nat.le_of_ble_eq_true rfl) dX7_copyFrom_27 ?_
  refine x_aload_n h dX7_copyFrom_30 rfl 1 rfl (q := 31) rfl ?_
  refine x_get_X7_t_5 ht1 h hg kf_X7_18 nn_X7 dX7_copyFrom_31 ?_
  refine x_aload_n h dX7_copyFrom_34 rfl 0 rfl (q := 35) rfl ?_
  refine x_get_X7_t_5 ht0 h hg kf_X7_18 nn_X7 dX7_copyFrom_35 ?_
  refine x_callSv (As := [.ref (gA g (t1 + 3)), .ref (gA g (t0 + 3))]) (rest := []) h hg (c_X5_copy C.2.1 hg.2.1 (rCopy (rCopy (up σ t0 7 (σ t1 7)) (t1 + 1) 12 (t0 + 1) 12) (t1 + 2) 48 (t0 + 2) 48) (a_S3 ht1) (a_S3 ht0) ) ml_X7_37 biX5_copy rfl rfl hdX5_copy ⟨Nat.le_of_ble_eq_true rfl, Nat.le_of_ble_eq_true rfl⟩ rfl rfl (Nat.le_of_ble_eq_true rfl) dX7_copyFrom_38 ?_
  refine x_aload_n h dX7_copyFrom_41 rfl 1 rfl (q := 42) rfl ?_
  refine x_get_X7_t_6 ht1 h hg kf_X7_21 nn_X7 dX7_copyFrom_42 ?_
  refine x_aload_n h dX7_copyFrom_45 rfl 0 rfl (q := 46) rfl ?_
  refine x_get_X7_t_6 ht0 h hg kf_X7_21 nn_X7 dX7_copyFrom_46 ?_
  refine x_callSv (As := [.ref (gA g (t1 + 4)), .ref (gA g (t0 + 4))]) (rest := []) h hg (c_X5_copy C.2.1 hg.2.1 (rCopy (rCopy (rCopy (up σ t0 7 (σ t1 7)) (t1 + 1) 12 (t0 + 1) 12) (t1 + 2) 48 (t0 + 2) 48) (t1 + 3) 48 (t0 + 3) 48) (a_S4 ht1) (a_S4 ht0) ) ml_X7_37 biX5_copy rfl rfl hdX5_copy ⟨Nat.le_of_ble_eq_true rfl, Nat.le_of_ble_eq_true rfl⟩ rfl rfl (Nat.le_of_ble_eq_true rfl) dX7_copyFrom_49 ?_
  subst hf
  exact x_vret h hg hr dX7_copyFrom_52
theorem c_X7_copyFrom (l : Launch) {g : cG} (hi : gInj g) (σ : St) (t0 : Nat) (t1 : Nat) (ht0 : isS t0 = true) (ht1 : isS t1 = true) (o : St) (hf : m_X7_copyFrom σ t0 t1 = o) : Met l yX7_copyFrom (wT yX7_copyFrom cX7_copyFrom 2 none) rmX7_copyFrom (va_Pc [.ref (gA g t0), .ref (gA g t1)] (XPre g σ)) (XQ g (none) o) 0 0 (cA g) :=
  X_met RX7 hi plX7 rfl (Nat.le_of_ble_eq_true rfl) rfl (fun _ _ _ h hg hL hr => w_X7_copyFrom σ t0 t1 ht0 ht1 o h hg hL hr hf)
abbrev rmX1_keep : Room := { frames := 3, cells := 0, slots := 0, locals := 82 }
theorem hdX1_keep : yX1_keep.cls = RX1 ∧ yX1_keep.cls ≠ "java/lang/invoke/MethodHandle" ∧ yX1_keep.cls ≠ "java/lang/invoke/VarHandle" ∧ (parseMethodDescriptor yX1_keep.desc).map (fun d => d.parameters.length) = some 1 := by decide +kernel
def m_X1_keep_b30 (σ : St) : Option (St) :=
  (m_X1_slotAt σ (σ 67 2)).bind fun u1 =>
  oS u1 (
    some σ
  ) (fun tt3 =>
    some (up (m_X7_copyFrom σ tt3 0) 67 2 (((m_X7_copyFrom σ tt3 0) 67 2) + 1))
  )
set_option maxHeartbeats 4000000 in
set_option maxRecDepth 100000 in
theorem w_X1_keep_b30 {C : XC} {Q : State → Prop} {g : cG} (σ : St) (o : St) (h : XOk C cX1_keep RX1 tG rmX1_keep) (hg : XG C g) (hL : C.2.2.2.2.2.2.2.2.2.2.2.2.1 = 3) (hr : XEnd C none Q (XQ g (none) o) (cA g)) (hf : m_X1_keep_b30 σ  = some o) : Xs C (wW g) Q σ 30 [(0, .ref (gA g 67)), (1, .ref (gA g 0))] [] := by
  unfold m_X1_keep_b30 at hf
  refine x_aload_n h dX1_keep_30 rfl 0 rfl (q := 31) rfl ?_
  refine x_aload_n h dX1_keep_31 rfl 0 rfl (q := 32) rfl ?_
  refine x_get_X1_67_2 h hg kf_X1_21 nn_X1 dX1_keep_32 ?_
  obtain ⟨u1, hu1, hf2⟩ := bnd_inv hf
  refine x_callVq (As := [.int (σ 67 2)]) (rest := []) h hg (c_X1_slotAt C.2.1 hg.2.1 σ (σ 67 2) _ hu1) ml_X1_27 biX1_slotAt rfl rfl hdX1_slotAt ⟨Nat.le_of_ble_eq_true rfl, Nat.le_of_ble_eq_true rfl⟩ (by decide) (cE_67 g _) rfl rfl rfl (Nat.le_of_ble_eq_true rfl) dX1_keep_35 ?_
  refine x_astore_nq (lv' := [(2, rfV g u1), (0, .ref (gA g 67)), (1, .ref (gA g 0))]) h dX1_keep_38 rfl hL (by decide) rfl (q := 39) rfl ?_
  refine x_aload_nq h dX1_keep_39 rfl 0 rfl (q := 40) rfl ?_
  rcases oS_inv hf2 with ⟨he, hf4⟩ | ⟨tt3, he, htt3, hf4⟩
  · subst he
    refine x_ifnullN (tgt := 58) h dX1_keep_40 (by decide) ?_
    have hz := Option.some.inj hf4
    subst hz
    exact x_vret h hg hr dX1_keep_58
  · subst he
    refine x_ifnull h dX1_keep_40 (q := 43) rfl ?_
    refine x_aload_n h dX1_keep_43 rfl 0 rfl (q := 44) rfl ?_
    refine x_aload_n h dX1_keep_44 rfl 2 rfl (q := 45) rfl ?_
    refine x_callVv (As := [.ref (gA g 0)]) (rest := []) h hg (c_X7_copyFrom C.2.1 hg.2.1 σ tt3 0 htt3 (rfl : isS 0 = true) _ rfl) ml_X1_31 biX7_copyFrom rfl rfl hdX7_copyFrom ⟨Nat.le_of_ble_eq_true rfl, Nat.le_of_ble_eq_true rfl⟩ (isS_lt htt3) (cE_S htt3 g _) rfl rfl rfl (Nat.le_of_ble_eq_true rfl) dX1_keep_45 ?_
    refine x_aload_n h dX1_keep_48 rfl 1 rfl (q := 49) rfl ?_
    refine x_dup h dX1_keep_49 rfl (q := 50) rfl ?_
    refine x_get_X1_67_2 h hg kf_X1_21 nn_X1 dX1_keep_50 ?_
    refine x_iconst (v := 1) h dX1_keep_53 (by decide) (q := 54) rfl ?_
    refine x_iadd h dX1_keep_54 (q := 55) rfl ?_
    refine x_put_X1_67_2 h hg kf_X1_21 nn_X1 dX1_keep_55 ?_
    have hz := Option.some.inj hf4
    subst hz
    exact x_vret h hg hr dX1_keep_58
def m_X1_keep (σ : St) : Option (St) :=
  if (σ 67 2) < 4 then (
    m_X1_keep_b30 σ
  ) else (
    m_X1_keep_b30 (up (up σ 67 1 (((σ 67 1) + 1) - ((σ 67 1) + 1) / 4 * 4)) 67 2 (((up σ 67 1 (((σ 67 1) + 1) - ((σ 67 1) + 1) / 4 * 4)) 67 2) - 1))
  )
set_option maxHeartbeats 4000000 in
set_option maxRecDepth 100000 in
theorem w_X1_keep {C : XC} {Q : State → Prop} {g : cG} (σ : St) (o : St) (h : XOk C cX1_keep RX1 tG rmX1_keep) (hg : XG C g) (hL : C.2.2.2.2.2.2.2.2.2.2.2.2.1 = 3) (hr : XEnd C none Q (XQ g (none) o) (cA g)) (hf : m_X1_keep σ = some o) : Xs C (wW g) Q σ 0 [(0, .ref (gA g 67)), (1, .ref (gA g 0))] [] := by
  unfold m_X1_keep at hf
  refine x_aload_n h dX1_keep_0 rfl 0 rfl (q := 1) rfl ?_
  refine x_get_X1_67_2 h hg kf_X1_21 nn_X1 dX1_keep_1 ?_
  refine x_iconst (v := 4) h dX1_keep_4 (by decide) (q := 5) rfl ?_
  refine x_icmp_lt (tgt := 30) h dX1_keep_5 (by decide) (q := 8) rfl hf (fun hc1 hf2 => ?_) (fun hc1 hf2 => ?_)
  · skip
    exact w_X1_keep_b30 σ o h hg hL hr hf2
  · skip
    refine x_aload_n h dX1_keep_8 rfl 0 rfl (q := 9) rfl ?_
    refine x_aload_n h dX1_keep_9 rfl 0 rfl (q := 10) rfl ?_
    refine x_get_X1_67_1 h hg kf_X1_17 nn_X1 dX1_keep_10 ?_
    refine x_iconst (v := 1) h dX1_keep_13 (by decide) (q := 14) rfl ?_
    refine x_iadd h dX1_keep_14 (q := 15) rfl ?_
    refine x_iconst (v := 4) h dX1_keep_15 (by decide) (q := 16) rfl ?_
    refine x_irem h (by decide) dX1_keep_16 (q := 17) rfl ?_
    refine x_put_X1_67_1 h hg kf_X1_17 nn_X1 dX1_keep_17 ?_
    refine x_aload_n h dX1_keep_20 rfl 0 rfl (q := 21) rfl ?_
    refine x_dup h dX1_keep_21 rfl (q := 22) rfl ?_
    refine x_get_X1_67_2 h hg kf_X1_21 nn_X1 dX1_keep_22 ?_
    refine x_iconst (v := 1) h dX1_keep_25 (by decide) (q := 26) rfl ?_
    refine x_isub h dX1_keep_26 (q := 27) rfl ?_
    refine x_put_X1_67_2 h hg kf_X1_21 nn_X1 dX1_keep_27 ?_
    exact w_X1_keep_b30 (up (up σ 67 1 (((σ 67 1) + 1) - ((σ 67 1) + 1) / 4 * 4)) 67 2 (((up σ 67 1 (((σ 67 1) + 1) - ((σ 67 1) + 1) / 4 * 4)) 67 2) - 1)) o h hg hL hr hf2
theorem c_X1_keep (l : Launch) {g : cG} (hi : gInj g) (σ : St) (o : St) (hf : m_X1_keep σ = some o) : Met l yX1_keep (wT yX1_keep cX1_keep 3 none) rmX1_keep (va_Pc [.ref (gA g 67), .ref (gA g 0)] (XPre g σ)) (XQ g (none) o) 0 0 (cA g) :=
  X_met RX1 hi plX1 rfl (Nat.le_of_ble_eq_true rfl) rfl (fun _ _ _ h hg hL hr => w_X1_keep σ o h hg hL hr hf)
abbrev rmX1_restore : Room := { frames := 3, cells := 0, slots := 0, locals := 82 }
theorem hdX1_restore : yX1_restore.cls = RX1 ∧ yX1_restore.cls ≠ "java/lang/invoke/MethodHandle" ∧ yX1_restore.cls ≠ "java/lang/invoke/VarHandle" ∧ (parseMethodDescriptor yX1_restore.desc).map (fun d => d.parameters.length) = some 1 := by decide +kernel
def m_X1_restore_b21 (σ : St) (p0 : Option Nat) : Option (Bool × St) :=
  oS p0 (
    some (false, σ)
  ) (fun tt1 =>
    some (true, (up (m_X7_copyFrom σ 0 tt1) 67 2 (((m_X7_copyFrom σ 0 tt1) 67 2) - 1)))
  )
set_option maxHeartbeats 4000000 in
set_option maxRecDepth 100000 in
theorem w_X1_restore_b21 {C : XC} {Q : State → Prop} {g : cG} (σ : St) (p0 : Option Nat) (o : Bool × St) (h : XOk C cX1_restore RX1 tG rmX1_restore) (hg : XG C g) (hL : C.2.2.2.2.2.2.2.2.2.2.2.2.1 = 3) (hr : XEnd C (some .boolean) Q (XQ g (some (.int (bI o.1))) o.2) (cA g)) (hf : m_X1_restore_b21 σ p0  = some o) : Xs C (wW g) Q σ 21 [(0, .ref (gA g 67)), (1, .ref (gA g 0))] [rfV g p0] := by
  unfold m_X1_restore_b21 at hf
  refine x_astore_nq (lv' := [(2, rfV g p0), (0, .ref (gA g 67)), (1, .ref (gA g 0))]) h dX1_restore_21 rfl hL (by decide) rfl (q := 22) rfl ?_
  refine x_aload_nq h dX1_restore_22 rfl 0 rfl (q := 23) rfl ?_
  rcases oS_inv hf with ⟨he, hf2⟩ | ⟨tt1, he, htt1, hf2⟩
  · subst he
    refine x_ifnonnullN h dX1_restore_23 (q := 26) rfl ?_
    refine x_iconst (v := 0) h dX1_restore_26 (by decide) (q := 27) rfl ?_
    have hz := Option.some.inj hf2
    subst hz
    exact x_zret (b := false) h hg hr dX1_restore_27
  · subst he
    refine x_ifnonnull (tgt := 28) h dX1_restore_23 (by decide) ?_
    refine x_aload_n h dX1_restore_28 rfl 2 rfl (q := 29) rfl ?_
    refine x_aload_n h dX1_restore_29 rfl 0 rfl (q := 30) rfl ?_
    refine x_callVv (As := [.ref (gA g tt1)]) (rest := []) h hg (c_X7_copyFrom C.2.1 hg.2.1 σ 0 tt1 (rfl : isS 0 = true) htt1 _ rfl) ml_X1_31 biX7_copyFrom rfl rfl hdX7_copyFrom ⟨Nat.le_of_ble_eq_true rfl, Nat.le_of_ble_eq_true rfl⟩ (by decide) (cE_0 g _) rfl rfl rfl (Nat.le_of_ble_eq_true rfl) dX1_restore_30 ?_
    refine x_aload_n h dX1_restore_33 rfl 1 rfl (q := 34) rfl ?_
    refine x_dup h dX1_restore_34 rfl (q := 35) rfl ?_
    refine x_get_X1_67_2 h hg kf_X1_21 nn_X1 dX1_restore_35 ?_
    refine x_iconst (v := 1) h dX1_restore_38 (by decide) (q := 39) rfl ?_
    refine x_isub h dX1_restore_39 (q := 40) rfl ?_
    refine x_put_X1_67_2 h hg kf_X1_21 nn_X1 dX1_restore_40 ?_
    refine x_iconst (v := 1) h dX1_restore_43 (by decide) (q := 44) rfl ?_
    have hz := Option.some.inj hf2
    subst hz
    exact x_zret (b := true) h hg hr dX1_restore_44
def m_X1_restore (σ : St) : Option (Bool × St) :=
  if (σ 67 2) ≤ 0 then (
    m_X1_restore_b21 σ none
  ) else (
    (m_X1_slotAt σ ((σ 67 2) - 1)).bind fun u3 =>
    m_X1_restore_b21 σ u3
  )
set_option maxHeartbeats 4000000 in
set_option maxRecDepth 100000 in
theorem w_X1_restore {C : XC} {Q : State → Prop} {g : cG} (σ : St) (o : Bool × St) (h : XOk C cX1_restore RX1 tG rmX1_restore) (hg : XG C g) (hL : C.2.2.2.2.2.2.2.2.2.2.2.2.1 = 3) (hr : XEnd C (some .boolean) Q (XQ g (some (.int (bI o.1))) o.2) (cA g)) (hf : m_X1_restore σ = some o) : Xs C (wW g) Q σ 0 [(0, .ref (gA g 67)), (1, .ref (gA g 0))] [] := by
  unfold m_X1_restore at hf
  refine x_aload_n h dX1_restore_0 rfl 0 rfl (q := 1) rfl ?_
  refine x_get_X1_67_2 h hg kf_X1_21 nn_X1 dX1_restore_1 ?_
  refine x_if_le (tgt := 20) h dX1_restore_4 (by decide) (q := 7) rfl hf (fun hc1 hf2 => ?_) (fun hc1 hf2 => ?_)
  · skip
    refine x_null (g := g) h dX1_restore_20 (q := 21) rfl ?_
    exact w_X1_restore_b21 σ none o h hg hL hr hf2
  · skip
    refine x_aload_n h dX1_restore_7 rfl 0 rfl (q := 8) rfl ?_
    refine x_aload_n h dX1_restore_8 rfl 0 rfl (q := 9) rfl ?_
    refine x_get_X1_67_2 h hg kf_X1_21 nn_X1 dX1_restore_9 ?_
    refine x_iconst (v := 1) h dX1_restore_12 (by decide) (q := 13) rfl ?_
    refine x_isub h dX1_restore_13 (q := 14) rfl ?_
    obtain ⟨u3, hu3, hf4⟩ := bnd_inv hf2
    refine x_callVq (As := [.int ((σ 67 2) - 1)]) (rest := []) h hg (c_X1_slotAt C.2.1 hg.2.1 σ ((σ 67 2) - 1) _ hu3) ml_X1_27 biX1_slotAt rfl rfl hdX1_slotAt ⟨Nat.le_of_ble_eq_true rfl, Nat.le_of_ble_eq_true rfl⟩ (by decide) (cE_67 g _) rfl rfl rfl (Nat.le_of_ble_eq_true rfl) dX1_restore_14 ?_
    refine x_goto (q := 21) h dX1_restore_17 (by decide) ?_
    exact w_X1_restore_b21 σ u3 o h hg hL hr hf4
theorem c_X1_restore (l : Launch) {g : cG} (hi : gInj g) (σ : St) (o : Bool × St) (hf : m_X1_restore σ = some o) : Met l yX1_restore (wT yX1_restore cX1_restore 3 (some .boolean)) rmX1_restore (va_Pc [.ref (gA g 67), .ref (gA g 0)] (XPre g σ)) (XQ g (some (.int (bI o.1))) o.2) 0 0 (cA g) :=
  X_met RX1 hi plX1 rfl (Nat.le_of_ble_eq_true rfl) rfl (fun _ _ _ h hg hL hr => w_X1_restore σ o h hg hL hr hf)
abbrev rmX7_labelSet : Room := { frames := 1, cells := 0, slots := 0, locals := 21 }
theorem hdX7_labelSet : yX7_labelSet.cls = RX7 ∧ yX7_labelSet.cls ≠ "java/lang/invoke/MethodHandle" ∧ yX7_labelSet.cls ≠ "java/lang/invoke/VarHandle" ∧ (parseMethodDescriptor yX7_labelSet.desc).map (fun d => d.parameters.length) = some 1 := by decide +kernel
def m_X7_labelSet (σ : St) (x1 : Int32) : Int32 :=
  (rAt 12 (σ 1) x1)
set_option maxHeartbeats 4000000 in
set_option maxRecDepth 100000 in
theorem w_X7_labelSet {C : XC} {Q : State → Prop} {g : cG} (σ : St) (x1 : Int32) (o : Int32) (h : XOk C cX7_labelSet RX7 tG rmX7_labelSet) (hg : XG C g) (hL : C.2.2.2.2.2.2.2.2.2.2.2.2.1 = 2) (hr : XEnd C (some .int) Q (XQ g (some (.int o)) σ) (cA g)) (hf : m_X7_labelSet σ x1 = o) : Xs C (wW g) Q σ 0 [(0, .ref (gA g 0)), (1, .int x1)] [] := by
  unfold m_X7_labelSet at hf
  refine x_aload_n h dX7_labelSet_0 rfl 0 rfl (q := 1) rfl ?_
  refine x_get_X7_0_3 h hg kf_X7_9 nn_X7 dX7_labelSet_1 ?_
  refine x_iload_n h dX7_labelSet_4 rfl 1 rfl (q := 5) rfl ?_
  refine x_callSi (As := [.ref (gA g 1), .int x1]) (rest := []) h hg (c_X5_at C.2.1 hg.2.1 σ a_1 x1) ml_X7_51 biX5_at rfl rfl hdX5_at ⟨Nat.le_of_ble_eq_true rfl, Nat.le_of_ble_eq_true rfl⟩ rfl rfl (Nat.le_of_ble_eq_true rfl) dX7_labelSet_5 ?_
  subst hf
  exact x_iret h hg hr dX7_labelSet_8
theorem c_X7_labelSet (l : Launch) {g : cG} (hi : gInj g) (σ : St) (x1 : Int32) (o : Int32) (hf : m_X7_labelSet σ x1 = o) : Met l yX7_labelSet (wT yX7_labelSet cX7_labelSet 2 (some .int)) rmX7_labelSet (va_Pc [.ref (gA g 0), .int x1] (XPre g σ)) (XQ g (some (.int o)) σ) 0 0 (cA g) :=
  X_met RX7 hi plX7 rfl (Nat.le_of_ble_eq_true rfl) rfl (fun _ _ _ h hg hL hr => w_X7_labelSet σ x1 o h hg hL hr hf)
abbrev rmX7_allStates : Room := { frames := 0, cells := 0, slots := 0, locals := 0 }
theorem hdX7_allStates : yX7_allStates.cls = RX7 ∧ yX7_allStates.cls ≠ "java/lang/invoke/MethodHandle" ∧ yX7_allStates.cls ≠ "java/lang/invoke/VarHandle" ∧ (parseMethodDescriptor yX7_allStates.desc).map (fun d => d.parameters.length) = some 0 := by decide +kernel
def m_X7_allStates (σ : St) : Int32 :=
  (((1 : Int32) <<< ((σ 0 7) &&& 31)) - 1)
set_option maxHeartbeats 4000000 in
set_option maxRecDepth 100000 in
theorem w_X7_allStates {C : XC} {Q : State → Prop} {g : cG} (σ : St) (o : Int32) (h : XOk C cX7_allStates RX7 tG rmX7_allStates) (hg : XG C g) (hL : C.2.2.2.2.2.2.2.2.2.2.2.2.1 = 1) (hr : XEnd C (some .int) Q (XQ g (some (.int o)) σ) (cA g)) (hf : m_X7_allStates σ = o) : Xs C (wW g) Q σ 0 [(0, .ref (gA g 0))] [] := by
  unfold m_X7_allStates at hf
  refine x_iconst (v := 1) h dX7_allStates_0 (by decide) (q := 1) rfl ?_
  refine x_aload_n h dX7_allStates_1 rfl 0 rfl (q := 2) rfl ?_
  refine x_get_X7_0_7 h hg kf_X7_24 nn_X7 dX7_allStates_2 ?_
  refine x_ishl h dX7_allStates_5 (q := 6) rfl ?_
  refine x_iconst (v := 1) h dX7_allStates_6 (by decide) (q := 7) rfl ?_
  refine x_isub h dX7_allStates_7 (q := 8) rfl ?_
  subst hf
  exact x_iret h hg hr dX7_allStates_8
theorem c_X7_allStates (l : Launch) {g : cG} (hi : gInj g) (σ : St) (o : Int32) (hf : m_X7_allStates σ = o) : Met l yX7_allStates (wT yX7_allStates cX7_allStates 1 (some .int)) rmX7_allStates (va_Pc [.ref (gA g 0)] (XPre g σ)) (XQ g (some (.int o)) σ) 0 0 (cA g) :=
  X_met RX7 hi plX7 rfl (Nat.le_of_ble_eq_true rfl) rfl (fun _ _ _ h hg hL hr => w_X7_allStates σ o h hg hL hr hf)
abbrev rmX7_hasState : Room := { frames := 0, cells := 0, slots := 0, locals := 0 }
theorem hdX7_hasState : yX7_hasState.cls = RX7 ∧ yX7_hasState.cls ≠ "java/lang/invoke/MethodHandle" ∧ yX7_hasState.cls ≠ "java/lang/invoke/VarHandle" ∧ (parseMethodDescriptor yX7_hasState.desc).map (fun d => d.parameters.length) = some 1 := by decide +kernel
def m_X7_hasState (σ : St) (x1 : Int32) : Bool :=
  if x1 < 0 then (
    false
  ) else (
    if (σ 0 7) ≤ x1 then (
      false
    ) else (
      true
    )
  )
set_option maxHeartbeats 4000000 in
set_option maxRecDepth 100000 in
theorem w_X7_hasState {C : XC} {Q : State → Prop} {g : cG} (σ : St) (x1 : Int32) (o : Bool) (h : XOk C cX7_hasState RX7 tG rmX7_hasState) (hg : XG C g) (hL : C.2.2.2.2.2.2.2.2.2.2.2.2.1 = 2) (hr : XEnd C (some .boolean) Q (XQ g (some (.int (bI o))) σ) (cA g)) (hf : m_X7_hasState σ x1 = o) : Xs C (wW g) Q σ 0 [(0, .ref (gA g 0)), (1, .int x1)] [] := by
  unfold m_X7_hasState at hf
  refine x_iload_n h dX7_hasState_0 rfl 1 rfl (q := 1) rfl ?_
  refine x_if_lt (tgt := 16) h dX7_hasState_1 (by decide) (q := 4) rfl hf (fun hc1 hf2 => ?_) (fun hc1 hf2 => ?_)
  · skip
    refine x_iconst (v := 0) h dX7_hasState_16 (by decide) (q := 17) rfl ?_
    subst hf2
    exact x_zret (b := false) h hg hr dX7_hasState_17
  · skip
    refine x_iload_n h dX7_hasState_4 rfl 1 rfl (q := 5) rfl ?_
    refine x_aload_n h dX7_hasState_5 rfl 0 rfl (q := 6) rfl ?_
    refine x_get_X7_0_7 h hg kf_X7_24 nn_X7 dX7_hasState_6 ?_
    refine x_icmp_ge (tgt := 16) h dX7_hasState_9 (by decide) (q := 12) rfl hf2 (fun hc3 hf4 => ?_) (fun hc3 hf4 => ?_)
    · skip
      refine x_iconst (v := 0) h dX7_hasState_16 (by decide) (q := 17) rfl ?_
      subst hf4
      exact x_zret (b := false) h hg hr dX7_hasState_17
    · skip
      refine x_iconst (v := 1) h dX7_hasState_12 (by decide) (q := 13) rfl ?_
      refine x_goto (q := 17) h dX7_hasState_13 (by decide) ?_
      subst hf4
      exact x_zret (b := true) h hg hr dX7_hasState_17
theorem c_X7_hasState (l : Launch) {g : cG} (hi : gInj g) (σ : St) (x1 : Int32) (o : Bool) (hf : m_X7_hasState σ x1 = o) : Met l yX7_hasState (wT yX7_hasState cX7_hasState 2 (some .boolean)) rmX7_hasState (va_Pc [.ref (gA g 0), .int x1] (XPre g σ)) (XQ g (some (.int (bI o))) σ) 0 0 (cA g) :=
  X_met RX7 hi plX7 rfl (Nat.le_of_ble_eq_true rfl) rfl (fun _ _ _ h hg hL hr => w_X7_hasState σ x1 o h hg hL hr hf)
abbrev rmX7_target : Room := { frames := 1, cells := 0, slots := 0, locals := 21 }
theorem hdX7_target : yX7_target.cls = RX7 ∧ yX7_target.cls ≠ "java/lang/invoke/MethodHandle" ∧ yX7_target.cls ≠ "java/lang/invoke/VarHandle" ∧ (parseMethodDescriptor yX7_target.desc).map (fun d => d.parameters.length) = some 2 := by decide +kernel
def m_X7_target (σ : St) (x1 : Int32) (x2 : Int32) : Int32 :=
  if (bI (m_X7_hasState σ x1)) = 0 then (
    (-1)
  ) else (
    if x2 < 0 then (
      (-1)
    ) else (
      if x2 < (σ 0 2) then (
        (rAt 972 (σ 4) ((x1 * 81) + x2))
      ) else (
        (-1)
      )
    )
  )
set_option maxHeartbeats 4000000 in
set_option maxRecDepth 100000 in
theorem w_X7_target {C : XC} {Q : State → Prop} {g : cG} (σ : St) (x1 : Int32) (x2 : Int32) (o : Int32) (h : XOk C cX7_target RX7 tG rmX7_target) (hg : XG C g) (hL : C.2.2.2.2.2.2.2.2.2.2.2.2.1 = 3) (hr : XEnd C (some .int) Q (XQ g (some (.int o)) σ) (cA g)) (hf : m_X7_target σ x1 x2 = o) : Xs C (wW g) Q σ 0 [(0, .ref (gA g 0)), (1, .int x1), (2, .int x2)] [] := by
  unfold m_X7_target at hf
  refine x_aload_n h dX7_target_0 rfl 0 rfl (q := 1) rfl ?_
  refine x_iload_n h dX7_target_1 rfl 1 rfl (q := 2) rfl ?_
  refine x_callVi (As := [.int x1]) (rest := []) h hg (c_X7_hasState C.2.1 hg.2.1 σ x1 _ rfl) ml_X7_43 biX7_hasState rfl rfl hdX7_hasState ⟨Nat.le_of_ble_eq_true rfl, Nat.le_of_ble_eq_true rfl⟩ (by decide) (cE_0 g _) rfl rfl rfl (Nat.le_of_ble_eq_true rfl) dX7_target_2 ?_
  refine x_if_eq (tgt := 20) h dX7_target_5 (by decide) (q := 8) rfl hf (fun hc1 hf2 => ?_) (fun hc1 hf2 => ?_)
  · skip
    refine x_iconst (v := (-1)) h dX7_target_20 (by decide) (q := 21) rfl ?_
    subst hf2
    exact x_iret h hg hr dX7_target_21
  · skip
    refine x_iload_n h dX7_target_8 rfl 2 rfl (q := 9) rfl ?_
    refine x_if_lt (tgt := 20) h dX7_target_9 (by decide) (q := 12) rfl hf2 (fun hc3 hf4 => ?_) (fun hc3 hf4 => ?_)
    · skip
      refine x_iconst (v := (-1)) h dX7_target_20 (by decide) (q := 21) rfl ?_
      subst hf4
      exact x_iret h hg hr dX7_target_21
    · skip
      refine x_iload_n h dX7_target_12 rfl 2 rfl (q := 13) rfl ?_
      refine x_aload_n h dX7_target_13 rfl 0 rfl (q := 14) rfl ?_
      refine x_get_X7_0_2 h hg kf_X7_34 nn_X7 dX7_target_14 ?_
      refine x_icmp_lt (tgt := 22) h dX7_target_17 (by decide) (q := 20) rfl hf4 (fun hc5 hf6 => ?_) (fun hc5 hf6 => ?_)
      · skip
        refine x_aload_n h dX7_target_22 rfl 0 rfl (q := 23) rfl ?_
        refine x_get_X7_0_6 h hg kf_X7_21 nn_X7 dX7_target_23 ?_
        refine x_iload_n h dX7_target_26 rfl 1 rfl (q := 27) rfl ?_
        refine x_bipush (v := 81) h dX7_target_27 (by decide) (q := 29) rfl ?_
        refine x_imul h dX7_target_29 (q := 30) rfl ?_
        refine x_iload_n h dX7_target_30 rfl 2 rfl (q := 31) rfl ?_
        refine x_iadd h dX7_target_31 (q := 32) rfl ?_
        refine x_callSi (As := [.ref (gA g 4), .int ((x1 * 81) + x2)]) (rest := []) h hg (c_X5_at C.2.1 hg.2.1 σ a_4 ((x1 * 81) + x2)) ml_X7_51 biX5_at rfl rfl hdX5_at ⟨Nat.le_of_ble_eq_true rfl, Nat.le_of_ble_eq_true rfl⟩ rfl rfl (Nat.le_of_ble_eq_true rfl) dX7_target_32 ?_
        subst hf6
        exact x_iret h hg hr dX7_target_35
      · skip
        refine x_iconst (v := (-1)) h dX7_target_20 (by decide) (q := 21) rfl ?_
        subst hf6
        exact x_iret h hg hr dX7_target_21
theorem c_X7_target (l : Launch) {g : cG} (hi : gInj g) (σ : St) (x1 : Int32) (x2 : Int32) (o : Int32) (hf : m_X7_target σ x1 x2 = o) : Met l yX7_target (wT yX7_target cX7_target 3 (some .int)) rmX7_target (va_Pc [.ref (gA g 0), .int x1, .int x2] (XPre g σ)) (XQ g (some (.int o)) σ) 0 0 (cA g) :=
  X_met RX7 hi plX7 rfl (Nat.le_of_ble_eq_true rfl) rfl (fun _ _ _ h hg hL hr => w_X7_target σ x1 x2 o h hg hL hr hf)
abbrev rmX7_hasPlace : Room := { frames := 1, cells := 0, slots := 0, locals := 21 }
theorem hdX7_hasPlace : yX7_hasPlace.cls = RX7 ∧ yX7_hasPlace.cls ≠ "java/lang/invoke/MethodHandle" ∧ yX7_hasPlace.cls ≠ "java/lang/invoke/VarHandle" ∧ (parseMethodDescriptor yX7_hasPlace.desc).map (fun d => d.parameters.length) = some 2 := by decide +kernel
def m_X7_hasPlace (σ : St) (x1 : Int32) (x2 : Int32) : Bool :=
  if (bI (m_X7_hasState σ x1)) = 0 then (
    false
  ) else (
    if x2 < 0 then (
      false
    ) else (
      if (σ 0 0) ≤ x2 then (
        false
      ) else (
        true
      )
    )
  )
set_option maxHeartbeats 4000000 in
set_option maxRecDepth 100000 in
theorem w_X7_hasPlace {C : XC} {Q : State → Prop} {g : cG} (σ : St) (x1 : Int32) (x2 : Int32) (o : Bool) (h : XOk C cX7_hasPlace RX7 tG rmX7_hasPlace) (hg : XG C g) (hL : C.2.2.2.2.2.2.2.2.2.2.2.2.1 = 3) (hr : XEnd C (some .boolean) Q (XQ g (some (.int (bI o))) σ) (cA g)) (hf : m_X7_hasPlace σ x1 x2 = o) : Xs C (wW g) Q σ 0 [(0, .ref (gA g 0)), (1, .int x1), (2, .int x2)] [] := by
  unfold m_X7_hasPlace at hf
  refine x_aload_n h dX7_hasPlace_0 rfl 0 rfl (q := 1) rfl ?_
  refine x_iload_n h dX7_hasPlace_1 rfl 1 rfl (q := 2) rfl ?_
  refine x_callVi (As := [.int x1]) (rest := []) h hg (c_X7_hasState C.2.1 hg.2.1 σ x1 _ rfl) ml_X7_43 biX7_hasState rfl rfl hdX7_hasState ⟨Nat.le_of_ble_eq_true rfl, Nat.le_of_ble_eq_true rfl⟩ (by decide) (cE_0 g _) rfl rfl rfl (Nat.le_of_ble_eq_true rfl) dX7_hasPlace_2 ?_
  refine x_if_eq (tgt := 24) h dX7_hasPlace_5 (by decide) (q := 8) rfl hf (fun hc1 hf2 => ?_) (fun hc1 hf2 => ?_)
  · skip
    refine x_iconst (v := 0) h dX7_hasPlace_24 (by decide) (q := 25) rfl ?_
    subst hf2
    exact x_zret (b := false) h hg hr dX7_hasPlace_25
  · skip
    refine x_iload_n h dX7_hasPlace_8 rfl 2 rfl (q := 9) rfl ?_
    refine x_if_lt (tgt := 24) h dX7_hasPlace_9 (by decide) (q := 12) rfl hf2 (fun hc3 hf4 => ?_) (fun hc3 hf4 => ?_)
    · skip
      refine x_iconst (v := 0) h dX7_hasPlace_24 (by decide) (q := 25) rfl ?_
      subst hf4
      exact x_zret (b := false) h hg hr dX7_hasPlace_25
    · skip
      refine x_iload_n h dX7_hasPlace_12 rfl 2 rfl (q := 13) rfl ?_
      refine x_aload_n h dX7_hasPlace_13 rfl 0 rfl (q := 14) rfl ?_
      refine x_get_X7_0_0 h hg kf_X7_28 nn_X7 dX7_hasPlace_14 ?_
      refine x_icmp_ge (tgt := 24) h dX7_hasPlace_17 (by decide) (q := 20) rfl hf4 (fun hc5 hf6 => ?_) (fun hc5 hf6 => ?_)
      · skip
        refine x_iconst (v := 0) h dX7_hasPlace_24 (by decide) (q := 25) rfl ?_
        subst hf6
        exact x_zret (b := false) h hg hr dX7_hasPlace_25
      · skip
        refine x_iconst (v := 1) h dX7_hasPlace_20 (by decide) (q := 21) rfl ?_
        refine x_goto (q := 25) h dX7_hasPlace_21 (by decide) ?_
        subst hf6
        exact x_zret (b := true) h hg hr dX7_hasPlace_25
theorem c_X7_hasPlace (l : Launch) {g : cG} (hi : gInj g) (σ : St) (x1 : Int32) (x2 : Int32) (o : Bool) (hf : m_X7_hasPlace σ x1 x2 = o) : Met l yX7_hasPlace (wT yX7_hasPlace cX7_hasPlace 3 (some .boolean)) rmX7_hasPlace (va_Pc [.ref (gA g 0), .int x1, .int x2] (XPre g σ)) (XQ g (some (.int (bI o))) σ) 0 0 (cA g) :=
  X_met RX7 hi plX7 rfl (Nat.le_of_ble_eq_true rfl) rfl (fun _ _ _ h hg hL hr => w_X7_hasPlace σ x1 x2 o h hg hL hr hf)
abbrev rmX7_hasCoalition : Room := { frames := 0, cells := 0, slots := 0, locals := 0 }
theorem hdX7_hasCoalition : yX7_hasCoalition.cls = RX7 ∧ yX7_hasCoalition.cls ≠ "java/lang/invoke/MethodHandle" ∧ yX7_hasCoalition.cls ≠ "java/lang/invoke/VarHandle" ∧ (parseMethodDescriptor yX7_hasCoalition.desc).map (fun d => d.parameters.length) = some 1 := by decide +kernel
def m_X7_hasCoalition (σ : St) (x1 : Int32) : Bool :=
  if x1 < 0 then (
    false
  ) else (
    if (σ 0 1) ≤ x1 then (
      false
    ) else (
      true
    )
  )
set_option maxHeartbeats 4000000 in
set_option maxRecDepth 100000 in
theorem w_X7_hasCoalition {C : XC} {Q : State → Prop} {g : cG} (σ : St) (x1 : Int32) (o : Bool) (h : XOk C cX7_hasCoalition RX7 tG rmX7_hasCoalition) (hg : XG C g) (hL : C.2.2.2.2.2.2.2.2.2.2.2.2.1 = 2) (hr : XEnd C (some .boolean) Q (XQ g (some (.int (bI o))) σ) (cA g)) (hf : m_X7_hasCoalition σ x1 = o) : Xs C (wW g) Q σ 0 [(0, .ref (gA g 0)), (1, .int x1)] [] := by
  unfold m_X7_hasCoalition at hf
  refine x_iload_n h dX7_hasCoalition_0 rfl 1 rfl (q := 1) rfl ?_
  refine x_if_lt (tgt := 16) h dX7_hasCoalition_1 (by decide) (q := 4) rfl hf (fun hc1 hf2 => ?_) (fun hc1 hf2 => ?_)
  · skip
    refine x_iconst (v := 0) h dX7_hasCoalition_16 (by decide) (q := 17) rfl ?_
    subst hf2
    exact x_zret (b := false) h hg hr dX7_hasCoalition_17
  · skip
    refine x_iload_n h dX7_hasCoalition_4 rfl 1 rfl (q := 5) rfl ?_
    refine x_aload_n h dX7_hasCoalition_5 rfl 0 rfl (q := 6) rfl ?_
    refine x_get_X7_0_1 h hg kf_X7_31 nn_X7 dX7_hasCoalition_6 ?_
    refine x_icmp_ge (tgt := 16) h dX7_hasCoalition_9 (by decide) (q := 12) rfl hf2 (fun hc3 hf4 => ?_) (fun hc3 hf4 => ?_)
    · skip
      refine x_iconst (v := 0) h dX7_hasCoalition_16 (by decide) (q := 17) rfl ?_
      subst hf4
      exact x_zret (b := false) h hg hr dX7_hasCoalition_17
    · skip
      refine x_iconst (v := 1) h dX7_hasCoalition_12 (by decide) (q := 13) rfl ?_
      refine x_goto (q := 17) h dX7_hasCoalition_13 (by decide) ?_
      subst hf4
      exact x_zret (b := true) h hg hr dX7_hasCoalition_17
theorem c_X7_hasCoalition (l : Launch) {g : cG} (hi : gInj g) (σ : St) (x1 : Int32) (o : Bool) (hf : m_X7_hasCoalition σ x1 = o) : Met l yX7_hasCoalition (wT yX7_hasCoalition cX7_hasCoalition 2 (some .boolean)) rmX7_hasCoalition (va_Pc [.ref (gA g 0), .int x1] (XPre g σ)) (XQ g (some (.int (bI o))) σ) 0 0 (cA g) :=
  X_met RX7 hi plX7 rfl (Nat.le_of_ble_eq_true rfl) rfl (fun _ _ _ h hg hL hr => w_X7_hasCoalition σ x1 o h hg hL hr hf)
abbrev rmX7_hasSet : Room := { frames := 1, cells := 0, slots := 0, locals := 20 }
theorem hdX7_hasSet : yX7_hasSet.cls = RX7 ∧ yX7_hasSet.cls ≠ "java/lang/invoke/MethodHandle" ∧ yX7_hasSet.cls ≠ "java/lang/invoke/VarHandle" ∧ (parseMethodDescriptor yX7_hasSet.desc).map (fun d => d.parameters.length) = some 1 := by decide +kernel
def m_X7_hasSet (σ : St) (x1 : Int32) : Bool :=
  if (x1 &&& ((m_X7_allStates σ) ^^^ (-1))) = 0 then (
    true
  ) else (
    false
  )
set_option maxHeartbeats 4000000 in
set_option maxRecDepth 100000 in
theorem w_X7_hasSet {C : XC} {Q : State → Prop} {g : cG} (σ : St) (x1 : Int32) (o : Bool) (h : XOk C cX7_hasSet RX7 tG rmX7_hasSet) (hg : XG C g) (hL : C.2.2.2.2.2.2.2.2.2.2.2.2.1 = 2) (hr : XEnd C (some .boolean) Q (XQ g (some (.int (bI o))) σ) (cA g)) (hf : m_X7_hasSet σ x1 = o) : Xs C (wW g) Q σ 0 [(0, .ref (gA g 0)), (1, .int x1)] [] := by
  unfold m_X7_hasSet at hf
  refine x_iload_n h dX7_hasSet_0 rfl 1 rfl (q := 1) rfl ?_
  refine x_aload_n h dX7_hasSet_1 rfl 0 rfl (q := 2) rfl ?_
  refine x_callVi (As := []) (rest := [.int x1]) h hg (c_X7_allStates C.2.1 hg.2.1 σ _ rfl) ml_X7_47 biX7_allStates rfl rfl hdX7_allStates ⟨Nat.le_of_ble_eq_true rfl, Nat.le_of_ble_eq_true rfl⟩ (by decide) (cE_0 g _) rfl rfl rfl (Nat.le_of_ble_eq_true rfl) dX7_hasSet_2 ?_
  refine x_iconst (v := (-1)) h dX7_hasSet_5 (by decide) (q := 6) rfl ?_
  refine x_ixor h dX7_hasSet_6 (q := 7) rfl ?_
  refine x_iand h dX7_hasSet_7 (q := 8) rfl ?_
  refine x_if_ne (tgt := 15) h dX7_hasSet_8 (by decide) (q := 11) rfl hf (fun hc1 hf2 => ?_) (fun hc1 hf2 => ?_)
  · skip
    refine x_iconst (v := 0) h dX7_hasSet_15 (by decide) (q := 16) rfl ?_
    subst hf2
    exact x_zret (b := false) h hg hr dX7_hasSet_16
  · skip
    refine x_iconst (v := 1) h dX7_hasSet_11 (by decide) (q := 12) rfl ?_
    refine x_goto (q := 16) h dX7_hasSet_12 (by decide) ?_
    subst hf2
    exact x_zret (b := true) h hg hr dX7_hasSet_16
theorem c_X7_hasSet (l : Launch) {g : cG} (hi : gInj g) (σ : St) (x1 : Int32) (o : Bool) (hf : m_X7_hasSet σ x1 = o) : Met l yX7_hasSet (wT yX7_hasSet cX7_hasSet 2 (some .boolean)) rmX7_hasSet (va_Pc [.ref (gA g 0), .int x1] (XPre g σ)) (XQ g (some (.int (bI o))) σ) 0 0 (cA g) :=
  X_met RX7 hi plX7 rfl (Nat.le_of_ble_eq_true rfl) rfl (fun _ _ _ h hg hL hr => w_X7_hasSet σ x1 o h hg hL hr hf)
abbrev rmX7_setLabelSet : Room := { frames := 1, cells := 0, slots := 0, locals := 22 }
theorem hdX7_setLabelSet : yX7_setLabelSet.cls = RX7 ∧ yX7_setLabelSet.cls ≠ "java/lang/invoke/MethodHandle" ∧ yX7_setLabelSet.cls ≠ "java/lang/invoke/VarHandle" ∧ (parseMethodDescriptor yX7_setLabelSet.desc).map (fun d => d.parameters.length) = some 2 := by decide +kernel
def m_X7_setLabelSet (σ : St) (x1 : Int32) (x2 : Int32) : St :=
  (rPut σ 1 12 x1 x2)
set_option maxHeartbeats 4000000 in
set_option maxRecDepth 100000 in
theorem w_X7_setLabelSet {C : XC} {Q : State → Prop} {g : cG} (σ : St) (x1 : Int32) (x2 : Int32) (o : St) (h : XOk C cX7_setLabelSet RX7 tG rmX7_setLabelSet) (hg : XG C g) (hL : C.2.2.2.2.2.2.2.2.2.2.2.2.1 = 3) (hr : XEnd C none Q (XQ g (none) o) (cA g)) (hf : m_X7_setLabelSet σ x1 x2 = o) : Xs C (wW g) Q σ 0 [(0, .ref (gA g 0)), (1, .int x1), (2, .int x2)] [] := by
  unfold m_X7_setLabelSet at hf
  refine x_aload_n h dX7_setLabelSet_0 rfl 0 rfl (q := 1) rfl ?_
  refine x_get_X7_0_3 h hg kf_X7_9 nn_X7 dX7_setLabelSet_1 ?_
  refine x_iload_n h dX7_setLabelSet_4 rfl 1 rfl (q := 5) rfl ?_
  refine x_iload_n h dX7_setLabelSet_5 rfl 2 rfl (q := 6) rfl ?_
  refine x_callSv (As := [.ref (gA g 1), .int x1, .int x2]) (rest := []) h hg (c_X5_put C.2.1 hg.2.1 σ a_1 x1 x2) ml_X7_55 biX5_put rfl rfl hdX5_put ⟨Nat.le_of_ble_eq_true rfl, Nat.le_of_ble_eq_true rfl⟩ rfl rfl (Nat.le_of_ble_eq_true rfl) dX7_setLabelSet_6 ?_
  subst hf
  exact x_vret h hg hr dX7_setLabelSet_9
theorem c_X7_setLabelSet (l : Launch) {g : cG} (hi : gInj g) (σ : St) (x1 : Int32) (x2 : Int32) (o : St) (hf : m_X7_setLabelSet σ x1 x2 = o) : Met l yX7_setLabelSet (wT yX7_setLabelSet cX7_setLabelSet 3 none) rmX7_setLabelSet (va_Pc [.ref (gA g 0), .int x1, .int x2] (XPre g σ)) (XQ g (none) o) 0 0 (cA g) :=
  X_met RX7 hi plX7 rfl (Nat.le_of_ble_eq_true rfl) rfl (fun _ _ _ h hg hL hr => w_X7_setLabelSet σ x1 x2 o h hg hL hr hf)
abbrev rmX7_actionCount : Room := { frames := 1, cells := 0, slots := 0, locals := 21 }
theorem hdX7_actionCount : yX7_actionCount.cls = RX7 ∧ yX7_actionCount.cls ≠ "java/lang/invoke/MethodHandle" ∧ yX7_actionCount.cls ≠ "java/lang/invoke/VarHandle" ∧ (parseMethodDescriptor yX7_actionCount.desc).map (fun d => d.parameters.length) = some 2 := by decide +kernel
def m_X7_actionCount (σ : St) (x1 : Int32) (x2 : Int32) : Int32 :=
  (rAt 48 (σ 2) ((x1 * 4) + x2))
set_option maxHeartbeats 4000000 in
set_option maxRecDepth 100000 in
theorem w_X7_actionCount {C : XC} {Q : State → Prop} {g : cG} (σ : St) (x1 : Int32) (x2 : Int32) (o : Int32) (h : XOk C cX7_actionCount RX7 tG rmX7_actionCount) (hg : XG C g) (hL : C.2.2.2.2.2.2.2.2.2.2.2.2.1 = 3) (hr : XEnd C (some .int) Q (XQ g (some (.int o)) σ) (cA g)) (hf : m_X7_actionCount σ x1 x2 = o) : Xs C (wW g) Q σ 0 [(0, .ref (gA g 0)), (1, .int x1), (2, .int x2)] [] := by
  unfold m_X7_actionCount at hf
  refine x_aload_n h dX7_actionCount_0 rfl 0 rfl (q := 1) rfl ?_
  refine x_get_X7_0_4 h hg kf_X7_15 nn_X7 dX7_actionCount_1 ?_
  refine x_iload_n h dX7_actionCount_4 rfl 1 rfl (q := 5) rfl ?_
  refine x_iconst (v := 4) h dX7_actionCount_5 (by decide) (q := 6) rfl ?_
  refine x_imul h dX7_actionCount_6 (q := 7) rfl ?_
  refine x_iload_n h dX7_actionCount_7 rfl 2 rfl (q := 8) rfl ?_
  refine x_iadd h dX7_actionCount_8 (q := 9) rfl ?_
  refine x_callSi (As := [.ref (gA g 2), .int ((x1 * 4) + x2)]) (rest := []) h hg (c_X5_at C.2.1 hg.2.1 σ a_2 ((x1 * 4) + x2)) ml_X7_51 biX5_at rfl rfl hdX5_at ⟨Nat.le_of_ble_eq_true rfl, Nat.le_of_ble_eq_true rfl⟩ rfl rfl (Nat.le_of_ble_eq_true rfl) dX7_actionCount_9 ?_
  subst hf
  exact x_iret h hg hr dX7_actionCount_12
theorem c_X7_actionCount (l : Launch) {g : cG} (hi : gInj g) (σ : St) (x1 : Int32) (x2 : Int32) (o : Int32) (hf : m_X7_actionCount σ x1 x2 = o) : Met l yX7_actionCount (wT yX7_actionCount cX7_actionCount 3 (some .int)) rmX7_actionCount (va_Pc [.ref (gA g 0), .int x1, .int x2] (XPre g σ)) (XQ g (some (.int o)) σ) 0 0 (cA g) :=
  X_met RX7 hi plX7 rfl (Nat.le_of_ble_eq_true rfl) rfl (fun _ _ _ h hg hL hr => w_X7_actionCount σ x1 x2 o h hg hL hr hf)
abbrev rmX7_actionIn : Room := { frames := 0, cells := 0, slots := 0, locals := 0 }
theorem hdX7_actionIn : yX7_actionIn.cls ≠ "java/lang/invoke/MethodHandle" ∧ yX7_actionIn.cls ≠ "java/lang/invoke/VarHandle" ∧ (parseMethodDescriptor yX7_actionIn.desc).map (fun d => d.parameters.length) = some 2 := by decide +kernel
def m_X7_actionIn_b4 (x1 : Int32) (x2 : Int32) (x3 : Int32) (k4 : (Int32 × Int32) → Option (Int32)) : Option (Int32) :=
  if x1 ≤ x3 then (
    some (x2 - x2 / 3 * 3)
  ) else (
    k4 ((x2 / 3), (x3 + 1))
  )
set_option maxHeartbeats 4000000 in
set_option maxRecDepth 100000 in
theorem w_X7_actionIn_b4 {C : XC} {Q : State → Prop} {H0 : Heap} {σ : St} (x1 : Int32) (x2 : Int32) (x3 : Int32) (o : Int32) (h : XOk C cX7_actionIn RX7 tG rmX7_actionIn) (hH : H0 = C.2.2.2.2.1.heap) (hL : C.2.2.2.2.2.2.2.2.2.2.2.2.1 = 4) (hr : XEnd C (some .int) Q (XQp (some (.int o))) (fun _ => False)) (k4 : (Int32 × Int32) → Option (Int32)) (hk4 : ∀ z : Int32 × Int32, k4 z = some o → Xs C (fun _ H => H = H0) Q σ 4 [(1, .int x1), (2, .int z.1), (3, .int z.2)] []) (hf : m_X7_actionIn_b4 x1 x2 x3 k4 = some o) : Xs C (fun _ H => H = H0) Q σ 4 [(1, .int x1), (2, .int x2), (3, .int x3)] [] := by
  unfold m_X7_actionIn_b4 at hf
  refine x_iload_n h dX7_actionIn_4 rfl 2 rfl (q := 5) rfl ?_
  refine x_iload_n h dX7_actionIn_5 rfl 0 rfl (q := 6) rfl ?_
  refine x_icmp_ge (tgt := 19) h dX7_actionIn_6 (by decide) (q := 9) rfl hf (fun hc1 hf2 => ?_) (fun hc1 hf2 => ?_)
  · skip
    refine x_iload_n h dX7_actionIn_19 rfl 1 rfl (q := 20) rfl ?_
    refine x_iconst (v := 3) h dX7_actionIn_20 (by decide) (q := 21) rfl ?_
    refine x_irem h (by decide) dX7_actionIn_21 (q := 22) rfl ?_
    have hz := Option.some.inj hf2
    subst hz
    exact x_iretP h hr hH dX7_actionIn_22
  · skip
    refine x_iload_n h dX7_actionIn_9 rfl 1 rfl (q := 10) rfl ?_
    refine x_iconst (v := 3) h dX7_actionIn_10 (by decide) (q := 11) rfl ?_
    refine x_idiv h (by decide) dX7_actionIn_11 (q := 12) rfl ?_
    refine x_istore_n (lv' := [(2, .int (x2 / 3)), (1, .int x1), (3, .int x3)]) h dX7_actionIn_12 rfl hL (by decide) rfl (q := 13) rfl ?_
    refine x_iinc (v := (x3 + 1)) (lv' := [(3, .int (x3 + 1)), (2, .int (x2 / 3)), (1, .int x1)]) (j := 2) h dX7_actionIn_13 rfl rfl hL (by decide) rfl (q := 16) rfl ?_
    refine x_goto (q := 4) h dX7_actionIn_16 (by decide) ?_
    refine x_sub (lv' := [(1, .int x1), (2, .int (x2 / 3)), (3, .int (x3 + 1))]) [2, 1, 0] rfl ?_
    exact hk4 ((x2 / 3), (x3 + 1)) hf2
set_option maxHeartbeats 4000000 in
set_option maxRecDepth 100000 in
theorem w_X7_actionIn_l4 {C : XC} {Q : State → Prop} {H0 : Heap} {σ : St} (x1 : Int32) (o : Int32) (h : XOk C cX7_actionIn RX7 tG rmX7_actionIn) (hH : H0 = C.2.2.2.2.1.heap) (hL : C.2.2.2.2.2.2.2.2.2.2.2.2.1 = 4) (hr : XEnd C (some .int) Q (XQp (some (.int o))) (fun _ => False)) : ∀ (n : Nat) (z : Int32 × Int32), loopF (fun k z => m_X7_actionIn_b4 x1 z.1 z.2 k) n z = some o → Xs C (fun _ H => H = H0) Q σ 4 [(1, .int x1), (2, .int z.1), (3, .int z.2)] [] := by
  intro n z hf
  refine loopF_ind (S := Int32 × Int32) (O := Int32) (step := (fun k z => m_X7_actionIn_b4 x1 z.1 z.2 k)) (o := o) (P := fun z => Xs C (fun _ H => H = H0) Q σ 4 [(1, .int x1), (2, .int z.1), (3, .int z.2)] []) ?_ n z hf
  intro k hk z hf
  exact w_X7_actionIn_b4 x1 z.1 z.2 o h hH hL hr k hk hf
def m_X7_actionIn (x0 : Int32) (x1 : Int32) : Option (Int32) :=
  loopF (fun k z => m_X7_actionIn_b4 x1 z.1 z.2 k) cFu (x0, 0)
set_option maxHeartbeats 4000000 in
set_option maxRecDepth 100000 in
theorem w_X7_actionIn {C : XC} {Q : State → Prop} {H0 : Heap} {σ : St} (x0 : Int32) (x1 : Int32) (o : Int32) (h : XOk C cX7_actionIn RX7 tG rmX7_actionIn) (hH : H0 = C.2.2.2.2.1.heap) (hL : C.2.2.2.2.2.2.2.2.2.2.2.2.1 = 4) (hr : XEnd C (some .int) Q (XQp (some (.int o))) (fun _ => False)) (hf : m_X7_actionIn x0 x1 = some o) : Xs C (fun _ H => H = H0) Q σ 0 [(0, .int x0), (1, .int x1)] [] := by
  unfold m_X7_actionIn at hf
  refine x_iload_n h dX7_actionIn_0 rfl 0 rfl (q := 1) rfl ?_
  refine x_istore_n (lv' := [(2, .int x0), (0, .int x0), (1, .int x1)]) h dX7_actionIn_1 rfl hL (by decide) rfl (q := 2) rfl ?_
  refine x_iconst (v := 0) h dX7_actionIn_2 (by decide) (q := 3) rfl ?_
  refine x_istore_n (lv' := [(3, .int 0), (2, .int x0), (0, .int x0), (1, .int x1)]) h dX7_actionIn_3 rfl hL (by decide) rfl (q := 4) rfl ?_
  refine x_sub (lv' := [(1, .int x1), (2, .int x0), (3, .int 0)]) [3, 1, 0] rfl ?_
  exact w_X7_actionIn_l4 x1 o h hH hL hr  cFu (x0, 0) hf
theorem c_X7_actionIn (l : Launch) (x0 : Int32) (x1 : Int32) (o : Int32) (hf : m_X7_actionIn x0 x1 = some o) : Met l yX7_actionIn (wT yX7_actionIn cX7_actionIn 4 (some .int)) rmX7_actionIn (va_Pc [.int x0, .int x1] (fun _ => True)) (XQp (some (.int o))) 0 0 (fun _ => False) :=
  X_metP RX7 plX7 rfl (Nat.le_of_ble_eq_true rfl) rfl (fun _ _ _ _ _ h hH hL hr => w_X7_actionIn x0 x1 o h hH hL hr hf)
abbrev rmX7_isWithinActions : Room := { frames := 2, cells := 0, slots := 0, locals := 43 }
theorem hdX7_isWithinActions : yX7_isWithinActions.cls = RX7 ∧ yX7_isWithinActions.cls ≠ "java/lang/invoke/MethodHandle" ∧ yX7_isWithinActions.cls ≠ "java/lang/invoke/VarHandle" ∧ (parseMethodDescriptor yX7_isWithinActions.desc).map (fun d => d.parameters.length) = some 2 := by decide +kernel
def m_X7_isWithinActions_b2 (σ : St) (x1 : Int32) (x2 : Int32) (x3 : Int32) (k2 : Int32 → Option (Bool)) : Option (Bool) :=
  if (σ 0 0) ≤ x3 then (
    some true
  ) else (
    (m_X7_actionIn x2 x3).bind fun u3 =>
    if u3 < (m_X7_actionCount σ x1 x3) then (
      k2 (x3 + 1)
    ) else (
      some false
    )
  )
set_option maxHeartbeats 4000000 in
set_option maxRecDepth 100000 in
theorem w_X7_isWithinActions_b2 {C : XC} {Q : State → Prop} {g : cG} (σ : St) (x1 : Int32) (x2 : Int32) (x3 : Int32) (o : Bool) (h : XOk C cX7_isWithinActions RX7 tG rmX7_isWithinActions) (hg : XG C g) (hL : C.2.2.2.2.2.2.2.2.2.2.2.2.1 = 4) (hr : XEnd C (some .boolean) Q (XQ g (some (.int (bI o))) σ) (cA g)) (k2 : Int32 → Option (Bool)) (hk2 : ∀ z : Int32, k2 z = some o → Xs C (wW g) Q σ 2 [(0, .ref (gA g 0)), (1, .int x1), (2, .int x2), (3, .int z)] []) (hf : m_X7_isWithinActions_b2 σ x1 x2 x3 k2 = some o) : Xs C (wW g) Q σ 2 [(0, .ref (gA g 0)), (1, .int x1), (2, .int x2), (3, .int x3)] [] := by
  unfold m_X7_isWithinActions_b2 at hf
  refine x_iload_n h dX7_isWithinActions_2 rfl 3 rfl (q := 3) rfl ?_
  refine x_aload_n h dX7_isWithinActions_3 rfl 0 rfl (q := 4) rfl ?_
  refine x_get_X7_0_0 h hg kf_X7_28 nn_X7 dX7_isWithinActions_4 ?_
  refine x_icmp_ge (tgt := 32) h dX7_isWithinActions_7 (by decide) (q := 10) rfl hf (fun hc1 hf2 => ?_) (fun hc1 hf2 => ?_)
  · skip
    refine x_iconst (v := 1) h dX7_isWithinActions_32 (by decide) (q := 33) rfl ?_
    have hz := Option.some.inj hf2
    subst hz
    exact x_zret (b := true) h hg hr dX7_isWithinActions_33
  · skip
    refine x_iload_n h dX7_isWithinActions_10 rfl 2 rfl (q := 11) rfl ?_
    refine x_iload_n h dX7_isWithinActions_11 rfl 3 rfl (q := 12) rfl ?_
    obtain ⟨u3, hu3, hf4⟩ := bnd_inv hf2
    refine x_callPi (As := [.int x2, .int x3]) (rest := []) h (c_X7_actionIn C.2.1 x2 x3 _ hu3) ml_X7_75 biX7_actionIn rfl rfl hdX7_actionIn ⟨Nat.le_of_ble_eq_true rfl, Nat.le_of_ble_eq_true rfl⟩ rfl rfl (Nat.le_of_ble_eq_true rfl) dX7_isWithinActions_12 ?_
    refine x_aload_n h dX7_isWithinActions_15 rfl 0 rfl (q := 16) rfl ?_
    refine x_iload_n h dX7_isWithinActions_16 rfl 1 rfl (q := 17) rfl ?_
    refine x_iload_n h dX7_isWithinActions_17 rfl 3 rfl (q := 18) rfl ?_
    refine x_callVi (As := [.int x1, .int x3]) (rest := [.int u3]) h hg (c_X7_actionCount C.2.1 hg.2.1 σ x1 x3 _ rfl) ml_X7_87 biX7_actionCount rfl rfl hdX7_actionCount ⟨Nat.le_of_ble_eq_true rfl, Nat.le_of_ble_eq_true rfl⟩ (by decide) (cE_0 g _) rfl rfl rfl (Nat.le_of_ble_eq_true rfl) dX7_isWithinActions_18 ?_
    refine x_icmp_lt (tgt := 26) h dX7_isWithinActions_21 (by decide) (q := 24) rfl hf4 (fun hc5 hf6 => ?_) (fun hc5 hf6 => ?_)
    · skip
      refine x_iinc (v := (x3 + 1)) (lv' := [(3, .int (x3 + 1)), (0, .ref (gA g 0)), (1, .int x1), (2, .int x2)]) (j := 3) h dX7_isWithinActions_26 rfl rfl hL (by decide) rfl (q := 29) rfl ?_
      refine x_goto (q := 2) h dX7_isWithinActions_29 (by decide) ?_
      refine x_sub (lv' := [(0, .ref (gA g 0)), (1, .int x1), (2, .int x2), (3, .int (x3 + 1))]) [1, 2, 3, 0] rfl ?_
      exact hk2 (x3 + 1) hf6
    · skip
      refine x_iconst (v := 0) h dX7_isWithinActions_24 (by decide) (q := 25) rfl ?_
      have hz := Option.some.inj hf6
      subst hz
      exact x_zret (b := false) h hg hr dX7_isWithinActions_25
set_option maxHeartbeats 4000000 in
set_option maxRecDepth 100000 in
theorem w_X7_isWithinActions_l2 {C : XC} {Q : State → Prop} {g : cG} (σ : St) (x1 : Int32) (x2 : Int32) (o : Bool) (h : XOk C cX7_isWithinActions RX7 tG rmX7_isWithinActions) (hg : XG C g) (hL : C.2.2.2.2.2.2.2.2.2.2.2.2.1 = 4) (hr : XEnd C (some .boolean) Q (XQ g (some (.int (bI o))) σ) (cA g)) : ∀ (n : Nat) (z : Int32), loopF (fun k z => m_X7_isWithinActions_b2 σ x1 x2 z k) n z = some o → Xs C (wW g) Q σ 2 [(0, .ref (gA g 0)), (1, .int x1), (2, .int x2), (3, .int z)] [] := by
  intro n z hf
  refine loopF_ind (S := Int32) (O := Bool) (step := (fun k z => m_X7_isWithinActions_b2 σ x1 x2 z k)) (o := o) (P := fun z => Xs C (wW g) Q σ 2 [(0, .ref (gA g 0)), (1, .int x1), (2, .int x2), (3, .int z)] []) ?_ n z hf
  intro k hk z hf
  exact w_X7_isWithinActions_b2 σ x1 x2 z o h hg hL hr k hk hf
def m_X7_isWithinActions (σ : St) (x1 : Int32) (x2 : Int32) : Option (Bool) :=
  loopF (fun k z => m_X7_isWithinActions_b2 σ x1 x2 z k) cFu 0
set_option maxHeartbeats 4000000 in
set_option maxRecDepth 100000 in
theorem w_X7_isWithinActions {C : XC} {Q : State → Prop} {g : cG} (σ : St) (x1 : Int32) (x2 : Int32) (o : Bool) (h : XOk C cX7_isWithinActions RX7 tG rmX7_isWithinActions) (hg : XG C g) (hL : C.2.2.2.2.2.2.2.2.2.2.2.2.1 = 4) (hr : XEnd C (some .boolean) Q (XQ g (some (.int (bI o))) σ) (cA g)) (hf : m_X7_isWithinActions σ x1 x2 = some o) : Xs C (wW g) Q σ 0 [(0, .ref (gA g 0)), (1, .int x1), (2, .int x2)] [] := by
  unfold m_X7_isWithinActions at hf
  refine x_iconst (v := 0) h dX7_isWithinActions_0 (by decide) (q := 1) rfl ?_
  refine x_istore_n (lv' := [(3, .int 0), (0, .ref (gA g 0)), (1, .int x1), (2, .int x2)]) h dX7_isWithinActions_1 rfl hL (by decide) rfl (q := 2) rfl ?_
  refine x_sub (lv' := [(0, .ref (gA g 0)), (1, .int x1), (2, .int x2), (3, .int 0)]) [1, 2, 3, 0] rfl ?_
  exact w_X7_isWithinActions_l2 σ x1 x2 o h hg hL hr  cFu 0 hf
theorem c_X7_isWithinActions (l : Launch) {g : cG} (hi : gInj g) (σ : St) (x1 : Int32) (x2 : Int32) (o : Bool) (hf : m_X7_isWithinActions σ x1 x2 = some o) : Met l yX7_isWithinActions (wT yX7_isWithinActions cX7_isWithinActions 4 (some .boolean)) rmX7_isWithinActions (va_Pc [.ref (gA g 0), .int x1, .int x2] (XPre g σ)) (XQ g (some (.int (bI o))) σ) 0 0 (cA g) :=
  X_met RX7 hi plX7 rfl (Nat.le_of_ble_eq_true rfl) rfl (fun _ _ _ h hg hL hr => w_X7_isWithinActions σ x1 x2 o h hg hL hr hf)
abbrev rmX7_setTarget : Room := { frames := 1, cells := 0, slots := 0, locals := 22 }
theorem hdX7_setTarget : yX7_setTarget.cls = RX7 ∧ yX7_setTarget.cls ≠ "java/lang/invoke/MethodHandle" ∧ yX7_setTarget.cls ≠ "java/lang/invoke/VarHandle" ∧ (parseMethodDescriptor yX7_setTarget.desc).map (fun d => d.parameters.length) = some 3 := by decide +kernel
def m_X7_setTarget (σ : St) (x1 : Int32) (x2 : Int32) (x3 : Int32) : St :=
  (rPut σ 4 972 ((x1 * 81) + x2) x3)
set_option maxHeartbeats 4000000 in
set_option maxRecDepth 100000 in
theorem w_X7_setTarget {C : XC} {Q : State → Prop} {g : cG} (σ : St) (x1 : Int32) (x2 : Int32) (x3 : Int32) (o : St) (h : XOk C cX7_setTarget RX7 tG rmX7_setTarget) (hg : XG C g) (hL : C.2.2.2.2.2.2.2.2.2.2.2.2.1 = 4) (hr : XEnd C none Q (XQ g (none) o) (cA g)) (hf : m_X7_setTarget σ x1 x2 x3 = o) : Xs C (wW g) Q σ 0 [(0, .ref (gA g 0)), (1, .int x1), (2, .int x2), (3, .int x3)] [] := by
  unfold m_X7_setTarget at hf
  refine x_aload_n h dX7_setTarget_0 rfl 0 rfl (q := 1) rfl ?_
  refine x_get_X7_0_6 h hg kf_X7_21 nn_X7 dX7_setTarget_1 ?_
  refine x_iload_n h dX7_setTarget_4 rfl 1 rfl (q := 5) rfl ?_
  refine x_bipush (v := 81) h dX7_setTarget_5 (by decide) (q := 7) rfl ?_
  refine x_imul h dX7_setTarget_7 (q := 8) rfl ?_
  refine x_iload_n h dX7_setTarget_8 rfl 2 rfl (q := 9) rfl ?_
  refine x_iadd h dX7_setTarget_9 (q := 10) rfl ?_
  refine x_iload_n h dX7_setTarget_10 rfl 3 rfl (q := 11) rfl ?_
  refine x_callSv (As := [.ref (gA g 4), .int ((x1 * 81) + x2), .int x3]) (rest := []) h hg (c_X5_put C.2.1 hg.2.1 σ a_4 ((x1 * 81) + x2) x3) ml_X7_55 biX5_put rfl rfl hdX5_put ⟨Nat.le_of_ble_eq_true rfl, Nat.le_of_ble_eq_true rfl⟩ rfl rfl (Nat.le_of_ble_eq_true rfl) dX7_setTarget_11 ?_
  subst hf
  exact x_vret h hg hr dX7_setTarget_14
theorem c_X7_setTarget (l : Launch) {g : cG} (hi : gInj g) (σ : St) (x1 : Int32) (x2 : Int32) (x3 : Int32) (o : St) (hf : m_X7_setTarget σ x1 x2 x3 = o) : Met l yX7_setTarget (wT yX7_setTarget cX7_setTarget 4 none) rmX7_setTarget (va_Pc [.ref (gA g 0), .int x1, .int x2, .int x3] (XPre g σ)) (XQ g (none) o) 0 0 (cA g) :=
  X_met RX7 hi plX7 rfl (Nat.le_of_ble_eq_true rfl) rfl (fun _ _ _ h hg hL hr => w_X7_setTarget σ x1 x2 x3 o h hg hL hr hf)
abbrev rmX7_leadBack : Room := { frames := 3, cells := 0, slots := 0, locals := 66 }
theorem hdX7_leadBack : yX7_leadBack.cls = RX7 ∧ yX7_leadBack.cls ≠ "java/lang/invoke/MethodHandle" ∧ yX7_leadBack.cls ≠ "java/lang/invoke/VarHandle" ∧ (parseMethodDescriptor yX7_leadBack.desc).map (fun d => d.parameters.length) = some 1 := by decide +kernel
def m_X7_leadBack_b27 (σ : St) (x1 : Int32) (x2 : Int32) (s0 : Int32) (s1 : Int32) (s2 : Int32) (k2 : (St × Int32) → Option (St)) : Option (St) :=
  k2 ((m_X7_setTarget σ s2 s1 s0), (x2 + 1))
set_option maxHeartbeats 4000000 in
set_option maxRecDepth 100000 in
theorem w_X7_leadBack_b27 {C : XC} {Q : State → Prop} {g : cG} (σ : St) (x1 : Int32) (x2 : Int32) (s0 : Int32) (s1 : Int32) (s2 : Int32) (o : St) (h : XOk C cX7_leadBack RX7 tG rmX7_leadBack) (hg : XG C g) (hL : C.2.2.2.2.2.2.2.2.2.2.2.2.1 = 3) (hr : XEnd C none Q (XQ g (none) o) (cA g)) (k2 : (St × Int32) → Option (St)) (hk2 : ∀ z : St × Int32, k2 z = some o → Xs C (wW g) Q z.1 2 [(0, .ref (gA g 0)), (1, .int x1), (2, .int z.2)] []) (hf : m_X7_leadBack_b27 σ x1 x2 s0 s1 s2 k2 = some o) : Xs C (wW g) Q σ 27 [(0, .ref (gA g 0)), (1, .int x1), (2, .int x2)] [.int s0, .int s1, .int s2, .ref (gA g 0)] := by
  unfold m_X7_leadBack_b27 at hf
  refine x_callVv (As := [.int s2, .int s1, .int s0]) (rest := []) h hg (c_X7_setTarget C.2.1 hg.2.1 σ s2 s1 s0 _ rfl) ml_X7_78 biX7_setTarget rfl rfl hdX7_setTarget ⟨Nat.le_of_ble_eq_true rfl, Nat.le_of_ble_eq_true rfl⟩ (by decide) (cE_0 g _) rfl rfl rfl (Nat.le_of_ble_eq_true rfl) dX7_leadBack_27 ?_
  refine x_iinc (v := (x2 + 1)) (lv' := [(2, .int (x2 + 1)), (0, .ref (gA g 0)), (1, .int x1)]) (j := 2) h dX7_leadBack_30 rfl rfl hL (by decide) rfl (q := 33) rfl ?_
  refine x_goto (q := 2) h dX7_leadBack_33 (by decide) ?_
  refine x_sub (lv' := [(0, .ref (gA g 0)), (1, .int x1), (2, .int (x2 + 1))]) [1, 2, 0] rfl ?_
  exact hk2 ((m_X7_setTarget σ s2 s1 s0), (x2 + 1)) hf
def m_X7_leadBack_b2 (σ : St) (x1 : Int32) (x2 : Int32) (k2 : (St × Int32) → Option (St)) : Option (St) :=
  if (σ 0 2) ≤ x2 then (
    some σ
  ) else (
    (m_X7_isWithinActions σ x1 x2).bind fun u3 =>
    if (bI u3) = 0 then (
      m_X7_leadBack_b27 σ x1 x2 (-1) x2 x1 k2
    ) else (
      m_X7_leadBack_b27 σ x1 x2 x1 x2 x1 k2
    )
  )
set_option maxHeartbeats 4000000 in
set_option maxRecDepth 100000 in
theorem w_X7_leadBack_b2 {C : XC} {Q : State → Prop} {g : cG} (σ : St) (x1 : Int32) (x2 : Int32) (o : St) (h : XOk C cX7_leadBack RX7 tG rmX7_leadBack) (hg : XG C g) (hL : C.2.2.2.2.2.2.2.2.2.2.2.2.1 = 3) (hr : XEnd C none Q (XQ g (none) o) (cA g)) (k2 : (St × Int32) → Option (St)) (hk2 : ∀ z : St × Int32, k2 z = some o → Xs C (wW g) Q z.1 2 [(0, .ref (gA g 0)), (1, .int x1), (2, .int z.2)] []) (hf : m_X7_leadBack_b2 σ x1 x2 k2 = some o) : Xs C (wW g) Q σ 2 [(0, .ref (gA g 0)), (1, .int x1), (2, .int x2)] [] := by
  unfold m_X7_leadBack_b2 at hf
  refine x_iload_n h dX7_leadBack_2 rfl 2 rfl (q := 3) rfl ?_
  refine x_aload_n h dX7_leadBack_3 rfl 0 rfl (q := 4) rfl ?_
  refine x_get_X7_0_2 h hg kf_X7_34 nn_X7 dX7_leadBack_4 ?_
  refine x_icmp_ge (tgt := 36) h dX7_leadBack_7 (by decide) (q := 10) rfl hf (fun hc1 hf2 => ?_) (fun hc1 hf2 => ?_)
  · skip
    have hz := Option.some.inj hf2
    subst hz
    exact x_vret h hg hr dX7_leadBack_36
  · skip
    refine x_aload_n h dX7_leadBack_10 rfl 0 rfl (q := 11) rfl ?_
    refine x_iload_n h dX7_leadBack_11 rfl 1 rfl (q := 12) rfl ?_
    refine x_iload_n h dX7_leadBack_12 rfl 2 rfl (q := 13) rfl ?_
    refine x_aload_n h dX7_leadBack_13 rfl 0 rfl (q := 14) rfl ?_
    refine x_iload_n h dX7_leadBack_14 rfl 1 rfl (q := 15) rfl ?_
    refine x_iload_n h dX7_leadBack_15 rfl 2 rfl (q := 16) rfl ?_
    obtain ⟨u3, hu3, hf4⟩ := bnd_inv hf2
    refine x_callVi (As := [.int x1, .int x2]) (rest := [.int x2, .int x1, .ref (gA g 0)]) h hg (c_X7_isWithinActions C.2.1 hg.2.1 σ x1 x2 _ hu3) ml_X7_93 biX7_isWithinActions rfl rfl hdX7_isWithinActions ⟨Nat.le_of_ble_eq_true rfl, Nat.le_of_ble_eq_true rfl⟩ (by decide) (cE_0 g _) rfl rfl rfl (Nat.le_of_ble_eq_true rfl) dX7_leadBack_16 ?_
    refine x_if_eq (tgt := 26) h dX7_leadBack_19 (by decide) (q := 22) rfl hf4 (fun hc5 hf6 => ?_) (fun hc5 hf6 => ?_)
    · skip
      refine x_iconst (v := (-1)) h dX7_leadBack_26 (by decide) (q := 27) rfl ?_
      exact w_X7_leadBack_b27 σ x1 x2 (-1) x2 x1 o h hg hL hr k2 hk2 hf6
    · skip
      refine x_iload_n h dX7_leadBack_22 rfl 1 rfl (q := 23) rfl ?_
      refine x_goto (q := 27) h dX7_leadBack_23 (by decide) ?_
      exact w_X7_leadBack_b27 σ x1 x2 x1 x2 x1 o h hg hL hr k2 hk2 hf6
set_option maxHeartbeats 4000000 in
set_option maxRecDepth 100000 in
theorem w_X7_leadBack_l2 {C : XC} {Q : State → Prop} {g : cG} (x1 : Int32) (o : St) (h : XOk C cX7_leadBack RX7 tG rmX7_leadBack) (hg : XG C g) (hL : C.2.2.2.2.2.2.2.2.2.2.2.2.1 = 3) (hr : XEnd C none Q (XQ g (none) o) (cA g)) : ∀ (n : Nat) (z : St × Int32), loopF (fun k z => m_X7_leadBack_b2 z.1 x1 z.2 k) n z = some o → Xs C (wW g) Q z.1 2 [(0, .ref (gA g 0)), (1, .int x1), (2, .int z.2)] [] := by
  intro n z hf
  refine loopF_ind (S := St × Int32) (O := St) (step := (fun k z => m_X7_leadBack_b2 z.1 x1 z.2 k)) (o := o) (P := fun z => Xs C (wW g) Q z.1 2 [(0, .ref (gA g 0)), (1, .int x1), (2, .int z.2)] []) ?_ n z hf
  intro k hk z hf
  exact w_X7_leadBack_b2 z.1 x1 z.2 o h hg hL hr k hk hf
def m_X7_leadBack (σ : St) (x1 : Int32) : Option (St) :=
  loopF (fun k z => m_X7_leadBack_b2 z.1 x1 z.2 k) cFu (σ, 0)
set_option maxHeartbeats 4000000 in
set_option maxRecDepth 100000 in
theorem w_X7_leadBack {C : XC} {Q : State → Prop} {g : cG} (σ : St) (x1 : Int32) (o : St) (h : XOk C cX7_leadBack RX7 tG rmX7_leadBack) (hg : XG C g) (hL : C.2.2.2.2.2.2.2.2.2.2.2.2.1 = 3) (hr : XEnd C none Q (XQ g (none) o) (cA g)) (hf : m_X7_leadBack σ x1 = some o) : Xs C (wW g) Q σ 0 [(0, .ref (gA g 0)), (1, .int x1)] [] := by
  unfold m_X7_leadBack at hf
  refine x_iconst (v := 0) h dX7_leadBack_0 (by decide) (q := 1) rfl ?_
  refine x_istore_n (lv' := [(2, .int 0), (0, .ref (gA g 0)), (1, .int x1)]) h dX7_leadBack_1 rfl hL (by decide) rfl (q := 2) rfl ?_
  refine x_sub (lv' := [(0, .ref (gA g 0)), (1, .int x1), (2, .int 0)]) [1, 2, 0] rfl ?_
  exact w_X7_leadBack_l2 x1 o h hg hL hr  cFu (σ, 0) hf
theorem c_X7_leadBack (l : Launch) {g : cG} (hi : gInj g) (σ : St) (x1 : Int32) (o : St) (hf : m_X7_leadBack σ x1 = some o) : Met l yX7_leadBack (wT yX7_leadBack cX7_leadBack 3 none) rmX7_leadBack (va_Pc [.ref (gA g 0), .int x1] (XPre g σ)) (XQ g (none) o) 0 0 (cA g) :=
  X_met RX7 hi plX7 rfl (Nat.le_of_ble_eq_true rfl) rfl (fun _ _ _ h hg hL hr => w_X7_leadBack σ x1 o h hg hL hr hf)
abbrev rmX7_setActionCount : Room := { frames := 4, cells := 0, slots := 0, locals := 88 }
theorem hdX7_setActionCount : yX7_setActionCount.cls = RX7 ∧ yX7_setActionCount.cls ≠ "java/lang/invoke/MethodHandle" ∧ yX7_setActionCount.cls ≠ "java/lang/invoke/VarHandle" ∧ (parseMethodDescriptor yX7_setActionCount.desc).map (fun d => d.parameters.length) = some 3 := by decide +kernel
def m_X7_setActionCount (σ : St) (x1 : Int32) (x2 : Int32) (x3 : Int32) : Option (St) :=
  (m_X7_leadBack (rPut σ 2 48 ((x1 * 4) + x2) x3) x1).bind fun u1 =>
  some u1
set_option maxHeartbeats 4000000 in
set_option maxRecDepth 100000 in
theorem w_X7_setActionCount {C : XC} {Q : State → Prop} {g : cG} (σ : St) (x1 : Int32) (x2 : Int32) (x3 : Int32) (o : St) (h : XOk C cX7_setActionCount RX7 tG rmX7_setActionCount) (hg : XG C g) (hL : C.2.2.2.2.2.2.2.2.2.2.2.2.1 = 4) (hr : XEnd C none Q (XQ g (none) o) (cA g)) (hf : m_X7_setActionCount σ x1 x2 x3 = some o) : Xs C (wW g) Q σ 0 [(0, .ref (gA g 0)), (1, .int x1), (2, .int x2), (3, .int x3)] [] := by
  unfold m_X7_setActionCount at hf
  refine x_aload_n h dX7_setActionCount_0 rfl 0 rfl (q := 1) rfl ?_
  refine x_get_X7_0_4 h hg kf_X7_15 nn_X7 dX7_setActionCount_1 ?_
  refine x_iload_n h dX7_setActionCount_4 rfl 1 rfl (q := 5) rfl ?_
  refine x_iconst (v := 4) h dX7_setActionCount_5 (by decide) (q := 6) rfl ?_
  refine x_imul h dX7_setActionCount_6 (q := 7) rfl ?_
  refine x_iload_n h dX7_setActionCount_7 rfl 2 rfl (q := 8) rfl ?_
  refine x_iadd h dX7_setActionCount_8 (q := 9) rfl ?_
  refine x_iload_n h dX7_setActionCount_9 rfl 3 rfl (q := 10) rfl ?_
  refine x_callSv (As := [.ref (gA g 2), .int ((x1 * 4) + x2), .int x3]) (rest := []) h hg (c_X5_put C.2.1 hg.2.1 σ a_2 ((x1 * 4) + x2) x3) ml_X7_55 biX5_put rfl rfl hdX5_put ⟨Nat.le_of_ble_eq_true rfl, Nat.le_of_ble_eq_true rfl⟩ rfl rfl (Nat.le_of_ble_eq_true rfl) dX7_setActionCount_10 ?_
  refine x_aload_n h dX7_setActionCount_13 rfl 0 rfl (q := 14) rfl ?_
  refine x_iload_n h dX7_setActionCount_14 rfl 1 rfl (q := 15) rfl ?_
  obtain ⟨u1, hu1, hf2⟩ := bnd_inv hf
  refine x_callVv (As := [.int x1]) (rest := []) h hg (c_X7_leadBack C.2.1 hg.2.1 (rPut σ 2 48 ((x1 * 4) + x2) x3) x1 _ hu1) ml_X7_59 biX7_leadBack rfl rfl hdX7_leadBack ⟨Nat.le_of_ble_eq_true rfl, Nat.le_of_ble_eq_true rfl⟩ (by decide) (cE_0 g _) rfl rfl rfl (Nat.le_of_ble_eq_true rfl) dX7_setActionCount_15 ?_
  have hz := Option.some.inj hf2
  subst hz
  exact x_vret h hg hr dX7_setActionCount_18
theorem c_X7_setActionCount (l : Launch) {g : cG} (hi : gInj g) (σ : St) (x1 : Int32) (x2 : Int32) (x3 : Int32) (o : St) (hf : m_X7_setActionCount σ x1 x2 x3 = some o) : Met l yX7_setActionCount (wT yX7_setActionCount cX7_setActionCount 4 none) rmX7_setActionCount (va_Pc [.ref (gA g 0), .int x1, .int x2, .int x3] (XPre g σ)) (XQ g (none) o) 0 0 (cA g) :=
  X_met RX7 hi plX7 rfl (Nat.le_of_ble_eq_true rfl) rfl (fun _ _ _ h hg hL hr => w_X7_setActionCount σ x1 x2 x3 o h hg hL hr hf)
abbrev rmX7_plannedAction : Room := { frames := 1, cells := 0, slots := 0, locals := 21 }
theorem hdX7_plannedAction : yX7_plannedAction.cls = RX7 ∧ yX7_plannedAction.cls ≠ "java/lang/invoke/MethodHandle" ∧ yX7_plannedAction.cls ≠ "java/lang/invoke/VarHandle" ∧ (parseMethodDescriptor yX7_plannedAction.desc).map (fun d => d.parameters.length) = some 2 := by decide +kernel
def m_X7_plannedAction (σ : St) (x1 : Int32) (x2 : Int32) : Int32 :=
  (rAt 48 (σ 3) ((x1 * 4) + x2))
set_option maxHeartbeats 4000000 in
set_option maxRecDepth 100000 in
theorem w_X7_plannedAction {C : XC} {Q : State → Prop} {g : cG} (σ : St) (x1 : Int32) (x2 : Int32) (o : Int32) (h : XOk C cX7_plannedAction RX7 tG rmX7_plannedAction) (hg : XG C g) (hL : C.2.2.2.2.2.2.2.2.2.2.2.2.1 = 3) (hr : XEnd C (some .int) Q (XQ g (some (.int o)) σ) (cA g)) (hf : m_X7_plannedAction σ x1 x2 = o) : Xs C (wW g) Q σ 0 [(0, .ref (gA g 0)), (1, .int x1), (2, .int x2)] [] := by
  unfold m_X7_plannedAction at hf
  refine x_aload_n h dX7_plannedAction_0 rfl 0 rfl (q := 1) rfl ?_
  refine x_get_X7_0_5 h hg kf_X7_18 nn_X7 dX7_plannedAction_1 ?_
  refine x_iload_n h dX7_plannedAction_4 rfl 1 rfl (q := 5) rfl ?_
  refine x_iconst (v := 4) h dX7_plannedAction_5 (by decide) (q := 6) rfl ?_
  refine x_imul h dX7_plannedAction_6 (q := 7) rfl ?_
  refine x_iload_n h dX7_plannedAction_7 rfl 2 rfl (q := 8) rfl ?_
  refine x_iadd h dX7_plannedAction_8 (q := 9) rfl ?_
  refine x_callSi (As := [.ref (gA g 3), .int ((x1 * 4) + x2)]) (rest := []) h hg (c_X5_at C.2.1 hg.2.1 σ a_3 ((x1 * 4) + x2)) ml_X7_51 biX5_at rfl rfl hdX5_at ⟨Nat.le_of_ble_eq_true rfl, Nat.le_of_ble_eq_true rfl⟩ rfl rfl (Nat.le_of_ble_eq_true rfl) dX7_plannedAction_9 ?_
  subst hf
  exact x_iret h hg hr dX7_plannedAction_12
theorem c_X7_plannedAction (l : Launch) {g : cG} (hi : gInj g) (σ : St) (x1 : Int32) (x2 : Int32) (o : Int32) (hf : m_X7_plannedAction σ x1 x2 = o) : Met l yX7_plannedAction (wT yX7_plannedAction cX7_plannedAction 3 (some .int)) rmX7_plannedAction (va_Pc [.ref (gA g 0), .int x1, .int x2] (XPre g σ)) (XQ g (some (.int o)) σ) 0 0 (cA g) :=
  X_met RX7 hi plX7 rfl (Nat.le_of_ble_eq_true rfl) rfl (fun _ _ _ h hg hL hr => w_X7_plannedAction σ x1 x2 o h hg hL hr hf)
abbrev rmX7_setPlannedAction : Room := { frames := 1, cells := 0, slots := 0, locals := 22 }
theorem hdX7_setPlannedAction : yX7_setPlannedAction.cls = RX7 ∧ yX7_setPlannedAction.cls ≠ "java/lang/invoke/MethodHandle" ∧ yX7_setPlannedAction.cls ≠ "java/lang/invoke/VarHandle" ∧ (parseMethodDescriptor yX7_setPlannedAction.desc).map (fun d => d.parameters.length) = some 3 := by decide +kernel
def m_X7_setPlannedAction (σ : St) (x1 : Int32) (x2 : Int32) (x3 : Int32) : St :=
  (rPut σ 3 48 ((x1 * 4) + x2) x3)
set_option maxHeartbeats 4000000 in
set_option maxRecDepth 100000 in
theorem w_X7_setPlannedAction {C : XC} {Q : State → Prop} {g : cG} (σ : St) (x1 : Int32) (x2 : Int32) (x3 : Int32) (o : St) (h : XOk C cX7_setPlannedAction RX7 tG rmX7_setPlannedAction) (hg : XG C g) (hL : C.2.2.2.2.2.2.2.2.2.2.2.2.1 = 4) (hr : XEnd C none Q (XQ g (none) o) (cA g)) (hf : m_X7_setPlannedAction σ x1 x2 x3 = o) : Xs C (wW g) Q σ 0 [(0, .ref (gA g 0)), (1, .int x1), (2, .int x2), (3, .int x3)] [] := by
  unfold m_X7_setPlannedAction at hf
  refine x_aload_n h dX7_setPlannedAction_0 rfl 0 rfl (q := 1) rfl ?_
  refine x_get_X7_0_5 h hg kf_X7_18 nn_X7 dX7_setPlannedAction_1 ?_
  refine x_iload_n h dX7_setPlannedAction_4 rfl 1 rfl (q := 5) rfl ?_
  refine x_iconst (v := 4) h dX7_setPlannedAction_5 (by decide) (q := 6) rfl ?_
  refine x_imul h dX7_setPlannedAction_6 (q := 7) rfl ?_
  refine x_iload_n h dX7_setPlannedAction_7 rfl 2 rfl (q := 8) rfl ?_
  refine x_iadd h dX7_setPlannedAction_8 (q := 9) rfl ?_
  refine x_iload_n h dX7_setPlannedAction_9 rfl 3 rfl (q := 10) rfl ?_
  refine x_callSv (As := [.ref (gA g 3), .int ((x1 * 4) + x2), .int x3]) (rest := []) h hg (c_X5_put C.2.1 hg.2.1 σ a_3 ((x1 * 4) + x2) x3) ml_X7_55 biX5_put rfl rfl hdX5_put ⟨Nat.le_of_ble_eq_true rfl, Nat.le_of_ble_eq_true rfl⟩ rfl rfl (Nat.le_of_ble_eq_true rfl) dX7_setPlannedAction_10 ?_
  subst hf
  exact x_vret h hg hr dX7_setPlannedAction_13
theorem c_X7_setPlannedAction (l : Launch) {g : cG} (hi : gInj g) (σ : St) (x1 : Int32) (x2 : Int32) (x3 : Int32) (o : St) (hf : m_X7_setPlannedAction σ x1 x2 x3 = o) : Met l yX7_setPlannedAction (wT yX7_setPlannedAction cX7_setPlannedAction 4 none) rmX7_setPlannedAction (va_Pc [.ref (gA g 0), .int x1, .int x2, .int x3] (XPre g σ)) (XQ g (none) o) 0 0 (cA g) :=
  X_met RX7 hi plX7 rfl (Nat.le_of_ble_eq_true rfl) rfl (fun _ _ _ h hg hL hr => w_X7_setPlannedAction σ x1 x2 x3 o h hg hL hr hf)
abbrev rmX7_possibleMoves : Room := { frames := 2, cells := 0, slots := 0, locals := 43 }
theorem hdX7_possibleMoves : yX7_possibleMoves.cls = RX7 ∧ yX7_possibleMoves.cls ≠ "java/lang/invoke/MethodHandle" ∧ yX7_possibleMoves.cls ≠ "java/lang/invoke/VarHandle" ∧ (parseMethodDescriptor yX7_possibleMoves.desc).map (fun d => d.parameters.length) = some 1 := by decide +kernel
def m_X7_possibleMoves_b4 (σ : St) (x1 : Int32) (x2 : Int32) (x3 : Int32) (k4 : (Int32 × Int32) → Option (Int32)) : Option (Int32) :=
  if (σ 0 2) ≤ x3 then (
    some x2
  ) else (
    if (m_X7_target σ x1 x3) = (-1) then (
      k4 (x2, (x3 + 1))
    ) else (
      k4 ((x2 + 1), (x3 + 1))
    )
  )
set_option maxHeartbeats 4000000 in
set_option maxRecDepth 100000 in
theorem w_X7_possibleMoves_b4 {C : XC} {Q : State → Prop} {g : cG} (σ : St) (x1 : Int32) (x2 : Int32) (x3 : Int32) (o : Int32) (h : XOk C cX7_possibleMoves RX7 tG rmX7_possibleMoves) (hg : XG C g) (hL : C.2.2.2.2.2.2.2.2.2.2.2.2.1 = 4) (hr : XEnd C (some .int) Q (XQ g (some (.int o)) σ) (cA g)) (k4 : (Int32 × Int32) → Option (Int32)) (hk4 : ∀ z : Int32 × Int32, k4 z = some o → Xs C (wW g) Q σ 4 [(0, .ref (gA g 0)), (1, .int x1), (2, .int z.1), (3, .int z.2)] []) (hf : m_X7_possibleMoves_b4 σ x1 x2 x3 k4 = some o) : Xs C (wW g) Q σ 4 [(0, .ref (gA g 0)), (1, .int x1), (2, .int x2), (3, .int x3)] [] := by
  unfold m_X7_possibleMoves_b4 at hf
  refine x_iload_n h dX7_possibleMoves_4 rfl 3 rfl (q := 5) rfl ?_
  refine x_aload_n h dX7_possibleMoves_5 rfl 0 rfl (q := 6) rfl ?_
  refine x_get_X7_0_2 h hg kf_X7_34 nn_X7 dX7_possibleMoves_6 ?_
  refine x_icmp_ge (tgt := 31) h dX7_possibleMoves_9 (by decide) (q := 12) rfl hf (fun hc1 hf2 => ?_) (fun hc1 hf2 => ?_)
  · skip
    refine x_iload_n h dX7_possibleMoves_31 rfl 2 rfl (q := 32) rfl ?_
    have hz := Option.some.inj hf2
    subst hz
    exact x_iret h hg hr dX7_possibleMoves_32
  · skip
    refine x_aload_n h dX7_possibleMoves_12 rfl 0 rfl (q := 13) rfl ?_
    refine x_iload_n h dX7_possibleMoves_13 rfl 1 rfl (q := 14) rfl ?_
    refine x_iload_n h dX7_possibleMoves_14 rfl 3 rfl (q := 15) rfl ?_
    refine x_callVi (As := [.int x1, .int x3]) (rest := []) h hg (c_X7_target C.2.1 hg.2.1 σ x1 x3 _ rfl) ml_X7_63 biX7_target rfl rfl hdX7_target ⟨Nat.le_of_ble_eq_true rfl, Nat.le_of_ble_eq_true rfl⟩ (by decide) (cE_0 g _) rfl rfl rfl (Nat.le_of_ble_eq_true rfl) dX7_possibleMoves_15 ?_
    refine x_iconst (v := (-1)) h dX7_possibleMoves_18 (by decide) (q := 19) rfl ?_
    refine x_icmp_eq (tgt := 25) h dX7_possibleMoves_19 (by decide) (q := 22) rfl hf2 (fun hc3 hf4 => ?_) (fun hc3 hf4 => ?_)
    · skip
      refine x_iinc (v := (x3 + 1)) (lv' := [(3, .int (x3 + 1)), (0, .ref (gA g 0)), (1, .int x1), (2, .int x2)]) (j := 3) h dX7_possibleMoves_25 rfl rfl hL (by decide) rfl (q := 28) rfl ?_
      refine x_goto (q := 4) h dX7_possibleMoves_28 (by decide) ?_
      refine x_sub (lv' := [(0, .ref (gA g 0)), (1, .int x1), (2, .int x2), (3, .int (x3 + 1))]) [1, 2, 3, 0] rfl ?_
      exact hk4 (x2, (x3 + 1)) hf4
    · skip
      refine x_iinc (v := (x2 + 1)) (lv' := [(2, .int (x2 + 1)), (0, .ref (gA g 0)), (1, .int x1), (3, .int x3)]) (j := 2) h dX7_possibleMoves_22 rfl rfl hL (by decide) rfl (q := 25) rfl ?_
      refine x_iinc (v := (x3 + 1)) (lv' := [(3, .int (x3 + 1)), (2, .int (x2 + 1)), (0, .ref (gA g 0)), (1, .int x1)]) (j := 3) h dX7_possibleMoves_25 rfl rfl hL (by decide) rfl (q := 28) rfl ?_
      refine x_goto (q := 4) h dX7_possibleMoves_28 (by decide) ?_
      refine x_sub (lv' := [(0, .ref (gA g 0)), (1, .int x1), (2, .int (x2 + 1)), (3, .int (x3 + 1))]) [2, 3, 1, 0] rfl ?_
      exact hk4 ((x2 + 1), (x3 + 1)) hf4
set_option maxHeartbeats 4000000 in
set_option maxRecDepth 100000 in
theorem w_X7_possibleMoves_l4 {C : XC} {Q : State → Prop} {g : cG} (σ : St) (x1 : Int32) (o : Int32) (h : XOk C cX7_possibleMoves RX7 tG rmX7_possibleMoves) (hg : XG C g) (hL : C.2.2.2.2.2.2.2.2.2.2.2.2.1 = 4) (hr : XEnd C (some .int) Q (XQ g (some (.int o)) σ) (cA g)) : ∀ (n : Nat) (z : Int32 × Int32), loopF (fun k z => m_X7_possibleMoves_b4 σ x1 z.1 z.2 k) n z = some o → Xs C (wW g) Q σ 4 [(0, .ref (gA g 0)), (1, .int x1), (2, .int z.1), (3, .int z.2)] [] := by
  intro n z hf
  refine loopF_ind (S := Int32 × Int32) (O := Int32) (step := (fun k z => m_X7_possibleMoves_b4 σ x1 z.1 z.2 k)) (o := o) (P := fun z => Xs C (wW g) Q σ 4 [(0, .ref (gA g 0)), (1, .int x1), (2, .int z.1), (3, .int z.2)] []) ?_ n z hf
  intro k hk z hf
  exact w_X7_possibleMoves_b4 σ x1 z.1 z.2 o h hg hL hr k hk hf
def m_X7_possibleMoves (σ : St) (x1 : Int32) : Option (Int32) :=
  loopF (fun k z => m_X7_possibleMoves_b4 σ x1 z.1 z.2 k) cFu (0, 0)
set_option maxHeartbeats 4000000 in
set_option maxRecDepth 100000 in
theorem w_X7_possibleMoves {C : XC} {Q : State → Prop} {g : cG} (σ : St) (x1 : Int32) (o : Int32) (h : XOk C cX7_possibleMoves RX7 tG rmX7_possibleMoves) (hg : XG C g) (hL : C.2.2.2.2.2.2.2.2.2.2.2.2.1 = 4) (hr : XEnd C (some .int) Q (XQ g (some (.int o)) σ) (cA g)) (hf : m_X7_possibleMoves σ x1 = some o) : Xs C (wW g) Q σ 0 [(0, .ref (gA g 0)), (1, .int x1)] [] := by
  unfold m_X7_possibleMoves at hf
  refine x_iconst (v := 0) h dX7_possibleMoves_0 (by decide) (q := 1) rfl ?_
  refine x_istore_n (lv' := [(2, .int 0), (0, .ref (gA g 0)), (1, .int x1)]) h dX7_possibleMoves_1 rfl hL (by decide) rfl (q := 2) rfl ?_
  refine x_iconst (v := 0) h dX7_possibleMoves_2 (by decide) (q := 3) rfl ?_
  refine x_istore_n (lv' := [(3, .int 0), (2, .int 0), (0, .ref (gA g 0)), (1, .int x1)]) h dX7_possibleMoves_3 rfl hL (by decide) rfl (q := 4) rfl ?_
  refine x_sub (lv' := [(0, .ref (gA g 0)), (1, .int x1), (2, .int 0), (3, .int 0)]) [2, 3, 1, 0] rfl ?_
  exact w_X7_possibleMoves_l4 σ x1 o h hg hL hr  cFu (0, 0) hf
theorem c_X7_possibleMoves (l : Launch) {g : cG} (hi : gInj g) (σ : St) (x1 : Int32) (o : Int32) (hf : m_X7_possibleMoves σ x1 = some o) : Met l yX7_possibleMoves (wT yX7_possibleMoves cX7_possibleMoves 4 (some .int)) rmX7_possibleMoves (va_Pc [.ref (gA g 0), .int x1] (XPre g σ)) (XQ g (some (.int o)) σ) 0 0 (cA g) :=
  X_met RX7 hi plX7 rfl (Nat.le_of_ble_eq_true rfl) rfl (fun _ _ _ h hg hL hr => w_X7_possibleMoves σ x1 o h hg hL hr hf)
abbrev rmX7_grow : Room := { frames := 4, cells := 0, slots := 0, locals := 88 }
theorem hdX7_grow : yX7_grow.cls = RX7 ∧ yX7_grow.cls ≠ "java/lang/invoke/MethodHandle" ∧ yX7_grow.cls ≠ "java/lang/invoke/VarHandle" ∧ (parseMethodDescriptor yX7_grow.desc).map (fun d => d.parameters.length) = some 0 := by decide +kernel
def m_X7_grow_b13 (σ : St) (x1 : Int32) (x2 : Int32) (k13 : (St × Int32) → Option (Int32 × St)) : Option (Int32 × St) :=
  if 4 ≤ x2 then (
    (m_X7_leadBack σ x1).bind fun u3 =>
    some (x1, (up u3 0 7 ((u3 0 7) + 1)))
  ) else (
    k13 ((m_X7_setPlannedAction (rPut σ 2 48 ((x1 * 4) + x2) 1) x1 x2 0), (x2 + 1))
  )
set_option maxHeartbeats 4000000 in
set_option maxRecDepth 100000 in
theorem w_X7_grow_b13 {C : XC} {Q : State → Prop} {g : cG} (σ : St) (x1 : Int32) (x2 : Int32) (o : Int32 × St) (h : XOk C cX7_grow RX7 tG rmX7_grow) (hg : XG C g) (hL : C.2.2.2.2.2.2.2.2.2.2.2.2.1 = 3) (hr : XEnd C (some .int) Q (XQ g (some (.int o.1)) o.2) (cA g)) (k13 : (St × Int32) → Option (Int32 × St)) (hk13 : ∀ z : St × Int32, k13 z = some o → Xs C (wW g) Q z.1 13 [(0, .ref (gA g 0)), (1, .int x1), (2, .int z.2)] []) (hf : m_X7_grow_b13 σ x1 x2 k13 = some o) : Xs C (wW g) Q σ 13 [(0, .ref (gA g 0)), (1, .int x1), (2, .int x2)] [] := by
  unfold m_X7_grow_b13 at hf
  refine x_iload_n h dX7_grow_13 rfl 2 rfl (q := 14) rfl ?_
  refine x_iconst (v := 4) h dX7_grow_14 (by decide) (q := 15) rfl ?_
  refine x_icmp_ge (tgt := 44) h dX7_grow_15 (by decide) (q := 18) rfl hf (fun hc1 hf2 => ?_) (fun hc1 hf2 => ?_)
  · skip
    refine x_aload_n h dX7_grow_44 rfl 0 rfl (q := 45) rfl ?_
    refine x_iload_n h dX7_grow_45 rfl 1 rfl (q := 46) rfl ?_
    obtain ⟨u3, hu3, hf4⟩ := bnd_inv hf2
    refine x_callVv (As := [.int x1]) (rest := []) h hg (c_X7_leadBack C.2.1 hg.2.1 σ x1 _ hu3) ml_X7_59 biX7_leadBack rfl rfl hdX7_leadBack ⟨Nat.le_of_ble_eq_true rfl, Nat.le_of_ble_eq_true rfl⟩ (by decide) (cE_0 g _) rfl rfl rfl (Nat.le_of_ble_eq_true rfl) dX7_grow_46 ?_
    refine x_aload_n h dX7_grow_49 rfl 0 rfl (q := 50) rfl ?_
    refine x_dup h dX7_grow_50 rfl (q := 51) rfl ?_
    refine x_get_X7_0_7 h hg kf_X7_24 nn_X7 dX7_grow_51 ?_
    refine x_iconst (v := 1) h dX7_grow_54 (by decide) (q := 55) rfl ?_
    refine x_iadd h dX7_grow_55 (q := 56) rfl ?_
    refine x_put_X7_0_7 h hg kf_X7_24 nn_X7 dX7_grow_56 ?_
    refine x_iload_n h dX7_grow_59 rfl 1 rfl (q := 60) rfl ?_
    have hz := Option.some.inj hf4
    subst hz
    exact x_iret h hg hr dX7_grow_60
  · skip
    refine x_aload_n h dX7_grow_18 rfl 0 rfl (q := 19) rfl ?_
    refine x_get_X7_0_4 h hg kf_X7_15 nn_X7 dX7_grow_19 ?_
    refine x_iload_n h dX7_grow_22 rfl 1 rfl (q := 23) rfl ?_
    refine x_iconst (v := 4) h dX7_grow_23 (by decide) (q := 24) rfl ?_
    refine x_imul h dX7_grow_24 (q := 25) rfl ?_
    refine x_iload_n h dX7_grow_25 rfl 2 rfl (q := 26) rfl ?_
    refine x_iadd h dX7_grow_26 (q := 27) rfl ?_
    refine x_iconst (v := 1) h dX7_grow_27 (by decide) (q := 28) rfl ?_
    refine x_callSv (As := [.ref (gA g 2), .int ((x1 * 4) + x2), .int 1]) (rest := []) h hg (c_X5_put C.2.1 hg.2.1 σ a_2 ((x1 * 4) + x2) 1) ml_X7_55 biX5_put rfl rfl hdX5_put ⟨Nat.le_of_ble_eq_true rfl, Nat.le_of_ble_eq_true rfl⟩ rfl rfl (Nat.le_of_ble_eq_true rfl) dX7_grow_28 ?_
    refine x_aload_n h dX7_grow_31 rfl 0 rfl (q := 32) rfl ?_
    refine x_iload_n h dX7_grow_32 rfl 1 rfl (q := 33) rfl ?_
    refine x_iload_n h dX7_grow_33 rfl 2 rfl (q := 34) rfl ?_
    refine x_iconst (v := 0) h dX7_grow_34 (by decide) (q := 35) rfl ?_
    refine x_callVv (As := [.int x1, .int x2, .int 0]) (rest := []) h hg (c_X7_setPlannedAction C.2.1 hg.2.1 (rPut σ 2 48 ((x1 * 4) + x2) 1) x1 x2 0 _ rfl) ml_X7_71 biX7_setPlannedAction rfl rfl hdX7_setPlannedAction ⟨Nat.le_of_ble_eq_true rfl, Nat.le_of_ble_eq_true rfl⟩ (by decide) (cE_0 g _) rfl rfl rfl (Nat.le_of_ble_eq_true rfl) dX7_grow_35 ?_
    refine x_iinc (v := (x2 + 1)) (lv' := [(2, .int (x2 + 1)), (0, .ref (gA g 0)), (1, .int x1)]) (j := 2) h dX7_grow_38 rfl rfl hL (by decide) rfl (q := 41) rfl ?_
    refine x_goto (q := 13) h dX7_grow_41 (by decide) ?_
    refine x_sub (lv' := [(0, .ref (gA g 0)), (1, .int x1), (2, .int (x2 + 1))]) [1, 2, 0] rfl ?_
    exact hk13 ((m_X7_setPlannedAction (rPut σ 2 48 ((x1 * 4) + x2) 1) x1 x2 0), (x2 + 1)) hf2
set_option maxHeartbeats 4000000 in
set_option maxRecDepth 100000 in
theorem w_X7_grow_l13 {C : XC} {Q : State → Prop} {g : cG} (x1 : Int32) (o : Int32 × St) (h : XOk C cX7_grow RX7 tG rmX7_grow) (hg : XG C g) (hL : C.2.2.2.2.2.2.2.2.2.2.2.2.1 = 3) (hr : XEnd C (some .int) Q (XQ g (some (.int o.1)) o.2) (cA g)) : ∀ (n : Nat) (z : St × Int32), loopF (fun k z => m_X7_grow_b13 z.1 x1 z.2 k) n z = some o → Xs C (wW g) Q z.1 13 [(0, .ref (gA g 0)), (1, .int x1), (2, .int z.2)] [] := by
  intro n z hf
  refine loopF_ind (S := St × Int32) (O := Int32 × St) (step := (fun k z => m_X7_grow_b13 z.1 x1 z.2 k)) (o := o) (P := fun z => Xs C (wW g) Q z.1 13 [(0, .ref (gA g 0)), (1, .int x1), (2, .int z.2)] []) ?_ n z hf
  intro k hk z hf
  exact w_X7_grow_b13 z.1 x1 z.2 o h hg hL hr k hk hf
def m_X7_grow (σ : St) : Option (Int32 × St) :=
  loopF (fun k z => m_X7_grow_b13 z.1 (σ 0 7) z.2 k) cFu ((m_X7_setLabelSet σ (σ 0 7) 0), 0)
set_option maxHeartbeats 4000000 in
set_option maxRecDepth 100000 in
theorem w_X7_grow {C : XC} {Q : State → Prop} {g : cG} (σ : St) (o : Int32 × St) (h : XOk C cX7_grow RX7 tG rmX7_grow) (hg : XG C g) (hL : C.2.2.2.2.2.2.2.2.2.2.2.2.1 = 3) (hr : XEnd C (some .int) Q (XQ g (some (.int o.1)) o.2) (cA g)) (hf : m_X7_grow σ = some o) : Xs C (wW g) Q σ 0 [(0, .ref (gA g 0))] [] := by
  unfold m_X7_grow at hf
  refine x_aload_n h dX7_grow_0 rfl 0 rfl (q := 1) rfl ?_
  refine x_get_X7_0_7 h hg kf_X7_24 nn_X7 dX7_grow_1 ?_
  refine x_istore_n (lv' := [(1, .int (σ 0 7)), (0, .ref (gA g 0))]) h dX7_grow_4 rfl hL (by decide) rfl (q := 5) rfl ?_
  refine x_aload_n h dX7_grow_5 rfl 1 rfl (q := 6) rfl ?_
  refine x_iload_n h dX7_grow_6 rfl 0 rfl (q := 7) rfl ?_
  refine x_iconst (v := 0) h dX7_grow_7 (by decide) (q := 8) rfl ?_
  refine x_callVv (As := [.int (σ 0 7), .int 0]) (rest := []) h hg (c_X7_setLabelSet C.2.1 hg.2.1 σ (σ 0 7) 0 _ rfl) ml_X7_67 biX7_setLabelSet rfl rfl hdX7_setLabelSet ⟨Nat.le_of_ble_eq_true rfl, Nat.le_of_ble_eq_true rfl⟩ (by decide) (cE_0 g _) rfl rfl rfl (Nat.le_of_ble_eq_true rfl) dX7_grow_8 ?_
  refine x_iconst (v := 0) h dX7_grow_11 (by decide) (q := 12) rfl ?_
  refine x_istore_n (lv' := [(2, .int 0), (1, .int (σ 0 7)), (0, .ref (gA g 0))]) h dX7_grow_12 rfl hL (by decide) rfl (q := 13) rfl ?_
  refine x_sub (lv' := [(0, .ref (gA g 0)), (1, .int (σ 0 7)), (2, .int 0)]) [2, 1, 0] rfl ?_
  exact w_X7_grow_l13 (σ 0 7) o h hg hL hr  cFu ((m_X7_setLabelSet σ (σ 0 7) 0), 0) hf
theorem c_X7_grow (l : Launch) {g : cG} (hi : gInj g) (σ : St) (o : Int32 × St) (hf : m_X7_grow σ = some o) : Met l yX7_grow (wT yX7_grow cX7_grow 3 (some .int)) rmX7_grow (va_Pc [.ref (gA g 0)] (XPre g σ)) (XQ g (some (.int o.1)) o.2) 0 0 (cA g) :=
  X_met RX7 hi plX7 rfl (Nat.le_of_ble_eq_true rfl) rfl (fun _ _ _ h hg hL hr => w_X7_grow σ o h hg hL hr hf)
abbrev rmX7_redirect : Room := { frames := 2, cells := 0, slots := 0, locals := 45 }
theorem hdX7_redirect : yX7_redirect.cls = RX7 ∧ yX7_redirect.cls ≠ "java/lang/invoke/MethodHandle" ∧ yX7_redirect.cls ≠ "java/lang/invoke/VarHandle" ∧ (parseMethodDescriptor yX7_redirect.desc).map (fun d => d.parameters.length) = some 4 := by decide +kernel
def m_X7_redirect_b53 (σ : St) (x1 : Int32) (x2 : Int32) (x3 : Int32) (x4 : Int32) (x5 : Int32) (x6 : Int32) (k6 : (St × Int32 × Int32) → Option (Int32 × St)) : Option (Int32 × St) :=
  k6 ((m_X7_setTarget σ x1 x6 x4), x5, (x6 + 1))
set_option maxHeartbeats 4000000 in
set_option maxRecDepth 100000 in
theorem w_X7_redirect_b53 {C : XC} {Q : State → Prop} {g : cG} (σ : St) (x1 : Int32) (x2 : Int32) (x3 : Int32) (x4 : Int32) (x5 : Int32) (x6 : Int32) (o : Int32 × St) (h : XOk C cX7_redirect RX7 tG rmX7_redirect) (hg : XG C g) (hL : C.2.2.2.2.2.2.2.2.2.2.2.2.1 = 8) (hr : XEnd C (some .int) Q (XQ g (some (.int o.1)) o.2) (cA g)) (k6 : (St × Int32 × Int32) → Option (Int32 × St)) (hk6 : ∀ z : St × Int32 × Int32, k6 z = some o → Xs C (wW g) Q z.1 6 [(0, .ref (gA g 0)), (1, .int x1), (2, .int x2), (3, .int x3), (4, .int x4), (5, .int z.2.1), (6, .int z.2.2)] []) (hf : m_X7_redirect_b53 σ x1 x2 x3 x4 x5 x6 k6 = some o) : Xs C (wW g) Q σ 53 [(0, .ref (gA g 0)), (1, .int x1), (2, .int x2), (3, .int x3), (4, .int x4), (5, .int x5), (6, .int x6)] [] := by
  unfold m_X7_redirect_b53 at hf
  refine x_aload_n h dX7_redirect_53 rfl 0 rfl (q := 54) rfl ?_
  refine x_iload_n h dX7_redirect_54 rfl 1 rfl (q := 55) rfl ?_
  refine x_iload h dX7_redirect_55 6 rfl (q := 57) rfl ?_
  refine x_iload h dX7_redirect_57 4 rfl (q := 59) rfl ?_
  refine x_callVv (As := [.int x1, .int x6, .int x4]) (rest := []) h hg (c_X7_setTarget C.2.1 hg.2.1 σ x1 x6 x4 _ rfl) ml_X7_78 biX7_setTarget rfl rfl hdX7_setTarget ⟨Nat.le_of_ble_eq_true rfl, Nat.le_of_ble_eq_true rfl⟩ (by decide) (cE_0 g _) rfl rfl rfl (Nat.le_of_ble_eq_true rfl) dX7_redirect_59 ?_
  refine x_iinc (v := (x6 + 1)) (lv' := [(6, .int (x6 + 1)), (0, .ref (gA g 0)), (1, .int x1), (2, .int x2), (3, .int x3), (4, .int x4), (5, .int x5)]) (j := 6) h dX7_redirect_62 rfl rfl hL (by decide) rfl (q := 65) rfl ?_
  refine x_goto (q := 6) h dX7_redirect_65 (by decide) ?_
  refine x_sub (lv' := [(0, .ref (gA g 0)), (1, .int x1), (2, .int x2), (3, .int x3), (4, .int x4), (5, .int x5), (6, .int (x6 + 1))]) [1, 2, 3, 4, 5, 6, 0] rfl ?_
  exact hk6 ((m_X7_setTarget σ x1 x6 x4), x5, (x6 + 1)) hf
def m_X7_redirect_b6 (σ : St) (x1 : Int32) (x2 : Int32) (x3 : Int32) (x4 : Int32) (x5 : Int32) (x6 : Int32) (k6 : (St × Int32 × Int32) → Option (Int32 × St)) : Option (Int32 × St) :=
  if (σ 0 2) ≤ x6 then (
    some (x5, σ)
  ) else (
    if (m_X7_target σ x1 x6) = (-1) then (
      k6 (σ, x5, (x6 + 1))
    ) else (
      (m_X7_actionIn x6 x2).bind fun u5 =>
      if u5 = x3 then (
        if (m_X7_target σ x1 x6) = x4 then (
          m_X7_redirect_b53 σ x1 x2 x3 x4 x5 x6 k6
        ) else (
          m_X7_redirect_b53 σ x1 x2 x3 x4 (x5 + 1) x6 k6
        )
      ) else (
        k6 (σ, x5, (x6 + 1))
      )
    )
  )
set_option maxHeartbeats 4000000 in
set_option maxRecDepth 100000 in
theorem w_X7_redirect_b6 {C : XC} {Q : State → Prop} {g : cG} (σ : St) (x1 : Int32) (x2 : Int32) (x3 : Int32) (x4 : Int32) (x5 : Int32) (x6 : Int32) (o : Int32 × St) (h : XOk C cX7_redirect RX7 tG rmX7_redirect) (hg : XG C g) (hL : C.2.2.2.2.2.2.2.2.2.2.2.2.1 = 8) (hr : XEnd C (some .int) Q (XQ g (some (.int o.1)) o.2) (cA g)) (k6 : (St × Int32 × Int32) → Option (Int32 × St)) (hk6 : ∀ z : St × Int32 × Int32, k6 z = some o → Xs C (wW g) Q z.1 6 [(0, .ref (gA g 0)), (1, .int x1), (2, .int x2), (3, .int x3), (4, .int x4), (5, .int z.2.1), (6, .int z.2.2)] []) (hf : m_X7_redirect_b6 σ x1 x2 x3 x4 x5 x6 k6 = some o) : Xs C (wW g) Q σ 6 [(0, .ref (gA g 0)), (1, .int x1), (2, .int x2), (3, .int x3), (4, .int x4), (5, .int x5), (6, .int x6)] [] := by
  unfold m_X7_redirect_b6 at hf
  refine x_iload h dX7_redirect_6 6 rfl (q := 8) rfl ?_
  refine x_aload_n h dX7_redirect_8 rfl 0 rfl (q := 9) rfl ?_
  refine x_get_X7_0_2 h hg kf_X7_34 nn_X7 dX7_redirect_9 ?_
  refine x_icmp_ge (tgt := 68) h dX7_redirect_12 (by decide) (q := 15) rfl hf (fun hc1 hf2 => ?_) (fun hc1 hf2 => ?_)
  · skip
    refine x_iload h dX7_redirect_68 5 rfl (q := 70) rfl ?_
    have hz := Option.some.inj hf2
    subst hz
    exact x_iret h hg hr dX7_redirect_70
  · skip
    refine x_aload_n h dX7_redirect_15 rfl 0 rfl (q := 16) rfl ?_
    refine x_iload_n h dX7_redirect_16 rfl 1 rfl (q := 17) rfl ?_
    refine x_iload h dX7_redirect_17 6 rfl (q := 19) rfl ?_
    refine x_callVi (As := [.int x1, .int x6]) (rest := []) h hg (c_X7_target C.2.1 hg.2.1 σ x1 x6 _ rfl) ml_X7_63 biX7_target rfl rfl hdX7_target ⟨Nat.le_of_ble_eq_true rfl, Nat.le_of_ble_eq_true rfl⟩ (by decide) (cE_0 g _) rfl rfl rfl (Nat.le_of_ble_eq_true rfl) dX7_redirect_19 ?_
    refine x_istore (lv' := [(7, .int (m_X7_target σ x1 x6)), (0, .ref (gA g 0)), (1, .int x1), (2, .int x2), (3, .int x3), (4, .int x4), (5, .int x5), (6, .int x6)]) h dX7_redirect_22 hL (by decide) rfl (q := 24) rfl ?_
    refine x_iload h dX7_redirect_24 0 rfl (q := 26) rfl ?_
    refine x_iconst (v := (-1)) h dX7_redirect_26 (by decide) (q := 27) rfl ?_
    refine x_icmp_eq (tgt := 62) h dX7_redirect_27 (by decide) (q := 30) rfl hf2 (fun hc3 hf4 => ?_) (fun hc3 hf4 => ?_)
    · skip
      refine x_iinc (v := (x6 + 1)) (lv' := [(6, .int (x6 + 1)), (7, .int (m_X7_target σ x1 x6)), (0, .ref (gA g 0)), (1, .int x1), (2, .int x2), (3, .int x3), (4, .int x4), (5, .int x5)]) (j := 7) h dX7_redirect_62 rfl rfl hL (by decide) rfl (q := 65) rfl ?_
      refine x_goto (q := 6) h dX7_redirect_65 (by decide) ?_
      refine x_sub (lv' := [(0, .ref (gA g 0)), (1, .int x1), (2, .int x2), (3, .int x3), (4, .int x4), (5, .int x5), (6, .int (x6 + 1))]) [2, 3, 4, 5, 6, 7, 0] rfl ?_
      exact hk6 (σ, x5, (x6 + 1)) hf4
    · skip
      refine x_iload h dX7_redirect_30 7 rfl (q := 32) rfl ?_
      refine x_iload_n h dX7_redirect_32 rfl 3 rfl (q := 33) rfl ?_
      obtain ⟨u5, hu5, hf6⟩ := bnd_inv hf4
      refine x_callPi (As := [.int x6, .int x2]) (rest := []) h (c_X7_actionIn C.2.1 x6 x2 _ hu5) ml_X7_75 biX7_actionIn rfl rfl hdX7_actionIn ⟨Nat.le_of_ble_eq_true rfl, Nat.le_of_ble_eq_true rfl⟩ rfl rfl (Nat.le_of_ble_eq_true rfl) dX7_redirect_33 ?_
      refine x_iload_n h dX7_redirect_36 rfl 4 rfl (q := 37) rfl ?_
      refine x_icmp_eq (tgt := 43) h dX7_redirect_37 (by decide) (q := 40) rfl hf6 (fun hc7 hf8 => ?_) (fun hc7 hf8 => ?_)
      · skip
        refine x_iload h dX7_redirect_43 0 rfl (q := 45) rfl ?_
        refine x_iload h dX7_redirect_45 5 rfl (q := 47) rfl ?_
        refine x_icmp_eq (tgt := 53) h dX7_redirect_47 (by decide) (q := 50) rfl hf8 (fun hc9 hf10 => ?_) (fun hc9 hf10 => ?_)
        · skip
          refine x_sub (lv' := [(0, .ref (gA g 0)), (1, .int x1), (2, .int x2), (3, .int x3), (4, .int x4), (5, .int x5), (6, .int x6)]) [1, 2, 3, 4, 5, 6, 7] rfl ?_
          exact w_X7_redirect_b53 σ x1 x2 x3 x4 x5 x6 o h hg hL hr k6 hk6 hf10
        · skip
          refine x_iinc (v := (x5 + 1)) (lv' := [(5, .int (x5 + 1)), (7, .int (m_X7_target σ x1 x6)), (0, .ref (gA g 0)), (1, .int x1), (2, .int x2), (3, .int x3), (4, .int x4), (6, .int x6)]) (j := 6) h dX7_redirect_50 rfl rfl hL (by decide) rfl (q := 53) rfl ?_
          refine x_sub (lv' := [(0, .ref (gA g 0)), (1, .int x1), (2, .int x2), (3, .int x3), (4, .int x4), (5, .int (x5 + 1)), (6, .int x6)]) [2, 3, 4, 5, 6, 0, 7] rfl ?_
          exact w_X7_redirect_b53 σ x1 x2 x3 x4 (x5 + 1) x6 o h hg hL hr k6 hk6 hf10
      · skip
        refine x_goto (q := 62) h dX7_redirect_40 (by decide) ?_
        refine x_iinc (v := (x6 + 1)) (lv' := [(6, .int (x6 + 1)), (7, .int (m_X7_target σ x1 x6)), (0, .ref (gA g 0)), (1, .int x1), (2, .int x2), (3, .int x3), (4, .int x4), (5, .int x5)]) (j := 7) h dX7_redirect_62 rfl rfl hL (by decide) rfl (q := 65) rfl ?_
        refine x_goto (q := 6) h dX7_redirect_65 (by decide) ?_
        refine x_sub (lv' := [(0, .ref (gA g 0)), (1, .int x1), (2, .int x2), (3, .int x3), (4, .int x4), (5, .int x5), (6, .int (x6 + 1))]) [2, 3, 4, 5, 6, 7, 0] rfl ?_
        exact hk6 (σ, x5, (x6 + 1)) hf8
set_option maxHeartbeats 4000000 in
set_option maxRecDepth 100000 in
theorem w_X7_redirect_l6 {C : XC} {Q : State → Prop} {g : cG} (x1 : Int32) (x2 : Int32) (x3 : Int32) (x4 : Int32) (o : Int32 × St) (h : XOk C cX7_redirect RX7 tG rmX7_redirect) (hg : XG C g) (hL : C.2.2.2.2.2.2.2.2.2.2.2.2.1 = 8) (hr : XEnd C (some .int) Q (XQ g (some (.int o.1)) o.2) (cA g)) : ∀ (n : Nat) (z : St × Int32 × Int32), loopF (fun k z => m_X7_redirect_b6 z.1 x1 x2 x3 x4 z.2.1 z.2.2 k) n z = some o → Xs C (wW g) Q z.1 6 [(0, .ref (gA g 0)), (1, .int x1), (2, .int x2), (3, .int x3), (4, .int x4), (5, .int z.2.1), (6, .int z.2.2)] [] := by
  intro n z hf
  refine loopF_ind (S := St × Int32 × Int32) (O := Int32 × St) (step := (fun k z => m_X7_redirect_b6 z.1 x1 x2 x3 x4 z.2.1 z.2.2 k)) (o := o) (P := fun z => Xs C (wW g) Q z.1 6 [(0, .ref (gA g 0)), (1, .int x1), (2, .int x2), (3, .int x3), (4, .int x4), (5, .int z.2.1), (6, .int z.2.2)] []) ?_ n z hf
  intro k hk z hf
  exact w_X7_redirect_b6 z.1 x1 x2 x3 x4 z.2.1 z.2.2 o h hg hL hr k hk hf
def m_X7_redirect (σ : St) (x1 : Int32) (x2 : Int32) (x3 : Int32) (x4 : Int32) : Option (Int32 × St) :=
  loopF (fun k z => m_X7_redirect_b6 z.1 x1 x2 x3 x4 z.2.1 z.2.2 k) cFu (σ, 0, 0)
set_option maxHeartbeats 4000000 in
set_option maxRecDepth 100000 in
theorem w_X7_redirect {C : XC} {Q : State → Prop} {g : cG} (σ : St) (x1 : Int32) (x2 : Int32) (x3 : Int32) (x4 : Int32) (o : Int32 × St) (h : XOk C cX7_redirect RX7 tG rmX7_redirect) (hg : XG C g) (hL : C.2.2.2.2.2.2.2.2.2.2.2.2.1 = 8) (hr : XEnd C (some .int) Q (XQ g (some (.int o.1)) o.2) (cA g)) (hf : m_X7_redirect σ x1 x2 x3 x4 = some o) : Xs C (wW g) Q σ 0 [(0, .ref (gA g 0)), (1, .int x1), (2, .int x2), (3, .int x3), (4, .int x4)] [] := by
  unfold m_X7_redirect at hf
  refine x_iconst (v := 0) h dX7_redirect_0 (by decide) (q := 1) rfl ?_
  refine x_istore (lv' := [(5, .int 0), (0, .ref (gA g 0)), (1, .int x1), (2, .int x2), (3, .int x3), (4, .int x4)]) h dX7_redirect_1 hL (by decide) rfl (q := 3) rfl ?_
  refine x_iconst (v := 0) h dX7_redirect_3 (by decide) (q := 4) rfl ?_
  refine x_istore (lv' := [(6, .int 0), (5, .int 0), (0, .ref (gA g 0)), (1, .int x1), (2, .int x2), (3, .int x3), (4, .int x4)]) h dX7_redirect_4 hL (by decide) rfl (q := 6) rfl ?_
  refine x_sub (lv' := [(0, .ref (gA g 0)), (1, .int x1), (2, .int x2), (3, .int x3), (4, .int x4), (5, .int 0), (6, .int 0)]) [2, 3, 4, 5, 6, 1, 0] rfl ?_
  exact w_X7_redirect_l6 x1 x2 x3 x4 o h hg hL hr  cFu (σ, 0, 0) hf
theorem c_X7_redirect (l : Launch) {g : cG} (hi : gInj g) (σ : St) (x1 : Int32) (x2 : Int32) (x3 : Int32) (x4 : Int32) (o : Int32 × St) (hf : m_X7_redirect σ x1 x2 x3 x4 = some o) : Met l yX7_redirect (wT yX7_redirect cX7_redirect 8 (some .int)) rmX7_redirect (va_Pc [.ref (gA g 0), .int x1, .int x2, .int x3, .int x4] (XPre g σ)) (XQ g (some (.int o.1)) o.2) 0 0 (cA g) :=
  X_met RX7 hi plX7 rfl (Nat.le_of_ble_eq_true rfl) rfl (fun _ _ _ h hg hL hr => w_X7_redirect σ x1 x2 x3 x4 o h hg hL hr hf)
abbrev rmX7_mix : Room := { frames := 2, cells := 0, slots := 0, locals := 43 }
theorem hdX7_mix : yX7_mix.cls = RX7 ∧ yX7_mix.cls ≠ "java/lang/invoke/MethodHandle" ∧ yX7_mix.cls ≠ "java/lang/invoke/VarHandle" ∧ (parseMethodDescriptor yX7_mix.desc).map (fun d => d.parameters.length) = some 1 := by decide +kernel
def m_X7_mix_b91 (σ : St) (y3 : Int64) (x5 : Int32) (x6 : Int32) (k15 : (Int64 × Int32) → Option (Int64)) (k91 : (Int64 × Int32) → Option (Int64)) : Option (Int64) :=
  if (σ 0 2) ≤ x6 then (
    k15 (y3, (x5 + 1))
  ) else (
    if (m_X7_target σ x5 x6) = (-1) then (
      k91 (y3, (x6 + 1))
    ) else (
      k91 (((y3 * 31) + ((m_X7_target σ x5 x6)).toInt64), (x6 + 1))
    )
  )
set_option maxHeartbeats 4000000 in
set_option maxRecDepth 100000 in
theorem w_X7_mix_b91 {C : XC} {Q : State → Prop} {g : cG} (σ : St) (y3 : Int64) (x5 : Int32) (x6 : Int32) (o : Int64) (h : XOk C cX7_mix RX7 tG rmX7_mix) (hg : XG C g) (hL : C.2.2.2.2.2.2.2.2.2.2.2.2.1 = 8) (hr : XEnd C (some .long) Q (XQ g (some (.long o)) σ) (cA g)) (k15 : (Int64 × Int32) → Option (Int64)) (k91 : (Int64 × Int32) → Option (Int64)) (hk15 : ∀ z : Int64 × Int32, k15 z = some o → Xs C (wW g) Q σ 15 [(0, .ref (gA g 0)), (3, .long z.1), (5, .int z.2)] []) (hk91 : ∀ z : Int64 × Int32, k91 z = some o → Xs C (wW g) Q σ 91 [(0, .ref (gA g 0)), (3, .long z.1), (5, .int x5), (6, .int z.2)] []) (hf : m_X7_mix_b91 σ y3 x5 x6 k15 k91 = some o) : Xs C (wW g) Q σ 91 [(0, .ref (gA g 0)), (3, .long y3), (5, .int x5), (6, .int x6)] [] := by
  unfold m_X7_mix_b91 at hf
  refine x_iload h dX7_mix_91 3 rfl (q := 93) rfl ?_
  refine x_aload_n h dX7_mix_93 rfl 0 rfl (q := 94) rfl ?_
  refine x_get_X7_0_2 h hg kf_X7_34 nn_X7 dX7_mix_94 ?_
  refine x_icmp_ge (tgt := 132) h dX7_mix_97 (by decide) (q := 100) rfl hf (fun hc1 hf2 => ?_) (fun hc1 hf2 => ?_)
  · skip
    refine x_iinc (v := (x5 + 1)) (lv' := [(5, .int (x5 + 1)), (0, .ref (gA g 0)), (3, .long y3), (6, .int x6)]) (j := 2) h dX7_mix_132 rfl rfl hL (by decide) rfl (q := 135) rfl ?_
    refine x_goto (q := 15) h dX7_mix_135 (by decide) ?_
    refine x_sub (lv' := [(0, .ref (gA g 0)), (3, .long y3), (5, .int (x5 + 1))]) [1, 2, 0] rfl ?_
    exact hk15 (y3, (x5 + 1)) hf2
  · skip
    refine x_aload_n h dX7_mix_100 rfl 0 rfl (q := 101) rfl ?_
    refine x_iload h dX7_mix_101 2 rfl (q := 103) rfl ?_
    refine x_iload h dX7_mix_103 3 rfl (q := 105) rfl ?_
    refine x_callVi (As := [.int x5, .int x6]) (rest := []) h hg (c_X7_target C.2.1 hg.2.1 σ x5 x6 _ rfl) ml_X7_63 biX7_target rfl rfl hdX7_target ⟨Nat.le_of_ble_eq_true rfl, Nat.le_of_ble_eq_true rfl⟩ (by decide) (cE_0 g _) rfl rfl rfl (Nat.le_of_ble_eq_true rfl) dX7_mix_105 ?_
    refine x_istore (lv' := [(7, .int (m_X7_target σ x5 x6)), (0, .ref (gA g 0)), (3, .long y3), (5, .int x5), (6, .int x6)]) h dX7_mix_108 hL (by decide) rfl (q := 110) rfl ?_
    refine x_iload h dX7_mix_110 0 rfl (q := 112) rfl ?_
    refine x_iconst (v := (-1)) h dX7_mix_112 (by decide) (q := 113) rfl ?_
    refine x_icmp_eq (tgt := 126) h dX7_mix_113 (by decide) (q := 116) rfl hf2 (fun hc3 hf4 => ?_) (fun hc3 hf4 => ?_)
    · skip
      refine x_iinc (v := (x6 + 1)) (lv' := [(6, .int (x6 + 1)), (7, .int (m_X7_target σ x5 x6)), (0, .ref (gA g 0)), (3, .long y3), (5, .int x5)]) (j := 4) h dX7_mix_126 rfl rfl hL (by decide) rfl (q := 129) rfl ?_
      refine x_goto (q := 91) h dX7_mix_129 (by decide) ?_
      refine x_sub (lv' := [(0, .ref (gA g 0)), (3, .long y3), (5, .int x5), (6, .int (x6 + 1))]) [2, 3, 4, 0] rfl ?_
      exact hk91 (y3, (x6 + 1)) hf4
    · skip
      refine x_lload_n h dX7_mix_116 rfl 2 rfl (q := 117) rfl ?_
      refine x_ldc2 (v := 31) h kc_X7_81 dX7_mix_117 (q := 120) rfl ?_
      refine x_lmul h dX7_mix_120 (q := 121) rfl ?_
      refine x_iload h dX7_mix_121 0 rfl (q := 123) rfl ?_
      refine x_i2l h dX7_mix_123 (q := 124) rfl ?_
      refine x_ladd h dX7_mix_124 (q := 125) rfl ?_
      refine x_lstore_n (lv' := [(3, .long ((y3 * 31) + ((m_X7_target σ x5 x6)).toInt64)), (7, .int (m_X7_target σ x5 x6)), (0, .ref (gA g 0)), (5, .int x5), (6, .int x6)]) h dX7_mix_125 rfl hL (by decide) rfl (q := 126) rfl ?_
      refine x_iinc (v := (x6 + 1)) (lv' := [(6, .int (x6 + 1)), (3, .long ((y3 * 31) + ((m_X7_target σ x5 x6)).toInt64)), (7, .int (m_X7_target σ x5 x6)), (0, .ref (gA g 0)), (5, .int x5)]) (j := 4) h dX7_mix_126 rfl rfl hL (by decide) rfl (q := 129) rfl ?_
      refine x_goto (q := 91) h dX7_mix_129 (by decide) ?_
      refine x_sub (lv' := [(0, .ref (gA g 0)), (3, .long ((y3 * 31) + ((m_X7_target σ x5 x6)).toInt64)), (5, .int x5), (6, .int (x6 + 1))]) [3, 1, 4, 0] rfl ?_
      exact hk91 (((y3 * 31) + ((m_X7_target σ x5 x6)).toInt64), (x6 + 1)) hf4
set_option maxHeartbeats 4000000 in
set_option maxRecDepth 100000 in
theorem w_X7_mix_l91 {C : XC} {Q : State → Prop} {g : cG} (σ : St) (x5 : Int32) (o : Int64) (h : XOk C cX7_mix RX7 tG rmX7_mix) (hg : XG C g) (hL : C.2.2.2.2.2.2.2.2.2.2.2.2.1 = 8) (hr : XEnd C (some .long) Q (XQ g (some (.long o)) σ) (cA g)) (k15 : (Int64 × Int32) → Option (Int64)) (hk15 : ∀ z : Int64 × Int32, k15 z = some o → Xs C (wW g) Q σ 15 [(0, .ref (gA g 0)), (3, .long z.1), (5, .int z.2)] []) : ∀ (n : Nat) (z : Int64 × Int32), loopF (fun k z => m_X7_mix_b91 σ z.1 x5 z.2 k15 k) n z = some o → Xs C (wW g) Q σ 91 [(0, .ref (gA g 0)), (3, .long z.1), (5, .int x5), (6, .int z.2)] [] := by
  intro n z hf
  refine loopF_ind (S := Int64 × Int32) (O := Int64) (step := (fun k z => m_X7_mix_b91 σ z.1 x5 z.2 k15 k)) (o := o) (P := fun z => Xs C (wW g) Q σ 91 [(0, .ref (gA g 0)), (3, .long z.1), (5, .int x5), (6, .int z.2)] []) ?_ n z hf
  intro k hk z hf
  exact w_X7_mix_b91 σ z.1 x5 z.2 o h hg hL hr k15 k hk15 hk hf
def m_X7_mix_b41 (σ : St) (y3 : Int64) (x5 : Int32) (x6 : Int32) (k15 : (Int64 × Int32) → Option (Int64)) (k41 : (Int64 × Int32) → Option (Int64)) : Option (Int64) :=
  if (σ 0 0) ≤ x6 then (
    loopF (fun k z => m_X7_mix_b91 σ z.1 x5 z.2 k15 k) cFu (y3, 0)
  ) else (
    k41 (((((y3 * 31) + ((m_X7_actionCount σ x5 x6)).toInt64) * 31) + ((m_X7_plannedAction σ x5 x6)).toInt64), (x6 + 1))
  )
set_option maxHeartbeats 4000000 in
set_option maxRecDepth 100000 in
theorem w_X7_mix_b41 {C : XC} {Q : State → Prop} {g : cG} (σ : St) (y3 : Int64) (x5 : Int32) (x6 : Int32) (o : Int64) (h : XOk C cX7_mix RX7 tG rmX7_mix) (hg : XG C g) (hL : C.2.2.2.2.2.2.2.2.2.2.2.2.1 = 8) (hr : XEnd C (some .long) Q (XQ g (some (.long o)) σ) (cA g)) (k15 : (Int64 × Int32) → Option (Int64)) (k41 : (Int64 × Int32) → Option (Int64)) (hk15 : ∀ z : Int64 × Int32, k15 z = some o → Xs C (wW g) Q σ 15 [(0, .ref (gA g 0)), (3, .long z.1), (5, .int z.2)] []) (hk41 : ∀ z : Int64 × Int32, k41 z = some o → Xs C (wW g) Q σ 41 [(0, .ref (gA g 0)), (3, .long z.1), (5, .int x5), (6, .int z.2)] []) (hf : m_X7_mix_b41 σ y3 x5 x6 k15 k41 = some o) : Xs C (wW g) Q σ 41 [(0, .ref (gA g 0)), (3, .long y3), (5, .int x5), (6, .int x6)] [] := by
  unfold m_X7_mix_b41 at hf
  refine x_iload h dX7_mix_41 3 rfl (q := 43) rfl ?_
  refine x_aload_n h dX7_mix_43 rfl 0 rfl (q := 44) rfl ?_
  refine x_get_X7_0_0 h hg kf_X7_28 nn_X7 dX7_mix_44 ?_
  refine x_icmp_ge (tgt := 88) h dX7_mix_47 (by decide) (q := 50) rfl hf (fun hc1 hf2 => ?_) (fun hc1 hf2 => ?_)
  · skip
    refine x_iconst (v := 0) h dX7_mix_88 (by decide) (q := 89) rfl ?_
    refine x_istore (lv' := [(6, .int 0), (0, .ref (gA g 0)), (3, .long y3), (5, .int x5)]) h dX7_mix_89 hL (by decide) rfl (q := 91) rfl ?_
    refine x_sub (lv' := [(0, .ref (gA g 0)), (3, .long y3), (5, .int x5), (6, .int 0)]) [1, 2, 3, 0] rfl ?_
    exact w_X7_mix_l91 σ x5 o h hg hL hr k15 hk15  cFu (y3, 0) hf2
  · skip
    refine x_lload_n h dX7_mix_50 rfl 1 rfl (q := 51) rfl ?_
    refine x_ldc2 (v := 31) h kc_X7_81 dX7_mix_51 (q := 54) rfl ?_
    refine x_lmul h dX7_mix_54 (q := 55) rfl ?_
    refine x_aload_n h dX7_mix_55 rfl 0 rfl (q := 56) rfl ?_
    refine x_iload h dX7_mix_56 2 rfl (q := 58) rfl ?_
    refine x_iload h dX7_mix_58 3 rfl (q := 60) rfl ?_
    refine x_callVi (As := [.int x5, .int x6]) (rest := [.long (y3 * 31)]) h hg (c_X7_actionCount C.2.1 hg.2.1 σ x5 x6 _ rfl) ml_X7_87 biX7_actionCount rfl rfl hdX7_actionCount ⟨Nat.le_of_ble_eq_true rfl, Nat.le_of_ble_eq_true rfl⟩ (by decide) (cE_0 g _) rfl rfl rfl (Nat.le_of_ble_eq_true rfl) dX7_mix_60 ?_
    refine x_i2l h dX7_mix_63 (q := 64) rfl ?_
    refine x_ladd h dX7_mix_64 (q := 65) rfl ?_
    refine x_lstore_n (lv' := [(3, .long ((y3 * 31) + ((m_X7_actionCount σ x5 x6)).toInt64)), (0, .ref (gA g 0)), (5, .int x5), (6, .int x6)]) h dX7_mix_65 rfl hL (by decide) rfl (q := 66) rfl ?_
    refine x_lload_n h dX7_mix_66 rfl 0 rfl (q := 67) rfl ?_
    refine x_ldc2 (v := 31) h kc_X7_81 dX7_mix_67 (q := 70) rfl ?_
    refine x_lmul h dX7_mix_70 (q := 71) rfl ?_
    refine x_aload_n h dX7_mix_71 rfl 1 rfl (q := 72) rfl ?_
    refine x_iload h dX7_mix_72 2 rfl (q := 74) rfl ?_
    refine x_iload h dX7_mix_74 3 rfl (q := 76) rfl ?_
    refine x_callVi (As := [.int x5, .int x6]) (rest := [.long (((y3 * 31) + ((m_X7_actionCount σ x5 x6)).toInt64) * 31)]) h hg (c_X7_plannedAction C.2.1 hg.2.1 σ x5 x6 _ rfl) ml_X7_90 biX7_plannedAction rfl rfl hdX7_plannedAction ⟨Nat.le_of_ble_eq_true rfl, Nat.le_of_ble_eq_true rfl⟩ (by decide) (cE_0 g _) rfl rfl rfl (Nat.le_of_ble_eq_true rfl) dX7_mix_76 ?_
    refine x_i2l h dX7_mix_79 (q := 80) rfl ?_
    refine x_ladd h dX7_mix_80 (q := 81) rfl ?_
    refine x_lstore_n (lv' := [(3, .long ((((y3 * 31) + ((m_X7_actionCount σ x5 x6)).toInt64) * 31) + ((m_X7_plannedAction σ x5 x6)).toInt64)), (0, .ref (gA g 0)), (5, .int x5), (6, .int x6)]) h dX7_mix_81 rfl hL (by decide) rfl (q := 82) rfl ?_
    refine x_iinc (v := (x6 + 1)) (lv' := [(6, .int (x6 + 1)), (3, .long ((((y3 * 31) + ((m_X7_actionCount σ x5 x6)).toInt64) * 31) + ((m_X7_plannedAction σ x5 x6)).toInt64)), (0, .ref (gA g 0)), (5, .int x5)]) (j := 3) h dX7_mix_82 rfl rfl hL (by decide) rfl (q := 85) rfl ?_
    refine x_goto (q := 41) h dX7_mix_85 (by decide) ?_
    refine x_sub (lv' := [(0, .ref (gA g 0)), (3, .long ((((y3 * 31) + ((m_X7_actionCount σ x5 x6)).toInt64) * 31) + ((m_X7_plannedAction σ x5 x6)).toInt64)), (5, .int x5), (6, .int (x6 + 1))]) [2, 1, 3, 0] rfl ?_
    exact hk41 (((((y3 * 31) + ((m_X7_actionCount σ x5 x6)).toInt64) * 31) + ((m_X7_plannedAction σ x5 x6)).toInt64), (x6 + 1)) hf2
set_option maxHeartbeats 4000000 in
set_option maxRecDepth 100000 in
theorem w_X7_mix_l41 {C : XC} {Q : State → Prop} {g : cG} (σ : St) (x5 : Int32) (o : Int64) (h : XOk C cX7_mix RX7 tG rmX7_mix) (hg : XG C g) (hL : C.2.2.2.2.2.2.2.2.2.2.2.2.1 = 8) (hr : XEnd C (some .long) Q (XQ g (some (.long o)) σ) (cA g)) (k15 : (Int64 × Int32) → Option (Int64)) (hk15 : ∀ z : Int64 × Int32, k15 z = some o → Xs C (wW g) Q σ 15 [(0, .ref (gA g 0)), (3, .long z.1), (5, .int z.2)] []) : ∀ (n : Nat) (z : Int64 × Int32), loopF (fun k z => m_X7_mix_b41 σ z.1 x5 z.2 k15 k) n z = some o → Xs C (wW g) Q σ 41 [(0, .ref (gA g 0)), (3, .long z.1), (5, .int x5), (6, .int z.2)] [] := by
  intro n z hf
  refine loopF_ind (S := Int64 × Int32) (O := Int64) (step := (fun k z => m_X7_mix_b41 σ z.1 x5 z.2 k15 k)) (o := o) (P := fun z => Xs C (wW g) Q σ 41 [(0, .ref (gA g 0)), (3, .long z.1), (5, .int x5), (6, .int z.2)] []) ?_ n z hf
  intro k hk z hf
  exact w_X7_mix_b41 σ z.1 x5 z.2 o h hg hL hr k15 k hk15 hk hf
def m_X7_mix_b15 (σ : St) (y3 : Int64) (x5 : Int32) (k15 : (Int64 × Int32) → Option (Int64)) : Option (Int64) :=
  if (σ 0 7) ≤ x5 then (
    some y3
  ) else (
    loopF (fun k z => m_X7_mix_b41 σ z.1 x5 z.2 k15 k) cFu (((y3 * 31) + ((m_X7_labelSet σ x5)).toInt64), 0)
  )
set_option maxHeartbeats 4000000 in
set_option maxRecDepth 100000 in
theorem w_X7_mix_b15 {C : XC} {Q : State → Prop} {g : cG} (σ : St) (y3 : Int64) (x5 : Int32) (o : Int64) (h : XOk C cX7_mix RX7 tG rmX7_mix) (hg : XG C g) (hL : C.2.2.2.2.2.2.2.2.2.2.2.2.1 = 8) (hr : XEnd C (some .long) Q (XQ g (some (.long o)) σ) (cA g)) (k15 : (Int64 × Int32) → Option (Int64)) (hk15 : ∀ z : Int64 × Int32, k15 z = some o → Xs C (wW g) Q σ 15 [(0, .ref (gA g 0)), (3, .long z.1), (5, .int z.2)] []) (hf : m_X7_mix_b15 σ y3 x5 k15 = some o) : Xs C (wW g) Q σ 15 [(0, .ref (gA g 0)), (3, .long y3), (5, .int x5)] [] := by
  unfold m_X7_mix_b15 at hf
  refine x_iload h dX7_mix_15 2 rfl (q := 17) rfl ?_
  refine x_aload_n h dX7_mix_17 rfl 0 rfl (q := 18) rfl ?_
  refine x_get_X7_0_7 h hg kf_X7_24 nn_X7 dX7_mix_18 ?_
  refine x_icmp_ge (tgt := 138) h dX7_mix_21 (by decide) (q := 24) rfl hf (fun hc1 hf2 => ?_) (fun hc1 hf2 => ?_)
  · skip
    refine x_lload_n h dX7_mix_138 rfl 1 rfl (q := 139) rfl ?_
    have hz := Option.some.inj hf2
    subst hz
    exact x_lret h hg hr dX7_mix_139
  · skip
    refine x_lload_n h dX7_mix_24 rfl 1 rfl (q := 25) rfl ?_
    refine x_ldc2 (v := 31) h kc_X7_81 dX7_mix_25 (q := 28) rfl ?_
    refine x_lmul h dX7_mix_28 (q := 29) rfl ?_
    refine x_aload_n h dX7_mix_29 rfl 0 rfl (q := 30) rfl ?_
    refine x_iload h dX7_mix_30 2 rfl (q := 32) rfl ?_
    refine x_callVi (As := [.int x5]) (rest := [.long (y3 * 31)]) h hg (c_X7_labelSet C.2.1 hg.2.1 σ x5 _ rfl) ml_X7_83 biX7_labelSet rfl rfl hdX7_labelSet ⟨Nat.le_of_ble_eq_true rfl, Nat.le_of_ble_eq_true rfl⟩ (by decide) (cE_0 g _) rfl rfl rfl (Nat.le_of_ble_eq_true rfl) dX7_mix_32 ?_
    refine x_i2l h dX7_mix_35 (q := 36) rfl ?_
    refine x_ladd h dX7_mix_36 (q := 37) rfl ?_
    refine x_lstore_n (lv' := [(3, .long ((y3 * 31) + ((m_X7_labelSet σ x5)).toInt64)), (0, .ref (gA g 0)), (5, .int x5)]) h dX7_mix_37 rfl hL (by decide) rfl (q := 38) rfl ?_
    refine x_iconst (v := 0) h dX7_mix_38 (by decide) (q := 39) rfl ?_
    refine x_istore (lv' := [(6, .int 0), (3, .long ((y3 * 31) + ((m_X7_labelSet σ x5)).toInt64)), (0, .ref (gA g 0)), (5, .int x5)]) h dX7_mix_39 hL (by decide) rfl (q := 41) rfl ?_
    refine x_sub (lv' := [(0, .ref (gA g 0)), (3, .long ((y3 * 31) + ((m_X7_labelSet σ x5)).toInt64)), (5, .int x5), (6, .int 0)]) [2, 1, 3, 0] rfl ?_
    exact w_X7_mix_l41 σ x5 o h hg hL hr k15 hk15  cFu (((y3 * 31) + ((m_X7_labelSet σ x5)).toInt64), 0) hf2
set_option maxHeartbeats 4000000 in
set_option maxRecDepth 100000 in
theorem w_X7_mix_l15 {C : XC} {Q : State → Prop} {g : cG} (σ : St) (o : Int64) (h : XOk C cX7_mix RX7 tG rmX7_mix) (hg : XG C g) (hL : C.2.2.2.2.2.2.2.2.2.2.2.2.1 = 8) (hr : XEnd C (some .long) Q (XQ g (some (.long o)) σ) (cA g)) : ∀ (n : Nat) (z : Int64 × Int32), loopF (fun k z => m_X7_mix_b15 σ z.1 z.2 k) n z = some o → Xs C (wW g) Q σ 15 [(0, .ref (gA g 0)), (3, .long z.1), (5, .int z.2)] [] := by
  intro n z hf
  refine loopF_ind (S := Int64 × Int32) (O := Int64) (step := (fun k z => m_X7_mix_b15 σ z.1 z.2 k)) (o := o) (P := fun z => Xs C (wW g) Q σ 15 [(0, .ref (gA g 0)), (3, .long z.1), (5, .int z.2)] []) ?_ n z hf
  intro k hk z hf
  exact w_X7_mix_b15 σ z.1 z.2 o h hg hL hr k hk hf
def m_X7_mix (σ : St) (y1 : Int64) : Option (Int64) :=
  loopF (fun k z => m_X7_mix_b15 σ z.1 z.2 k) cFu (((y1 * 31) + ((σ 0 7)).toInt64), 0)
set_option maxHeartbeats 4000000 in
set_option maxRecDepth 100000 in
theorem w_X7_mix {C : XC} {Q : State → Prop} {g : cG} (σ : St) (y1 : Int64) (o : Int64) (h : XOk C cX7_mix RX7 tG rmX7_mix) (hg : XG C g) (hL : C.2.2.2.2.2.2.2.2.2.2.2.2.1 = 8) (hr : XEnd C (some .long) Q (XQ g (some (.long o)) σ) (cA g)) (hf : m_X7_mix σ y1 = some o) : Xs C (wW g) Q σ 0 [(0, .ref (gA g 0)), (1, .long y1)] [] := by
  unfold m_X7_mix at hf
  refine x_lload_n h dX7_mix_0 rfl 1 rfl (q := 1) rfl ?_
  refine x_ldc2 (v := 31) h kc_X7_81 dX7_mix_1 (q := 4) rfl ?_
  refine x_lmul h dX7_mix_4 (q := 5) rfl ?_
  refine x_aload_n h dX7_mix_5 rfl 0 rfl (q := 6) rfl ?_
  refine x_get_X7_0_7 h hg kf_X7_24 nn_X7 dX7_mix_6 ?_
  refine x_i2l h dX7_mix_9 (q := 10) rfl ?_
  refine x_ladd h dX7_mix_10 (q := 11) rfl ?_
  refine x_lstore_n (lv' := [(3, .long ((y1 * 31) + ((σ 0 7)).toInt64)), (0, .ref (gA g 0)), (1, .long y1)]) h dX7_mix_11 rfl hL (by decide) rfl (q := 12) rfl ?_
  refine x_iconst (v := 0) h dX7_mix_12 (by decide) (q := 13) rfl ?_
  refine x_istore (lv' := [(5, .int 0), (3, .long ((y1 * 31) + ((σ 0 7)).toInt64)), (0, .ref (gA g 0)), (1, .long y1)]) h dX7_mix_13 hL (by decide) rfl (q := 15) rfl ?_
  refine x_sub (lv' := [(0, .ref (gA g 0)), (3, .long ((y1 * 31) + ((σ 0 7)).toInt64)), (5, .int 0)]) [2, 1, 0] rfl ?_
  exact w_X7_mix_l15 σ o h hg hL hr  cFu (((y1 * 31) + ((σ 0 7)).toInt64), 0) hf
theorem c_X7_mix (l : Launch) {g : cG} (hi : gInj g) (σ : St) (y1 : Int64) (o : Int64) (hf : m_X7_mix σ y1 = some o) : Met l yX7_mix (wT yX7_mix cX7_mix 8 (some .long)) rmX7_mix (va_Pc [.ref (gA g 0), .long y1] (XPre g σ)) (XQ g (some (.long o)) σ) 0 0 (cA g) :=
  X_met RX7 hi plX7 rfl (Nat.le_of_ble_eq_true rfl) rfl (fun _ _ _ h hg hL hr => w_X7_mix σ y1 o h hg hL hr hf)
abbrev rmJ6_bitCount_0f7a4 : Room := { frames := 0, cells := 0, slots := 0, locals := 0 }
theorem hdJ6_bitCount_0f7a4 : yJ6_bitCount_0f7a4.cls ≠ "java/lang/invoke/MethodHandle" ∧ yJ6_bitCount_0f7a4.cls ≠ "java/lang/invoke/VarHandle" ∧ (parseMethodDescriptor yJ6_bitCount_0f7a4.desc).map (fun d => d.parameters.length) = some 1 := by decide +kernel
def m_J6_bitCount_0f7a4 (x0 : Int32) : Int32 :=
  ((((((((x0 - (((x0).toUInt32 >>> ((1 : Int32).toUInt32 &&& Int32.toUInt32 31)).toInt32 &&& 1431655765)) &&& 858993459) + ((((x0 - (((x0).toUInt32 >>> ((1 : Int32).toUInt32 &&& Int32.toUInt32 31)).toInt32 &&& 1431655765))).toUInt32 >>> ((2 : Int32).toUInt32 &&& Int32.toUInt32 31)).toInt32 &&& 858993459)) + (((((x0 - (((x0).toUInt32 >>> ((1 : Int32).toUInt32 &&& Int32.toUInt32 31)).toInt32 &&& 1431655765)) &&& 858993459) + ((((x0 - (((x0).toUInt32 >>> ((1 : Int32).toUInt32 &&& Int32.toUInt32 31)).toInt32 &&& 1431655765))).toUInt32 >>> ((2 : Int32).toUInt32 &&& Int32.toUInt32 31)).toInt32 &&& 858993459))).toUInt32 >>> ((4 : Int32).toUInt32 &&& Int32.toUInt32 31)).toInt32) &&& 252645135) + (((((((x0 - (((x0).toUInt32 >>> ((1 : Int32).toUInt32 &&& Int32.toUInt32 31)).toInt32 &&& 1431655765)) &&& 858993459) + ((((x0 - (((x0).toUInt32 >>> ((1 : Int32).toUInt32 &&& Int32.toUInt32 31)).toInt32 &&& 1431655765))).toUInt32 >>> ((2 : Int32).toUInt32 &&& Int32.toUInt32 31)).toInt32 &&& 858993459)) + (((((x0 - (((x0).toUInt32 >>> ((1 : Int32).toUInt32 &&& Int32.toUInt32 31)).toInt32 &&& 1431655765)) &&& 858993459) + ((((x0 - (((x0).toUInt32 >>> ((1 : Int32).toUInt32 &&& Int32.toUInt32 31)).toInt32 &&& 1431655765))).toUInt32 >>> ((2 : Int32).toUInt32 &&& Int32.toUInt32 31)).toInt32 &&& 858993459))).toUInt32 >>> ((4 : Int32).toUInt32 &&& Int32.toUInt32 31)).toInt32) &&& 252645135)).toUInt32 >>> ((8 : Int32).toUInt32 &&& Int32.toUInt32 31)).toInt32) + ((((((((x0 - (((x0).toUInt32 >>> ((1 : Int32).toUInt32 &&& Int32.toUInt32 31)).toInt32 &&& 1431655765)) &&& 858993459) + ((((x0 - (((x0).toUInt32 >>> ((1 : Int32).toUInt32 &&& Int32.toUInt32 31)).toInt32 &&& 1431655765))).toUInt32 >>> ((2 : Int32).toUInt32 &&& Int32.toUInt32 31)).toInt32 &&& 858993459)) + (((((x0 - (((x0).toUInt32 >>> ((1 : Int32).toUInt32 &&& Int32.toUInt32 31)).toInt32 &&& 1431655765)) &&& 858993459) + ((((x0 - (((x0).toUInt32 >>> ((1 : Int32).toUInt32 &&& Int32.toUInt32 31)).toInt32 &&& 1431655765))).toUInt32 >>> ((2 : Int32).toUInt32 &&& Int32.toUInt32 31)).toInt32 &&& 858993459))).toUInt32 >>> ((4 : Int32).toUInt32 &&& Int32.toUInt32 31)).toInt32) &&& 252645135) + (((((((x0 - (((x0).toUInt32 >>> ((1 : Int32).toUInt32 &&& Int32.toUInt32 31)).toInt32 &&& 1431655765)) &&& 858993459) + ((((x0 - (((x0).toUInt32 >>> ((1 : Int32).toUInt32 &&& Int32.toUInt32 31)).toInt32 &&& 1431655765))).toUInt32 >>> ((2 : Int32).toUInt32 &&& Int32.toUInt32 31)).toInt32 &&& 858993459)) + (((((x0 - (((x0).toUInt32 >>> ((1 : Int32).toUInt32 &&& Int32.toUInt32 31)).toInt32 &&& 1431655765)) &&& 858993459) + ((((x0 - (((x0).toUInt32 >>> ((1 : Int32).toUInt32 &&& Int32.toUInt32 31)).toInt32 &&& 1431655765))).toUInt32 >>> ((2 : Int32).toUInt32 &&& Int32.toUInt32 31)).toInt32 &&& 858993459))).toUInt32 >>> ((4 : Int32).toUInt32 &&& Int32.toUInt32 31)).toInt32) &&& 252645135)).toUInt32 >>> ((8 : Int32).toUInt32 &&& Int32.toUInt32 31)).toInt32)).toUInt32 >>> ((16 : Int32).toUInt32 &&& Int32.toUInt32 31)).toInt32) &&& 63)
set_option maxHeartbeats 4000000 in
set_option maxRecDepth 100000 in
theorem w_J6_bitCount_0f7a4 {C : XC} {Q : State → Prop} {H0 : Heap} {σ : St} (x0 : Int32) (o : Int32) (h : XOk C cJ6_bitCount_0f7a4 RJ6 tG rmJ6_bitCount_0f7a4) (hH : H0 = C.2.2.2.2.1.heap) (hL : C.2.2.2.2.2.2.2.2.2.2.2.2.1 = 1) (hr : XEnd C (some .int) Q (XQp (some (.int o))) (fun _ => False)) (hf : m_J6_bitCount_0f7a4 x0 = o) : Xs C (fun _ H => H = H0) Q σ 0 [(0, .int x0)] [] := by
  unfold m_J6_bitCount_0f7a4 at hf
  refine x_iload_n h dJ6_bitCount_0f7a4_0 rfl 0 rfl (q := 1) rfl ?_
  refine x_iload_n h dJ6_bitCount_0f7a4_1 rfl 0 rfl (q := 2) rfl ?_
  refine x_iconst (v := 1) h dJ6_bitCount_0f7a4_2 (by decide) (q := 3) rfl ?_
  refine x_iushr h dJ6_bitCount_0f7a4_3 (q := 4) rfl ?_
  refine x_ldcw (v := 1431655765) h kc_J6_265 dJ6_bitCount_0f7a4_4 (q := 7) rfl ?_
  refine x_iand h dJ6_bitCount_0f7a4_7 (q := 8) rfl ?_
  refine x_isub h dJ6_bitCount_0f7a4_8 (q := 9) rfl ?_
  refine x_istore_n (lv' := [(0, .int (x0 - (((x0).toUInt32 >>> ((1 : Int32).toUInt32 &&& Int32.toUInt32 31)).toInt32 &&& 1431655765)))]) h dJ6_bitCount_0f7a4_9 rfl hL (by decide) rfl (q := 10) rfl ?_
  refine x_iload_n h dJ6_bitCount_0f7a4_10 rfl 0 rfl (q := 11) rfl ?_
  refine x_ldcw (v := 858993459) h kc_J6_266 dJ6_bitCount_0f7a4_11 (q := 14) rfl ?_
  refine x_iand h dJ6_bitCount_0f7a4_14 (q := 15) rfl ?_
  refine x_iload_n h dJ6_bitCount_0f7a4_15 rfl 0 rfl (q := 16) rfl ?_
  refine x_iconst (v := 2) h dJ6_bitCount_0f7a4_16 (by decide) (q := 17) rfl ?_
  refine x_iushr h dJ6_bitCount_0f7a4_17 (q := 18) rfl ?_
  refine x_ldcw (v := 858993459) h kc_J6_266 dJ6_bitCount_0f7a4_18 (q := 21) rfl ?_
  refine x_iand h dJ6_bitCount_0f7a4_21 (q := 22) rfl ?_
  refine x_iadd h dJ6_bitCount_0f7a4_22 (q := 23) rfl ?_
  refine x_istore_n (lv' := [(0, .int (((x0 - (((x0).toUInt32 >>> ((1 : Int32).toUInt32 &&& Int32.toUInt32 31)).toInt32 &&& 1431655765)) &&& 858993459) + ((((x0 - (((x0).toUInt32 >>> ((1 : Int32).toUInt32 &&& Int32.toUInt32 31)).toInt32 &&& 1431655765))).toUInt32 >>> ((2 : Int32).toUInt32 &&& Int32.toUInt32 31)).toInt32 &&& 858993459)))]) h dJ6_bitCount_0f7a4_23 rfl hL (by decide) rfl (q := 24) rfl ?_
  refine x_iload_n h dJ6_bitCount_0f7a4_24 rfl 0 rfl (q := 25) rfl ?_
  refine x_iload_n h dJ6_bitCount_0f7a4_25 rfl 0 rfl (q := 26) rfl ?_
  refine x_iconst (v := 4) h dJ6_bitCount_0f7a4_26 (by decide) (q := 27) rfl ?_
  refine x_iushr h dJ6_bitCount_0f7a4_27 (q := 28) rfl ?_
  refine x_iadd h dJ6_bitCount_0f7a4_28 (q := 29) rfl ?_
  refine x_ldcw (v := 252645135) h kc_J6_267 dJ6_bitCount_0f7a4_29 (q := 32) rfl ?_
  refine x_iand h dJ6_bitCount_0f7a4_32 (q := 33) rfl ?_
  refine x_istore_n (lv' := [(0, .int (((((x0 - (((x0).toUInt32 >>> ((1 : Int32).toUInt32 &&& Int32.toUInt32 31)).toInt32 &&& 1431655765)) &&& 858993459) + ((((x0 - (((x0).toUInt32 >>> ((1 : Int32).toUInt32 &&& Int32.toUInt32 31)).toInt32 &&& 1431655765))).toUInt32 >>> ((2 : Int32).toUInt32 &&& Int32.toUInt32 31)).toInt32 &&& 858993459)) + (((((x0 - (((x0).toUInt32 >>> ((1 : Int32).toUInt32 &&& Int32.toUInt32 31)).toInt32 &&& 1431655765)) &&& 858993459) + ((((x0 - (((x0).toUInt32 >>> ((1 : Int32).toUInt32 &&& Int32.toUInt32 31)).toInt32 &&& 1431655765))).toUInt32 >>> ((2 : Int32).toUInt32 &&& Int32.toUInt32 31)).toInt32 &&& 858993459))).toUInt32 >>> ((4 : Int32).toUInt32 &&& Int32.toUInt32 31)).toInt32) &&& 252645135))]) h dJ6_bitCount_0f7a4_33 rfl hL (by decide) rfl (q := 34) rfl ?_
  refine x_iload_n h dJ6_bitCount_0f7a4_34 rfl 0 rfl (q := 35) rfl ?_
  refine x_iload_n h dJ6_bitCount_0f7a4_35 rfl 0 rfl (q := 36) rfl ?_
  refine x_bipush (v := 8) h dJ6_bitCount_0f7a4_36 (by decide) (q := 38) rfl ?_
  refine x_iushr h dJ6_bitCount_0f7a4_38 (q := 39) rfl ?_
  refine x_iadd h dJ6_bitCount_0f7a4_39 (q := 40) rfl ?_
  refine x_istore_n (lv' := [(0, .int ((((((x0 - (((x0).toUInt32 >>> ((1 : Int32).toUInt32 &&& Int32.toUInt32 31)).toInt32 &&& 1431655765)) &&& 858993459) + ((((x0 - (((x0).toUInt32 >>> ((1 : Int32).toUInt32 &&& Int32.toUInt32 31)).toInt32 &&& 1431655765))).toUInt32 >>> ((2 : Int32).toUInt32 &&& Int32.toUInt32 31)).toInt32 &&& 858993459)) + (((((x0 - (((x0).toUInt32 >>> ((1 : Int32).toUInt32 &&& Int32.toUInt32 31)).toInt32 &&& 1431655765)) &&& 858993459) + ((((x0 - (((x0).toUInt32 >>> ((1 : Int32).toUInt32 &&& Int32.toUInt32 31)).toInt32 &&& 1431655765))).toUInt32 >>> ((2 : Int32).toUInt32 &&& Int32.toUInt32 31)).toInt32 &&& 858993459))).toUInt32 >>> ((4 : Int32).toUInt32 &&& Int32.toUInt32 31)).toInt32) &&& 252645135) + (((((((x0 - (((x0).toUInt32 >>> ((1 : Int32).toUInt32 &&& Int32.toUInt32 31)).toInt32 &&& 1431655765)) &&& 858993459) + ((((x0 - (((x0).toUInt32 >>> ((1 : Int32).toUInt32 &&& Int32.toUInt32 31)).toInt32 &&& 1431655765))).toUInt32 >>> ((2 : Int32).toUInt32 &&& Int32.toUInt32 31)).toInt32 &&& 858993459)) + (((((x0 - (((x0).toUInt32 >>> ((1 : Int32).toUInt32 &&& Int32.toUInt32 31)).toInt32 &&& 1431655765)) &&& 858993459) + ((((x0 - (((x0).toUInt32 >>> ((1 : Int32).toUInt32 &&& Int32.toUInt32 31)).toInt32 &&& 1431655765))).toUInt32 >>> ((2 : Int32).toUInt32 &&& Int32.toUInt32 31)).toInt32 &&& 858993459))).toUInt32 >>> ((4 : Int32).toUInt32 &&& Int32.toUInt32 31)).toInt32) &&& 252645135)).toUInt32 >>> ((8 : Int32).toUInt32 &&& Int32.toUInt32 31)).toInt32))]) h dJ6_bitCount_0f7a4_40 rfl hL (by decide) rfl (q := 41) rfl ?_
  refine x_iload_n h dJ6_bitCount_0f7a4_41 rfl 0 rfl (q := 42) rfl ?_
  refine x_iload_n h dJ6_bitCount_0f7a4_42 rfl 0 rfl (q := 43) rfl ?_
  refine x_bipush (v := 16) h dJ6_bitCount_0f7a4_43 (by decide) (q := 45) rfl ?_
  refine x_iushr h dJ6_bitCount_0f7a4_45 (q := 46) rfl ?_
  refine x_iadd h dJ6_bitCount_0f7a4_46 (q := 47) rfl ?_
  refine x_istore_n (lv' := [(0, .int (((((((x0 - (((x0).toUInt32 >>> ((1 : Int32).toUInt32 &&& Int32.toUInt32 31)).toInt32 &&& 1431655765)) &&& 858993459) + ((((x0 - (((x0).toUInt32 >>> ((1 : Int32).toUInt32 &&& Int32.toUInt32 31)).toInt32 &&& 1431655765))).toUInt32 >>> ((2 : Int32).toUInt32 &&& Int32.toUInt32 31)).toInt32 &&& 858993459)) + (((((x0 - (((x0).toUInt32 >>> ((1 : Int32).toUInt32 &&& Int32.toUInt32 31)).toInt32 &&& 1431655765)) &&& 858993459) + ((((x0 - (((x0).toUInt32 >>> ((1 : Int32).toUInt32 &&& Int32.toUInt32 31)).toInt32 &&& 1431655765))).toUInt32 >>> ((2 : Int32).toUInt32 &&& Int32.toUInt32 31)).toInt32 &&& 858993459))).toUInt32 >>> ((4 : Int32).toUInt32 &&& Int32.toUInt32 31)).toInt32) &&& 252645135) + (((((((x0 - (((x0).toUInt32 >>> ((1 : Int32).toUInt32 &&& Int32.toUInt32 31)).toInt32 &&& 1431655765)) &&& 858993459) + ((((x0 - (((x0).toUInt32 >>> ((1 : Int32).toUInt32 &&& Int32.toUInt32 31)).toInt32 &&& 1431655765))).toUInt32 >>> ((2 : Int32).toUInt32 &&& Int32.toUInt32 31)).toInt32 &&& 858993459)) + (((((x0 - (((x0).toUInt32 >>> ((1 : Int32).toUInt32 &&& Int32.toUInt32 31)).toInt32 &&& 1431655765)) &&& 858993459) + ((((x0 - (((x0).toUInt32 >>> ((1 : Int32).toUInt32 &&& Int32.toUInt32 31)).toInt32 &&& 1431655765))).toUInt32 >>> ((2 : Int32).toUInt32 &&& Int32.toUInt32 31)).toInt32 &&& 858993459))).toUInt32 >>> ((4 : Int32).toUInt32 &&& Int32.toUInt32 31)).toInt32) &&& 252645135)).toUInt32 >>> ((8 : Int32).toUInt32 &&& Int32.toUInt32 31)).toInt32) + ((((((((x0 - (((x0).toUInt32 >>> ((1 : Int32).toUInt32 &&& Int32.toUInt32 31)).toInt32 &&& 1431655765)) &&& 858993459) + ((((x0 - (((x0).toUInt32 >>> ((1 : Int32).toUInt32 &&& Int32.toUInt32 31)).toInt32 &&& 1431655765))).toUInt32 >>> ((2 : Int32).toUInt32 &&& Int32.toUInt32 31)).toInt32 &&& 858993459)) + (((((x0 - (((x0).toUInt32 >>> ((1 : Int32).toUInt32 &&& Int32.toUInt32 31)).toInt32 &&& 1431655765)) &&& 858993459) + ((((x0 - (((x0).toUInt32 >>> ((1 : Int32).toUInt32 &&& Int32.toUInt32 31)).toInt32 &&& 1431655765))).toUInt32 >>> ((2 : Int32).toUInt32 &&& Int32.toUInt32 31)).toInt32 &&& 858993459))).toUInt32 >>> ((4 : Int32).toUInt32 &&& Int32.toUInt32 31)).toInt32) &&& 252645135) + (((((((x0 - (((x0).toUInt32 >>> ((1 : Int32).toUInt32 &&& Int32.toUInt32 31)).toInt32 &&& 1431655765)) &&& 858993459) + ((((x0 - (((x0).toUInt32 >>> ((1 : Int32).toUInt32 &&& Int32.toUInt32 31)).toInt32 &&& 1431655765))).toUInt32 >>> ((2 : Int32).toUInt32 &&& Int32.toUInt32 31)).toInt32 &&& 858993459)) + (((((x0 - (((x0).toUInt32 >>> ((1 : Int32).toUInt32 &&& Int32.toUInt32 31)).toInt32 &&& 1431655765)) &&& 858993459) + ((((x0 - (((x0).toUInt32 >>> ((1 : Int32).toUInt32 &&& Int32.toUInt32 31)).toInt32 &&& 1431655765))).toUInt32 >>> ((2 : Int32).toUInt32 &&& Int32.toUInt32 31)).toInt32 &&& 858993459))).toUInt32 >>> ((4 : Int32).toUInt32 &&& Int32.toUInt32 31)).toInt32) &&& 252645135)).toUInt32 >>> ((8 : Int32).toUInt32 &&& Int32.toUInt32 31)).toInt32)).toUInt32 >>> ((16 : Int32).toUInt32 &&& Int32.toUInt32 31)).toInt32))]) h dJ6_bitCount_0f7a4_47 rfl hL (by decide) rfl (q := 48) rfl ?_
  refine x_iload_n h dJ6_bitCount_0f7a4_48 rfl 0 rfl (q := 49) rfl ?_
  refine x_bipush (v := 63) h dJ6_bitCount_0f7a4_49 (by decide) (q := 51) rfl ?_
  refine x_iand h dJ6_bitCount_0f7a4_51 (q := 52) rfl ?_
  subst hf
  exact x_iretP h hr hH dJ6_bitCount_0f7a4_52
theorem c_J6_bitCount_0f7a4 (l : Launch) (x0 : Int32) (o : Int32) (hf : m_J6_bitCount_0f7a4 x0 = o) : Met l yJ6_bitCount_0f7a4 (wT yJ6_bitCount_0f7a4 cJ6_bitCount_0f7a4 1 (some .int)) rmJ6_bitCount_0f7a4 (va_Pc [.int x0] (fun _ => True)) (XQp (some (.int o))) 0 0 (fun _ => False) :=
  X_metP RJ6 plJ6 rfl (Nat.le_of_ble_eq_true rfl) rfl (fun _ _ _ _ _ h hH hL hr => w_J6_bitCount_0f7a4 x0 o h hH hL hr hf)
