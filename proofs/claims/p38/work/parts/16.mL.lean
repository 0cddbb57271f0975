abbrev rmL_up : Room := { frames := 0, cells := 0, slots := 0, locals := 0 }
theorem hdL_up : yL_up.cls ≠ "java/lang/invoke/MethodHandle" ∧ yL_up.cls ≠ "java/lang/invoke/VarHandle" ∧ (parseMethodDescriptor yL_up.desc).map (fun d => d.parameters.length) = some 2 := by decide +kernel
def m_L_up (x0 : Int32) (x1 : Int32) : Option (Int32) :=
  dvz x1 <|
  some ((x0 &&& 2147483647) - (x0 &&& 2147483647) / x1 * x1)
set_option maxHeartbeats 4000000 in
set_option maxRecDepth 100000 in
theorem w_L_up {C : XC} {Q : State → Prop} {H0 : Heap} {σ : St} (x0 : Int32) (x1 : Int32) (o : Int32) (h : XOk C cL_up RL tG rmL_up) (hH : H0 = C.2.2.2.2.1.heap) (hL : C.2.2.2.2.2.2.2.2.2.2.2.2.1 = 2) (hr : XEnd C (some .int) Q (XQp (some (.int o))) (fun _ => False)) (hf : m_L_up x0 x1 = some o) : Xs C (fun _ H => H = H0) Q σ 0 [(0, .int x0), (1, .int x1)] [] := by
  unfold m_L_up at hf
  refine x_iload_n h dL_up_0 rfl 0 rfl (q := 1) rfl ?_
  refine x_ldc (v := 2147483647) h kc_L_8 dL_up_1 (q := 3) rfl ?_
  refine x_iand h dL_up_3 (q := 4) rfl ?_
  refine x_iload_n h dL_up_4 rfl 1 rfl (q := 5) rfl ?_
  obtain ⟨hd1, hf2⟩ := dvz_inv hf
  refine x_irem h hd1 dL_up_5 (q := 6) rfl ?_
  have hz := Option.some.inj hf2
  subst hz
  exact x_iretP h hr hH dL_up_6
theorem c_L_up (l : Launch) (x0 : Int32) (x1 : Int32) (o : Int32) (hf : m_L_up x0 x1 = some o) : Met l yL_up (wT yL_up cL_up 2 (some .int)) rmL_up (va_Pc [.int x0, .int x1] (fun _ => True)) (XQp (some (.int o))) 0 0 (fun _ => False) :=
  X_metP RL plL rfl (Nat.le_of_ble_eq_true rfl) rfl (fun _ _ _ _ _ h hH hL hr => w_L_up x0 x1 o h hH hL hr hf)
abbrev rmL_power : Room := { frames := 0, cells := 0, slots := 0, locals := 0 }
theorem hdL_power : yL_power.cls ≠ "java/lang/invoke/MethodHandle" ∧ yL_power.cls ≠ "java/lang/invoke/VarHandle" ∧ (parseMethodDescriptor yL_power.desc).map (fun d => d.parameters.length) = some 1 := by decide +kernel
def m_L_power (x0 : Int32) : Int32 :=
  if x0 = 0 then (
    1
  ) else (
    if x0 = 1 then (
      3
    ) else (
      if x0 = 2 then (
        9
      ) else (
        27
      )
    )
  )
set_option maxHeartbeats 4000000 in
set_option maxRecDepth 100000 in
theorem w_L_power {C : XC} {Q : State → Prop} {H0 : Heap} {σ : St} (x0 : Int32) (o : Int32) (h : XOk C cL_power RL tG rmL_power) (hH : H0 = C.2.2.2.2.1.heap) (hL : C.2.2.2.2.2.2.2.2.2.2.2.2.1 = 1) (hr : XEnd C (some .int) Q (XQp (some (.int o))) (fun _ => False)) (hf : m_L_power x0 = o) : Xs C (fun _ H => H = H0) Q σ 0 [(0, .int x0)] [] := by
  unfold m_L_power at hf
  refine x_iload_n h dL_power_0 rfl 0 rfl (q := 1) rfl ?_
  refine x_if_ne (tgt := 8) h dL_power_1 (by decide) (q := 4) rfl hf (fun hc1 hf2 => ?_) (fun hc1 hf2 => ?_)
  · skip
    refine x_iload_n h dL_power_8 rfl 0 rfl (q := 9) rfl ?_
    refine x_iconst (v := 1) h dL_power_9 (by decide) (q := 10) rfl ?_
    refine x_icmp_ne (tgt := 17) h dL_power_10 (by decide) (q := 13) rfl hf2 (fun hc3 hf4 => ?_) (fun hc3 hf4 => ?_)
    · skip
      refine x_iload_n h dL_power_17 rfl 0 rfl (q := 18) rfl ?_
      refine x_iconst (v := 2) h dL_power_18 (by decide) (q := 19) rfl ?_
      refine x_icmp_ne (tgt := 27) h dL_power_19 (by decide) (q := 22) rfl hf4 (fun hc5 hf6 => ?_) (fun hc5 hf6 => ?_)
      · skip
        refine x_bipush (v := 27) h dL_power_27 (by decide) (q := 29) rfl ?_
        subst hf6
        exact x_iretP h hr hH dL_power_29
      · skip
        refine x_bipush (v := 9) h dL_power_22 (by decide) (q := 24) rfl ?_
        refine x_goto (q := 29) h dL_power_24 (by decide) ?_
        subst hf6
        exact x_iretP h hr hH dL_power_29
    · skip
      refine x_iconst (v := 3) h dL_power_13 (by decide) (q := 14) rfl ?_
      refine x_goto (q := 29) h dL_power_14 (by decide) ?_
      subst hf4
      exact x_iretP h hr hH dL_power_29
  · skip
    refine x_iconst (v := 1) h dL_power_4 (by decide) (q := 5) rfl ?_
    refine x_goto (q := 29) h dL_power_5 (by decide) ?_
    subst hf2
    exact x_iretP h hr hH dL_power_29
theorem c_L_power (l : Launch) (x0 : Int32) (o : Int32) (hf : m_L_power x0 = o) : Met l yL_power (wT yL_power cL_power 1 (some .int)) rmL_power (va_Pc [.int x0] (fun _ => True)) (XQp (some (.int o))) 0 0 (fun _ => False) :=
  X_metP RL plL rfl (Nat.le_of_ble_eq_true rfl) rfl (fun _ _ _ _ _ h hH hL hr => w_L_power x0 o h hH hL hr hf)
abbrev rmL_fails : Room := { frames := 8, cells := 0, slots := 0, locals := 198 }
theorem hdL_fails : yL_fails.cls ≠ "java/lang/invoke/MethodHandle" ∧ yL_fails.cls ≠ "java/lang/invoke/VarHandle" ∧ (parseMethodDescriptor yL_fails.desc).map (fun d => d.parameters.length) = some 3 := by decide +kernel
def m_L_fails_b234 (σ : St) (y3 : Int64) (s0 : Int32) : Option (Bool × St) :=
  if s0 = 0 then (
    some (false, σ)
  ) else (
    (m_X9_fingerprint σ).bind fun u3 =>
    if (lg_cmp u3 y3) = 0 then (
      some (true, σ)
    ) else (
      some (false, σ)
    )
  )
set_option maxHeartbeats 4000000 in
set_option maxRecDepth 100000 in
theorem w_L_fails_b234 {C : XC} {Q : State → Prop} {g : cG} (σ : St) (y3 : Int64) (s0 : Int32) (o : Bool × St) (h : XOk C cL_fails RL tG rmL_fails) (hg : XG C g) (hL : C.2.2.2.2.2.2.2.2.2.2.2.2.1 = 7) (hr : XEnd C (some .boolean) Q (XQ g (some (.int (bI o.1))) o.2) (cA g)) (hf : m_L_fails_b234 σ y3 s0  = some o) : Xs C (wW g) Q σ 234 [(0, .ref (gA g 65)), (3, .long y3)] [.int s0] := by
  unfold m_L_fails_b234 at hf
  refine x_istore (lv' := [(6, .int s0), (0, .ref (gA g 65)), (3, .long y3)]) h dL_fails_234 hL (by decide) rfl (q := 236) rfl ?_
  refine x_iload h dL_fails_236 0 rfl (q := 238) rfl ?_
  refine x_if_eq (tgt := 254) h dL_fails_238 (by decide) (q := 241) rfl hf (fun hc1 hf2 => ?_) (fun hc1 hf2 => ?_)
  · skip
    refine x_iconst (v := 0) h dL_fails_254 (by decide) (q := 255) rfl ?_
    have hz := Option.some.inj hf2
    subst hz
    exact x_zret (b := false) h hg hr dL_fails_255
  · skip
    refine x_aload_n h dL_fails_241 rfl 1 rfl (q := 242) rfl ?_
    obtain ⟨u3, hu3, hf4⟩ := bnd_inv hf2
    refine x_callVl (As := []) (rest := []) h hg (c_X9_fingerprint C.2.1 hg.2.1 σ _ hu3) ml_L_9 biX9_fingerprint rfl rfl hdX9_fingerprint ⟨Nat.le_of_ble_eq_true rfl, Nat.le_of_ble_eq_true rfl⟩ (by decide) (cE_65 g _) rfl rfl rfl (Nat.le_of_ble_eq_true rfl) dL_fails_242 ?_
    refine x_lload_n h dL_fails_245 rfl 2 rfl (q := 246) rfl ?_
    refine x_lcmp h dL_fails_246 (q := 247) rfl ?_
    refine x_if_ne (tgt := 254) h dL_fails_247 (by decide) (q := 250) rfl hf4 (fun hc5 hf6 => ?_) (fun hc5 hf6 => ?_)
    · skip
      refine x_iconst (v := 0) h dL_fails_254 (by decide) (q := 255) rfl ?_
      have hz := Option.some.inj hf6
      subst hz
      exact x_zret (b := false) h hg hr dL_fails_255
    · skip
      refine x_iconst (v := 1) h dL_fails_250 (by decide) (q := 251) rfl ?_
      refine x_goto (q := 255) h dL_fails_251 (by decide) ?_
      have hz := Option.some.inj hf6
      subst hz
      exact x_zret (b := true) h hg hr dL_fails_255
def m_L_fails_b233 (σ : St) (y3 : Int64) : Option (Bool × St) :=
  m_L_fails_b234 σ y3 0
set_option maxHeartbeats 4000000 in
set_option maxRecDepth 100000 in
theorem w_L_fails_b233 {C : XC} {Q : State → Prop} {g : cG} (σ : St) (y3 : Int64) (o : Bool × St) (h : XOk C cL_fails RL tG rmL_fails) (hg : XG C g) (hL : C.2.2.2.2.2.2.2.2.2.2.2.2.1 = 7) (hr : XEnd C (some .boolean) Q (XQ g (some (.int (bI o.1))) o.2) (cA g)) (hf : m_L_fails_b233 σ y3  = some o) : Xs C (wW g) Q σ 233 [(0, .ref (gA g 65)), (3, .long y3)] [] := by
  unfold m_L_fails_b233 at hf
  refine x_iconst (v := 0) h dL_fails_233 (by decide) (q := 234) rfl ?_
  exact w_L_fails_b234 σ y3 0 o h hg hL hr hf
def m_L_fails_b104 (σ : St) (x1 : Int32) (x2 : Int32) (y3 : Int64) (x5 : Int32) (s0 : Int32) : Option (Bool × St) :=
  if s0 = 0 then (
    m_L_fails_b233 σ y3
  ) else (
    if (m_X9_next σ x2 0) = (-1) then (
      (m_X9_force σ ((1 : Int32) <<< (x1 &&& 31)) 0 0).bind fun u5 =>
      if u5.1 = (-1) then (
        (m_X9_force u5.2 0 0 x5).bind fun u9 =>
        if u9.1 = (-1) then (
          (m_X9_reply u9.2 0 0 1 0).bind fun u13 =>
          if u13.1 = (-1) then (
            (m_X9_forced u13.2 (-1) 0).bind fun u17 =>
            if u17.1 = (-1) then (
              if (m_X9_type u17.2 31).1 = (-1) then (
                (m_X9_where (m_X9_type u17.2 31).2 8 0).bind fun u23 =>
                if u23.1 = (-1) then (
                  (m_X9_holds u23.2 (-1) 0).bind fun u27 =>
                  if u27.1 = (-1) then (
                    (m_X9_plan u27.2 0 0 3).bind fun u31 =>
                    if u31.1 = (-1) then (
                      if (m_X9_planned u31.2 0 x1) = (-1) then (
                        (m_X9_classOf u31.2 x2).bind fun u37 =>
                        if u37.1 = (-1) then (
                          m_L_fails_b234 u37.2 y3 1
                        ) else (
                          m_L_fails_b233 u37.2 y3
                        )
                      ) else (
                        m_L_fails_b233 u31.2 y3
                      )
                    ) else (
                      m_L_fails_b233 u31.2 y3
                    )
                  ) else (
                    m_L_fails_b233 u27.2 y3
                  )
                ) else (
                  m_L_fails_b233 u23.2 y3
                )
              ) else (
                m_L_fails_b233 (m_X9_type u17.2 31).2 y3
              )
            ) else (
              m_L_fails_b233 u17.2 y3
            )
          ) else (
            m_L_fails_b233 u13.2 y3
          )
        ) else (
          m_L_fails_b233 u9.2 y3
        )
      ) else (
        m_L_fails_b233 u5.2 y3
      )
    ) else (
      m_L_fails_b233 σ y3
    )
  )
set_option maxHeartbeats 4000000 in
set_option maxRecDepth 100000 in
theorem w_L_fails_b104 {C : XC} {Q : State → Prop} {g : cG} (σ : St) (x1 : Int32) (x2 : Int32) (y3 : Int64) (x5 : Int32) (s0 : Int32) (o : Bool × St) (h : XOk C cL_fails RL tG rmL_fails) (hg : XG C g) (hL : C.2.2.2.2.2.2.2.2.2.2.2.2.1 = 7) (hr : XEnd C (some .boolean) Q (XQ g (some (.int (bI o.1))) o.2) (cA g)) (hf : m_L_fails_b104 σ x1 x2 y3 x5 s0  = some o) : Xs C (wW g) Q σ 104 [(0, .ref (gA g 65)), (1, .int x1), (2, .int x2), (3, .long y3), (5, .int x5)] [.int s0] := by
  unfold m_L_fails_b104 at hf
  refine x_istore (lv' := [(6, .int s0), (0, .ref (gA g 65)), (1, .int x1), (2, .int x2), (3, .long y3), (5, .int x5)]) h dL_fails_104 hL (by decide) rfl (q := 106) rfl ?_
  refine x_iload h dL_fails_106 0 rfl (q := 108) rfl ?_
  refine x_if_eq (tgt := 233) h dL_fails_108 (by decide) (q := 111) rfl hf (fun hc1 hf2 => ?_) (fun hc1 hf2 => ?_)
  · skip
    refine x_sub (lv' := [(0, .ref (gA g 65)), (3, .long y3)]) [1, 4] rfl ?_
    exact w_L_fails_b233 σ y3 o h hg hL hr hf2
  · skip
    refine x_aload_n h dL_fails_111 rfl 1 rfl (q := 112) rfl ?_
    refine x_iload_n h dL_fails_112 rfl 3 rfl (q := 113) rfl ?_
    refine x_iconst (v := 0) h dL_fails_113 (by decide) (q := 114) rfl ?_
    refine x_callVi (As := [.int x2, .int 0]) (rest := []) h hg (c_X9_next C.2.1 hg.2.1 σ x2 0 _ rfl) ml_L_34 biX9_next rfl rfl hdX9_next ⟨Nat.le_of_ble_eq_true rfl, Nat.le_of_ble_eq_true rfl⟩ (by decide) (cE_65 g _) rfl rfl rfl (Nat.le_of_ble_eq_true rfl) dL_fails_114 ?_
    refine x_iconst (v := (-1)) h dL_fails_117 (by decide) (q := 118) rfl ?_
    refine x_icmp_ne (tgt := 233) h dL_fails_118 (by decide) (q := 121) rfl hf2 (fun hc3 hf4 => ?_) (fun hc3 hf4 => ?_)
    · skip
      refine x_sub (lv' := [(0, .ref (gA g 65)), (3, .long y3)]) [1, 4] rfl ?_
      exact w_L_fails_b233 σ y3 o h hg hL hr hf4
    · skip
      refine x_aload_n h dL_fails_121 rfl 1 rfl (q := 122) rfl ?_
      refine x_iconst (v := 1) h dL_fails_122 (by decide) (q := 123) rfl ?_
      refine x_iload_n h dL_fails_123 rfl 2 rfl (q := 124) rfl ?_
      refine x_ishl h dL_fails_124 (q := 125) rfl ?_
      refine x_iconst (v := 0) h dL_fails_125 (by decide) (q := 126) rfl ?_
      refine x_iconst (v := 0) h dL_fails_126 (by decide) (q := 127) rfl ?_
      obtain ⟨u5, hu5, hf6⟩ := bnd_inv hf4
      refine x_callVi (As := [.int ((1 : Int32) <<< (x1 &&& 31)), .int 0, .int 0]) (rest := []) h hg (c_X9_force C.2.1 hg.2.1 σ ((1 : Int32) <<< (x1 &&& 31)) 0 0 _ hu5) ml_L_38 biX9_force rfl rfl hdX9_force ⟨Nat.le_of_ble_eq_true rfl, Nat.le_of_ble_eq_true rfl⟩ (by decide) (cE_65 g _) rfl rfl rfl (Nat.le_of_ble_eq_true rfl) dL_fails_127 ?_
      refine x_iconst (v := (-1)) h dL_fails_130 (by decide) (q := 131) rfl ?_
      refine x_icmp_ne (tgt := 233) h dL_fails_131 (by decide) (q := 134) rfl hf6 (fun hc7 hf8 => ?_) (fun hc7 hf8 => ?_)
      · skip
        refine x_sub (lv' := [(0, .ref (gA g 65)), (3, .long y3)]) [1, 4] rfl ?_
        exact w_L_fails_b233 u5.2 y3 o h hg hL hr hf8
      · skip
        refine x_aload_n h dL_fails_134 rfl 1 rfl (q := 135) rfl ?_
        refine x_iconst (v := 0) h dL_fails_135 (by decide) (q := 136) rfl ?_
        refine x_iconst (v := 0) h dL_fails_136 (by decide) (q := 137) rfl ?_
        refine x_iload h dL_fails_137 5 rfl (q := 139) rfl ?_
        obtain ⟨u9, hu9, hf10⟩ := bnd_inv hf8
        refine x_callVi (As := [.int 0, .int 0, .int x5]) (rest := []) h hg (c_X9_force C.2.1 hg.2.1 u5.2 0 0 x5 _ hu9) ml_L_38 biX9_force rfl rfl hdX9_force ⟨Nat.le_of_ble_eq_true rfl, Nat.le_of_ble_eq_true rfl⟩ (by decide) (cE_65 g _) rfl rfl rfl (Nat.le_of_ble_eq_true rfl) dL_fails_139 ?_
        refine x_iconst (v := (-1)) h dL_fails_142 (by decide) (q := 143) rfl ?_
        refine x_icmp_ne (tgt := 233) h dL_fails_143 (by decide) (q := 146) rfl hf10 (fun hc11 hf12 => ?_) (fun hc11 hf12 => ?_)
        · skip
          refine x_sub (lv' := [(0, .ref (gA g 65)), (3, .long y3)]) [1, 4] rfl ?_
          exact w_L_fails_b233 u9.2 y3 o h hg hL hr hf12
        · skip
          refine x_aload_n h dL_fails_146 rfl 1 rfl (q := 147) rfl ?_
          refine x_iconst (v := 0) h dL_fails_147 (by decide) (q := 148) rfl ?_
          refine x_iconst (v := 0) h dL_fails_148 (by decide) (q := 149) rfl ?_
          refine x_iconst (v := 1) h dL_fails_149 (by decide) (q := 150) rfl ?_
          refine x_iconst (v := 0) h dL_fails_150 (by decide) (q := 151) rfl ?_
          obtain ⟨u13, hu13, hf14⟩ := bnd_inv hf12
          refine x_callVi (As := [.int 0, .int 0, .int 1, .int 0]) (rest := []) h hg (c_X9_reply C.2.1 hg.2.1 u9.2 0 0 1 0 _ hu13) ml_L_41 biX9_reply rfl rfl hdX9_reply ⟨Nat.le_of_ble_eq_true rfl, Nat.le_of_ble_eq_true rfl⟩ (by decide) (cE_65 g _) rfl rfl rfl (Nat.le_of_ble_eq_true rfl) dL_fails_151 ?_
          refine x_iconst (v := (-1)) h dL_fails_154 (by decide) (q := 155) rfl ?_
          refine x_icmp_ne (tgt := 233) h dL_fails_155 (by decide) (q := 158) rfl hf14 (fun hc15 hf16 => ?_) (fun hc15 hf16 => ?_)
          · skip
            refine x_sub (lv' := [(0, .ref (gA g 65)), (3, .long y3)]) [1, 4] rfl ?_
            exact w_L_fails_b233 u13.2 y3 o h hg hL hr hf16
          · skip
            refine x_aload_n h dL_fails_158 rfl 1 rfl (q := 159) rfl ?_
            refine x_iconst (v := (-1)) h dL_fails_159 (by decide) (q := 160) rfl ?_
            refine x_iconst (v := 0) h dL_fails_160 (by decide) (q := 161) rfl ?_
            obtain ⟨u17, hu17, hf18⟩ := bnd_inv hf16
            refine x_callVi (As := [.int (-1), .int 0]) (rest := []) h hg (c_X9_forced C.2.1 hg.2.1 u13.2 (-1) 0 _ hu17) ml_L_44 biX9_forced rfl rfl hdX9_forced ⟨Nat.le_of_ble_eq_true rfl, Nat.le_of_ble_eq_true rfl⟩ (by decide) (cE_65 g _) rfl rfl rfl (Nat.le_of_ble_eq_true rfl) dL_fails_161 ?_
            refine x_iconst (v := (-1)) h dL_fails_164 (by decide) (q := 165) rfl ?_
            refine x_icmp_ne (tgt := 233) h dL_fails_165 (by decide) (q := 168) rfl hf18 (fun hc19 hf20 => ?_) (fun hc19 hf20 => ?_)
            · skip
              refine x_sub (lv' := [(0, .ref (gA g 65)), (3, .long y3)]) [1, 4] rfl ?_
              exact w_L_fails_b233 u17.2 y3 o h hg hL hr hf20
            · skip
              refine x_aload_n h dL_fails_168 rfl 1 rfl (q := 169) rfl ?_
              refine x_bipush (v := 31) h dL_fails_169 (by decide) (q := 171) rfl ?_
              refine x_callVi (As := [.int 31]) (rest := []) h hg (c_X9_type C.2.1 hg.2.1 u17.2 31 _ rfl) ml_L_47 biX9_type rfl rfl hdX9_type ⟨Nat.le_of_ble_eq_true rfl, Nat.le_of_ble_eq_true rfl⟩ (by decide) (cE_65 g _) rfl rfl rfl (Nat.le_of_ble_eq_true rfl) dL_fails_171 ?_
              refine x_iconst (v := (-1)) h dL_fails_174 (by decide) (q := 175) rfl ?_
              refine x_icmp_ne (tgt := 233) h dL_fails_175 (by decide) (q := 178) rfl hf20 (fun hc21 hf22 => ?_) (fun hc21 hf22 => ?_)
              · skip
                refine x_sub (lv' := [(0, .ref (gA g 65)), (3, .long y3)]) [1, 4] rfl ?_
                exact w_L_fails_b233 (m_X9_type u17.2 31).2 y3 o h hg hL hr hf22
              · skip
                refine x_aload_n h dL_fails_178 rfl 1 rfl (q := 179) rfl ?_
                refine x_bipush (v := 8) h dL_fails_179 (by decide) (q := 181) rfl ?_
                refine x_iconst (v := 0) h dL_fails_181 (by decide) (q := 182) rfl ?_
                obtain ⟨u23, hu23, hf24⟩ := bnd_inv hf22
                refine x_callVi (As := [.int 8, .int 0]) (rest := []) h hg (c_X9_where C.2.1 hg.2.1 (m_X9_type u17.2 31).2 8 0 _ hu23) ml_L_50 biX9_where rfl rfl hdX9_where ⟨Nat.le_of_ble_eq_true rfl, Nat.le_of_ble_eq_true rfl⟩ (by decide) (cE_65 g _) rfl rfl rfl (Nat.le_of_ble_eq_true rfl) dL_fails_182 ?_
                refine x_iconst (v := (-1)) h dL_fails_185 (by decide) (q := 186) rfl ?_
                refine x_icmp_ne (tgt := 233) h dL_fails_186 (by decide) (q := 189) rfl hf24 (fun hc25 hf26 => ?_) (fun hc25 hf26 => ?_)
                · skip
                  refine x_sub (lv' := [(0, .ref (gA g 65)), (3, .long y3)]) [1, 4] rfl ?_
                  exact w_L_fails_b233 u23.2 y3 o h hg hL hr hf26
                · skip
                  refine x_aload_n h dL_fails_189 rfl 1 rfl (q := 190) rfl ?_
                  refine x_iconst (v := (-1)) h dL_fails_190 (by decide) (q := 191) rfl ?_
                  refine x_iconst (v := 0) h dL_fails_191 (by decide) (q := 192) rfl ?_
                  obtain ⟨u27, hu27, hf28⟩ := bnd_inv hf26
                  refine x_callVi (As := [.int (-1), .int 0]) (rest := []) h hg (c_X9_holds C.2.1 hg.2.1 u23.2 (-1) 0 _ hu27) ml_L_53 biX9_holds rfl rfl hdX9_holds ⟨Nat.le_of_ble_eq_true rfl, Nat.le_of_ble_eq_true rfl⟩ (by decide) (cE_65 g _) rfl rfl rfl (Nat.le_of_ble_eq_true rfl) dL_fails_192 ?_
                  refine x_iconst (v := (-1)) h dL_fails_195 (by decide) (q := 196) rfl ?_
                  refine x_icmp_ne (tgt := 233) h dL_fails_196 (by decide) (q := 199) rfl hf28 (fun hc29 hf30 => ?_) (fun hc29 hf30 => ?_)
                  · skip
                    refine x_sub (lv' := [(0, .ref (gA g 65)), (3, .long y3)]) [1, 4] rfl ?_
                    exact w_L_fails_b233 u27.2 y3 o h hg hL hr hf30
                  · skip
                    refine x_aload_n h dL_fails_199 rfl 1 rfl (q := 200) rfl ?_
                    refine x_iconst (v := 0) h dL_fails_200 (by decide) (q := 201) rfl ?_
                    refine x_iconst (v := 0) h dL_fails_201 (by decide) (q := 202) rfl ?_
                    refine x_iconst (v := 3) h dL_fails_202 (by decide) (q := 203) rfl ?_
                    obtain ⟨u31, hu31, hf32⟩ := bnd_inv hf30
                    refine x_callVi (As := [.int 0, .int 0, .int 3]) (rest := []) h hg (c_X9_plan C.2.1 hg.2.1 u27.2 0 0 3 _ hu31) ml_L_56 biX9_plan rfl rfl hdX9_plan ⟨Nat.le_of_ble_eq_true rfl, Nat.le_of_ble_eq_true rfl⟩ (by decide) (cE_65 g _) rfl rfl rfl (Nat.le_of_ble_eq_true rfl) dL_fails_203 ?_
                    refine x_iconst (v := (-1)) h dL_fails_206 (by decide) (q := 207) rfl ?_
                    refine x_icmp_ne (tgt := 233) h dL_fails_207 (by decide) (q := 210) rfl hf32 (fun hc33 hf34 => ?_) (fun hc33 hf34 => ?_)
                    · skip
                      refine x_sub (lv' := [(0, .ref (gA g 65)), (3, .long y3)]) [1, 4] rfl ?_
                      exact w_L_fails_b233 u31.2 y3 o h hg hL hr hf34
                    · skip
                      refine x_aload_n h dL_fails_210 rfl 1 rfl (q := 211) rfl ?_
                      refine x_iconst (v := 0) h dL_fails_211 (by decide) (q := 212) rfl ?_
                      refine x_iload_n h dL_fails_212 rfl 2 rfl (q := 213) rfl ?_
                      refine x_callVi (As := [.int 0, .int x1]) (rest := []) h hg (c_X9_planned C.2.1 hg.2.1 u31.2 0 x1 _ rfl) ml_L_59 biX9_planned rfl rfl hdX9_planned ⟨Nat.le_of_ble_eq_true rfl, Nat.le_of_ble_eq_true rfl⟩ (by decide) (cE_65 g _) rfl rfl rfl (Nat.le_of_ble_eq_true rfl) dL_fails_213 ?_
                      refine x_iconst (v := (-1)) h dL_fails_216 (by decide) (q := 217) rfl ?_
                      refine x_icmp_ne (tgt := 233) h dL_fails_217 (by decide) (q := 220) rfl hf34 (fun hc35 hf36 => ?_) (fun hc35 hf36 => ?_)
                      · skip
                        refine x_sub (lv' := [(0, .ref (gA g 65)), (3, .long y3)]) [1, 4] rfl ?_
                        exact w_L_fails_b233 u31.2 y3 o h hg hL hr hf36
                      · skip
                        refine x_aload_n h dL_fails_220 rfl 1 rfl (q := 221) rfl ?_
                        refine x_iload_n h dL_fails_221 rfl 3 rfl (q := 222) rfl ?_
                        obtain ⟨u37, hu37, hf38⟩ := bnd_inv hf36
                        refine x_callVi (As := [.int x2]) (rest := []) h hg (c_X9_classOf C.2.1 hg.2.1 u31.2 x2 _ hu37) ml_L_62 biX9_classOf rfl rfl hdX9_classOf ⟨Nat.le_of_ble_eq_true rfl, Nat.le_of_ble_eq_true rfl⟩ (by decide) (cE_65 g _) rfl rfl rfl (Nat.le_of_ble_eq_true rfl) dL_fails_222 ?_
                        refine x_iconst (v := (-1)) h dL_fails_225 (by decide) (q := 226) rfl ?_
                        refine x_icmp_ne (tgt := 233) h dL_fails_226 (by decide) (q := 229) rfl hf38 (fun hc39 hf40 => ?_) (fun hc39 hf40 => ?_)
                        · skip
                          refine x_sub (lv' := [(0, .ref (gA g 65)), (3, .long y3)]) [1, 4] rfl ?_
                          exact w_L_fails_b233 u37.2 y3 o h hg hL hr hf40
                        · skip
                          refine x_iconst (v := 1) h dL_fails_229 (by decide) (q := 230) rfl ?_
                          refine x_goto (q := 234) h dL_fails_230 (by decide) ?_
                          refine x_sub (lv' := [(0, .ref (gA g 65)), (3, .long y3)]) [1, 4] rfl ?_
                          exact w_L_fails_b234 u37.2 y3 1 o h hg hL hr hf40
def m_L_fails_b103 (σ : St) (x1 : Int32) (x2 : Int32) (y3 : Int64) (x5 : Int32) : Option (Bool × St) :=
  m_L_fails_b104 σ x1 x2 y3 x5 0
set_option maxHeartbeats 4000000 in
set_option maxRecDepth 100000 in
theorem w_L_fails_b103 {C : XC} {Q : State → Prop} {g : cG} (σ : St) (x1 : Int32) (x2 : Int32) (y3 : Int64) (x5 : Int32) (o : Bool × St) (h : XOk C cL_fails RL tG rmL_fails) (hg : XG C g) (hL : C.2.2.2.2.2.2.2.2.2.2.2.2.1 = 7) (hr : XEnd C (some .boolean) Q (XQ g (some (.int (bI o.1))) o.2) (cA g)) (hf : m_L_fails_b103 σ x1 x2 y3 x5  = some o) : Xs C (wW g) Q σ 103 [(0, .ref (gA g 65)), (1, .int x1), (2, .int x2), (3, .long y3), (5, .int x5)] [] := by
  unfold m_L_fails_b103 at hf
  refine x_iconst (v := 0) h dL_fails_103 (by decide) (q := 104) rfl ?_
  exact w_L_fails_b104 σ x1 x2 y3 x5 0 o h hg hL hr hf
def m_L_fails (σ : St) (x1 : Int32) (x2 : Int32) : Option (Bool × St) :=
  (m_X9_fingerprint σ).bind fun u1 =>
  (m_X9_setActions σ x2 0 1).bind fun u3 =>
  if u3.1 = (-1) then (
    (m_X9_setActions u3.2 0 x1 1).bind fun u7 =>
    if u7.1 = (-1) then (
      (m_X9_setActions u7.2 0 0 4).bind fun u11 =>
      if u11.1 = (-1) then (
        (m_X9_label u11.2 0 65 1).bind fun u15 =>
        if u15.1 = (-1) then (
          if (m_X9_labels u15.2 (-1)) = (-1) then (
            (m_X9_setMove u15.2 0 0 x2).bind fun u21 =>
            if u21.1 = (-1) then (
              (m_X9_setMove u21.2 0 81 0).bind fun u25 =>
              if u25.1 = (-1) then (
                (m_X9_setAll u25.2 0 0 3 0).bind fun u29 =>
                if u29.1 = (-1) then (
                  m_L_fails_b104 u29.2 x1 x2 u1 ((1 : Int32) <<< (x2 &&& 31)) 1
                ) else (
                  m_L_fails_b103 u29.2 x1 x2 u1 ((1 : Int32) <<< (x2 &&& 31))
                )
              ) else (
                m_L_fails_b103 u25.2 x1 x2 u1 ((1 : Int32) <<< (x2 &&& 31))
              )
            ) else (
              m_L_fails_b103 u21.2 x1 x2 u1 ((1 : Int32) <<< (x2 &&& 31))
            )
          ) else (
            m_L_fails_b103 u15.2 x1 x2 u1 ((1 : Int32) <<< (x2 &&& 31))
          )
        ) else (
          m_L_fails_b103 u15.2 x1 x2 u1 ((1 : Int32) <<< (x2 &&& 31))
        )
      ) else (
        m_L_fails_b103 u11.2 x1 x2 u1 ((1 : Int32) <<< (x2 &&& 31))
      )
    ) else (
      m_L_fails_b103 u7.2 x1 x2 u1 ((1 : Int32) <<< (x2 &&& 31))
    )
  ) else (
    m_L_fails_b103 u3.2 x1 x2 u1 ((1 : Int32) <<< (x2 &&& 31))
  )
set_option maxHeartbeats 4000000 in
set_option maxRecDepth 100000 in
theorem w_L_fails {C : XC} {Q : State → Prop} {g : cG} (σ : St) (x1 : Int32) (x2 : Int32) (o : Bool × St) (h : XOk C cL_fails RL tG rmL_fails) (hg : XG C g) (hL : C.2.2.2.2.2.2.2.2.2.2.2.2.1 = 7) (hr : XEnd C (some .boolean) Q (XQ g (some (.int (bI o.1))) o.2) (cA g)) (hf : m_L_fails σ x1 x2 = some o) : Xs C (wW g) Q σ 0 [(0, .ref (gA g 65)), (1, .int x1), (2, .int x2)] [] := by
  unfold m_L_fails at hf
  refine x_aload_n h dL_fails_0 rfl 0 rfl (q := 1) rfl ?_
  obtain ⟨u1, hu1, hf2⟩ := bnd_inv hf
  refine x_callVl (As := []) (rest := []) h hg (c_X9_fingerprint C.2.1 hg.2.1 σ _ hu1) ml_L_9 biX9_fingerprint rfl rfl hdX9_fingerprint ⟨Nat.le_of_ble_eq_true rfl, Nat.le_of_ble_eq_true rfl⟩ (by decide) (cE_65 g _) rfl rfl rfl (Nat.le_of_ble_eq_true rfl) dL_fails_1 ?_
  refine x_lstore_n (lv' := [(3, .long u1), (0, .ref (gA g 65)), (1, .int x1), (2, .int x2)]) h dL_fails_4 rfl hL (by decide) rfl (q := 5) rfl ?_
  refine x_iconst (v := 1) h dL_fails_5 (by decide) (q := 6) rfl ?_
  refine x_iload_n h dL_fails_6 rfl 3 rfl (q := 7) rfl ?_
  refine x_ishl h dL_fails_7 (q := 8) rfl ?_
  refine x_istore (lv' := [(5, .int ((1 : Int32) <<< (x2 &&& 31))), (3, .long u1), (0, .ref (gA g 65)), (1, .int x1), (2, .int x2)]) h dL_fails_8 hL (by decide) rfl (q := 10) rfl ?_
  refine x_aload_n h dL_fails_10 rfl 2 rfl (q := 11) rfl ?_
  refine x_iload_n h dL_fails_11 rfl 4 rfl (q := 12) rfl ?_
  refine x_iconst (v := 0) h dL_fails_12 (by decide) (q := 13) rfl ?_
  refine x_iconst (v := 1) h dL_fails_13 (by decide) (q := 14) rfl ?_
  obtain ⟨u3, hu3, hf4⟩ := bnd_inv hf2
  refine x_callVi (As := [.int x2, .int 0, .int 1]) (rest := []) h hg (c_X9_setActions C.2.1 hg.2.1 σ x2 0 1 _ hu3) ml_L_15 biX9_setActions rfl rfl hdX9_setActions ⟨Nat.le_of_ble_eq_true rfl, Nat.le_of_ble_eq_true rfl⟩ (by decide) (cE_65 g _) rfl rfl rfl (Nat.le_of_ble_eq_true rfl) dL_fails_14 ?_
  refine x_iconst (v := (-1)) h dL_fails_17 (by decide) (q := 18) rfl ?_
  refine x_icmp_ne (tgt := 103) h dL_fails_18 (by decide) (q := 21) rfl hf4 (fun hc5 hf6 => ?_) (fun hc5 hf6 => ?_)
  · skip
    refine x_sub (lv' := [(0, .ref (gA g 65)), (1, .int x1), (2, .int x2), (3, .long u1), (5, .int ((1 : Int32) <<< (x2 &&& 31)))]) [2, 3, 4, 1, 0] rfl ?_
    exact w_L_fails_b103 u3.2 x1 x2 u1 ((1 : Int32) <<< (x2 &&& 31)) o h hg hL hr hf6
  · skip
    refine x_aload_n h dL_fails_21 rfl 2 rfl (q := 22) rfl ?_
    refine x_iconst (v := 0) h dL_fails_22 (by decide) (q := 23) rfl ?_
    refine x_iload_n h dL_fails_23 rfl 3 rfl (q := 24) rfl ?_
    refine x_iconst (v := 1) h dL_fails_24 (by decide) (q := 25) rfl ?_
    obtain ⟨u7, hu7, hf8⟩ := bnd_inv hf6
    refine x_callVi (As := [.int 0, .int x1, .int 1]) (rest := []) h hg (c_X9_setActions C.2.1 hg.2.1 u3.2 0 x1 1 _ hu7) ml_L_15 biX9_setActions rfl rfl hdX9_setActions ⟨Nat.le_of_ble_eq_true rfl, Nat.le_of_ble_eq_true rfl⟩ (by decide) (cE_65 g _) rfl rfl rfl (Nat.le_of_ble_eq_true rfl) dL_fails_25 ?_
    refine x_iconst (v := (-1)) h dL_fails_28 (by decide) (q := 29) rfl ?_
    refine x_icmp_ne (tgt := 103) h dL_fails_29 (by decide) (q := 32) rfl hf8 (fun hc9 hf10 => ?_) (fun hc9 hf10 => ?_)
    · skip
      refine x_sub (lv' := [(0, .ref (gA g 65)), (1, .int x1), (2, .int x2), (3, .long u1), (5, .int ((1 : Int32) <<< (x2 &&& 31)))]) [2, 3, 4, 1, 0] rfl ?_
      exact w_L_fails_b103 u7.2 x1 x2 u1 ((1 : Int32) <<< (x2 &&& 31)) o h hg hL hr hf10
    · skip
      refine x_aload_n h dL_fails_32 rfl 2 rfl (q := 33) rfl ?_
      refine x_iconst (v := 0) h dL_fails_33 (by decide) (q := 34) rfl ?_
      refine x_iconst (v := 0) h dL_fails_34 (by decide) (q := 35) rfl ?_
      refine x_iconst (v := 4) h dL_fails_35 (by decide) (q := 36) rfl ?_
      obtain ⟨u11, hu11, hf12⟩ := bnd_inv hf10
      refine x_callVi (As := [.int 0, .int 0, .int 4]) (rest := []) h hg (c_X9_setActions C.2.1 hg.2.1 u7.2 0 0 4 _ hu11) ml_L_15 biX9_setActions rfl rfl hdX9_setActions ⟨Nat.le_of_ble_eq_true rfl, Nat.le_of_ble_eq_true rfl⟩ (by decide) (cE_65 g _) rfl rfl rfl (Nat.le_of_ble_eq_true rfl) dL_fails_36 ?_
      refine x_iconst (v := (-1)) h dL_fails_39 (by decide) (q := 40) rfl ?_
      refine x_icmp_ne (tgt := 103) h dL_fails_40 (by decide) (q := 43) rfl hf12 (fun hc13 hf14 => ?_) (fun hc13 hf14 => ?_)
      · skip
        refine x_sub (lv' := [(0, .ref (gA g 65)), (1, .int x1), (2, .int x2), (3, .long u1), (5, .int ((1 : Int32) <<< (x2 &&& 31)))]) [2, 3, 4, 1, 0] rfl ?_
        exact w_L_fails_b103 u11.2 x1 x2 u1 ((1 : Int32) <<< (x2 &&& 31)) o h hg hL hr hf14
      · skip
        refine x_aload_n h dL_fails_43 rfl 2 rfl (q := 44) rfl ?_
        refine x_iconst (v := 0) h dL_fails_44 (by decide) (q := 45) rfl ?_
        refine x_bipush (v := 65) h dL_fails_45 (by decide) (q := 47) rfl ?_
        refine x_iconst (v := 1) h dL_fails_47 (by decide) (q := 48) rfl ?_
        obtain ⟨u15, hu15, hf16⟩ := bnd_inv hf14
        refine x_callVi (As := [.int 0, .int 65, .int 1]) (rest := []) h hg (c_X9_label C.2.1 hg.2.1 u11.2 0 65 1 _ hu15) ml_L_19 biX9_label rfl rfl hdX9_label ⟨Nat.le_of_ble_eq_true rfl, Nat.le_of_ble_eq_true rfl⟩ (by decide) (cE_65 g _) rfl rfl rfl (Nat.le_of_ble_eq_true rfl) dL_fails_48 ?_
        refine x_iconst (v := (-1)) h dL_fails_51 (by decide) (q := 52) rfl ?_
        refine x_icmp_ne (tgt := 103) h dL_fails_52 (by decide) (q := 55) rfl hf16 (fun hc17 hf18 => ?_) (fun hc17 hf18 => ?_)
        · skip
          refine x_sub (lv' := [(0, .ref (gA g 65)), (1, .int x1), (2, .int x2), (3, .long u1), (5, .int ((1 : Int32) <<< (x2 &&& 31)))]) [2, 3, 4, 1, 0] rfl ?_
          exact w_L_fails_b103 u15.2 x1 x2 u1 ((1 : Int32) <<< (x2 &&& 31)) o h hg hL hr hf18
        · skip
          refine x_aload_n h dL_fails_55 rfl 2 rfl (q := 56) rfl ?_
          refine x_iconst (v := (-1)) h dL_fails_56 (by decide) (q := 57) rfl ?_
          refine x_callVi (As := [.int (-1)]) (rest := []) h hg (c_X9_labels C.2.1 hg.2.1 u15.2 (-1) _ rfl) ml_L_23 biX9_labels rfl rfl hdX9_labels ⟨Nat.le_of_ble_eq_true rfl, Nat.le_of_ble_eq_true rfl⟩ (by decide) (cE_65 g _) rfl rfl rfl (Nat.le_of_ble_eq_true rfl) dL_fails_57 ?_
          refine x_iconst (v := (-1)) h dL_fails_60 (by decide) (q := 61) rfl ?_
          refine x_icmp_ne (tgt := 103) h dL_fails_61 (by decide) (q := 64) rfl hf18 (fun hc19 hf20 => ?_) (fun hc19 hf20 => ?_)
          · skip
            refine x_sub (lv' := [(0, .ref (gA g 65)), (1, .int x1), (2, .int x2), (3, .long u1), (5, .int ((1 : Int32) <<< (x2 &&& 31)))]) [2, 3, 4, 1, 0] rfl ?_
            exact w_L_fails_b103 u15.2 x1 x2 u1 ((1 : Int32) <<< (x2 &&& 31)) o h hg hL hr hf20
          · skip
            refine x_aload_n h dL_fails_64 rfl 2 rfl (q := 65) rfl ?_
            refine x_iconst (v := 0) h dL_fails_65 (by decide) (q := 66) rfl ?_
            refine x_iconst (v := 0) h dL_fails_66 (by decide) (q := 67) rfl ?_
            refine x_iload_n h dL_fails_67 rfl 4 rfl (q := 68) rfl ?_
            obtain ⟨u21, hu21, hf22⟩ := bnd_inv hf20
            refine x_callVi (As := [.int 0, .int 0, .int x2]) (rest := []) h hg (c_X9_setMove C.2.1 hg.2.1 u15.2 0 0 x2 _ hu21) ml_L_27 biX9_setMove rfl rfl hdX9_setMove ⟨Nat.le_of_ble_eq_true rfl, Nat.le_of_ble_eq_true rfl⟩ (by decide) (cE_65 g _) rfl rfl rfl (Nat.le_of_ble_eq_true rfl) dL_fails_68 ?_
            refine x_iconst (v := (-1)) h dL_fails_71 (by decide) (q := 72) rfl ?_
            refine x_icmp_ne (tgt := 103) h dL_fails_72 (by decide) (q := 75) rfl hf22 (fun hc23 hf24 => ?_) (fun hc23 hf24 => ?_)
            · skip
              refine x_sub (lv' := [(0, .ref (gA g 65)), (1, .int x1), (2, .int x2), (3, .long u1), (5, .int ((1 : Int32) <<< (x2 &&& 31)))]) [2, 3, 4, 1, 0] rfl ?_
              exact w_L_fails_b103 u21.2 x1 x2 u1 ((1 : Int32) <<< (x2 &&& 31)) o h hg hL hr hf24
            · skip
              refine x_aload_n h dL_fails_75 rfl 2 rfl (q := 76) rfl ?_
              refine x_iconst (v := 0) h dL_fails_76 (by decide) (q := 77) rfl ?_
              refine x_bipush (v := 81) h dL_fails_77 (by decide) (q := 79) rfl ?_
              refine x_iconst (v := 0) h dL_fails_79 (by decide) (q := 80) rfl ?_
              obtain ⟨u25, hu25, hf26⟩ := bnd_inv hf24
              refine x_callVi (As := [.int 0, .int 81, .int 0]) (rest := []) h hg (c_X9_setMove C.2.1 hg.2.1 u21.2 0 81 0 _ hu25) ml_L_27 biX9_setMove rfl rfl hdX9_setMove ⟨Nat.le_of_ble_eq_true rfl, Nat.le_of_ble_eq_true rfl⟩ (by decide) (cE_65 g _) rfl rfl rfl (Nat.le_of_ble_eq_true rfl) dL_fails_80 ?_
              refine x_iconst (v := (-1)) h dL_fails_83 (by decide) (q := 84) rfl ?_
              refine x_icmp_ne (tgt := 103) h dL_fails_84 (by decide) (q := 87) rfl hf26 (fun hc27 hf28 => ?_) (fun hc27 hf28 => ?_)
              · skip
                refine x_sub (lv' := [(0, .ref (gA g 65)), (1, .int x1), (2, .int x2), (3, .long u1), (5, .int ((1 : Int32) <<< (x2 &&& 31)))]) [2, 3, 4, 1, 0] rfl ?_
                exact w_L_fails_b103 u25.2 x1 x2 u1 ((1 : Int32) <<< (x2 &&& 31)) o h hg hL hr hf28
              · skip
                refine x_aload_n h dL_fails_87 rfl 2 rfl (q := 88) rfl ?_
                refine x_iconst (v := 0) h dL_fails_88 (by decide) (q := 89) rfl ?_
                refine x_iconst (v := 0) h dL_fails_89 (by decide) (q := 90) rfl ?_
                refine x_iconst (v := 3) h dL_fails_90 (by decide) (q := 91) rfl ?_
                refine x_iconst (v := 0) h dL_fails_91 (by decide) (q := 92) rfl ?_
                obtain ⟨u29, hu29, hf30⟩ := bnd_inv hf28
                refine x_callVi (As := [.int 0, .int 0, .int 3, .int 0]) (rest := []) h hg (c_X9_setAll C.2.1 hg.2.1 u25.2 0 0 3 0 _ hu29) ml_L_30 biX9_setAll rfl rfl hdX9_setAll ⟨Nat.le_of_ble_eq_true rfl, Nat.le_of_ble_eq_true rfl⟩ (by decide) (cE_65 g _) rfl rfl rfl (Nat.le_of_ble_eq_true rfl) dL_fails_92 ?_
                refine x_iconst (v := (-1)) h dL_fails_95 (by decide) (q := 96) rfl ?_
                refine x_icmp_ne (tgt := 103) h dL_fails_96 (by decide) (q := 99) rfl hf30 (fun hc31 hf32 => ?_) (fun hc31 hf32 => ?_)
                · skip
                  refine x_sub (lv' := [(0, .ref (gA g 65)), (1, .int x1), (2, .int x2), (3, .long u1), (5, .int ((1 : Int32) <<< (x2 &&& 31)))]) [2, 3, 4, 1, 0] rfl ?_
                  exact w_L_fails_b103 u29.2 x1 x2 u1 ((1 : Int32) <<< (x2 &&& 31)) o h hg hL hr hf32
                · skip
                  refine x_iconst (v := 1) h dL_fails_99 (by decide) (q := 100) rfl ?_
                  refine x_goto (q := 104) h dL_fails_100 (by decide) ?_
                  refine x_sub (lv' := [(0, .ref (gA g 65)), (1, .int x1), (2, .int x2), (3, .long u1), (5, .int ((1 : Int32) <<< (x2 &&& 31)))]) [2, 3, 4, 1, 0] rfl ?_
                  exact w_L_fails_b104 u29.2 x1 x2 u1 ((1 : Int32) <<< (x2 &&& 31)) 1 o h hg hL hr hf32
theorem c_L_fails (l : Launch) {g : cG} (hi : gInj g) (σ : St) (x1 : Int32) (x2 : Int32) (o : Bool × St) (hf : m_L_fails σ x1 x2 = some o) : Met l yL_fails (wT yL_fails cL_fails 7 (some .boolean)) rmL_fails (va_Pc [.ref (gA g 65), .int x1, .int x2] (XPre g σ)) (XQ g (some (.int (bI o.1))) o.2) 0 0 (cA g) :=
  X_met RL hi plL rfl (Nat.le_of_ble_eq_true rfl) rfl (fun _ _ _ h hg hL hr => w_L_fails σ x1 x2 o h hg hL hr hf)
abbrev rmL_builds : Room := { frames := 6, cells := 0, slots := 0, locals := 135 }
theorem hdL_builds : yL_builds.cls ≠ "java/lang/invoke/MethodHandle" ∧ yL_builds.cls ≠ "java/lang/invoke/VarHandle" ∧ (parseMethodDescriptor yL_builds.desc).map (fun d => d.parameters.length) = some 4 := by decide +kernel
def m_L_builds_b182 (σ : St) (b : Nat) (L : Nat) (xs : Nat → Int32) (x2 : Int32) (x3 : Int32) (x4 : Int32) (x6 : Int32) (x7 : Int32) (k29 : (St × Int32) → Option (Bool × St)) (k182 : (St × Int32 × Int32) → Option (Bool × St)) : Option (Bool × St) :=
  if 27 ≤ x7 then (
    (m_X9_moves σ x4).bind fun u3 =>
    if u3 = x6 then (
      k29 (σ, (x4 + 1))
    ) else (
      some (false, σ)
    )
  ) else (
    if (m_X9_next σ x4 x7) < 0 then (
      k182 (σ, x6, (x7 + 1))
    ) else (
      chk (8 + x7) 2147483647 <|
      (m_L_up ((cellF L xs (8 + x7)) >>> ((3 * x4) &&& 31)) x3).bind fun u11 =>
      if (m_X9_next σ x4 x7) = x4 then (
        (m_X9_setMove σ x4 x7 u11).bind fun u15 =>
        if u15.1 = x4 then (
          if (m_X9_next u15.2 x4 x7) = u11 then (
            k182 (u15.2, (x6 + 1), (x7 + 1))
          ) else (
            some (false, u15.2)
          )
        ) else (
          some (false, u15.2)
        )
      ) else (
        some (false, σ)
      )
    )
  )
set_option maxHeartbeats 4000000 in
set_option maxRecDepth 100000 in
theorem w_L_builds_b182 {C : XC} {Q : State → Prop} {g : cG} (σ : St) (b : Nat) (L : Nat) (xs : Nat → Int32) (x2 : Int32) (x3 : Int32) (x4 : Int32) (x6 : Int32) (x7 : Int32) (o : Bool × St) (h : XOk C cL_builds RL tG rmL_builds) (hg : XG C g) (hL : C.2.2.2.2.2.2.2.2.2.2.2.2.1 = 10) (hr : XEnd C (some .boolean) Q (XQ g (some (.int (bI o.1))) o.2) (cA g)) (hs : lwS C g b L xs) (k29 : (St × Int32) → Option (Bool × St)) (k182 : (St × Int32 × Int32) → Option (Bool × St)) (hk29 : ∀ z : St × Int32, k29 z = some o → Xs C (wW g) Q z.1 29 [(0, .ref (gA g 65)), (1, .ref b), (2, .int x2), (3, .int x3), (4, .int z.2)] []) (hk182 : ∀ z : St × Int32 × Int32, k182 z = some o → Xs C (wW g) Q z.1 182 [(0, .ref (gA g 65)), (1, .ref b), (2, .int x2), (3, .int x3), (4, .int x4), (6, .int z.2.1), (7, .int z.2.2)] []) (hf : m_L_builds_b182 σ b L xs x2 x3 x4 x6 x7 k29 k182 = some o) : Xs C (wW g) Q σ 182 [(0, .ref (gA g 65)), (1, .ref b), (2, .int x2), (3, .int x3), (4, .int x4), (6, .int x6), (7, .int x7)] [] := by
  unfold m_L_builds_b182 at hf
  refine x_iload h dL_builds_182 6 rfl (q := 184) rfl ?_
  refine x_bipush (v := 27) h dL_builds_184 (by decide) (q := 186) rfl ?_
  refine x_icmp_ge (tgt := 270) h dL_builds_186 (by decide) (q := 189) rfl hf (fun hc1 hf2 => ?_) (fun hc1 hf2 => ?_)
  · skip
    refine x_aload_n h dL_builds_270 rfl 0 rfl (q := 271) rfl ?_
    refine x_iload h dL_builds_271 4 rfl (q := 273) rfl ?_
    obtain ⟨u3, hu3, hf4⟩ := bnd_inv hf2
    refine x_callVi (As := [.int x4]) (rest := []) h hg (c_X9_moves C.2.1 hg.2.1 σ x4 _ hu3) ml_L_81 biX9_moves rfl rfl hdX9_moves ⟨Nat.le_of_ble_eq_true rfl, Nat.le_of_ble_eq_true rfl⟩ (by decide) (cE_65 g _) rfl rfl rfl (Nat.le_of_ble_eq_true rfl) dL_builds_273 ?_
    refine x_iload h dL_builds_276 5 rfl (q := 278) rfl ?_
    refine x_icmp_eq (tgt := 283) h dL_builds_278 (by decide) (q := 281) rfl hf4 (fun hc5 hf6 => ?_) (fun hc5 hf6 => ?_)
    · skip
      refine x_iinc (v := (x4 + 1)) (lv' := [(4, .int (x4 + 1)), (0, .ref (gA g 65)), (1, .ref b), (2, .int x2), (3, .int x3), (6, .int x6), (7, .int x7)]) (j := 4) h dL_builds_283 rfl rfl hL (by decide) rfl (q := 286) rfl ?_
      refine x_goto (q := 29) h dL_builds_286 (by decide) ?_
      refine x_sub (lv' := [(0, .ref (gA g 65)), (1, .ref b), (2, .int x2), (3, .int x3), (4, .int (x4 + 1))]) [1, 2, 3, 4, 0] rfl ?_
      exact hk29 (σ, (x4 + 1)) hf6
    · skip
      refine x_iconst (v := 0) h dL_builds_281 (by decide) (q := 282) rfl ?_
      have hz := Option.some.inj hf6
      subst hz
      exact x_zret (b := false) h hg hr dL_builds_282
  · skip
    refine x_aload_n h dL_builds_189 rfl 0 rfl (q := 190) rfl ?_
    refine x_iload h dL_builds_190 4 rfl (q := 192) rfl ?_
    refine x_iload h dL_builds_192 6 rfl (q := 194) rfl ?_
    refine x_callVi (As := [.int x4, .int x7]) (rest := []) h hg (c_X9_next C.2.1 hg.2.1 σ x4 x7 _ rfl) ml_L_34 biX9_next rfl rfl hdX9_next ⟨Nat.le_of_ble_eq_true rfl, Nat.le_of_ble_eq_true rfl⟩ (by decide) (cE_65 g _) rfl rfl rfl (Nat.le_of_ble_eq_true rfl) dL_builds_194 ?_
    refine x_istore (lv' := [(8, .int (m_X9_next σ x4 x7)), (0, .ref (gA g 65)), (1, .ref b), (2, .int x2), (3, .int x3), (4, .int x4), (6, .int x6), (7, .int x7)]) h dL_builds_197 hL (by decide) rfl (q := 199) rfl ?_
    refine x_iload h dL_builds_199 0 rfl (q := 201) rfl ?_
    refine x_if_lt (tgt := 264) h dL_builds_201 (by decide) (q := 204) rfl hf2 (fun hc7 hf8 => ?_) (fun hc7 hf8 => ?_)
    · skip
      refine x_iinc (v := (x7 + 1)) (lv' := [(7, .int (x7 + 1)), (8, .int (m_X9_next σ x4 x7)), (0, .ref (gA g 65)), (1, .ref b), (2, .int x2), (3, .int x3), (4, .int x4), (6, .int x6)]) (j := 7) h dL_builds_264 rfl rfl hL (by decide) rfl (q := 267) rfl ?_
      refine x_goto (q := 182) h dL_builds_267 (by decide) ?_
      refine x_sub (lv' := [(0, .ref (gA g 65)), (1, .ref b), (2, .int x2), (3, .int x3), (4, .int x4), (6, .int x6), (7, .int (x7 + 1))]) [2, 3, 4, 5, 6, 7, 0] rfl ?_
      exact hk182 (σ, x6, (x7 + 1)) hf8
    · skip
      refine x_aload_n h dL_builds_204 rfl 2 rfl (q := 205) rfl ?_
      refine x_bipush (v := 8) h dL_builds_205 (by decide) (q := 207) rfl ?_
      refine x_iload h dL_builds_207 7 rfl (q := 209) rfl ?_
      refine x_iadd h dL_builds_209 (q := 210) rfl ?_
      obtain ⟨hi9, hf10⟩ := chk_inv hf8
      refine x_callC (rest := []) h hg hs hi9 ml_L_69 ⟨Nat.le_of_ble_eq_true rfl, Nat.le_of_ble_eq_true rfl⟩ (Nat.le_of_ble_eq_true rfl) dL_builds_210 ?_
      refine x_iconst (v := 3) h dL_builds_213 (by decide) (q := 214) rfl ?_
      refine x_iload h dL_builds_214 5 rfl (q := 216) rfl ?_
      refine x_imul h dL_builds_216 (q := 217) rfl ?_
      refine x_ishr h dL_builds_217 (q := 218) rfl ?_
      refine x_iload_n h dL_builds_218 rfl 4 rfl (q := 219) rfl ?_
      obtain ⟨u11, hu11, hf12⟩ := bnd_inv hf10
      refine x_callPi (As := [.int ((cellF L xs (8 + x7)) >>> ((3 * x4) &&& 31)), .int x3]) (rest := []) h (c_L_up C.2.1 ((cellF L xs (8 + x7)) >>> ((3 * x4) &&& 31)) x3 _ hu11) ml_L_75 biL_up rfl rfl hdL_up ⟨Nat.le_of_ble_eq_true rfl, Nat.le_of_ble_eq_true rfl⟩ rfl rfl (Nat.le_of_ble_eq_true rfl) dL_builds_219 ?_
      refine x_istore (lv' := [(9, .int u11), (8, .int (m_X9_next σ x4 x7)), (0, .ref (gA g 65)), (1, .ref b), (2, .int x2), (3, .int x3), (4, .int x4), (6, .int x6), (7, .int x7)]) h dL_builds_222 hL (by decide) rfl (q := 224) rfl ?_
      refine x_iinc (v := (x6 + 1)) (lv' := [(6, .int (x6 + 1)), (9, .int u11), (8, .int (m_X9_next σ x4 x7)), (0, .ref (gA g 65)), (1, .ref b), (2, .int x2), (3, .int x3), (4, .int x4), (7, .int x7)]) (j := 7) h dL_builds_224 rfl rfl hL (by decide) rfl (q := 227) rfl ?_
      refine x_iload h dL_builds_227 2 rfl (q := 229) rfl ?_
      refine x_iload h dL_builds_229 7 rfl (q := 231) rfl ?_
      refine x_icmp_ne (tgt := 262) h dL_builds_231 (by decide) (q := 234) rfl hf12 (fun hc13 hf14 => ?_) (fun hc13 hf14 => ?_)
      · skip
        refine x_iconst (v := 0) h dL_builds_262 (by decide) (q := 263) rfl ?_
        have hz := Option.some.inj hf14
        subst hz
        exact x_zret (b := false) h hg hr dL_builds_263
      · skip
        refine x_aload_n h dL_builds_234 rfl 3 rfl (q := 235) rfl ?_
        refine x_iload h dL_builds_235 7 rfl (q := 237) rfl ?_
        refine x_iload h dL_builds_237 8 rfl (q := 239) rfl ?_
        refine x_iload h dL_builds_239 1 rfl (q := 241) rfl ?_
        obtain ⟨u15, hu15, hf16⟩ := bnd_inv hf14
        refine x_callVi (As := [.int x4, .int x7, .int u11]) (rest := []) h hg (c_X9_setMove C.2.1 hg.2.1 σ x4 x7 u11 _ hu15) ml_L_27 biX9_setMove rfl rfl hdX9_setMove ⟨Nat.le_of_ble_eq_true rfl, Nat.le_of_ble_eq_true rfl⟩ (by decide) (cE_65 g _) rfl rfl rfl (Nat.le_of_ble_eq_true rfl) dL_builds_241 ?_
        refine x_iload h dL_builds_244 7 rfl (q := 246) rfl ?_
        refine x_icmp_ne (tgt := 262) h dL_builds_246 (by decide) (q := 249) rfl hf16 (fun hc17 hf18 => ?_) (fun hc17 hf18 => ?_)
        · skip
          refine x_iconst (v := 0) h dL_builds_262 (by decide) (q := 263) rfl ?_
          have hz := Option.some.inj hf18
          subst hz
          exact x_zret (b := false) h hg hr dL_builds_263
        · skip
          refine x_aload_n h dL_builds_249 rfl 3 rfl (q := 250) rfl ?_
          refine x_iload h dL_builds_250 7 rfl (q := 252) rfl ?_
          refine x_iload h dL_builds_252 8 rfl (q := 254) rfl ?_
          refine x_callVi (As := [.int x4, .int x7]) (rest := []) h hg (c_X9_next C.2.1 hg.2.1 u15.2 x4 x7 _ rfl) ml_L_34 biX9_next rfl rfl hdX9_next ⟨Nat.le_of_ble_eq_true rfl, Nat.le_of_ble_eq_true rfl⟩ (by decide) (cE_65 g _) rfl rfl rfl (Nat.le_of_ble_eq_true rfl) dL_builds_254 ?_
          refine x_iload h dL_builds_257 1 rfl (q := 259) rfl ?_
          refine x_icmp_eq (tgt := 264) h dL_builds_259 (by decide) (q := 262) rfl hf18 (fun hc19 hf20 => ?_) (fun hc19 hf20 => ?_)
          · skip
            refine x_iinc (v := (x7 + 1)) (lv' := [(7, .int (x7 + 1)), (6, .int (x6 + 1)), (9, .int u11), (8, .int (m_X9_next σ x4 x7)), (0, .ref (gA g 65)), (1, .ref b), (2, .int x2), (3, .int x3), (4, .int x4)]) (j := 8) h dL_builds_264 rfl rfl hL (by decide) rfl (q := 267) rfl ?_
            refine x_goto (q := 182) h dL_builds_267 (by decide) ?_
            refine x_sub (lv' := [(0, .ref (gA g 65)), (1, .ref b), (2, .int x2), (3, .int x3), (4, .int x4), (6, .int (x6 + 1)), (7, .int (x7 + 1))]) [4, 5, 6, 7, 8, 1, 0] rfl ?_
            exact hk182 (u15.2, (x6 + 1), (x7 + 1)) hf20
          · skip
            refine x_iconst (v := 0) h dL_builds_262 (by decide) (q := 263) rfl ?_
            have hz := Option.some.inj hf20
            subst hz
            exact x_zret (b := false) h hg hr dL_builds_263
set_option maxHeartbeats 4000000 in
set_option maxRecDepth 100000 in
theorem w_L_builds_l182 {C : XC} {Q : State → Prop} {g : cG} (b : Nat) (L : Nat) (xs : Nat → Int32) (x2 : Int32) (x3 : Int32) (x4 : Int32) (o : Bool × St) (h : XOk C cL_builds RL tG rmL_builds) (hg : XG C g) (hL : C.2.2.2.2.2.2.2.2.2.2.2.2.1 = 10) (hr : XEnd C (some .boolean) Q (XQ g (some (.int (bI o.1))) o.2) (cA g)) (hs : lwS C g b L xs) (k29 : (St × Int32) → Option (Bool × St)) (hk29 : ∀ z : St × Int32, k29 z = some o → Xs C (wW g) Q z.1 29 [(0, .ref (gA g 65)), (1, .ref b), (2, .int x2), (3, .int x3), (4, .int z.2)] []) : ∀ (n : Nat) (z : St × Int32 × Int32), loopF (fun k z => m_L_builds_b182 z.1 b L xs x2 x3 x4 z.2.1 z.2.2 k29 k) n z = some o → Xs C (wW g) Q z.1 182 [(0, .ref (gA g 65)), (1, .ref b), (2, .int x2), (3, .int x3), (4, .int x4), (6, .int z.2.1), (7, .int z.2.2)] [] := by
  intro n z hf
  refine loopF_ind (S := St × Int32 × Int32) (O := Bool × St) (step := (fun k z => m_L_builds_b182 z.1 b L xs x2 x3 x4 z.2.1 z.2.2 k29 k)) (o := o) (P := fun z => Xs C (wW g) Q z.1 182 [(0, .ref (gA g 65)), (1, .ref b), (2, .int x2), (3, .int x3), (4, .int x4), (6, .int z.2.1), (7, .int z.2.2)] []) ?_ n z hf
  intro k hk z hf
  exact w_L_builds_b182 z.1 b L xs x2 x3 x4 z.2.1 z.2.2 o h hg hL hr hs k29 k hk29 hk hf
def m_L_builds_b152 (σ : St) (b : Nat) (L : Nat) (xs : Nat → Int32) (x2 : Int32) (x3 : Int32) (x4 : Int32) (x5 : Int32) (s0 : Int32) (s1 : Int32) (s2 : Int32) (k29 : (St × Int32) → Option (Bool × St)) : Option (Bool × St) :=
  (m_X9_label σ s2 s1 s0).bind fun u1 =>
  if u1.1 = 0 then (
    if (m_X9_labels u1.2 x4) = ((x5 >>> ((10 : Int32) &&& 31)) &&& 3) then (
      loopF (fun k z => m_L_builds_b182 z.1 b L xs x2 x3 x4 z.2.1 z.2.2 k29 k) cFu (u1.2, 0, 0)
    ) else (
      some (false, u1.2)
    )
  ) else (
    some (false, u1.2)
  )
set_option maxHeartbeats 4000000 in
set_option maxRecDepth 100000 in
theorem w_L_builds_b152 {C : XC} {Q : State → Prop} {g : cG} (σ : St) (b : Nat) (L : Nat) (xs : Nat → Int32) (x2 : Int32) (x3 : Int32) (x4 : Int32) (x5 : Int32) (s0 : Int32) (s1 : Int32) (s2 : Int32) (o : Bool × St) (h : XOk C cL_builds RL tG rmL_builds) (hg : XG C g) (hL : C.2.2.2.2.2.2.2.2.2.2.2.2.1 = 10) (hr : XEnd C (some .boolean) Q (XQ g (some (.int (bI o.1))) o.2) (cA g)) (hs : lwS C g b L xs) (k29 : (St × Int32) → Option (Bool × St)) (hk29 : ∀ z : St × Int32, k29 z = some o → Xs C (wW g) Q z.1 29 [(0, .ref (gA g 65)), (1, .ref b), (2, .int x2), (3, .int x3), (4, .int z.2)] []) (hf : m_L_builds_b152 σ b L xs x2 x3 x4 x5 s0 s1 s2 k29 = some o) : Xs C (wW g) Q σ 152 [(0, .ref (gA g 65)), (1, .ref b), (2, .int x2), (3, .int x3), (4, .int x4), (5, .int x5)] [.int s0, .int s1, .int s2, .ref (gA g 65)] := by
  unfold m_L_builds_b152 at hf
  obtain ⟨u1, hu1, hf2⟩ := bnd_inv hf
  refine x_callVi (As := [.int s2, .int s1, .int s0]) (rest := []) h hg (c_X9_label C.2.1 hg.2.1 σ s2 s1 s0 _ hu1) ml_L_19 biX9_label rfl rfl hdX9_label ⟨Nat.le_of_ble_eq_true rfl, Nat.le_of_ble_eq_true rfl⟩ (by decide) (cE_65 g _) rfl rfl rfl (Nat.le_of_ble_eq_true rfl) dL_builds_152 ?_
  refine x_if_ne (tgt := 174) h dL_builds_155 (by decide) (q := 158) rfl hf2 (fun hc3 hf4 => ?_) (fun hc3 hf4 => ?_)
  · skip
    refine x_iconst (v := 0) h dL_builds_174 (by decide) (q := 175) rfl ?_
    have hz := Option.some.inj hf4
    subst hz
    exact x_zret (b := false) h hg hr dL_builds_175
  · skip
    refine x_aload_n h dL_builds_158 rfl 0 rfl (q := 159) rfl ?_
    refine x_iload h dL_builds_159 4 rfl (q := 161) rfl ?_
    refine x_callVi (As := [.int x4]) (rest := []) h hg (c_X9_labels C.2.1 hg.2.1 u1.2 x4 _ rfl) ml_L_23 biX9_labels rfl rfl hdX9_labels ⟨Nat.le_of_ble_eq_true rfl, Nat.le_of_ble_eq_true rfl⟩ (by decide) (cE_65 g _) rfl rfl rfl (Nat.le_of_ble_eq_true rfl) dL_builds_161 ?_
    refine x_iload h dL_builds_164 5 rfl (q := 166) rfl ?_
    refine x_bipush (v := 10) h dL_builds_166 (by decide) (q := 168) rfl ?_
    refine x_ishr h dL_builds_168 (q := 169) rfl ?_
    refine x_iconst (v := 3) h dL_builds_169 (by decide) (q := 170) rfl ?_
    refine x_iand h dL_builds_170 (q := 171) rfl ?_
    refine x_icmp_eq (tgt := 176) h dL_builds_171 (by decide) (q := 174) rfl hf4 (fun hc5 hf6 => ?_) (fun hc5 hf6 => ?_)
    · skip
      refine x_iconst (v := 0) h dL_builds_176 (by decide) (q := 177) rfl ?_
      refine x_istore (lv' := [(6, .int 0), (0, .ref (gA g 65)), (1, .ref b), (2, .int x2), (3, .int x3), (4, .int x4), (5, .int x5)]) h dL_builds_177 hL (by decide) rfl (q := 179) rfl ?_
      refine x_iconst (v := 0) h dL_builds_179 (by decide) (q := 180) rfl ?_
      refine x_istore (lv' := [(7, .int 0), (6, .int 0), (0, .ref (gA g 65)), (1, .ref b), (2, .int x2), (3, .int x3), (4, .int x4), (5, .int x5)]) h dL_builds_180 hL (by decide) rfl (q := 182) rfl ?_
      refine x_sub (lv' := [(0, .ref (gA g 65)), (1, .ref b), (2, .int x2), (3, .int x3), (4, .int x4), (6, .int 0), (7, .int 0)]) [2, 3, 4, 5, 6, 1, 0] rfl ?_
      exact w_L_builds_l182 b L xs x2 x3 x4 o h hg hL hr hs k29 hk29  cFu (u1.2, 0, 0) hf6
    · skip
      refine x_iconst (v := 0) h dL_builds_174 (by decide) (q := 175) rfl ?_
      have hz := Option.some.inj hf6
      subst hz
      exact x_zret (b := false) h hg hr dL_builds_175
def m_L_builds_b125 (σ : St) (b : Nat) (L : Nat) (xs : Nat → Int32) (x2 : Int32) (x3 : Int32) (x4 : Int32) (x5 : Int32) (s0 : Int32) (s1 : Int32) (s2 : Int32) (k29 : (St × Int32) → Option (Bool × St)) : Option (Bool × St) :=
  (m_X9_label σ s2 s1 s0).bind fun u1 =>
  if u1.1 = 0 then (
    if ((x5 >>> ((11 : Int32) &&& 31)) &&& 1) = 1 then (
      m_L_builds_b152 u1.2 b L xs x2 x3 x4 x5 1 98 x4 k29
    ) else (
      m_L_builds_b152 u1.2 b L xs x2 x3 x4 x5 0 98 x4 k29
    )
  ) else (
    some (false, u1.2)
  )
set_option maxHeartbeats 4000000 in
set_option maxRecDepth 100000 in
theorem w_L_builds_b125 {C : XC} {Q : State → Prop} {g : cG} (σ : St) (b : Nat) (L : Nat) (xs : Nat → Int32) (x2 : Int32) (x3 : Int32) (x4 : Int32) (x5 : Int32) (s0 : Int32) (s1 : Int32) (s2 : Int32) (o : Bool × St) (h : XOk C cL_builds RL tG rmL_builds) (hg : XG C g) (hL : C.2.2.2.2.2.2.2.2.2.2.2.2.1 = 10) (hr : XEnd C (some .boolean) Q (XQ g (some (.int (bI o.1))) o.2) (cA g)) (hs : lwS C g b L xs) (k29 : (St × Int32) → Option (Bool × St)) (hk29 : ∀ z : St × Int32, k29 z = some o → Xs C (wW g) Q z.1 29 [(0, .ref (gA g 65)), (1, .ref b), (2, .int x2), (3, .int x3), (4, .int z.2)] []) (hf : m_L_builds_b125 σ b L xs x2 x3 x4 x5 s0 s1 s2 k29 = some o) : Xs C (wW g) Q σ 125 [(0, .ref (gA g 65)), (1, .ref b), (2, .int x2), (3, .int x3), (4, .int x4), (5, .int x5)] [.int s0, .int s1, .int s2, .ref (gA g 65)] := by
  unfold m_L_builds_b125 at hf
  obtain ⟨u1, hu1, hf2⟩ := bnd_inv hf
  refine x_callVi (As := [.int s2, .int s1, .int s0]) (rest := []) h hg (c_X9_label C.2.1 hg.2.1 σ s2 s1 s0 _ hu1) ml_L_19 biX9_label rfl rfl hdX9_label ⟨Nat.le_of_ble_eq_true rfl, Nat.le_of_ble_eq_true rfl⟩ (by decide) (cE_65 g _) rfl rfl rfl (Nat.le_of_ble_eq_true rfl) dL_builds_125 ?_
  refine x_if_ne (tgt := 174) h dL_builds_128 (by decide) (q := 131) rfl hf2 (fun hc3 hf4 => ?_) (fun hc3 hf4 => ?_)
  · skip
    refine x_iconst (v := 0) h dL_builds_174 (by decide) (q := 175) rfl ?_
    have hz := Option.some.inj hf4
    subst hz
    exact x_zret (b := false) h hg hr dL_builds_175
  · skip
    refine x_aload_n h dL_builds_131 rfl 0 rfl (q := 132) rfl ?_
    refine x_iload h dL_builds_132 4 rfl (q := 134) rfl ?_
    refine x_bipush (v := 98) h dL_builds_134 (by decide) (q := 136) rfl ?_
    refine x_iload h dL_builds_136 5 rfl (q := 138) rfl ?_
    refine x_bipush (v := 11) h dL_builds_138 (by decide) (q := 140) rfl ?_
    refine x_ishr h dL_builds_140 (q := 141) rfl ?_
    refine x_iconst (v := 1) h dL_builds_141 (by decide) (q := 142) rfl ?_
    refine x_iand h dL_builds_142 (q := 143) rfl ?_
    refine x_iconst (v := 1) h dL_builds_143 (by decide) (q := 144) rfl ?_
    refine x_icmp_ne (tgt := 151) h dL_builds_144 (by decide) (q := 147) rfl hf4 (fun hc5 hf6 => ?_) (fun hc5 hf6 => ?_)
    · skip
      refine x_iconst (v := 0) h dL_builds_151 (by decide) (q := 152) rfl ?_
      exact w_L_builds_b152 u1.2 b L xs x2 x3 x4 x5 0 98 x4 o h hg hL hr hs k29 hk29 hf6
    · skip
      refine x_iconst (v := 1) h dL_builds_147 (by decide) (q := 148) rfl ?_
      refine x_goto (q := 152) h dL_builds_148 (by decide) ?_
      exact w_L_builds_b152 u1.2 b L xs x2 x3 x4 x5 1 98 x4 o h hg hL hr hs k29 hk29 hf6
def m_L_builds_b48 (σ : St) (b : Nat) (L : Nat) (xs : Nat → Int32) (x2 : Int32) (x3 : Int32) (x4 : Int32) (x5 : Int32) (x6 : Int32) (k29 : (St × Int32) → Option (Bool × St)) (k48 : (St × Int32) → Option (Bool × St)) : Option (Bool × St) :=
  if x2 ≤ x6 then (
    if ((x5 >>> ((10 : Int32) &&& 31)) &&& 1) = 1 then (
      m_L_builds_b125 σ b L xs x2 x3 x4 x5 1 97 x4 k29
    ) else (
      m_L_builds_b125 σ b L xs x2 x3 x4 x5 0 97 x4 k29
    )
  ) else (
    (m_L_up (x5 >>> ((2 * x6) &&& 31)) 3).bind fun u5 =>
    (m_X9_setActions σ x4 x6 (1 + u5)).bind fun u7 =>
    if u7.1 = 1 then (
      if (m_X9_actions u7.2 x4 x6) = (1 + u5) then (
        k48 (u7.2, (x6 + 1))
      ) else (
        some (false, u7.2)
      )
    ) else (
      some (false, u7.2)
    )
  )
set_option maxHeartbeats 4000000 in
set_option maxRecDepth 100000 in
theorem w_L_builds_b48 {C : XC} {Q : State → Prop} {g : cG} (σ : St) (b : Nat) (L : Nat) (xs : Nat → Int32) (x2 : Int32) (x3 : Int32) (x4 : Int32) (x5 : Int32) (x6 : Int32) (o : Bool × St) (h : XOk C cL_builds RL tG rmL_builds) (hg : XG C g) (hL : C.2.2.2.2.2.2.2.2.2.2.2.2.1 = 10) (hr : XEnd C (some .boolean) Q (XQ g (some (.int (bI o.1))) o.2) (cA g)) (hs : lwS C g b L xs) (k29 : (St × Int32) → Option (Bool × St)) (k48 : (St × Int32) → Option (Bool × St)) (hk29 : ∀ z : St × Int32, k29 z = some o → Xs C (wW g) Q z.1 29 [(0, .ref (gA g 65)), (1, .ref b), (2, .int x2), (3, .int x3), (4, .int z.2)] []) (hk48 : ∀ z : St × Int32, k48 z = some o → Xs C (wW g) Q z.1 48 [(0, .ref (gA g 65)), (1, .ref b), (2, .int x2), (3, .int x3), (4, .int x4), (5, .int x5), (6, .int z.2)] []) (hf : m_L_builds_b48 σ b L xs x2 x3 x4 x5 x6 k29 k48 = some o) : Xs C (wW g) Q σ 48 [(0, .ref (gA g 65)), (1, .ref b), (2, .int x2), (3, .int x3), (4, .int x4), (5, .int x5), (6, .int x6)] [] := by
  unfold m_L_builds_b48 at hf
  refine x_iload h dL_builds_48 6 rfl (q := 50) rfl ?_
  refine x_iload_n h dL_builds_50 rfl 2 rfl (q := 51) rfl ?_
  refine x_icmp_ge (tgt := 104) h dL_builds_51 (by decide) (q := 54) rfl hf (fun hc1 hf2 => ?_) (fun hc1 hf2 => ?_)
  · skip
    refine x_aload_n h dL_builds_104 rfl 0 rfl (q := 105) rfl ?_
    refine x_iload h dL_builds_105 4 rfl (q := 107) rfl ?_
    refine x_bipush (v := 97) h dL_builds_107 (by decide) (q := 109) rfl ?_
    refine x_iload h dL_builds_109 5 rfl (q := 111) rfl ?_
    refine x_bipush (v := 10) h dL_builds_111 (by decide) (q := 113) rfl ?_
    refine x_ishr h dL_builds_113 (q := 114) rfl ?_
    refine x_iconst (v := 1) h dL_builds_114 (by decide) (q := 115) rfl ?_
    refine x_iand h dL_builds_115 (q := 116) rfl ?_
    refine x_iconst (v := 1) h dL_builds_116 (by decide) (q := 117) rfl ?_
    refine x_icmp_ne (tgt := 124) h dL_builds_117 (by decide) (q := 120) rfl hf2 (fun hc3 hf4 => ?_) (fun hc3 hf4 => ?_)
    · skip
      refine x_iconst (v := 0) h dL_builds_124 (by decide) (q := 125) rfl ?_
      refine x_sub (lv' := [(0, .ref (gA g 65)), (1, .ref b), (2, .int x2), (3, .int x3), (4, .int x4), (5, .int x5)]) [0, 1, 2, 3, 4, 5] rfl ?_
      exact w_L_builds_b125 σ b L xs x2 x3 x4 x5 0 97 x4 o h hg hL hr hs k29 hk29 hf4
    · skip
      refine x_iconst (v := 1) h dL_builds_120 (by decide) (q := 121) rfl ?_
      refine x_goto (q := 125) h dL_builds_121 (by decide) ?_
      refine x_sub (lv' := [(0, .ref (gA g 65)), (1, .ref b), (2, .int x2), (3, .int x3), (4, .int x4), (5, .int x5)]) [0, 1, 2, 3, 4, 5] rfl ?_
      exact w_L_builds_b125 σ b L xs x2 x3 x4 x5 1 97 x4 o h hg hL hr hs k29 hk29 hf4
  · skip
    refine x_iconst (v := 1) h dL_builds_54 (by decide) (q := 55) rfl ?_
    refine x_iload h dL_builds_55 5 rfl (q := 57) rfl ?_
    refine x_iconst (v := 2) h dL_builds_57 (by decide) (q := 58) rfl ?_
    refine x_iload h dL_builds_58 6 rfl (q := 60) rfl ?_
    refine x_imul h dL_builds_60 (q := 61) rfl ?_
    refine x_ishr h dL_builds_61 (q := 62) rfl ?_
    refine x_iconst (v := 3) h dL_builds_62 (by decide) (q := 63) rfl ?_
    obtain ⟨u5, hu5, hf6⟩ := bnd_inv hf2
    refine x_callPi (As := [.int (x5 >>> ((2 * x6) &&& 31)), .int 3]) (rest := [.int 1]) h (c_L_up C.2.1 (x5 >>> ((2 * x6) &&& 31)) 3 _ hu5) ml_L_75 biL_up rfl rfl hdL_up ⟨Nat.le_of_ble_eq_true rfl, Nat.le_of_ble_eq_true rfl⟩ rfl rfl (Nat.le_of_ble_eq_true rfl) dL_builds_63 ?_
    refine x_iadd h dL_builds_66 (q := 67) rfl ?_
    refine x_istore (lv' := [(7, .int (1 + u5)), (0, .ref (gA g 65)), (1, .ref b), (2, .int x2), (3, .int x3), (4, .int x4), (5, .int x5), (6, .int x6)]) h dL_builds_67 hL (by decide) rfl (q := 69) rfl ?_
    refine x_aload_n h dL_builds_69 rfl 1 rfl (q := 70) rfl ?_
    refine x_iload h dL_builds_70 5 rfl (q := 72) rfl ?_
    refine x_iload h dL_builds_72 7 rfl (q := 74) rfl ?_
    refine x_iload h dL_builds_74 0 rfl (q := 76) rfl ?_
    obtain ⟨u7, hu7, hf8⟩ := bnd_inv hf6
    refine x_callVi (As := [.int x4, .int x6, .int (1 + u5)]) (rest := []) h hg (c_X9_setActions C.2.1 hg.2.1 σ x4 x6 (1 + u5) _ hu7) ml_L_15 biX9_setActions rfl rfl hdX9_setActions ⟨Nat.le_of_ble_eq_true rfl, Nat.le_of_ble_eq_true rfl⟩ (by decide) (cE_65 g _) rfl rfl rfl (Nat.le_of_ble_eq_true rfl) dL_builds_76 ?_
    refine x_iconst (v := 1) h dL_builds_79 (by decide) (q := 80) rfl ?_
    refine x_icmp_ne (tgt := 96) h dL_builds_80 (by decide) (q := 83) rfl hf8 (fun hc9 hf10 => ?_) (fun hc9 hf10 => ?_)
    · skip
      refine x_iconst (v := 0) h dL_builds_96 (by decide) (q := 97) rfl ?_
      have hz := Option.some.inj hf10
      subst hz
      exact x_zret (b := false) h hg hr dL_builds_97
    · skip
      refine x_aload_n h dL_builds_83 rfl 1 rfl (q := 84) rfl ?_
      refine x_iload h dL_builds_84 5 rfl (q := 86) rfl ?_
      refine x_iload h dL_builds_86 7 rfl (q := 88) rfl ?_
      refine x_callVi (As := [.int x4, .int x6]) (rest := []) h hg (c_X9_actions C.2.1 hg.2.1 u7.2 x4 x6 _ rfl) ml_L_78 biX9_actions rfl rfl hdX9_actions ⟨Nat.le_of_ble_eq_true rfl, Nat.le_of_ble_eq_true rfl⟩ (by decide) (cE_65 g _) rfl rfl rfl (Nat.le_of_ble_eq_true rfl) dL_builds_88 ?_
      refine x_iload h dL_builds_91 0 rfl (q := 93) rfl ?_
      refine x_icmp_eq (tgt := 98) h dL_builds_93 (by decide) (q := 96) rfl hf10 (fun hc11 hf12 => ?_) (fun hc11 hf12 => ?_)
      · skip
        refine x_iinc (v := (x6 + 1)) (lv' := [(6, .int (x6 + 1)), (7, .int (1 + u5)), (0, .ref (gA g 65)), (1, .ref b), (2, .int x2), (3, .int x3), (4, .int x4), (5, .int x5)]) (j := 7) h dL_builds_98 rfl rfl hL (by decide) rfl (q := 101) rfl ?_
        refine x_goto (q := 48) h dL_builds_101 (by decide) ?_
        refine x_sub (lv' := [(0, .ref (gA g 65)), (1, .ref b), (2, .int x2), (3, .int x3), (4, .int x4), (5, .int x5), (6, .int (x6 + 1))]) [2, 3, 4, 5, 6, 7, 0] rfl ?_
        exact hk48 (u7.2, (x6 + 1)) hf12
      · skip
        refine x_iconst (v := 0) h dL_builds_96 (by decide) (q := 97) rfl ?_
        have hz := Option.some.inj hf12
        subst hz
        exact x_zret (b := false) h hg hr dL_builds_97
set_option maxHeartbeats 4000000 in
set_option maxRecDepth 100000 in
theorem w_L_builds_l48 {C : XC} {Q : State → Prop} {g : cG} (b : Nat) (L : Nat) (xs : Nat → Int32) (x2 : Int32) (x3 : Int32) (x4 : Int32) (x5 : Int32) (o : Bool × St) (h : XOk C cL_builds RL tG rmL_builds) (hg : XG C g) (hL : C.2.2.2.2.2.2.2.2.2.2.2.2.1 = 10) (hr : XEnd C (some .boolean) Q (XQ g (some (.int (bI o.1))) o.2) (cA g)) (hs : lwS C g b L xs) (k29 : (St × Int32) → Option (Bool × St)) (hk29 : ∀ z : St × Int32, k29 z = some o → Xs C (wW g) Q z.1 29 [(0, .ref (gA g 65)), (1, .ref b), (2, .int x2), (3, .int x3), (4, .int z.2)] []) : ∀ (n : Nat) (z : St × Int32), loopF (fun k z => m_L_builds_b48 z.1 b L xs x2 x3 x4 x5 z.2 k29 k) n z = some o → Xs C (wW g) Q z.1 48 [(0, .ref (gA g 65)), (1, .ref b), (2, .int x2), (3, .int x3), (4, .int x4), (5, .int x5), (6, .int z.2)] [] := by
  intro n z hf
  refine loopF_ind (S := St × Int32) (O := Bool × St) (step := (fun k z => m_L_builds_b48 z.1 b L xs x2 x3 x4 x5 z.2 k29 k)) (o := o) (P := fun z => Xs C (wW g) Q z.1 48 [(0, .ref (gA g 65)), (1, .ref b), (2, .int x2), (3, .int x3), (4, .int x4), (5, .int x5), (6, .int z.2)] []) ?_ n z hf
  intro k hk z hf
  exact w_L_builds_b48 z.1 b L xs x2 x3 x4 x5 z.2 o h hg hL hr hs k29 k hk29 hk hf
def m_L_builds_b29 (σ : St) (b : Nat) (L : Nat) (xs : Nat → Int32) (x2 : Int32) (x3 : Int32) (x4 : Int32) (k29 : (St × Int32) → Option (Bool × St)) : Option (Bool × St) :=
  if x3 ≤ x4 then (
    if (m_X9_states σ) = x3 then (
      some (true, σ)
    ) else (
      some (false, σ)
    )
  ) else (
    chk (2 + x4) 2147483647 <|
    loopF (fun k z => m_L_builds_b48 z.1 b L xs x2 x3 x4 (cellF L xs (2 + x4)) z.2 k29 k) cFu (σ, 0)
  )
set_option maxHeartbeats 4000000 in
set_option maxRecDepth 100000 in
theorem w_L_builds_b29 {C : XC} {Q : State → Prop} {g : cG} (σ : St) (b : Nat) (L : Nat) (xs : Nat → Int32) (x2 : Int32) (x3 : Int32) (x4 : Int32) (o : Bool × St) (h : XOk C cL_builds RL tG rmL_builds) (hg : XG C g) (hL : C.2.2.2.2.2.2.2.2.2.2.2.2.1 = 10) (hr : XEnd C (some .boolean) Q (XQ g (some (.int (bI o.1))) o.2) (cA g)) (hs : lwS C g b L xs) (k29 : (St × Int32) → Option (Bool × St)) (hk29 : ∀ z : St × Int32, k29 z = some o → Xs C (wW g) Q z.1 29 [(0, .ref (gA g 65)), (1, .ref b), (2, .int x2), (3, .int x3), (4, .int z.2)] []) (hf : m_L_builds_b29 σ b L xs x2 x3 x4 k29 = some o) : Xs C (wW g) Q σ 29 [(0, .ref (gA g 65)), (1, .ref b), (2, .int x2), (3, .int x3), (4, .int x4)] [] := by
  unfold m_L_builds_b29 at hf
  refine x_iload h dL_builds_29 4 rfl (q := 31) rfl ?_
  refine x_iload_n h dL_builds_31 rfl 3 rfl (q := 32) rfl ?_
  refine x_icmp_ge (tgt := 289) h dL_builds_32 (by decide) (q := 35) rfl hf (fun hc1 hf2 => ?_) (fun hc1 hf2 => ?_)
  · skip
    refine x_aload_n h dL_builds_289 rfl 0 rfl (q := 290) rfl ?_
    refine x_callVi (As := []) (rest := []) h hg (c_X9_states C.2.1 hg.2.1 σ _ rfl) ml_L_84 biX9_states rfl rfl hdX9_states ⟨Nat.le_of_ble_eq_true rfl, Nat.le_of_ble_eq_true rfl⟩ (by decide) (cE_65 g _) rfl rfl rfl (Nat.le_of_ble_eq_true rfl) dL_builds_290 ?_
    refine x_iload_n h dL_builds_293 rfl 3 rfl (q := 294) rfl ?_
    refine x_icmp_ne (tgt := 301) h dL_builds_294 (by decide) (q := 297) rfl hf2 (fun hc3 hf4 => ?_) (fun hc3 hf4 => ?_)
    · skip
      refine x_iconst (v := 0) h dL_builds_301 (by decide) (q := 302) rfl ?_
      have hz := Option.some.inj hf4
      subst hz
      exact x_zret (b := false) h hg hr dL_builds_302
    · skip
      refine x_iconst (v := 1) h dL_builds_297 (by decide) (q := 298) rfl ?_
      refine x_goto (q := 302) h dL_builds_298 (by decide) ?_
      have hz := Option.some.inj hf4
      subst hz
      exact x_zret (b := true) h hg hr dL_builds_302
  · skip
    refine x_aload_n h dL_builds_35 rfl 1 rfl (q := 36) rfl ?_
    refine x_iconst (v := 2) h dL_builds_36 (by decide) (q := 37) rfl ?_
    refine x_iload h dL_builds_37 4 rfl (q := 39) rfl ?_
    refine x_iadd h dL_builds_39 (q := 40) rfl ?_
    obtain ⟨hi5, hf6⟩ := chk_inv hf2
    refine x_callC (rest := []) h hg hs hi5 ml_L_69 ⟨Nat.le_of_ble_eq_true rfl, Nat.le_of_ble_eq_true rfl⟩ (Nat.le_of_ble_eq_true rfl) dL_builds_40 ?_
    refine x_istore (lv' := [(5, .int (cellF L xs (2 + x4))), (0, .ref (gA g 65)), (1, .ref b), (2, .int x2), (3, .int x3), (4, .int x4)]) h dL_builds_43 hL (by decide) rfl (q := 45) rfl ?_
    refine x_iconst (v := 0) h dL_builds_45 (by decide) (q := 46) rfl ?_
    refine x_istore (lv' := [(6, .int 0), (5, .int (cellF L xs (2 + x4))), (0, .ref (gA g 65)), (1, .ref b), (2, .int x2), (3, .int x3), (4, .int x4)]) h dL_builds_46 hL (by decide) rfl (q := 48) rfl ?_
    refine x_sub (lv' := [(0, .ref (gA g 65)), (1, .ref b), (2, .int x2), (3, .int x3), (4, .int x4), (5, .int (cellF L xs (2 + x4))), (6, .int 0)]) [2, 3, 4, 5, 6, 1, 0] rfl ?_
    exact w_L_builds_l48 b L xs x2 x3 x4 (cellF L xs (2 + x4)) o h hg hL hr hs k29 hk29  cFu (σ, 0) hf6
set_option maxHeartbeats 4000000 in
set_option maxRecDepth 100000 in
theorem w_L_builds_l29 {C : XC} {Q : State → Prop} {g : cG} (b : Nat) (L : Nat) (xs : Nat → Int32) (x2 : Int32) (x3 : Int32) (o : Bool × St) (h : XOk C cL_builds RL tG rmL_builds) (hg : XG C g) (hL : C.2.2.2.2.2.2.2.2.2.2.2.2.1 = 10) (hr : XEnd C (some .boolean) Q (XQ g (some (.int (bI o.1))) o.2) (cA g)) (hs : lwS C g b L xs) : ∀ (n : Nat) (z : St × Int32), loopF (fun k z => m_L_builds_b29 z.1 b L xs x2 x3 z.2 k) n z = some o → Xs C (wW g) Q z.1 29 [(0, .ref (gA g 65)), (1, .ref b), (2, .int x2), (3, .int x3), (4, .int z.2)] [] := by
  intro n z hf
  refine loopF_ind (S := St × Int32) (O := Bool × St) (step := (fun k z => m_L_builds_b29 z.1 b L xs x2 x3 z.2 k)) (o := o) (P := fun z => Xs C (wW g) Q z.1 29 [(0, .ref (gA g 65)), (1, .ref b), (2, .int x2), (3, .int x3), (4, .int z.2)] []) ?_ n z hf
  intro k hk z hf
  exact w_L_builds_b29 z.1 b L xs x2 x3 z.2 o h hg hL hr hs k hk hf
def m_L_builds_b3 (σ : St) (b : Nat) (L : Nat) (xs : Nat → Int32) (x2 : Int32) (x3 : Int32) (x4 : Int32) (k3 : (St × Int32) → Option (Bool × St)) : Option (Bool × St) :=
  if x3 ≤ x4 then (
    loopF (fun k z => m_L_builds_b29 z.1 b L xs x2 x3 z.2 k) cFu (σ, 0)
  ) else (
    (m_X9_addState σ).bind fun u3 =>
    if u3.1 = x4 then (
      k3 (u3.2, (x4 + 1))
    ) else (
      some (false, u3.2)
    )
  )
set_option maxHeartbeats 4000000 in
set_option maxRecDepth 100000 in
theorem w_L_builds_b3 {C : XC} {Q : State → Prop} {g : cG} (σ : St) (b : Nat) (L : Nat) (xs : Nat → Int32) (x2 : Int32) (x3 : Int32) (x4 : Int32) (o : Bool × St) (h : XOk C cL_builds RL tG rmL_builds) (hg : XG C g) (hL : C.2.2.2.2.2.2.2.2.2.2.2.2.1 = 10) (hr : XEnd C (some .boolean) Q (XQ g (some (.int (bI o.1))) o.2) (cA g)) (hs : lwS C g b L xs) (k3 : (St × Int32) → Option (Bool × St)) (hk3 : ∀ z : St × Int32, k3 z = some o → Xs C (wW g) Q z.1 3 [(0, .ref (gA g 65)), (1, .ref b), (2, .int x2), (3, .int x3), (4, .int z.2)] []) (hf : m_L_builds_b3 σ b L xs x2 x3 x4 k3 = some o) : Xs C (wW g) Q σ 3 [(0, .ref (gA g 65)), (1, .ref b), (2, .int x2), (3, .int x3), (4, .int x4)] [] := by
  unfold m_L_builds_b3 at hf
  refine x_iload h dL_builds_3 4 rfl (q := 5) rfl ?_
  refine x_iload_n h dL_builds_5 rfl 3 rfl (q := 6) rfl ?_
  refine x_icmp_ge (tgt := 26) h dL_builds_6 (by decide) (q := 9) rfl hf (fun hc1 hf2 => ?_) (fun hc1 hf2 => ?_)
  · skip
    refine x_iconst (v := 0) h dL_builds_26 (by decide) (q := 27) rfl ?_
    refine x_istore (lv' := [(4, .int 0), (0, .ref (gA g 65)), (1, .ref b), (2, .int x2), (3, .int x3)]) h dL_builds_27 hL (by decide) rfl (q := 29) rfl ?_
    refine x_sub (lv' := [(0, .ref (gA g 65)), (1, .ref b), (2, .int x2), (3, .int x3), (4, .int 0)]) [1, 2, 3, 4, 0] rfl ?_
    exact w_L_builds_l29 b L xs x2 x3 o h hg hL hr hs  cFu (σ, 0) hf2
  · skip
    refine x_aload_n h dL_builds_9 rfl 0 rfl (q := 10) rfl ?_
    obtain ⟨u3, hu3, hf4⟩ := bnd_inv hf2
    refine x_callVi (As := []) (rest := []) h hg (c_X9_addState C.2.1 hg.2.1 σ _ hu3) ml_L_65 biX9_addState rfl rfl hdX9_addState ⟨Nat.le_of_ble_eq_true rfl, Nat.le_of_ble_eq_true rfl⟩ (by decide) (cE_65 g _) rfl rfl rfl (Nat.le_of_ble_eq_true rfl) dL_builds_10 ?_
    refine x_iload h dL_builds_13 4 rfl (q := 15) rfl ?_
    refine x_icmp_eq (tgt := 20) h dL_builds_15 (by decide) (q := 18) rfl hf4 (fun hc5 hf6 => ?_) (fun hc5 hf6 => ?_)
    · skip
      refine x_iinc (v := (x4 + 1)) (lv' := [(4, .int (x4 + 1)), (0, .ref (gA g 65)), (1, .ref b), (2, .int x2), (3, .int x3)]) (j := 4) h dL_builds_20 rfl rfl hL (by decide) rfl (q := 23) rfl ?_
      refine x_goto (q := 3) h dL_builds_23 (by decide) ?_
      refine x_sub (lv' := [(0, .ref (gA g 65)), (1, .ref b), (2, .int x2), (3, .int x3), (4, .int (x4 + 1))]) [1, 2, 3, 4, 0] rfl ?_
      exact hk3 (u3.2, (x4 + 1)) hf6
    · skip
      refine x_iconst (v := 0) h dL_builds_18 (by decide) (q := 19) rfl ?_
      have hz := Option.some.inj hf6
      subst hz
      exact x_zret (b := false) h hg hr dL_builds_19
set_option maxHeartbeats 4000000 in
set_option maxRecDepth 100000 in
theorem w_L_builds_l3 {C : XC} {Q : State → Prop} {g : cG} (b : Nat) (L : Nat) (xs : Nat → Int32) (x2 : Int32) (x3 : Int32) (o : Bool × St) (h : XOk C cL_builds RL tG rmL_builds) (hg : XG C g) (hL : C.2.2.2.2.2.2.2.2.2.2.2.2.1 = 10) (hr : XEnd C (some .boolean) Q (XQ g (some (.int (bI o.1))) o.2) (cA g)) (hs : lwS C g b L xs) : ∀ (n : Nat) (z : St × Int32), loopF (fun k z => m_L_builds_b3 z.1 b L xs x2 x3 z.2 k) n z = some o → Xs C (wW g) Q z.1 3 [(0, .ref (gA g 65)), (1, .ref b), (2, .int x2), (3, .int x3), (4, .int z.2)] [] := by
  intro n z hf
  refine loopF_ind (S := St × Int32) (O := Bool × St) (step := (fun k z => m_L_builds_b3 z.1 b L xs x2 x3 z.2 k)) (o := o) (P := fun z => Xs C (wW g) Q z.1 3 [(0, .ref (gA g 65)), (1, .ref b), (2, .int x2), (3, .int x3), (4, .int z.2)] []) ?_ n z hf
  intro k hk z hf
  exact w_L_builds_b3 z.1 b L xs x2 x3 z.2 o h hg hL hr hs k hk hf
def m_L_builds (σ : St) (b : Nat) (L : Nat) (xs : Nat → Int32) (x2 : Int32) (x3 : Int32) : Option (Bool × St) :=
  loopF (fun k z => m_L_builds_b3 z.1 b L xs x2 x3 z.2 k) cFu (σ, 0)
set_option maxHeartbeats 4000000 in
set_option maxRecDepth 100000 in
theorem w_L_builds {C : XC} {Q : State → Prop} {g : cG} (σ : St) (b : Nat) (L : Nat) (xs : Nat → Int32) (x2 : Int32) (x3 : Int32) (o : Bool × St) (h : XOk C cL_builds RL tG rmL_builds) (hg : XG C g) (hL : C.2.2.2.2.2.2.2.2.2.2.2.2.1 = 10) (hr : XEnd C (some .boolean) Q (XQ g (some (.int (bI o.1))) o.2) (cA g)) (hs : lwS C g b L xs) (hf : m_L_builds σ b L xs x2 x3 = some o) : Xs C (wW g) Q σ 0 [(0, .ref (gA g 65)), (1, .ref b), (2, .int x2), (3, .int x3)] [] := by
  unfold m_L_builds at hf
  refine x_iconst (v := 0) h dL_builds_0 (by decide) (q := 1) rfl ?_
  refine x_istore (lv' := [(4, .int 0), (0, .ref (gA g 65)), (1, .ref b), (2, .int x2), (3, .int x3)]) h dL_builds_1 hL (by decide) rfl (q := 3) rfl ?_
  refine x_sub (lv' := [(0, .ref (gA g 65)), (1, .ref b), (2, .int x2), (3, .int x3), (4, .int 0)]) [1, 2, 3, 4, 0] rfl ?_
  exact w_L_builds_l3 b L xs x2 x3 o h hg hL hr hs  cFu (σ, 0) hf
theorem c_L_builds (l : Launch) {g : cG} (hi : gInj g) (σ : St) (b : Nat) (L : Nat) (xs : Nat → Int32) (x2 : Int32) (x3 : Int32) (o : Bool × St) (hb : ¬ cA g b) (hL : L ≤ 260) (hf : m_L_builds σ b L xs x2 x3 = some o) : Met l yL_builds (wT yL_builds cL_builds 10 (some .boolean)) rmL_builds (va_Pc [.ref (gA g 65), .ref b, .int x2, .int x3] (XPreB g σ b L xs)) (XQ g (some (.int (bI o.1))) o.2) 0 0 (cA g) :=
  X_metB RL hi hb hL plL rfl (Nat.le_of_ble_eq_true rfl) rfl (fun _ _ _ h hg hL hr hs => w_L_builds σ b L xs x2 x3 o h hg hL hr hs hf)
abbrev rmL_steps : Room := { frames := 4, cells := 0, slots := 0, locals := 96 }
theorem hdL_steps : yL_steps.cls ≠ "java/lang/invoke/MethodHandle" ∧ yL_steps.cls ≠ "java/lang/invoke/VarHandle" ∧ (parseMethodDescriptor yL_steps.desc).map (fun d => d.parameters.length) = some 4 := by decide +kernel
def m_L_steps_b154 (σ : St) (x1 : Int32) (x2 : Int32) (x4 : Int32) (x5 : Int32) (x6 : Int32) (x7 : Int32) (x8 : Int32) (x9 : Int32) (x10 : Int32) (k21 : (St × Int32) → Option (Bool × St)) (k117 : (St × Int32) → Option (Bool × St)) : Option (Bool × St) :=
  (m_X9_forced σ x10 x4).bind fun u1 =>
  if x8 ≤ u1.1 then (
    k117 (u1.2, (x9 + 1))
  ) else (
    some (false, u1.2)
  )
set_option maxHeartbeats 4000000 in
set_option maxRecDepth 100000 in
theorem w_L_steps_b154 {C : XC} {Q : State → Prop} {g : cG} (σ : St) (x1 : Int32) (x2 : Int32) (x4 : Int32) (x5 : Int32) (x6 : Int32) (x7 : Int32) (x8 : Int32) (x9 : Int32) (x10 : Int32) (o : Bool × St) (h : XOk C cL_steps RL tG rmL_steps) (hg : XG C g) (hL : C.2.2.2.2.2.2.2.2.2.2.2.2.1 = 11) (hr : XEnd C (some .boolean) Q (XQ g (some (.int (bI o.1))) o.2) (cA g)) (k21 : (St × Int32) → Option (Bool × St)) (k117 : (St × Int32) → Option (Bool × St)) (hk21 : ∀ z : St × Int32, k21 z = some o → Xs C (wW g) Q z.1 21 [(0, .ref (gA g 65)), (1, .int x1), (2, .int x2), (4, .int x4), (5, .int x5), (6, .int z.2)] []) (hk117 : ∀ z : St × Int32, k117 z = some o → Xs C (wW g) Q z.1 117 [(0, .ref (gA g 65)), (1, .int x1), (2, .int x2), (4, .int x4), (5, .int x5), (6, .int x6), (7, .int x7), (8, .int x8), (9, .int z.2)] []) (hf : m_L_steps_b154 σ x1 x2 x4 x5 x6 x7 x8 x9 x10 k21 k117 = some o) : Xs C (wW g) Q σ 154 [(0, .ref (gA g 65)), (1, .int x1), (2, .int x2), (4, .int x4), (5, .int x5), (6, .int x6), (7, .int x7), (8, .int x8), (9, .int x9), (10, .int x10)] [] := by
  unfold m_L_steps_b154 at hf
  refine x_aload_n h dL_steps_154 rfl 0 rfl (q := 155) rfl ?_
  refine x_iload h dL_steps_155 9 rfl (q := 157) rfl ?_
  refine x_iload h dL_steps_157 3 rfl (q := 159) rfl ?_
  obtain ⟨u1, hu1, hf2⟩ := bnd_inv hf
  refine x_callVi (As := [.int x10, .int x4]) (rest := []) h hg (c_X9_forced C.2.1 hg.2.1 σ x10 x4 _ hu1) ml_L_44 biX9_forced rfl rfl hdX9_forced ⟨Nat.le_of_ble_eq_true rfl, Nat.le_of_ble_eq_true rfl⟩ (by decide) (cE_65 g _) rfl rfl rfl (Nat.le_of_ble_eq_true rfl) dL_steps_159 ?_
  refine x_iload h dL_steps_162 7 rfl (q := 164) rfl ?_
  refine x_icmp_ge (tgt := 169) h dL_steps_164 (by decide) (q := 167) rfl hf2 (fun hc3 hf4 => ?_) (fun hc3 hf4 => ?_)
  · skip
    refine x_iinc (v := (x9 + 1)) (lv' := [(9, .int (x9 + 1)), (0, .ref (gA g 65)), (1, .int x1), (2, .int x2), (4, .int x4), (5, .int x5), (6, .int x6), (7, .int x7), (8, .int x8), (10, .int x10)]) (j := 8) h dL_steps_169 rfl rfl hL (by decide) rfl (q := 172) rfl ?_
    refine x_goto (q := 117) h dL_steps_172 (by decide) ?_
    refine x_sub (lv' := [(0, .ref (gA g 65)), (1, .int x1), (2, .int x2), (4, .int x4), (5, .int x5), (6, .int x6), (7, .int x7), (8, .int x8), (9, .int (x9 + 1))]) [1, 2, 3, 4, 5, 6, 7, 8, 0] rfl ?_
    exact hk117 (u1.2, (x9 + 1)) hf4
  · skip
    refine x_iconst (v := 0) h dL_steps_167 (by decide) (q := 168) rfl ?_
    have hz := Option.some.inj hf4
    subst hz
    exact x_zret (b := false) h hg hr dL_steps_168
def m_L_steps_b219 (σ : St) (x1 : Int32) (x2 : Int32) (x4 : Int32) (x5 : Int32) (x6 : Int32) (k21 : (St × Int32) → Option (Bool × St)) : Option (Bool × St) :=
  (m_X9_reply σ x6 x4 0 x5).bind fun u1 =>
  if u1.1 = (-9) then (
    k21 (u1.2, (x6 + 1))
  ) else (
    if u1.1 < 0 then (
      some (false, u1.2)
    ) else (
      if ((x5 >>> ((m_X9_next u1.2 x4 u1.1) &&& 31)) &&& 1) = 1 then (
        some (false, u1.2)
      ) else (
        k21 (u1.2, (x6 + 1))
      )
    )
  )
set_option maxHeartbeats 4000000 in
set_option maxRecDepth 100000 in
theorem w_L_steps_b219 {C : XC} {Q : State → Prop} {g : cG} (σ : St) (x1 : Int32) (x2 : Int32) (x4 : Int32) (x5 : Int32) (x6 : Int32) (o : Bool × St) (h : XOk C cL_steps RL tG rmL_steps) (hg : XG C g) (hL : C.2.2.2.2.2.2.2.2.2.2.2.2.1 = 11) (hr : XEnd C (some .boolean) Q (XQ g (some (.int (bI o.1))) o.2) (cA g)) (k21 : (St × Int32) → Option (Bool × St)) (hk21 : ∀ z : St × Int32, k21 z = some o → Xs C (wW g) Q z.1 21 [(0, .ref (gA g 65)), (1, .int x1), (2, .int x2), (4, .int x4), (5, .int x5), (6, .int z.2)] []) (hf : m_L_steps_b219 σ x1 x2 x4 x5 x6 k21 = some o) : Xs C (wW g) Q σ 219 [(0, .ref (gA g 65)), (1, .int x1), (2, .int x2), (4, .int x4), (5, .int x5), (6, .int x6)] [] := by
  unfold m_L_steps_b219 at hf
  refine x_aload_n h dL_steps_219 rfl 0 rfl (q := 220) rfl ?_
  refine x_iload h dL_steps_220 5 rfl (q := 222) rfl ?_
  refine x_iload h dL_steps_222 3 rfl (q := 224) rfl ?_
  refine x_iconst (v := 0) h dL_steps_224 (by decide) (q := 225) rfl ?_
  refine x_iload h dL_steps_225 4 rfl (q := 227) rfl ?_
  obtain ⟨u1, hu1, hf2⟩ := bnd_inv hf
  refine x_callVi (As := [.int x6, .int x4, .int 0, .int x5]) (rest := []) h hg (c_X9_reply C.2.1 hg.2.1 σ x6 x4 0 x5 _ hu1) ml_L_41 biX9_reply rfl rfl hdX9_reply ⟨Nat.le_of_ble_eq_true rfl, Nat.le_of_ble_eq_true rfl⟩ (by decide) (cE_65 g _) rfl rfl rfl (Nat.le_of_ble_eq_true rfl) dL_steps_227 ?_
  refine x_istore (lv' := [(10, .int u1.1), (0, .ref (gA g 65)), (1, .int x1), (2, .int x2), (4, .int x4), (5, .int x5), (6, .int x6)]) h dL_steps_230 hL (by decide) rfl (q := 232) rfl ?_
  refine x_iload h dL_steps_232 0 rfl (q := 234) rfl ?_
  refine x_bipush (v := (-9)) h dL_steps_234 (by decide) (q := 236) rfl ?_
  refine x_icmp_eq (tgt := 263) h dL_steps_236 (by decide) (q := 239) rfl hf2 (fun hc3 hf4 => ?_) (fun hc3 hf4 => ?_)
  · skip
    refine x_iinc (v := (x6 + 1)) (lv' := [(6, .int (x6 + 1)), (10, .int u1.1), (0, .ref (gA g 65)), (1, .int x1), (2, .int x2), (4, .int x4), (5, .int x5)]) (j := 6) h dL_steps_263 rfl rfl hL (by decide) rfl (q := 266) rfl ?_
    refine x_goto (q := 21) h dL_steps_266 (by decide) ?_
    refine x_sub (lv' := [(0, .ref (gA g 65)), (1, .int x1), (2, .int x2), (4, .int x4), (5, .int x5), (6, .int (x6 + 1))]) [2, 3, 4, 5, 6, 0] rfl ?_
    exact hk21 (u1.2, (x6 + 1)) hf4
  · skip
    refine x_iload h dL_steps_239 0 rfl (q := 241) rfl ?_
    refine x_if_lt (tgt := 261) h dL_steps_241 (by decide) (q := 244) rfl hf4 (fun hc5 hf6 => ?_) (fun hc5 hf6 => ?_)
    · skip
      refine x_iconst (v := 0) h dL_steps_261 (by decide) (q := 262) rfl ?_
      have hz := Option.some.inj hf6
      subst hz
      exact x_zret (b := false) h hg hr dL_steps_262
    · skip
      refine x_iload h dL_steps_244 5 rfl (q := 246) rfl ?_
      refine x_aload_n h dL_steps_246 rfl 1 rfl (q := 247) rfl ?_
      refine x_iload h dL_steps_247 4 rfl (q := 249) rfl ?_
      refine x_iload h dL_steps_249 0 rfl (q := 251) rfl ?_
      refine x_callVi (As := [.int x4, .int u1.1]) (rest := [.int x5]) h hg (c_X9_next C.2.1 hg.2.1 u1.2 x4 u1.1 _ rfl) ml_L_34 biX9_next rfl rfl hdX9_next ⟨Nat.le_of_ble_eq_true rfl, Nat.le_of_ble_eq_true rfl⟩ (by decide) (cE_65 g _) rfl rfl rfl (Nat.le_of_ble_eq_true rfl) dL_steps_251 ?_
      refine x_ishr h dL_steps_254 (q := 255) rfl ?_
      refine x_iconst (v := 1) h dL_steps_255 (by decide) (q := 256) rfl ?_
      refine x_iand h dL_steps_256 (q := 257) rfl ?_
      refine x_iconst (v := 1) h dL_steps_257 (by decide) (q := 258) rfl ?_
      refine x_icmp_ne (tgt := 263) h dL_steps_258 (by decide) (q := 261) rfl hf6 (fun hc7 hf8 => ?_) (fun hc7 hf8 => ?_)
      · skip
        refine x_iinc (v := (x6 + 1)) (lv' := [(6, .int (x6 + 1)), (10, .int u1.1), (0, .ref (gA g 65)), (1, .int x1), (2, .int x2), (4, .int x4), (5, .int x5)]) (j := 6) h dL_steps_263 rfl rfl hL (by decide) rfl (q := 266) rfl ?_
        refine x_goto (q := 21) h dL_steps_266 (by decide) ?_
        refine x_sub (lv' := [(0, .ref (gA g 65)), (1, .int x1), (2, .int x2), (4, .int x4), (5, .int x5), (6, .int (x6 + 1))]) [2, 3, 4, 5, 6, 0] rfl ?_
        exact hk21 (u1.2, (x6 + 1)) hf8
      · skip
        refine x_iconst (v := 0) h dL_steps_261 (by decide) (q := 262) rfl ?_
        have hz := Option.some.inj hf8
        subst hz
        exact x_zret (b := false) h hg hr dL_steps_262
def m_L_steps_b117 (σ : St) (x1 : Int32) (x2 : Int32) (x4 : Int32) (x5 : Int32) (x6 : Int32) (x7 : Int32) (x8 : Int32) (x9 : Int32) (k21 : (St × Int32) → Option (Bool × St)) (k117 : (St × Int32) → Option (Bool × St)) : Option (Bool × St) :=
  if x1 ≤ x9 then (
    if x7 = (-9) then (
      m_L_steps_b219 σ x1 x2 x4 x5 x6 k21
    ) else (
      (m_X9_force σ ((((1 : Int32) <<< (x1 &&& 31)) - 1) &&& (x6 ^^^ (-1))) x4 ((((1 : Int32) <<< (x2 &&& 31)) - 1) &&& (x5 ^^^ (-1)))).bind fun u5 =>
      if u5.1 = (-9) then (
        m_L_steps_b219 u5.2 x1 x2 x4 x5 x6 k21
      ) else (
        some (false, u5.2)
      )
    )
  ) else (
    if x7 = (-9) then (
      m_L_steps_b154 σ x1 x2 x4 x5 x6 x7 x8 x9 (x6 ||| ((1 : Int32) <<< (x9 &&& 31))) k21 k117
    ) else (
      (m_X9_force σ (x6 ||| ((1 : Int32) <<< (x9 &&& 31))) x4 x5).bind fun u11 =>
      if u11.1 = (-9) then (
        some (false, u11.2)
      ) else (
        m_L_steps_b154 u11.2 x1 x2 x4 x5 x6 x7 x8 x9 (x6 ||| ((1 : Int32) <<< (x9 &&& 31))) k21 k117
      )
    )
  )
set_option maxHeartbeats 4000000 in
set_option maxRecDepth 100000 in
theorem w_L_steps_b117 {C : XC} {Q : State → Prop} {g : cG} (σ : St) (x1 : Int32) (x2 : Int32) (x4 : Int32) (x5 : Int32) (x6 : Int32) (x7 : Int32) (x8 : Int32) (x9 : Int32) (o : Bool × St) (h : XOk C cL_steps RL tG rmL_steps) (hg : XG C g) (hL : C.2.2.2.2.2.2.2.2.2.2.2.2.1 = 11) (hr : XEnd C (some .boolean) Q (XQ g (some (.int (bI o.1))) o.2) (cA g)) (k21 : (St × Int32) → Option (Bool × St)) (k117 : (St × Int32) → Option (Bool × St)) (hk21 : ∀ z : St × Int32, k21 z = some o → Xs C (wW g) Q z.1 21 [(0, .ref (gA g 65)), (1, .int x1), (2, .int x2), (4, .int x4), (5, .int x5), (6, .int z.2)] []) (hk117 : ∀ z : St × Int32, k117 z = some o → Xs C (wW g) Q z.1 117 [(0, .ref (gA g 65)), (1, .int x1), (2, .int x2), (4, .int x4), (5, .int x5), (6, .int x6), (7, .int x7), (8, .int x8), (9, .int z.2)] []) (hf : m_L_steps_b117 σ x1 x2 x4 x5 x6 x7 x8 x9 k21 k117 = some o) : Xs C (wW g) Q σ 117 [(0, .ref (gA g 65)), (1, .int x1), (2, .int x2), (4, .int x4), (5, .int x5), (6, .int x6), (7, .int x7), (8, .int x8), (9, .int x9)] [] := by
  unfold m_L_steps_b117 at hf
  refine x_iload h dL_steps_117 8 rfl (q := 119) rfl ?_
  refine x_iload_n h dL_steps_119 rfl 1 rfl (q := 120) rfl ?_
  refine x_icmp_ge (tgt := 175) h dL_steps_120 (by decide) (q := 123) rfl hf (fun hc1 hf2 => ?_) (fun hc1 hf2 => ?_)
  · skip
    refine x_iconst (v := 1) h dL_steps_175 (by decide) (q := 176) rfl ?_
    refine x_iload_n h dL_steps_176 rfl 1 rfl (q := 177) rfl ?_
    refine x_ishl h dL_steps_177 (q := 178) rfl ?_
    refine x_iconst (v := 1) h dL_steps_178 (by decide) (q := 179) rfl ?_
    refine x_isub h dL_steps_179 (q := 180) rfl ?_
    refine x_iload h dL_steps_180 5 rfl (q := 182) rfl ?_
    refine x_iconst (v := (-1)) h dL_steps_182 (by decide) (q := 183) rfl ?_
    refine x_ixor h dL_steps_183 (q := 184) rfl ?_
    refine x_iand h dL_steps_184 (q := 185) rfl ?_
    refine x_istore (lv' := [(9, .int ((((1 : Int32) <<< (x1 &&& 31)) - 1) &&& (x6 ^^^ (-1)))), (0, .ref (gA g 65)), (1, .int x1), (2, .int x2), (4, .int x4), (5, .int x5), (6, .int x6), (7, .int x7), (8, .int x8)]) h dL_steps_185 hL (by decide) rfl (q := 187) rfl ?_
    refine x_iload h dL_steps_187 7 rfl (q := 189) rfl ?_
    refine x_bipush (v := (-9)) h dL_steps_189 (by decide) (q := 191) rfl ?_
    refine x_icmp_eq (tgt := 219) h dL_steps_191 (by decide) (q := 194) rfl hf2 (fun hc3 hf4 => ?_) (fun hc3 hf4 => ?_)
    · skip
      refine x_sub (lv' := [(0, .ref (gA g 65)), (1, .int x1), (2, .int x2), (4, .int x4), (5, .int x5), (6, .int x6)]) [1, 2, 3, 4, 5, 6] rfl ?_
      exact w_L_steps_b219 σ x1 x2 x4 x5 x6 o h hg hL hr k21 hk21 hf4
    · skip
      refine x_aload_n h dL_steps_194 rfl 1 rfl (q := 195) rfl ?_
      refine x_iload h dL_steps_195 0 rfl (q := 197) rfl ?_
      refine x_iload h dL_steps_197 4 rfl (q := 199) rfl ?_
      refine x_iconst (v := 1) h dL_steps_199 (by decide) (q := 200) rfl ?_
      refine x_iload_n h dL_steps_200 rfl 3 rfl (q := 201) rfl ?_
      refine x_ishl h dL_steps_201 (q := 202) rfl ?_
      refine x_iconst (v := 1) h dL_steps_202 (by decide) (q := 203) rfl ?_
      refine x_isub h dL_steps_203 (q := 204) rfl ?_
      refine x_iload h dL_steps_204 5 rfl (q := 206) rfl ?_
      refine x_iconst (v := (-1)) h dL_steps_206 (by decide) (q := 207) rfl ?_
      refine x_ixor h dL_steps_207 (q := 208) rfl ?_
      refine x_iand h dL_steps_208 (q := 209) rfl ?_
      obtain ⟨u5, hu5, hf6⟩ := bnd_inv hf4
      refine x_callVi (As := [.int ((((1 : Int32) <<< (x1 &&& 31)) - 1) &&& (x6 ^^^ (-1))), .int x4, .int ((((1 : Int32) <<< (x2 &&& 31)) - 1) &&& (x5 ^^^ (-1)))]) (rest := []) h hg (c_X9_force C.2.1 hg.2.1 σ ((((1 : Int32) <<< (x1 &&& 31)) - 1) &&& (x6 ^^^ (-1))) x4 ((((1 : Int32) <<< (x2 &&& 31)) - 1) &&& (x5 ^^^ (-1))) _ hu5) ml_L_38 biX9_force rfl rfl hdX9_force ⟨Nat.le_of_ble_eq_true rfl, Nat.le_of_ble_eq_true rfl⟩ (by decide) (cE_65 g _) rfl rfl rfl (Nat.le_of_ble_eq_true rfl) dL_steps_209 ?_
      refine x_bipush (v := (-9)) h dL_steps_212 (by decide) (q := 214) rfl ?_
      refine x_icmp_eq (tgt := 219) h dL_steps_214 (by decide) (q := 217) rfl hf6 (fun hc7 hf8 => ?_) (fun hc7 hf8 => ?_)
      · skip
        refine x_sub (lv' := [(0, .ref (gA g 65)), (1, .int x1), (2, .int x2), (4, .int x4), (5, .int x5), (6, .int x6)]) [1, 2, 3, 4, 5, 6] rfl ?_
        exact w_L_steps_b219 u5.2 x1 x2 x4 x5 x6 o h hg hL hr k21 hk21 hf8
      · skip
        refine x_iconst (v := 0) h dL_steps_217 (by decide) (q := 218) rfl ?_
        have hz := Option.some.inj hf8
        subst hz
        exact x_zret (b := false) h hg hr dL_steps_218
  · skip
    refine x_iload h dL_steps_123 5 rfl (q := 125) rfl ?_
    refine x_iconst (v := 1) h dL_steps_125 (by decide) (q := 126) rfl ?_
    refine x_iload h dL_steps_126 8 rfl (q := 128) rfl ?_
    refine x_ishl h dL_steps_128 (q := 129) rfl ?_
    refine x_ior h dL_steps_129 (q := 130) rfl ?_
    refine x_istore (lv' := [(10, .int (x6 ||| ((1 : Int32) <<< (x9 &&& 31)))), (0, .ref (gA g 65)), (1, .int x1), (2, .int x2), (4, .int x4), (5, .int x5), (6, .int x6), (7, .int x7), (8, .int x8), (9, .int x9)]) h dL_steps_130 hL (by decide) rfl (q := 132) rfl ?_
    refine x_iload h dL_steps_132 7 rfl (q := 134) rfl ?_
    refine x_bipush (v := (-9)) h dL_steps_134 (by decide) (q := 136) rfl ?_
    refine x_icmp_eq (tgt := 154) h dL_steps_136 (by decide) (q := 139) rfl hf2 (fun hc9 hf10 => ?_) (fun hc9 hf10 => ?_)
    · skip
      refine x_sub (lv' := [(0, .ref (gA g 65)), (1, .int x1), (2, .int x2), (4, .int x4), (5, .int x5), (6, .int x6), (7, .int x7), (8, .int x8), (9, .int x9), (10, .int (x6 ||| ((1 : Int32) <<< (x9 &&& 31))))]) [1, 2, 3, 4, 5, 6, 7, 8, 9, 0] rfl ?_
      exact w_L_steps_b154 σ x1 x2 x4 x5 x6 x7 x8 x9 (x6 ||| ((1 : Int32) <<< (x9 &&& 31))) o h hg hL hr k21 k117 hk21 hk117 hf10
    · skip
      refine x_aload_n h dL_steps_139 rfl 1 rfl (q := 140) rfl ?_
      refine x_iload h dL_steps_140 0 rfl (q := 142) rfl ?_
      refine x_iload h dL_steps_142 4 rfl (q := 144) rfl ?_
      refine x_iload h dL_steps_144 5 rfl (q := 146) rfl ?_
      obtain ⟨u11, hu11, hf12⟩ := bnd_inv hf10
      refine x_callVi (As := [.int (x6 ||| ((1 : Int32) <<< (x9 &&& 31))), .int x4, .int x5]) (rest := []) h hg (c_X9_force C.2.1 hg.2.1 σ (x6 ||| ((1 : Int32) <<< (x9 &&& 31))) x4 x5 _ hu11) ml_L_38 biX9_force rfl rfl hdX9_force ⟨Nat.le_of_ble_eq_true rfl, Nat.le_of_ble_eq_true rfl⟩ (by decide) (cE_65 g _) rfl rfl rfl (Nat.le_of_ble_eq_true rfl) dL_steps_146 ?_
      refine x_bipush (v := (-9)) h dL_steps_149 (by decide) (q := 151) rfl ?_
      refine x_icmp_eq (tgt := 167) h dL_steps_151 (by decide) (q := 154) rfl hf12 (fun hc13 hf14 => ?_) (fun hc13 hf14 => ?_)
      · skip
        refine x_iconst (v := 0) h dL_steps_167 (by decide) (q := 168) rfl ?_
        have hz := Option.some.inj hf14
        subst hz
        exact x_zret (b := false) h hg hr dL_steps_168
      · skip
        refine x_sub (lv' := [(0, .ref (gA g 65)), (1, .int x1), (2, .int x2), (4, .int x4), (5, .int x5), (6, .int x6), (7, .int x7), (8, .int x8), (9, .int x9), (10, .int (x6 ||| ((1 : Int32) <<< (x9 &&& 31))))]) [1, 2, 3, 4, 5, 6, 7, 8, 9, 0] rfl ?_
        exact w_L_steps_b154 u11.2 x1 x2 x4 x5 x6 x7 x8 x9 (x6 ||| ((1 : Int32) <<< (x9 &&& 31))) o h hg hL hr k21 k117 hk21 hk117 hf14
set_option maxHeartbeats 4000000 in
set_option maxRecDepth 100000 in
theorem w_L_steps_l117 {C : XC} {Q : State → Prop} {g : cG} (x1 : Int32) (x2 : Int32) (x4 : Int32) (x5 : Int32) (x6 : Int32) (x7 : Int32) (x8 : Int32) (o : Bool × St) (h : XOk C cL_steps RL tG rmL_steps) (hg : XG C g) (hL : C.2.2.2.2.2.2.2.2.2.2.2.2.1 = 11) (hr : XEnd C (some .boolean) Q (XQ g (some (.int (bI o.1))) o.2) (cA g)) (k21 : (St × Int32) → Option (Bool × St)) (hk21 : ∀ z : St × Int32, k21 z = some o → Xs C (wW g) Q z.1 21 [(0, .ref (gA g 65)), (1, .int x1), (2, .int x2), (4, .int x4), (5, .int x5), (6, .int z.2)] []) : ∀ (n : Nat) (z : St × Int32), loopF (fun k z => m_L_steps_b117 z.1 x1 x2 x4 x5 x6 x7 x8 z.2 k21 k) n z = some o → Xs C (wW g) Q z.1 117 [(0, .ref (gA g 65)), (1, .int x1), (2, .int x2), (4, .int x4), (5, .int x5), (6, .int x6), (7, .int x7), (8, .int x8), (9, .int z.2)] [] := by
  intro n z hf
  refine loopF_ind (S := St × Int32) (O := Bool × St) (step := (fun k z => m_L_steps_b117 z.1 x1 x2 x4 x5 x6 x7 x8 z.2 k21 k)) (o := o) (P := fun z => Xs C (wW g) Q z.1 117 [(0, .ref (gA g 65)), (1, .int x1), (2, .int x2), (4, .int x4), (5, .int x5), (6, .int x6), (7, .int x7), (8, .int x8), (9, .int z.2)] []) ?_ n z hf
  intro k hk z hf
  exact w_L_steps_b117 z.1 x1 x2 x4 x5 x6 x7 x8 z.2 o h hg hL hr k21 k hk21 hk hf
def m_L_steps_b82 (σ : St) (x1 : Int32) (x2 : Int32) (x4 : Int32) (x5 : Int32) (x6 : Int32) (x7 : Int32) (x8 : Int32) (k21 : (St × Int32) → Option (Bool × St)) : Option (Bool × St) :=
  if x8 < 1 then (
    some (false, σ)
  ) else (
    if ((1 : Int32) <<< (x2 &&& 31)) < x8 then (
      some (false, σ)
    ) else (
      (m_X9_force σ x6 x4 (((1 : Int32) <<< (x2 &&& 31)) - 1)).bind fun u5 =>
      if u5.1 = 0 then (
        loopF (fun k z => m_L_steps_b117 z.1 x1 x2 x4 x5 x6 x7 x8 z.2 k21 k) cFu (u5.2, 0)
      ) else (
        some (false, u5.2)
      )
    )
  )
set_option maxHeartbeats 4000000 in
set_option maxRecDepth 100000 in
theorem w_L_steps_b82 {C : XC} {Q : State → Prop} {g : cG} (σ : St) (x1 : Int32) (x2 : Int32) (x4 : Int32) (x5 : Int32) (x6 : Int32) (x7 : Int32) (x8 : Int32) (o : Bool × St) (h : XOk C cL_steps RL tG rmL_steps) (hg : XG C g) (hL : C.2.2.2.2.2.2.2.2.2.2.2.2.1 = 11) (hr : XEnd C (some .boolean) Q (XQ g (some (.int (bI o.1))) o.2) (cA g)) (k21 : (St × Int32) → Option (Bool × St)) (hk21 : ∀ z : St × Int32, k21 z = some o → Xs C (wW g) Q z.1 21 [(0, .ref (gA g 65)), (1, .int x1), (2, .int x2), (4, .int x4), (5, .int x5), (6, .int z.2)] []) (hf : m_L_steps_b82 σ x1 x2 x4 x5 x6 x7 x8 k21 = some o) : Xs C (wW g) Q σ 82 [(0, .ref (gA g 65)), (1, .int x1), (2, .int x2), (4, .int x4), (5, .int x5), (6, .int x6), (7, .int x7), (8, .int x8)] [] := by
  unfold m_L_steps_b82 at hf
  refine x_iload h dL_steps_82 7 rfl (q := 84) rfl ?_
  refine x_iconst (v := 1) h dL_steps_84 (by decide) (q := 85) rfl ?_
  refine x_icmp_lt (tgt := 112) h dL_steps_85 (by decide) (q := 88) rfl hf (fun hc1 hf2 => ?_) (fun hc1 hf2 => ?_)
  · skip
    refine x_iconst (v := 0) h dL_steps_112 (by decide) (q := 113) rfl ?_
    have hz := Option.some.inj hf2
    subst hz
    exact x_zret (b := false) h hg hr dL_steps_113
  · skip
    refine x_iload h dL_steps_88 7 rfl (q := 90) rfl ?_
    refine x_iconst (v := 1) h dL_steps_90 (by decide) (q := 91) rfl ?_
    refine x_iload_n h dL_steps_91 rfl 2 rfl (q := 92) rfl ?_
    refine x_ishl h dL_steps_92 (q := 93) rfl ?_
    refine x_icmp_gt (tgt := 112) h dL_steps_93 (by decide) (q := 96) rfl hf2 (fun hc3 hf4 => ?_) (fun hc3 hf4 => ?_)
    · skip
      refine x_iconst (v := 0) h dL_steps_112 (by decide) (q := 113) rfl ?_
      have hz := Option.some.inj hf4
      subst hz
      exact x_zret (b := false) h hg hr dL_steps_113
    · skip
      refine x_aload_n h dL_steps_96 rfl 0 rfl (q := 97) rfl ?_
      refine x_iload h dL_steps_97 5 rfl (q := 99) rfl ?_
      refine x_iload h dL_steps_99 3 rfl (q := 101) rfl ?_
      refine x_iconst (v := 1) h dL_steps_101 (by decide) (q := 102) rfl ?_
      refine x_iload_n h dL_steps_102 rfl 2 rfl (q := 103) rfl ?_
      refine x_ishl h dL_steps_103 (q := 104) rfl ?_
      refine x_iconst (v := 1) h dL_steps_104 (by decide) (q := 105) rfl ?_
      refine x_isub h dL_steps_105 (q := 106) rfl ?_
      obtain ⟨u5, hu5, hf6⟩ := bnd_inv hf4
      refine x_callVi (As := [.int x6, .int x4, .int (((1 : Int32) <<< (x2 &&& 31)) - 1)]) (rest := []) h hg (c_X9_force C.2.1 hg.2.1 σ x6 x4 (((1 : Int32) <<< (x2 &&& 31)) - 1) _ hu5) ml_L_38 biX9_force rfl rfl hdX9_force ⟨Nat.le_of_ble_eq_true rfl, Nat.le_of_ble_eq_true rfl⟩ (by decide) (cE_65 g _) rfl rfl rfl (Nat.le_of_ble_eq_true rfl) dL_steps_106 ?_
      refine x_if_eq (tgt := 114) h dL_steps_109 (by decide) (q := 112) rfl hf6 (fun hc7 hf8 => ?_) (fun hc7 hf8 => ?_)
      · skip
        refine x_iconst (v := 0) h dL_steps_114 (by decide) (q := 115) rfl ?_
        refine x_istore (lv' := [(9, .int 0), (0, .ref (gA g 65)), (1, .int x1), (2, .int x2), (4, .int x4), (5, .int x5), (6, .int x6), (7, .int x7), (8, .int x8)]) h dL_steps_115 hL (by decide) rfl (q := 117) rfl ?_
        refine x_sub (lv' := [(0, .ref (gA g 65)), (1, .int x1), (2, .int x2), (4, .int x4), (5, .int x5), (6, .int x6), (7, .int x7), (8, .int x8), (9, .int 0)]) [1, 2, 3, 4, 5, 6, 7, 8, 0] rfl ?_
        exact w_L_steps_l117 x1 x2 x4 x5 x6 x7 x8 o h hg hL hr k21 hk21  cFu (u5.2, 0) hf8
      · skip
        refine x_iconst (v := 0) h dL_steps_112 (by decide) (q := 113) rfl ?_
        have hz := Option.some.inj hf8
        subst hz
        exact x_zret (b := false) h hg hr dL_steps_113
def m_L_steps_b21 (σ : St) (x1 : Int32) (x2 : Int32) (x4 : Int32) (x5 : Int32) (x6 : Int32) (k21 : (St × Int32) → Option (Bool × St)) : Option (Bool × St) :=
  if ((1 : Int32) <<< (x1 &&& 31)) ≤ x6 then (
    some (true, σ)
  ) else (
    (m_X9_force σ x6 x4 x5).bind fun u3 =>
    (m_X9_forced u3.2 x6 x4).bind fun u5 =>
    if u3.1 = (-9) then (
      m_L_steps_b82 u5.2 x1 x2 x4 x5 x6 u3.1 u5.1 k21
    ) else (
      if u3.1 < 0 then (
        some (false, u5.2)
      ) else (
        (m_X9_reply u5.2 x6 x4 u3.1 x5).bind fun u11 =>
        if u11.1 = (-9) then (
          m_L_steps_b82 u11.2 x1 x2 x4 x5 x6 u3.1 u5.1 k21
        ) else (
          some (false, u11.2)
        )
      )
    )
  )
set_option maxHeartbeats 4000000 in
set_option maxRecDepth 100000 in
theorem w_L_steps_b21 {C : XC} {Q : State → Prop} {g : cG} (σ : St) (x1 : Int32) (x2 : Int32) (x4 : Int32) (x5 : Int32) (x6 : Int32) (o : Bool × St) (h : XOk C cL_steps RL tG rmL_steps) (hg : XG C g) (hL : C.2.2.2.2.2.2.2.2.2.2.2.2.1 = 11) (hr : XEnd C (some .boolean) Q (XQ g (some (.int (bI o.1))) o.2) (cA g)) (k21 : (St × Int32) → Option (Bool × St)) (hk21 : ∀ z : St × Int32, k21 z = some o → Xs C (wW g) Q z.1 21 [(0, .ref (gA g 65)), (1, .int x1), (2, .int x2), (4, .int x4), (5, .int x5), (6, .int z.2)] []) (hf : m_L_steps_b21 σ x1 x2 x4 x5 x6 k21 = some o) : Xs C (wW g) Q σ 21 [(0, .ref (gA g 65)), (1, .int x1), (2, .int x2), (4, .int x4), (5, .int x5), (6, .int x6)] [] := by
  unfold m_L_steps_b21 at hf
  refine x_iload h dL_steps_21 5 rfl (q := 23) rfl ?_
  refine x_iconst (v := 1) h dL_steps_23 (by decide) (q := 24) rfl ?_
  refine x_iload_n h dL_steps_24 rfl 1 rfl (q := 25) rfl ?_
  refine x_ishl h dL_steps_25 (q := 26) rfl ?_
  refine x_icmp_ge (tgt := 269) h dL_steps_26 (by decide) (q := 29) rfl hf (fun hc1 hf2 => ?_) (fun hc1 hf2 => ?_)
  · skip
    refine x_iconst (v := 1) h dL_steps_269 (by decide) (q := 270) rfl ?_
    have hz := Option.some.inj hf2
    subst hz
    exact x_zret (b := true) h hg hr dL_steps_270
  · skip
    refine x_aload_n h dL_steps_29 rfl 0 rfl (q := 30) rfl ?_
    refine x_iload h dL_steps_30 5 rfl (q := 32) rfl ?_
    refine x_iload h dL_steps_32 3 rfl (q := 34) rfl ?_
    refine x_iload h dL_steps_34 4 rfl (q := 36) rfl ?_
    obtain ⟨u3, hu3, hf4⟩ := bnd_inv hf2
    refine x_callVi (As := [.int x6, .int x4, .int x5]) (rest := []) h hg (c_X9_force C.2.1 hg.2.1 σ x6 x4 x5 _ hu3) ml_L_38 biX9_force rfl rfl hdX9_force ⟨Nat.le_of_ble_eq_true rfl, Nat.le_of_ble_eq_true rfl⟩ (by decide) (cE_65 g _) rfl rfl rfl (Nat.le_of_ble_eq_true rfl) dL_steps_36 ?_
    refine x_istore (lv' := [(7, .int u3.1), (0, .ref (gA g 65)), (1, .int x1), (2, .int x2), (4, .int x4), (5, .int x5), (6, .int x6)]) h dL_steps_39 hL (by decide) rfl (q := 41) rfl ?_
    refine x_aload_n h dL_steps_41 rfl 1 rfl (q := 42) rfl ?_
    refine x_iload h dL_steps_42 6 rfl (q := 44) rfl ?_
    refine x_iload h dL_steps_44 4 rfl (q := 46) rfl ?_
    obtain ⟨u5, hu5, hf6⟩ := bnd_inv hf4
    refine x_callVi (As := [.int x6, .int x4]) (rest := []) h hg (c_X9_forced C.2.1 hg.2.1 u3.2 x6 x4 _ hu5) ml_L_44 biX9_forced rfl rfl hdX9_forced ⟨Nat.le_of_ble_eq_true rfl, Nat.le_of_ble_eq_true rfl⟩ (by decide) (cE_65 g _) rfl rfl rfl (Nat.le_of_ble_eq_true rfl) dL_steps_46 ?_
    refine x_istore (lv' := [(8, .int u5.1), (7, .int u3.1), (0, .ref (gA g 65)), (1, .int x1), (2, .int x2), (4, .int x4), (5, .int x5), (6, .int x6)]) h dL_steps_49 hL (by decide) rfl (q := 51) rfl ?_
    refine x_iload h dL_steps_51 1 rfl (q := 53) rfl ?_
    refine x_bipush (v := (-9)) h dL_steps_53 (by decide) (q := 55) rfl ?_
    refine x_icmp_eq (tgt := 82) h dL_steps_55 (by decide) (q := 58) rfl hf6 (fun hc7 hf8 => ?_) (fun hc7 hf8 => ?_)
    · skip
      refine x_sub (lv' := [(0, .ref (gA g 65)), (1, .int x1), (2, .int x2), (4, .int x4), (5, .int x5), (6, .int x6), (7, .int u3.1), (8, .int u5.1)]) [2, 3, 4, 5, 6, 7, 1, 0] rfl ?_
      exact w_L_steps_b82 u5.2 x1 x2 x4 x5 x6 u3.1 u5.1 o h hg hL hr k21 hk21 hf8
    · skip
      refine x_iload h dL_steps_58 1 rfl (q := 60) rfl ?_
      refine x_if_lt (tgt := 80) h dL_steps_60 (by decide) (q := 63) rfl hf8 (fun hc9 hf10 => ?_) (fun hc9 hf10 => ?_)
      · skip
        refine x_iconst (v := 0) h dL_steps_80 (by decide) (q := 81) rfl ?_
        have hz := Option.some.inj hf10
        subst hz
        exact x_zret (b := false) h hg hr dL_steps_81
      · skip
        refine x_aload_n h dL_steps_63 rfl 2 rfl (q := 64) rfl ?_
        refine x_iload h dL_steps_64 7 rfl (q := 66) rfl ?_
        refine x_iload h dL_steps_66 5 rfl (q := 68) rfl ?_
        refine x_iload h dL_steps_68 1 rfl (q := 70) rfl ?_
        refine x_iload h dL_steps_70 6 rfl (q := 72) rfl ?_
        obtain ⟨u11, hu11, hf12⟩ := bnd_inv hf10
        refine x_callVi (As := [.int x6, .int x4, .int u3.1, .int x5]) (rest := []) h hg (c_X9_reply C.2.1 hg.2.1 u5.2 x6 x4 u3.1 x5 _ hu11) ml_L_41 biX9_reply rfl rfl hdX9_reply ⟨Nat.le_of_ble_eq_true rfl, Nat.le_of_ble_eq_true rfl⟩ (by decide) (cE_65 g _) rfl rfl rfl (Nat.le_of_ble_eq_true rfl) dL_steps_72 ?_
        refine x_bipush (v := (-9)) h dL_steps_75 (by decide) (q := 77) rfl ?_
        refine x_icmp_eq (tgt := 82) h dL_steps_77 (by decide) (q := 80) rfl hf12 (fun hc13 hf14 => ?_) (fun hc13 hf14 => ?_)
        · skip
          refine x_sub (lv' := [(0, .ref (gA g 65)), (1, .int x1), (2, .int x2), (4, .int x4), (5, .int x5), (6, .int x6), (7, .int u3.1), (8, .int u5.1)]) [2, 3, 4, 5, 6, 7, 1, 0] rfl ?_
          exact w_L_steps_b82 u11.2 x1 x2 x4 x5 x6 u3.1 u5.1 o h hg hL hr k21 hk21 hf14
        · skip
          refine x_iconst (v := 0) h dL_steps_80 (by decide) (q := 81) rfl ?_
          have hz := Option.some.inj hf14
          subst hz
          exact x_zret (b := false) h hg hr dL_steps_81
set_option maxHeartbeats 4000000 in
set_option maxRecDepth 100000 in
theorem w_L_steps_l21 {C : XC} {Q : State → Prop} {g : cG} (x1 : Int32) (x2 : Int32) (x4 : Int32) (x5 : Int32) (o : Bool × St) (h : XOk C cL_steps RL tG rmL_steps) (hg : XG C g) (hL : C.2.2.2.2.2.2.2.2.2.2.2.2.1 = 11) (hr : XEnd C (some .boolean) Q (XQ g (some (.int (bI o.1))) o.2) (cA g)) : ∀ (n : Nat) (z : St × Int32), loopF (fun k z => m_L_steps_b21 z.1 x1 x2 x4 x5 z.2 k) n z = some o → Xs C (wW g) Q z.1 21 [(0, .ref (gA g 65)), (1, .int x1), (2, .int x2), (4, .int x4), (5, .int x5), (6, .int z.2)] [] := by
  intro n z hf
  refine loopF_ind (S := St × Int32) (O := Bool × St) (step := (fun k z => m_L_steps_b21 z.1 x1 x2 x4 x5 z.2 k)) (o := o) (P := fun z => Xs C (wW g) Q z.1 21 [(0, .ref (gA g 65)), (1, .int x1), (2, .int x2), (4, .int x4), (5, .int x5), (6, .int z.2)] []) ?_ n z hf
  intro k hk z hf
  exact w_L_steps_b21 z.1 x1 x2 x4 x5 z.2 o h hg hL hr k hk hf
def m_L_steps (σ : St) (x1 : Int32) (x2 : Int32) (x3 : Int32) : Option (Bool × St) :=
  (m_L_up x3 x2).bind fun u1 =>
  (m_L_up (x3 >>> ((3 : Int32) &&& 31)) ((1 : Int32) <<< (x2 &&& 31))).bind fun u3 =>
  loopF (fun k z => m_L_steps_b21 z.1 x1 x2 u1 u3 z.2 k) cFu (σ, 0)
set_option maxHeartbeats 4000000 in
set_option maxRecDepth 100000 in
theorem w_L_steps {C : XC} {Q : State → Prop} {g : cG} (σ : St) (x1 : Int32) (x2 : Int32) (x3 : Int32) (o : Bool × St) (h : XOk C cL_steps RL tG rmL_steps) (hg : XG C g) (hL : C.2.2.2.2.2.2.2.2.2.2.2.2.1 = 11) (hr : XEnd C (some .boolean) Q (XQ g (some (.int (bI o.1))) o.2) (cA g)) (hf : m_L_steps σ x1 x2 x3 = some o) : Xs C (wW g) Q σ 0 [(0, .ref (gA g 65)), (1, .int x1), (2, .int x2), (3, .int x3)] [] := by
  unfold m_L_steps at hf
  refine x_iload_n h dL_steps_0 rfl 3 rfl (q := 1) rfl ?_
  refine x_iload_n h dL_steps_1 rfl 2 rfl (q := 2) rfl ?_
  obtain ⟨u1, hu1, hf2⟩ := bnd_inv hf
  refine x_callPi (As := [.int x3, .int x2]) (rest := []) h (c_L_up C.2.1 x3 x2 _ hu1) ml_L_75 biL_up rfl rfl hdL_up ⟨Nat.le_of_ble_eq_true rfl, Nat.le_of_ble_eq_true rfl⟩ rfl rfl (Nat.le_of_ble_eq_true rfl) dL_steps_2 ?_
  refine x_istore (lv' := [(4, .int u1), (0, .ref (gA g 65)), (1, .int x1), (2, .int x2), (3, .int x3)]) h dL_steps_5 hL (by decide) rfl (q := 7) rfl ?_
  refine x_iload_n h dL_steps_7 rfl 4 rfl (q := 8) rfl ?_
  refine x_iconst (v := 3) h dL_steps_8 (by decide) (q := 9) rfl ?_
  refine x_ishr h dL_steps_9 (q := 10) rfl ?_
  refine x_iconst (v := 1) h dL_steps_10 (by decide) (q := 11) rfl ?_
  refine x_iload_n h dL_steps_11 rfl 3 rfl (q := 12) rfl ?_
  refine x_ishl h dL_steps_12 (q := 13) rfl ?_
  obtain ⟨u3, hu3, hf4⟩ := bnd_inv hf2
  refine x_callPi (As := [.int (x3 >>> ((3 : Int32) &&& 31)), .int ((1 : Int32) <<< (x2 &&& 31))]) (rest := []) h (c_L_up C.2.1 (x3 >>> ((3 : Int32) &&& 31)) ((1 : Int32) <<< (x2 &&& 31)) _ hu3) ml_L_75 biL_up rfl rfl hdL_up ⟨Nat.le_of_ble_eq_true rfl, Nat.le_of_ble_eq_true rfl⟩ rfl rfl (Nat.le_of_ble_eq_true rfl) dL_steps_13 ?_
  refine x_istore (lv' := [(5, .int u3), (4, .int u1), (0, .ref (gA g 65)), (1, .int x1), (2, .int x2), (3, .int x3)]) h dL_steps_16 hL (by decide) rfl (q := 18) rfl ?_
  refine x_iconst (v := 0) h dL_steps_18 (by decide) (q := 19) rfl ?_
  refine x_istore (lv' := [(6, .int 0), (5, .int u3), (4, .int u1), (0, .ref (gA g 65)), (1, .int x1), (2, .int x2), (3, .int x3)]) h dL_steps_19 hL (by decide) rfl (q := 21) rfl ?_
  refine x_sub (lv' := [(0, .ref (gA g 65)), (1, .int x1), (2, .int x2), (4, .int u1), (5, .int u3), (6, .int 0)]) [3, 4, 5, 2, 1, 0] rfl ?_
  exact w_L_steps_l21 x1 x2 u1 u3 o h hg hL hr  cFu (σ, 0) hf4
theorem c_L_steps (l : Launch) {g : cG} (hi : gInj g) (σ : St) (x1 : Int32) (x2 : Int32) (x3 : Int32) (o : Bool × St) (hf : m_L_steps σ x1 x2 x3 = some o) : Met l yL_steps (wT yL_steps cL_steps 11 (some .boolean)) rmL_steps (va_Pc [.ref (gA g 65), .int x1, .int x2, .int x3] (XPre g σ)) (XQ g (some (.int (bI o.1))) o.2) 0 0 (cA g) :=
  X_met RL hi plL rfl (Nat.le_of_ble_eq_true rfl) rfl (fun _ _ _ h hg hL hr => w_L_steps σ x1 x2 x3 o h hg hL hr hf)
abbrev rmL_reads : Room := { frames := 8, cells := 0, slots := 0, locals := 176 }
theorem hdL_reads : yL_reads.cls ≠ "java/lang/invoke/MethodHandle" ∧ yL_reads.cls ≠ "java/lang/invoke/VarHandle" ∧ (parseMethodDescriptor yL_reads.desc).map (fun d => d.parameters.length) = some 4 := by decide +kernel
def m_L_reads_b131 (σ : St) (x4 : Int32) : Option (Int32 × St) :=
  if x4 ≤ 0 then (
    some ((-1), σ)
  ) else (
    (m_X9_read σ).bind fun u3 =>
    some (u3.1, u3.2)
  )
set_option maxHeartbeats 4000000 in
set_option maxRecDepth 100000 in
theorem w_L_reads_b131 {C : XC} {Q : State → Prop} {g : cG} (σ : St) (x4 : Int32) (o : Int32 × St) (h : XOk C cL_reads RL tG rmL_reads) (hg : XG C g) (hL : C.2.2.2.2.2.2.2.2.2.2.2.2.1 = 6) (hr : XEnd C (some .int) Q (XQ g (some (.int o.1)) o.2) (cA g)) (hf : m_L_reads_b131 σ x4  = some o) : Xs C (wW g) Q σ 131 [(0, .ref (gA g 65)), (4, .int x4)] [] := by
  unfold m_L_reads_b131 at hf
  refine x_iload h dL_reads_131 1 rfl (q := 133) rfl ?_
  refine x_if_le (tgt := 143) h dL_reads_133 (by decide) (q := 136) rfl hf (fun hc1 hf2 => ?_) (fun hc1 hf2 => ?_)
  · skip
    refine x_iconst (v := (-1)) h dL_reads_143 (by decide) (q := 144) rfl ?_
    have hz := Option.some.inj hf2
    subst hz
    exact x_iret h hg hr dL_reads_144
  · skip
    refine x_aload_n h dL_reads_136 rfl 0 rfl (q := 137) rfl ?_
    obtain ⟨u3, hu3, hf4⟩ := bnd_inv hf2
    refine x_callVi (As := []) (rest := []) h hg (c_X9_read C.2.1 hg.2.1 σ _ hu3) ml_L_87 biX9_read rfl rfl hdX9_read ⟨Nat.le_of_ble_eq_true rfl, Nat.le_of_ble_eq_true rfl⟩ (by decide) (cE_65 g _) rfl rfl rfl (Nat.le_of_ble_eq_true rfl) dL_reads_137 ?_
    refine x_goto (q := 144) h dL_reads_140 (by decide) ?_
    have hz := Option.some.inj hf4
    subst hz
    exact x_iret h hg hr dL_reads_144
def m_L_reads_b89 (σ : St) (x3 : Int32) (s0 : Int32) : Option (Int32 × St) :=
  if x3 = 3 then (
    m_L_reads_b131 (m_X9_type (m_X9_type (m_X9_type (m_X9_type (m_X9_type σ s0).2 97).2 85).2 98).2 41).2 (m_X9_type (m_X9_type (m_X9_type (m_X9_type (m_X9_type σ s0).2 97).2 85).2 98).2 41).1
  ) else (
    m_L_reads_b131 (m_X9_type (m_X9_type σ s0).2 97).2 (m_X9_type (m_X9_type σ s0).2 97).1
  )
set_option maxHeartbeats 4000000 in
set_option maxRecDepth 100000 in
theorem w_L_reads_b89 {C : XC} {Q : State → Prop} {g : cG} (σ : St) (x3 : Int32) (s0 : Int32) (o : Int32 × St) (h : XOk C cL_reads RL tG rmL_reads) (hg : XG C g) (hL : C.2.2.2.2.2.2.2.2.2.2.2.2.1 = 6) (hr : XEnd C (some .int) Q (XQ g (some (.int o.1)) o.2) (cA g)) (hf : m_L_reads_b89 σ x3 s0  = some o) : Xs C (wW g) Q σ 89 [(0, .ref (gA g 65)), (3, .int x3)] [.int s0, .ref (gA g 65)] := by
  unfold m_L_reads_b89 at hf
  refine x_callVi (As := [.int s0]) (rest := []) h hg (c_X9_type C.2.1 hg.2.1 σ s0 _ rfl) ml_L_47 biX9_type rfl rfl hdX9_type ⟨Nat.le_of_ble_eq_true rfl, Nat.le_of_ble_eq_true rfl⟩ (by decide) (cE_65 g _) rfl rfl rfl (Nat.le_of_ble_eq_true rfl) dL_reads_89 ?_
  refine x_istore (lv' := [(4, .int (m_X9_type σ s0).1), (0, .ref (gA g 65)), (3, .int x3)]) h dL_reads_92 hL (by decide) rfl (q := 94) rfl ?_
  refine x_aload_n h dL_reads_94 rfl 1 rfl (q := 95) rfl ?_
  refine x_bipush (v := 97) h dL_reads_95 (by decide) (q := 97) rfl ?_
  refine x_callVi (As := [.int 97]) (rest := []) h hg (c_X9_type C.2.1 hg.2.1 (m_X9_type σ s0).2 97 _ rfl) ml_L_47 biX9_type rfl rfl hdX9_type ⟨Nat.le_of_ble_eq_true rfl, Nat.le_of_ble_eq_true rfl⟩ (by decide) (cE_65 g _) rfl rfl rfl (Nat.le_of_ble_eq_true rfl) dL_reads_97 ?_
  refine x_istore (lv' := [(4, .int (m_X9_type (m_X9_type σ s0).2 97).1), (0, .ref (gA g 65)), (3, .int x3)]) h dL_reads_100 hL (by decide) rfl (q := 102) rfl ?_
  refine x_iload_n h dL_reads_102 rfl 2 rfl (q := 103) rfl ?_
  refine x_iconst (v := 3) h dL_reads_103 (by decide) (q := 104) rfl ?_
  refine x_icmp_ne (tgt := 131) h dL_reads_104 (by decide) (q := 107) rfl hf (fun hc1 hf2 => ?_) (fun hc1 hf2 => ?_)
  · skip
    refine x_sub (lv' := [(0, .ref (gA g 65)), (4, .int (m_X9_type (m_X9_type σ s0).2 97).1)]) [1, 0] rfl ?_
    exact w_L_reads_b131 (m_X9_type (m_X9_type σ s0).2 97).2 (m_X9_type (m_X9_type σ s0).2 97).1 o h hg hL hr hf2
  · skip
    refine x_aload_n h dL_reads_107 rfl 1 rfl (q := 108) rfl ?_
    refine x_bipush (v := 85) h dL_reads_108 (by decide) (q := 110) rfl ?_
    refine x_callVi (As := [.int 85]) (rest := []) h hg (c_X9_type C.2.1 hg.2.1 (m_X9_type (m_X9_type σ s0).2 97).2 85 _ rfl) ml_L_47 biX9_type rfl rfl hdX9_type ⟨Nat.le_of_ble_eq_true rfl, Nat.le_of_ble_eq_true rfl⟩ (by decide) (cE_65 g _) rfl rfl rfl (Nat.le_of_ble_eq_true rfl) dL_reads_110 ?_
    refine x_istore (lv' := [(4, .int (m_X9_type (m_X9_type (m_X9_type σ s0).2 97).2 85).1), (0, .ref (gA g 65)), (3, .int x3)]) h dL_reads_113 hL (by decide) rfl (q := 115) rfl ?_
    refine x_aload_n h dL_reads_115 rfl 1 rfl (q := 116) rfl ?_
    refine x_bipush (v := 98) h dL_reads_116 (by decide) (q := 118) rfl ?_
    refine x_callVi (As := [.int 98]) (rest := []) h hg (c_X9_type C.2.1 hg.2.1 (m_X9_type (m_X9_type (m_X9_type σ s0).2 97).2 85).2 98 _ rfl) ml_L_47 biX9_type rfl rfl hdX9_type ⟨Nat.le_of_ble_eq_true rfl, Nat.le_of_ble_eq_true rfl⟩ (by decide) (cE_65 g _) rfl rfl rfl (Nat.le_of_ble_eq_true rfl) dL_reads_118 ?_
    refine x_istore (lv' := [(4, .int (m_X9_type (m_X9_type (m_X9_type (m_X9_type σ s0).2 97).2 85).2 98).1), (0, .ref (gA g 65)), (3, .int x3)]) h dL_reads_121 hL (by decide) rfl (q := 123) rfl ?_
    refine x_aload_n h dL_reads_123 rfl 1 rfl (q := 124) rfl ?_
    refine x_bipush (v := 41) h dL_reads_124 (by decide) (q := 126) rfl ?_
    refine x_callVi (As := [.int 41]) (rest := []) h hg (c_X9_type C.2.1 hg.2.1 (m_X9_type (m_X9_type (m_X9_type (m_X9_type σ s0).2 97).2 85).2 98).2 41 _ rfl) ml_L_47 biX9_type rfl rfl hdX9_type ⟨Nat.le_of_ble_eq_true rfl, Nat.le_of_ble_eq_true rfl⟩ (by decide) (cE_65 g _) rfl rfl rfl (Nat.le_of_ble_eq_true rfl) dL_reads_126 ?_
    refine x_istore (lv' := [(4, .int (m_X9_type (m_X9_type (m_X9_type (m_X9_type (m_X9_type σ s0).2 97).2 85).2 98).2 41).1), (0, .ref (gA g 65)), (3, .int x3)]) h dL_reads_129 hL (by decide) rfl (q := 131) rfl ?_
    refine x_sub (lv' := [(0, .ref (gA g 65)), (4, .int (m_X9_type (m_X9_type (m_X9_type (m_X9_type (m_X9_type σ s0).2 97).2 85).2 98).2 41).1)]) [1, 0] rfl ?_
    exact w_L_reads_b131 (m_X9_type (m_X9_type (m_X9_type (m_X9_type (m_X9_type σ s0).2 97).2 85).2 98).2 41).2 (m_X9_type (m_X9_type (m_X9_type (m_X9_type (m_X9_type σ s0).2 97).2 85).2 98).2 41).1 o h hg hL hr hf2
def m_L_reads_b11 (σ : St) (x1 : Int32) (x2 : Int32) (x3 : Int32) (x4 : Int32) (x5 : Int32) (k11 : (St × Int32 × Int32) → Option (Int32 × St)) : Option (Int32 × St) :=
  if x1 ≤ x5 then (
    if x3 = 0 then (
      m_L_reads_b89 (m_X9_type σ 62).2 x3 88
    ) else (
      if x3 = 1 then (
        m_L_reads_b89 (m_X9_type σ 62).2 x3 70
      ) else (
        if x3 = 2 then (
          m_L_reads_b89 (m_X9_type σ 62).2 x3 71
        ) else (
          m_L_reads_b89 (m_X9_type σ 62).2 x3 40
        )
      )
    )
  ) else (
    if ((x2 >>> (x5 &&& 31)) &&& 1) = 1 then (
      k11 ((m_X9_type σ (48 + x5)).2, (m_X9_type σ (48 + x5)).1, (x5 + 1))
    ) else (
      k11 (σ, x4, (x5 + 1))
    )
  )
set_option maxHeartbeats 4000000 in
set_option maxRecDepth 100000 in
theorem w_L_reads_b11 {C : XC} {Q : State → Prop} {g : cG} (σ : St) (x1 : Int32) (x2 : Int32) (x3 : Int32) (x4 : Int32) (x5 : Int32) (o : Int32 × St) (h : XOk C cL_reads RL tG rmL_reads) (hg : XG C g) (hL : C.2.2.2.2.2.2.2.2.2.2.2.2.1 = 6) (hr : XEnd C (some .int) Q (XQ g (some (.int o.1)) o.2) (cA g)) (k11 : (St × Int32 × Int32) → Option (Int32 × St)) (hk11 : ∀ z : St × Int32 × Int32, k11 z = some o → Xs C (wW g) Q z.1 11 [(0, .ref (gA g 65)), (1, .int x1), (2, .int x2), (3, .int x3), (4, .int z.2.1), (5, .int z.2.2)] []) (hf : m_L_reads_b11 σ x1 x2 x3 x4 x5 k11 = some o) : Xs C (wW g) Q σ 11 [(0, .ref (gA g 65)), (1, .int x1), (2, .int x2), (3, .int x3), (4, .int x4), (5, .int x5)] [] := by
  unfold m_L_reads_b11 at hf
  refine x_iload h dL_reads_11 5 rfl (q := 13) rfl ?_
  refine x_iload_n h dL_reads_13 rfl 1 rfl (q := 14) rfl ?_
  refine x_icmp_ge (tgt := 49) h dL_reads_14 (by decide) (q := 17) rfl hf (fun hc1 hf2 => ?_) (fun hc1 hf2 => ?_)
  · skip
    refine x_aload_n h dL_reads_49 rfl 0 rfl (q := 50) rfl ?_
    refine x_bipush (v := 62) h dL_reads_50 (by decide) (q := 52) rfl ?_
    refine x_callVi (As := [.int 62]) (rest := []) h hg (c_X9_type C.2.1 hg.2.1 σ 62 _ rfl) ml_L_47 biX9_type rfl rfl hdX9_type ⟨Nat.le_of_ble_eq_true rfl, Nat.le_of_ble_eq_true rfl⟩ (by decide) (cE_65 g _) rfl rfl rfl (Nat.le_of_ble_eq_true rfl) dL_reads_52 ?_
    refine x_istore (lv' := [(4, .int (m_X9_type σ 62).1), (0, .ref (gA g 65)), (1, .int x1), (2, .int x2), (3, .int x3), (5, .int x5)]) h dL_reads_55 hL (by decide) rfl (q := 57) rfl ?_
    refine x_aload_n h dL_reads_57 rfl 1 rfl (q := 58) rfl ?_
    refine x_iload_n h dL_reads_58 rfl 4 rfl (q := 59) rfl ?_
    refine x_if_ne (tgt := 67) h dL_reads_59 (by decide) (q := 62) rfl hf2 (fun hc3 hf4 => ?_) (fun hc3 hf4 => ?_)
    · skip
      refine x_iload_n h dL_reads_67 rfl 4 rfl (q := 68) rfl ?_
      refine x_iconst (v := 1) h dL_reads_68 (by decide) (q := 69) rfl ?_
      refine x_icmp_ne (tgt := 77) h dL_reads_69 (by decide) (q := 72) rfl hf4 (fun hc5 hf6 => ?_) (fun hc5 hf6 => ?_)
      · skip
        refine x_iload_n h dL_reads_77 rfl 4 rfl (q := 78) rfl ?_
        refine x_iconst (v := 2) h dL_reads_78 (by decide) (q := 79) rfl ?_
        refine x_icmp_ne (tgt := 87) h dL_reads_79 (by decide) (q := 82) rfl hf6 (fun hc7 hf8 => ?_) (fun hc7 hf8 => ?_)
        · skip
          refine x_bipush (v := 40) h dL_reads_87 (by decide) (q := 89) rfl ?_
          refine x_sub (lv' := [(0, .ref (gA g 65)), (3, .int x3)]) [1, 4] rfl ?_
          exact w_L_reads_b89 (m_X9_type σ 62).2 x3 40 o h hg hL hr hf8
        · skip
          refine x_bipush (v := 71) h dL_reads_82 (by decide) (q := 84) rfl ?_
          refine x_goto (q := 89) h dL_reads_84 (by decide) ?_
          refine x_sub (lv' := [(0, .ref (gA g 65)), (3, .int x3)]) [1, 4] rfl ?_
          exact w_L_reads_b89 (m_X9_type σ 62).2 x3 71 o h hg hL hr hf8
      · skip
        refine x_bipush (v := 70) h dL_reads_72 (by decide) (q := 74) rfl ?_
        refine x_goto (q := 89) h dL_reads_74 (by decide) ?_
        refine x_sub (lv' := [(0, .ref (gA g 65)), (3, .int x3)]) [1, 4] rfl ?_
        exact w_L_reads_b89 (m_X9_type σ 62).2 x3 70 o h hg hL hr hf6
    · skip
      refine x_bipush (v := 88) h dL_reads_62 (by decide) (q := 64) rfl ?_
      refine x_goto (q := 89) h dL_reads_64 (by decide) ?_
      refine x_sub (lv' := [(0, .ref (gA g 65)), (3, .int x3)]) [1, 4] rfl ?_
      exact w_L_reads_b89 (m_X9_type σ 62).2 x3 88 o h hg hL hr hf4
  · skip
    refine x_iload_n h dL_reads_17 rfl 2 rfl (q := 18) rfl ?_
    refine x_iload h dL_reads_18 5 rfl (q := 20) rfl ?_
    refine x_ishr h dL_reads_20 (q := 21) rfl ?_
    refine x_iconst (v := 1) h dL_reads_21 (by decide) (q := 22) rfl ?_
    refine x_iand h dL_reads_22 (q := 23) rfl ?_
    refine x_iconst (v := 1) h dL_reads_23 (by decide) (q := 24) rfl ?_
    refine x_icmp_ne (tgt := 39) h dL_reads_24 (by decide) (q := 27) rfl hf2 (fun hc9 hf10 => ?_) (fun hc9 hf10 => ?_)
    · skip
      refine x_iload h dL_reads_39 4 rfl (q := 41) rfl ?_
      refine x_istore (lv' := [(4, .int x4), (0, .ref (gA g 65)), (1, .int x1), (2, .int x2), (3, .int x3), (5, .int x5)]) h dL_reads_41 hL (by decide) rfl (q := 43) rfl ?_
      refine x_iinc (v := (x5 + 1)) (lv' := [(5, .int (x5 + 1)), (4, .int x4), (0, .ref (gA g 65)), (1, .int x1), (2, .int x2), (3, .int x3)]) (j := 5) h dL_reads_43 rfl rfl hL (by decide) rfl (q := 46) rfl ?_
      refine x_goto (q := 11) h dL_reads_46 (by decide) ?_
      refine x_sub (lv' := [(0, .ref (gA g 65)), (1, .int x1), (2, .int x2), (3, .int x3), (4, .int x4), (5, .int (x5 + 1))]) [2, 3, 4, 5, 1, 0] rfl ?_
      exact hk11 (σ, x4, (x5 + 1)) hf10
    · skip
      refine x_aload_n h dL_reads_27 rfl 0 rfl (q := 28) rfl ?_
      refine x_bipush (v := 48) h dL_reads_28 (by decide) (q := 30) rfl ?_
      refine x_iload h dL_reads_30 5 rfl (q := 32) rfl ?_
      refine x_iadd h dL_reads_32 (q := 33) rfl ?_
      refine x_callVi (As := [.int (48 + x5)]) (rest := []) h hg (c_X9_type C.2.1 hg.2.1 σ (48 + x5) _ rfl) ml_L_47 biX9_type rfl rfl hdX9_type ⟨Nat.le_of_ble_eq_true rfl, Nat.le_of_ble_eq_true rfl⟩ (by decide) (cE_65 g _) rfl rfl rfl (Nat.le_of_ble_eq_true rfl) dL_reads_33 ?_
      refine x_goto (q := 41) h dL_reads_36 (by decide) ?_
      refine x_istore (lv' := [(4, .int (m_X9_type σ (48 + x5)).1), (0, .ref (gA g 65)), (1, .int x1), (2, .int x2), (3, .int x3), (5, .int x5)]) h dL_reads_41 hL (by decide) rfl (q := 43) rfl ?_
      refine x_iinc (v := (x5 + 1)) (lv' := [(5, .int (x5 + 1)), (4, .int (m_X9_type σ (48 + x5)).1), (0, .ref (gA g 65)), (1, .int x1), (2, .int x2), (3, .int x3)]) (j := 5) h dL_reads_43 rfl rfl hL (by decide) rfl (q := 46) rfl ?_
      refine x_goto (q := 11) h dL_reads_46 (by decide) ?_
      refine x_sub (lv' := [(0, .ref (gA g 65)), (1, .int x1), (2, .int x2), (3, .int x3), (4, .int (m_X9_type σ (48 + x5)).1), (5, .int (x5 + 1))]) [2, 3, 4, 5, 1, 0] rfl ?_
      exact hk11 ((m_X9_type σ (48 + x5)).2, (m_X9_type σ (48 + x5)).1, (x5 + 1)) hf10
set_option maxHeartbeats 4000000 in
set_option maxRecDepth 100000 in
theorem w_L_reads_l11 {C : XC} {Q : State → Prop} {g : cG} (x1 : Int32) (x2 : Int32) (x3 : Int32) (o : Int32 × St) (h : XOk C cL_reads RL tG rmL_reads) (hg : XG C g) (hL : C.2.2.2.2.2.2.2.2.2.2.2.2.1 = 6) (hr : XEnd C (some .int) Q (XQ g (some (.int o.1)) o.2) (cA g)) : ∀ (n : Nat) (z : St × Int32 × Int32), loopF (fun k z => m_L_reads_b11 z.1 x1 x2 x3 z.2.1 z.2.2 k) n z = some o → Xs C (wW g) Q z.1 11 [(0, .ref (gA g 65)), (1, .int x1), (2, .int x2), (3, .int x3), (4, .int z.2.1), (5, .int z.2.2)] [] := by
  intro n z hf
  refine loopF_ind (S := St × Int32 × Int32) (O := Int32 × St) (step := (fun k z => m_L_reads_b11 z.1 x1 x2 x3 z.2.1 z.2.2 k)) (o := o) (P := fun z => Xs C (wW g) Q z.1 11 [(0, .ref (gA g 65)), (1, .int x1), (2, .int x2), (3, .int x3), (4, .int z.2.1), (5, .int z.2.2)] []) ?_ n z hf
  intro k hk z hf
  exact w_L_reads_b11 z.1 x1 x2 x3 z.2.1 z.2.2 o h hg hL hr k hk hf
def m_L_reads (σ : St) (x1 : Int32) (x2 : Int32) (x3 : Int32) : Option (Int32 × St) :=
  loopF (fun k z => m_L_reads_b11 z.1 x1 x2 x3 z.2.1 z.2.2 k) cFu ((m_X9_type σ 60).2, (m_X9_type σ 60).1, 0)
set_option maxHeartbeats 4000000 in
set_option maxRecDepth 100000 in
theorem w_L_reads {C : XC} {Q : State → Prop} {g : cG} (σ : St) (x1 : Int32) (x2 : Int32) (x3 : Int32) (o : Int32 × St) (h : XOk C cL_reads RL tG rmL_reads) (hg : XG C g) (hL : C.2.2.2.2.2.2.2.2.2.2.2.2.1 = 6) (hr : XEnd C (some .int) Q (XQ g (some (.int o.1)) o.2) (cA g)) (hf : m_L_reads σ x1 x2 x3 = some o) : Xs C (wW g) Q σ 0 [(0, .ref (gA g 65)), (1, .int x1), (2, .int x2), (3, .int x3)] [] := by
  unfold m_L_reads at hf
  refine x_aload_n h dL_reads_0 rfl 0 rfl (q := 1) rfl ?_
  refine x_bipush (v := 60) h dL_reads_1 (by decide) (q := 3) rfl ?_
  refine x_callVi (As := [.int 60]) (rest := []) h hg (c_X9_type C.2.1 hg.2.1 σ 60 _ rfl) ml_L_47 biX9_type rfl rfl hdX9_type ⟨Nat.le_of_ble_eq_true rfl, Nat.le_of_ble_eq_true rfl⟩ (by decide) (cE_65 g _) rfl rfl rfl (Nat.le_of_ble_eq_true rfl) dL_reads_3 ?_
  refine x_istore (lv' := [(4, .int (m_X9_type σ 60).1), (0, .ref (gA g 65)), (1, .int x1), (2, .int x2), (3, .int x3)]) h dL_reads_6 hL (by decide) rfl (q := 8) rfl ?_
  refine x_iconst (v := 0) h dL_reads_8 (by decide) (q := 9) rfl ?_
  refine x_istore (lv' := [(5, .int 0), (4, .int (m_X9_type σ 60).1), (0, .ref (gA g 65)), (1, .int x1), (2, .int x2), (3, .int x3)]) h dL_reads_9 hL (by decide) rfl (q := 11) rfl ?_
  refine x_sub (lv' := [(0, .ref (gA g 65)), (1, .int x1), (2, .int x2), (3, .int x3), (4, .int (m_X9_type σ 60).1), (5, .int 0)]) [2, 3, 4, 5, 1, 0] rfl ?_
  exact w_L_reads_l11 x1 x2 x3 o h hg hL hr  cFu ((m_X9_type σ 60).2, (m_X9_type σ 60).1, 0) hf
theorem c_L_reads (l : Launch) {g : cG} (hi : gInj g) (σ : St) (x1 : Int32) (x2 : Int32) (x3 : Int32) (o : Int32 × St) (hf : m_L_reads σ x1 x2 x3 = some o) : Met l yL_reads (wT yL_reads cL_reads 6 (some .int)) rmL_reads (va_Pc [.ref (gA g 65), .int x1, .int x2, .int x3] (XPre g σ)) (XQ g (some (.int o.1)) o.2) 0 0 (cA g) :=
  X_met RL hi plL rfl (Nat.le_of_ble_eq_true rfl) rfl (fun _ _ _ h hg hL hr => w_L_reads σ x1 x2 x3 o h hg hL hr hf)
abbrev rmL_enforces : Room := { frames := 8, cells := 0, slots := 0, locals := 201 }
theorem hdL_enforces : yL_enforces.cls ≠ "java/lang/invoke/MethodHandle" ∧ yL_enforces.cls ≠ "java/lang/invoke/VarHandle" ∧ (parseMethodDescriptor yL_enforces.desc).map (fun d => d.parameters.length) = some 7 := by decide +kernel
def m_L_enforces_b181 (σ : St) (x1 : Int32) (x2 : Int32) (x3 : Int32) (x4 : Int32) (x5 : Int32) (x6 : Int32) (x8 : Int32) (x10 : Int32) (x12 : Int32) (x13 : Int32) (x14 : Int32) (k75 : (St × Int32) → Option (Bool × St)) (k181 : Int32 → Option (Bool × St)) : Option (Bool × St) :=
  if x4 ≤ x14 then (
    (m_X9_smallest σ x1 x10).bind fun u3 =>
    if x12 = 0 then (
      if u3.1 = x3 then (
        some (false, u3.2)
      ) else (
        k75 (u3.2, (x10 + 1))
      )
    ) else (
      if 0 ≤ u3.1 then (
        k75 (u3.2, (x10 + 1))
      ) else (
        some (false, u3.2)
      )
    )
  ) else (
    if ((x3 >>> (x14 &&& 31)) &&& 1) = 1 then (
      dvz (m_L_power x14) <|
      if (m_X9_planned σ x10 x14) = ((x13 / (m_L_power x14)) - (x13 / (m_L_power x14)) / 3 * 3) then (
        k181 (x14 + 1)
      ) else (
        some (false, σ)
      )
    ) else (
      k181 (x14 + 1)
    )
  )
set_option maxHeartbeats 4000000 in
set_option maxRecDepth 100000 in
theorem w_L_enforces_b181 {C : XC} {Q : State → Prop} {g : cG} (σ : St) (x1 : Int32) (x2 : Int32) (x3 : Int32) (x4 : Int32) (x5 : Int32) (x6 : Int32) (x8 : Int32) (x10 : Int32) (x12 : Int32) (x13 : Int32) (x14 : Int32) (o : Bool × St) (h : XOk C cL_enforces RL tG rmL_enforces) (hg : XG C g) (hL : C.2.2.2.2.2.2.2.2.2.2.2.2.1 = 15) (hr : XEnd C (some .boolean) Q (XQ g (some (.int (bI o.1))) o.2) (cA g)) (k75 : (St × Int32) → Option (Bool × St)) (k181 : Int32 → Option (Bool × St)) (hk75 : ∀ z : St × Int32, k75 z = some o → Xs C (wW g) Q z.1 75 [(0, .ref (gA g 65)), (1, .int x1), (2, .int x2), (3, .int x3), (4, .int x4), (5, .int x5), (6, .int x6), (8, .int x8), (10, .int z.2)] []) (hk181 : ∀ z : Int32, k181 z = some o → Xs C (wW g) Q σ 181 [(0, .ref (gA g 65)), (1, .int x1), (2, .int x2), (3, .int x3), (4, .int x4), (5, .int x5), (6, .int x6), (8, .int x8), (10, .int x10), (12, .int x12), (13, .int x13), (14, .int z)] []) (hf : m_L_enforces_b181 σ x1 x2 x3 x4 x5 x6 x8 x10 x12 x13 x14 k75 k181 = some o) : Xs C (wW g) Q σ 181 [(0, .ref (gA g 65)), (1, .int x1), (2, .int x2), (3, .int x3), (4, .int x4), (5, .int x5), (6, .int x6), (8, .int x8), (10, .int x10), (12, .int x12), (13, .int x13), (14, .int x14)] [] := by
  unfold m_L_enforces_b181 at hf
  refine x_iload h dL_enforces_181 11 rfl (q := 183) rfl ?_
  refine x_iload h dL_enforces_183 4 rfl (q := 185) rfl ?_
  refine x_icmp_ge (tgt := 227) h dL_enforces_185 (by decide) (q := 188) rfl hf (fun hc1 hf2 => ?_) (fun hc1 hf2 => ?_)
  · skip
    refine x_aload_n h dL_enforces_227 rfl 0 rfl (q := 228) rfl ?_
    refine x_iload_n h dL_enforces_228 rfl 1 rfl (q := 229) rfl ?_
    refine x_iload h dL_enforces_229 8 rfl (q := 231) rfl ?_
    obtain ⟨u3, hu3, hf4⟩ := bnd_inv hf2
    refine x_callVi (As := [.int x1, .int x10]) (rest := []) h hg (c_X9_smallest C.2.1 hg.2.1 σ x1 x10 _ hu3) ml_L_108 biX9_smallest rfl rfl hdX9_smallest ⟨Nat.le_of_ble_eq_true rfl, Nat.le_of_ble_eq_true rfl⟩ (by decide) (cE_65 g _) rfl rfl rfl (Nat.le_of_ble_eq_true rfl) dL_enforces_231 ?_
    refine x_istore (lv' := [(14, .int u3.1), (0, .ref (gA g 65)), (1, .int x1), (2, .int x2), (3, .int x3), (4, .int x4), (5, .int x5), (6, .int x6), (8, .int x8), (10, .int x10), (12, .int x12), (13, .int x13)]) h dL_enforces_234 hL (by decide) rfl (q := 236) rfl ?_
    refine x_iload h dL_enforces_236 10 rfl (q := 238) rfl ?_
    refine x_if_eq (tgt := 249) h dL_enforces_238 (by decide) (q := 241) rfl hf4 (fun hc5 hf6 => ?_) (fun hc5 hf6 => ?_)
    · skip
      refine x_iload h dL_enforces_249 0 rfl (q := 251) rfl ?_
      refine x_iload_n h dL_enforces_251 rfl 4 rfl (q := 252) rfl ?_
      refine x_icmp_ne (tgt := 257) h dL_enforces_252 (by decide) (q := 255) rfl hf6 (fun hc7 hf8 => ?_) (fun hc7 hf8 => ?_)
      · skip
        refine x_iinc (v := (x10 + 1)) (lv' := [(10, .int (x10 + 1)), (14, .int u3.1), (0, .ref (gA g 65)), (1, .int x1), (2, .int x2), (3, .int x3), (4, .int x4), (5, .int x5), (6, .int x6), (8, .int x8), (12, .int x12), (13, .int x13)]) (j := 9) h dL_enforces_257 rfl rfl hL (by decide) rfl (q := 260) rfl ?_
        refine x_goto (q := 75) h dL_enforces_260 (by decide) ?_
        refine x_sub (lv' := [(0, .ref (gA g 65)), (1, .int x1), (2, .int x2), (3, .int x3), (4, .int x4), (5, .int x5), (6, .int x6), (8, .int x8), (10, .int (x10 + 1))]) [2, 3, 4, 5, 6, 7, 8, 9, 0] rfl ?_
        exact hk75 (u3.2, (x10 + 1)) hf8
      · skip
        refine x_iconst (v := 0) h dL_enforces_255 (by decide) (q := 256) rfl ?_
        have hz := Option.some.inj hf8
        subst hz
        exact x_zret (b := false) h hg hr dL_enforces_256
    · skip
      refine x_iload h dL_enforces_241 0 rfl (q := 243) rfl ?_
      refine x_if_ge (tgt := 257) h dL_enforces_243 (by decide) (q := 246) rfl hf6 (fun hc9 hf10 => ?_) (fun hc9 hf10 => ?_)
      · skip
        refine x_iinc (v := (x10 + 1)) (lv' := [(10, .int (x10 + 1)), (14, .int u3.1), (0, .ref (gA g 65)), (1, .int x1), (2, .int x2), (3, .int x3), (4, .int x4), (5, .int x5), (6, .int x6), (8, .int x8), (12, .int x12), (13, .int x13)]) (j := 9) h dL_enforces_257 rfl rfl hL (by decide) rfl (q := 260) rfl ?_
        refine x_goto (q := 75) h dL_enforces_260 (by decide) ?_
        refine x_sub (lv' := [(0, .ref (gA g 65)), (1, .int x1), (2, .int x2), (3, .int x3), (4, .int x4), (5, .int x5), (6, .int x6), (8, .int x8), (10, .int (x10 + 1))]) [2, 3, 4, 5, 6, 7, 8, 9, 0] rfl ?_
        exact hk75 (u3.2, (x10 + 1)) hf10
      · skip
        refine x_goto (q := 255) h dL_enforces_246 (by decide) ?_
        refine x_iconst (v := 0) h dL_enforces_255 (by decide) (q := 256) rfl ?_
        have hz := Option.some.inj hf10
        subst hz
        exact x_zret (b := false) h hg hr dL_enforces_256
  · skip
    refine x_iload_n h dL_enforces_188 rfl 3 rfl (q := 189) rfl ?_
    refine x_iload h dL_enforces_189 11 rfl (q := 191) rfl ?_
    refine x_ishr h dL_enforces_191 (q := 192) rfl ?_
    refine x_iconst (v := 1) h dL_enforces_192 (by decide) (q := 193) rfl ?_
    refine x_iand h dL_enforces_193 (q := 194) rfl ?_
    refine x_iconst (v := 1) h dL_enforces_194 (by decide) (q := 195) rfl ?_
    refine x_icmp_ne (tgt := 221) h dL_enforces_195 (by decide) (q := 198) rfl hf2 (fun hc11 hf12 => ?_) (fun hc11 hf12 => ?_)
    · skip
      refine x_iinc (v := (x14 + 1)) (lv' := [(14, .int (x14 + 1)), (0, .ref (gA g 65)), (1, .int x1), (2, .int x2), (3, .int x3), (4, .int x4), (5, .int x5), (6, .int x6), (8, .int x8), (10, .int x10), (12, .int x12), (13, .int x13)]) (j := 11) h dL_enforces_221 rfl rfl hL (by decide) rfl (q := 224) rfl ?_
      refine x_goto (q := 181) h dL_enforces_224 (by decide) ?_
      refine x_sub (lv' := [(0, .ref (gA g 65)), (1, .int x1), (2, .int x2), (3, .int x3), (4, .int x4), (5, .int x5), (6, .int x6), (8, .int x8), (10, .int x10), (12, .int x12), (13, .int x13), (14, .int (x14 + 1))]) [1, 2, 3, 4, 5, 6, 7, 8, 9, 10, 11, 0] rfl ?_
      exact hk181 (x14 + 1) hf12
    · skip
      refine x_aload_n h dL_enforces_198 rfl 0 rfl (q := 199) rfl ?_
      refine x_iload h dL_enforces_199 8 rfl (q := 201) rfl ?_
      refine x_iload h dL_enforces_201 11 rfl (q := 203) rfl ?_
      refine x_callVi (As := [.int x10, .int x14]) (rest := []) h hg (c_X9_planned C.2.1 hg.2.1 σ x10 x14 _ rfl) ml_L_59 biX9_planned rfl rfl hdX9_planned ⟨Nat.le_of_ble_eq_true rfl, Nat.le_of_ble_eq_true rfl⟩ (by decide) (cE_65 g _) rfl rfl rfl (Nat.le_of_ble_eq_true rfl) dL_enforces_203 ?_
      refine x_iload h dL_enforces_206 10 rfl (q := 208) rfl ?_
      refine x_iload h dL_enforces_208 11 rfl (q := 210) rfl ?_
      refine x_callPi (As := [.int x14]) (rest := [.int x13, .int (m_X9_planned σ x10 x14)]) h (c_L_power C.2.1 x14 _ rfl) ml_L_105 biL_power rfl rfl hdL_power ⟨Nat.le_of_ble_eq_true rfl, Nat.le_of_ble_eq_true rfl⟩ rfl rfl (Nat.le_of_ble_eq_true rfl) dL_enforces_210 ?_
      obtain ⟨hd13, hf14⟩ := dvz_inv hf12
      refine x_idiv h hd13 dL_enforces_213 (q := 214) rfl ?_
      refine x_iconst (v := 3) h dL_enforces_214 (by decide) (q := 215) rfl ?_
      refine x_irem h (by decide) dL_enforces_215 (q := 216) rfl ?_
      refine x_icmp_eq (tgt := 221) h dL_enforces_216 (by decide) (q := 219) rfl hf14 (fun hc15 hf16 => ?_) (fun hc15 hf16 => ?_)
      · skip
        refine x_iinc (v := (x14 + 1)) (lv' := [(14, .int (x14 + 1)), (0, .ref (gA g 65)), (1, .int x1), (2, .int x2), (3, .int x3), (4, .int x4), (5, .int x5), (6, .int x6), (8, .int x8), (10, .int x10), (12, .int x12), (13, .int x13)]) (j := 11) h dL_enforces_221 rfl rfl hL (by decide) rfl (q := 224) rfl ?_
        refine x_goto (q := 181) h dL_enforces_224 (by decide) ?_
        refine x_sub (lv' := [(0, .ref (gA g 65)), (1, .int x1), (2, .int x2), (3, .int x3), (4, .int x4), (5, .int x5), (6, .int x6), (8, .int x8), (10, .int x10), (12, .int x12), (13, .int x13), (14, .int (x14 + 1))]) [1, 2, 3, 4, 5, 6, 7, 8, 9, 10, 11, 0] rfl ?_
        exact hk181 (x14 + 1) hf16
      · skip
        refine x_iconst (v := 0) h dL_enforces_219 (by decide) (q := 220) rfl ?_
        have hz := Option.some.inj hf16
        subst hz
        exact x_zret (b := false) h hg hr dL_enforces_220
set_option maxHeartbeats 4000000 in
set_option maxRecDepth 100000 in
theorem w_L_enforces_l181 {C : XC} {Q : State → Prop} {g : cG} (σ : St) (x1 : Int32) (x2 : Int32) (x3 : Int32) (x4 : Int32) (x5 : Int32) (x6 : Int32) (x8 : Int32) (x10 : Int32) (x12 : Int32) (x13 : Int32) (o : Bool × St) (h : XOk C cL_enforces RL tG rmL_enforces) (hg : XG C g) (hL : C.2.2.2.2.2.2.2.2.2.2.2.2.1 = 15) (hr : XEnd C (some .boolean) Q (XQ g (some (.int (bI o.1))) o.2) (cA g)) (k75 : (St × Int32) → Option (Bool × St)) (hk75 : ∀ z : St × Int32, k75 z = some o → Xs C (wW g) Q z.1 75 [(0, .ref (gA g 65)), (1, .int x1), (2, .int x2), (3, .int x3), (4, .int x4), (5, .int x5), (6, .int x6), (8, .int x8), (10, .int z.2)] []) : ∀ (n : Nat) (z : Int32), loopF (fun k z => m_L_enforces_b181 σ x1 x2 x3 x4 x5 x6 x8 x10 x12 x13 z k75 k) n z = some o → Xs C (wW g) Q σ 181 [(0, .ref (gA g 65)), (1, .int x1), (2, .int x2), (3, .int x3), (4, .int x4), (5, .int x5), (6, .int x6), (8, .int x8), (10, .int x10), (12, .int x12), (13, .int x13), (14, .int z)] [] := by
  intro n z hf
  refine loopF_ind (S := Int32) (O := Bool × St) (step := (fun k z => m_L_enforces_b181 σ x1 x2 x3 x4 x5 x6 x8 x10 x12 x13 z k75 k)) (o := o) (P := fun z => Xs C (wW g) Q σ 181 [(0, .ref (gA g 65)), (1, .int x1), (2, .int x2), (3, .int x3), (4, .int x4), (5, .int x5), (6, .int x6), (8, .int x8), (10, .int x10), (12, .int x12), (13, .int x13), (14, .int z)] []) ?_ n z hf
  intro k hk z hf
  exact w_L_enforces_b181 σ x1 x2 x3 x4 x5 x6 x8 x10 x12 x13 z o h hg hL hr k75 k hk75 hk hf
def m_L_enforces_b169 (σ : St) (x1 : Int32) (x2 : Int32) (x3 : Int32) (x4 : Int32) (x5 : Int32) (x6 : Int32) (x8 : Int32) (x10 : Int32) (x12 : Int32) (k75 : (St × Int32) → Option (Bool × St)) : Option (Bool × St) :=
  (m_X9_strategy σ x1 x10).bind fun u1 =>
  loopF (fun k z => m_L_enforces_b181 u1.2 x1 x2 x3 x4 x5 x6 x8 x10 x12 u1.1 z k75 k) cFu 0
set_option maxHeartbeats 4000000 in
set_option maxRecDepth 100000 in
theorem w_L_enforces_b169 {C : XC} {Q : State → Prop} {g : cG} (σ : St) (x1 : Int32) (x2 : Int32) (x3 : Int32) (x4 : Int32) (x5 : Int32) (x6 : Int32) (x8 : Int32) (x10 : Int32) (x12 : Int32) (o : Bool × St) (h : XOk C cL_enforces RL tG rmL_enforces) (hg : XG C g) (hL : C.2.2.2.2.2.2.2.2.2.2.2.2.1 = 15) (hr : XEnd C (some .boolean) Q (XQ g (some (.int (bI o.1))) o.2) (cA g)) (k75 : (St × Int32) → Option (Bool × St)) (hk75 : ∀ z : St × Int32, k75 z = some o → Xs C (wW g) Q z.1 75 [(0, .ref (gA g 65)), (1, .int x1), (2, .int x2), (3, .int x3), (4, .int x4), (5, .int x5), (6, .int x6), (8, .int x8), (10, .int z.2)] []) (hf : m_L_enforces_b169 σ x1 x2 x3 x4 x5 x6 x8 x10 x12 k75 = some o) : Xs C (wW g) Q σ 169 [(0, .ref (gA g 65)), (1, .int x1), (2, .int x2), (3, .int x3), (4, .int x4), (5, .int x5), (6, .int x6), (8, .int x8), (10, .int x10), (12, .int x12)] [] := by
  unfold m_L_enforces_b169 at hf
  refine x_aload_n h dL_enforces_169 rfl 0 rfl (q := 170) rfl ?_
  refine x_iload_n h dL_enforces_170 rfl 1 rfl (q := 171) rfl ?_
  refine x_iload h dL_enforces_171 8 rfl (q := 173) rfl ?_
  obtain ⟨u1, hu1, hf2⟩ := bnd_inv hf
  refine x_callVi (As := [.int x1, .int x10]) (rest := []) h hg (c_X9_strategy C.2.1 hg.2.1 σ x1 x10 _ hu1) ml_L_102 biX9_strategy rfl rfl hdX9_strategy ⟨Nat.le_of_ble_eq_true rfl, Nat.le_of_ble_eq_true rfl⟩ (by decide) (cE_65 g _) rfl rfl rfl (Nat.le_of_ble_eq_true rfl) dL_enforces_173 ?_
  refine x_istore (lv' := [(13, .int u1.1), (0, .ref (gA g 65)), (1, .int x1), (2, .int x2), (3, .int x3), (4, .int x4), (5, .int x5), (6, .int x6), (8, .int x8), (10, .int x10), (12, .int x12)]) h dL_enforces_176 hL (by decide) rfl (q := 178) rfl ?_
  refine x_iconst (v := 0) h dL_enforces_178 (by decide) (q := 179) rfl ?_
  refine x_istore (lv' := [(14, .int 0), (13, .int u1.1), (0, .ref (gA g 65)), (1, .int x1), (2, .int x2), (3, .int x3), (4, .int x4), (5, .int x5), (6, .int x6), (8, .int x8), (10, .int x10), (12, .int x12)]) h dL_enforces_179 hL (by decide) rfl (q := 181) rfl ?_
  refine x_sub (lv' := [(0, .ref (gA g 65)), (1, .int x1), (2, .int x2), (3, .int x3), (4, .int x4), (5, .int x5), (6, .int x6), (8, .int x8), (10, .int x10), (12, .int x12), (13, .int u1.1), (14, .int 0)]) [2, 3, 4, 5, 6, 7, 8, 9, 10, 11, 1, 0] rfl ?_
  exact w_L_enforces_l181 u1.2 x1 x2 x3 x4 x5 x6 x8 x10 x12 u1.1 o h hg hL hr k75 hk75  cFu 0 hf2
def m_L_enforces_b152 (σ : St) (x1 : Int32) (x2 : Int32) (x3 : Int32) (x4 : Int32) (x5 : Int32) (x6 : Int32) (x8 : Int32) (x10 : Int32) (x12 : Int32) (s0 : Int32) (k75 : (St × Int32) → Option (Bool × St)) : Option (Bool × St) :=
  if s0 = x12 then (
    some (false, σ)
  ) else (
    m_L_enforces_b169 σ x1 x2 x3 x4 x5 x6 x8 x10 x12 k75
  )
set_option maxHeartbeats 4000000 in
set_option maxRecDepth 100000 in
theorem w_L_enforces_b152 {C : XC} {Q : State → Prop} {g : cG} (σ : St) (x1 : Int32) (x2 : Int32) (x3 : Int32) (x4 : Int32) (x5 : Int32) (x6 : Int32) (x8 : Int32) (x10 : Int32) (x12 : Int32) (s0 : Int32) (o : Bool × St) (h : XOk C cL_enforces RL tG rmL_enforces) (hg : XG C g) (hL : C.2.2.2.2.2.2.2.2.2.2.2.2.1 = 15) (hr : XEnd C (some .boolean) Q (XQ g (some (.int (bI o.1))) o.2) (cA g)) (k75 : (St × Int32) → Option (Bool × St)) (hk75 : ∀ z : St × Int32, k75 z = some o → Xs C (wW g) Q z.1 75 [(0, .ref (gA g 65)), (1, .int x1), (2, .int x2), (3, .int x3), (4, .int x4), (5, .int x5), (6, .int x6), (8, .int x8), (10, .int z.2)] []) (hf : m_L_enforces_b152 σ x1 x2 x3 x4 x5 x6 x8 x10 x12 s0 k75 = some o) : Xs C (wW g) Q σ 152 [(0, .ref (gA g 65)), (1, .int x1), (2, .int x2), (3, .int x3), (4, .int x4), (5, .int x5), (6, .int x6), (8, .int x8), (10, .int x10), (12, .int x12)] [.int s0] := by
  unfold m_L_enforces_b152 at hf
  refine x_iload h dL_enforces_152 9 rfl (q := 154) rfl ?_
  refine x_icmp_ne (tgt := 169) h dL_enforces_154 (by decide) (q := 157) rfl hf (fun hc1 hf2 => ?_) (fun hc1 hf2 => ?_)
  · skip
    exact w_L_enforces_b169 σ x1 x2 x3 x4 x5 x6 x8 x10 x12 o h hg hL hr k75 hk75 hf2
  · skip
    refine x_goto (q := 167) h dL_enforces_157 (by decide) ?_
    refine x_iconst (v := 0) h dL_enforces_167 (by decide) (q := 168) rfl ?_
    have hz := Option.some.inj hf2
    subst hz
    exact x_zret (b := false) h hg hr dL_enforces_168
def m_L_enforces_b140 (σ : St) (x1 : Int32) (x2 : Int32) (x3 : Int32) (x4 : Int32) (x5 : Int32) (x6 : Int32) (x8 : Int32) (x10 : Int32) (x11 : Int32) (x12 : Int32) (k75 : (St × Int32) → Option (Bool × St)) : Option (Bool × St) :=
  if x11 = (-9) then (
    m_L_enforces_b152 σ x1 x2 x3 x4 x5 x6 x8 x10 x12 1 k75
  ) else (
    m_L_enforces_b152 σ x1 x2 x3 x4 x5 x6 x8 x10 x12 0 k75
  )
set_option maxHeartbeats 4000000 in
set_option maxRecDepth 100000 in
theorem w_L_enforces_b140 {C : XC} {Q : State → Prop} {g : cG} (σ : St) (x1 : Int32) (x2 : Int32) (x3 : Int32) (x4 : Int32) (x5 : Int32) (x6 : Int32) (x8 : Int32) (x10 : Int32) (x11 : Int32) (x12 : Int32) (o : Bool × St) (h : XOk C cL_enforces RL tG rmL_enforces) (hg : XG C g) (hL : C.2.2.2.2.2.2.2.2.2.2.2.2.1 = 15) (hr : XEnd C (some .boolean) Q (XQ g (some (.int (bI o.1))) o.2) (cA g)) (k75 : (St × Int32) → Option (Bool × St)) (hk75 : ∀ z : St × Int32, k75 z = some o → Xs C (wW g) Q z.1 75 [(0, .ref (gA g 65)), (1, .int x1), (2, .int x2), (3, .int x3), (4, .int x4), (5, .int x5), (6, .int x6), (8, .int x8), (10, .int z.2)] []) (hf : m_L_enforces_b140 σ x1 x2 x3 x4 x5 x6 x8 x10 x11 x12 k75 = some o) : Xs C (wW g) Q σ 140 [(0, .ref (gA g 65)), (1, .int x1), (2, .int x2), (3, .int x3), (4, .int x4), (5, .int x5), (6, .int x6), (8, .int x8), (10, .int x10), (11, .int x11), (12, .int x12)] [] := by
  unfold m_L_enforces_b140 at hf
  refine x_iload h dL_enforces_140 9 rfl (q := 142) rfl ?_
  refine x_bipush (v := (-9)) h dL_enforces_142 (by decide) (q := 144) rfl ?_
  refine x_icmp_ne (tgt := 151) h dL_enforces_144 (by decide) (q := 147) rfl hf (fun hc1 hf2 => ?_) (fun hc1 hf2 => ?_)
  · skip
    refine x_iconst (v := 0) h dL_enforces_151 (by decide) (q := 152) rfl ?_
    refine x_sub (lv' := [(0, .ref (gA g 65)), (1, .int x1), (2, .int x2), (3, .int x3), (4, .int x4), (5, .int x5), (6, .int x6), (8, .int x8), (10, .int x10), (12, .int x12)]) [0, 1, 2, 3, 4, 5, 6, 7, 8, 10] rfl ?_
    exact w_L_enforces_b152 σ x1 x2 x3 x4 x5 x6 x8 x10 x12 0 o h hg hL hr k75 hk75 hf2
  · skip
    refine x_iconst (v := 1) h dL_enforces_147 (by decide) (q := 148) rfl ?_
    refine x_goto (q := 152) h dL_enforces_148 (by decide) ?_
    refine x_sub (lv' := [(0, .ref (gA g 65)), (1, .int x1), (2, .int x2), (3, .int x3), (4, .int x4), (5, .int x5), (6, .int x6), (8, .int x8), (10, .int x10), (12, .int x12)]) [0, 1, 2, 3, 4, 5, 6, 7, 8, 10] rfl ?_
    exact w_L_enforces_b152 σ x1 x2 x3 x4 x5 x6 x8 x10 x12 1 o h hg hL hr k75 hk75 hf2
def m_L_enforces_b127 (σ : St) (x1 : Int32) (x2 : Int32) (x3 : Int32) (x4 : Int32) (x5 : Int32) (x6 : Int32) (x8 : Int32) (x10 : Int32) (x11 : Int32) (x12 : Int32) (s0 : Int32) (s1 : Int32) (k75 : (St × Int32) → Option (Bool × St)) : Option (Bool × St) :=
  if s1 = s0 then (
    if x2 = 1 then (
      m_L_enforces_b140 σ x1 x2 x3 x4 x5 x6 x8 x10 x11 x12 k75
    ) else (
      if x2 = 3 then (
        m_L_enforces_b140 σ x1 x2 x3 x4 x5 x6 x8 x10 x11 x12 k75
      ) else (
        if x11 = (-3) then (
          m_L_enforces_b169 σ x1 x2 x3 x4 x5 x6 x8 x10 x12 k75
        ) else (
          some (false, σ)
        )
      )
    )
  ) else (
    some (false, σ)
  )
set_option maxHeartbeats 4000000 in
set_option maxRecDepth 100000 in
theorem w_L_enforces_b127 {C : XC} {Q : State → Prop} {g : cG} (σ : St) (x1 : Int32) (x2 : Int32) (x3 : Int32) (x4 : Int32) (x5 : Int32) (x6 : Int32) (x8 : Int32) (x10 : Int32) (x11 : Int32) (x12 : Int32) (s0 : Int32) (s1 : Int32) (o : Bool × St) (h : XOk C cL_enforces RL tG rmL_enforces) (hg : XG C g) (hL : C.2.2.2.2.2.2.2.2.2.2.2.2.1 = 15) (hr : XEnd C (some .boolean) Q (XQ g (some (.int (bI o.1))) o.2) (cA g)) (k75 : (St × Int32) → Option (Bool × St)) (hk75 : ∀ z : St × Int32, k75 z = some o → Xs C (wW g) Q z.1 75 [(0, .ref (gA g 65)), (1, .int x1), (2, .int x2), (3, .int x3), (4, .int x4), (5, .int x5), (6, .int x6), (8, .int x8), (10, .int z.2)] []) (hf : m_L_enforces_b127 σ x1 x2 x3 x4 x5 x6 x8 x10 x11 x12 s0 s1 k75 = some o) : Xs C (wW g) Q σ 127 [(0, .ref (gA g 65)), (1, .int x1), (2, .int x2), (3, .int x3), (4, .int x4), (5, .int x5), (6, .int x6), (8, .int x8), (10, .int x10), (11, .int x11), (12, .int x12)] [.int s0, .int s1] := by
  unfold m_L_enforces_b127 at hf
  refine x_icmp_ne (tgt := 167) h dL_enforces_127 (by decide) (q := 130) rfl hf (fun hc1 hf2 => ?_) (fun hc1 hf2 => ?_)
  · skip
    refine x_iconst (v := 0) h dL_enforces_167 (by decide) (q := 168) rfl ?_
    have hz := Option.some.inj hf2
    subst hz
    exact x_zret (b := false) h hg hr dL_enforces_168
  · skip
    refine x_iload_n h dL_enforces_130 rfl 2 rfl (q := 131) rfl ?_
    refine x_iconst (v := 1) h dL_enforces_131 (by decide) (q := 132) rfl ?_
    refine x_icmp_eq (tgt := 140) h dL_enforces_132 (by decide) (q := 135) rfl hf2 (fun hc3 hf4 => ?_) (fun hc3 hf4 => ?_)
    · skip
      exact w_L_enforces_b140 σ x1 x2 x3 x4 x5 x6 x8 x10 x11 x12 o h hg hL hr k75 hk75 hf4
    · skip
      refine x_iload_n h dL_enforces_135 rfl 2 rfl (q := 136) rfl ?_
      refine x_iconst (v := 3) h dL_enforces_136 (by decide) (q := 137) rfl ?_
      refine x_icmp_ne (tgt := 160) h dL_enforces_137 (by decide) (q := 140) rfl hf4 (fun hc5 hf6 => ?_) (fun hc5 hf6 => ?_)
      · skip
        refine x_iload h dL_enforces_160 9 rfl (q := 162) rfl ?_
        refine x_bipush (v := (-3)) h dL_enforces_162 (by decide) (q := 164) rfl ?_
        refine x_icmp_eq (tgt := 169) h dL_enforces_164 (by decide) (q := 167) rfl hf6 (fun hc7 hf8 => ?_) (fun hc7 hf8 => ?_)
        · skip
          refine x_sub (lv' := [(0, .ref (gA g 65)), (1, .int x1), (2, .int x2), (3, .int x3), (4, .int x4), (5, .int x5), (6, .int x6), (8, .int x8), (10, .int x10), (12, .int x12)]) [0, 1, 2, 3, 4, 5, 6, 7, 8, 10] rfl ?_
          exact w_L_enforces_b169 σ x1 x2 x3 x4 x5 x6 x8 x10 x12 o h hg hL hr k75 hk75 hf8
        · skip
          refine x_iconst (v := 0) h dL_enforces_167 (by decide) (q := 168) rfl ?_
          have hz := Option.some.inj hf8
          subst hz
          exact x_zret (b := false) h hg hr dL_enforces_168
      · skip
        exact w_L_enforces_b140 σ x1 x2 x3 x4 x5 x6 x8 x10 x11 x12 o h hg hL hr k75 hk75 hf6
def m_L_enforces_b107 (σ : St) (x1 : Int32) (x2 : Int32) (x3 : Int32) (x4 : Int32) (x5 : Int32) (x6 : Int32) (x8 : Int32) (x10 : Int32) (x11 : Int32) (s0 : Int32) (k75 : (St × Int32) → Option (Bool × St)) : Option (Bool × St) :=
  if ((x8 >>> (x10 &&& 31)) &&& 1) = 1 then (
    m_L_enforces_b127 σ x1 x2 x3 x4 x5 x6 x8 x10 x11 s0 1 s0 k75
  ) else (
    m_L_enforces_b127 σ x1 x2 x3 x4 x5 x6 x8 x10 x11 s0 0 s0 k75
  )
set_option maxHeartbeats 4000000 in
set_option maxRecDepth 100000 in
theorem w_L_enforces_b107 {C : XC} {Q : State → Prop} {g : cG} (σ : St) (x1 : Int32) (x2 : Int32) (x3 : Int32) (x4 : Int32) (x5 : Int32) (x6 : Int32) (x8 : Int32) (x10 : Int32) (x11 : Int32) (s0 : Int32) (o : Bool × St) (h : XOk C cL_enforces RL tG rmL_enforces) (hg : XG C g) (hL : C.2.2.2.2.2.2.2.2.2.2.2.2.1 = 15) (hr : XEnd C (some .boolean) Q (XQ g (some (.int (bI o.1))) o.2) (cA g)) (k75 : (St × Int32) → Option (Bool × St)) (hk75 : ∀ z : St × Int32, k75 z = some o → Xs C (wW g) Q z.1 75 [(0, .ref (gA g 65)), (1, .int x1), (2, .int x2), (3, .int x3), (4, .int x4), (5, .int x5), (6, .int x6), (8, .int x8), (10, .int z.2)] []) (hf : m_L_enforces_b107 σ x1 x2 x3 x4 x5 x6 x8 x10 x11 s0 k75 = some o) : Xs C (wW g) Q σ 107 [(0, .ref (gA g 65)), (1, .int x1), (2, .int x2), (3, .int x3), (4, .int x4), (5, .int x5), (6, .int x6), (8, .int x8), (10, .int x10), (11, .int x11)] [.int s0] := by
  unfold m_L_enforces_b107 at hf
  refine x_istore (lv' := [(12, .int s0), (0, .ref (gA g 65)), (1, .int x1), (2, .int x2), (3, .int x3), (4, .int x4), (5, .int x5), (6, .int x6), (8, .int x8), (10, .int x10), (11, .int x11)]) h dL_enforces_107 hL (by decide) rfl (q := 109) rfl ?_
  refine x_iload h dL_enforces_109 0 rfl (q := 111) rfl ?_
  refine x_iload h dL_enforces_111 8 rfl (q := 113) rfl ?_
  refine x_iload h dL_enforces_113 9 rfl (q := 115) rfl ?_
  refine x_ishr h dL_enforces_115 (q := 116) rfl ?_
  refine x_iconst (v := 1) h dL_enforces_116 (by decide) (q := 117) rfl ?_
  refine x_iand h dL_enforces_117 (q := 118) rfl ?_
  refine x_iconst (v := 1) h dL_enforces_118 (by decide) (q := 119) rfl ?_
  refine x_icmp_ne (tgt := 126) h dL_enforces_119 (by decide) (q := 122) rfl hf (fun hc1 hf2 => ?_) (fun hc1 hf2 => ?_)
  · skip
    refine x_iconst (v := 0) h dL_enforces_126 (by decide) (q := 127) rfl ?_
    refine x_sub (lv' := [(0, .ref (gA g 65)), (1, .int x1), (2, .int x2), (3, .int x3), (4, .int x4), (5, .int x5), (6, .int x6), (8, .int x8), (10, .int x10), (11, .int x11), (12, .int s0)]) [1, 2, 3, 4, 5, 6, 7, 8, 9, 10, 0] rfl ?_
    exact w_L_enforces_b127 σ x1 x2 x3 x4 x5 x6 x8 x10 x11 s0 0 s0 o h hg hL hr k75 hk75 hf2
  · skip
    refine x_iconst (v := 1) h dL_enforces_122 (by decide) (q := 123) rfl ?_
    refine x_goto (q := 127) h dL_enforces_123 (by decide) ?_
    refine x_sub (lv' := [(0, .ref (gA g 65)), (1, .int x1), (2, .int x2), (3, .int x3), (4, .int x4), (5, .int x5), (6, .int x6), (8, .int x8), (10, .int x10), (11, .int x11), (12, .int s0)]) [1, 2, 3, 4, 5, 6, 7, 8, 9, 10, 0] rfl ?_
    exact w_L_enforces_b127 σ x1 x2 x3 x4 x5 x6 x8 x10 x11 s0 1 s0 o h hg hL hr k75 hk75 hf2
def m_L_enforces_b281 (σ : St) (x1 : Int32) (x2 : Int32) (x5 : Int32) (x6 : Int32) (x8 : Int32) (x10 : Int32) (k281 : Int32 → Option (Bool × St)) : Option (Bool × St) :=
  if ((x8 >>> (x10 &&& 31)) &&& 1) = 0 then (
    k281 (x10 + 1)
  ) else (
    (m_L_up x6 40).bind fun u3 =>
    (m_X9_play σ x1 x10 u3 x6).bind fun u5 =>
    if x2 = 2 then (
      if ((x8 >>> (u5 &&& 31)) &&& 1) = 1 then (
        some (true, σ)
      ) else (
        some (false, σ)
      )
    ) else (
      if u5 < 0 then (
        some (false, σ)
      ) else (
        if x5 ≤ u5 then (
          some (false, σ)
        ) else (
          some (true, σ)
        )
      )
    )
  )
set_option maxHeartbeats 4000000 in
set_option maxRecDepth 100000 in
theorem w_L_enforces_b281 {C : XC} {Q : State → Prop} {g : cG} (σ : St) (x1 : Int32) (x2 : Int32) (x5 : Int32) (x6 : Int32) (x8 : Int32) (x10 : Int32) (o : Bool × St) (h : XOk C cL_enforces RL tG rmL_enforces) (hg : XG C g) (hL : C.2.2.2.2.2.2.2.2.2.2.2.2.1 = 15) (hr : XEnd C (some .boolean) Q (XQ g (some (.int (bI o.1))) o.2) (cA g)) (k281 : Int32 → Option (Bool × St)) (hk281 : ∀ z : Int32, k281 z = some o → Xs C (wW g) Q σ 281 [(0, .ref (gA g 65)), (1, .int x1), (2, .int x2), (5, .int x5), (6, .int x6), (8, .int x8), (10, .int z)] []) (hf : m_L_enforces_b281 σ x1 x2 x5 x6 x8 x10 k281 = some o) : Xs C (wW g) Q σ 281 [(0, .ref (gA g 65)), (1, .int x1), (2, .int x2), (5, .int x5), (6, .int x6), (8, .int x8), (10, .int x10)] [] := by
  unfold m_L_enforces_b281 at hf
  refine x_iload h dL_enforces_281 5 rfl (q := 283) rfl ?_
  refine x_iload h dL_enforces_283 6 rfl (q := 285) rfl ?_
  refine x_ishr h dL_enforces_285 (q := 286) rfl ?_
  refine x_iconst (v := 1) h dL_enforces_286 (by decide) (q := 287) rfl ?_
  refine x_iand h dL_enforces_287 (q := 288) rfl ?_
  refine x_if_ne (tgt := 297) h dL_enforces_288 (by decide) (q := 291) rfl hf (fun hc1 hf2 => ?_) (fun hc1 hf2 => ?_)
  · skip
    refine x_aload_n h dL_enforces_297 rfl 0 rfl (q := 298) rfl ?_
    refine x_iload_n h dL_enforces_298 rfl 1 rfl (q := 299) rfl ?_
    refine x_iload h dL_enforces_299 6 rfl (q := 301) rfl ?_
    refine x_iload h dL_enforces_301 4 rfl (q := 303) rfl ?_
    refine x_bipush (v := 40) h dL_enforces_303 (by decide) (q := 305) rfl ?_
    obtain ⟨u3, hu3, hf4⟩ := bnd_inv hf2
    refine x_callPi (As := [.int x6, .int 40]) (rest := [.int x10, .int x1, .ref (gA g 65)]) h (c_L_up C.2.1 x6 40 _ hu3) ml_L_75 biL_up rfl rfl hdL_up ⟨Nat.le_of_ble_eq_true rfl, Nat.le_of_ble_eq_true rfl⟩ rfl rfl (Nat.le_of_ble_eq_true rfl) dL_enforces_305 ?_
    refine x_iload h dL_enforces_308 4 rfl (q := 310) rfl ?_
    obtain ⟨u5, hu5, hf6⟩ := bnd_inv hf4
    refine x_callVi (As := [.int x1, .int x10, .int u3, .int x6]) (rest := []) h hg (c_X9_play C.2.1 hg.2.1 σ x1 x10 u3 x6 _ hu5) ml_L_111 biX9_play rfl rfl hdX9_play ⟨Nat.le_of_ble_eq_true rfl, Nat.le_of_ble_eq_true rfl⟩ (by decide) (cE_65 g _) rfl rfl rfl (Nat.le_of_ble_eq_true rfl) dL_enforces_310 ?_
    refine x_istore (lv' := [(11, .int u5), (0, .ref (gA g 65)), (1, .int x1), (2, .int x2), (5, .int x5), (6, .int x6), (8, .int x8), (10, .int x10)]) h dL_enforces_313 hL (by decide) rfl (q := 315) rfl ?_
    refine x_iload_n h dL_enforces_315 rfl 3 rfl (q := 316) rfl ?_
    refine x_iconst (v := 2) h dL_enforces_316 (by decide) (q := 317) rfl ?_
    refine x_icmp_ne (tgt := 339) h dL_enforces_317 (by decide) (q := 320) rfl hf6 (fun hc7 hf8 => ?_) (fun hc7 hf8 => ?_)
    · skip
      refine x_iload h dL_enforces_339 0 rfl (q := 341) rfl ?_
      refine x_if_lt (tgt := 355) h dL_enforces_341 (by decide) (q := 344) rfl hf8 (fun hc9 hf10 => ?_) (fun hc9 hf10 => ?_)
      · skip
        refine x_iconst (v := 0) h dL_enforces_355 (by decide) (q := 356) rfl ?_
        have hz := Option.some.inj hf10
        subst hz
        exact x_zret (b := false) h hg hr dL_enforces_356
      · skip
        refine x_iload h dL_enforces_344 0 rfl (q := 346) rfl ?_
        refine x_iload h dL_enforces_346 4 rfl (q := 348) rfl ?_
        refine x_icmp_ge (tgt := 355) h dL_enforces_348 (by decide) (q := 351) rfl hf10 (fun hc11 hf12 => ?_) (fun hc11 hf12 => ?_)
        · skip
          refine x_iconst (v := 0) h dL_enforces_355 (by decide) (q := 356) rfl ?_
          have hz := Option.some.inj hf12
          subst hz
          exact x_zret (b := false) h hg hr dL_enforces_356
        · skip
          refine x_iconst (v := 1) h dL_enforces_351 (by decide) (q := 352) rfl ?_
          refine x_goto (q := 356) h dL_enforces_352 (by decide) ?_
          have hz := Option.some.inj hf12
          subst hz
          exact x_zret (b := true) h hg hr dL_enforces_356
    · skip
      refine x_iload h dL_enforces_320 6 rfl (q := 322) rfl ?_
      refine x_iload h dL_enforces_322 0 rfl (q := 324) rfl ?_
      refine x_ishr h dL_enforces_324 (q := 325) rfl ?_
      refine x_iconst (v := 1) h dL_enforces_325 (by decide) (q := 326) rfl ?_
      refine x_iand h dL_enforces_326 (q := 327) rfl ?_
      refine x_iconst (v := 1) h dL_enforces_327 (by decide) (q := 328) rfl ?_
      refine x_icmp_ne (tgt := 335) h dL_enforces_328 (by decide) (q := 331) rfl hf8 (fun hc13 hf14 => ?_) (fun hc13 hf14 => ?_)
      · skip
        refine x_iconst (v := 0) h dL_enforces_335 (by decide) (q := 336) rfl ?_
        refine x_goto (q := 356) h dL_enforces_336 (by decide) ?_
        have hz := Option.some.inj hf14
        subst hz
        exact x_zret (b := false) h hg hr dL_enforces_356
      · skip
        refine x_iconst (v := 1) h dL_enforces_331 (by decide) (q := 332) rfl ?_
        refine x_goto (q := 356) h dL_enforces_332 (by decide) ?_
        have hz := Option.some.inj hf14
        subst hz
        exact x_zret (b := true) h hg hr dL_enforces_356
  · skip
    refine x_iinc (v := (x10 + 1)) (lv' := [(10, .int (x10 + 1)), (0, .ref (gA g 65)), (1, .int x1), (2, .int x2), (5, .int x5), (6, .int x6), (8, .int x8)]) (j := 6) h dL_enforces_291 rfl rfl hL (by decide) rfl (q := 294) rfl ?_
    refine x_goto (q := 281) h dL_enforces_294 (by decide) ?_
    refine x_sub (lv' := [(0, .ref (gA g 65)), (1, .int x1), (2, .int x2), (5, .int x5), (6, .int x6), (8, .int x8), (10, .int (x10 + 1))]) [1, 2, 3, 4, 5, 6, 0] rfl ?_
    exact hk281 (x10 + 1) hf2
set_option maxHeartbeats 4000000 in
set_option maxRecDepth 100000 in
theorem w_L_enforces_l281 {C : XC} {Q : State → Prop} {g : cG} (σ : St) (x1 : Int32) (x2 : Int32) (x5 : Int32) (x6 : Int32) (x8 : Int32) (o : Bool × St) (h : XOk C cL_enforces RL tG rmL_enforces) (hg : XG C g) (hL : C.2.2.2.2.2.2.2.2.2.2.2.2.1 = 15) (hr : XEnd C (some .boolean) Q (XQ g (some (.int (bI o.1))) o.2) (cA g)) : ∀ (n : Nat) (z : Int32), loopF (fun k z => m_L_enforces_b281 σ x1 x2 x5 x6 x8 z k) n z = some o → Xs C (wW g) Q σ 281 [(0, .ref (gA g 65)), (1, .int x1), (2, .int x2), (5, .int x5), (6, .int x6), (8, .int x8), (10, .int z)] [] := by
  intro n z hf
  refine loopF_ind (S := Int32) (O := Bool × St) (step := (fun k z => m_L_enforces_b281 σ x1 x2 x5 x6 x8 z k)) (o := o) (P := fun z => Xs C (wW g) Q σ 281 [(0, .ref (gA g 65)), (1, .int x1), (2, .int x2), (5, .int x5), (6, .int x6), (8, .int x8), (10, .int z)] []) ?_ n z hf
  intro k hk z hf
  exact w_L_enforces_b281 σ x1 x2 x5 x6 x8 z o h hg hL hr k hk hf
def m_L_enforces_b75 (σ : St) (x1 : Int32) (x2 : Int32) (x3 : Int32) (x4 : Int32) (x5 : Int32) (x6 : Int32) (x8 : Int32) (x10 : Int32) (k75 : (St × Int32) → Option (Bool × St)) : Option (Bool × St) :=
  if x5 ≤ x10 then (
    if x8 = 0 then (
      some (true, σ)
    ) else (
      if x2 = 1 then (
        loopF (fun k z => m_L_enforces_b281 σ x1 x2 x5 x6 x8 z k) cFu 0
      ) else (
        if x2 = 2 then (
          loopF (fun k z => m_L_enforces_b281 σ x1 x2 x5 x6 x8 z k) cFu 0
        ) else (
          some (true, σ)
        )
      )
    )
  ) else (
    (m_X9_rank σ x1 x10).bind fun u9 =>
    (m_X9_holds u9.2 x1 x10).bind fun u11 =>
    if u11.1 = 1 then (
      m_L_enforces_b107 u11.2 x1 x2 x3 x4 x5 x6 x8 x10 u9.1 1 k75
    ) else (
      m_L_enforces_b107 u11.2 x1 x2 x3 x4 x5 x6 x8 x10 u9.1 0 k75
    )
  )
set_option maxHeartbeats 4000000 in
set_option maxRecDepth 100000 in
theorem w_L_enforces_b75 {C : XC} {Q : State → Prop} {g : cG} (σ : St) (x1 : Int32) (x2 : Int32) (x3 : Int32) (x4 : Int32) (x5 : Int32) (x6 : Int32) (x8 : Int32) (x10 : Int32) (o : Bool × St) (h : XOk C cL_enforces RL tG rmL_enforces) (hg : XG C g) (hL : C.2.2.2.2.2.2.2.2.2.2.2.2.1 = 15) (hr : XEnd C (some .boolean) Q (XQ g (some (.int (bI o.1))) o.2) (cA g)) (k75 : (St × Int32) → Option (Bool × St)) (hk75 : ∀ z : St × Int32, k75 z = some o → Xs C (wW g) Q z.1 75 [(0, .ref (gA g 65)), (1, .int x1), (2, .int x2), (3, .int x3), (4, .int x4), (5, .int x5), (6, .int x6), (8, .int x8), (10, .int z.2)] []) (hf : m_L_enforces_b75 σ x1 x2 x3 x4 x5 x6 x8 x10 k75 = some o) : Xs C (wW g) Q σ 75 [(0, .ref (gA g 65)), (1, .int x1), (2, .int x2), (3, .int x3), (4, .int x4), (5, .int x5), (6, .int x6), (8, .int x8), (10, .int x10)] [] := by
  unfold m_L_enforces_b75 at hf
  refine x_iload h dL_enforces_75 8 rfl (q := 77) rfl ?_
  refine x_iload h dL_enforces_77 5 rfl (q := 79) rfl ?_
  refine x_icmp_ge (tgt := 263) h dL_enforces_79 (by decide) (q := 82) rfl hf (fun hc1 hf2 => ?_) (fun hc1 hf2 => ?_)
  · skip
    refine x_iload h dL_enforces_263 7 rfl (q := 265) rfl ?_
    refine x_if_eq (tgt := 357) h dL_enforces_265 (by decide) (q := 268) rfl hf2 (fun hc3 hf4 => ?_) (fun hc3 hf4 => ?_)
    · skip
      refine x_iconst (v := 1) h dL_enforces_357 (by decide) (q := 358) rfl ?_
      have hz := Option.some.inj hf4
      subst hz
      exact x_zret (b := true) h hg hr dL_enforces_358
    · skip
      refine x_iload_n h dL_enforces_268 rfl 2 rfl (q := 269) rfl ?_
      refine x_iconst (v := 1) h dL_enforces_269 (by decide) (q := 270) rfl ?_
      refine x_icmp_eq (tgt := 278) h dL_enforces_270 (by decide) (q := 273) rfl hf4 (fun hc5 hf6 => ?_) (fun hc5 hf6 => ?_)
      · skip
        refine x_iconst (v := 0) h dL_enforces_278 (by decide) (q := 279) rfl ?_
        refine x_istore (lv' := [(10, .int 0), (0, .ref (gA g 65)), (1, .int x1), (2, .int x2), (3, .int x3), (4, .int x4), (5, .int x5), (6, .int x6), (8, .int x8)]) h dL_enforces_279 hL (by decide) rfl (q := 281) rfl ?_
        refine x_sub (lv' := [(0, .ref (gA g 65)), (1, .int x1), (2, .int x2), (5, .int x5), (6, .int x6), (8, .int x8), (10, .int 0)]) [1, 2, 3, 6, 7, 8, 0] rfl ?_
        exact w_L_enforces_l281 σ x1 x2 x5 x6 x8 o h hg hL hr  cFu 0 hf6
      · skip
        refine x_iload_n h dL_enforces_273 rfl 2 rfl (q := 274) rfl ?_
        refine x_iconst (v := 2) h dL_enforces_274 (by decide) (q := 275) rfl ?_
        refine x_icmp_ne (tgt := 357) h dL_enforces_275 (by decide) (q := 278) rfl hf6 (fun hc7 hf8 => ?_) (fun hc7 hf8 => ?_)
        · skip
          refine x_iconst (v := 1) h dL_enforces_357 (by decide) (q := 358) rfl ?_
          have hz := Option.some.inj hf8
          subst hz
          exact x_zret (b := true) h hg hr dL_enforces_358
        · skip
          refine x_iconst (v := 0) h dL_enforces_278 (by decide) (q := 279) rfl ?_
          refine x_istore (lv' := [(10, .int 0), (0, .ref (gA g 65)), (1, .int x1), (2, .int x2), (3, .int x3), (4, .int x4), (5, .int x5), (6, .int x6), (8, .int x8)]) h dL_enforces_279 hL (by decide) rfl (q := 281) rfl ?_
          refine x_sub (lv' := [(0, .ref (gA g 65)), (1, .int x1), (2, .int x2), (5, .int x5), (6, .int x6), (8, .int x8), (10, .int 0)]) [1, 2, 3, 6, 7, 8, 0] rfl ?_
          exact w_L_enforces_l281 σ x1 x2 x5 x6 x8 o h hg hL hr  cFu 0 hf8
  · skip
    refine x_aload_n h dL_enforces_82 rfl 0 rfl (q := 83) rfl ?_
    refine x_iload_n h dL_enforces_83 rfl 1 rfl (q := 84) rfl ?_
    refine x_iload h dL_enforces_84 8 rfl (q := 86) rfl ?_
    obtain ⟨u9, hu9, hf10⟩ := bnd_inv hf2
    refine x_callVi (As := [.int x1, .int x10]) (rest := []) h hg (c_X9_rank C.2.1 hg.2.1 σ x1 x10 _ hu9) ml_L_99 biX9_rank rfl rfl hdX9_rank ⟨Nat.le_of_ble_eq_true rfl, Nat.le_of_ble_eq_true rfl⟩ (by decide) (cE_65 g _) rfl rfl rfl (Nat.le_of_ble_eq_true rfl) dL_enforces_86 ?_
    refine x_istore (lv' := [(11, .int u9.1), (0, .ref (gA g 65)), (1, .int x1), (2, .int x2), (3, .int x3), (4, .int x4), (5, .int x5), (6, .int x6), (8, .int x8), (10, .int x10)]) h dL_enforces_89 hL (by decide) rfl (q := 91) rfl ?_
    refine x_aload_n h dL_enforces_91 rfl 1 rfl (q := 92) rfl ?_
    refine x_iload_n h dL_enforces_92 rfl 2 rfl (q := 93) rfl ?_
    refine x_iload h dL_enforces_93 9 rfl (q := 95) rfl ?_
    obtain ⟨u11, hu11, hf12⟩ := bnd_inv hf10
    refine x_callVi (As := [.int x1, .int x10]) (rest := []) h hg (c_X9_holds C.2.1 hg.2.1 u9.2 x1 x10 _ hu11) ml_L_53 biX9_holds rfl rfl hdX9_holds ⟨Nat.le_of_ble_eq_true rfl, Nat.le_of_ble_eq_true rfl⟩ (by decide) (cE_65 g _) rfl rfl rfl (Nat.le_of_ble_eq_true rfl) dL_enforces_95 ?_
    refine x_iconst (v := 1) h dL_enforces_98 (by decide) (q := 99) rfl ?_
    refine x_icmp_ne (tgt := 106) h dL_enforces_99 (by decide) (q := 102) rfl hf12 (fun hc13 hf14 => ?_) (fun hc13 hf14 => ?_)
    · skip
      refine x_iconst (v := 0) h dL_enforces_106 (by decide) (q := 107) rfl ?_
      refine x_sub (lv' := [(0, .ref (gA g 65)), (1, .int x1), (2, .int x2), (3, .int x3), (4, .int x4), (5, .int x5), (6, .int x6), (8, .int x8), (10, .int x10), (11, .int u9.1)]) [1, 2, 3, 4, 5, 6, 7, 8, 9, 0] rfl ?_
      exact w_L_enforces_b107 u11.2 x1 x2 x3 x4 x5 x6 x8 x10 u9.1 0 o h hg hL hr k75 hk75 hf14
    · skip
      refine x_iconst (v := 1) h dL_enforces_102 (by decide) (q := 103) rfl ?_
      refine x_goto (q := 107) h dL_enforces_103 (by decide) ?_
      refine x_sub (lv' := [(0, .ref (gA g 65)), (1, .int x1), (2, .int x2), (3, .int x3), (4, .int x4), (5, .int x5), (6, .int x6), (8, .int x8), (10, .int x10), (11, .int u9.1)]) [1, 2, 3, 4, 5, 6, 7, 8, 9, 0] rfl ?_
      exact w_L_enforces_b107 u11.2 x1 x2 x3 x4 x5 x6 x8 x10 u9.1 1 o h hg hL hr k75 hk75 hf14
set_option maxHeartbeats 4000000 in
set_option maxRecDepth 100000 in
theorem w_L_enforces_l75 {C : XC} {Q : State → Prop} {g : cG} (x1 : Int32) (x2 : Int32) (x3 : Int32) (x4 : Int32) (x5 : Int32) (x6 : Int32) (x8 : Int32) (o : Bool × St) (h : XOk C cL_enforces RL tG rmL_enforces) (hg : XG C g) (hL : C.2.2.2.2.2.2.2.2.2.2.2.2.1 = 15) (hr : XEnd C (some .boolean) Q (XQ g (some (.int (bI o.1))) o.2) (cA g)) : ∀ (n : Nat) (z : St × Int32), loopF (fun k z => m_L_enforces_b75 z.1 x1 x2 x3 x4 x5 x6 x8 z.2 k) n z = some o → Xs C (wW g) Q z.1 75 [(0, .ref (gA g 65)), (1, .int x1), (2, .int x2), (3, .int x3), (4, .int x4), (5, .int x5), (6, .int x6), (8, .int x8), (10, .int z.2)] [] := by
  intro n z hf
  refine loopF_ind (S := St × Int32) (O := Bool × St) (step := (fun k z => m_L_enforces_b75 z.1 x1 x2 x3 x4 x5 x6 x8 z.2 k)) (o := o) (P := fun z => Xs C (wW g) Q z.1 75 [(0, .ref (gA g 65)), (1, .int x1), (2, .int x2), (3, .int x3), (4, .int x4), (5, .int x5), (6, .int x6), (8, .int x8), (10, .int z.2)] []) ?_ n z hf
  intro k hk z hf
  exact w_L_enforces_b75 z.1 x1 x2 x3 x4 x5 x6 x8 z.2 o h hg hL hr k hk hf
def m_L_enforces_b30 (σ : St) (x1 : Int32) (x2 : Int32) (x3 : Int32) (x4 : Int32) (x5 : Int32) (x6 : Int32) (x8 : Int32) (s0 : Int32) (s1 : Int32) : Option (Bool × St) :=
  if s1 = s0 then (
    (m_X9_enforced σ x1).bind fun u3 =>
    if (u3.1 &&& (x8 ^^^ (-1))) = 0 then (
      (m_X9_adopt u3.2 x1).bind fun u7 =>
      if u7.1 < 0 then (
        some (false, u7.2)
      ) else (
        (m_X9_enforced u7.2 x1).bind fun u11 =>
        if u11.1 = x8 then (
          loopF (fun k z => m_L_enforces_b75 z.1 x1 x2 x3 x4 x5 x6 x8 z.2 k) cFu (u11.2, 0)
        ) else (
          some (false, u11.2)
        )
      )
    ) else (
      some (false, u3.2)
    )
  ) else (
    some (false, σ)
  )
set_option maxHeartbeats 4000000 in
set_option maxRecDepth 100000 in
theorem w_L_enforces_b30 {C : XC} {Q : State → Prop} {g : cG} (σ : St) (x1 : Int32) (x2 : Int32) (x3 : Int32) (x4 : Int32) (x5 : Int32) (x6 : Int32) (x8 : Int32) (s0 : Int32) (s1 : Int32) (o : Bool × St) (h : XOk C cL_enforces RL tG rmL_enforces) (hg : XG C g) (hL : C.2.2.2.2.2.2.2.2.2.2.2.2.1 = 15) (hr : XEnd C (some .boolean) Q (XQ g (some (.int (bI o.1))) o.2) (cA g)) (hf : m_L_enforces_b30 σ x1 x2 x3 x4 x5 x6 x8 s0 s1  = some o) : Xs C (wW g) Q σ 30 [(0, .ref (gA g 65)), (1, .int x1), (2, .int x2), (3, .int x3), (4, .int x4), (5, .int x5), (6, .int x6), (8, .int x8)] [.int s0, .int s1] := by
  unfold m_L_enforces_b30 at hf
  refine x_icmp_ne (tgt := 46) h dL_enforces_30 (by decide) (q := 33) rfl hf (fun hc1 hf2 => ?_) (fun hc1 hf2 => ?_)
  · skip
    refine x_iconst (v := 0) h dL_enforces_46 (by decide) (q := 47) rfl ?_
    have hz := Option.some.inj hf2
    subst hz
    exact x_zret (b := false) h hg hr dL_enforces_47
  · skip
    refine x_aload_n h dL_enforces_33 rfl 0 rfl (q := 34) rfl ?_
    refine x_iload_n h dL_enforces_34 rfl 1 rfl (q := 35) rfl ?_
    obtain ⟨u3, hu3, hf4⟩ := bnd_inv hf2
    refine x_callVi (As := [.int x1]) (rest := []) h hg (c_X9_enforced C.2.1 hg.2.1 σ x1 _ hu3) ml_L_93 biX9_enforced rfl rfl hdX9_enforced ⟨Nat.le_of_ble_eq_true rfl, Nat.le_of_ble_eq_true rfl⟩ (by decide) (cE_65 g _) rfl rfl rfl (Nat.le_of_ble_eq_true rfl) dL_enforces_35 ?_
    refine x_iload h dL_enforces_38 7 rfl (q := 40) rfl ?_
    refine x_iconst (v := (-1)) h dL_enforces_40 (by decide) (q := 41) rfl ?_
    refine x_ixor h dL_enforces_41 (q := 42) rfl ?_
    refine x_iand h dL_enforces_42 (q := 43) rfl ?_
    refine x_if_eq (tgt := 48) h dL_enforces_43 (by decide) (q := 46) rfl hf4 (fun hc5 hf6 => ?_) (fun hc5 hf6 => ?_)
    · skip
      refine x_aload_n h dL_enforces_48 rfl 0 rfl (q := 49) rfl ?_
      refine x_iload_n h dL_enforces_49 rfl 1 rfl (q := 50) rfl ?_
      obtain ⟨u7, hu7, hf8⟩ := bnd_inv hf6
      refine x_callVi (As := [.int x1]) (rest := []) h hg (c_X9_adopt C.2.1 hg.2.1 u3.2 x1 _ hu7) ml_L_96 biX9_adopt rfl rfl hdX9_adopt ⟨Nat.le_of_ble_eq_true rfl, Nat.le_of_ble_eq_true rfl⟩ (by decide) (cE_65 g _) rfl rfl rfl (Nat.le_of_ble_eq_true rfl) dL_enforces_50 ?_
      refine x_istore (lv' := [(9, .int u7.1), (0, .ref (gA g 65)), (1, .int x1), (2, .int x2), (3, .int x3), (4, .int x4), (5, .int x5), (6, .int x6), (8, .int x8)]) h dL_enforces_53 hL (by decide) rfl (q := 55) rfl ?_
      refine x_iload h dL_enforces_55 0 rfl (q := 57) rfl ?_
      refine x_if_lt (tgt := 70) h dL_enforces_57 (by decide) (q := 60) rfl hf8 (fun hc9 hf10 => ?_) (fun hc9 hf10 => ?_)
      · skip
        refine x_iconst (v := 0) h dL_enforces_70 (by decide) (q := 71) rfl ?_
        have hz := Option.some.inj hf10
        subst hz
        exact x_zret (b := false) h hg hr dL_enforces_71
      · skip
        refine x_aload_n h dL_enforces_60 rfl 1 rfl (q := 61) rfl ?_
        refine x_iload_n h dL_enforces_61 rfl 2 rfl (q := 62) rfl ?_
        obtain ⟨u11, hu11, hf12⟩ := bnd_inv hf10
        refine x_callVi (As := [.int x1]) (rest := []) h hg (c_X9_enforced C.2.1 hg.2.1 u7.2 x1 _ hu11) ml_L_93 biX9_enforced rfl rfl hdX9_enforced ⟨Nat.le_of_ble_eq_true rfl, Nat.le_of_ble_eq_true rfl⟩ (by decide) (cE_65 g _) rfl rfl rfl (Nat.le_of_ble_eq_true rfl) dL_enforces_62 ?_
        refine x_iload h dL_enforces_65 8 rfl (q := 67) rfl ?_
        refine x_icmp_eq (tgt := 72) h dL_enforces_67 (by decide) (q := 70) rfl hf12 (fun hc13 hf14 => ?_) (fun hc13 hf14 => ?_)
        · skip
          refine x_iconst (v := 0) h dL_enforces_72 (by decide) (q := 73) rfl ?_
          refine x_istore (lv' := [(10, .int 0), (9, .int u7.1), (0, .ref (gA g 65)), (1, .int x1), (2, .int x2), (3, .int x3), (4, .int x4), (5, .int x5), (6, .int x6), (8, .int x8)]) h dL_enforces_73 hL (by decide) rfl (q := 75) rfl ?_
          refine x_sub (lv' := [(0, .ref (gA g 65)), (1, .int x1), (2, .int x2), (3, .int x3), (4, .int x4), (5, .int x5), (6, .int x6), (8, .int x8), (10, .int 0)]) [2, 3, 4, 5, 6, 7, 8, 9, 0] rfl ?_
          exact w_L_enforces_l75 x1 x2 x3 x4 x5 x6 x8 o h hg hL hr  cFu (u11.2, 0) hf14
        · skip
          refine x_iconst (v := 0) h dL_enforces_70 (by decide) (q := 71) rfl ?_
          have hz := Option.some.inj hf14
          subst hz
          exact x_zret (b := false) h hg hr dL_enforces_71
    · skip
      refine x_iconst (v := 0) h dL_enforces_46 (by decide) (q := 47) rfl ?_
      have hz := Option.some.inj hf6
      subst hz
      exact x_zret (b := false) h hg hr dL_enforces_47
def m_L_enforces (σ : St) (x1 : Int32) (x2 : Int32) (x3 : Int32) (x4 : Int32) (x5 : Int32) (x6 : Int32) : Option (Bool × St) :=
  (m_X9_parts σ x1).bind fun u1 =>
  (m_X9_where σ x1 (u1 - 1)).bind fun u3 =>
  if x2 = 3 then (
    m_L_enforces_b30 u3.2 x1 x2 x3 x4 x5 x6 u3.1 2 (u1 - 1)
  ) else (
    m_L_enforces_b30 u3.2 x1 x2 x3 x4 x5 x6 u3.1 1 (u1 - 1)
  )
set_option maxHeartbeats 4000000 in
set_option maxRecDepth 100000 in
theorem w_L_enforces {C : XC} {Q : State → Prop} {g : cG} (σ : St) (x1 : Int32) (x2 : Int32) (x3 : Int32) (x4 : Int32) (x5 : Int32) (x6 : Int32) (o : Bool × St) (h : XOk C cL_enforces RL tG rmL_enforces) (hg : XG C g) (hL : C.2.2.2.2.2.2.2.2.2.2.2.2.1 = 15) (hr : XEnd C (some .boolean) Q (XQ g (some (.int (bI o.1))) o.2) (cA g)) (hf : m_L_enforces σ x1 x2 x3 x4 x5 x6 = some o) : Xs C (wW g) Q σ 0 [(0, .ref (gA g 65)), (1, .int x1), (2, .int x2), (3, .int x3), (4, .int x4), (5, .int x5), (6, .int x6)] [] := by
  unfold m_L_enforces at hf
  refine x_aload_n h dL_enforces_0 rfl 0 rfl (q := 1) rfl ?_
  refine x_iload_n h dL_enforces_1 rfl 1 rfl (q := 2) rfl ?_
  obtain ⟨u1, hu1, hf2⟩ := bnd_inv hf
  refine x_callVi (As := [.int x1]) (rest := []) h hg (c_X9_parts C.2.1 hg.2.1 σ x1 _ hu1) ml_L_90 biX9_parts rfl rfl hdX9_parts ⟨Nat.le_of_ble_eq_true rfl, Nat.le_of_ble_eq_true rfl⟩ (by decide) (cE_65 g _) rfl rfl rfl (Nat.le_of_ble_eq_true rfl) dL_enforces_2 ?_
  refine x_iconst (v := 1) h dL_enforces_5 (by decide) (q := 6) rfl ?_
  refine x_isub h dL_enforces_6 (q := 7) rfl ?_
  refine x_istore (lv' := [(7, .int (u1 - 1)), (0, .ref (gA g 65)), (1, .int x1), (2, .int x2), (3, .int x3), (4, .int x4), (5, .int x5), (6, .int x6)]) h dL_enforces_7 hL (by decide) rfl (q := 9) rfl ?_
  refine x_aload_n h dL_enforces_9 rfl 1 rfl (q := 10) rfl ?_
  refine x_iload_n h dL_enforces_10 rfl 2 rfl (q := 11) rfl ?_
  refine x_iload h dL_enforces_11 0 rfl (q := 13) rfl ?_
  obtain ⟨u3, hu3, hf4⟩ := bnd_inv hf2
  refine x_callVi (As := [.int x1, .int (u1 - 1)]) (rest := []) h hg (c_X9_where C.2.1 hg.2.1 σ x1 (u1 - 1) _ hu3) ml_L_50 biX9_where rfl rfl hdX9_where ⟨Nat.le_of_ble_eq_true rfl, Nat.le_of_ble_eq_true rfl⟩ (by decide) (cE_65 g _) rfl rfl rfl (Nat.le_of_ble_eq_true rfl) dL_enforces_13 ?_
  refine x_istore (lv' := [(8, .int u3.1), (7, .int (u1 - 1)), (0, .ref (gA g 65)), (1, .int x1), (2, .int x2), (3, .int x3), (4, .int x4), (5, .int x5), (6, .int x6)]) h dL_enforces_16 hL (by decide) rfl (q := 18) rfl ?_
  refine x_iload h dL_enforces_18 1 rfl (q := 20) rfl ?_
  refine x_iload_n h dL_enforces_20 rfl 4 rfl (q := 21) rfl ?_
  refine x_iconst (v := 3) h dL_enforces_21 (by decide) (q := 22) rfl ?_
  refine x_icmp_ne (tgt := 29) h dL_enforces_22 (by decide) (q := 25) rfl hf4 (fun hc5 hf6 => ?_) (fun hc5 hf6 => ?_)
  · skip
    refine x_iconst (v := 1) h dL_enforces_29 (by decide) (q := 30) rfl ?_
    refine x_sub (lv' := [(0, .ref (gA g 65)), (1, .int x1), (2, .int x2), (3, .int x3), (4, .int x4), (5, .int x5), (6, .int x6), (8, .int u3.1)]) [2, 3, 4, 5, 6, 7, 8, 0] rfl ?_
    exact w_L_enforces_b30 u3.2 x1 x2 x3 x4 x5 x6 u3.1 1 (u1 - 1) o h hg hL hr hf6
  · skip
    refine x_iconst (v := 2) h dL_enforces_25 (by decide) (q := 26) rfl ?_
    refine x_goto (q := 30) h dL_enforces_26 (by decide) ?_
    refine x_sub (lv' := [(0, .ref (gA g 65)), (1, .int x1), (2, .int x2), (3, .int x3), (4, .int x4), (5, .int x5), (6, .int x6), (8, .int u3.1)]) [2, 3, 4, 5, 6, 7, 8, 0] rfl ?_
    exact w_L_enforces_b30 u3.2 x1 x2 x3 x4 x5 x6 u3.1 2 (u1 - 1) o h hg hL hr hf6
theorem c_L_enforces (l : Launch) {g : cG} (hi : gInj g) (σ : St) (x1 : Int32) (x2 : Int32) (x3 : Int32) (x4 : Int32) (x5 : Int32) (x6 : Int32) (o : Bool × St) (hf : m_L_enforces σ x1 x2 x3 x4 x5 x6 = some o) : Met l yL_enforces (wT yL_enforces cL_enforces 15 (some .boolean)) rmL_enforces (va_Pc [.ref (gA g 65), .int x1, .int x2, .int x3, .int x4, .int x5, .int x6] (XPre g σ)) (XQ g (some (.int (bI o.1))) o.2) 0 0 (cA g) :=
  X_met RL hi plL rfl (Nat.le_of_ble_eq_true rfl) rfl (fun _ _ _ h hg hL hr => w_L_enforces σ x1 x2 x3 x4 x5 x6 o h hg hL hr hf)
abbrev rmL_undoes : Room := { frames := 6, cells := 0, slots := 0, locals := 135 }
theorem hdL_undoes : yL_undoes.cls ≠ "java/lang/invoke/MethodHandle" ∧ yL_undoes.cls ≠ "java/lang/invoke/VarHandle" ∧ (parseMethodDescriptor yL_undoes.desc).map (fun d => d.parameters.length) = some 4 := by decide +kernel
def m_L_undoes_b83 (σ : St) (y4 : Int64) (x8 : Int32) (k83 : (St × Int32) → Option (Bool × St)) : Option (Bool × St) :=
  if 4 ≤ x8 then (
    (m_X9_fingerprint σ).bind fun u3 =>
    if (lg_cmp u3 y4) = 0 then (
      (m_X9_undo σ).bind fun u7 =>
      if u7.1 = (-9) then (
        some (true, u7.2)
      ) else (
        some (false, u7.2)
      )
    ) else (
      some (false, σ)
    )
  ) else (
    (m_X9_undo σ).bind fun u11 =>
    if 0 ≤ u11.1 then (
      k83 (u11.2, (x8 + 1))
    ) else (
      some (false, u11.2)
    )
  )
set_option maxHeartbeats 4000000 in
set_option maxRecDepth 100000 in
theorem w_L_undoes_b83 {C : XC} {Q : State → Prop} {g : cG} (σ : St) (y4 : Int64) (x8 : Int32) (o : Bool × St) (h : XOk C cL_undoes RL tG rmL_undoes) (hg : XG C g) (hL : C.2.2.2.2.2.2.2.2.2.2.2.2.1 = 9) (hr : XEnd C (some .boolean) Q (XQ g (some (.int (bI o.1))) o.2) (cA g)) (k83 : (St × Int32) → Option (Bool × St)) (hk83 : ∀ z : St × Int32, k83 z = some o → Xs C (wW g) Q z.1 83 [(0, .ref (gA g 65)), (4, .long y4), (8, .int z.2)] []) (hf : m_L_undoes_b83 σ y4 x8 k83 = some o) : Xs C (wW g) Q σ 83 [(0, .ref (gA g 65)), (4, .long y4), (8, .int x8)] [] := by
  unfold m_L_undoes_b83 at hf
  refine x_iload h dL_undoes_83 2 rfl (q := 85) rfl ?_
  refine x_iconst (v := 4) h dL_undoes_85 (by decide) (q := 86) rfl ?_
  refine x_icmp_ge (tgt := 104) h dL_undoes_86 (by decide) (q := 89) rfl hf (fun hc1 hf2 => ?_) (fun hc1 hf2 => ?_)
  · skip
    refine x_aload_n h dL_undoes_104 rfl 0 rfl (q := 105) rfl ?_
    obtain ⟨u3, hu3, hf4⟩ := bnd_inv hf2
    refine x_callVl (As := []) (rest := []) h hg (c_X9_fingerprint C.2.1 hg.2.1 σ _ hu3) ml_L_9 biX9_fingerprint rfl rfl hdX9_fingerprint ⟨Nat.le_of_ble_eq_true rfl, Nat.le_of_ble_eq_true rfl⟩ (by decide) (cE_65 g _) rfl rfl rfl (Nat.le_of_ble_eq_true rfl) dL_undoes_105 ?_
    refine x_lload h dL_undoes_108 1 rfl (q := 110) rfl ?_
    refine x_lcmp h dL_undoes_110 (q := 111) rfl ?_
    refine x_if_ne (tgt := 127) h dL_undoes_111 (by decide) (q := 114) rfl hf4 (fun hc5 hf6 => ?_) (fun hc5 hf6 => ?_)
    · skip
      refine x_iconst (v := 0) h dL_undoes_127 (by decide) (q := 128) rfl ?_
      have hz := Option.some.inj hf6
      subst hz
      exact x_zret (b := false) h hg hr dL_undoes_128
    · skip
      refine x_aload_n h dL_undoes_114 rfl 0 rfl (q := 115) rfl ?_
      obtain ⟨u7, hu7, hf8⟩ := bnd_inv hf6
      refine x_callVi (As := []) (rest := []) h hg (c_X9_undo C.2.1 hg.2.1 σ _ hu7) ml_L_114 biX9_undo rfl rfl hdX9_undo ⟨Nat.le_of_ble_eq_true rfl, Nat.le_of_ble_eq_true rfl⟩ (by decide) (cE_65 g _) rfl rfl rfl (Nat.le_of_ble_eq_true rfl) dL_undoes_115 ?_
      refine x_bipush (v := (-9)) h dL_undoes_118 (by decide) (q := 120) rfl ?_
      refine x_icmp_ne (tgt := 127) h dL_undoes_120 (by decide) (q := 123) rfl hf8 (fun hc9 hf10 => ?_) (fun hc9 hf10 => ?_)
      · skip
        refine x_iconst (v := 0) h dL_undoes_127 (by decide) (q := 128) rfl ?_
        have hz := Option.some.inj hf10
        subst hz
        exact x_zret (b := false) h hg hr dL_undoes_128
      · skip
        refine x_iconst (v := 1) h dL_undoes_123 (by decide) (q := 124) rfl ?_
        refine x_goto (q := 128) h dL_undoes_124 (by decide) ?_
        have hz := Option.some.inj hf10
        subst hz
        exact x_zret (b := true) h hg hr dL_undoes_128
  · skip
    refine x_aload_n h dL_undoes_89 rfl 0 rfl (q := 90) rfl ?_
    obtain ⟨u11, hu11, hf12⟩ := bnd_inv hf2
    refine x_callVi (As := []) (rest := []) h hg (c_X9_undo C.2.1 hg.2.1 σ _ hu11) ml_L_114 biX9_undo rfl rfl hdX9_undo ⟨Nat.le_of_ble_eq_true rfl, Nat.le_of_ble_eq_true rfl⟩ (by decide) (cE_65 g _) rfl rfl rfl (Nat.le_of_ble_eq_true rfl) dL_undoes_90 ?_
    refine x_if_ge (tgt := 98) h dL_undoes_93 (by decide) (q := 96) rfl hf12 (fun hc13 hf14 => ?_) (fun hc13 hf14 => ?_)
    · skip
      refine x_iinc (v := (x8 + 1)) (lv' := [(8, .int (x8 + 1)), (0, .ref (gA g 65)), (4, .long y4)]) (j := 2) h dL_undoes_98 rfl rfl hL (by decide) rfl (q := 101) rfl ?_
      refine x_goto (q := 83) h dL_undoes_101 (by decide) ?_
      refine x_sub (lv' := [(0, .ref (gA g 65)), (4, .long y4), (8, .int (x8 + 1))]) [1, 2, 0] rfl ?_
      exact hk83 (u11.2, (x8 + 1)) hf14
    · skip
      refine x_iconst (v := 0) h dL_undoes_96 (by decide) (q := 97) rfl ?_
      have hz := Option.some.inj hf14
      subst hz
      exact x_zret (b := false) h hg hr dL_undoes_97
set_option maxHeartbeats 4000000 in
set_option maxRecDepth 100000 in
theorem w_L_undoes_l83 {C : XC} {Q : State → Prop} {g : cG} (y4 : Int64) (o : Bool × St) (h : XOk C cL_undoes RL tG rmL_undoes) (hg : XG C g) (hL : C.2.2.2.2.2.2.2.2.2.2.2.2.1 = 9) (hr : XEnd C (some .boolean) Q (XQ g (some (.int (bI o.1))) o.2) (cA g)) : ∀ (n : Nat) (z : St × Int32), loopF (fun k z => m_L_undoes_b83 z.1 y4 z.2 k) n z = some o → Xs C (wW g) Q z.1 83 [(0, .ref (gA g 65)), (4, .long y4), (8, .int z.2)] [] := by
  intro n z hf
  refine loopF_ind (S := St × Int32) (O := Bool × St) (step := (fun k z => m_L_undoes_b83 z.1 y4 z.2 k)) (o := o) (P := fun z => Xs C (wW g) Q z.1 83 [(0, .ref (gA g 65)), (4, .long y4), (8, .int z.2)] []) ?_ n z hf
  intro k hk z hf
  exact w_L_undoes_b83 z.1 y4 z.2 o h hg hL hr k hk hf
def m_L_undoes (σ : St) (x1 : Int32) (x2 : Int32) (x3 : Int32) : Option (Bool × St) :=
  (m_X9_fingerprint σ).bind fun u1 =>
  (m_L_up x3 x2).bind fun u3 =>
  (m_L_up (x3 >>> ((3 : Int32) &&& 31)) x1).bind fun u5 =>
  (m_X9_setActions σ u3 u5 2).bind fun u7 =>
  if u7.1 < 1 then (
    some (false, u7.2)
  ) else (
    (m_L_up (x3 >>> ((5 : Int32) &&& 31)) x2).bind fun u11 =>
    (m_X9_setAll u7.2 u3 u5 1 u11).bind fun u13 =>
    if u13.1 < 0 then (
      some (false, u13.2)
    ) else (
      (m_X9_label u13.2 u3 99 1).bind fun u17 =>
      if u17.1 = 0 then (
        (m_X9_plan u17.2 u3 u5 1).bind fun u21 =>
        if 0 ≤ u21.1 then (
          loopF (fun k z => m_L_undoes_b83 z.1 u1 z.2 k) cFu (u21.2, 0)
        ) else (
          some (false, u21.2)
        )
      ) else (
        some (false, u17.2)
      )
    )
  )
set_option maxHeartbeats 4000000 in
set_option maxRecDepth 100000 in
theorem w_L_undoes {C : XC} {Q : State → Prop} {g : cG} (σ : St) (x1 : Int32) (x2 : Int32) (x3 : Int32) (o : Bool × St) (h : XOk C cL_undoes RL tG rmL_undoes) (hg : XG C g) (hL : C.2.2.2.2.2.2.2.2.2.2.2.2.1 = 9) (hr : XEnd C (some .boolean) Q (XQ g (some (.int (bI o.1))) o.2) (cA g)) (hf : m_L_undoes σ x1 x2 x3 = some o) : Xs C (wW g) Q σ 0 [(0, .ref (gA g 65)), (1, .int x1), (2, .int x2), (3, .int x3)] [] := by
  unfold m_L_undoes at hf
  refine x_aload_n h dL_undoes_0 rfl 0 rfl (q := 1) rfl ?_
  obtain ⟨u1, hu1, hf2⟩ := bnd_inv hf
  refine x_callVl (As := []) (rest := []) h hg (c_X9_fingerprint C.2.1 hg.2.1 σ _ hu1) ml_L_9 biX9_fingerprint rfl rfl hdX9_fingerprint ⟨Nat.le_of_ble_eq_true rfl, Nat.le_of_ble_eq_true rfl⟩ (by decide) (cE_65 g _) rfl rfl rfl (Nat.le_of_ble_eq_true rfl) dL_undoes_1 ?_
  refine x_lstore (lv' := [(4, .long u1), (0, .ref (gA g 65)), (1, .int x1), (2, .int x2), (3, .int x3)]) h dL_undoes_4 hL (by decide) rfl (q := 6) rfl ?_
  refine x_iload_n h dL_undoes_6 rfl 4 rfl (q := 7) rfl ?_
  refine x_iload_n h dL_undoes_7 rfl 3 rfl (q := 8) rfl ?_
  obtain ⟨u3, hu3, hf4⟩ := bnd_inv hf2
  refine x_callPi (As := [.int x3, .int x2]) (rest := []) h (c_L_up C.2.1 x3 x2 _ hu3) ml_L_75 biL_up rfl rfl hdL_up ⟨Nat.le_of_ble_eq_true rfl, Nat.le_of_ble_eq_true rfl⟩ rfl rfl (Nat.le_of_ble_eq_true rfl) dL_undoes_8 ?_
  refine x_istore (lv' := [(6, .int u3), (4, .long u1), (0, .ref (gA g 65)), (1, .int x1), (2, .int x2), (3, .int x3)]) h dL_undoes_11 hL (by decide) rfl (q := 13) rfl ?_
  refine x_iload_n h dL_undoes_13 rfl 5 rfl (q := 14) rfl ?_
  refine x_iconst (v := 3) h dL_undoes_14 (by decide) (q := 15) rfl ?_
  refine x_ishr h dL_undoes_15 (q := 16) rfl ?_
  refine x_iload_n h dL_undoes_16 rfl 3 rfl (q := 17) rfl ?_
  obtain ⟨u5, hu5, hf6⟩ := bnd_inv hf4
  refine x_callPi (As := [.int (x3 >>> ((3 : Int32) &&& 31)), .int x1]) (rest := []) h (c_L_up C.2.1 (x3 >>> ((3 : Int32) &&& 31)) x1 _ hu5) ml_L_75 biL_up rfl rfl hdL_up ⟨Nat.le_of_ble_eq_true rfl, Nat.le_of_ble_eq_true rfl⟩ rfl rfl (Nat.le_of_ble_eq_true rfl) dL_undoes_17 ?_
  refine x_istore (lv' := [(7, .int u5), (6, .int u3), (4, .long u1), (0, .ref (gA g 65)), (1, .int x1), (2, .int x2), (3, .int x3)]) h dL_undoes_20 hL (by decide) rfl (q := 22) rfl ?_
  refine x_aload_n h dL_undoes_22 rfl 3 rfl (q := 23) rfl ?_
  refine x_iload h dL_undoes_23 1 rfl (q := 25) rfl ?_
  refine x_iload h dL_undoes_25 0 rfl (q := 27) rfl ?_
  refine x_iconst (v := 2) h dL_undoes_27 (by decide) (q := 28) rfl ?_
  obtain ⟨u7, hu7, hf8⟩ := bnd_inv hf6
  refine x_callVi (As := [.int u3, .int u5, .int 2]) (rest := []) h hg (c_X9_setActions C.2.1 hg.2.1 σ u3 u5 2 _ hu7) ml_L_15 biX9_setActions rfl rfl hdX9_setActions ⟨Nat.le_of_ble_eq_true rfl, Nat.le_of_ble_eq_true rfl⟩ (by decide) (cE_65 g _) rfl rfl rfl (Nat.le_of_ble_eq_true rfl) dL_undoes_28 ?_
  refine x_iconst (v := 1) h dL_undoes_31 (by decide) (q := 32) rfl ?_
  refine x_icmp_lt (tgt := 78) h dL_undoes_32 (by decide) (q := 35) rfl hf8 (fun hc9 hf10 => ?_) (fun hc9 hf10 => ?_)
  · skip
    refine x_iconst (v := 0) h dL_undoes_78 (by decide) (q := 79) rfl ?_
    have hz := Option.some.inj hf10
    subst hz
    exact x_zret (b := false) h hg hr dL_undoes_79
  · skip
    refine x_aload_n h dL_undoes_35 rfl 3 rfl (q := 36) rfl ?_
    refine x_iload h dL_undoes_36 1 rfl (q := 38) rfl ?_
    refine x_iload h dL_undoes_38 0 rfl (q := 40) rfl ?_
    refine x_iconst (v := 1) h dL_undoes_40 (by decide) (q := 41) rfl ?_
    refine x_iload_n h dL_undoes_41 rfl 6 rfl (q := 42) rfl ?_
    refine x_iconst (v := 5) h dL_undoes_42 (by decide) (q := 43) rfl ?_
    refine x_ishr h dL_undoes_43 (q := 44) rfl ?_
    refine x_iload_n h dL_undoes_44 rfl 5 rfl (q := 45) rfl ?_
    obtain ⟨u11, hu11, hf12⟩ := bnd_inv hf10
    refine x_callPi (As := [.int (x3 >>> ((5 : Int32) &&& 31)), .int x2]) (rest := [.int 1, .int u5, .int u3, .ref (gA g 65)]) h (c_L_up C.2.1 (x3 >>> ((5 : Int32) &&& 31)) x2 _ hu11) ml_L_75 biL_up rfl rfl hdL_up ⟨Nat.le_of_ble_eq_true rfl, Nat.le_of_ble_eq_true rfl⟩ rfl rfl (Nat.le_of_ble_eq_true rfl) dL_undoes_45 ?_
    obtain ⟨u13, hu13, hf14⟩ := bnd_inv hf12
    refine x_callVi (As := [.int u3, .int u5, .int 1, .int u11]) (rest := []) h hg (c_X9_setAll C.2.1 hg.2.1 u7.2 u3 u5 1 u11 _ hu13) ml_L_30 biX9_setAll rfl rfl hdX9_setAll ⟨Nat.le_of_ble_eq_true rfl, Nat.le_of_ble_eq_true rfl⟩ (by decide) (cE_65 g _) rfl rfl rfl (Nat.le_of_ble_eq_true rfl) dL_undoes_48 ?_
    refine x_if_lt (tgt := 78) h dL_undoes_51 (by decide) (q := 54) rfl hf14 (fun hc15 hf16 => ?_) (fun hc15 hf16 => ?_)
    · skip
      refine x_iconst (v := 0) h dL_undoes_78 (by decide) (q := 79) rfl ?_
      have hz := Option.some.inj hf16
      subst hz
      exact x_zret (b := false) h hg hr dL_undoes_79
    · skip
      refine x_aload_n h dL_undoes_54 rfl 3 rfl (q := 55) rfl ?_
      refine x_iload h dL_undoes_55 1 rfl (q := 57) rfl ?_
      refine x_bipush (v := 99) h dL_undoes_57 (by decide) (q := 59) rfl ?_
      refine x_iconst (v := 1) h dL_undoes_59 (by decide) (q := 60) rfl ?_
      obtain ⟨u17, hu17, hf18⟩ := bnd_inv hf16
      refine x_callVi (As := [.int u3, .int 99, .int 1]) (rest := []) h hg (c_X9_label C.2.1 hg.2.1 u13.2 u3 99 1 _ hu17) ml_L_19 biX9_label rfl rfl hdX9_label ⟨Nat.le_of_ble_eq_true rfl, Nat.le_of_ble_eq_true rfl⟩ (by decide) (cE_65 g _) rfl rfl rfl (Nat.le_of_ble_eq_true rfl) dL_undoes_60 ?_
      refine x_if_ne (tgt := 78) h dL_undoes_63 (by decide) (q := 66) rfl hf18 (fun hc19 hf20 => ?_) (fun hc19 hf20 => ?_)
      · skip
        refine x_iconst (v := 0) h dL_undoes_78 (by decide) (q := 79) rfl ?_
        have hz := Option.some.inj hf20
        subst hz
        exact x_zret (b := false) h hg hr dL_undoes_79
      · skip
        refine x_aload_n h dL_undoes_66 rfl 3 rfl (q := 67) rfl ?_
        refine x_iload h dL_undoes_67 1 rfl (q := 69) rfl ?_
        refine x_iload h dL_undoes_69 0 rfl (q := 71) rfl ?_
        refine x_iconst (v := 1) h dL_undoes_71 (by decide) (q := 72) rfl ?_
        obtain ⟨u21, hu21, hf22⟩ := bnd_inv hf20
        refine x_callVi (As := [.int u3, .int u5, .int 1]) (rest := []) h hg (c_X9_plan C.2.1 hg.2.1 u17.2 u3 u5 1 _ hu21) ml_L_56 biX9_plan rfl rfl hdX9_plan ⟨Nat.le_of_ble_eq_true rfl, Nat.le_of_ble_eq_true rfl⟩ (by decide) (cE_65 g _) rfl rfl rfl (Nat.le_of_ble_eq_true rfl) dL_undoes_72 ?_
        refine x_if_ge (tgt := 80) h dL_undoes_75 (by decide) (q := 78) rfl hf22 (fun hc23 hf24 => ?_) (fun hc23 hf24 => ?_)
        · skip
          refine x_iconst (v := 0) h dL_undoes_80 (by decide) (q := 81) rfl ?_
          refine x_istore (lv' := [(8, .int 0), (7, .int u5), (6, .int u3), (4, .long u1), (0, .ref (gA g 65)), (1, .int x1), (2, .int x2), (3, .int x3)]) h dL_undoes_81 hL (by decide) rfl (q := 83) rfl ?_
          refine x_sub (lv' := [(0, .ref (gA g 65)), (4, .long u1), (8, .int 0)]) [4, 3, 0] rfl ?_
          exact w_L_undoes_l83 u1 o h hg hL hr  cFu (u21.2, 0) hf24
        · skip
          refine x_iconst (v := 0) h dL_undoes_78 (by decide) (q := 79) rfl ?_
          have hz := Option.some.inj hf24
          subst hz
          exact x_zret (b := false) h hg hr dL_undoes_79
theorem c_L_undoes (l : Launch) {g : cG} (hi : gInj g) (σ : St) (x1 : Int32) (x2 : Int32) (x3 : Int32) (o : Bool × St) (hf : m_L_undoes σ x1 x2 x3 = some o) : Met l yL_undoes (wT yL_undoes cL_undoes 9 (some .boolean)) rmL_undoes (va_Pc [.ref (gA g 65), .int x1, .int x2, .int x3] (XPre g σ)) (XQ g (some (.int (bI o.1))) o.2) 0 0 (cA g) :=
  X_met RL hi plL rfl (Nat.le_of_ble_eq_true rfl) rfl (fun _ _ _ h hg hL hr => w_L_undoes σ x1 x2 x3 o h hg hL hr hf)
abbrev rmL_law : Room := { frames := 9, cells := 0, slots := 0, locals := 235 }
theorem hdL_law : yL_law.cls ≠ "java/lang/invoke/MethodHandle" ∧ yL_law.cls ≠ "java/lang/invoke/VarHandle" ∧ (parseMethodDescriptor yL_law.desc).map (fun d => d.parameters.length) = some 1 := by decide +kernel
def m_L_law_b197 (σ : St) (b : Nat) (L : Nat) (xs : Nat → Int32) (x1 : Int32) (x2 : Int32) (x4 : Int32) (x5 : Int32) (k197 : (St × Int32) → Option (Bool × St)) : Option (Bool × St) :=
  if x2 ≤ x5 then (
    if (m_X9_formulas σ) = 6 then (
      chk 46 2147483647 <|
      (m_L_undoes σ x1 x2 (cellF L xs 46)).bind fun u7 =>
      if (bI u7.1) = 0 then (
        some (false, u7.2)
      ) else (
        if (m_X9_forget u7.2).1 = 6 then (
          (m_L_fails (m_X9_forget u7.2).2 x1 x2).bind fun u13 =>
          if (bI u13.1) = 0 then (
            some (false, u13.2)
          ) else (
            some (true, u13.2)
          )
        ) else (
          some (false, (m_X9_forget u7.2).2)
        )
      )
    ) else (
      some (false, σ)
    )
  ) else (
    (m_X9_classOf σ x5).bind fun u17 =>
    if u17.1 < 0 then (
      some (false, u17.2)
    ) else (
      (m_X9_classOf u17.2 x5).bind fun u21 =>
      if x4 ≤ u21.1 then (
        some (false, u21.2)
      ) else (
        (m_X9_classOf u21.2 x5).bind fun u25 =>
        if u25.1 ≤ x5 then (
          k197 (u25.2, (x5 + 1))
        ) else (
          some (false, u25.2)
        )
      )
    )
  )
set_option maxHeartbeats 4000000 in
set_option maxRecDepth 100000 in
theorem w_L_law_b197 {C : XC} {Q : State → Prop} {g : cG} (σ : St) (b : Nat) (L : Nat) (xs : Nat → Int32) (x1 : Int32) (x2 : Int32) (x4 : Int32) (x5 : Int32) (o : Bool × St) (h : XOk C cL_law RL tG room_1) (hg : XG C g) (hL : C.2.2.2.2.2.2.2.2.2.2.2.2.1 = 8) (hr : lwE C g Q) (hs : lwS C g b L xs) (ho : o.1 = true) (k197 : (St × Int32) → Option (Bool × St)) (hk197 : ∀ z : St × Int32, k197 z = some o → Xs C (wW g) Q z.1 197 [(0, .ref b), (1, .int x1), (2, .int x2), (3, .ref (gA g 65)), (4, .int x4), (5, .int z.2)] []) (hf : m_L_law_b197 σ b L xs x1 x2 x4 x5 k197 = some o) : Xs C (wW g) Q σ 197 [(0, .ref b), (1, .int x1), (2, .int x2), (3, .ref (gA g 65)), (4, .int x4), (5, .int x5)] [] := by
  unfold m_L_law_b197 at hf
  refine x_iload h dL_law_197 5 rfl (q := 199) rfl ?_
  refine x_iload_n h dL_law_199 rfl 2 rfl (q := 200) rfl ?_
  refine x_icmp_ge (tgt := 242) h dL_law_200 (by decide) (q := 203) rfl hf (fun hc1 hf2 => ?_) (fun hc1 hf2 => ?_)
  · skip
    refine x_aload_n h dL_law_242 rfl 3 rfl (q := 243) rfl ?_
    refine x_callVi (As := []) (rest := []) h hg (c_X9_formulas C.2.1 hg.2.1 σ _ rfl) ml_L_146 biX9_formulas rfl rfl hdX9_formulas ⟨Nat.le_of_ble_eq_true rfl, Nat.le_of_ble_eq_true rfl⟩ (by decide) (cE_65 g _) rfl rfl rfl (Nat.le_of_ble_eq_true rfl) dL_law_243 ?_
    refine x_bipush (v := 6) h dL_law_246 (by decide) (q := 248) rfl ?_
    refine x_icmp_ne (tgt := 288) h dL_law_248 (by decide) (q := 251) rfl hf2 (fun hc3 hf4 => ?_) (fun hc3 hf4 => ?_)
    · skip
      refine x_iconst (v := 0) h dL_law_288 (by decide) (q := 289) rfl ?_
      have hz := Option.some.inj hf4
      subst hz
      exact absurd ho Bool.false_ne_true
    · skip
      refine x_aload_n h dL_law_251 rfl 3 rfl (q := 252) rfl ?_
      refine x_iload_n h dL_law_252 rfl 1 rfl (q := 253) rfl ?_
      refine x_iload_n h dL_law_253 rfl 2 rfl (q := 254) rfl ?_
      refine x_aload_n h dL_law_254 rfl 0 rfl (q := 255) rfl ?_
      refine x_bipush (v := 46) h dL_law_255 (by decide) (q := 257) rfl ?_
      obtain ⟨hi5, hf6⟩ := chk_inv hf4
      refine x_callC (rest := [.int x2, .int x1, .ref (gA g 65)]) h hg hs hi5 ml_L_69 ⟨Nat.le_of_ble_eq_true rfl, Nat.le_of_ble_eq_true rfl⟩ (Nat.le_of_ble_eq_true rfl) dL_law_257 ?_
      obtain ⟨u7, hu7, hf8⟩ := bnd_inv hf6
      refine x_callSi (As := [.ref (gA g 65), .int x1, .int x2, .int (cellF L xs 46)]) (rest := []) h hg (c_L_undoes C.2.1 hg.2.1 σ x1 x2 (cellF L xs 46) _ hu7) ml_L_149 biL_undoes rfl rfl hdL_undoes ⟨Nat.le_of_ble_eq_true rfl, Nat.le_of_ble_eq_true rfl⟩ rfl rfl (Nat.le_of_ble_eq_true rfl) dL_law_260 ?_
      refine x_if_eq (tgt := 288) h dL_law_263 (by decide) (q := 266) rfl hf8 (fun hc9 hf10 => ?_) (fun hc9 hf10 => ?_)
      · skip
        refine x_iconst (v := 0) h dL_law_288 (by decide) (q := 289) rfl ?_
        have hz := Option.some.inj hf10
        subst hz
        exact absurd ho Bool.false_ne_true
      · skip
        refine x_aload_n h dL_law_266 rfl 3 rfl (q := 267) rfl ?_
        refine x_callVi (As := []) (rest := []) h hg (c_X9_forget C.2.1 hg.2.1 u7.2 _ rfl) ml_L_152 biX9_forget rfl rfl hdX9_forget ⟨Nat.le_of_ble_eq_true rfl, Nat.le_of_ble_eq_true rfl⟩ (by decide) (cE_65 g _) rfl rfl rfl (Nat.le_of_ble_eq_true rfl) dL_law_267 ?_
        refine x_bipush (v := 6) h dL_law_270 (by decide) (q := 272) rfl ?_
        refine x_icmp_ne (tgt := 288) h dL_law_272 (by decide) (q := 275) rfl hf10 (fun hc11 hf12 => ?_) (fun hc11 hf12 => ?_)
        · skip
          refine x_iconst (v := 0) h dL_law_288 (by decide) (q := 289) rfl ?_
          have hz := Option.some.inj hf12
          subst hz
          exact absurd ho Bool.false_ne_true
        · skip
          refine x_aload_n h dL_law_275 rfl 3 rfl (q := 276) rfl ?_
          refine x_iload_n h dL_law_276 rfl 1 rfl (q := 277) rfl ?_
          refine x_iload_n h dL_law_277 rfl 2 rfl (q := 278) rfl ?_
          obtain ⟨u13, hu13, hf14⟩ := bnd_inv hf12
          refine x_callSi (As := [.ref (gA g 65), .int x1, .int x2]) (rest := []) h hg (c_L_fails C.2.1 hg.2.1 (m_X9_forget u7.2).2 x1 x2 _ hu13) ml_L_127 biL_fails rfl rfl hdL_fails ⟨Nat.le_of_ble_eq_true rfl, Nat.le_of_ble_eq_true rfl⟩ rfl rfl (Nat.le_of_ble_eq_true rfl) dL_law_278 ?_
          refine x_if_eq (tgt := 288) h dL_law_281 (by decide) (q := 284) rfl hf14 (fun hc15 hf16 => ?_) (fun hc15 hf16 => ?_)
          · skip
            refine x_iconst (v := 0) h dL_law_288 (by decide) (q := 289) rfl ?_
            have hz := Option.some.inj hf16
            subst hz
            exact absurd ho Bool.false_ne_true
          · skip
            refine x_iconst (v := 1) h dL_law_284 (by decide) (q := 285) rfl ?_
            refine x_goto (q := 289) h dL_law_285 (by decide) ?_
            have hz := Option.some.inj hf16
            subst hz
            exact hr _ _ _ dL_law_289
  · skip
    refine x_aload_n h dL_law_203 rfl 3 rfl (q := 204) rfl ?_
    refine x_iload h dL_law_204 5 rfl (q := 206) rfl ?_
    obtain ⟨u17, hu17, hf18⟩ := bnd_inv hf2
    refine x_callVi (As := [.int x5]) (rest := []) h hg (c_X9_classOf C.2.1 hg.2.1 σ x5 _ hu17) ml_L_62 biX9_classOf rfl rfl hdX9_classOf ⟨Nat.le_of_ble_eq_true rfl, Nat.le_of_ble_eq_true rfl⟩ (by decide) (cE_65 g _) rfl rfl rfl (Nat.le_of_ble_eq_true rfl) dL_law_206 ?_
    refine x_if_lt (tgt := 234) h dL_law_209 (by decide) (q := 212) rfl hf18 (fun hc19 hf20 => ?_) (fun hc19 hf20 => ?_)
    · skip
      refine x_iconst (v := 0) h dL_law_234 (by decide) (q := 235) rfl ?_
      have hz := Option.some.inj hf20
      subst hz
      exact absurd ho Bool.false_ne_true
    · skip
      refine x_aload_n h dL_law_212 rfl 3 rfl (q := 213) rfl ?_
      refine x_iload h dL_law_213 5 rfl (q := 215) rfl ?_
      obtain ⟨u21, hu21, hf22⟩ := bnd_inv hf20
      refine x_callVi (As := [.int x5]) (rest := []) h hg (c_X9_classOf C.2.1 hg.2.1 u17.2 x5 _ hu21) ml_L_62 biX9_classOf rfl rfl hdX9_classOf ⟨Nat.le_of_ble_eq_true rfl, Nat.le_of_ble_eq_true rfl⟩ (by decide) (cE_65 g _) rfl rfl rfl (Nat.le_of_ble_eq_true rfl) dL_law_215 ?_
      refine x_iload h dL_law_218 4 rfl (q := 220) rfl ?_
      refine x_icmp_ge (tgt := 234) h dL_law_220 (by decide) (q := 223) rfl hf22 (fun hc23 hf24 => ?_) (fun hc23 hf24 => ?_)
      · skip
        refine x_iconst (v := 0) h dL_law_234 (by decide) (q := 235) rfl ?_
        have hz := Option.some.inj hf24
        subst hz
        exact absurd ho Bool.false_ne_true
      · skip
        refine x_aload_n h dL_law_223 rfl 3 rfl (q := 224) rfl ?_
        refine x_iload h dL_law_224 5 rfl (q := 226) rfl ?_
        obtain ⟨u25, hu25, hf26⟩ := bnd_inv hf24
        refine x_callVi (As := [.int x5]) (rest := []) h hg (c_X9_classOf C.2.1 hg.2.1 u21.2 x5 _ hu25) ml_L_62 biX9_classOf rfl rfl hdX9_classOf ⟨Nat.le_of_ble_eq_true rfl, Nat.le_of_ble_eq_true rfl⟩ (by decide) (cE_65 g _) rfl rfl rfl (Nat.le_of_ble_eq_true rfl) dL_law_226 ?_
        refine x_iload h dL_law_229 5 rfl (q := 231) rfl ?_
        refine x_icmp_le (tgt := 236) h dL_law_231 (by decide) (q := 234) rfl hf26 (fun hc27 hf28 => ?_) (fun hc27 hf28 => ?_)
        · skip
          refine x_iinc (v := (x5 + 1)) (lv' := [(5, .int (x5 + 1)), (0, .ref b), (1, .int x1), (2, .int x2), (3, .ref (gA g 65)), (4, .int x4)]) (j := 5) h dL_law_236 rfl rfl hL (by decide) rfl (q := 239) rfl ?_
          refine x_goto (q := 197) h dL_law_239 (by decide) ?_
          refine x_sub (lv' := [(0, .ref b), (1, .int x1), (2, .int x2), (3, .ref (gA g 65)), (4, .int x4), (5, .int (x5 + 1))]) [1, 2, 3, 4, 5, 0] rfl ?_
          exact hk197 (u25.2, (x5 + 1)) hf28
        · skip
          refine x_iconst (v := 0) h dL_law_234 (by decide) (q := 235) rfl ?_
          have hz := Option.some.inj hf28
          subst hz
          exact absurd ho Bool.false_ne_true
set_option maxHeartbeats 4000000 in
set_option maxRecDepth 100000 in
theorem w_L_law_l197 {C : XC} {Q : State → Prop} {g : cG} (b : Nat) (L : Nat) (xs : Nat → Int32) (x1 : Int32) (x2 : Int32) (x4 : Int32) (o : Bool × St) (h : XOk C cL_law RL tG room_1) (hg : XG C g) (hL : C.2.2.2.2.2.2.2.2.2.2.2.2.1 = 8) (hr : lwE C g Q) (hs : lwS C g b L xs) (ho : o.1 = true) : ∀ (n : Nat) (z : St × Int32), loopF (fun k z => m_L_law_b197 z.1 b L xs x1 x2 x4 z.2 k) n z = some o → Xs C (wW g) Q z.1 197 [(0, .ref b), (1, .int x1), (2, .int x2), (3, .ref (gA g 65)), (4, .int x4), (5, .int z.2)] [] := by
  intro n z hf
  refine loopF_ind (S := St × Int32) (O := Bool × St) (step := (fun k z => m_L_law_b197 z.1 b L xs x1 x2 x4 z.2 k)) (o := o) (P := fun z => Xs C (wW g) Q z.1 197 [(0, .ref b), (1, .int x1), (2, .int x2), (3, .ref (gA g 65)), (4, .int x4), (5, .int z.2)] []) ?_ n z hf
  intro k hk z hf
  exact w_L_law_b197 z.1 b L xs x1 x2 x4 z.2 o h hg hL hr hs ho k hk hf
def m_L_law_b109 (σ : St) (b : Nat) (L : Nat) (xs : Nat → Int32) (x1 : Int32) (x2 : Int32) (x4 : Int32) (k109 : (St × Int32) → Option (Bool × St)) : Option (Bool × St) :=
  if 6 ≤ x4 then (
    (m_X9_classes σ).bind fun u3 =>
    loopF (fun k z => m_L_law_b197 z.1 b L xs x1 x2 u3.1 z.2 k) cFu (u3.2, 0)
  ) else (
    chk (40 + x4) 2147483647 <|
    (m_L_up (cellF L xs (40 + x4)) ((1 : Int32) <<< (x1 &&& 31))).bind fun u7 =>
    (m_L_up ((cellF L xs (40 + x4)) >>> ((3 : Int32) &&& 31)) 4).bind fun u9 =>
    (m_L_reads σ x1 u7 u9).bind fun u11 =>
    if u11.1 = x4 then (
      (m_L_enforces u11.2 x4 u9 u7 x1 x2 ((cellF L xs (40 + x4)) >>> ((5 : Int32) &&& 31))).bind fun u15 =>
      if (bI u15.1) = 0 then (
        some (false, u15.2)
      ) else (
        k109 (u15.2, (x4 + 1))
      )
    ) else (
      some (false, u11.2)
    )
  )
set_option maxHeartbeats 4000000 in
set_option maxRecDepth 100000 in
theorem w_L_law_b109 {C : XC} {Q : State → Prop} {g : cG} (σ : St) (b : Nat) (L : Nat) (xs : Nat → Int32) (x1 : Int32) (x2 : Int32) (x4 : Int32) (o : Bool × St) (h : XOk C cL_law RL tG room_1) (hg : XG C g) (hL : C.2.2.2.2.2.2.2.2.2.2.2.2.1 = 8) (hr : lwE C g Q) (hs : lwS C g b L xs) (ho : o.1 = true) (k109 : (St × Int32) → Option (Bool × St)) (hk109 : ∀ z : St × Int32, k109 z = some o → Xs C (wW g) Q z.1 109 [(0, .ref b), (1, .int x1), (2, .int x2), (3, .ref (gA g 65)), (4, .int z.2)] []) (hf : m_L_law_b109 σ b L xs x1 x2 x4 k109 = some o) : Xs C (wW g) Q σ 109 [(0, .ref b), (1, .int x1), (2, .int x2), (3, .ref (gA g 65)), (4, .int x4)] [] := by
  unfold m_L_law_b109 at hf
  refine x_iload h dL_law_109 4 rfl (q := 111) rfl ?_
  refine x_bipush (v := 6) h dL_law_111 (by decide) (q := 113) rfl ?_
  refine x_icmp_ge (tgt := 188) h dL_law_113 (by decide) (q := 116) rfl hf (fun hc1 hf2 => ?_) (fun hc1 hf2 => ?_)
  · skip
    refine x_aload_n h dL_law_188 rfl 3 rfl (q := 189) rfl ?_
    obtain ⟨u3, hu3, hf4⟩ := bnd_inv hf2
    refine x_callVi (As := []) (rest := []) h hg (c_X9_classes C.2.1 hg.2.1 σ _ hu3) ml_L_143 biX9_classes rfl rfl hdX9_classes ⟨Nat.le_of_ble_eq_true rfl, Nat.le_of_ble_eq_true rfl⟩ (by decide) (cE_65 g _) rfl rfl rfl (Nat.le_of_ble_eq_true rfl) dL_law_189 ?_
    refine x_istore (lv' := [(4, .int u3.1), (0, .ref b), (1, .int x1), (2, .int x2), (3, .ref (gA g 65))]) h dL_law_192 hL (by decide) rfl (q := 194) rfl ?_
    refine x_iconst (v := 0) h dL_law_194 (by decide) (q := 195) rfl ?_
    refine x_istore (lv' := [(5, .int 0), (4, .int u3.1), (0, .ref b), (1, .int x1), (2, .int x2), (3, .ref (gA g 65))]) h dL_law_195 hL (by decide) rfl (q := 197) rfl ?_
    refine x_sub (lv' := [(0, .ref b), (1, .int x1), (2, .int x2), (3, .ref (gA g 65)), (4, .int u3.1), (5, .int 0)]) [2, 3, 4, 5, 1, 0] rfl ?_
    exact w_L_law_l197 b L xs x1 x2 u3.1 o h hg hL hr hs ho  cFu (u3.2, 0) hf4
  · skip
    refine x_aload_n h dL_law_116 rfl 0 rfl (q := 117) rfl ?_
    refine x_bipush (v := 40) h dL_law_117 (by decide) (q := 119) rfl ?_
    refine x_iload h dL_law_119 4 rfl (q := 121) rfl ?_
    refine x_iadd h dL_law_121 (q := 122) rfl ?_
    obtain ⟨hi5, hf6⟩ := chk_inv hf2
    refine x_callC (rest := []) h hg hs hi5 ml_L_69 ⟨Nat.le_of_ble_eq_true rfl, Nat.le_of_ble_eq_true rfl⟩ (Nat.le_of_ble_eq_true rfl) dL_law_122 ?_
    refine x_istore (lv' := [(5, .int (cellF L xs (40 + x4))), (0, .ref b), (1, .int x1), (2, .int x2), (3, .ref (gA g 65)), (4, .int x4)]) h dL_law_125 hL (by decide) rfl (q := 127) rfl ?_
    refine x_iload h dL_law_127 0 rfl (q := 129) rfl ?_
    refine x_iconst (v := 1) h dL_law_129 (by decide) (q := 130) rfl ?_
    refine x_iload_n h dL_law_130 rfl 2 rfl (q := 131) rfl ?_
    refine x_ishl h dL_law_131 (q := 132) rfl ?_
    obtain ⟨u7, hu7, hf8⟩ := bnd_inv hf6
    refine x_callPi (As := [.int (cellF L xs (40 + x4)), .int ((1 : Int32) <<< (x1 &&& 31))]) (rest := []) h (c_L_up C.2.1 (cellF L xs (40 + x4)) ((1 : Int32) <<< (x1 &&& 31)) _ hu7) ml_L_75 biL_up rfl rfl hdL_up ⟨Nat.le_of_ble_eq_true rfl, Nat.le_of_ble_eq_true rfl⟩ rfl rfl (Nat.le_of_ble_eq_true rfl) dL_law_132 ?_
    refine x_istore (lv' := [(6, .int u7), (5, .int (cellF L xs (40 + x4))), (0, .ref b), (1, .int x1), (2, .int x2), (3, .ref (gA g 65)), (4, .int x4)]) h dL_law_135 hL (by decide) rfl (q := 137) rfl ?_
    refine x_iload h dL_law_137 1 rfl (q := 139) rfl ?_
    refine x_iconst (v := 3) h dL_law_139 (by decide) (q := 140) rfl ?_
    refine x_ishr h dL_law_140 (q := 141) rfl ?_
    refine x_iconst (v := 4) h dL_law_141 (by decide) (q := 142) rfl ?_
    obtain ⟨u9, hu9, hf10⟩ := bnd_inv hf8
    refine x_callPi (As := [.int ((cellF L xs (40 + x4)) >>> ((3 : Int32) &&& 31)), .int 4]) (rest := []) h (c_L_up C.2.1 ((cellF L xs (40 + x4)) >>> ((3 : Int32) &&& 31)) 4 _ hu9) ml_L_75 biL_up rfl rfl hdL_up ⟨Nat.le_of_ble_eq_true rfl, Nat.le_of_ble_eq_true rfl⟩ rfl rfl (Nat.le_of_ble_eq_true rfl) dL_law_142 ?_
    refine x_istore (lv' := [(7, .int u9), (6, .int u7), (5, .int (cellF L xs (40 + x4))), (0, .ref b), (1, .int x1), (2, .int x2), (3, .ref (gA g 65)), (4, .int x4)]) h dL_law_145 hL (by decide) rfl (q := 147) rfl ?_
    refine x_aload_n h dL_law_147 rfl 6 rfl (q := 148) rfl ?_
    refine x_iload_n h dL_law_148 rfl 4 rfl (q := 149) rfl ?_
    refine x_iload h dL_law_149 1 rfl (q := 151) rfl ?_
    refine x_iload h dL_law_151 0 rfl (q := 153) rfl ?_
    obtain ⟨u11, hu11, hf12⟩ := bnd_inv hf10
    refine x_callSi (As := [.ref (gA g 65), .int x1, .int u7, .int u9]) (rest := []) h hg (c_L_reads C.2.1 hg.2.1 σ x1 u7 u9 _ hu11) ml_L_135 biL_reads rfl rfl hdL_reads ⟨Nat.le_of_ble_eq_true rfl, Nat.le_of_ble_eq_true rfl⟩ rfl rfl (Nat.le_of_ble_eq_true rfl) dL_law_153 ?_
    refine x_iload h dL_law_156 7 rfl (q := 158) rfl ?_
    refine x_icmp_ne (tgt := 180) h dL_law_158 (by decide) (q := 161) rfl hf12 (fun hc13 hf14 => ?_) (fun hc13 hf14 => ?_)
    · skip
      refine x_iconst (v := 0) h dL_law_180 (by decide) (q := 181) rfl ?_
      have hz := Option.some.inj hf14
      subst hz
      exact absurd ho Bool.false_ne_true
    · skip
      refine x_aload_n h dL_law_161 rfl 6 rfl (q := 162) rfl ?_
      refine x_iload h dL_law_162 7 rfl (q := 164) rfl ?_
      refine x_iload h dL_law_164 0 rfl (q := 166) rfl ?_
      refine x_iload h dL_law_166 1 rfl (q := 168) rfl ?_
      refine x_iload_n h dL_law_168 rfl 4 rfl (q := 169) rfl ?_
      refine x_iload_n h dL_law_169 rfl 5 rfl (q := 170) rfl ?_
      refine x_iload h dL_law_170 2 rfl (q := 172) rfl ?_
      refine x_iconst (v := 5) h dL_law_172 (by decide) (q := 173) rfl ?_
      refine x_ishr h dL_law_173 (q := 174) rfl ?_
      obtain ⟨u15, hu15, hf16⟩ := bnd_inv hf14
      refine x_callSi (As := [.ref (gA g 65), .int x4, .int u9, .int u7, .int x1, .int x2, .int ((cellF L xs (40 + x4)) >>> ((5 : Int32) &&& 31))]) (rest := []) h hg (c_L_enforces C.2.1 hg.2.1 u11.2 x4 u9 u7 x1 x2 ((cellF L xs (40 + x4)) >>> ((5 : Int32) &&& 31)) _ hu15) ml_L_139 biL_enforces rfl rfl hdL_enforces ⟨Nat.le_of_ble_eq_true rfl, Nat.le_of_ble_eq_true rfl⟩ rfl rfl (Nat.le_of_ble_eq_true rfl) dL_law_174 ?_
      refine x_if_ne (tgt := 182) h dL_law_177 (by decide) (q := 180) rfl hf16 (fun hc17 hf18 => ?_) (fun hc17 hf18 => ?_)
      · skip
        refine x_iinc (v := (x4 + 1)) (lv' := [(4, .int (x4 + 1)), (7, .int u9), (6, .int u7), (5, .int (cellF L xs (40 + x4))), (0, .ref b), (1, .int x1), (2, .int x2), (3, .ref (gA g 65))]) (j := 7) h dL_law_182 rfl rfl hL (by decide) rfl (q := 185) rfl ?_
        refine x_goto (q := 109) h dL_law_185 (by decide) ?_
        refine x_sub (lv' := [(0, .ref b), (1, .int x1), (2, .int x2), (3, .ref (gA g 65)), (4, .int (x4 + 1))]) [4, 5, 6, 7, 0] rfl ?_
        exact hk109 (u15.2, (x4 + 1)) hf18
      · skip
        refine x_iconst (v := 0) h dL_law_180 (by decide) (q := 181) rfl ?_
        have hz := Option.some.inj hf18
        subst hz
        exact absurd ho Bool.false_ne_true
set_option maxHeartbeats 4000000 in
set_option maxRecDepth 100000 in
theorem w_L_law_l109 {C : XC} {Q : State → Prop} {g : cG} (b : Nat) (L : Nat) (xs : Nat → Int32) (x1 : Int32) (x2 : Int32) (o : Bool × St) (h : XOk C cL_law RL tG room_1) (hg : XG C g) (hL : C.2.2.2.2.2.2.2.2.2.2.2.2.1 = 8) (hr : lwE C g Q) (hs : lwS C g b L xs) (ho : o.1 = true) : ∀ (n : Nat) (z : St × Int32), loopF (fun k z => m_L_law_b109 z.1 b L xs x1 x2 z.2 k) n z = some o → Xs C (wW g) Q z.1 109 [(0, .ref b), (1, .int x1), (2, .int x2), (3, .ref (gA g 65)), (4, .int z.2)] [] := by
  intro n z hf
  refine loopF_ind (S := St × Int32) (O := Bool × St) (step := (fun k z => m_L_law_b109 z.1 b L xs x1 x2 z.2 k)) (o := o) (P := fun z => Xs C (wW g) Q z.1 109 [(0, .ref b), (1, .int x1), (2, .int x2), (3, .ref (gA g 65)), (4, .int z.2)] []) ?_ n z hf
  intro k hk z hf
  exact w_L_law_b109 z.1 b L xs x1 x2 z.2 o h hg hL hr hs ho k hk hf
def m_L_law_b74 (σ : St) (b : Nat) (L : Nat) (xs : Nat → Int32) (x1 : Int32) (x2 : Int32) (x4 : Int32) (k74 : (St × Int32) → Option (Bool × St)) : Option (Bool × St) :=
  if 3 ≤ x4 then (
    loopF (fun k z => m_L_law_b109 z.1 b L xs x1 x2 z.2 k) cFu (σ, 0)
  ) else (
    chk (36 + x4) 2147483647 <|
    (m_L_steps σ x1 x2 (cellF L xs (36 + x4))).bind fun u5 =>
    if (bI u5.1) = 0 then (
      some (false, u5.2)
    ) else (
      k74 (u5.2, (x4 + 1))
    )
  )
set_option maxHeartbeats 4000000 in
set_option maxRecDepth 100000 in
theorem w_L_law_b74 {C : XC} {Q : State → Prop} {g : cG} (σ : St) (b : Nat) (L : Nat) (xs : Nat → Int32) (x1 : Int32) (x2 : Int32) (x4 : Int32) (o : Bool × St) (h : XOk C cL_law RL tG room_1) (hg : XG C g) (hL : C.2.2.2.2.2.2.2.2.2.2.2.2.1 = 8) (hr : lwE C g Q) (hs : lwS C g b L xs) (ho : o.1 = true) (k74 : (St × Int32) → Option (Bool × St)) (hk74 : ∀ z : St × Int32, k74 z = some o → Xs C (wW g) Q z.1 74 [(0, .ref b), (1, .int x1), (2, .int x2), (3, .ref (gA g 65)), (4, .int z.2)] []) (hf : m_L_law_b74 σ b L xs x1 x2 x4 k74 = some o) : Xs C (wW g) Q σ 74 [(0, .ref b), (1, .int x1), (2, .int x2), (3, .ref (gA g 65)), (4, .int x4)] [] := by
  unfold m_L_law_b74 at hf
  refine x_iload h dL_law_74 4 rfl (q := 76) rfl ?_
  refine x_iconst (v := 3) h dL_law_76 (by decide) (q := 77) rfl ?_
  refine x_icmp_ge (tgt := 106) h dL_law_77 (by decide) (q := 80) rfl hf (fun hc1 hf2 => ?_) (fun hc1 hf2 => ?_)
  · skip
    refine x_iconst (v := 0) h dL_law_106 (by decide) (q := 107) rfl ?_
    refine x_istore (lv' := [(4, .int 0), (0, .ref b), (1, .int x1), (2, .int x2), (3, .ref (gA g 65))]) h dL_law_107 hL (by decide) rfl (q := 109) rfl ?_
    refine x_sub (lv' := [(0, .ref b), (1, .int x1), (2, .int x2), (3, .ref (gA g 65)), (4, .int 0)]) [1, 2, 3, 4, 0] rfl ?_
    exact w_L_law_l109 b L xs x1 x2 o h hg hL hr hs ho  cFu (σ, 0) hf2
  · skip
    refine x_aload_n h dL_law_80 rfl 3 rfl (q := 81) rfl ?_
    refine x_iload_n h dL_law_81 rfl 1 rfl (q := 82) rfl ?_
    refine x_iload_n h dL_law_82 rfl 2 rfl (q := 83) rfl ?_
    refine x_aload_n h dL_law_83 rfl 0 rfl (q := 84) rfl ?_
    refine x_bipush (v := 36) h dL_law_84 (by decide) (q := 86) rfl ?_
    refine x_iload h dL_law_86 4 rfl (q := 88) rfl ?_
    refine x_iadd h dL_law_88 (q := 89) rfl ?_
    obtain ⟨hi3, hf4⟩ := chk_inv hf2
    refine x_callC (rest := [.int x2, .int x1, .ref (gA g 65)]) h hg hs hi3 ml_L_69 ⟨Nat.le_of_ble_eq_true rfl, Nat.le_of_ble_eq_true rfl⟩ (Nat.le_of_ble_eq_true rfl) dL_law_89 ?_
    obtain ⟨u5, hu5, hf6⟩ := bnd_inv hf4
    refine x_callSi (As := [.ref (gA g 65), .int x1, .int x2, .int (cellF L xs (36 + x4))]) (rest := []) h hg (c_L_steps C.2.1 hg.2.1 σ x1 x2 (cellF L xs (36 + x4)) _ hu5) ml_L_131 biL_steps rfl rfl hdL_steps ⟨Nat.le_of_ble_eq_true rfl, Nat.le_of_ble_eq_true rfl⟩ rfl rfl (Nat.le_of_ble_eq_true rfl) dL_law_92 ?_
    refine x_if_ne (tgt := 100) h dL_law_95 (by decide) (q := 98) rfl hf6 (fun hc7 hf8 => ?_) (fun hc7 hf8 => ?_)
    · skip
      refine x_iinc (v := (x4 + 1)) (lv' := [(4, .int (x4 + 1)), (0, .ref b), (1, .int x1), (2, .int x2), (3, .ref (gA g 65))]) (j := 4) h dL_law_100 rfl rfl hL (by decide) rfl (q := 103) rfl ?_
      refine x_goto (q := 74) h dL_law_103 (by decide) ?_
      refine x_sub (lv' := [(0, .ref b), (1, .int x1), (2, .int x2), (3, .ref (gA g 65)), (4, .int (x4 + 1))]) [1, 2, 3, 4, 0] rfl ?_
      exact hk74 (u5.2, (x4 + 1)) hf8
    · skip
      refine x_iconst (v := 0) h dL_law_98 (by decide) (q := 99) rfl ?_
      have hz := Option.some.inj hf8
      subst hz
      exact absurd ho Bool.false_ne_true
set_option maxHeartbeats 4000000 in
set_option maxRecDepth 100000 in
theorem w_L_law_l74 {C : XC} {Q : State → Prop} {g : cG} (b : Nat) (L : Nat) (xs : Nat → Int32) (x1 : Int32) (x2 : Int32) (o : Bool × St) (h : XOk C cL_law RL tG room_1) (hg : XG C g) (hL : C.2.2.2.2.2.2.2.2.2.2.2.2.1 = 8) (hr : lwE C g Q) (hs : lwS C g b L xs) (ho : o.1 = true) : ∀ (n : Nat) (z : St × Int32), loopF (fun k z => m_L_law_b74 z.1 b L xs x1 x2 z.2 k) n z = some o → Xs C (wW g) Q z.1 74 [(0, .ref b), (1, .int x1), (2, .int x2), (3, .ref (gA g 65)), (4, .int z.2)] [] := by
  intro n z hf
  refine loopF_ind (S := St × Int32) (O := Bool × St) (step := (fun k z => m_L_law_b74 z.1 b L xs x1 x2 z.2 k)) (o := o) (P := fun z => Xs C (wW g) Q z.1 74 [(0, .ref b), (1, .int x1), (2, .int x2), (3, .ref (gA g 65)), (4, .int z.2)] []) ?_ n z hf
  intro k hk z hf
  exact w_L_law_b74 z.1 b L xs x1 x2 z.2 o h hg hL hr hs ho k hk hf
def m_L_law (σ : St) (b : Nat) (L : Nat) (xs : Nat → Int32) (x1 : Int32) (x2 : Int32) : Option (Bool × St) :=
  if (m_X9_agents σ) = x1 then (
    (m_X9_undo σ).bind fun u3 =>
    if u3.1 = (-9) then (
      (m_L_builds u3.2 b L xs x1 x2).bind fun u7 =>
      if (bI u7.1) = 0 then (
        some (false, u7.2)
      ) else (
        (m_L_fails u7.2 x1 x2).bind fun u11 =>
        if (bI u11.1) = 0 then (
          some (false, u11.2)
        ) else (
          loopF (fun k z => m_L_law_b74 z.1 b L xs x1 x2 z.2 k) cFu (u11.2, 0)
        )
      )
    ) else (
      some (false, u3.2)
    )
  ) else (
    some (false, σ)
  )
set_option maxHeartbeats 4000000 in
set_option maxRecDepth 100000 in
theorem w_L_law {C : XC} {Q : State → Prop} {g : cG} (σ : St) (b : Nat) (L : Nat) (xs : Nat → Int32) (x1 : Int32) (x2 : Int32) (o : Bool × St) (h : XOk C cL_law RL tG room_1) (hg : XG C g) (hL : C.2.2.2.2.2.2.2.2.2.2.2.2.1 = 8) (hr : lwE C g Q) (hs : lwS C g b L xs) (ho : o.1 = true) (hf : m_L_law σ b L xs x1 x2 = some o) : Xs C (wW g) Q σ 33 [(0, .ref b), (1, .int x1), (2, .int x2), (3, .ref (gA g 65))] [] := by
  unfold m_L_law at hf
  refine x_aload_n h dL_law_33 rfl 3 rfl (q := 34) rfl ?_
  refine x_callVi (As := []) (rest := []) h hg (c_X9_agents C.2.1 hg.2.1 σ _ rfl) ml_L_120 biX9_agents rfl rfl hdX9_agents ⟨Nat.le_of_ble_eq_true rfl, Nat.le_of_ble_eq_true rfl⟩ (by decide) (cE_65 g _) rfl rfl rfl (Nat.le_of_ble_eq_true rfl) dL_law_34 ?_
  refine x_iload_n h dL_law_37 rfl 1 rfl (q := 38) rfl ?_
  refine x_icmp_ne (tgt := 69) h dL_law_38 (by decide) (q := 41) rfl hf (fun hc1 hf2 => ?_) (fun hc1 hf2 => ?_)
  · skip
    refine x_iconst (v := 0) h dL_law_69 (by decide) (q := 70) rfl ?_
    have hz := Option.some.inj hf2
    subst hz
    exact absurd ho Bool.false_ne_true
  · skip
    refine x_aload_n h dL_law_41 rfl 3 rfl (q := 42) rfl ?_
    obtain ⟨u3, hu3, hf4⟩ := bnd_inv hf2
    refine x_callVi (As := []) (rest := []) h hg (c_X9_undo C.2.1 hg.2.1 σ _ hu3) ml_L_114 biX9_undo rfl rfl hdX9_undo ⟨Nat.le_of_ble_eq_true rfl, Nat.le_of_ble_eq_true rfl⟩ (by decide) (cE_65 g _) rfl rfl rfl (Nat.le_of_ble_eq_true rfl) dL_law_42 ?_
    refine x_bipush (v := (-9)) h dL_law_45 (by decide) (q := 47) rfl ?_
    refine x_icmp_ne (tgt := 69) h dL_law_47 (by decide) (q := 50) rfl hf4 (fun hc5 hf6 => ?_) (fun hc5 hf6 => ?_)
    · skip
      refine x_iconst (v := 0) h dL_law_69 (by decide) (q := 70) rfl ?_
      have hz := Option.some.inj hf6
      subst hz
      exact absurd ho Bool.false_ne_true
    · skip
      refine x_aload_n h dL_law_50 rfl 3 rfl (q := 51) rfl ?_
      refine x_aload_n h dL_law_51 rfl 0 rfl (q := 52) rfl ?_
      refine x_iload_n h dL_law_52 rfl 1 rfl (q := 53) rfl ?_
      refine x_iload_n h dL_law_53 rfl 2 rfl (q := 54) rfl ?_
      obtain ⟨u7, hu7, hf8⟩ := bnd_inv hf6
      refine x_callB (As := [.ref (gA g 65), .ref b, .int x1, .int x2]) (rest := []) h hg hs (c_L_builds C.2.1 hg.2.1 u3.2 b L xs x1 x2 _ (lwS_nb hg hs) hs.2.2.2 hu7) ml_L_123 biL_builds rfl rfl hdL_builds ⟨Nat.le_of_ble_eq_true rfl, Nat.le_of_ble_eq_true rfl⟩ rfl rfl (Nat.le_of_ble_eq_true rfl) dL_law_54 ?_
      refine x_if_eq (tgt := 69) h dL_law_57 (by decide) (q := 60) rfl hf8 (fun hc9 hf10 => ?_) (fun hc9 hf10 => ?_)
      · skip
        refine x_iconst (v := 0) h dL_law_69 (by decide) (q := 70) rfl ?_
        have hz := Option.some.inj hf10
        subst hz
        exact absurd ho Bool.false_ne_true
      · skip
        refine x_aload_n h dL_law_60 rfl 3 rfl (q := 61) rfl ?_
        refine x_iload_n h dL_law_61 rfl 1 rfl (q := 62) rfl ?_
        refine x_iload_n h dL_law_62 rfl 2 rfl (q := 63) rfl ?_
        obtain ⟨u11, hu11, hf12⟩ := bnd_inv hf10
        refine x_callSi (As := [.ref (gA g 65), .int x1, .int x2]) (rest := []) h hg (c_L_fails C.2.1 hg.2.1 u7.2 x1 x2 _ hu11) ml_L_127 biL_fails rfl rfl hdL_fails ⟨Nat.le_of_ble_eq_true rfl, Nat.le_of_ble_eq_true rfl⟩ rfl rfl (Nat.le_of_ble_eq_true rfl) dL_law_63 ?_
        refine x_if_ne (tgt := 71) h dL_law_66 (by decide) (q := 69) rfl hf12 (fun hc13 hf14 => ?_) (fun hc13 hf14 => ?_)
        · skip
          refine x_iconst (v := 0) h dL_law_71 (by decide) (q := 72) rfl ?_
          refine x_istore (lv' := [(4, .int 0), (0, .ref b), (1, .int x1), (2, .int x2), (3, .ref (gA g 65))]) h dL_law_72 hL (by decide) rfl (q := 74) rfl ?_
          refine x_sub (lv' := [(0, .ref b), (1, .int x1), (2, .int x2), (3, .ref (gA g 65)), (4, .int 0)]) [1, 2, 3, 4, 0] rfl ?_
          exact w_L_law_l74 b L xs x1 x2 o h hg hL hr hs ho  cFu (u11.2, 0) hf14
        · skip
          refine x_iconst (v := 0) h dL_law_69 (by decide) (q := 70) rfl ?_
          have hz := Option.some.inj hf14
          subst hz
          exact absurd ho Bool.false_ne_true
