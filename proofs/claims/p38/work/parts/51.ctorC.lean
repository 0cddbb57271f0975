/-! THE CONSTRUCTORS of the second system, of the steps and of the first system -/
theorem nAg_1 {n : Int32} (h : ¬ (1 : Int32) ≤ n) : nAg n = 1 := by
  unfold nAg
  have h1 : n < 4 := by
    rw [fa_lt]; rw [fa_le] at h
    rw [show (4 : Int32).toInt = 4 from by decide]; rw [show (1 : Int32).toInt = 1 from by decide] at h
    omega
  rw [if_pos h1, if_neg]
  rw [fa_lt]; rw [fa_le] at h
  omega
theorem nAg_n {n : Int32} (h : (1 : Int32) ≤ n) (h4 : n ≤ 4) : nAg n = n := by
  unfold nAg
  by_cases q : n < 4
  · rw [if_pos q]
    by_cases r : (1 : Int32) < n
    · rw [if_pos r]
    · rw [if_neg r]
      apply Int32.toInt_inj.mp
      rw [fa_lt] at r; rw [fa_le] at h
      omega
  · rw [if_neg q, if_pos (by decide)]
    apply Int32.toInt_inj.mp
    rw [fa_lt] at q; rw [fa_le] at h4
    omega
theorem nAg_4 {n : Int32} (_h : (1 : Int32) ≤ n) (h4 : ¬ n ≤ 4) : nAg n = 4 := by
  have h : ¬ n < 4 := fun q => h4 (by rw [fa_lt] at q; rw [fa_le]; omega)
  unfold nAg
  rw [if_neg h, if_pos (by decide)]
theorem nAg_in (n : Int32) : nAg n = 1 ∨ nAg n = 2 ∨ nAg n = 3 ∨ nAg n = 4 := by
  by_cases h1 : (1 : Int32) ≤ n
  · by_cases h4 : n ≤ 4
    · rw [nAg_n h1 h4]
      have e : ∀ k : Int32, k.toInt = n.toInt → n = k := fun k q => Int32.toInt_inj.mp q.symm
      rw [fa_le] at h1 h4
      rw [show (1 : Int32).toInt = 1 from by decide] at h1
      rw [show (4 : Int32).toInt = 4 from by decide] at h4
      have : n.toInt = 1 ∨ n.toInt = 2 ∨ n.toInt = 3 ∨ n.toInt = 4 := by omega
      rcases this with q | q | q | q
      · exact Or.inl (e 1 (by rw [q]; decide))
      · exact Or.inr (Or.inl (e 2 (by rw [q]; decide)))
      · exact Or.inr (Or.inr (Or.inl (e 3 (by rw [q]; decide))))
      · exact Or.inr (Or.inr (Or.inr (e 4 (by rw [q]; decide))))
    · exact Or.inr (Or.inr (Or.inr (nAg_4 h1 h4)))
  · exact Or.inl (nAg_1 h1)
abbrev rmcX6 : Room := { frames := 1, cells := 3, slots := 1389, locals := 25 }

/-- what the steps' first loops write -/
def ownF (i : Nat) : Nat → Int32 := fun k => if k < i then nI k else 0
def jpF (i : Nat) : Nat → Int32 := fun k => if k < i then nI (zpt 4 (nI (k / 81)) (k % 81)) else 0
theorem ownF_s (i : Nat) : upd (ownF i) i (nI i) = ownF (i + 1) := by
  funext k
  by_cases q : k = i
  · subst q; rw [pk_us]; unfold ownF; rw [if_pos (Nat.lt_succ_self k)]
  · rw [pk_un q]; unfold ownF
    by_cases r : k < i
    · rw [if_pos r, if_pos (by omega)]
    · rw [if_neg r, if_neg (by omega)]
theorem jpF_s (i : Nat) : upd (jpF i) i (nI (zpt 4 (nI (i / 81)) (i % 81))) = jpF (i + 1) := by
  funext k
  by_cases q : k = i
  · subst q; rw [pk_us]; unfold jpF; rw [if_pos (Nat.lt_succ_self k)]
  · rw [pk_un q]; unfold jpF
    by_cases r : k < i
    · rw [if_pos r, if_pos (by omega)]
    · rw [if_neg r, if_neg (by omega)]
theorem ownF_0 : (fun _ => 0) = ownF 0 := by funext k; unfold ownF; rw [if_neg (Nat.not_lt_zero k)]
theorem jpF_0 : (fun _ => 0) = jpF 0 := by funext k; unfold jpF; rw [if_neg (Nat.not_lt_zero k)]
section X6L
variable {p : Program} {l : Launch} {e : Env} {s : State} {m : MethodId} {args : Array Value} {below : List Frame} {meth : Method} {c : Code} {Q : State → Prop} {A : Nat → Prop} {d : cY} {h0 st q1 q2 q3 : Nat}
theorem x6_own (hx : p.tables.exec = Jvm.exec) (hb : c.code = cX6_init) (hts : ∀ w ∈ tG, w.before args s = true) (hown : s.vm.findClass RX6 = some m.cls) (hK : va_K d.1 vwCl (yTys d) s)
    (kk : ∀ (H : Heap) (locs : List Loc) (ls : Array Slot), va_P d.1 vwCl [(h0, .inr (5, [.ref st, .ref q1, .ref q2, .ref q3])), (q1, .inl (d.2.1, 1296, .inl (fun _ => 0))), (q2, .inl (d.2.1, 12, .inl (ownF 12))), (q3, .inl (d.2.1, 81, .inl (fun _ => 0)))] H → va_D A [(h0, .inr (5, [.ref st, .ref q1, .ref q2, .ref q3])), (q1, .inl (d.2.1, 1296, .inl (fun _ => 0))), (q2, .inl (d.2.1, 12, .inl (ownF 12))), (q3, .inl (d.2.1, 81, .inl (fun _ => 0)))] → va_S A s.heap H locs → lv_has ls 3 [(2, .int (nI 12)), (0, .ref h0), (1, .ref st)] → W p l e rmcX6 s m args below meth c H locs 3 1389 Q (F0 m 58 ls [])) :
    ∀ (n i : Nat), i + n = 12 → ∀ (H : Heap) (locs : List Loc) (ls : Array Slot), va_P d.1 vwCl [(h0, .inr (5, [.ref st, .ref q1, .ref q2, .ref q3])), (q1, .inl (d.2.1, 1296, .inl (fun _ => 0))), (q2, .inl (d.2.1, 12, .inl (ownF i))), (q3, .inl (d.2.1, 81, .inl (fun _ => 0)))] H → va_D A [(h0, .inr (5, [.ref st, .ref q1, .ref q2, .ref q3])), (q1, .inl (d.2.1, 1296, .inl (fun _ => 0))), (q2, .inl (d.2.1, 12, .inl (ownF i))), (q3, .inl (d.2.1, 81, .inl (fun _ => 0)))] → va_S A s.heap H locs → lv_has ls 3 [(2, .int (nI i)), (0, .ref h0), (1, .ref st)] → W p l e rmcX6 s m args below meth c H locs 3 1389 Q (F0 m 36 ls []) := by
  intro n
  induction n with
  | zero =>
    intro i hi H locs ls hP hD hS hl
    have : i = 12 := by omega
    subst this
    refine lv_iload_n hx hb dX6_init_36 rfl (lv_at hl 0 rfl) ?_
    refine lv_aload_n hx hb dX6_init_37 rfl (lv_at hl 1 rfl) ?_
    refine va_get (D := d.1) (ci := 5) (v := .ref q2) (C := RX6) (T := TX6) (N := 4) hx hb hts nn_X6 hown hK hP 0 rfl rfl 2 (by decide) (hts _ kf_X6_15) (fun _ h9 => h9) rfl dX6_init_38 ?_
    refine va_alen (v := 12) hx hb hK hP 2 0 rfl rfl rfl dX6_init_41 ?_
    refine lv_icmp_ge (tgt := 58) hx hb dX6_init_42 (by decide) (fun _ => ?_) (fun hc => absurd (show (12 : Int32) ≤ nI 12 by decide) hc)
    exact kk H locs ls hP hD hS hl
  | succ n ih =>
    intro i hi H locs ls hP hD hS hl
    refine lv_iload_n hx hb dX6_init_36 rfl (lv_at hl 0 rfl) ?_
    refine lv_aload_n hx hb dX6_init_37 rfl (lv_at hl 1 rfl) ?_
    refine va_get (D := d.1) (ci := 5) (v := .ref q2) (C := RX6) (T := TX6) (N := 4) hx hb hts nn_X6 hown hK hP 0 rfl rfl 2 (by decide) (hts _ kf_X6_15) (fun _ h9 => h9) rfl dX6_init_38 ?_
    refine va_alen (v := 12) hx hb hK hP 2 0 rfl rfl rfl dX6_init_41 ?_
    refine lv_icmp_ge (tgt := 58) hx hb dX6_init_42 (by decide) (fun hc => absurd hc (show ¬ (12 : Int32) ≤ nI i from znle (a := 12) (by decide) (by omega) (by omega))) (fun _ => ?_)
    refine lv_aload_n hx hb dX6_init_45 rfl (lv_at hl 1 rfl) ?_
    refine va_get (D := d.1) (ci := 5) (v := .ref q2) (C := RX6) (T := TX6) (N := 4) hx hb hts nn_X6 hown hK hP 0 rfl rfl 2 (by decide) (hts _ kf_X6_15) (fun _ h9 => h9) rfl dX6_init_46 ?_
    refine lv_iload_n hx hb dX6_init_49 rfl (lv_at hl 0 rfl) ?_
    refine lv_iload_n hx hb dX6_init_50 rfl (lv_at hl 0 rfl) ?_
    refine va_iast hx hb hK hP hD hS 2 0 rfl rfl (vp_in_nI (n := i) (N := 12) (by omega) (by decide)) dX6_init_51 (fun H locs hP hD hS => ?_)
    refine lv_iinc (v := nI (i + 1)) (lv' := [(2, .int (nI (i + 1))), (0, .ref h0), (1, .ref st)]) hx hb dX6_init_52 hl (k := 0) rfl (nI_1 i) (by decide) rfl (fun ls hl => ?_)
    refine lv_goto (tgt := 36) hx hb dX6_init_55 (by decide) ?_
    rw [nI_clamp (by omega), ownF_s] at hP hD
    exact ih (i + 1) (by omega) H locs ls hP hD hS hl
theorem x6_jp (hpt : ∀ x y : Nat, x < 16 → y < 81 → m_X6_partOf (nI x) (nI y) = some (nI (zpt 4 (nI x) y))) (hml : c.maxLocals = 3) (hx : p.tables.exec = Jvm.exec) (hb : c.code = cX6_init) (hts : ∀ w ∈ tG, w.before args s = true) (hown : s.vm.findClass RX6 = some m.cls) (hK : va_K d.1 vwCl (yTys d) s)
    (kk : ∀ (H : Heap) (locs : List Loc) (ls : Array Slot), va_P d.1 vwCl [(h0, .inr (5, [.ref st, .ref q1, .ref q2, .ref q3])), (q1, .inl (d.2.1, 1296, .inl (jpF 1296))), (q2, .inl (d.2.1, 12, .inl (ownF 12))), (q3, .inl (d.2.1, 81, .inl (fun _ => 0)))] H → va_D A [(h0, .inr (5, [.ref st, .ref q1, .ref q2, .ref q3])), (q1, .inl (d.2.1, 1296, .inl (jpF 1296))), (q2, .inl (d.2.1, 12, .inl (ownF 12))), (q3, .inl (d.2.1, 81, .inl (fun _ => 0)))] → va_S A s.heap H locs → lv_has ls 3 [(2, .int (nI 1296)), (0, .ref h0), (1, .ref st)] → W p l e rmcX6 s m args below meth c H locs 3 1389 Q (F0 m 92 ls [])) :
    ∀ (n i : Nat), i + n = 1296 → ∀ (H : Heap) (locs : List Loc) (ls : Array Slot), va_P d.1 vwCl [(h0, .inr (5, [.ref st, .ref q1, .ref q2, .ref q3])), (q1, .inl (d.2.1, 1296, .inl (jpF i))), (q2, .inl (d.2.1, 12, .inl (ownF 12))), (q3, .inl (d.2.1, 81, .inl (fun _ => 0)))] H → va_D A [(h0, .inr (5, [.ref st, .ref q1, .ref q2, .ref q3])), (q1, .inl (d.2.1, 1296, .inl (jpF i))), (q2, .inl (d.2.1, 12, .inl (ownF 12))), (q3, .inl (d.2.1, 81, .inl (fun _ => 0)))] → va_S A s.heap H locs → lv_has ls 3 [(2, .int (nI i)), (0, .ref h0), (1, .ref st)] → W p l e rmcX6 s m args below meth c H locs 3 1389 Q (F0 m 60 ls []) := by
  intro n
  induction n with
  | zero =>
    intro i hi H locs ls hP hD hS hl
    have : i = 1296 := by omega
    subst this
    refine lv_iload_n hx hb dX6_init_60 rfl (lv_at hl 0 rfl) ?_
    refine lv_aload_n hx hb dX6_init_61 rfl (lv_at hl 1 rfl) ?_
    refine va_get (D := d.1) (ci := 5) (v := .ref q1) (C := RX6) (T := TX6) (N := 4) hx hb hts nn_X6 hown hK hP 0 rfl rfl 1 (by decide) (hts _ kf_X6_9) (fun _ h9 => h9) rfl dX6_init_62 ?_
    refine va_alen (v := 1296) hx hb hK hP 1 0 rfl rfl rfl dX6_init_65 ?_
    refine lv_icmp_ge (tgt := 92) hx hb dX6_init_66 (by decide) (fun _ => ?_) (fun hc => absurd (show (1296 : Int32) ≤ nI 1296 by decide) hc)
    exact kk H locs ls hP hD hS hl
  | succ n ih =>
    intro i hi H locs ls hP hD hS hl
    refine lv_iload_n hx hb dX6_init_60 rfl (lv_at hl 0 rfl) ?_
    refine lv_aload_n hx hb dX6_init_61 rfl (lv_at hl 1 rfl) ?_
    refine va_get (D := d.1) (ci := 5) (v := .ref q1) (C := RX6) (T := TX6) (N := 4) hx hb hts nn_X6 hown hK hP 0 rfl rfl 1 (by decide) (hts _ kf_X6_9) (fun _ h9 => h9) rfl dX6_init_62 ?_
    refine va_alen (v := 1296) hx hb hK hP 1 0 rfl rfl rfl dX6_init_65 ?_
    refine lv_icmp_ge (tgt := 92) hx hb dX6_init_66 (by decide) (fun hc => absurd hc (show ¬ (1296 : Int32) ≤ nI i from znle (a := 1296) (by decide) (by omega) (by omega))) (fun _ => ?_)
    refine lv_aload_n hx hb dX6_init_69 rfl (lv_at hl 1 rfl) ?_
    refine va_get (D := d.1) (ci := 5) (v := .ref q1) (C := RX6) (T := TX6) (N := 4) hx hb hts nn_X6 hown hK hP 0 rfl rfl 1 (by decide) (hts _ kf_X6_9) (fun _ h9 => h9) rfl dX6_init_70 ?_
    refine lv_iload_n hx hb dX6_init_73 rfl (lv_at hl 0 rfl) ?_
    refine lv_iload_n hx hb dX6_init_74 rfl (lv_at hl 0 rfl) ?_
    refine lv_bipush (v := 81) hx hb dX6_init_75 (by decide) ?_
    refine lv_idiv hx hb dX6_init_77 (by decide) ?_
    refine lv_iload_n hx hb dX6_init_78 rfl (lv_at hl 0 rfl) ?_
    refine lv_bipush (v := 81) hx hb dX6_init_79 (by decide) ?_
    refine lv_irem hx hb dX6_init_81 (by decide) ?_
    have e1 : nI i / 81 = nI (i / 81) := pk_div (d := 81) (by omega) (by decide) (by decide)
    have e2 : nI i - nI i / 81 * 81 = nI (i % 81) := pk_rem (d := 81) (by omega) (by decide) (by decide)
    refine W.eq (g2 := F0 m 82 ls [.int (nI (i % 81)), .int (nI (i / 81)), .int (nI i), .ref q1]) (by rw [← e1, ← e2]) ?_
    have hC : XOk (p, l, e, rmcX6, s, m, args, below, meth, c, 3, 1389, 3, A) cX6_init RX6 tG rmcX6 := ⟨hx, hb, hml, hown, hts, rfl, Nat.le_refl _, Nat.le_refl _⟩
    have key : Xs (p, l, e, rmcX6, s, m, args, below, meth, c, 3, 1389, 3, A) (fun _ H => va_P d.1 vwCl [(h0, .inr (5, [.ref st, .ref q1, .ref q2, .ref q3])), (q1, .inl (d.2.1, 1296, .inl (jpF i))), (q2, .inl (d.2.1, 12, .inl (ownF 12))), (q3, .inl (d.2.1, 81, .inl (fun _ => 0)))] H ∧ va_D A [(h0, .inr (5, [.ref st, .ref q1, .ref q2, .ref q3])), (q1, .inl (d.2.1, 1296, .inl (jpF i))), (q2, .inl (d.2.1, 12, .inl (ownF 12))), (q3, .inl (d.2.1, 81, .inl (fun _ => 0)))]) Q (fun _ _ => 0) 82 [(2, .int (nI i)), (0, .ref h0), (1, .ref st)] [.int (nI (i % 81)), .int (nI (i / 81)), .int (nI i), .ref q1] := by
      refine x_callPi (As := [.int (nI (i / 81)), .int (nI (i % 81))]) (rest := [.int (nI i), .ref q1]) (n := 2) hC (c_X6_partOf l _ _ _ (hpt (i / 81) (i % 81) (by omega) (by omega))) ml_X6_25 biX6_partOf rfl rfl hdX6_partOf ⟨Nat.le_of_ble_eq_true rfl, Nat.le_of_ble_eq_true rfl⟩ rfl rfl (Nat.le_of_ble_eq_true rfl) dX6_init_82 ?_
      rintro H locs ls ⟨hP, hD⟩ hS hl
      have hl : lv_has ls 3 [(2, .int (nI i)), (0, .ref h0), (1, .ref st)] := hl
      have hS : va_S A s.heap H locs := hS
      refine va_iast hx hb hK hP hD hS 1 0 rfl rfl (vp_in_nI (n := i) (N := 1296) (by omega) (by decide)) dX6_init_85 (fun H locs hP hD hS => ?_)
      refine lv_iinc (v := nI (i + 1)) (lv' := [(2, .int (nI (i + 1))), (0, .ref h0), (1, .ref st)]) hx hb dX6_init_86 hl (k := 0) rfl (nI_1 i) (by decide) rfl (fun ls hl => ?_)
      refine lv_goto (tgt := 60) hx hb dX6_init_89 (by decide) ?_
      rw [nI_clamp (by omega), jpF_s] at hP hD
      exact ih (i + 1) (by omega) H locs ls hP hD hS hl
    exact key H locs ls ⟨hP, hD⟩ hS hl
end X6L
theorem x6_pt : ∀ x, x < 16 → ∀ y, y < 81 → m_X6_partOf (nI x) (nI y) = some (nI (zpt 4 (nI x) y)) := by decide +kernel
set_option maxHeartbeats 8000000 in
set_option maxRecDepth 100000 in
theorem c_X6_init (l : Launch) (d : cY) (h0 sz : Nat) (st : Nat) : Met l yX6_init (wT yX6_init cX6_init 3 none) rmcX6 (va_Pc [.ref h0, .ref st] (yPre d sz [(h0, .inr (5, [.null, .null, .null, .null]))])) (yQ d [(h0, .inr (5, [.null, .null, .null, .null]))] sz (fun u => [(h0, .inr (5, [.ref st, .ref (u 0), .ref (u 1), .ref (u 2)])), ((u 0), .inl (d.2.1, 1296, .inl (jpF 1296))), ((u 1), .inl (d.2.1, 12, .inl (ownF 12))), ((u 2), .inl (d.2.1, 81, .inl (fun _ => 0)))])) 3 1389 (va_A [(h0, .inr (5, [.null, .null, .null, .null]))] sz) := by
  refine Met.ofW (cc := cX6_init) (maxL := 3) (ret := none) plX6 rfl ?_
  intro p e s m args below meth c s₁ B hml hv
  obtain ⟨rfl, hsz, hP, hK, hD0, hOF, hOS⟩ := hv
  have hx := B.exec
  have hb := B.bytes
  have hr := B.returns
  have hts : ∀ w ∈ tG, w.before ([.ref h0, .ref st] : List Value).toArray s = true := fun w hw => atoms_spec (ws := wT yX6_init cX6_init 3 none) B.pre w (List.mem_cons_of_mem _ hw)
  have hown : s.vm.findClass RX6 = some m.cls := findClass_of_methodNamed B.named
  have hlocks := B.notSynchronized
  have hin : meth.name = "<init>" := (name_of_methodNamed B.named B.method).1
  subst hsz
  have hD := hD0.self (sz := s.heap.size)
  generalize hAe : va_A [(h0, .inr (5, [.null, .null, .null, .null]))] s.heap.size = A at hD ⊢
  have hA : ∀ q : Nat, s.heap.size ≤ q → A q := fun q h => by rw [← hAe]; exact Or.inr h
  have hS : va_S A s.heap s.heap [] := va_S.rf
  have hP : va_P d.1 vwCl [(h0, .inr (5, [.null, .null, .null, .null]))] s.heap := hP
  have hl := lv_entry ([.ref h0, .ref st]) (n := 3) (Nat.le_of_ble_eq_true rfl)
  rw [lg_entry_eq]
  generalize (lg_sl ([.ref h0, .ref st]) ++ List.replicate (3 - (lg_sl ([.ref h0, .ref st])).length) Slot.unset).toArray = ls at hl ⊢
  have hl : lv_has ls 3 [(0, .ref h0), (1, .ref st)] := hl
  refine lv_aload_n hx hb dX6_init_0 rfl (lv_at hl 0 rfl) ?_
  refine W.objInit hx hb hown (hts _ mo_X6) (hts _ ob_im) (hts _ ob_co) rfl (by rw [hml]; exact hl.1) rfl dX6_init_1 (Nat.le_of_ble_eq_true rfl) (Nat.le_of_ble_eq_true rfl) ?_
  refine W.eq (g2 := F0 m 4 ls []) rfl ?_
  refine lv_aload_n hx hb dX6_init_4 rfl (lv_at hl 0 rfl) ?_
  refine lv_sipush (v := 1296) hx hb dX6_init_5 (by decide) ?_
  refine y_newa (R := rmcX6) 1296 hx hb (hts _ ar_I) hK rfl hP hD hS hA (by decide) (by decide) (Nat.le_of_ble_eq_true rfl) (Nat.le_of_ble_eq_true rfl) (Nat.le_of_ble_eq_true rfl) dX6_init_8 (fun q1 H hP hD hS => ?_)
  have hP : va_P d.1 vwCl [(h0, .inr (5, [.null, .null, .null, .null])), (q1, .inl (d.2.1, 1296, .inl (fun _ => 0)))] H := hP
  have hD : va_D A [(h0, .inr (5, [.null, .null, .null, .null])), (q1, .inl (d.2.1, 1296, .inl (fun _ => 0)))] := hD
  refine W.widen (k := 1) (n := 1296) (Nat.le_of_ble_eq_true rfl) (Nat.le_of_ble_eq_true rfl) ?_
  refine va_putF (D := d.1) (ci := 5) (v := .ref q1) (ty := tyX6 1) (C := RX6) (T := TX6) (N := 4) hx hb hts nn_X6 tyX6 tyX6_ok nmX6 hown hK hP hD hS 0 rfl rfl 1 (by decide) (hts _ kf_X6_9) (fun _ h9 => h9) rfl hin rfl (by decide +kernel) rfl rfl (Nat.le_of_ble_eq_true rfl) dX6_init_10 (fun H locs hP hD hS => ?_)
  have hP : va_P d.1 vwCl [(h0, .inr (5, [.null, .ref q1, .null, .null])), (q1, .inl (d.2.1, 1296, .inl (fun _ => 0)))] H := hP
  have hD : va_D A [(h0, .inr (5, [.null, .ref q1, .null, .null])), (q1, .inl (d.2.1, 1296, .inl (fun _ => 0)))] := hD
  refine lv_aload_n hx hb dX6_init_13 rfl (lv_at hl 0 rfl) ?_
  refine lv_bipush (v := 12) hx hb dX6_init_14 (by decide) ?_
  refine y_newa (R := rmcX6) 12 hx hb (hts _ ar_I) hK rfl hP hD hS hA (by decide) (by decide) (Nat.le_of_ble_eq_true rfl) (Nat.le_of_ble_eq_true rfl) (Nat.le_of_ble_eq_true rfl) dX6_init_16 (fun q2 H hP hD hS => ?_)
  have hP : va_P d.1 vwCl [(h0, .inr (5, [.null, .ref q1, .null, .null])), (q1, .inl (d.2.1, 1296, .inl (fun _ => 0))), (q2, .inl (d.2.1, 12, .inl (fun _ => 0)))] H := hP
  have hD : va_D A [(h0, .inr (5, [.null, .ref q1, .null, .null])), (q1, .inl (d.2.1, 1296, .inl (fun _ => 0))), (q2, .inl (d.2.1, 12, .inl (fun _ => 0)))] := hD
  refine W.widen (k := 2) (n := 1308) (Nat.le_of_ble_eq_true rfl) (Nat.le_of_ble_eq_true rfl) ?_
  refine va_putF (D := d.1) (ci := 5) (v := .ref q2) (ty := tyX6 2) (C := RX6) (T := TX6) (N := 4) hx hb hts nn_X6 tyX6 tyX6_ok nmX6 hown hK hP hD hS 0 rfl rfl 2 (by decide) (hts _ kf_X6_15) (fun _ h9 => h9) rfl hin rfl (by decide +kernel) rfl rfl (Nat.le_of_ble_eq_true rfl) dX6_init_18 (fun H locs hP hD hS => ?_)
  have hP : va_P d.1 vwCl [(h0, .inr (5, [.null, .ref q1, .ref q2, .null])), (q1, .inl (d.2.1, 1296, .inl (fun _ => 0))), (q2, .inl (d.2.1, 12, .inl (fun _ => 0)))] H := hP
  have hD : va_D A [(h0, .inr (5, [.null, .ref q1, .ref q2, .null])), (q1, .inl (d.2.1, 1296, .inl (fun _ => 0))), (q2, .inl (d.2.1, 12, .inl (fun _ => 0)))] := hD
  refine lv_aload_n hx hb dX6_init_21 rfl (lv_at hl 0 rfl) ?_
  refine lv_bipush (v := 81) hx hb dX6_init_22 (by decide) ?_
  refine y_newa (R := rmcX6) 81 hx hb (hts _ ar_I) hK rfl hP hD hS hA (by decide) (by decide) (Nat.le_of_ble_eq_true rfl) (Nat.le_of_ble_eq_true rfl) (Nat.le_of_ble_eq_true rfl) dX6_init_24 (fun q3 H hP hD hS => ?_)
  have hP : va_P d.1 vwCl [(h0, .inr (5, [.null, .ref q1, .ref q2, .null])), (q1, .inl (d.2.1, 1296, .inl (fun _ => 0))), (q2, .inl (d.2.1, 12, .inl (fun _ => 0))), (q3, .inl (d.2.1, 81, .inl (fun _ => 0)))] H := hP
  have hD : va_D A [(h0, .inr (5, [.null, .ref q1, .ref q2, .null])), (q1, .inl (d.2.1, 1296, .inl (fun _ => 0))), (q2, .inl (d.2.1, 12, .inl (fun _ => 0))), (q3, .inl (d.2.1, 81, .inl (fun _ => 0)))] := hD
  refine W.widen (k := 3) (n := 1389) (Nat.le_of_ble_eq_true rfl) (Nat.le_of_ble_eq_true rfl) ?_
  refine va_putF (D := d.1) (ci := 5) (v := .ref q3) (ty := tyX6 3) (C := RX6) (T := TX6) (N := 4) hx hb hts nn_X6 tyX6 tyX6_ok nmX6 hown hK hP hD hS 0 rfl rfl 3 (by decide) (hts _ kf_X6_18) (fun _ h9 => h9) rfl hin rfl (by decide +kernel) rfl rfl (Nat.le_of_ble_eq_true rfl) dX6_init_26 (fun H locs hP hD hS => ?_)
  have hP : va_P d.1 vwCl [(h0, .inr (5, [.null, .ref q1, .ref q2, .ref q3])), (q1, .inl (d.2.1, 1296, .inl (fun _ => 0))), (q2, .inl (d.2.1, 12, .inl (fun _ => 0))), (q3, .inl (d.2.1, 81, .inl (fun _ => 0)))] H := hP
  have hD : va_D A [(h0, .inr (5, [.null, .ref q1, .ref q2, .ref q3])), (q1, .inl (d.2.1, 1296, .inl (fun _ => 0))), (q2, .inl (d.2.1, 12, .inl (fun _ => 0))), (q3, .inl (d.2.1, 81, .inl (fun _ => 0)))] := hD
  refine lv_aload_n hx hb dX6_init_29 rfl (lv_at hl 0 rfl) ?_
  refine lv_aload_n hx hb dX6_init_30 rfl (lv_at hl 1 rfl) ?_
  refine va_putF (D := d.1) (ci := 5) (v := .ref st) (ty := tyX6 0) (C := RX6) (T := TX6) (N := 4) hx hb hts nn_X6 tyX6 tyX6_ok nmX6 hown hK hP hD hS 0 rfl rfl 0 (by decide) (hts _ kf_X6_21) (fun _ h9 => h9) rfl hin rfl (by decide +kernel) rfl rfl (Nat.le_of_ble_eq_true rfl) dX6_init_31 (fun H locs hP hD hS => ?_)
  have hP : va_P d.1 vwCl [(h0, .inr (5, [.ref st, .ref q1, .ref q2, .ref q3])), (q1, .inl (d.2.1, 1296, .inl (fun _ => 0))), (q2, .inl (d.2.1, 12, .inl (fun _ => 0))), (q3, .inl (d.2.1, 81, .inl (fun _ => 0)))] H := hP
  have hD : va_D A [(h0, .inr (5, [.ref st, .ref q1, .ref q2, .ref q3])), (q1, .inl (d.2.1, 1296, .inl (fun _ => 0))), (q2, .inl (d.2.1, 12, .inl (fun _ => 0))), (q3, .inl (d.2.1, 81, .inl (fun _ => 0)))] := hD
  refine lv_iconst (v := 0) hx hb dX6_init_34 (by decide) ?_
  refine lv_istore_n (lv' := [(2, .int 0), (0, .ref h0), (1, .ref st)]) hx hb dX6_init_35 rfl hl (by decide) rfl (fun ls hl => ?_)
  have hP : va_P d.1 vwCl [(h0, .inr (5, [.ref st, .ref q1, .ref q2, .ref q3])), (q1, .inl (d.2.1, 1296, .inl (fun _ => 0))), (q2, .inl (d.2.1, 12, .inl (ownF 0))), (q3, .inl (d.2.1, 81, .inl (fun _ => 0)))] H := by rw [← ownF_0]; exact hP
  have hD : va_D A [(h0, .inr (5, [.ref st, .ref q1, .ref q2, .ref q3])), (q1, .inl (d.2.1, 1296, .inl (fun _ => 0))), (q2, .inl (d.2.1, 12, .inl (ownF 0))), (q3, .inl (d.2.1, 81, .inl (fun _ => 0)))] := by rw [← ownF_0]; exact hD
  refine x6_own hx hb hts hown hK (fun H locs ls hP hD hS hl => ?_) 12 0 rfl _ _ _ hP hD hS hl
  refine lv_iconst (v := 0) hx hb dX6_init_58 (by decide) ?_
  refine lv_istore_n (lv' := [(2, .int (nI 0)), (0, .ref h0), (1, .ref st)]) hx hb dX6_init_59 rfl hl (by decide) rfl (fun ls hl => ?_)
  have hP : va_P d.1 vwCl [(h0, .inr (5, [.ref st, .ref q1, .ref q2, .ref q3])), (q1, .inl (d.2.1, 1296, .inl (jpF 0))), (q2, .inl (d.2.1, 12, .inl (ownF 12))), (q3, .inl (d.2.1, 81, .inl (fun _ => 0)))] H := by rw [← jpF_0]; exact hP
  have hD : va_D A [(h0, .inr (5, [.ref st, .ref q1, .ref q2, .ref q3])), (q1, .inl (d.2.1, 1296, .inl (jpF 0))), (q2, .inl (d.2.1, 12, .inl (ownF 12))), (q3, .inl (d.2.1, 81, .inl (fun _ => 0)))] := by rw [← jpF_0]; exact hD
  refine x6_jp (fun x y h1 h2 => x6_pt x h1 y h2) hml hx hb hts hown hK (fun H locs ls hP hD hS hl => ?_) 1296 0 rfl _ _ _ hP hD hS hl
  have hP9 := hP.sub (ws' := [(h0, .inr (5, [.ref st, .ref q1, .ref q2, .ref q3])), (q1, .inl (d.2.1, 1296, .inl (jpF 1296))), (q2, .inl (d.2.1, 12, .inl (ownF 12))), (q3, .inl (d.2.1, 81, .inl (fun _ => 0)))]) [0, 1, 2, 3] rfl
  have hD9 := hD.sub (ws' := [(h0, .inr (5, [.ref st, .ref q1, .ref q2, .ref q3])), (q1, .inl (d.2.1, 1296, .inl (jpF 1296))), (q2, .inl (d.2.1, 12, .inl (ownF 12))), (q3, .inl (d.2.1, 81, .inl (fun _ => 0)))]) [0, 1, 2, 3] (by decide) rfl
  exact W.vret hx hb hr (fun t ht hW => ⟨⟨(fun i : Nat => if i = 0 then q1 else if i = 1 then q2 else if i = 2 then q3 else 0), rfl, trivial, by rw [ht]; exact hP9, va_K.moved hW.alike hK, by rw [hAe]; exact hD9⟩, by rw [hAe]; exact hS.F ht⟩) hS.2.2 dX6_init_92
