/-! THE WORLD after both constructors, in the order of the cells -/
def W9 (d : cY) (n : Int32) (h0 : Nat) (u : Nat → Nat) : va_W := [(h0, .inr (8, [.ref (u 1), .ref (u 6), .ref (u 28), .ref (u 32), .ref (u 37), .ref (u 40), .ref (u 41), .ref (u 0), .int 0])), ((u 0), .inl (d.2.2.1, 8, .inr (.inr (.inr (.inr (va_up (va_up (va_up (va_up (va_up (va_up (va_up (va_up (fun _ => none) 0 (some (u 46))) 1 (some (u 51))) 2 (some (u 56))) 3 (some (u 61))) 4 (some (u 66))) 5 (some (u 71))) 6 (some (u 76))) 7 (some (u 81)))))))), ((u 1), .inr (6, [.int (nAg n), .int ((1 : Int32) <<< (((nAg n) : Int32) &&& 31)), .int (p3 (nAg n)), .ref (u 2), .ref (u 3), .ref (u 4), .ref (u 5), .int 0])), ((u 2), .inl (d.2.1, 12, .inl (fun _ => 0))), ((u 3), .inl (d.2.1, 48, .inl (fun _ => 0))), ((u 4), .inl (d.2.1, 48, .inl (fun _ => 0))), ((u 5), .inl (d.2.1, 972, .inl (fun _ => 0))), ((u 6), .inr (1, [.ref (u 7), .int 0, .int 0])), ((u 7), .inl (d.2.2.2, 4, .inr (.inr (.inr (.inr (va_up (va_up (va_up (va_up (fun _ => none) 0 (some (u 8))) 1 (some (u 13))) 2 (some (u 18))) 3 (some (u 23)))))))), ((u 8), .inr (6, [.int (nAg n), .int ((1 : Int32) <<< (((nAg n) : Int32) &&& 31)), .int (p3 (nAg n)), .ref (u 9), .ref (u 10), .ref (u 11), .ref (u 12), .int 0])), ((u 9), .inl (d.2.1, 12, .inl (fun _ => 0))), ((u 10), .inl (d.2.1, 48, .inl (fun _ => 0))), ((u 11), .inl (d.2.1, 48, .inl (fun _ => 0))), ((u 12), .inl (d.2.1, 972, .inl (fun _ => 0))), ((u 13), .inr (6, [.int (nAg n), .int ((1 : Int32) <<< (((nAg n) : Int32) &&& 31)), .int (p3 (nAg n)), .ref (u 14), .ref (u 15), .ref (u 16), .ref (u 17), .int 0])), ((u 14), .inl (d.2.1, 12, .inl (fun _ => 0))), ((u 15), .inl (d.2.1, 48, .inl (fun _ => 0))), ((u 16), .inl (d.2.1, 48, .inl (fun _ => 0))), ((u 17), .inl (d.2.1, 972, .inl (fun _ => 0))), ((u 18), .inr (6, [.int (nAg n), .int ((1 : Int32) <<< (((nAg n) : Int32) &&& 31)), .int (p3 (nAg n)), .ref (u 19), .ref (u 20), .ref (u 21), .ref (u 22), .int 0])), ((u 19), .inl (d.2.1, 12, .inl (fun _ => 0))), ((u 20), .inl (d.2.1, 48, .inl (fun _ => 0))), ((u 21), .inl (d.2.1, 48, .inl (fun _ => 0))), ((u 22), .inl (d.2.1, 972, .inl (fun _ => 0))), ((u 23), .inr (6, [.int (nAg n), .int ((1 : Int32) <<< (((nAg n) : Int32) &&& 31)), .int (p3 (nAg n)), .ref (u 24), .ref (u 25), .ref (u 26), .ref (u 27), .int 0])), ((u 24), .inl (d.2.1, 12, .inl (fun _ => 0))), ((u 25), .inl (d.2.1, 48, .inl (fun _ => 0))), ((u 26), .inl (d.2.1, 48, .inl (fun _ => 0))), ((u 27), .inl (d.2.1, 972, .inl (fun _ => 0))), ((u 28), .inr (5, [.ref (u 1), .ref (u 29), .ref (u 30), .ref (u 31)])), ((u 29), .inl (d.2.1, 1296, .inl (jpF 1296))), ((u 30), .inl (d.2.1, 12, .inl (ownF 12))), ((u 31), .inl (d.2.1, 81, .inl (fun _ => 0))), ((u 32), .inr (4, [.int (nAg n), .ref (u 33), .ref (u 34), .ref (u 35), .ref (u 36), .int 0, .int 0, .int 0, .int 0, .int 0, .int 0, .null])), ((u 33), .inl (d.2.1, 60, .inl (fun _ => 0))), ((u 34), .inl (d.2.1, 60, .inl (fun _ => 0))), ((u 35), .inl (d.2.1, 60, .inl (fun _ => 0))), ((u 36), .inl (d.2.1, 60, .inl (fun _ => 0))), ((u 37), .inr (3, [.ref (u 1), .ref (u 28), .ref (u 38), .ref (u 39)])), ((u 38), .inl (d.2.1, 60, .inl (fun _ => 0))), ((u 39), .inl (d.2.1, 12, .inl (fun _ => 0))), ((u 40), .inr (7, [.ref (u 1), .ref (u 28), .ref (u 37), .int 0])), ((u 41), .inr (2, [.ref (u 1), .ref (u 28), .ref (u 42), .ref (u 43), .ref (u 44), .ref (u 45)])), ((u 42), .inl (d.2.1, 12, .inl (fun _ => 0))), ((u 43), .inl (d.2.1, 12, .inl (fun _ => 0))), ((u 44), .inl (d.2.1, 81, .inl (fun _ => 0))), ((u 45), .inl (d.2.1, 81, .inl (fun _ => 0))), ((u 46), .inr (0, [.ref (u 47), .ref (u 48), .ref (u 49), .ref (u 50), .int 0])), ((u 47), .inl (d.2.1, 60, .inl (fun _ => 0))), ((u 48), .inl (d.2.1, 60, .inl (fun _ => 0))), ((u 49), .inl (d.2.1, 60, .inl (fun _ => 0))), ((u 50), .inl (d.2.1, 60, .inl (fun _ => 0))), ((u 51), .inr (0, [.ref (u 52), .ref (u 53), .ref (u 54), .ref (u 55), .int 0])), ((u 52), .inl (d.2.1, 60, .inl (fun _ => 0))), ((u 53), .inl (d.2.1, 60, .inl (fun _ => 0))), ((u 54), .inl (d.2.1, 60, .inl (fun _ => 0))), ((u 55), .inl (d.2.1, 60, .inl (fun _ => 0))), ((u 56), .inr (0, [.ref (u 57), .ref (u 58), .ref (u 59), .ref (u 60), .int 0])), ((u 57), .inl (d.2.1, 60, .inl (fun _ => 0))), ((u 58), .inl (d.2.1, 60, .inl (fun _ => 0))), ((u 59), .inl (d.2.1, 60, .inl (fun _ => 0))), ((u 60), .inl (d.2.1, 60, .inl (fun _ => 0))), ((u 61), .inr (0, [.ref (u 62), .ref (u 63), .ref (u 64), .ref (u 65), .int 0])), ((u 62), .inl (d.2.1, 60, .inl (fun _ => 0))), ((u 63), .inl (d.2.1, 60, .inl (fun _ => 0))), ((u 64), .inl (d.2.1, 60, .inl (fun _ => 0))), ((u 65), .inl (d.2.1, 60, .inl (fun _ => 0))), ((u 66), .inr (0, [.ref (u 67), .ref (u 68), .ref (u 69), .ref (u 70), .int 0])), ((u 67), .inl (d.2.1, 60, .inl (fun _ => 0))), ((u 68), .inl (d.2.1, 60, .inl (fun _ => 0))), ((u 69), .inl (d.2.1, 60, .inl (fun _ => 0))), ((u 70), .inl (d.2.1, 60, .inl (fun _ => 0))), ((u 71), .inr (0, [.ref (u 72), .ref (u 73), .ref (u 74), .ref (u 75), .int 0])), ((u 72), .inl (d.2.1, 60, .inl (fun _ => 0))), ((u 73), .inl (d.2.1, 60, .inl (fun _ => 0))), ((u 74), .inl (d.2.1, 60, .inl (fun _ => 0))), ((u 75), .inl (d.2.1, 60, .inl (fun _ => 0))), ((u 76), .inr (0, [.ref (u 77), .ref (u 78), .ref (u 79), .ref (u 80), .int 0])), ((u 77), .inl (d.2.1, 60, .inl (fun _ => 0))), ((u 78), .inl (d.2.1, 60, .inl (fun _ => 0))), ((u 79), .inl (d.2.1, 60, .inl (fun _ => 0))), ((u 80), .inl (d.2.1, 60, .inl (fun _ => 0))), ((u 81), .inr (0, [.ref (u 82), .ref (u 83), .ref (u 84), .ref (u 85), .int 0])), ((u 82), .inl (d.2.1, 60, .inl (fun _ => 0))), ((u 83), .inl (d.2.1, 60, .inl (fun _ => 0))), ((u 84), .inl (d.2.1, 60, .inl (fun _ => 0))), ((u 85), .inl (d.2.1, 60, .inl (fun _ => 0)))]
def adF (h0 : Nat) (u : Nat → Nat) : Nat → Nat := fun k => match k with
  | 0 => u 1
  | 1 => u 2
  | 2 => u 3
  | 3 => u 4
  | 4 => u 5
  | 5 => u 8
  | 6 => u 9
  | 7 => u 10
  | 8 => u 11
  | 9 => u 12
  | 10 => u 13
  | 11 => u 14
  | 12 => u 15
  | 13 => u 16
  | 14 => u 17
  | 15 => u 18
  | 16 => u 19
  | 17 => u 20
  | 18 => u 21
  | 19 => u 22
  | 20 => u 23
  | 21 => u 24
  | 22 => u 25
  | 23 => u 26
  | 24 => u 27
  | 25 => u 46
  | 26 => u 47
  | 27 => u 48
  | 28 => u 49
  | 29 => u 50
  | 30 => u 51
  | 31 => u 52
  | 32 => u 53
  | 33 => u 54
  | 34 => u 55
  | 35 => u 56
  | 36 => u 57
  | 37 => u 58
  | 38 => u 59
  | 39 => u 60
  | 40 => u 61
  | 41 => u 62
  | 42 => u 63
  | 43 => u 64
  | 44 => u 65
  | 45 => u 66
  | 46 => u 67
  | 47 => u 68
  | 48 => u 69
  | 49 => u 70
  | 50 => u 71
  | 51 => u 72
  | 52 => u 73
  | 53 => u 74
  | 54 => u 75
  | 55 => u 76
  | 56 => u 77
  | 57 => u 78
  | 58 => u 79
  | 59 => u 80
  | 60 => u 81
  | 61 => u 82
  | 62 => u 83
  | 63 => u 84
  | 64 => u 85
  | 65 => h0
  | 66 => u 0
  | 67 => u 6
  | 68 => u 7
  | 69 => u 28
  | 70 => u 29
  | 71 => u 30
  | 72 => u 31
  | 73 => u 32
  | 74 => u 33
  | 75 => u 34
  | 76 => u 35
  | 77 => u 36
  | 78 => u 37
  | 79 => u 38
  | 80 => u 39
  | 81 => u 40
  | 82 => u 41
  | 83 => u 42
  | 84 => u 43
  | 85 => u 44
  | 86 => u 45
  | _ => 0
def g0 (d : cY) (h0 : Nat) (u : Nat → Nat) : cG := (d.1, d.2, adF h0 u)
def stR (n : Int32) : Nat → Int32 := fun j => match j with
  | 0 => nAg n
  | 1 => (1 : Int32) <<< (((nAg n) : Int32) &&& 31)
  | 2 => p3 (nAg n)
  | _ => 0
def agR (n : Int32) : Nat → Int32 := fun j => match j with
  | 0 => nAg n
  | _ => 0
def s0 (n : Int32) : St := fun k => match k with
  | 0 => stR n
  | 5 => stR n
  | 10 => stR n
  | 15 => stR n
  | 20 => stR n
  | 70 => jpF 1296
  | 71 => ownF 12
  | 73 => agR n
  | 87 => agR n
  | _ => fun _ => 0
def pmF : Nat → Nat := fun k => match k with
  | 0 => 2
  | 1 => 3
  | 2 => 4
  | 3 => 5
  | 4 => 6
  | 5 => 9
  | 6 => 10
  | 7 => 11
  | 8 => 12
  | 9 => 13
  | 10 => 14
  | 11 => 15
  | 12 => 16
  | 13 => 17
  | 14 => 18
  | 15 => 19
  | 16 => 20
  | 17 => 21
  | 18 => 22
  | 19 => 23
  | 20 => 24
  | 21 => 25
  | 22 => 26
  | 23 => 27
  | 24 => 28
  | 25 => 47
  | 26 => 48
  | 27 => 49
  | 28 => 50
  | 29 => 51
  | 30 => 52
  | 31 => 53
  | 32 => 54
  | 33 => 55
  | 34 => 56
  | 35 => 57
  | 36 => 58
  | 37 => 59
  | 38 => 60
  | 39 => 61
  | 40 => 62
  | 41 => 63
  | 42 => 64
  | 43 => 65
  | 44 => 66
  | 45 => 67
  | 46 => 68
  | 47 => 69
  | 48 => 70
  | 49 => 71
  | 50 => 72
  | 51 => 73
  | 52 => 74
  | 53 => 75
  | 54 => 76
  | 55 => 77
  | 56 => 78
  | 57 => 79
  | 58 => 80
  | 59 => 81
  | 60 => 82
  | 61 => 83
  | 62 => 84
  | 63 => 85
  | 64 => 86
  | 65 => 0
  | 66 => 1
  | 67 => 7
  | 68 => 8
  | 69 => 29
  | 70 => 30
  | 71 => 31
  | 72 => 32
  | 73 => 33
  | 74 => 34
  | 75 => 35
  | 76 => 36
  | 77 => 37
  | 78 => 38
  | 79 => 39
  | 80 => 40
  | 81 => 41
  | 82 => 42
  | 83 => 43
  | 84 => 44
  | 85 => 45
  | 86 => 46
  | _ => 0
theorem pmF_lt : ∀ k, k < 87 → pmF k < 87 := by decide +kernel
theorem pmF_inj : ∀ i, i < 87 → ∀ j, j < 87 → pmF i = pmF j → i = j := by decide +kernel
section W0
variable {d : cY} {n : Int32} {h0 : Nat} {u : Nat → Nat} {H : Heap}
theorem e66 : (va_up (va_up (va_up (va_up (va_up (va_up (va_up (va_up (fun _ => none) 0 (some (u 46))) 1 (some (u 51))) 2 (some (u 56))) 3 (some (u 61))) 4 (some (u 66))) 5 (some (u 71))) 6 (some (u 76))) 7 (some (u 81))) = fun i => if i < 8 then some (adF h0 u (25 + 5 * i)) else none := by
  funext i
  match i with
  | 0 => rfl
  | 1 => rfl
  | 2 => rfl
  | 3 => rfl
  | 4 => rfl
  | 5 => rfl
  | 6 => rfl
  | 7 => rfl
  | i + 8 => simp [va_up]
theorem e68 : (va_up (va_up (va_up (va_up (fun _ => none) 0 (some (u 8))) 1 (some (u 13))) 2 (some (u 18))) 3 (some (u 23))) = fun i => if i < 4 then some (adF h0 u (5 + 5 * i)) else none := by
  funext i
  match i with
  | 0 => rfl
  | 1 => rfl
  | 2 => rfl
  | 3 => rfl
  | i + 4 => simp [va_up]

set_option maxHeartbeats 8000000 in
set_option maxRecDepth 100000 in
theorem w0_at (hP : va_P d.1 vwCl (W9 d n h0 u) H) : ∀ k, k < 87 → va_at d.1 vwCl (gA (g0 d h0 u) k, cE (g0 d h0 u) k (s0 n k)) H := by
  intro k hk
  match k, hk with
  | 0, _ => exact hP 2 _ rfl
  | 1, _ => exact hP 3 _ rfl
  | 2, _ => exact hP 4 _ rfl
  | 3, _ => exact hP 5 _ rfl
  | 4, _ => exact hP 6 _ rfl
  | 5, _ => exact hP 9 _ rfl
  | 6, _ => exact hP 10 _ rfl
  | 7, _ => exact hP 11 _ rfl
  | 8, _ => exact hP 12 _ rfl
  | 9, _ => exact hP 13 _ rfl
  | 10, _ => exact hP 14 _ rfl
  | 11, _ => exact hP 15 _ rfl
  | 12, _ => exact hP 16 _ rfl
  | 13, _ => exact hP 17 _ rfl
  | 14, _ => exact hP 18 _ rfl
  | 15, _ => exact hP 19 _ rfl
  | 16, _ => exact hP 20 _ rfl
  | 17, _ => exact hP 21 _ rfl
  | 18, _ => exact hP 22 _ rfl
  | 19, _ => exact hP 23 _ rfl
  | 20, _ => exact hP 24 _ rfl
  | 21, _ => exact hP 25 _ rfl
  | 22, _ => exact hP 26 _ rfl
  | 23, _ => exact hP 27 _ rfl
  | 24, _ => exact hP 28 _ rfl
  | 25, _ => exact hP 47 _ rfl
  | 26, _ => exact hP 48 _ rfl
  | 27, _ => exact hP 49 _ rfl
  | 28, _ => exact hP 50 _ rfl
  | 29, _ => exact hP 51 _ rfl
  | 30, _ => exact hP 52 _ rfl
  | 31, _ => exact hP 53 _ rfl
  | 32, _ => exact hP 54 _ rfl
  | 33, _ => exact hP 55 _ rfl
  | 34, _ => exact hP 56 _ rfl
  | 35, _ => exact hP 57 _ rfl
  | 36, _ => exact hP 58 _ rfl
  | 37, _ => exact hP 59 _ rfl
  | 38, _ => exact hP 60 _ rfl
  | 39, _ => exact hP 61 _ rfl
  | 40, _ => exact hP 62 _ rfl
  | 41, _ => exact hP 63 _ rfl
  | 42, _ => exact hP 64 _ rfl
  | 43, _ => exact hP 65 _ rfl
  | 44, _ => exact hP 66 _ rfl
  | 45, _ => exact hP 67 _ rfl
  | 46, _ => exact hP 68 _ rfl
  | 47, _ => exact hP 69 _ rfl
  | 48, _ => exact hP 70 _ rfl
  | 49, _ => exact hP 71 _ rfl
  | 50, _ => exact hP 72 _ rfl
  | 51, _ => exact hP 73 _ rfl
  | 52, _ => exact hP 74 _ rfl
  | 53, _ => exact hP 75 _ rfl
  | 54, _ => exact hP 76 _ rfl
  | 55, _ => exact hP 77 _ rfl
  | 56, _ => exact hP 78 _ rfl
  | 57, _ => exact hP 79 _ rfl
  | 58, _ => exact hP 80 _ rfl
  | 59, _ => exact hP 81 _ rfl
  | 60, _ => exact hP 82 _ rfl
  | 61, _ => exact hP 83 _ rfl
  | 62, _ => exact hP 84 _ rfl
  | 63, _ => exact hP 85 _ rfl
  | 64, _ => exact hP 86 _ rfl
  | 65, _ => exact hP 0 _ rfl
  | 66, _ =>
    have h := hP 1 _ rfl
    rw [e66 (h0 := h0)] at h
    exact h
  | 67, _ => exact hP 7 _ rfl
  | 68, _ =>
    have h := hP 8 _ rfl
    rw [e68 (h0 := h0)] at h
    exact h
  | 69, _ => exact hP 29 _ rfl
  | 70, _ => exact hP 30 _ rfl
  | 71, _ => exact hP 31 _ rfl
  | 72, _ => exact hP 32 _ rfl
  | 73, _ => exact hP 33 _ rfl
  | 74, _ => exact hP 34 _ rfl
  | 75, _ => exact hP 35 _ rfl
  | 76, _ => exact hP 36 _ rfl
  | 77, _ => exact hP 37 _ rfl
  | 78, _ => exact hP 38 _ rfl
  | 79, _ => exact hP 39 _ rfl
  | 80, _ => exact hP 40 _ rfl
  | 81, _ => exact hP 41 _ rfl
  | 82, _ => exact hP 42 _ rfl
  | 83, _ => exact hP 43 _ rfl
  | 84, _ => exact hP 44 _ rfl
  | 85, _ => exact hP 45 _ rfl
  | 86, _ => exact hP 46 _ rfl
  | k + 87, h => exact absurd h (by omega)
theorem w0_W (hP : va_P d.1 vwCl (W9 d n h0 u) H) : wW (g0 d h0 u) (s0 n) H := fun k q hq => by
  obtain ⟨hk, rfl⟩ := wl_some hq
  exact w0_at hP k hk
set_option maxHeartbeats 8000000 in
set_option maxRecDepth 100000 in
theorem w0_p : ∀ k, k < 87 → ∃ e, (W9 d n h0 u)[pmF k]? = some (adF h0 u k, e) := by
  intro k hk
  match k, hk with
  | 0, _ => exact ⟨_, rfl⟩
  | 1, _ => exact ⟨_, rfl⟩
  | 2, _ => exact ⟨_, rfl⟩
  | 3, _ => exact ⟨_, rfl⟩
  | 4, _ => exact ⟨_, rfl⟩
  | 5, _ => exact ⟨_, rfl⟩
  | 6, _ => exact ⟨_, rfl⟩
  | 7, _ => exact ⟨_, rfl⟩
  | 8, _ => exact ⟨_, rfl⟩
  | 9, _ => exact ⟨_, rfl⟩
  | 10, _ => exact ⟨_, rfl⟩
  | 11, _ => exact ⟨_, rfl⟩
  | 12, _ => exact ⟨_, rfl⟩
  | 13, _ => exact ⟨_, rfl⟩
  | 14, _ => exact ⟨_, rfl⟩
  | 15, _ => exact ⟨_, rfl⟩
  | 16, _ => exact ⟨_, rfl⟩
  | 17, _ => exact ⟨_, rfl⟩
  | 18, _ => exact ⟨_, rfl⟩
  | 19, _ => exact ⟨_, rfl⟩
  | 20, _ => exact ⟨_, rfl⟩
  | 21, _ => exact ⟨_, rfl⟩
  | 22, _ => exact ⟨_, rfl⟩
  | 23, _ => exact ⟨_, rfl⟩
  | 24, _ => exact ⟨_, rfl⟩
  | 25, _ => exact ⟨_, rfl⟩
  | 26, _ => exact ⟨_, rfl⟩
  | 27, _ => exact ⟨_, rfl⟩
  | 28, _ => exact ⟨_, rfl⟩
  | 29, _ => exact ⟨_, rfl⟩
  | 30, _ => exact ⟨_, rfl⟩
  | 31, _ => exact ⟨_, rfl⟩
  | 32, _ => exact ⟨_, rfl⟩
  | 33, _ => exact ⟨_, rfl⟩
  | 34, _ => exact ⟨_, rfl⟩
  | 35, _ => exact ⟨_, rfl⟩
  | 36, _ => exact ⟨_, rfl⟩
  | 37, _ => exact ⟨_, rfl⟩
  | 38, _ => exact ⟨_, rfl⟩
  | 39, _ => exact ⟨_, rfl⟩
  | 40, _ => exact ⟨_, rfl⟩
  | 41, _ => exact ⟨_, rfl⟩
  | 42, _ => exact ⟨_, rfl⟩
  | 43, _ => exact ⟨_, rfl⟩
  | 44, _ => exact ⟨_, rfl⟩
  | 45, _ => exact ⟨_, rfl⟩
  | 46, _ => exact ⟨_, rfl⟩
  | 47, _ => exact ⟨_, rfl⟩
  | 48, _ => exact ⟨_, rfl⟩
  | 49, _ => exact ⟨_, rfl⟩
  | 50, _ => exact ⟨_, rfl⟩
  | 51, _ => exact ⟨_, rfl⟩
  | 52, _ => exact ⟨_, rfl⟩
  | 53, _ => exact ⟨_, rfl⟩
  | 54, _ => exact ⟨_, rfl⟩
  | 55, _ => exact ⟨_, rfl⟩
  | 56, _ => exact ⟨_, rfl⟩
  | 57, _ => exact ⟨_, rfl⟩
  | 58, _ => exact ⟨_, rfl⟩
  | 59, _ => exact ⟨_, rfl⟩
  | 60, _ => exact ⟨_, rfl⟩
  | 61, _ => exact ⟨_, rfl⟩
  | 62, _ => exact ⟨_, rfl⟩
  | 63, _ => exact ⟨_, rfl⟩
  | 64, _ => exact ⟨_, rfl⟩
  | 65, _ => exact ⟨_, rfl⟩
  | 66, _ => exact ⟨_, rfl⟩
  | 67, _ => exact ⟨_, rfl⟩
  | 68, _ => exact ⟨_, rfl⟩
  | 69, _ => exact ⟨_, rfl⟩
  | 70, _ => exact ⟨_, rfl⟩
  | 71, _ => exact ⟨_, rfl⟩
  | 72, _ => exact ⟨_, rfl⟩
  | 73, _ => exact ⟨_, rfl⟩
  | 74, _ => exact ⟨_, rfl⟩
  | 75, _ => exact ⟨_, rfl⟩
  | 76, _ => exact ⟨_, rfl⟩
  | 77, _ => exact ⟨_, rfl⟩
  | 78, _ => exact ⟨_, rfl⟩
  | 79, _ => exact ⟨_, rfl⟩
  | 80, _ => exact ⟨_, rfl⟩
  | 81, _ => exact ⟨_, rfl⟩
  | 82, _ => exact ⟨_, rfl⟩
  | 83, _ => exact ⟨_, rfl⟩
  | 84, _ => exact ⟨_, rfl⟩
  | 85, _ => exact ⟨_, rfl⟩
  | 86, _ => exact ⟨_, rfl⟩
  | k + 87, h => exact absurd h (by omega)
theorem w0_inj {A : Nat → Prop} (hD : va_D A (W9 d n h0 u)) : gInj (g0 d h0 u) := by
  intro i j hi hj e
  obtain ⟨x, hx⟩ := w0_p (d := d) (n := n) (h0 := h0) (u := u) i hi
  obtain ⟨y, hy⟩ := w0_p (d := d) (n := n) (h0 := h0) (u := u) j hj
  exact pmF_inj i hi j hj (hD.1 _ _ _ _ hx hy e)
theorem w0_A {A : Nat → Prop} (hD : va_D A (W9 d n h0 u)) : ∀ q, cA (g0 d h0 u) q → A q := by
  rintro q ⟨k, hk, rfl⟩
  obtain ⟨x, hx⟩ := w0_p (d := d) (n := n) (h0 := h0) (u := u) k hk
  exact hD.2 _ _ hx
end W0

theorem w0_I {a : Nat} (h1 : 1 ≤ a) (h3 : a ≤ 3) : PI a 0 (fun _ => 0) 0 (fun _ _ => 0) 0 (s0 (nI a)) ∧ tx (s0 (nI a)) [] := by
  have ea : a = 1 ∨ a = 2 ∨ a = 3 := by omega
  have e : nAg (nI a) = nI a := by rcases ea with rfl | rfl | rfl <;> decide
  refine ⟨⟨⟨h1, by omega, e, ?_, ?_, e, e, fun s hs => ?_, fun c m hc hm => ?_⟩, ⟨by decide, rfl, fun s hs => absurd hs (Nat.not_lt_zero s)⟩, ⟨rfl, fun s hs => absurd hs (Nat.not_lt_zero s), fun s i hs => absurd hs (Nat.not_lt_zero s), fun s i hs => absurd hs (Nat.not_lt_zero s), fun s m hs => absurd hs (Nat.not_lt_zero s)⟩, by decide, ⟨0, by decide, rfl, rfl, fun k hk => absurd hk (Nat.not_lt_zero k)⟩, by decide, rfl⟩, ⟨by decide, rfl, fun i c hi => by simp at hi⟩⟩
  · show (1 : Int32) <<< (nAg (nI a) &&& 31) = nI (2 ^ a)
    rw [e]
    rcases ea with rfl | rfl | rfl <;> decide
  · show p3 (nAg (nI a)) = nI (3 ^ a)
    rw [e]
    rcases ea with rfl | rfl | rfl <;> decide
  · show ownF 12 s = nI s
    unfold ownF
    rw [if_pos hs]
  · show jpF 1296 (c * 81 + m) = _
    unfold jpF
    rw [if_pos (by omega), show (c * 81 + m) / 81 = c by omega, show (c * 81 + m) % 81 = m by omega]

theorem aI_of {args : Array Value} {s : State} (h : (Cond.arrayClass .int).before args s = true) : ∃ cA, ArrOfT s cA .int ∧ va_RA s cA .int := by
  obtain ⟨c, k, comp, h1, h2, h3⟩ := Cond.arrayClass_spec h
  exact ⟨c, fun n z => ⟨fun k h => (by cases h), k, h2, comp, h3⟩, h1⟩
theorem aO_of {C : String} {s : State} (h : va_AO C s) : ∃ cA, ArrOfT s cA (.object C) ∧ va_RA s cA (.object C) := by
  obtain ⟨comp, c, k, h1, h2, h3, h4, h5⟩ := Cond.arrayOver_spec h
  exact ⟨c, fun N z => ⟨(fun k h => by cases h), k, h3, comp, h4⟩, k, comp, h3, h4, h1, h5⟩
/-- a cell of the script, before there is an object -/
theorem x_callW {C : XC} {cc : ByteArray} {R0 : Room} {g : cG} {Wd : St → Heap → Prop} {Q : State → Prop} {σ : St} {lv : List (Nat × Value)} {rest : List Value} {pc b L : Nat} {xs : Nat → Int32} {i : Int32} {index : Nat} (h : XOk C cc RL tG R0) (hs : lwS C g b L xs) (hi : vp_in i 2147483647) (hml : Cond.methodLink RL index yL_cell ∈ tG) (hR : rmL_cell.frames + 1 ≤ R0.frames ∧ 8 + (2 + 11) + rmL_cell.locals ≤ R0.locals) (hcat : (rest.map fun v => v.category).sum ≤ 8) (hdg : decode cc pc = .ok (.invokestatic index, 3)) (k : Xs C Wd Q σ (pc + 3) lv (.int (cellF L xs i) :: rest)) : Xs C Wd Q σ pc lv (.int i :: .ref b :: rest) := by
  obtain ⟨hX, hbl, hbA, hL⟩ := hs
  intro H locs ls hW hS hl' T hT X
  have hr : va_Run C.1 C.2.1 C.2.2.1 C.2.2.2.1 C.2.2.2.2.1 C.2.2.2.2.2.1 C.2.2.2.2.2.2.1 C.2.2.2.2.2.2.2.1 C.2.2.2.2.2.2.2.2.1 C.2.2.2.2.2.2.2.2.2.1 H locs C.2.2.2.2.2.2.2.2.2.2.1 C.2.2.2.2.2.2.2.2.2.2.2.1 0 0 (F0 C.2.2.2.2.2.1 pc ls (.int i :: .ref b :: rest)) rest (XQp (some (.int (cellF L xs i))) ([.ref b, .int i] : List Value).toArray) (fun _ => False) := by
    refine va_runS (Ts := tG) (As := [.ref b, .int i]) ⟨h.1, h.2.1, h.2.2.1, h.2.2.2.1, h.2.2.2.2.1⟩ (c_L_cell C.2.1 b L xs i hL hi) (va_cwS 2 h.2.2.2.2.1 (gdS hml biL_cell) rfl rfl rfl hdL_cell (by rw [h.2.2.2.2.2.1]; exact hR)) ⟨fun a U g mk h => ⟨h.1, va_X.moved (u := U) (U := U.calling g mk a) (Vm.Alike.refl U.vm) h.2.1, h.2.2⟩, fun U hU hWm => ⟨rfl, ?_, ?_⟩⟩ rfl rfl hl'.1 rfl (lv_room (pc := pc) (ls := ls) (m := C.2.2.2.2.2.1) (rest := rest) hcat) hdg ?_
    · rw [hU]
      exact (va_X.moved hWm.alike hX).kept (hS.2.1 b hbl hbA)
    · rw [hU]
      exact Nat.lt_of_lt_of_le hbl hS.1
    · rw [h.2.2.2.2.2.1]
      exact ⟨h.2.2.2.2.2.2.1, h.2.2.2.2.2.2.2⟩
  obtain ⟨v, st₀, t, T', L', h0, X', hL', e1, e2, ⟨hv, hP⟩, st'⟩ := hr T hT X
  cases hv
  have hH : T'.heap = H := by rw [e1, hP, h0]
  obtain ⟨t2, a1, b1⟩ := k H locs ls hW hS hl' T' hH (Stand.forget X' (fun q h => (hL' q h).elim))
  exact ⟨t2, st' t2 a1, b1⟩
