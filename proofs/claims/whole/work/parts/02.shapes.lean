def td_shapes : List Nat := [0, 100, 110, 111, 200, 210, 211, 220, 221, 222, 300, 310, 311, 320, 321, 330, 400, 410, 411, 420, 500, 510, 600]
def td_n (K : Nat) : Nat := K / 100 + K / 10 % 10 + K % 10
def td_shp (j : Nat) : Bool := Nat.ble j 600 && (Nat.ble (j / 10 % 10) (j / 100) && (Nat.ble (j % 10) (j / 10 % 10) && Nat.ble (td_n j) 6))
def td_A (K : Nat) : Nat := 49 * (K / 100) + 7 * (K / 10 % 10) + K % 10
def td_R (K c : Nat) : Nat := if Nat.ble (c + 1) (K / 100) = true then 0 else if Nat.ble (c + 1) (K / 100 + K / 10 % 10) = true then 1 else 2
def td_P (K c : Nat) : Nat := if Nat.ble (c + 1) (K / 100) = true then c else if Nat.ble (c + 1) (K / 100 + K / 10 % 10) = true then c - K / 100 else c - (K / 100 + K / 10 % 10)
def td_chk (K : Nat) (ri : Bool) (a x b y : Nat) : Bool :=
  !(Nat.beq (td_R K a) (td_R K b) && (Nat.beq (td_P K b) (td_P K a + 1) && (Nat.ble (y + 1) x || (ri && Nat.beq y x)))) && !(Nat.beq (td_P K a) (td_P K b) && (Nat.beq (td_R K b) (td_R K a + 1) && Nat.ble y x))
def td_cn (q v : Nat) : Nat → Nat
  | 0 => 0
  | c + 1 => td_cn q v c + (if q / 3 ^ c % 3 = v then 1 else 0)
def td_at (n q : Nat) : Nat := 49 * td_cn q 0 n + 7 * td_cn q 1 n + td_cn q 2 n
def td_fil (K q : Nat) : Bool := td_ok (td_st (td_chk K false) 3) 3 (td_n K) 0 q
def td_std (K q : Nat) : Bool := td_ok (td_st (td_chk K true) (td_n K)) (td_n K) (td_n K) 0 q
def td_lit (K : Nat) : List Nat :=
  if Nat.beq K 0 = true then [0] else
  if Nat.beq K 100 = true then [49, 7, 1] else
  if Nat.beq K 110 = true then [56, 50, 8] else
  if Nat.beq K 111 = true then [57] else
  if Nat.beq K 200 = true then [98, 56, 14, 50, 8, 2] else
  if Nat.beq K 210 = true then [105, 63, 57, 99, 57, 15, 51, 9] else
  if Nat.beq K 211 = true then [106, 64, 58] else
  if Nat.beq K 220 = true then [112, 106, 64, 100, 58, 16] else
  if Nat.beq K 221 = true then [113, 107, 65] else
  if Nat.beq K 222 = true then [114] else
  if Nat.beq K 300 = true then [147, 105, 63, 21, 99, 57, 15, 51, 9, 3] else
  if Nat.beq K 310 = true then [154, 112, 70, 106, 64, 58, 148, 106, 64, 22, 100, 58, 16, 52, 10] else
  if Nat.beq K 311 = true then [155, 113, 71, 107, 65, 59] else
  if Nat.beq K 320 = true then [161, 119, 113, 155, 113, 71, 107, 65, 149, 107, 65, 23, 101, 59, 17] else
  if Nat.beq K 321 = true then [162, 120, 114, 156, 114, 72, 108, 66] else
  if Nat.beq K 330 = true then [168, 162, 120, 156, 114, 72, 150, 108, 66, 24] else
  if Nat.beq K 400 = true then [196, 154, 112, 70, 28, 148, 106, 64, 22, 100, 58, 16, 52, 10, 4] else
  if Nat.beq K 410 = true then [203, 161, 119, 77, 155, 113, 71, 107, 65, 59, 197, 155, 113, 71, 29, 149, 107, 65, 23, 101, 59, 17, 53, 11] else
  if Nat.beq K 411 = true then [204, 162, 120, 78, 156, 114, 72, 108, 66, 60] else
  if Nat.beq K 420 = true then [210, 168, 126, 162, 120, 114, 204, 162, 120, 78, 156, 114, 72, 108, 66, 198, 156, 114, 72, 30, 150, 108, 66, 24, 102, 60, 18] else
  if Nat.beq K 500 = true then [245, 203, 161, 119, 77, 35, 197, 155, 113, 71, 29, 149, 107, 65, 23, 101, 59, 17, 53, 11, 5] else
  if Nat.beq K 510 = true then [252, 210, 168, 126, 84, 204, 162, 120, 78, 156, 114, 72, 108, 66, 60, 246, 204, 162, 120, 78, 36, 198, 156, 114, 72, 30, 150, 108, 66, 24, 102, 60, 18, 54, 12] else
  [294, 252, 210, 168, 126, 84, 42, 246, 204, 162, 120, 78, 36, 198, 156, 114, 72, 30, 150, 108, 66, 24, 102, 60, 18, 54, 12, 6]
theorem td_cap {f : Nat → Bool} (h : td_shapes.all f = true) {K : Nat} (hK : K ∈ td_shapes) : f K = true := List.all_eq_true.mp h K hK
def td_sel : Nat → List Nat
  | 0 => []
  | t + 1 => td_sel t ++ (if td_shp t = true then [t] else [])
theorem td_sel_ls (f : Nat → Nat) (n : Nat) : td_sum (fun t => if td_shp t = true then f t else 0) n = td_ls f (td_sel n) := by
  induction n with
  | zero => rfl
  | succ n ih =>
    show td_sum (fun t => if td_shp t = true then f t else 0) n + (if td_shp n = true then f n else 0) = td_ls f (td_sel n ++ (if td_shp n = true then [n] else []))
    rw [td_ls_app, ih]
    by_cases e : td_shp n = true
    · rw [if_pos e, if_pos e]; rfl
    · rw [if_neg e, if_neg e]; rfl
theorem td_sel_601 : td_sel 601 = td_shapes := by decide +kernel
theorem td_shp_mem {j : Nat} (h : td_shp j = true) : j ∈ td_shapes := by
  have hj : j < 601 := by
    unfold td_shp at h
    rw [Bool.and_eq_true, Nat.ble_eq] at h
    omega
  have c : (List.range 601).all (fun j => !(td_shp j) || td_shapes.contains j) = true := by decide +kernel
  have d : (!(td_shp j) || td_shapes.contains j) = true := List.all_eq_true.mp c j (List.mem_range.mpr hj)
  rw [h] at d
  exact List.contains_iff_mem.mp d
theorem td_shp_iff (j : Nat) : td_shp j = true ↔ j / 10 % 10 ≤ j / 100 ∧ j % 10 ≤ j / 10 % 10 ∧ td_n j ≤ 6 := by
  unfold td_shp
  rw [Bool.and_eq_true, Bool.and_eq_true, Bool.and_eq_true, Nat.ble_eq, Nat.ble_eq, Nat.ble_eq, Nat.ble_eq]
  unfold td_n
  omega
theorem td_shp_le {j : Nat} (h : td_shp j = true) : j ≤ 600 := by
  unfold td_shp at h
  rw [Bool.and_eq_true, Nat.ble_eq] at h
  exact h.1
theorem td_lit_c : td_shapes.all (fun K => decide ((td_E (td_st (td_chk K false) 3) 3 (td_n K) 0).map (td_at (td_n K)) = td_lit K)) = true := by decide +kernel
theorem td_lit_b : td_shapes.all (fun K => (td_lit K).all (fun e => Nat.ble e (49 * td_n K)) && Nat.ble (td_ls (fun _ => 1) (td_lit K)) 35) = true := by decide +kernel
