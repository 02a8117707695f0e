def td_fg (p1 p2 u1 v1 u2 v2 q : Nat) : Bool :=
  Nat.ble (p2 + (v1 + v2 + q)) (u1 + u2) && (Nat.ble (u1 + u2) (p1 + (v1 + v2 + q)) && (Nat.ble u2 (v2 + q) && Nat.ble u1 (v1 + q)))
def td_fs (p1 p2 u1 v1 u2 v2 m : Nat) : Nat := td_sum (fun i => if td_fg p1 p2 u1 v1 u2 v2 (p1 + i) = true then 1 else 0) m
def td_F (B u1 v1 u2 v2 u3 v3 : Nat) : Nat :=
  if Nat.beq (u1 + u2 + u3) (td_n B + (v1 + v2 + v3)) = true then td_fs (B / 10 % 10) (B % 10) u1 v1 u2 v2 (B / 100 + 1 - B / 10 % 10) else 0
def td_ev (K B s : Nat) : Nat :=
  td_F B (s / 100 + 2) (K / 100 + 2) (s / 10 % 10 + 1) (K / 10 % 10 + 1) (s % 10) (K % 10)
  + td_F B (s / 100 + 2) (K / 10 % 10 + 1) (s / 10 % 10 + 1) (K % 10) (s % 10) (K / 100 + 2)
  + td_F B (s / 100 + 2) (K % 10) (s / 10 % 10 + 1) (K / 100 + 2) (s % 10) (K / 10 % 10 + 1)
def td_od (K B s : Nat) : Nat :=
  td_F B (s / 100 + 2) (K / 10 % 10 + 1) (s / 10 % 10 + 1) (K / 100 + 2) (s % 10) (K % 10)
  + td_F B (s / 100 + 2) (K / 100 + 2) (s / 10 % 10 + 1) (K % 10) (s % 10) (K / 10 % 10 + 1)
  + td_F B (s / 100 + 2) (K % 10) (s / 10 % 10 + 1) (K / 10 % 10 + 1) (s % 10) (K / 100 + 2)
def td_mm (K B s : Nat) : Nat := td_ev K B s - td_od K B s
def td_con (c : Nat) : Bool := Nat.ble (c / 10 % 10) 6 && Nat.ble (c % 10) 6
def td_rep : Nat → List Nat → List Nat
  | 0, _ => []
  | m + 1, l => l ++ td_rep m l
theorem td_rep_ls (h : Nat → Nat) (m : Nat) (l : List Nat) : td_ls h (td_rep m l) = m * td_ls h l := by
  induction m with
  | zero => exact (Nat.zero_mul _).symm
  | succ m ih =>
    show td_ls h (l ++ td_rep m l) = _
    rw [td_ls_app, ih, Nat.succ_mul, Nat.add_comm]
theorem td_F_c : td_shapes.all (fun K => (List.range 343).all (fun i => Nat.beq (td_cnt i (td_lit K)) (td_F K (i / 49) 0 (i / 7 % 7) 0 (i % 7) 0))) = true := by decide +kernel
theorem td_fil_c : td_shapes.all (fun K => Nat.beq (td_sum (fun c => if td_con c = true then td_F K (c / 100) 0 (c / 10 % 10) 0 (c % 10) 0 else 0) 667) (td_ls (fun _ => 1) (td_lit K))) = true := by decide +kernel
theorem td_mm_c : td_shapes.all (fun K => td_shapes.all (fun B => Nat.ble 7 (td_n K + td_n B) || td_shapes.all (fun s => Nat.ble (td_od K B s) (td_ev K B s) && (Nat.ble (td_ev K B s) 100 && (Nat.beq (td_n s) (td_n K + td_n B) || Nat.beq (td_ev K B s) 0))))) = true := by decide +kernel
theorem td_pm_c : td_shapes.all (fun K => td_shapes.all (fun B => Nat.ble 7 (td_n K + td_n B) || List.isPerm ((td_lit K).flatMap (fun i => (td_lit B).map (fun j => i + j))) (td_shapes.flatMap (fun s => td_rep (td_mm K B s) (td_lit s))))) = true := by decide +kernel
theorem td_tri_c : td_shapes.all (fun s => td_shapes.all (fun t => !(Nat.beq (td_n t) (td_n s)) || (Nat.ble (s + 1) t || Nat.beq (td_cnt (td_A s) (td_lit t)) (if Nat.beq s t = true then 1 else 0)))) = true := by decide +kernel
