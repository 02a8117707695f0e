def td_fa : Nat → Nat
  | 0 => 1
  | m + 1 => td_fa m * (m + 2)
def td_of (x : Nat) : Nat → Nat
  | 0 => x
  | m + 1 => td_of x m / (m + 2)
theorem td_of_le (x m : Nat) : td_of x m ≤ x := by
  induction m with
  | zero => exact Nat.le_refl x
  | succ m ih => exact Nat.le_trans (Nat.div_le_self _ _) ih
theorem td_xfal {post : Int32 → Prop} {n : Nat} (hn : n ≤ 1000) : ∀ (d m : Nat), m + d = n - 1 → post (nI (td_fa (n - 1))) → wX_factorial_4 post (nI n) (d + 1) (nI (td_fa m)) (nI (m + 2)) := by
  intro d
  induction d with
  | zero =>
    intro m hm h
    have e : m = n - 1 := by omega
    rw [e]
    exact br_t (nI_lt (by omega) (by omega)) h
  | succ d ih =>
    intro m hm h
    have k := ih (m + 1) (by omega) h
    exact br_f (nI_nlt (by omega) (by omega)) (nm_r (pk_mul _ _) (nm_r (nI_1 (m + 2)) k))
theorem td_xfac {post : Int32 → Prop} {n : Nat} (hn : n ≤ 1000) (h : post (nI (td_fa (n - 1)))) : wpX_factorial post (nI n) := ⟨_, td_xfal hn (n - 1) 0 (by omega) h⟩
theorem td_xofl {post : Int32 → Prop} {x n : Nat} (hx : x < 2 ^ 31) (hn : n ≤ 1000) : ∀ (d m : Nat), m + d = n - 1 → post (nI (td_of x (n - 1))) → wX_overFactorial_4 post (nI n) (d + 1) (nI (td_of x m)) (nI (m + 2)) := by
  intro d
  induction d with
  | zero =>
    intro m hm h
    have e : m = n - 1 := by omega
    rw [e]
    exact br_t (nI_lt (by omega) (by omega)) h
  | succ d ih =>
    intro m hm h
    have k := ih (m + 1) (by omega) h
    have l := td_of_le x m
    exact br_f (nI_nlt (by omega) (by omega)) ⟨nI_ne0 (by omega) (by omega), nm_r (pk_div (by omega) (by omega) (by omega)) (nm_r (nI_1 (m + 2)) k)⟩
theorem td_xovf {post : Int32 → Prop} {x n : Nat} (hx : x < 2 ^ 31) (hn : n ≤ 1000) (h : post (nI (td_of x (n - 1)))) : wpX_overFactorial post (nI x) (nI n) := ⟨_, td_xofl hx hn (n - 1) 0 (by omega) h⟩
def td_xw (K : Nat) : Nat := td_fa (td_n K - 1) * (K / 100 + 2 - (K / 10 % 10 + 1)) * (K / 100 + 2 - K % 10) * (K / 10 % 10 + 1 - K % 10)
def td_xo (K : Nat) : Nat := td_of (td_of (td_of (td_xw K) (K / 100 + 2 - 1)) (K / 10 % 10 + 1 - 1)) (K % 10 - 1)
theorem td_xw_c : td_shapes.all (fun K => Nat.ble (td_xw K) 1000000) = true := by decide +kernel
theorem td_xor {post : Int32 → Prop} {K : Nat} (hK : td_shp K = true) (h : post (nI (td_xo K))) : wpX_orders post (nI K) := by
  have k1 := td_shp_le hK
  have k2 := (td_shp_iff K).mp hK
  have w : Nat.ble (td_xw K) 1000000 = true := td_cap td_xw_c (td_shp_mem hK)
  rw [Nat.ble_eq] at w
  have a0 : nI (K / 100) + 2 = nI (K / 100 + 2) := nI_add _ 2
  have a1 : nI (K / 10 % 10) + 1 = nI (K / 10 % 10 + 1) := nI_1 _
  have e : nI (td_fa (td_n K - 1)) * (nI (K / 100 + 2) - nI (K / 10 % 10 + 1)) * (nI (K / 100 + 2) - nI (K % 10)) * (nI (K / 10 % 10 + 1) - nI (K % 10)) = nI (td_xw K) := by
    rw [pk_sub (by omega), pk_sub (by omega), pk_sub (by omega), pk_mul, pk_mul, pk_mul]
    rfl
  have l1 := td_of_le (td_xw K) (K / 100 + 2 - 1)
  have l2 := td_of_le (td_of (td_xw K) (K / 100 + 2 - 1)) (K / 10 % 10 + 1 - 1)
  unfold wpX_orders
  refine td_xd0 (by omega) (nm_r a0 (td_xd1 (by omega) (nm_r a1 (td_xd2 (by omega) ?_))))
  refine td_xco (by omega) (td_xfac (by omega) (nm_r e ?_))
  refine td_xovf (by omega) (by omega) (td_xovf (by omega) (by omega) (td_xovf (by omega) (by omega) ?_))
  exact h
def td_cl (K p i : Nat) : Nat := td_sum (fun i => if td_dg K i ≤ p then 0 else 1) i
theorem td_dg_le {K : Nat} (hK : td_shp K = true) (i : Nat) : td_dg K i ≤ 6 := by
  have k1 := td_shp_le hK
  have k2 := (td_shp_iff K).mp hK
  unfold td_n at k2
  unfold td_dg
  by_cases a : i = 0
  · rw [if_pos a]; omega
  · rw [if_neg a]
    by_cases b : i = 1
    · rw [if_pos b]; omega
    · rw [if_neg b]; omega
theorem td_xcll {post : Int32 → Prop} {K p : Nat} (hK : td_shp K = true) (hp : p ≤ 1000) : ∀ (d i : Nat), i + d = 3 → post (nI (td_cl K p 3)) → wX_columnLength_4 post (nI p) (nI K) (d + 1) (nI (td_cl K p i)) (nI i) := by
  have k1 := td_shp_le hK
  intro d
  induction d with
  | zero =>
    intro i hi h
    have e : i = 3 := by omega
    subst e
    exact br_t (by decide) h
  | succ d ih =>
    intro i hi h
    have k := ih (i + 1) (by omega) h
    have es : td_cl K p (i + 1) = td_cl K p i + (if td_dg K i ≤ p then 0 else 1) := rfl
    have l := td_dg_le hK i
    rw [es] at k
    refine br_f (nI_ge (b := 3) (by omega) (by decide)) (td_xdg (by omega) (by omega) ?_)
    refine pk_le (td_dg K i) p (fun z => ?_) (fun z => ?_)
    · rw [if_pos z] at k
      exact nm_r (nI_1 i) k
    · rw [if_neg (by omega)] at k
      exact nm_r (nI_1 _) (nm_r (nI_1 i) k)
theorem td_xcl {post : Int32 → Prop} {K : Nat} (p : Nat) (hK : td_shp K = true) (hp : p ≤ 1000) (h : post (nI (td_cl K p 3))) : wpX_columnLength post (nI K) (nI p) := ⟨_, td_xcll hK hp 3 0 rfl h⟩
def td_tu (K : Nat) : Nat := 100 * td_cl K 0 3 + 10 * td_cl K 1 3 + td_cl K 2 3
theorem td_xtu {post : Int32 → Prop} {K : Nat} (hK : td_shp K = true) (h1 : K / 100 ≤ 3 → post (nI (td_tu K))) (h0 : 3 < K / 100 → post (-1)) : wpX_turned post (nI K) := by
  have k1 := td_shp_le hK
  unfold wpX_turned
  refine td_xd0 (by omega) ?_
  refine pk_le (K / 100) 3 (fun z => ?_) (fun z => h0 z)
  refine td_xcl 0 hK (by omega) (td_xcl 1 hK (by omega) (td_xcl 2 hK (by omega) ?_))
  have e : 100 * nI (td_cl K 0 3) + 10 * nI (td_cl K 1 3) + nI (td_cl K 2 3) = nI (td_tu K) := by
    show nI 100 * nI (td_cl K 0 3) + nI 10 * nI (td_cl K 1 3) + nI (td_cl K 2 3) = nI (td_tu K)
    rw [pk_mul, pk_mul, td_add3]
    rfl
  rw [e]
  exact h1 z
