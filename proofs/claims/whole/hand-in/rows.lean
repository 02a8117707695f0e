section
theorem pk_us {f : Nat → Int32} {k : Nat} {x : Int32} : upd f k x k = x := if_pos rfl
theorem pk_un {f : Nat → Int32} {k j : Nat} {x : Int32} (h : j ≠ k) : upd f k x j = f j := if_neg h
theorem pk_sub {a b : Nat} (h : b ≤ a) : nI a - nI b = nI (a - b) := by
  obtain ⟨c, rfl⟩ : ∃ c, a = c + b := ⟨a - b, by omega⟩
  rw [← nI_add, Int32.add_sub_cancel, Nat.add_sub_cancel]
theorem pk_m1 (n : Nat) : nI (n + 1) + (-1) = nI n := by
  rw [← nI_1, Int32.add_assoc, show (1 : Int32) + (-1) = 0 from rfl, Int32.add_zero]
theorem pk_mul (a b : Nat) : nI a * nI b = nI (a * b) := (Int32.ofNat_mul a b).symm
theorem pk_div {a d : Nat} (ha : a < 2 ^ 31) (h0 : 0 < d) (hd : d < 2 ^ 31) : nI a / nI d = nI (a / d) := by
  apply Int32.toInt_inj.mp
  rw [lg_idiv_nonneg (by rw [nI_toInt ha]; omega) (by rw [nI_toInt hd]; omega), nI_toInt ha, nI_toInt hd, nI_toInt (Nat.lt_of_le_of_lt (Nat.div_le_self a d) ha)]
  first | rfl | exact (Int.natCast_ediv _ _).symm
theorem pk_rem {a d : Nat} (ha : a < 2 ^ 31) (h0 : 0 < d) (hd : d < 2 ^ 31) : nI a - nI a / nI d * nI d = nI (a % d) := by
  rw [pk_div ha h0 hd, pk_mul, pk_sub (Nat.div_mul_le_self a d)]
  exact congrArg nI (by have := Nat.div_add_mod' a d; omega)
theorem pk_sub_toInt {a b : Nat} (ha : a < 2 ^ 30) (hb : b < 2 ^ 30) : (nI a - nI b).toInt = (a : Int) - b := by
  rw [Int32.toInt_sub, nI_toInt (by omega), nI_toInt (by omega)]
  exact Int.bmod_eq_of_le (by omega) (by omega)
theorem pk_le {x y : Int32} {A B : Prop} (a b : Nat) (f : a ≤ b → A) (g : b < a → B) (hx : x = nI a := by rfl) (hy : y = nI b := by rfl) (ha : a < 2 ^ 31 := by omega) (hb : b < 2 ^ 31 := by omega) : (x ≤ y → A) ∧ (¬ x ≤ y → B) := by
  subst hx hy
  rw [nI_leI ha hb]
  exact ⟨f, fun z => g (by omega)⟩
theorem pk_lt {x y : Int32} {A B : Prop} (a b : Nat) (f : a < b → A) (g : b ≤ a → B) (hx : x = nI a := by rfl) (hy : y = nI b := by rfl) (ha : a < 2 ^ 31 := by omega) (hb : b < 2 ^ 31 := by omega) : (x < y → A) ∧ (¬ x < y → B) := by
  subst hx hy
  rw [nI_ltI ha hb]
  exact ⟨f, fun z => g (by omega)⟩
theorem pk_eq {x y : Int32} {A B : Prop} (a b : Nat) (f : a = b → A) (g : a ≠ b → B) (hx : x = nI a := by rfl) (hy : y = nI b := by rfl) (ha : a < 2 ^ 31 := by omega) (hb : b < 2 ^ 31 := by omega) : (x = y → A) ∧ (¬ x = y → B) := by
  subst hx hy
  rw [nI_eq ha hb]
  exact ⟨f, g⟩
end
section
def td_sum (f : Nat → Nat) : Nat → Nat
  | 0 => 0
  | n + 1 => td_sum f n + f n
theorem td_sum_congr {f g : Nat → Nat} {n : Nat} (h : ∀ i, i < n → f i = g i) : td_sum f n = td_sum g n := by
  induction n with
  | zero => rfl
  | succ n ih =>
    show td_sum f n + f n = td_sum g n + g n
    rw [ih (fun i hi => h i (by omega)), h n (by omega)]
theorem td_sum_zero {f : Nat → Nat} {n : Nat} (h : ∀ i, i < n → f i = 0) : td_sum f n = 0 := by
  induction n with
  | zero => rfl
  | succ n ih =>
    show td_sum f n + f n = 0
    rw [ih (fun i hi => h i (by omega)), h n (by omega)]
theorem td_sum_add (f g : Nat → Nat) (n : Nat) : td_sum (fun i => f i + g i) n = td_sum f n + td_sum g n := by
  induction n with
  | zero => rfl
  | succ n ih =>
    show td_sum (fun i => f i + g i) n + (f n + g n) = (td_sum f n + f n) + (td_sum g n + g n)
    rw [ih]; omega
theorem td_sum_ml (a : Nat) (g : Nat → Nat) (n : Nat) : td_sum (fun i => a * g i) n = a * td_sum g n := by
  induction n with
  | zero => rfl
  | succ n ih =>
    show td_sum (fun i => a * g i) n + a * g n = a * (td_sum g n + g n)
    rw [ih, Nat.mul_add]
theorem td_sum_split (f : Nat → Nat) (m n : Nat) : td_sum f (m + n) = td_sum f m + td_sum (fun i => f (m + i)) n := by
  induction n with
  | zero => rfl
  | succ n ih =>
    show td_sum f (m + n) + f (m + n) = td_sum f m + (td_sum (fun i => f (m + i)) n + f (m + n))
    rw [ih]; omega
theorem td_sum_mul (f : Nat → Nat) (b m : Nat) : td_sum f (m * b) = td_sum (fun q => td_sum (fun d => f (d + b * q)) b) m := by
  induction m with
  | zero => rw [Nat.zero_mul]; rfl
  | succ m ih =>
    have e : td_sum (fun i => f (m * b + i)) b = td_sum (fun d => f (d + b * m)) b :=
      td_sum_congr (fun i _ => by show f (m * b + i) = f (i + b * m); rw [Nat.mul_comm m b, Nat.add_comm])
    rw [Nat.succ_mul, td_sum_split, ih, e]
    rfl
theorem td_sum_one (f : Nat → Nat) (e N : Nat) : td_sum (fun i => if e = i then f i else 0) N = if e < N then f e else 0 := by
  induction N with
  | zero => rfl
  | succ n ih =>
    show td_sum (fun i => if e = i then f i else 0) n + (if e = n then f n else 0) = _
    rw [ih]
    by_cases h : e = n
    · subst h
      rw [if_neg (Nat.lt_irrefl e), if_pos rfl, if_pos (Nat.lt_succ_self e), Nat.zero_add]
    · rw [if_neg h, Nat.add_zero]
      by_cases h2 : e < n
      · rw [if_pos h2, if_pos (by omega)]
      · rw [if_neg h2, if_neg (by omega)]
def td_ls (h : Nat → Nat) : List Nat → Nat
  | [] => 0
  | a :: l => h a + td_ls h l
theorem td_ls_congr {h g : Nat → Nat} {l : List Nat} (e : ∀ a, a ∈ l → h a = g a) : td_ls h l = td_ls g l := by
  induction l with
  | nil => rfl
  | cons a l ih =>
    show h a + td_ls h l = g a + td_ls g l
    rw [e a (List.mem_cons_self), ih (fun b hb => e b (List.mem_cons_of_mem _ hb))]
theorem td_ls_app (h : Nat → Nat) (l r : List Nat) : td_ls h (l ++ r) = td_ls h l + td_ls h r := by
  induction l with
  | nil => exact (Nat.zero_add _).symm
  | cons a l ih =>
    show h a + td_ls h (l ++ r) = h a + td_ls h l + td_ls h r
    rw [ih, Nat.add_assoc]
theorem td_ls_flat (h : Nat → Nat) (g : Nat → List Nat) (l : List Nat) : td_ls h (l.flatMap g) = td_ls (fun q => td_ls h (g q)) l := by
  induction l with
  | nil => rfl
  | cons a l ih =>
    rw [List.flatMap_cons, td_ls_app, ih]
    rfl
theorem td_ls_map (h g : Nat → Nat) (l : List Nat) : td_ls h (l.map g) = td_ls (fun q => h (g q)) l := by
  induction l with
  | nil => rfl
  | cons a l ih =>
    rw [List.map_cons]
    show h (g a) + td_ls h (l.map g) = _
    rw [ih]
    rfl
theorem td_ls_perm (h : Nat → Nat) {l r : List Nat} (p : l.Perm r) : td_ls h l = td_ls h r := by
  induction p with
  | nil => rfl
  | cons a _ ih =>
    show h a + _ = h a + _
    rw [ih]
  | swap a b l =>
    show h b + (h a + td_ls h l) = h a + (h b + td_ls h l)
    omega
  | trans _ _ e1 e2 => exact e1.trans e2
def td_cnt (i : Nat) (l : List Nat) : Nat := td_ls (fun e => if e = i then 1 else 0) l
theorem td_cs (f : Nat → Nat) (N : Nat) (l : List Nat) (hl : ∀ e, e ∈ l → e < N) : td_sum (fun i => td_cnt i l * f i) N = td_ls f l := by
  induction l with
  | nil => exact td_sum_zero (fun i _ => Nat.zero_mul _)
  | cons a l ih =>
    have e : ∀ i, i < N → td_cnt i (a :: l) * f i = (if a = i then f i else 0) + td_cnt i l * f i := by
      intro i _
      show ((if a = i then 1 else 0) + td_cnt i l) * f i = _
      rw [Nat.add_mul]
      by_cases h : a = i
      · rw [if_pos h, if_pos h, Nat.one_mul]
      · rw [if_neg h, if_neg h, Nat.zero_mul]
    rw [td_sum_congr e, td_sum_add, td_sum_one, if_pos (hl a (List.mem_cons_self)), ih (fun b hb => hl b (List.mem_cons_of_mem _ hb))]
    rfl
def td_row (t : Nat → Bool) (b q : Nat) : Nat → List Nat
  | 0 => []
  | d + 1 => td_row t b q d ++ (if t (d + b * q) = true then [d + b * q] else [])
theorem td_row_ls (t : Nat → Bool) (b q : Nat) (h : Nat → Nat) (n : Nat) : td_ls h (td_row t b q n) = td_sum (fun d => if t (d + b * q) = true then h (d + b * q) else 0) n := by
  induction n with
  | zero => rfl
  | succ n ih =>
    show td_ls h (td_row t b q n ++ (if t (n + b * q) = true then [n + b * q] else [])) = td_sum (fun d => if t (d + b * q) = true then h (d + b * q) else 0) n + (if t (n + b * q) = true then h (n + b * q) else 0)
    rw [td_ls_app, ih]
    by_cases e : t (n + b * q) = true
    · rw [if_pos e, if_pos e]; rfl
    · rw [if_neg e, if_neg e]; rfl
def td_E (t : Nat → Nat → Nat → Bool) (b : Nat) : Nat → Nat → List Nat
  | 0, _ => [0]
  | j + 1, o => (td_E t b j (o + 1)).flatMap (fun q => td_row (t o (j + 1)) b q b)
def td_ok (t : Nat → Nat → Nat → Bool) (b : Nat) : Nat → Nat → Nat → Bool
  | 0, _, _ => true
  | j + 1, o, q => td_ok t b j (o + 1) (q / b) && t o (j + 1) q
theorem td_tree (t : Nat → Nat → Nat → Bool) (b : Nat) : ∀ (j o : Nat) (h : Nat → Nat), (j = 0 ∨ 0 < b) →
    td_sum (fun q => if td_ok t b j o q = true then h q else 0) (b ^ j) = td_ls h (td_E t b j o) := by
  intro j
  induction j with
  | zero =>
    intro o h _
    show 0 + (if true = true then h 0 else 0) = h 0 + 0
    rw [if_pos rfl, Nat.zero_add, Nat.add_zero]
  | succ j ih =>
    intro o h hb
    have hb : 0 < b := by omega
    rw [Nat.pow_succ, td_sum_mul]
    have e : ∀ q, q < b ^ j → td_sum (fun d => if td_ok t b (j + 1) o (d + b * q) = true then h (d + b * q) else 0) b
        = if td_ok t b j (o + 1) q = true then td_ls h (td_row (t o (j + 1)) b q b) else 0 := by
      intro q _
      rw [td_row_ls]
      have e2 : ∀ d, d < b → (if td_ok t b (j + 1) o (d + b * q) = true then h (d + b * q) else 0)
          = if td_ok t b j (o + 1) q = true then (if t o (j + 1) (d + b * q) = true then h (d + b * q) else 0) else 0 := by
        intro d hd
        have e3 : td_ok t b (j + 1) o (d + b * q) = (td_ok t b j (o + 1) q && t o (j + 1) (d + b * q)) := by
          show (td_ok t b j (o + 1) ((d + b * q) / b) && t o (j + 1) (d + b * q)) = _
          rw [Nat.add_mul_div_left d q hb, Nat.div_eq_of_lt hd, Nat.zero_add]
        rw [e3]
        cases td_ok t b j (o + 1) q
        · rfl
        · cases t o (j + 1) (d + b * q)
          · rfl
          · rfl
      rw [td_sum_congr e2]
      cases td_ok t b j (o + 1) q
      · exact td_sum_zero (fun _ _ => rfl)
      · rfl
    rw [td_sum_congr e, ih (o + 1) (fun q => td_ls h (td_row (t o (j + 1)) b q b)) (Or.inr hb)]
    exact (td_ls_flat h (fun q => td_row (t o (j + 1)) b q b) (td_E t b j (o + 1))).symm
def td_all (p : Nat → Bool) : Nat → Bool
  | 0 => true
  | n + 1 => td_all p n && p n
theorem td_all_iff (p : Nat → Bool) (n : Nat) : td_all p n = true ↔ ∀ i, i < n → p i = true := by
  induction n with
  | zero => exact ⟨fun _ i hi => absurd hi (Nat.not_lt_zero i), fun _ => rfl⟩
  | succ n ih =>
    show (td_all p n && p n) = true ↔ _
    rw [Bool.and_eq_true, ih]
    constructor
    · intro h i hi
      by_cases e : i = n
      · subst e; exact h.2
      · exact h.1 i (by omega)
    · intro h
      exact ⟨fun i hi => h i (by omega), h n (by omega)⟩
def td_st (c : Nat → Nat → Nat → Nat → Bool) (b o j q : Nat) : Bool :=
  td_all (fun i => c o (q % b) (o + i) (q / b ^ i % b) && c (o + i) (q / b ^ i % b) o (q % b)) j
theorem td_ok_iff (c : Nat → Nat → Nat → Nat → Bool) (b : Nat) : ∀ (j o q : Nat),
    td_ok (td_st c b) b j o q = true ↔ ∀ x y, x < j → y < j → c (o + x) (q / b ^ x % b) (o + y) (q / b ^ y % b) = true := by
  intro j
  induction j with
  | zero => exact fun o q => ⟨fun _ x _ hx => absurd hx (Nat.not_lt_zero x), fun _ => rfl⟩
  | succ j ih =>
    intro o q
    show (td_ok (td_st c b) b j (o + 1) (q / b) && td_st c b o (j + 1) q) = true ↔ _
    have d : ∀ x, q / b / b ^ x = q / b ^ (x + 1) := fun x => by rw [Nat.div_div_eq_div_mul, Nat.pow_succ, Nat.mul_comm]
    have z : q / b ^ 0 % b = q % b := by rw [Nat.pow_zero, Nat.div_one]
    rw [Bool.and_eq_true, ih]
    constructor
    · intro h x y hx hy
      obtain ⟨h1, h0⟩ := h
      have h2 : ∀ i, i < j + 1 → (c o (q % b) (o + i) (q / b ^ i % b) && c (o + i) (q / b ^ i % b) o (q % b)) = true := (td_all_iff _ _).mp h0
      cases x with
      | zero =>
        have h3 := h2 y hy
        rw [Bool.and_eq_true] at h3
        rw [z]; exact h3.1
      | succ x =>
        cases y with
        | zero =>
          have h3 := h2 (x + 1) hx
          rw [Bool.and_eq_true] at h3
          rw [z]; exact h3.2
        | succ y =>
          have h3 := h1 x y (by omega) (by omega)
          rw [d, d] at h3
          rw [show o + (x + 1) = o + 1 + x by omega, show o + (y + 1) = o + 1 + y by omega]
          exact h3
    · intro h
      constructor
      · intro x y hx hy
        rw [d, d, show o + 1 + x = o + (x + 1) by omega, show o + 1 + y = o + (y + 1) by omega]
        exact h (x + 1) (y + 1) (by omega) (by omega)
      · refine (td_all_iff _ _).mpr ?_
        intro i hi
        show (c o (q % b) (o + i) (q / b ^ i % b) && c (o + i) (q / b ^ i % b) o (q % b)) = true
        rw [Bool.and_eq_true]
        have h1 := h 0 i (by omega) hi
        have h2 := h i 0 hi (by omega)
        rw [z] at h1 h2
        exact ⟨h1, h2⟩
end
section
def td_shapes : List Nat := [0, 100, 110, 111, 200, 210, 211, 220, 221, 222, 300, 310, 311, 320, 321, 330, 400, 410, 411, 420, 500, 510, 600]
def td_n (K : Nat) : Nat := K / 100 + K / 10 % 10 + K % 10
def td_shp (j : Nat) : Bool := Nat.ble j 600 && (Nat.ble (j / 10 % 10) (j / 100) && (Nat.ble (j % 10) (j / 10 % 10) && Nat.ble (td_n j) 6))
def td_A (K : Nat) : Nat := 49 * (K / 100) + 7 * (K / 10 % 10) + K % 10
def td_R (K c : Nat) : Nat := if Nat.ble (c + 1) (K / 100) = true then 0 else if Nat.ble (c + 1) (K / 100 + K / 10 % 10) = true then 1 else 2
def td_P (K c : Nat) : Nat := if Nat.ble (c + 1) (K / 100) = true then c else if Nat.ble (c + 1) (K / 100 + K / 10 % 10) = true then c - K / 100 else c - (K / 100 + K / 10 % 10)
def td_chk (K : Nat) (ri : Bool) (a x b y : Nat) : Bool :=
  !(Nat.beq (td_R K a) (td_R K b) && (Nat.beq (td_P K b) (td_P K a + 1) && (Nat.ble (y + 1) x || (ri && Nat.beq y x)))) && !(Nat.beq (td_P K a) (td_P K b) && (Nat.beq (td_R K b) (td_R K a + 1) && Nat.ble y x))
def td_cn (q v : Nat) : Nat → Nat
  | 0 => 0
  | c + 1 => td_cn q v c + (if q / 3 ^ c % 3 = v then 1 else 0)
def td_at (n q : Nat) : Nat := 49 * td_cn q 0 n + 7 * td_cn q 1 n + td_cn q 2 n
def td_fil (K q : Nat) : Bool := td_ok (td_st (td_chk K false) 3) 3 (td_n K) 0 q
def td_std (K q : Nat) : Bool := td_ok (td_st (td_chk K true) (td_n K)) (td_n K) (td_n K) 0 q
def td_lit (K : Nat) : List Nat :=
  if Nat.beq K 0 = true then [0] else
  if Nat.beq K 100 = true then [49, 7, 1] else
  if Nat.beq K 110 = true then [56, 50, 8] else
  if Nat.beq K 111 = true then [57] else
  if Nat.beq K 200 = true then [98, 56, 14, 50, 8, 2] else
  if Nat.beq K 210 = true then [105, 63, 57, 99, 57, 15, 51, 9] else
  if Nat.beq K 211 = true then [106, 64, 58] else
  if Nat.beq K 220 = true then [112, 106, 64, 100, 58, 16] else
  if Nat.beq K 221 = true then [113, 107, 65] else
  if Nat.beq K 222 = true then [114] else
  if Nat.beq K 300 = true then [147, 105, 63, 21, 99, 57, 15, 51, 9, 3] else
  if Nat.beq K 310 = true then [154, 112, 70, 106, 64, 58, 148, 106, 64, 22, 100, 58, 16, 52, 10] else
  if Nat.beq K 311 = true then [155, 113, 71, 107, 65, 59] else
  if Nat.beq K 320 = true then [161, 119, 113, 155, 113, 71, 107, 65, 149, 107, 65, 23, 101, 59, 17] else
  if Nat.beq K 321 = true then [162, 120, 114, 156, 114, 72, 108, 66] else
  if Nat.beq K 330 = true then [168, 162, 120, 156, 114, 72, 150, 108, 66, 24] else
  if Nat.beq K 400 = true then [196, 154, 112, 70, 28, 148, 106, 64, 22, 100, 58, 16, 52, 10, 4] else
  if Nat.beq K 410 = true then [203, 161, 119, 77, 155, 113, 71, 107, 65, 59, 197, 155, 113, 71, 29, 149, 107, 65, 23, 101, 59, 17, 53, 11] else
  if Nat.beq K 411 = true then [204, 162, 120, 78, 156, 114, 72, 108, 66, 60] else
  if Nat.beq K 420 = true then [210, 168, 126, 162, 120, 114, 204, 162, 120, 78, 156, 114, 72, 108, 66, 198, 156, 114, 72, 30, 150, 108, 66, 24, 102, 60, 18] else
  if Nat.beq K 500 = true then [245, 203, 161, 119, 77, 35, 197, 155, 113, 71, 29, 149, 107, 65, 23, 101, 59, 17, 53, 11, 5] else
  if Nat.beq K 510 = true then [252, 210, 168, 126, 84, 204, 162, 120, 78, 156, 114, 72, 108, 66, 60, 246, 204, 162, 120, 78, 36, 198, 156, 114, 72, 30, 150, 108, 66, 24, 102, 60, 18, 54, 12] else
  [294, 252, 210, 168, 126, 84, 42, 246, 204, 162, 120, 78, 36, 198, 156, 114, 72, 30, 150, 108, 66, 24, 102, 60, 18, 54, 12, 6]
theorem td_cap {f : Nat → Bool} (h : td_shapes.all f = true) {K : Nat} (hK : K ∈ td_shapes) : f K = true := List.all_eq_true.mp h K hK
def td_sel : Nat → List Nat
  | 0 => []
  | t + 1 => td_sel t ++ (if td_shp t = true then [t] else [])
theorem td_sel_ls (f : Nat → Nat) (n : Nat) : td_sum (fun t => if td_shp t = true then f t else 0) n = td_ls f (td_sel n) := by
  induction n with
  | zero => rfl
  | succ n ih =>
    show td_sum (fun t => if td_shp t = true then f t else 0) n + (if td_shp n = true then f n else 0) = td_ls f (td_sel n ++ (if td_shp n = true then [n] else []))
    rw [td_ls_app, ih]
    by_cases e : td_shp n = true
    · rw [if_pos e, if_pos e]; rfl
    · rw [if_neg e, if_neg e]; rfl
theorem td_sel_601 : td_sel 601 = td_shapes := by decide +kernel
theorem td_shp_mem {j : Nat} (h : td_shp j = true) : j ∈ td_shapes := by
  have hj : j < 601 := by
    unfold td_shp at h
    rw [Bool.and_eq_true, Nat.ble_eq] at h
    omega
  have c : (List.range 601).all (fun j => !(td_shp j) || td_shapes.contains j) = true := by decide +kernel
  have d : (!(td_shp j) || td_shapes.contains j) = true := List.all_eq_true.mp c j (List.mem_range.mpr hj)
  rw [h] at d
  exact List.contains_iff_mem.mp d
theorem td_shp_iff (j : Nat) : td_shp j = true ↔ j / 10 % 10 ≤ j / 100 ∧ j % 10 ≤ j / 10 % 10 ∧ td_n j ≤ 6 := by
  unfold td_shp
  rw [Bool.and_eq_true, Bool.and_eq_true, Bool.and_eq_true, Nat.ble_eq, Nat.ble_eq, Nat.ble_eq, Nat.ble_eq]
  unfold td_n
  omega
theorem td_shp_le {j : Nat} (h : td_shp j = true) : j ≤ 600 := by
  unfold td_shp at h
  rw [Bool.and_eq_true, Nat.ble_eq] at h
  exact h.1
theorem td_lit_c : td_shapes.all (fun K => decide ((td_E (td_st (td_chk K false) 3) 3 (td_n K) 0).map (td_at (td_n K)) = td_lit K)) = true := by decide +kernel
theorem td_lit_b : td_shapes.all (fun K => (td_lit K).all (fun e => Nat.ble e (49 * td_n K)) && Nat.ble (td_ls (fun _ => 1) (td_lit K)) 35) = true := by decide +kernel
end
section
def td_fg (p1 p2 u1 v1 u2 v2 q : Nat) : Bool :=
  Nat.ble (p2 + (v1 + v2 + q)) (u1 + u2) && (Nat.ble (u1 + u2) (p1 + (v1 + v2 + q)) && (Nat.ble u2 (v2 + q) && Nat.ble u1 (v1 + q)))
def td_fs (p1 p2 u1 v1 u2 v2 m : Nat) : Nat := td_sum (fun i => if td_fg p1 p2 u1 v1 u2 v2 (p1 + i) = true then 1 else 0) m
def td_F (B u1 v1 u2 v2 u3 v3 : Nat) : Nat :=
  if Nat.beq (u1 + u2 + u3) (td_n B + (v1 + v2 + v3)) = true then td_fs (B / 10 % 10) (B % 10) u1 v1 u2 v2 (B / 100 + 1 - B / 10 % 10) else 0
def td_ev (K B s : Nat) : Nat :=
  td_F B (s / 100 + 2) (K / 100 + 2) (s / 10 % 10 + 1) (K / 10 % 10 + 1) (s % 10) (K % 10)
  + td_F B (s / 100 + 2) (K / 10 % 10 + 1) (s / 10 % 10 + 1) (K % 10) (s % 10) (K / 100 + 2)
  + td_F B (s / 100 + 2) (K % 10) (s / 10 % 10 + 1) (K / 100 + 2) (s % 10) (K / 10 % 10 + 1)
def td_od (K B s : Nat) : Nat :=
  td_F B (s / 100 + 2) (K / 10 % 10 + 1) (s / 10 % 10 + 1) (K / 100 + 2) (s % 10) (K % 10)
  + td_F B (s / 100 + 2) (K / 100 + 2) (s / 10 % 10 + 1) (K % 10) (s % 10) (K / 10 % 10 + 1)
  + td_F B (s / 100 + 2) (K % 10) (s / 10 % 10 + 1) (K / 10 % 10 + 1) (s % 10) (K / 100 + 2)
def td_mm (K B s : Nat) : Nat := td_ev K B s - td_od K B s
def td_con (c : Nat) : Bool := Nat.ble (c / 10 % 10) 6 && Nat.ble (c % 10) 6
def td_rep : Nat → List Nat → List Nat
  | 0, _ => []
  | m + 1, l => l ++ td_rep m l
theorem td_rep_ls (h : Nat → Nat) (m : Nat) (l : List Nat) : td_ls h (td_rep m l) = m * td_ls h l := by
  induction m with
  | zero => exact (Nat.zero_mul _).symm
  | succ m ih =>
    show td_ls h (l ++ td_rep m l) = _
    rw [td_ls_app, ih, Nat.succ_mul, Nat.add_comm]
theorem td_F_c : td_shapes.all (fun K => (List.range 343).all (fun i => Nat.beq (td_cnt i (td_lit K)) (td_F K (i / 49) 0 (i / 7 % 7) 0 (i % 7) 0))) = true := by decide +kernel
theorem td_fil_c : td_shapes.all (fun K => Nat.beq (td_sum (fun c => if td_con c = true then td_F K (c / 100) 0 (c / 10 % 10) 0 (c % 10) 0 else 0) 667) (td_ls (fun _ => 1) (td_lit K))) = true := by decide +kernel
theorem td_mm_c : td_shapes.all (fun K => td_shapes.all (fun B => Nat.ble 7 (td_n K + td_n B) || td_shapes.all (fun s => Nat.ble (td_od K B s) (td_ev K B s) && (Nat.ble (td_ev K B s) 100 && (Nat.beq (td_n s) (td_n K + td_n B) || Nat.beq (td_ev K B s) 0))))) = true := by decide +kernel
theorem td_pm_c : td_shapes.all (fun K => td_shapes.all (fun B => Nat.ble 7 (td_n K + td_n B) || List.isPerm ((td_lit K).flatMap (fun i => (td_lit B).map (fun j => i + j))) (td_shapes.flatMap (fun s => td_rep (td_mm K B s) (td_lit s))))) = true := by decide +kernel
theorem td_tri_c : td_shapes.all (fun s => td_shapes.all (fun t => !(Nat.beq (td_n t) (td_n s)) || (Nat.ble (s + 1) t || Nat.beq (td_cnt (td_A s) (td_lit t)) (if Nat.beq s t = true then 1 else 0)))) = true := by decide +kernel
end
section
def td_S (K m i : Nat) : Nat := td_sum (fun q => if td_fil K q = true then (if td_at (td_n K) q = i then 1 else 0) else 0) m
theorem td_S_eq {K : Nat} (hK : K ∈ td_shapes) (i : Nat) : td_S K (3 ^ td_n K) i = td_cnt i (td_lit K) := by
  have h := of_decide_eq_true (td_cap td_lit_c hK)
  have t := td_tree (td_st (td_chk K false) 3) 3 (td_n K) 0 (fun q => if td_at (td_n K) q = i then 1 else 0) (Or.inr (by decide))
  rw [← h]
  unfold td_cnt
  rw [td_ls_map]
  exact t
theorem td_lit_le {K : Nat} (hK : K ∈ td_shapes) {e : Nat} (he : e ∈ td_lit K) : e ≤ 49 * td_n K := by
  have h : ((td_lit K).all (fun e => Nat.ble e (49 * td_n K)) && Nat.ble (td_ls (fun _ => 1) (td_lit K)) 35) = true := td_cap td_lit_b hK
  rw [Bool.and_eq_true] at h
  have h2 : Nat.ble e (49 * td_n K) = true := List.all_eq_true.mp h.1 e he
  rw [Nat.ble_eq] at h2
  exact h2
theorem td_n_6 {K : Nat} (hK : K ∈ td_shapes) : td_n K ≤ 6 := by
  have c : td_shapes.all (fun K => Nat.ble (td_n K) 6) = true := by decide +kernel
  have h : Nat.ble (td_n K) 6 = true := td_cap c hK
  rw [Nat.ble_eq] at h
  exact h
theorem td_lit_lt {K : Nat} (hK : K ∈ td_shapes) {e : Nat} (he : e ∈ td_lit K) : e < 343 := by
  have a := td_lit_le hK he
  have b := td_n_6 hK
  omega
theorem td_ls_le {f g : Nat → Nat} (h : ∀ a, f a ≤ g a) (l : List Nat) : td_ls f l ≤ td_ls g l := by
  induction l with
  | nil => exact Nat.le_refl _
  | cons a l ih => exact Nat.add_le_add (h a) ih
theorem td_cnt_le {K : Nat} (hK : K ∈ td_shapes) (i : Nat) : td_cnt i (td_lit K) ≤ 35 := by
  have h : ((td_lit K).all (fun e => Nat.ble e (49 * td_n K)) && Nat.ble (td_ls (fun _ => 1) (td_lit K)) 35) = true := td_cap td_lit_b hK
  rw [Bool.and_eq_true, Nat.ble_eq] at h
  exact Nat.le_trans (td_ls_le (fun a => by by_cases e : a = i <;> simp [e]) _) h.2
theorem td_cnt_z {l : List Nat} {i : Nat} (h : ∀ e, e ∈ l → e ≠ i) : td_cnt i l = 0 := by
  induction l with
  | nil => rfl
  | cons a l ih =>
    show (if a = i then 1 else 0) + td_cnt i l = 0
    rw [if_neg (h a List.mem_cons_self), ih (fun e he => h e (List.mem_cons_of_mem _ he))]
theorem td_cnt_hi {K : Nat} (hK : K ∈ td_shapes) {i : Nat} (h : 0 < td_cnt i (td_lit K)) : i ≤ 49 * td_n K := by
  by_cases c : i ≤ 49 * td_n K
  · exact c
  · rw [td_cnt_z (l := td_lit K) (i := i) (fun e he q => c (by rw [← q]; exact td_lit_le hK he))] at h
    exact absurd h (Nat.lt_irrefl 0)
theorem td_F_eq {K : Nat} (hK : K ∈ td_shapes) {a b c : Nat} (ha : a ≤ 6) (hb : b ≤ 6) (hc : c ≤ 6) : td_F K a 0 b 0 c 0 = td_cnt (49 * a + 7 * b + c) (td_lit K) := by
  have h : (List.range 343).all (fun i => Nat.beq (td_cnt i (td_lit K)) (td_F K (i / 49) 0 (i / 7 % 7) 0 (i % 7) 0)) = true := td_cap td_F_c hK
  have g : Nat.beq (td_cnt (49 * a + 7 * b + c) (td_lit K)) (td_F K ((49 * a + 7 * b + c) / 49) 0 ((49 * a + 7 * b + c) / 7 % 7) 0 ((49 * a + 7 * b + c) % 7) 0) = true := List.all_eq_true.mp h _ (List.mem_range.mpr (by omega))
  rw [Nat.beq_eq, show (49 * a + 7 * b + c) / 49 = a by omega, show (49 * a + 7 * b + c) / 7 % 7 = b by omega, show (49 * a + 7 * b + c) % 7 = c by omega] at g
  exact g.symm
theorem td_fil_eq {K : Nat} (hK : K ∈ td_shapes) : td_sum (fun c => if td_con c = true then td_F K (c / 100) 0 (c / 10 % 10) 0 (c % 10) 0 else 0) 667 = td_sum (fun i => td_cnt i (td_lit K)) 343 := by
  have h : Nat.beq (td_sum (fun c => if td_con c = true then td_F K (c / 100) 0 (c / 10 % 10) 0 (c % 10) 0 else 0) 667) (td_ls (fun _ => 1) (td_lit K)) = true := td_cap td_fil_c hK
  rw [Nat.beq_eq] at h
  rw [h, ← td_cs (fun _ => 1) 343 (td_lit K) (fun e he => td_lit_lt hK he)]
  exact td_sum_congr (fun i _ => Nat.mul_one _)
theorem td_mm_f {K B s : Nat} (hK : K ∈ td_shapes) (hB : B ∈ td_shapes) (hs : s ∈ td_shapes) (hn : td_n K + td_n B ≤ 6) :
    td_od K B s ≤ td_ev K B s ∧ td_ev K B s ≤ 100 ∧ (td_n s = td_n K + td_n B ∨ td_ev K B s = 0) := by
  have h1 : td_shapes.all (fun B => Nat.ble 7 (td_n K + td_n B) || td_shapes.all (fun s => Nat.ble (td_od K B s) (td_ev K B s) && (Nat.ble (td_ev K B s) 100 && (Nat.beq (td_n s) (td_n K + td_n B) || Nat.beq (td_ev K B s) 0)))) = true := td_cap td_mm_c hK
  have h2 : (Nat.ble 7 (td_n K + td_n B) || td_shapes.all (fun s => Nat.ble (td_od K B s) (td_ev K B s) && (Nat.ble (td_ev K B s) 100 && (Nat.beq (td_n s) (td_n K + td_n B) || Nat.beq (td_ev K B s) 0)))) = true := td_cap h1 hB
  rw [Bool.or_eq_true, Nat.ble_eq] at h2
  have h3 := h2.resolve_left (by omega)
  have h4 : (Nat.ble (td_od K B s) (td_ev K B s) && (Nat.ble (td_ev K B s) 100 && (Nat.beq (td_n s) (td_n K + td_n B) || Nat.beq (td_ev K B s) 0))) = true := td_cap h3 hs
  rw [Bool.and_eq_true, Bool.and_eq_true, Bool.or_eq_true, Nat.ble_eq, Nat.ble_eq, Nat.beq_eq, Nat.beq_eq] at h4
  exact h4
theorem td_mm_z {K B s : Nat} (hK : K ∈ td_shapes) (hB : B ∈ td_shapes) (hs : s ∈ td_shapes) (hn : td_n K + td_n B ≤ 6) (h : td_n s ≠ td_n K + td_n B) : td_mm K B s = 0 := by
  have f := td_mm_f hK hB hs hn
  unfold td_mm
  omega
theorem td_mm_le {K B s : Nat} (hK : K ∈ td_shapes) (hB : B ∈ td_shapes) (hs : s ∈ td_shapes) (hn : td_n K + td_n B ≤ 6) : td_mm K B s ≤ 100 := by
  have f := td_mm_f hK hB hs hn
  unfold td_mm
  omega
theorem td_tri {s t : Nat} (hs : s ∈ td_shapes) (ht : t ∈ td_shapes) (hn : td_n t = td_n s) (h : t ≤ s) : td_cnt (td_A s) (td_lit t) = if Nat.beq s t = true then 1 else 0 := by
  have h1 : td_shapes.all (fun t => !(Nat.beq (td_n t) (td_n s)) || (Nat.ble (s + 1) t || Nat.beq (td_cnt (td_A s) (td_lit t)) (if Nat.beq s t = true then 1 else 0))) = true := td_cap td_tri_c hs
  have h2 : (!(Nat.beq (td_n t) (td_n s)) || (Nat.ble (s + 1) t || Nat.beq (td_cnt (td_A s) (td_lit t)) (if Nat.beq s t = true then 1 else 0))) = true := td_cap h1 ht
  have h3 : Nat.beq (td_n t) (td_n s) = true := by rw [Nat.beq_eq]; exact hn
  rw [h3, Bool.or_eq_true, Bool.or_eq_true, Nat.ble_eq] at h2
  exact Nat.eq_of_beq_eq_true ((h2.resolve_left (by decide)).resolve_left (by omega))
def td_PP (K B x : Nat) : Nat := td_sum (fun i => td_sum (fun j => if i + j = x then td_cnt i (td_lit K) * td_cnt j (td_lit B) else 0) 343) 343
def td_RR (K B s x : Nat) : Nat := td_sum (fun t => if (td_shp t && Nat.beq (td_n t) (td_n K + td_n B)) = true then td_mm K B t * td_cnt x (td_lit t) else 0) s
def td_TT (K B s : Nat) : Nat := td_sum (fun t => if (td_shp t && Nat.beq (td_n t) (td_n K + td_n B)) = true then td_mm K B t else 0) s
theorem td_PP_ls {K B : Nat} (hK : K ∈ td_shapes) (hB : B ∈ td_shapes) (x : Nat) : td_PP K B x = td_cnt x ((td_lit K).flatMap (fun i => (td_lit B).map (fun j => i + j))) := by
  unfold td_cnt
  rw [td_ls_flat]
  rw [← td_cs _ 343 (td_lit K) (fun e he => td_lit_lt hK he)]
  unfold td_PP
  refine td_sum_congr (fun i _ => ?_)
  show td_sum (fun j => if i + j = x then td_cnt i (td_lit K) * td_cnt j (td_lit B) else 0) 343 = td_cnt i (td_lit K) * td_ls (fun e => if e = x then 1 else 0) ((td_lit B).map (fun j => i + j))
  rw [td_ls_map, ← td_cs _ 343 (td_lit B) (fun e he => td_lit_lt hB he), ← td_sum_ml]
  refine td_sum_congr (fun j _ => ?_)
  show (if i + j = x then td_cnt i (td_lit K) * td_cnt j (td_lit B) else 0) = td_cnt i (td_lit K) * (td_cnt j (td_lit B) * (if i + j = x then 1 else 0))
  by_cases e : i + j = x
  · rw [if_pos e, if_pos e, Nat.mul_one]
  · rw [if_neg e, if_neg e, Nat.mul_zero, Nat.mul_zero]
theorem td_PP_RR {K B : Nat} (hK : K ∈ td_shapes) (hB : B ∈ td_shapes) (hn : td_n K + td_n B ≤ 6) (x : Nat) : td_PP K B x = td_RR K B 601 x := by
  have h1 : td_shapes.all (fun B => Nat.ble 7 (td_n K + td_n B) || List.isPerm ((td_lit K).flatMap (fun i => (td_lit B).map (fun j => i + j))) (td_shapes.flatMap (fun s => td_rep (td_mm K B s) (td_lit s)))) = true := td_cap td_pm_c hK
  have h2 : (Nat.ble 7 (td_n K + td_n B) || List.isPerm ((td_lit K).flatMap (fun i => (td_lit B).map (fun j => i + j))) (td_shapes.flatMap (fun s => td_rep (td_mm K B s) (td_lit s)))) = true := td_cap h1 hB
  rw [Bool.or_eq_true, Nat.ble_eq] at h2
  have h3 := List.isPerm_iff.mp (h2.resolve_left (by omega))
  have h4 : td_cnt x ((td_lit K).flatMap (fun i => (td_lit B).map (fun j => i + j))) = td_cnt x (td_shapes.flatMap (fun s => td_rep (td_mm K B s) (td_lit s))) := td_ls_perm _ h3
  rw [td_PP_ls hK hB, h4]
  unfold td_cnt
  rw [td_ls_flat, ← td_sel_601, ← td_sel_ls]
  unfold td_RR
  refine td_sum_congr (fun t _ => ?_)
  show (if td_shp t = true then td_ls (fun e => if e = x then 1 else 0) (td_rep (td_mm K B t) (td_lit t)) else 0) = (if (td_shp t && Nat.beq (td_n t) (td_n K + td_n B)) = true then td_mm K B t * td_cnt x (td_lit t) else 0)
  by_cases c : td_shp t = true
  · rw [if_pos c, td_rep_ls, c]
    by_cases d : td_n t = td_n K + td_n B
    · rw [if_pos (by rw [Bool.true_and, Nat.beq_eq]; exact d)]
      rfl
    · rw [if_neg (by rw [Bool.true_and, Nat.beq_eq]; exact d), td_mm_z hK hB (td_shp_mem c) hn d, Nat.zero_mul]
  · rw [if_neg c, if_neg (by rw [Bool.and_eq_true]; exact fun q => c q.1)]
theorem td_RR_y {K B s : Nat} (x : Nat) (c : td_shp s = true) (d : td_n s = td_n K + td_n B) : td_RR K B (s + 1) x = td_RR K B s x + td_mm K B s * td_cnt x (td_lit s) := by
  show td_RR K B s x + (if (td_shp s && Nat.beq (td_n s) (td_n K + td_n B)) = true then td_mm K B s * td_cnt x (td_lit s) else 0) = _
  rw [if_pos (by rw [c, Bool.true_and, Nat.beq_eq]; exact d)]
theorem td_RR_n {K B s : Nat} (x : Nat) (c : ¬ (td_shp s = true ∧ td_n s = td_n K + td_n B)) : td_RR K B (s + 1) x = td_RR K B s x := by
  show td_RR K B s x + (if (td_shp s && Nat.beq (td_n s) (td_n K + td_n B)) = true then td_mm K B s * td_cnt x (td_lit s) else 0) = _
  rw [if_neg (by rw [Bool.and_eq_true, Nat.beq_eq]; exact c), Nat.add_zero]
theorem td_TT_y {K B s : Nat} (c : td_shp s = true) (d : td_n s = td_n K + td_n B) : td_TT K B (s + 1) = td_TT K B s + td_mm K B s := by
  show td_TT K B s + (if (td_shp s && Nat.beq (td_n s) (td_n K + td_n B)) = true then td_mm K B s else 0) = _
  rw [if_pos (by rw [c, Bool.true_and, Nat.beq_eq]; exact d)]
theorem td_TT_n {K B s : Nat} (c : ¬ (td_shp s = true ∧ td_n s = td_n K + td_n B)) : td_TT K B (s + 1) = td_TT K B s := by
  show td_TT K B s + (if (td_shp s && Nat.beq (td_n s) (td_n K + td_n B)) = true then td_mm K B s else 0) = _
  rw [if_neg (by rw [Bool.and_eq_true, Nat.beq_eq]; exact c), Nat.add_zero]
theorem td_RR_at {K B s : Nat} (c : td_shp s = true) (d : td_n s = td_n K + td_n B) : td_RR K B (s + 1) (td_A s) = td_mm K B s := by
  rw [td_RR_y _ c d, td_tri (td_shp_mem c) (td_shp_mem c) rfl (Nat.le_refl s), if_pos (by rw [Nat.beq_eq]), Nat.mul_one]
  have z : td_RR K B s (td_A s) = 0 := by
    refine td_sum_zero (fun t ht => ?_)
    by_cases e : (td_shp t && Nat.beq (td_n t) (td_n K + td_n B)) = true
    · rw [if_pos e]
      rw [Bool.and_eq_true, Nat.beq_eq] at e
      rw [td_tri (td_shp_mem c) (td_shp_mem e.1) (by rw [e.2, d]) (by omega), if_neg (by rw [Nat.beq_eq]; omega), Nat.mul_zero]
    · rw [if_neg e]
  rw [z, Nat.zero_add]
theorem td_TT_X {K B : Nat} (hK : K ∈ td_shapes) (hB : B ∈ td_shapes) (hn : td_n K + td_n B ≤ 6) : td_sum (fun t => if td_shp t = true then td_mm K B t else 0) 601 = td_TT K B 601 := by
  refine td_sum_congr (fun t _ => ?_)
  by_cases c : td_shp t = true
  · rw [if_pos c, c]
    by_cases d : td_n t = td_n K + td_n B
    · rw [if_pos (by rw [Bool.true_and, Nat.beq_eq]; exact d)]
    · rw [if_neg (by rw [Bool.true_and, Nat.beq_eq]; exact d), td_mm_z hK hB (td_shp_mem c) hn d]
  · rw [if_neg c, if_neg (by rw [Bool.and_eq_true]; exact fun q => c q.1)]
def td_gr (K B : Nat) : Nat → Nat
  | 0 => 0
  | s + 1 => if td_shp s = true ∧ 0 < td_mm K B s then s else td_gr K B s
end
section
theorem td_e100 {j : Nat} (hj : j < 2 ^ 31) : nI j / 100 = nI (j / 100) := pk_div (d := 100) hj (by decide) (by decide)
theorem td_e10 {j : Nat} (hj : j < 2 ^ 31) : nI j / 10 - nI j / 10 / 10 * 10 = nI (j / 10 % 10) := by
  have a : nI j / 10 = nI (j / 10) := pk_div (d := 10) hj (by decide) (by decide)
  rw [a]
  exact pk_rem (d := 10) (by omega) (by decide) (by decide)
theorem td_e1 {j : Nat} (hj : j < 2 ^ 31) : nI j - nI j / 10 * 10 = nI (j % 10) := pk_rem (d := 10) hj (by decide) (by decide)
theorem td_xd0 {post : Int32 → Prop} {j : Nat} (hj : j < 2 ^ 31) (h : post (nI (j / 100))) : wpX_digit post (nI j) 0 := by
  unfold wpX_digit
  refine br_t rfl ⟨by decide, ?_⟩
  rw [td_e100 hj]
  exact h
theorem td_xd1 {post : Int32 → Prop} {j : Nat} (hj : j < 2 ^ 31) (h : post (nI (j / 10 % 10))) : wpX_digit post (nI j) 1 := by
  unfold wpX_digit
  refine br_f (by decide) (br_t rfl ⟨by decide, by decide, ?_⟩)
  rw [td_e10 hj]
  exact h
theorem td_xd2 {post : Int32 → Prop} {j : Nat} (hj : j < 2 ^ 31) (h : post (nI (j % 10))) : wpX_digit post (nI j) 2 := by
  unfold wpX_digit
  refine br_f (by decide) (br_f (by decide) ⟨by decide, ?_⟩)
  rw [td_e1 hj]
  exact h
theorem td_add3 {a b c : Nat} : nI a + nI b + nI c = nI (a + b + c) := by rw [nI_add, nI_add]
theorem td_xsh1 {post : Int32 → Prop} {j : Nat} (hs : td_shp j = true) (h : post 1) : wpX_isShape post (nI j) := by
  have hj := td_shp_le hs
  have hq := (td_shp_iff j).mp hs
  unfold td_n at hq
  unfold wpX_isShape
  refine br_f (nI_pos (by omega)) (br_t (nI_le (b := 600) hj (by decide)) ?_)
  refine td_xd0 (by omega) (td_xd1 (by omega) (td_xd2 (by omega) ?_))
  refine pk_lt (j / 100) (j / 10 % 10) (fun z => absurd z (by omega)) (fun _ => ?_)
  refine pk_lt (j / 10 % 10) (j % 10) (fun z => absurd z (by omega)) (fun _ => ?_)
  exact pk_lt 6 (j / 100 + j / 10 % 10 + j % 10) (fun z => absurd z (by omega)) (fun _ => h) rfl td_add3
theorem td_xsh0 {post : Int32 → Prop} {x : Int32} (hx : ∀ j, td_shp j = true → x ≠ nI j) (h : post 0) : wpX_isShape post x := by
  unfold wpX_isShape
  refine br_c (fun _ => h) (fun h0 => br_c (fun h6 => ?_) (fun _ => h))
  obtain ⟨j, hj, rfl⟩ := nI_of h0
  have h7 : j ≤ 600 := (nI_leI (b := 600) hj (by decide)).mp h6
  refine td_xd0 (by omega) (td_xd1 (by omega) (td_xd2 (by omega) ?_))
  refine pk_lt (j / 100) (j / 10 % 10) (fun _ => h) (fun z1 => ?_)
  refine pk_lt (j / 10 % 10) (j % 10) (fun _ => h) (fun z2 => ?_)
  exact pk_lt 6 (j / 100 + j / 10 % 10 + j % 10) (fun _ => h) (fun z3 => absurd rfl (hx j ((td_shp_iff j).mpr ⟨z1, z2, z3⟩))) rfl td_add3
theorem td_ysh1 {post : Int32 → Prop} {j : Nat} (hs : td_shp j = true) (h : post 1) : wpY_isShape post (nI j) := by
  have hj := td_shp_le hs
  have hq := (td_shp_iff j).mp hs
  unfold td_n at hq
  have h3 : j < 2 ^ 31 := by omega
  unfold wpY_isShape
  refine ⟨by decide, nm_r (td_e100 h3) ⟨by decide, by decide, nm_r (td_e10 h3) ⟨by decide, nm_r (td_e1 h3) ?_⟩⟩⟩
  refine br_f (nI_pos (by omega)) ?_
  refine pk_lt (j / 100) (j / 10 % 10) (fun z => absurd z (by omega)) (fun _ => ?_)
  refine pk_lt (j / 10 % 10) (j % 10) (fun z => absurd z (by omega)) (fun _ => ?_)
  exact pk_lt 6 (j / 100 + j / 10 % 10 + j % 10) (fun z => absurd z (by omega)) (fun _ => h) rfl td_add3
theorem td_ysh0 {post : Int32 → Prop} {x : Int32} (hx : ∀ j, td_shp j = true → x ≠ nI j) (h : post 0) : wpY_isShape post x := by
  unfold wpY_isShape
  refine ⟨by decide, fun x1 e1 => ⟨by decide, by decide, fun x2 e2 => ⟨by decide, fun x3 e3 => br_c (fun _ => h) (fun h0 => ?_)⟩⟩⟩
  obtain ⟨j, hj, rfl⟩ := nI_of h0
  rw [td_e100 hj] at e1
  rw [td_e10 hj] at e2
  rw [td_e1 hj] at e3
  subst e1 e2 e3
  refine pk_lt (j / 100) (j / 10 % 10) (fun _ => h) (fun z1 => ?_)
  refine pk_lt (j / 10 % 10) (j % 10) (fun _ => h) (fun z2 => ?_)
  exact pk_lt 6 (j / 100 + j / 10 % 10 + j % 10) (fun _ => h) (fun z3 => absurd rfl (hx j ((td_shp_iff j).mpr ⟨z1, z2, z3⟩))) rfl td_add3
theorem td_xco {post : Int32 → Prop} {j : Nat} (hj : j < 2 ^ 31) (h : post (nI (td_n j))) : wpX_cellsOf post (nI j) := by
  unfold wpX_cellsOf
  refine td_xd0 hj (td_xd1 hj (td_xd2 hj ?_))
  rw [td_add3]
  exact h
theorem td_ysz {post : Int32 → Prop} {j : Nat} (hj : j < 2 ^ 31) (h : post (nI (td_n j))) : wpY_size post (nI j) := by
  unfold wpY_size
  refine ⟨by decide, by decide, by decide, by decide, ?_⟩
  rw [td_e100 hj, td_e10 hj, td_e1 hj, td_add3]
  exact h
def td_dg (K i : Nat) : Nat := if i = 0 then K / 100 else if i = 1 then K / 10 % 10 else K % 10
theorem td_i0 {i : Nat} (hi : i < 2 ^ 31) : nI i = 0 ↔ i = 0 := nI_eq (b := 0) hi (by decide)
theorem td_i1 {i : Nat} (hi : i < 2 ^ 31) : nI i = 1 ↔ i = 1 := nI_eq (b := 1) hi (by decide)
theorem td_xdg {post : Int32 → Prop} {K i : Nat} (hK : K < 2 ^ 31) (hi : i < 2 ^ 31) (h : post (nI (td_dg K i))) : wpX_digit post (nI K) (nI i) := by
  unfold wpX_digit
  unfold td_dg at h
  rw [td_i0 hi, td_i1 hi, td_e100 hK, td_e10 hK, td_e1 hK]
  refine br_c (fun z => ⟨by decide, ?_⟩) (fun z => br_c (fun z2 => ⟨by decide, by decide, ?_⟩) (fun z2 => ⟨by decide, ?_⟩))
  · rw [if_pos z] at h; exact h
  · rw [if_neg z, if_pos z2] at h; exact h
  · rw [if_neg z, if_neg z2] at h; exact h
theorem td_yrow {post : Int32 → Prop} {K i : Nat} (hK : K < 2 ^ 31) (hi : i < 2 ^ 31) (h : post (nI (td_dg K i))) : wpY_rowOf post (nI K) (nI i) := by
  unfold wpY_rowOf
  unfold td_dg at h
  rw [td_i0 hi, td_i1 hi, td_e100 hK, td_e10 hK, td_e1 hK]
  refine br_c (fun z => ⟨by decide, ?_⟩) (fun z => br_c (fun z2 => ⟨by decide, by decide, ?_⟩) (fun z2 => ⟨by decide, ?_⟩))
  · rw [if_pos z] at h; exact h
  · rw [if_neg z, if_pos z2] at h; exact h
  · rw [if_neg z, if_neg z2] at h; exact h
end
section
theorem td_ai {x y : Int32} {a b : Int} (hx : x.toInt = a) (hy : y.toInt = b) (h1 : -100000 ≤ a + b) (h2 : a + b ≤ 100000) : (x + y).toInt = a + b := by
  rw [Int32.toInt_add, hx, hy]
  exact Int.bmod_eq_of_le (by omega) (by omega)
theorem td_si {x y : Int32} {a b : Int} (hx : x.toInt = a) (hy : y.toInt = b) (h1 : -100000 ≤ a - b) (h2 : a - b ≤ 100000) : (x - y).toInt = a - b := by
  rw [Int32.toInt_sub, hx, hy]
  exact Int.bmod_eq_of_le (by omega) (by omega)
theorem td_lz {x y : Int32} {a b : Int} (hx : x.toInt = a) (hy : y.toInt = b) : x < y ↔ a < b := by
  rw [Int32.lt_iff_toInt_lt, hx, hy]
theorem td_fg_iff (p1 p2 u1 v1 u2 v2 q : Nat) : td_fg p1 p2 u1 v1 u2 v2 q = true ↔ p2 + (v1 + v2 + q) ≤ u1 + u2 ∧ u1 + u2 ≤ p1 + (v1 + v2 + q) ∧ u2 ≤ v2 + q ∧ u1 ≤ v1 + q := by
  unfold td_fg
  rw [Bool.and_eq_true, Bool.and_eq_true, Bool.and_eq_true, Nat.ble_eq, Nat.ble_eq, Nat.ble_eq, Nat.ble_eq]
theorem td_fs_s (p1 p2 u1 v1 u2 v2 i : Nat) : td_fs p1 p2 u1 v1 u2 v2 (i + 1) = td_fs p1 p2 u1 v1 u2 v2 i + (if td_fg p1 p2 u1 v1 u2 v2 (p1 + i) = true then 1 else 0) := rfl
theorem td_xfl {post : Int32 → Prop} {p0 p1 p2 u1 v1 u2 v2 : Nat} {c1 c2 : Int32} (b0 : p0 ≤ 1000) (b1 : p1 ≤ 1000) (b2 : p2 ≤ 1000) (b3 : u1 ≤ 1000) (b4 : v1 ≤ 1000) (b5 : u2 ≤ 1000) (b6 : v2 ≤ 1000)
    (h1 : c1.toInt = (u1 : Int) - v1) (h2 : c2.toInt = (u2 : Int) - v2) : ∀ (d i : Nat), p1 + i + d = p0 + 1 → post (nI (td_fs p1 p2 u1 v1 u2 v2 (i + d))) →
    wX_fillingsOf_42 post c1 c2 (nI p0) (nI p1) (nI p2) (d + 1) (nI (td_fs p1 p2 u1 v1 u2 v2 i)) (nI (p1 + i)) := by
  intro d
  induction d with
  | zero =>
    intro i hi h
    exact br_t (nI_lt (by omega) (by omega)) h
  | succ d ih =>
    intro i hi h
    refine br_f (nI_nlt (by omega) (by omega)) (fun y ey => ?_)
    have t0 : (nI (p1 + i)).toInt = ((p1 + i : Nat) : Int) := nI_toInt (by omega)
    have hy : y.toInt = ((u1 : Int) - v1) + ((u2 : Int) - v2) - ((p1 + i : Nat) : Int) := by
      rw [ey]
      exact td_si (td_ai h1 h2 (by omega) (by omega)) t0 (by omega) (by omega)
    have t1 : (nI p1).toInt = ((p1 : Nat) : Int) := nI_toInt (by omega)
    have t2 : (nI p2).toInt = ((p2 : Nat) : Int) := nI_toInt (by omega)
    have k := ih (i + 1) (by omega) (by rw [show i + 1 + d = i + (d + 1) by omega]; exact h)
    have e1 : nI (p1 + i) + 1 = nI (p1 + (i + 1)) := nI_1 (p1 + i)
    rw [td_fs_s] at k
    rw [td_lz hy t2, td_lz t1 hy, td_lz h1 hy, td_lz t0 h1]
    by_cases g : td_fg p1 p2 u1 v1 u2 v2 (p1 + i) = true
    · rw [if_pos g] at k
      rw [td_fg_iff] at g
      exact br_f (by omega) (br_f (by omega) (br_f (by omega) (br_f (by omega) (nm_r (nI_1 _) (nm_r e1 k)))))
    · rw [if_neg g] at k
      rw [td_fg_iff] at g
      exact br_c (fun _ => nm_r e1 k) (fun z1 => br_c (fun _ => nm_r e1 k) (fun z2 => br_c (fun _ => nm_r e1 k) (fun z3 => br_c (fun _ => nm_r e1 k) (fun z4 => absurd (by omega) g))))
theorem td_xfo {post : Int32 → Prop} {B u1 v1 u2 v2 u3 v3 : Nat} {c1 c2 c3 : Int32} (hB : td_shp B = true) (b3 : u1 ≤ 1000) (b4 : v1 ≤ 1000) (b5 : u2 ≤ 1000) (b6 : v2 ≤ 1000) (b7 : u3 ≤ 1000) (b8 : v3 ≤ 1000)
    (h1 : c1.toInt = (u1 : Int) - v1) (h2 : c2.toInt = (u2 : Int) - v2) (h3 : c3.toInt = (u3 : Int) - v3) (h : post (nI (td_F B u1 v1 u2 v2 u3 v3))) : wpX_fillingsOf post (nI B) c1 c2 c3 := by
  have hj := td_shp_le hB
  have hq := (td_shp_iff B).mp hB
  have hs : (c1 + c2 + c3).toInt = ((u1 : Int) - v1) + ((u2 : Int) - v2) + ((u3 : Int) - v3) := td_ai (td_ai h1 h2 (by omega) (by omega)) h3 (by omega) (by omega)
  have hn : (nI (td_n B)).toInt = ((td_n B : Nat) : Int) := nI_toInt (by omega)
  unfold wpX_fillingsOf
  refine td_xco (by omega) ?_
  by_cases e : u1 + u2 + u3 = td_n B + (v1 + v2 + v3)
  · have E : c1 + c2 + c3 = nI (td_n B) := Int32.toInt_inj.mp (by rw [hs, hn]; omega)
    refine br_t E (td_xd0 (by omega) (td_xd1 (by omega) (td_xd2 (by omega) ?_)))
    unfold td_F at h
    rw [if_pos (by rw [Nat.beq_eq]; exact e)] at h
    have l := td_xfl (post := post) (p0 := B / 100) (p1 := B / 10 % 10) (p2 := B % 10) (by omega) (by omega) (by omega) b3 b4 b5 b6 h1 h2 (B / 100 + 1 - B / 10 % 10) 0 (by omega) (by rw [Nat.zero_add]; exact h)
    exact ⟨_, l⟩
  · unfold td_F at h
    rw [if_neg (by rw [Nat.beq_eq]; exact e)] at h
    refine br_f (fun E => e ?_) h
    rw [E, hn] at hs
    omega
theorem td_xfw {post : Int32 → Prop} {K c : Nat} (hK : td_shp K = true) (hc : c ≤ 700) (h : post (nI (td_F K (c / 100) 0 (c / 10 % 10) 0 (c % 10) 0))) : wpX_fillingsWithWritten post (nI K) (nI c) := by
  unfold wpX_fillingsWithWritten
  refine td_xd0 (by omega) (td_xd1 (by omega) (td_xd2 (by omega) ?_))
  refine td_xfo hK (u1 := c / 100) (v1 := 0) (u2 := c / 10 % 10) (v2 := 0) (u3 := c % 10) (v3 := 0) (by omega) (by omega) (by omega) (by omega) (by omega) (by omega) ?_ ?_ ?_ h
  · rw [nI_toInt (by omega)]; omega
  · rw [nI_toInt (by omega)]; omega
  · rw [nI_toInt (by omega)]; omega
theorem td_xtp {post : Int32 → Prop} {K B s : Nat} (hK : td_shp K = true) (hB : td_shp B = true) (hs : td_shp s = true) (hn : td_n K + td_n B ≤ 6) (h : post (nI (td_mm K B s))) : wpX_timesInProduct post (nI K) (nI B) (nI s) := by
  have k1 := td_shp_le hK
  have k3 := td_shp_le hs
  have f := td_mm_f (td_shp_mem hK) (td_shp_mem hB) (td_shp_mem hs) hn
  have a0 : nI (K / 100) + 2 = nI (K / 100 + 2) := nI_add _ 2
  have a1 : nI (K / 10 % 10) + 1 = nI (K / 10 % 10 + 1) := nI_1 _
  have c0 : nI (s / 100) + 2 = nI (s / 100 + 2) := nI_add _ 2
  have c1 : nI (s / 10 % 10) + 1 = nI (s / 10 % 10 + 1) := nI_1 _
  have q : ∀ {a b : Nat}, a ≤ 1000 → b ≤ 1000 → (nI a - nI b).toInt = (a : Int) - b := fun ha hb => pk_sub_toInt (by omega) (by omega)
  unfold wpX_timesInProduct
  refine td_xd0 (by omega) (nm_r a0 (td_xd1 (by omega) (nm_r a1 (td_xd2 (by omega) ?_))))
  refine td_xd0 (by omega) (nm_r c0 (td_xd1 (by omega) (nm_r c1 (td_xd2 (by omega) ?_))))
  refine td_xfo hB (by omega) (by omega) (by omega) (by omega) (by omega) (by omega) (q (by omega) (by omega)) (q (by omega) (by omega)) (q (by omega) (by omega)) ?_
  refine td_xfo hB (by omega) (by omega) (by omega) (by omega) (by omega) (by omega) (q (by omega) (by omega)) (q (by omega) (by omega)) (q (by omega) (by omega)) ?_
  refine td_xfo hB (by omega) (by omega) (by omega) (by omega) (by omega) (by omega) (q (by omega) (by omega)) (q (by omega) (by omega)) (q (by omega) (by omega)) ?_
  refine nm_r td_add3 ?_
  refine td_xfo hB (by omega) (by omega) (by omega) (by omega) (by omega) (by omega) (q (by omega) (by omega)) (q (by omega) (by omega)) (q (by omega) (by omega)) ?_
  refine td_xfo hB (by omega) (by omega) (by omega) (by omega) (by omega) (by omega) (q (by omega) (by omega)) (q (by omega) (by omega)) (q (by omega) (by omega)) ?_
  refine td_xfo hB (by omega) (by omega) (by omega) (by omega) (by omega) (by omega) (q (by omega) (by omega)) (q (by omega) (by omega)) (q (by omega) (by omega)) ?_
  refine nm_r td_add3 ?_
  have g : nI (td_ev K B s) - nI (td_od K B s) = nI (td_mm K B s) := pk_sub f.1
  rw [← g] at h
  exact h
def td_fx (K c : Nat) : Nat := if td_con c = true then td_F K (c / 100) 0 (c / 10 % 10) 0 (c % 10) 0 else 0
theorem td_con_iff (c : Nat) : td_con c = true ↔ c / 10 % 10 ≤ 6 ∧ c % 10 ≤ 6 := by
  unfold td_con
  rw [Bool.and_eq_true, Nat.ble_eq, Nat.ble_eq]
theorem td_xic1 {post : Int32 → Prop} {j : Nat} (hj : j ≤ 666) (hc : td_con j = true) (h : post 1) : wpX_isContent post (nI j) := by
  rw [td_con_iff] at hc
  unfold wpX_isContent
  refine br_f (nI_pos (by omega)) (br_f (nI_nlt (a := 666) hj (by decide)) (td_xd1 (by omega) ?_))
  refine pk_lt 6 (j / 10 % 10) (fun z => absurd z (by omega)) (fun _ => td_xd2 (by omega) ?_)
  exact pk_lt 6 (j % 10) (fun z => absurd z (by omega)) (fun _ => h)
theorem td_xic0 {post : Int32 → Prop} {x : Int32} (hx : ∀ j, j ≤ 666 → td_con j = true → x ≠ nI j) (h : post 0) : wpX_isContent post x := by
  unfold wpX_isContent
  refine br_c (fun _ => h) (fun h0 => br_c (fun _ => h) (fun h6 => ?_))
  obtain ⟨j, hj, rfl⟩ := nI_of h0
  have h7 : j ≤ 666 := Nat.not_lt.mp (fun z => h6 (nI_lt (a := 666) z hj))
  refine td_xd1 (by omega) ?_
  refine pk_lt 6 (j / 10 % 10) (fun _ => h) (fun z1 => td_xd2 (by omega) ?_)
  exact pk_lt 6 (j % 10) (fun _ => h) (fun z2 => absurd rfl (hx j h7 ((td_con_iff j).mpr ⟨z1, z2⟩)))
theorem td_xfi {post : Int32 → Prop} {K : Nat} (hK : td_shp K = true) : ∀ (d i : Nat), i + d = 667 → post (nI (td_sum (td_fx K) 667)) → wX_fillings_4 post (nI K) (d + 1) (nI (td_sum (td_fx K) i)) (nI i) := by
  intro d
  induction d with
  | zero =>
    intro i hi h
    have e : i = 667 := by omega
    subst e
    exact br_t (nI_lt (a := 666) (by omega) (by omega)) h
  | succ d ih =>
    intro i hi h
    have k := ih (i + 1) (by omega) h
    have es : td_sum (td_fx K) (i + 1) = td_sum (td_fx K) i + td_fx K i := rfl
    rw [es] at k
    refine br_f (nI_nlt (a := 666) (by omega) (by omega)) ?_
    by_cases c : td_con i = true
    · have e : td_fx K i = td_F K (i / 100) 0 (i / 10 % 10) 0 (i % 10) 0 := if_pos c
      rw [e] at k
      refine td_xic1 (by omega) c (br_f (by decide) (td_xfw hK (by omega) ?_))
      exact nm_r (nI_add _ _) (nm_r (nI_1 i) k)
    · have e : td_fx K i = 0 := if_neg c
      rw [e] at k
      refine td_xic0 (fun j hj hc z => c ?_) (br_t rfl (nm_r (nI_1 i) k))
      have z2 := (nI_eq (by omega) (by omega)).mp z
      rw [z2]; exact hc
theorem td_xfil {post : Int32 → Prop} {K : Nat} (hK : td_shp K = true) (h : post (nI (td_sum (td_fx K) 667))) : wpX_fillings post (nI K) := ⟨_, td_xfi hK 667 0 rfl h⟩
theorem td_xcm1 {post : Int32 → Prop} {K B : Nat} (hK : td_shp K = true) (hB : td_shp B = true) (hn : td_n K + td_n B ≤ 6) (h : post 1) : wpX_canMultiply post (nI K) (nI B) := by
  have k1 := td_shp_le hK
  have k2 := td_shp_le hB
  unfold wpX_canMultiply
  refine td_xsh1 hB (br_f (by decide) (td_xco (by omega) (td_xco (by omega) ?_)))
  exact pk_lt 6 (td_n K + td_n B) (fun z => absurd z (by omega)) (fun _ => h) rfl (nI_add _ _)
theorem td_xcm0 {post : Int32 → Prop} {K : Nat} {x : Int32} (hK : td_shp K = true) (hx : ∀ B, td_shp B = true → td_n K + td_n B ≤ 6 → x ≠ nI B) (h : post 0) : wpX_canMultiply post (nI K) x := by
  have k1 := td_shp_le hK
  have k4 := (td_shp_iff K).mp hK
  unfold wpX_canMultiply
  by_cases c : ∃ B, td_shp B = true ∧ x = nI B
  · obtain ⟨B, hB, rfl⟩ := c
    have k2 := td_shp_le hB
    have k5 := (td_shp_iff B).mp hB
    refine td_xsh1 hB (br_f (by decide) (td_xco (by omega) (td_xco (by omega) ?_)))
    exact pk_lt 6 (td_n K + td_n B) (fun _ => h) (fun z => absurd rfl (hx B hB z)) rfl (nI_add _ _)
  · exact td_xsh0 (fun j hj e => c ⟨j, hj, e⟩) (br_t rfl h)
def td_px (K B t : Nat) : Nat := if td_shp t = true then td_mm K B t else 0
theorem td_xpl {post : Int32 → Prop} {K B : Nat} (hK : td_shp K = true) (hB : td_shp B = true) (hn : td_n K + td_n B ≤ 6) : ∀ (d i : Nat), i + d = 601 → post (nI (td_sum (td_px K B) 601)) → wX_parts_14 post (nI B) (nI K) (d + 1) (nI (td_sum (td_px K B) i)) (nI i) := by
  intro d
  induction d with
  | zero =>
    intro i hi h
    have e : i = 601 := by omega
    subst e
    exact br_t (nI_lt (a := 600) (by omega) (by omega)) h
  | succ d ih =>
    intro i hi h
    have k := ih (i + 1) (by omega) h
    have es : td_sum (td_px K B) (i + 1) = td_sum (td_px K B) i + td_px K B i := rfl
    rw [es] at k
    refine br_f (nI_nlt (a := 600) (by omega) (by omega)) ?_
    by_cases c : td_shp i = true
    · have e : td_px K B i = td_mm K B i := if_pos c
      rw [e] at k
      refine td_xsh1 c (br_f (by decide) (td_xtp hK hB c hn ?_))
      exact nm_r (nI_add _ _) (nm_r (nI_1 i) k)
    · have e : td_px K B i = 0 := if_neg c
      rw [e] at k
      refine td_xsh0 (fun j hj z => c ?_) (br_t rfl (nm_r (nI_1 i) k))
      have hj2 := td_shp_le hj
      have z2 := (nI_eq (by omega) (by omega)).mp z
      rw [z2]; exact hj
theorem td_xgl {post : Int32 → Prop} {K B : Nat} (hK : td_shp K = true) (hB : td_shp B = true) (hn : td_n K + td_n B ≤ 6) : ∀ (s : Nat), s ≤ 600 → post (nI (td_gr K B (s + 1))) → wX_greatest_14 post (nI B) (nI K) (s + 1) (nI s) := by
  intro s
  induction s with
  | zero =>
    intro _ h
    have e : td_gr K B (0 + 1) = 0 := by
      show (if td_shp 0 = true ∧ 0 < td_mm K B 0 then 0 else td_gr K B 0) = 0
      by_cases c : td_shp 0 = true ∧ 0 < td_mm K B 0
      · rw [if_pos c]
      · rw [if_neg c]; rfl
    rw [e] at h
    exact br_t (by decide) h
  | succ s ih =>
    intro hs h
    have es : td_gr K B (s + 1 + 1) = if td_shp (s + 1) = true ∧ 0 < td_mm K B (s + 1) then s + 1 else td_gr K B (s + 1) := rfl
    rw [es] at h
    refine br_f (nI_nle (by omega) (by omega)) ?_
    by_cases c : td_shp (s + 1) = true
    · refine td_xsh1 c (br_f (by decide) (td_xtp hK hB c hn ?_))
      have hm := td_mm_le (td_shp_mem hK) (td_shp_mem hB) (td_shp_mem c) hn
      refine pk_le (td_mm K B (s + 1)) 0 (fun z => ?_) (fun z => ?_)
      · rw [if_neg (by omega)] at h
        exact nm_r (pk_m1 s) (ih (by omega) h)
      · rw [if_pos ⟨c, z⟩] at h
        exact h
    · rw [if_neg (fun z => c z.1)] at h
      refine td_xsh0 (fun j hj z => c ?_) (br_t rfl (nm_r (pk_m1 s) (ih (by omega) h)))
      have hj2 := td_shp_le hj
      have z2 := (nI_eq (by omega) (by omega)).mp z
      rw [z2]; exact hj
end
section
def td_fa : Nat → Nat
  | 0 => 1
  | m + 1 => td_fa m * (m + 2)
def td_of (x : Nat) : Nat → Nat
  | 0 => x
  | m + 1 => td_of x m / (m + 2)
theorem td_of_le (x m : Nat) : td_of x m ≤ x := by
  induction m with
  | zero => exact Nat.le_refl x
  | succ m ih => exact Nat.le_trans (Nat.div_le_self _ _) ih
theorem td_xfal {post : Int32 → Prop} {n : Nat} (hn : n ≤ 1000) : ∀ (d m : Nat), m + d = n - 1 → post (nI (td_fa (n - 1))) → wX_factorial_4 post (nI n) (d + 1) (nI (td_fa m)) (nI (m + 2)) := by
  intro d
  induction d with
  | zero =>
    intro m hm h
    have e : m = n - 1 := by omega
    rw [e]
    exact br_t (nI_lt (by omega) (by omega)) h
  | succ d ih =>
    intro m hm h
    have k := ih (m + 1) (by omega) h
    exact br_f (nI_nlt (by omega) (by omega)) (nm_r (pk_mul _ _) (nm_r (nI_1 (m + 2)) k))
theorem td_xfac {post : Int32 → Prop} {n : Nat} (hn : n ≤ 1000) (h : post (nI (td_fa (n - 1)))) : wpX_factorial post (nI n) := ⟨_, td_xfal hn (n - 1) 0 (by omega) h⟩
theorem td_xofl {post : Int32 → Prop} {x n : Nat} (hx : x < 2 ^ 31) (hn : n ≤ 1000) : ∀ (d m : Nat), m + d = n - 1 → post (nI (td_of x (n - 1))) → wX_overFactorial_4 post (nI n) (d + 1) (nI (td_of x m)) (nI (m + 2)) := by
  intro d
  induction d with
  | zero =>
    intro m hm h
    have e : m = n - 1 := by omega
    rw [e]
    exact br_t (nI_lt (by omega) (by omega)) h
  | succ d ih =>
    intro m hm h
    have k := ih (m + 1) (by omega) h
    have l := td_of_le x m
    exact br_f (nI_nlt (by omega) (by omega)) ⟨nI_ne0 (by omega) (by omega), nm_r (pk_div (by omega) (by omega) (by omega)) (nm_r (nI_1 (m + 2)) k)⟩
theorem td_xovf {post : Int32 → Prop} {x n : Nat} (hx : x < 2 ^ 31) (hn : n ≤ 1000) (h : post (nI (td_of x (n - 1)))) : wpX_overFactorial post (nI x) (nI n) := ⟨_, td_xofl hx hn (n - 1) 0 (by omega) h⟩
def td_xw (K : Nat) : Nat := td_fa (td_n K - 1) * (K / 100 + 2 - (K / 10 % 10 + 1)) * (K / 100 + 2 - K % 10) * (K / 10 % 10 + 1 - K % 10)
def td_xo (K : Nat) : Nat := td_of (td_of (td_of (td_xw K) (K / 100 + 2 - 1)) (K / 10 % 10 + 1 - 1)) (K % 10 - 1)
theorem td_xw_c : td_shapes.all (fun K => Nat.ble (td_xw K) 1000000) = true := by decide +kernel
theorem td_xor {post : Int32 → Prop} {K : Nat} (hK : td_shp K = true) (h : post (nI (td_xo K))) : wpX_orders post (nI K) := by
  have k1 := td_shp_le hK
  have k2 := (td_shp_iff K).mp hK
  have w : Nat.ble (td_xw K) 1000000 = true := td_cap td_xw_c (td_shp_mem hK)
  rw [Nat.ble_eq] at w
  have a0 : nI (K / 100) + 2 = nI (K / 100 + 2) := nI_add _ 2
  have a1 : nI (K / 10 % 10) + 1 = nI (K / 10 % 10 + 1) := nI_1 _
  have e : nI (td_fa (td_n K - 1)) * (nI (K / 100 + 2) - nI (K / 10 % 10 + 1)) * (nI (K / 100 + 2) - nI (K % 10)) * (nI (K / 10 % 10 + 1) - nI (K % 10)) = nI (td_xw K) := by
    rw [pk_sub (by omega), pk_sub (by omega), pk_sub (by omega), pk_mul, pk_mul, pk_mul]
    rfl
  have l1 := td_of_le (td_xw K) (K / 100 + 2 - 1)
  have l2 := td_of_le (td_of (td_xw K) (K / 100 + 2 - 1)) (K / 10 % 10 + 1 - 1)
  unfold wpX_orders
  refine td_xd0 (by omega) (nm_r a0 (td_xd1 (by omega) (nm_r a1 (td_xd2 (by omega) ?_))))
  refine td_xco (by omega) (td_xfac (by omega) (nm_r e ?_))
  refine td_xovf (by omega) (by omega) (td_xovf (by omega) (by omega) (td_xovf (by omega) (by omega) ?_))
  exact h
def td_cl (K p i : Nat) : Nat := td_sum (fun i => if td_dg K i ≤ p then 0 else 1) i
theorem td_dg_le {K : Nat} (hK : td_shp K = true) (i : Nat) : td_dg K i ≤ 6 := by
  have k1 := td_shp_le hK
  have k2 := (td_shp_iff K).mp hK
  unfold td_n at k2
  unfold td_dg
  by_cases a : i = 0
  · rw [if_pos a]; omega
  · rw [if_neg a]
    by_cases b : i = 1
    · rw [if_pos b]; omega
    · rw [if_neg b]; omega
theorem td_xcll {post : Int32 → Prop} {K p : Nat} (hK : td_shp K = true) (hp : p ≤ 1000) : ∀ (d i : Nat), i + d = 3 → post (nI (td_cl K p 3)) → wX_columnLength_4 post (nI p) (nI K) (d + 1) (nI (td_cl K p i)) (nI i) := by
  have k1 := td_shp_le hK
  intro d
  induction d with
  | zero =>
    intro i hi h
    have e : i = 3 := by omega
    subst e
    exact br_t (by decide) h
  | succ d ih =>
    intro i hi h
    have k := ih (i + 1) (by omega) h
    have es : td_cl K p (i + 1) = td_cl K p i + (if td_dg K i ≤ p then 0 else 1) := rfl
    have l := td_dg_le hK i
    rw [es] at k
    refine br_f (nI_ge (b := 3) (by omega) (by decide)) (td_xdg (by omega) (by omega) ?_)
    refine pk_le (td_dg K i) p (fun z => ?_) (fun z => ?_)
    · rw [if_pos z] at k
      exact nm_r (nI_1 i) k
    · rw [if_neg (by omega)] at k
      exact nm_r (nI_1 _) (nm_r (nI_1 i) k)
theorem td_xcl {post : Int32 → Prop} {K : Nat} (p : Nat) (hK : td_shp K = true) (hp : p ≤ 1000) (h : post (nI (td_cl K p 3))) : wpX_columnLength post (nI K) (nI p) := ⟨_, td_xcll hK hp 3 0 rfl h⟩
def td_tu (K : Nat) : Nat := 100 * td_cl K 0 3 + 10 * td_cl K 1 3 + td_cl K 2 3
theorem td_xtu {post : Int32 → Prop} {K : Nat} (hK : td_shp K = true) (h1 : K / 100 ≤ 3 → post (nI (td_tu K))) (h0 : 3 < K / 100 → post (-1)) : wpX_turned post (nI K) := by
  have k1 := td_shp_le hK
  unfold wpX_turned
  refine td_xd0 (by omega) ?_
  refine pk_le (K / 100) 3 (fun z => ?_) (fun z => h0 z)
  refine td_xcl 0 hK (by omega) (td_xcl 1 hK (by omega) (td_xcl 2 hK (by omega) ?_))
  have e : 100 * nI (td_cl K 0 3) + 10 * nI (td_cl K 1 3) + nI (td_cl K 2 3) = nI (td_tu K) := by
    show nI 100 * nI (td_cl K 0 3) + nI 10 * nI (td_cl K 1 3) + nI (td_cl K 2 3) = nI (td_tu K)
    rw [pk_mul, pk_mul, td_add3]
    rfl
  rw [e]
  exact h1 z
end
section
section
variable {fk fc : Int32} {a1 a2 a3 a4 a5 a6 : Nat → Int32}
def td_os (K i : Nat) : Nat := if i = 0 then 0 else if i = 1 then K / 100 else if i = 2 then K / 100 + K / 10 % 10 else td_n K
theorem td_os_s {K i : Nat} (hi : i < 3) : td_os K i + td_dg K i = td_os K (i + 1) := by
  unfold td_os td_dg td_n
  match i, hi with
  | 0, _ => simp
  | 1, _ => simp
  | 2, _ => simp
theorem td_R_at {K i j : Nat} (hi : i < 3) (hj : j < td_dg K i) : td_R K (td_os K i + j) = i ∧ td_P K (td_os K i + j) = j := by
  unfold td_R td_P
  match i, hi with
  | 0, _ =>
    have q : td_dg K 0 = K / 100 := rfl
    have o : td_os K 0 = 0 := rfl
    rw [q] at hj
    rw [o, if_pos (by rw [Nat.ble_eq]; omega), if_pos (by rw [Nat.ble_eq]; omega)]
    omega
  | 1, _ =>
    have q : td_dg K 1 = K / 10 % 10 := rfl
    have o : td_os K 1 = K / 100 := rfl
    rw [q] at hj
    rw [o, if_neg (by rw [Nat.ble_eq]; omega), if_pos (by rw [Nat.ble_eq]; omega), if_neg (by rw [Nat.ble_eq]; omega), if_pos (by rw [Nat.ble_eq]; omega)]
    omega
  | 2, _ =>
    have q : td_dg K 2 = K % 10 := rfl
    have o : td_os K 2 = K / 100 + K / 10 % 10 := rfl
    rw [q] at hj
    rw [o, if_neg (by rw [Nat.ble_eq]; omega), if_neg (by rw [Nat.ble_eq]; omega), if_neg (by rw [Nat.ble_eq]; omega), if_neg (by rw [Nat.ble_eq]; omega)]
    omega
theorem td_os_le {K i : Nat} (hi : i ≤ 3) : td_os K i ≤ td_n K := by
  unfold td_os td_n
  match i, hi with
  | 0, _ => simp
  | 1, _ => simp; omega
  | 2, _ => simp
  | 3, _ => simp
def td_laid (K m : Nat) (b1 b2 : Nat → Int32) : Prop := ∀ c, c < m → b1 c = nI (td_R K c) ∧ b2 c = nI (td_P K c)
theorem td_yl14 {post : SY → Prop} {J : Int32 → Int32 → (Nat → Int32) → (Nat → Int32) → (Nat → Int32) → (Nat → Int32) → (Nat → Int32) → (Nat → Int32) → Prop} {K i : Nat} (hK : td_shp K = true) (hi : i < 3)
    (hJ : ∀ b1 b2, td_laid K (td_os K (i + 1)) b1 b2 → J (nI (i + 1)) (nI (td_os K (i + 1))) b1 b2 a3 a4 a5 a6) :
    ∀ (d j : Nat) (b1 b2 : Nat → Int32), j + d = td_dg K i → td_laid K (td_os K i + j) b1 b2 → wY_lay_14 post J (nI K) (nI i) fk (d + 1) (nI j) (nI (td_os K i + j)) b1 b2 a3 a4 a5 a6 := by
  have k1 := td_shp_le hK
  have k2 := (td_shp_iff K).mp hK
  have k3 := td_dg_le hK i
  have k4 := td_os_s (K := K) hi
  have k5 := td_os_le (K := K) (i := i + 1) (by omega)
  intro d
  induction d with
  | zero =>
    intro j b1 b2 hj hl
    have e : j = td_dg K i := by omega
    rw [wY_lay_14]
    refine td_yrow (K := K) (i := i) (by omega) (by omega) ?_
    refine br_t (nI_le (by omega) (by omega)) (nm_r (nI_1 i) ?_)
    rw [e, k4]
    rw [e, k4] at hl
    exact hJ b1 b2 hl
  | succ d ih =>
    intro j b1 b2 hj hl
    have r := td_R_at (K := K) (j := j) hi (by omega)
    have hc : (nI (td_os K i + j)).toNatClampNeg = td_os K i + j := nI_clamp (by omega)
    rw [wY_lay_14]
    refine td_yrow (K := K) (i := i) (by omega) (by omega) ?_
    refine br_f (nI_ge (by omega) (by omega)) ?_
    refine ⟨vp_in_nI (by omega) (by omega), nm_r (congrArg (fun z => upd b1 z (nI i)) hc) ⟨vp_in_nI (by omega) (by omega), nm_r (congrArg (fun z => upd b2 z (nI j)) hc) (nm_r (nI_1 _) (nm_r (nI_1 j) ?_))⟩⟩
    refine ih (j + 1) _ _ (by omega) ?_
    intro c hcc
    by_cases e : c = td_os K i + j
    · subst e
      rw [r.1, r.2]
      exact ⟨pk_us, pk_us⟩
    · have h := hl c (by omega)
      exact ⟨(pk_un e).trans h.1, (pk_un e).trans h.2⟩
theorem td_yl7 {post : SY → Prop} {K : Nat} (hK : td_shp K = true) (h : ∀ b1 b2, td_laid K (td_n K) b1 b2 → post (fk, nI (td_n K), b1, b2, a3, a4, a5, a6)) :
    ∀ (d i : Nat) (b1 b2 : Nat → Int32), i + d = 3 → td_laid K (td_os K i) b1 b2 → wY_lay_7 post (nI K) fk (d + 1) (nI i) (nI (td_os K i)) b1 b2 a3 a4 a5 a6 := by
  intro d
  induction d with
  | zero =>
    intro i b1 b2 hi hl
    have e : i = 3 := by omega
    subst e
    exact br_t (by decide) (h b1 b2 hl)
  | succ d ih =>
    intro i b1 b2 hi hl
    exact br_f (nI_ge (b := 3) (by omega) (by decide)) ⟨_, td_yl14 hK (by omega) (fun c1 c2 hc => ih (i + 1) c1 c2 (by omega) hc) (td_dg K i) 0 b1 b2 (by omega) hl⟩
theorem td_ylay {post : SY → Prop} {K : Nat} (hK : td_shp K = true) (h : ∀ b1 b2, td_laid K (td_n K) b1 b2 → post (fk, nI (td_n K), b1, b2, a3, a4, a5, a6)) : wpY_lay post (fk, fc, a1, a2, a3, a4, a5, a6) (nI K) :=
  ⟨_, td_yl7 hK h 3 0 a1 a2 rfl (fun c hc => absurd hc (Nat.not_lt_zero c))⟩
theorem td_R_le (K c : Nat) : td_R K c ≤ 2 := by
  unfold td_R
  by_cases a : Nat.ble (c + 1) (K / 100) = true
  · rw [if_pos a]; omega
  · rw [if_neg a]
    by_cases b : Nat.ble (c + 1) (K / 100 + K / 10 % 10) = true
    · rw [if_pos b]; omega
    · rw [if_neg b]; omega
theorem td_P_le (K c : Nat) : td_P K c ≤ c := by
  unfold td_P
  by_cases a : Nat.ble (c + 1) (K / 100) = true
  · rw [if_pos a]; omega
  · rw [if_neg a]
    by_cases b : Nat.ble (c + 1) (K / 100 + K / 10 % 10) = true
    · rw [if_pos b]; omega
    · rw [if_neg b]; omega
def td_bad (K : Nat) (ri : Bool) (a x b y : Nat) : Prop :=
  (td_R K a = td_R K b ∧ (td_P K b = td_P K a + 1 ∧ (y + 1 ≤ x ∨ (ri = true ∧ y = x)))) ∨ (td_P K a = td_P K b ∧ (td_R K b = td_R K a + 1 ∧ y ≤ x))
theorem td_chk_iff (K : Nat) (ri : Bool) (a x b y : Nat) : td_chk K ri a x b y = true ↔ ¬ td_bad K ri a x b y := by
  unfold td_chk td_bad
  rw [Bool.and_eq_true, Bool.not_eq_true', Bool.not_eq_true', ← Bool.not_eq_true, ← Bool.not_eq_true]
  simp only [Bool.and_eq_true, Bool.or_eq_true, Nat.beq_eq, Nat.ble_eq]
  exact not_or.symm
theorem td_yo139 {post J2 J12 : Int32 → Prop} {x1 z : Int32} {a b x y : Nat} (ha : a < 6) (hb : b < 6) (hx : x < 1000) (hy : y < 1000) (ea : a3 a = nI (x + 1)) (eb : a3 b = nI (y + 1))
    (h1 : (z = 0 ∨ x < y) → J12 (nI (b + 1))) (h0 : ¬ z = 0 → y ≤ x → post 0) : wY_ordered_139 post J2 J12 x1 (nI a) (nI b) z fk fc a1 a2 a3 a4 a5 a6 := by
  unfold wY_ordered_139
  rw [nI_clamp (n := a) (by omega), nI_clamp (n := b) (by omega), ea, eb]
  refine br_c (fun q => nm_r (nI_1 b) (h1 (Or.inl q))) (fun q => ⟨vp_in_nI hb (by omega), vp_in_nI ha (by omega), ?_⟩)
  exact pk_lt (x + 1) (y + 1) (fun w => nm_r (nI_1 b) (h1 (Or.inr (by omega)))) (fun w => h0 q (by omega))
theorem td_yo96 {post J2 J12 : Int32 → Prop} {x1 w z : Int32} {ri : Bool} {a b x y : Nat} (ha : a < 6) (hb : b < 6) (hx : x < 1000) (hy : y < 1000) (ea : a3 a = nI (x + 1)) (eb : a3 b = nI (y + 1)) (hri : x1 = 0 ↔ ri = false)
    (h1 : (w = 0 ∨ (x ≤ y ∧ (ri = false ∨ y ≠ x))) → (z = 0 ∨ x < y) → J12 (nI (b + 1))) (h0 : (¬ w = 0 ∧ (y + 1 ≤ x ∨ (ri = true ∧ y = x))) ∨ (¬ z = 0 ∧ y ≤ x) → post 0) : wY_ordered_96 post J2 J12 x1 (nI a) (nI b) w z fk fc a1 a2 a3 a4 a5 a6 := by
  unfold wY_ordered_96
  rw [nI_clamp (n := a) (by omega), nI_clamp (n := b) (by omega), ea, eb]
  have k : (w = 0 ∨ (x ≤ y ∧ (ri = false ∨ y ≠ x))) → wY_ordered_139 post J2 J12 x1 (nI a) (nI b) z fk fc a1 a2 a3 a4 a5 a6 := fun q => td_yo139 ha hb hx hy ea eb (fun p => h1 q p) (fun p1 p2 => h0 (Or.inr ⟨p1, p2⟩))
  refine br_c (fun q => k (Or.inl q)) (fun q => ⟨vp_in_nI hb (by omega), vp_in_nI ha (by omega), ?_⟩)
  refine pk_lt (y + 1) (x + 1) (fun p => h0 (Or.inl ⟨q, Or.inl (by omega)⟩)) (fun p => ?_)
  refine br_c (fun r => k (Or.inr ⟨by omega, Or.inl (hri.mp r)⟩)) (fun r => ⟨vp_in_nI hb (by omega), vp_in_nI ha (by omega), ?_⟩)
  have t : ri = true := by
    cases ri
    · exact absurd (hri.mpr rfl) r
    · rfl
  exact pk_eq (y + 1) (x + 1) (fun p2 => h0 (Or.inl ⟨q, Or.inr ⟨t, by omega⟩⟩)) (fun p2 => k (Or.inr ⟨by omega, Or.inr (by omega)⟩))
theorem td_yo57 {post J2 J12 : Int32 → Prop} {x1 w : Int32} {ri : Bool} {K a b x y : Nat} (ha : a < 6) (hb : b < 6) (hx : x < 1000) (hy : y < 1000) (ea : a3 a = nI (x + 1)) (eb : a3 b = nI (y + 1)) (hri : x1 = 0 ↔ ri = false)
    (la : a1 a = nI (td_R K a) ∧ a2 a = nI (td_P K a)) (lb : a1 b = nI (td_R K b) ∧ a2 b = nI (td_P K b)) (hw : ¬ w = 0 ↔ td_R K a = td_R K b ∧ td_P K b = td_P K a + 1)
    (h1 : ¬ td_bad K ri a x b y → J12 (nI (b + 1))) (h0 : td_bad K ri a x b y → post 0) : wY_ordered_57 post J2 J12 x1 (nI a) (nI b) w fk fc a1 a2 a3 a4 a5 a6 := by
  have r1 := td_R_le K a
  have r2 := td_R_le K b
  have r3 := td_P_le K a
  have r4 := td_P_le K b
  have k : ∀ z : Int32, (¬ z = 0 ↔ td_P K a = td_P K b ∧ td_R K b = td_R K a + 1) → wY_ordered_96 post J2 J12 x1 (nI a) (nI b) w z fk fc a1 a2 a3 a4 a5 a6 := by
    intro z hz
    refine td_yo96 ha hb hx hy ea eb hri (fun p q => h1 ?_) (fun p => h0 ?_)
    · intro bd
      rcases bd with ⟨c1, c2, c3⟩ | ⟨c1, c2, c3⟩
      · have c4 := hw.mpr ⟨c1, c2⟩
        rcases p with p | ⟨p1, p2⟩
        · exact c4 p
        · rcases c3 with c3 | ⟨c5, c6⟩
          · omega
          · rcases p2 with p2 | p2
            · rw [c5] at p2; exact absurd p2 (by decide)
            · exact p2 c6
      · have c4 := hz.mpr ⟨c1, c2⟩
        rcases q with q | q
        · exact c4 q
        · omega
    · rcases p with ⟨p1, p2⟩ | ⟨p1, p2⟩
      · have c := hw.mp p1
        exact Or.inl ⟨c.1, c.2, p2⟩
      · have c := hz.mp p1
        exact Or.inr ⟨c.1, c.2, p2⟩
  unfold wY_ordered_57
  rw [nI_clamp (n := a) (by omega), nI_clamp (n := b) (by omega), la.1, la.2, lb.1, lb.2]
  refine ⟨vp_in_nI ha (by omega), vp_in_nI hb (by omega), ?_⟩
  refine pk_eq (td_P K a) (td_P K b) (fun c1 => ⟨vp_in_nI hb (by omega), vp_in_nI ha (by omega), ?_⟩) (fun c1 => ?_)
  · refine pk_eq (td_R K b) (td_R K a + 1) (fun c2 => k 1 ⟨fun _ => ⟨c1, c2⟩, fun _ => by decide⟩) (fun c2 => ?_) rfl (nI_1 _)
    exact k 0 ⟨fun q => absurd rfl q, fun q => absurd q.2 c2⟩
  · exact k 0 ⟨fun q => absurd rfl q, fun q => absurd q.1 c1⟩
theorem td_yo12 {post J2 : Int32 → Prop} {x1 : Int32} {ri : Bool} {K a : Nat} {g : Nat → Nat} (hn : td_n K ≤ 6) (ha : a < td_n K) (hg : ∀ c, c < td_n K → g c < 1000 ∧ a3 c = nI (g c + 1)) (hri : x1 = 0 ↔ ri = false) (hl : td_laid K (td_n K) a1 a2) :
    ∀ (d b : Nat), b + d = td_n K → ((∀ b', b ≤ b' → b' < td_n K → ¬ td_bad K ri a (g a) b' (g b')) → J2 (nI (a + 1))) → ((∃ b', b' < td_n K ∧ td_bad K ri a (g a) b' (g b')) → post 0) →
    wY_ordered_12 post J2 x1 (nI a) fk (nI (td_n K)) a1 a2 a3 a4 a5 a6 (d + 1) (nI b) := by
  intro d
  induction d with
  | zero =>
    intro b hb h1 h0
    exact br_t (nI_le (by omega) (by omega)) (nm_r (nI_1 a) (h1 (fun b' p q => absurd q (by omega))))
  | succ d ih =>
    intro b hb h1 h0
    have la := hl a ha
    have lb := hl b (by omega)
    have ga := hg a ha
    have gb := hg b (by omega)
    have r1 := td_R_le K a
    have r2 := td_R_le K b
    have r3 := td_P_le K a
    have r4 := td_P_le K b
    have k : ∀ w : Int32, (¬ w = 0 ↔ td_R K a = td_R K b ∧ td_P K b = td_P K a + 1) → wY_ordered_57 post J2 (wY_ordered_12 post J2 x1 (nI a) fk (nI (td_n K)) a1 a2 a3 a4 a5 a6 (d + 1)) x1 (nI a) (nI b) w fk (nI (td_n K)) a1 a2 a3 a4 a5 a6 := by
      intro w hw
      refine td_yo57 (by omega) (by omega) ga.1 gb.1 ga.2 gb.2 hri la lb hw (fun q => ?_) (fun q => h0 ⟨b, by omega, q⟩)
      refine ih (b + 1) (by omega) (fun r => h1 ?_) h0
      intro b' p1 p2
      by_cases e : b' = b
      · rw [e]; exact q
      · exact r b' (by omega) p2
    refine br_f (nI_ge (by omega) (by omega)) ?_
    rw [nI_clamp (n := a) (by omega), nI_clamp (n := b) (by omega), la.1, la.2, lb.1, lb.2]
    refine ⟨vp_in_nI (by omega) (by omega), vp_in_nI (by omega) (by omega), ?_⟩
    refine pk_eq (td_R K a) (td_R K b) (fun c1 => ⟨vp_in_nI (by omega) (by omega), vp_in_nI (by omega) (by omega), ?_⟩) (fun c1 => ?_)
    · refine pk_eq (td_P K b) (td_P K a + 1) (fun c2 => k 1 ⟨fun _ => ⟨c1, c2⟩, fun _ => by decide⟩) (fun c2 => ?_) rfl (nI_1 _)
      exact k 0 ⟨fun q => absurd rfl q, fun q => absurd q.2 c2⟩
    · exact k 0 ⟨fun q => absurd rfl q, fun q => absurd q.1 c1⟩
theorem td_yo2 {post : Int32 → Prop} {x1 : Int32} {ri : Bool} {K : Nat} {g : Nat → Nat} (hn : td_n K ≤ 6) (hg : ∀ c, c < td_n K → g c < 1000 ∧ a3 c = nI (g c + 1)) (hri : x1 = 0 ↔ ri = false) (hl : td_laid K (td_n K) a1 a2) :
    ∀ (d a : Nat), a + d = td_n K → ((∀ a' b', a ≤ a' → a' < td_n K → b' < td_n K → ¬ td_bad K ri a' (g a') b' (g b')) → post 1) → ((∃ a' b', a' < td_n K ∧ b' < td_n K ∧ td_bad K ri a' (g a') b' (g b')) → post 0) →
    wY_ordered_2 post x1 fk (nI (td_n K)) a1 a2 a3 a4 a5 a6 (d + 1) (nI a) := by
  intro d
  induction d with
  | zero =>
    intro a ha h1 h0
    exact br_t (nI_le (by omega) (by omega)) (h1 (fun a' b' p q _ => absurd q (by omega)))
  | succ d ih =>
    intro a ha h1 h0
    refine br_f (nI_ge (by omega) (by omega)) ⟨_, td_yo12 (ri := ri) hn (by omega) hg hri hl (td_n K) 0 (by omega) (fun q => ?_) (fun q => ?_)⟩
    · refine ih (a + 1) (by omega) (fun r => h1 ?_) h0
      intro a' b' p1 p2 p3
      by_cases e : a' = a
      · rw [e]; exact q b' (Nat.zero_le _) p3
      · exact r a' b' (by omega) p2 p3
    · obtain ⟨b', p1, p2⟩ := q
      exact h0 ⟨a, b', by omega, p1, p2⟩
theorem td_yord {post : Int32 → Prop} {x1 : Int32} {ri : Bool} {K b q : Nat} (hn : td_n K ≤ 6) (hb : b ≤ 6) (hb0 : td_n K = 0 ∨ 0 < b) (hg : ∀ c, c < td_n K → a3 c = nI (q / b ^ c % b + 1)) (hri : x1 = 0 ↔ ri = false) (hl : td_laid K (td_n K) a1 a2)
    (h1 : td_ok (td_st (td_chk K ri) b) b (td_n K) 0 q = true → post 1) (h0 : ¬ td_ok (td_st (td_chk K ri) b) b (td_n K) 0 q = true → post 0) : wpY_ordered post (fk, nI (td_n K), a1, a2, a3, a4, a5, a6) x1 := by
  refine ⟨_, td_yo2 (ri := ri) (g := fun c => q / b ^ c % b) hn (fun c hc => ⟨?_, hg c hc⟩) hri hl (td_n K) 0 (by omega) (fun p => h1 ?_) (fun p => h0 ?_)⟩
  · have : q / b ^ c % b < b := Nat.mod_lt _ (by omega)
    show q / b ^ c % b < 1000
    omega
  · rw [td_ok_iff]
    intro x y hx hy
    rw [Nat.zero_add, Nat.zero_add, td_chk_iff]
    exact p x y (Nat.zero_le _) hx hy
  · rw [td_ok_iff]
    intro t
    obtain ⟨x, y, hx, hy, bd⟩ := p
    have t2 := t x y hx hy
    rw [Nat.zero_add, Nat.zero_add, td_chk_iff] at t2
    exact t2 bd
end
end
section
section
variable {fk fc : Int32} {a1 a2 a3 a4 a5 a6 : Nat → Int32}
theorem td_yg5 {post : SY → Prop} {n q b : Nat} (hn : n ≤ 6) (hq : q < 2 ^ 31) (hb : n = 0 ∨ 0 < b) (hb2 : b ≤ 1000) (h : ∀ b3, (∀ c, c < n → b3 c = nI (q / b ^ c % b + 1)) → post (fk, nI n, a1, a2, b3, a4, a5, a6)) :
    ∀ (d c : Nat) (b3 : Nat → Int32), c + d = n → (∀ i, i < c → b3 i = nI (q / b ^ i % b + 1)) → wY_give_5 post (nI b) fk (nI n) (d + 1) (nI (q / b ^ c)) (nI c) a1 a2 b3 a4 a5 a6 := by
  intro d
  induction d with
  | zero =>
    intro c b3 hc hl
    have e : c = n := by omega
    subst e
    exact br_t (nI_le (by omega) (by omega)) (h b3 hl)
  | succ d ih =>
    intro c b3 hc hl
    have b0 : 0 < b := by omega
    have hz : q / b ^ c < 2 ^ 31 := Nat.lt_of_le_of_lt (Nat.div_le_self _ _) hq
    have ev : nI (q / b ^ c) - nI (q / b ^ c) / nI b * nI b + 1 = nI (q / b ^ c % b + 1) := by
      rw [pk_rem hz b0 (by omega), nI_1]
    have ed : nI (q / b ^ c) / nI b = nI (q / b ^ (c + 1)) := by
      rw [pk_div hz b0 (by omega), Nat.div_div_eq_div_mul, Nat.pow_succ]
    have hc2 : (nI c).toNatClampNeg = c := nI_clamp (by omega)
    have eu : upd b3 (nI c).toNatClampNeg (nI (q / b ^ c) - nI (q / b ^ c) / nI b * nI b + 1) = upd b3 c (nI (q / b ^ c % b + 1)) := by rw [hc2, ev]
    refine br_f (nI_ge (by omega) (by omega)) (br_f (nI_nle b0 (by omega)) ⟨nI_ne0 b0 (by omega), ?_⟩)
    refine ⟨vp_in_nI (by omega) (by omega), nm_r eu (br_f (nI_nle b0 (by omega)) ⟨nI_ne0 b0 (by omega), nm_r ed (nm_r (nI_1 c) ?_)⟩)⟩
    refine ih (c + 1) _ (by omega) ?_
    intro i hi
    by_cases e : i = c
    · subst e
      exact pk_us
    · exact (pk_un e).trans (hl i (by omega))
theorem td_ygive {post : SY → Prop} {n q b : Nat} (hn : n ≤ 6) (hq : q < 2 ^ 31) (hb : n = 0 ∨ 0 < b) (hb2 : b ≤ 1000) (h : ∀ b3, (∀ c, c < n → b3 c = nI (q / b ^ c % b + 1)) → post (fk, nI n, a1, a2, b3, a4, a5, a6)) :
    wpY_give post (fk, nI n, a1, a2, a3, a4, a5, a6) (nI q) (nI b) := by
  have k := td_yg5 (fk := fk) (a1 := a1) (a2 := a2) (a4 := a4) (a5 := a5) (a6 := a6) hn hq hb hb2 h n 0 a3 (by omega) (fun i hi => absurd hi (Nat.not_lt_zero i))
  rw [Nat.pow_zero, Nat.div_one] at k
  exact ⟨_, k⟩
theorem td_yp4 {post : Int32 → Prop} {b n : Nat} (hn : n ≤ 1000) (h : post (nI (b ^ n))) : ∀ (d i : Nat), i + d = n → wY_power_4 post (nI b) (nI n) (d + 1) (nI (b ^ i)) (nI i) := by
  intro d
  induction d with
  | zero =>
    intro i hi
    have e : i = n := by omega
    subst e
    exact br_t (nI_le (by omega) (by omega)) h
  | succ d ih =>
    intro i hi
    have e : nI (b ^ i) * nI b = nI (b ^ (i + 1)) := by rw [pk_mul, Nat.pow_succ]
    exact br_f (nI_ge (by omega) (by omega)) (nm_r e (nm_r (nI_1 i) (ih (i + 1) (by omega))))
theorem td_ypow {post : Int32 → Prop} {b n : Nat} (hn : n ≤ 1000) (h : post (nI (b ^ n))) : wpY_power post (nI b) (nI n) := by
  have k := td_yp4 hn h n 0 (by omega)
  rw [Nat.pow_zero] at k
  exact ⟨_, k⟩
theorem td_yc4 {post : Int32 → Prop} {n q v : Nat} {x : Int32} (hx : x = nI (v + 1)) (hv : v ≤ 1000) (hn : n ≤ 6) (hg : ∀ c, c < n → a3 c = nI (q / 3 ^ c % 3 + 1)) (h : post (nI (td_cn q v n))) :
    ∀ (d c : Nat), c + d = n → wY_count_4 post x fk (nI n) a1 a2 a3 a4 a5 a6 (d + 1) (nI (td_cn q v c)) (nI c) := by
  subst hx
  intro d
  induction d with
  | zero =>
    intro c hc
    have e : c = n := by omega
    subst e
    exact br_t (nI_le (by omega) (by omega)) h
  | succ d ih =>
    intro c hc
    have k := ih (c + 1) (by omega)
    have es : td_cn q v (c + 1) = td_cn q v c + (if q / 3 ^ c % 3 = v then 1 else 0) := rfl
    have m3 : q / 3 ^ c % 3 < 3 := Nat.mod_lt _ (by decide)
    rw [es] at k
    refine br_f (nI_ge (by omega) (by omega)) ?_
    rw [nI_clamp (n := c) (by omega), hg c (by omega)]
    refine ⟨vp_in_nI (by omega) (by omega), ?_⟩
    refine pk_eq (q / 3 ^ c % 3 + 1) (v + 1) (fun z => ?_) (fun z => ?_)
    · rw [if_pos (by omega)] at k
      exact nm_r (nI_1 _) (nm_r (nI_1 c) k)
    · rw [if_neg (by omega)] at k
      exact nm_r (nI_1 c) k
theorem td_yct {post : Int32 → Prop} {n q : Nat} (hn : n ≤ 6) (hg : ∀ c, c < n → a3 c = nI (q / 3 ^ c % 3 + 1)) (h : post (nI (td_at n q))) : wpY_contentOf post (fk, nI n, a1, a2, a3, a4, a5, a6) := by
  unfold wpY_contentOf
  refine ⟨_, td_yc4 (v := 0) rfl (by omega) hn hg ?_ n 0 (by omega)⟩
  refine ⟨_, td_yc4 (v := 1) rfl (by omega) hn hg ?_ n 0 (by omega)⟩
  refine ⟨_, td_yc4 (v := 2) rfl (by omega) hn hg ?_ n 0 (by omega)⟩
  have e : 49 * nI (td_cn q 0 n) + 7 * nI (td_cn q 1 n) + nI (td_cn q 2 n) = nI (td_at n q) := by
    show nI 49 * nI (td_cn q 0 n) + nI 7 * nI (td_cn q 1 n) + nI (td_cn q 2 n) = nI (td_at n q)
    rw [pk_mul, pk_mul, td_add3]
    rfl
  rw [e]
  exact h
theorem td_cn_le (q n : Nat) : td_cn q 0 n + td_cn q 1 n + td_cn q 2 n ≤ n := by
  induction n with
  | zero => exact Nat.le_refl 0
  | succ n ih =>
    show (td_cn q 0 n + (if q / 3 ^ n % 3 = 0 then 1 else 0)) + (td_cn q 1 n + (if q / 3 ^ n % 3 = 1 then 1 else 0)) + (td_cn q 2 n + (if q / 3 ^ n % 3 = 2 then 1 else 0)) ≤ n + 1
    generalize q / 3 ^ n % 3 = r
    by_cases c0 : r = 0
    · subst c0; simp; omega
    · by_cases c1 : r = 1
      · subst c1; simp; omega
      · by_cases c2 : r = 2
        · subst c2; simp; omega
        · rw [if_neg c0, if_neg c1, if_neg c2]; omega
theorem td_at_lt {n : Nat} (hn : n ≤ 6) (q : Nat) : td_at n q < 343 := by
  have h := td_cn_le q n
  unfold td_at
  omega
theorem td_S_s (K m i : Nat) : td_S K (m + 1) i = td_S K m i + (if td_fil K m = true then (if td_at (td_n K) m = i then 1 else 0) else 0) := rfl
theorem td_pow6 {b n : Nat} (hb : b ≤ 6) (hn : n ≤ 6) : b ^ n ≤ 46656 := by
  have a : b ^ n ≤ 6 ^ n := Nat.pow_le_pow_left hb n
  have c : 6 ^ n ≤ 6 ^ 6 := Nat.pow_le_pow_right (by decide) hn
  have d : 6 ^ 6 = 46656 := by decide
  omega
theorem td_ye38 {post : SY → Prop} {K : Nat} (hn : td_n K ≤ 6) (hl : td_laid K (td_n K) a1 a2)
    (h : ∀ b3 b5, (∀ i, i < 343 → b5 i = nI (td_S K (3 ^ td_n K) i)) → post (fk, nI (td_n K), a1, a2, b3, a4, b5, a6)) :
    ∀ (d m : Nat) (b3 b5 : Nat → Int32), m + d = 3 ^ td_n K → (∀ i, i < 343 → b5 i = nI (td_S K m i)) → wY_expand_38 post (nI (3 ^ td_n K)) (d + 1) (nI m) fk (nI (td_n K)) a1 a2 b3 a4 b5 a6 := by
  have pb := td_pow6 (b := 3) (by decide) hn
  intro d
  induction d with
  | zero =>
    intro m b3 b5 hm hs
    have e : m = 3 ^ td_n K := by omega
    subst e
    exact br_t (nI_le (by omega) (by omega)) (h b3 b5 hs)
  | succ d ih =>
    intro m b3 b5 hm hs
    refine br_f (nI_ge (by omega) (by omega)) ?_
    refine td_ygive (b := 3) hn (by omega) (Or.inr (by decide)) (by decide) (fun c3 hc3 => ?_)
    refine td_yct hn hc3 ?_
    have al := td_at_lt hn m
    refine td_yord (ri := false) (b := 3) (q := m) hn (by decide) (Or.inr (by decide)) hc3 (by decide) hl (fun g => ?_) (fun g => ?_)
    · have hc : (nI (td_at (td_n K) m)).toNatClampNeg = td_at (td_n K) m := nI_clamp (by omega)
      have eu : upd b5 (nI (td_at (td_n K) m)).toNatClampNeg (b5 (nI (td_at (td_n K) m)).toNatClampNeg + 1) = upd b5 (td_at (td_n K) m) (nI (td_S K m (td_at (td_n K) m) + 1)) := by
        rw [hc, hs _ al, nI_1]
      refine br_f (by decide) ⟨vp_in_nI al (by omega), vp_in_nI al (by omega), nm_r eu (nm_r (nI_1 m) (ih (m + 1) c3 _ (by omega) ?_))⟩
      intro i hi
      rw [td_S_s, if_pos (show td_fil K m = true from g)]
      by_cases e : i = td_at (td_n K) m
      · rw [if_pos e.symm, e]
        exact pk_us
      · rw [if_neg (fun z => e z.symm), Nat.add_zero]
        exact (pk_un e).trans (hs i hi)
    · refine br_t rfl (nm_r (nI_1 m) (ih (m + 1) c3 b5 (by omega) ?_))
      intro i hi
      rw [td_S_s, if_neg (show ¬ td_fil K m = true from g), Nat.add_zero]
      exact hs i hi
theorem td_ye7 {post : SY → Prop} {K : Nat} (hn : td_n K ≤ 6) (hl : td_laid K (td_n K) a1 a2)
    (h : ∀ b3 b5, (∀ i, i < 343 → b5 i = nI (td_S K (3 ^ td_n K) i)) → post (fk, nI (td_n K), a1, a2, b3, a4, b5, a6)) :
    ∀ (d x : Nat) (b5 : Nat → Int32), x + d = 343 → (∀ i, i < x → b5 i = 0) → wY_expand_7 post fk (nI (td_n K)) (d + 1) (nI x) a1 a2 a3 a4 b5 a6 := by
  intro d
  induction d with
  | zero =>
    intro x b5 hx hz
    have e : x = 343 := by omega
    subst e
    refine br_t (by decide) (td_ypow (b := 3) (by omega) ?_)
    exact ⟨_, td_ye38 hn hl h (3 ^ td_n K) 0 a3 b5 (by omega) (fun i hi => hz i hi)⟩
  | succ d ih =>
    intro x b5 hx hz
    have hc : (nI x).toNatClampNeg = x := nI_clamp (by omega)
    refine br_f (nI_ge (b := 343) (by omega) (by decide)) ⟨vp_in_nI (by omega) (by omega), nm_r (congrArg (fun z => upd b5 z 0) hc) (nm_r (nI_1 x) (ih (x + 1) _ (by omega) ?_))⟩
    intro i hi
    by_cases e : i = x
    · subst e
      exact pk_us
    · exact (pk_un e).trans (hz i (by omega))
def td_sec (K : Nat) (b5 : Nat → Int32) : Prop := ∀ i, i < 343 → b5 i = nI (td_cnt i (td_lit K))
theorem td_yexp {post : SY → Prop} {K : Nat} (hK : td_shp K = true) (h : ∀ b1 b2 b3 b5, td_sec K b5 → post (fk, nI (td_n K), b1, b2, b3, a4, b5, a6)) : wpY_expand post (fk, fc, a1, a2, a3, a4, a5, a6) (nI K) := by
  have hn := td_n_6 (td_shp_mem hK)
  unfold wpY_expand
  refine td_ylay hK (fun b1 b2 hl => ?_)
  refine ⟨_, td_ye7 hn hl (fun b3 b5 hs => h b1 b2 b3 b5 (fun i hi => ?_)) 343 0 a5 rfl (fun i hi => absurd hi (Nat.not_lt_zero i))⟩
  rw [← td_S_eq (td_shp_mem hK)]
  exact hs i hi
theorem td_yf12 {post : Int32 → SY → Prop} {K : Nat} (hs : td_sec K a5) (h : post (nI (td_sum (fun i => td_cnt i (td_lit K)) 343)) (fk, fc, a1, a2, a3, a4, a5, a6)) :
    ∀ (d x : Nat), x + d = 343 → wY_fillings_12 post fk fc a1 a2 a3 a4 a5 a6 (d + 1) (nI (td_sum (fun i => td_cnt i (td_lit K)) x)) (nI x) := by
  intro d
  induction d with
  | zero =>
    intro x hx
    have e : x = 343 := by omega
    subst e
    exact br_t (by decide) h
  | succ d ih =>
    intro x hx
    have e : nI (td_sum (fun i => td_cnt i (td_lit K)) x) + a5 (nI x).toNatClampNeg = nI (td_sum (fun i => td_cnt i (td_lit K)) (x + 1)) := by
      rw [nI_clamp (n := x) (by omega), hs x (by omega), nI_add]
      rfl
    exact br_f (nI_ge (b := 343) (by omega) (by decide)) ⟨vp_in_nI (by omega) (by omega), nm_r e (nm_r (nI_1 x) (ih (x + 1) (by omega)))⟩
theorem td_yfil {post : Int32 → SY → Prop} {K : Nat} (hK : td_shp K = true) (h : ∀ fc b1 b2 b3 b5, post (nI (td_sum (fun i => td_cnt i (td_lit K)) 343)) (nI K, fc, b1, b2, b3, a4, b5, a6)) : wpY_fillings post (nI K, fc, a1, a2, a3, a4, a5, a6) := by
  unfold wpY_fillings
  refine td_yexp hK (fun b1 b2 b3 b5 hs => ?_)
  exact ⟨_, td_yf12 hs (h _ b1 b2 b3 b5) 343 0 rfl⟩
end
end
section
section
variable {fk fc : Int32} {a1 a2 a3 a4 a5 a6 : Nat → Int32}
theorem td_ix (a b c : Nat) : 49 * nI a + 7 * nI b + nI c = nI (49 * a + 7 * b + c) := by
  show nI 49 * nI a + nI 7 * nI b + nI c = _
  rw [pk_mul, pk_mul, td_add3]
theorem td_ywc1 {post : Int32 → SY → Prop} {K j : Nat} (hK : td_shp K = true) (hj : j ≤ 666) (hc : td_con j = true)
    (h : ∀ fc b1 b2 b3 b5, post (nI (td_cnt (49 * (j / 100) + 7 * (j / 10 % 10) + j % 10) (td_lit K))) (nI K, fc, b1, b2, b3, a4, b5, a6)) : wpY_withContent post (nI K, fc, a1, a2, a3, a4, a5, a6) (nI j) := by
  rw [td_con_iff] at hc
  have h3 : j < 2 ^ 31 := by omega
  refine ⟨by decide, nm_r (td_e100 h3) ⟨by decide, by decide, nm_r (td_e10 h3) ⟨by decide, nm_r (td_e1 h3) ?_⟩⟩⟩
  refine br_f (nI_pos (by omega)) ?_
  refine pk_lt 6 (j / 100) (fun z => absurd z (by omega)) (fun _ => ?_)
  refine pk_lt 6 (j / 10 % 10) (fun z => absurd z (by omega)) (fun _ => ?_)
  refine pk_le (j % 10) 6 (fun _ => ?_) (fun z => absurd z (by omega))
  refine td_yexp hK (fun b1 b2 b3 b5 hs => ?_)
  dsimp only
  rw [td_ix, nI_clamp (n := 49 * (j / 100) + 7 * (j / 10 % 10) + j % 10) (by omega), hs _ (by omega)]
  exact ⟨vp_in_nI (by omega) (by omega), h _ b1 b2 b3 b5⟩
theorem td_ywc0 {post : Int32 → SY → Prop} {K : Nat} {x : Int32} (hx : ∀ j, j ≤ 666 → td_con j = true → x ≠ nI j) (h : post (-1) (nI K, fc, a1, a2, a3, a4, a5, a6)) : wpY_withContent post (nI K, fc, a1, a2, a3, a4, a5, a6) x := by
  refine ⟨by decide, fun x1 e1 => ⟨by decide, by decide, fun x2 e2 => ⟨by decide, fun x3 e3 => br_c (fun _ => h) (fun h0 => ?_)⟩⟩⟩
  obtain ⟨j, hj, rfl⟩ := nI_of h0
  rw [td_e100 hj] at e1
  rw [td_e10 hj] at e2
  rw [td_e1 hj] at e3
  subst e1 e2 e3
  refine pk_lt 6 (j / 100) (fun _ => h) (fun z1 => ?_)
  refine pk_lt 6 (j / 10 % 10) (fun _ => h) (fun z2 => ?_)
  exact pk_le (j % 10) 6 (fun z3 => absurd rfl (hx j (by omega) ((td_con_iff j).mpr ⟨z2, z3⟩))) (fun _ => h)
def td_se (q n : Nat) : Nat → Int32
  | 0 => 0
  | c + 1 => td_se q n c ||| ((1 : Int32) <<< (nI (q / n ^ c % n + 1) &&& 31))
def td_ad (n q : Nat) : Bool := decide (td_se q n n = ((2 : Int32) <<< (nI n &&& 31)) - 2)
theorem td_or_c : td_shapes.all (fun K => Nat.beq (td_xo K) (td_ls (fun q => if td_ad (td_n K) q = true then 1 else 0) (td_E (td_st (td_chk K true) (td_n K)) (td_n K) (td_n K) 0))) = true := by decide +kernel
def td_oc (K m : Nat) : Nat := td_sum (fun q => if td_std K q = true then (if td_ad (td_n K) q = true then 1 else 0) else 0) m
theorem td_oc_eq {K : Nat} (hK : K ∈ td_shapes) : td_oc K (td_n K ^ td_n K) = td_xo K := by
  have h : Nat.beq (td_xo K) (td_ls (fun q => if td_ad (td_n K) q = true then 1 else 0) (td_E (td_st (td_chk K true) (td_n K)) (td_n K) (td_n K) 0)) = true := td_cap td_or_c hK
  rw [Nat.beq_eq] at h
  rw [h, ← td_tree (td_st (td_chk K true) (td_n K)) (td_n K) (td_n K) 0 (fun q => if td_ad (td_n K) q = true then 1 else 0) (by omega)]
  rfl
theorem td_oc_s (K m : Nat) : td_oc K (m + 1) = td_oc K m + (if td_std K m = true then (if td_ad (td_n K) m = true then 1 else 0) else 0) := rfl
theorem td_ya4 {post : Int32 → Prop} {n q : Nat} (hn : n ≤ 6) (hg : ∀ c, c < n → a3 c = nI (q / n ^ c % n + 1)) (h1 : td_ad n q = true → post 1) (h0 : ¬ td_ad n q = true → post 0) :
    ∀ (d c : Nat), c + d = n → wY_allDifferent_4 post fk (nI n) a1 a2 a3 a4 a5 a6 (d + 1) (td_se q n c) (nI c) := by
  intro d
  induction d with
  | zero =>
    intro c hc
    have e : c = n := by omega
    subst e
    exact br_t (nI_le (by omega) (by omega)) (br_c (fun z => h1 (decide_eq_true z)) (fun z => h0 (fun w => z (of_decide_eq_true w))))
  | succ d ih =>
    intro c hc
    have e : td_se q n c ||| ((1 : Int32) <<< (a3 (nI c).toNatClampNeg &&& 31)) = td_se q n (c + 1) := by
      rw [nI_clamp (n := c) (by omega), hg c (by omega)]
      rfl
    exact br_f (nI_ge (by omega) (by omega)) ⟨vp_in_nI (by omega) (by omega), nm_r e (nm_r (nI_1 c) (ih (c + 1) (by omega)))⟩
theorem td_yo24 {post : Int32 → SY → Prop} {K : Nat} (hn : td_n K ≤ 6) (hl : td_laid K (td_n K) a1 a2) (h : ∀ b3, post (nI (td_oc K (td_n K ^ td_n K))) (fk, nI (td_n K), a1, a2, b3, a4, a5, a6)) :
    ∀ (d m : Nat) (b3 : Nat → Int32), m + d = td_n K ^ td_n K → wY_orders_24 post (nI (td_n K ^ td_n K)) (d + 1) (nI (td_oc K m)) (nI m) fk (nI (td_n K)) a1 a2 b3 a4 a5 a6 := by
  have pb := td_pow6 hn hn
  intro d
  induction d with
  | zero =>
    intro m b3 hm
    have e : m = td_n K ^ td_n K := by omega
    rw [e]
    exact br_t (nI_le (by omega) (by omega)) (h b3)
  | succ d ih =>
    intro m b3 hm
    refine br_f (nI_ge (by omega) (by omega)) ?_
    refine td_ygive (b := td_n K) hn (by omega) (by omega) (by omega) (fun c3 hc3 => ?_)
    have k := ih (m + 1) c3 (by omega)
    rw [td_oc_s] at k
    refine ⟨_, td_ya4 (n := td_n K) (q := m) hn hc3 (fun g => ?_) (fun g => ?_) (td_n K) 0 (by omega)⟩
    · refine br_f (by decide) ?_
      refine td_yord (ri := true) (b := td_n K) (q := m) hn hn (by omega) hc3 (by decide) hl (fun t => ?_) (fun t => ?_)
      · rw [if_pos (show td_std K m = true from t), if_pos g] at k
        exact br_f (by decide) (nm_r (nI_1 _) (nm_r (nI_1 m) k))
      · rw [if_neg (show ¬ td_std K m = true from t)] at k
        exact br_t rfl (nm_r (nI_1 m) k)
    · have z : (if td_std K m = true then (if td_ad (td_n K) m = true then 1 else 0) else 0) = 0 := by
        rw [if_neg g]
        by_cases t : td_std K m = true
        · rw [if_pos t]
        · rw [if_neg t]
      rw [z] at k
      exact br_t rfl (nm_r (nI_1 m) k)
theorem td_yor {post : Int32 → SY → Prop} {K : Nat} (hK : td_shp K = true) (h : ∀ fc b1 b2 b3, post (nI (td_xo K)) (nI K, fc, b1, b2, b3, a4, a5, a6)) : wpY_orders post (nI K, fc, a1, a2, a3, a4, a5, a6) := by
  have hn := td_n_6 (td_shp_mem hK)
  unfold wpY_orders
  refine td_ylay hK (fun b1 b2 hl => ?_)
  refine td_ypow (by omega) ?_
  refine ⟨_, td_yo24 hn hl (fun b3 => ?_) (td_n K ^ td_n K) 0 a3 (by omega)⟩
  rw [td_oc_eq (td_shp_mem hK)]
  exact h _ b1 b2 b3
theorem td_yt27 {post : Int32 → Prop} {J : Int32 → Int32 → Prop} {K p A : Nat} (hK : td_shp K = true) (hp : p ≤ 1000) (hJ : J (nI (A * 10 + td_cl K p 3)) (nI (p + 1))) :
    ∀ (d i : Nat), i + d = 3 → wY_turned_27 post J (nI A) (nI p) (nI K) fc a1 a2 a3 a4 a5 a6 (d + 1) (nI (td_cl K p i)) (nI i) := by
  have k1 := td_shp_le hK
  intro d
  induction d with
  | zero =>
    intro i hi
    have e : i = 3 := by omega
    subst e
    have e2 : nI A * 10 + nI (td_cl K p 3) = nI (A * 10 + td_cl K p 3) := by
      show nI A * nI 10 + nI (td_cl K p 3) = _
      rw [pk_mul, nI_add]
    exact br_t (by decide) (nm_r e2 (nm_r (nI_1 p) hJ))
  | succ d ih =>
    intro i hi
    have k := ih (i + 1) (by omega)
    have es : td_cl K p (i + 1) = td_cl K p i + (if td_dg K i ≤ p then 0 else 1) := rfl
    have l := td_dg_le hK i
    rw [es] at k
    refine br_f (nI_ge (b := 3) (by omega) (by decide)) (td_yrow (by omega) (by omega) ?_)
    refine pk_le (td_dg K i) p (fun z => ?_) (fun z => ?_)
    · rw [if_pos z] at k
      exact nm_r (nI_1 i) k
    · rw [if_neg (by omega)] at k
      exact nm_r (nI_1 _) (nm_r (nI_1 i) k)
theorem td_ytu {post : Int32 → Prop} {K : Nat} (hK : td_shp K = true) (h1 : K / 100 ≤ 3 → post (nI (td_tu K))) (h0 : 3 < K / 100 → post (-1)) : wpY_turned post (nI K, fc, a1, a2, a3, a4, a5, a6) := by
  have k1 := td_shp_le hK
  refine ⟨by decide, ?_⟩
  rw [td_e100 (j := K) (by omega)]
  refine pk_le (K / 100) 3 (fun z => ?_) (fun z => h0 z)
  have e : ((0 * 10 + td_cl K 0 3) * 10 + td_cl K 1 3) * 10 + td_cl K 2 3 = td_tu K := by
    unfold td_tu
    omega
  have h2 := h1 z
  rw [← e] at h2
  have w3 : wY_turned_17 post (nI K) fc a1 a2 a3 a4 a5 a6 1 (nI (((0 * 10 + td_cl K 0 3) * 10 + td_cl K 1 3) * 10 + td_cl K 2 3)) (nI 3) := br_t (by decide) h2
  have w2 : wY_turned_17 post (nI K) fc a1 a2 a3 a4 a5 a6 2 (nI ((0 * 10 + td_cl K 0 3) * 10 + td_cl K 1 3)) (nI 2) := br_f (by decide) ⟨_, td_yt27 (p := 2) hK (by omega) w3 3 0 rfl⟩
  have w1 : wY_turned_17 post (nI K) fc a1 a2 a3 a4 a5 a6 3 (nI (0 * 10 + td_cl K 0 3)) (nI 1) := br_f (by decide) ⟨_, td_yt27 (p := 1) hK (by omega) w2 3 0 rfl⟩
  have w0 : wY_turned_17 post (nI K) fc a1 a2 a3 a4 a5 a6 4 (nI 0) (nI 0) := br_f (by decide) ⟨_, td_yt27 (p := 0) (A := 0) hK (by omega) w1 3 0 rfl⟩
  exact ⟨4, w0⟩
end
end
section
section
variable {fk fc : Int32} {a1 a2 a3 a4 a5 a6 : Nat → Int32}
def td_q (K B i m x : Nat) : Nat := td_sum (fun j => if i + j = x then td_cnt i (td_lit K) * td_cnt j (td_lit B) else 0) m
def td_Q (K B m x : Nat) : Nat := td_sum (fun i => td_q K B i 343 x) m
theorem td_q_s (K B i m x : Nat) : td_q K B i (m + 1) x = td_q K B i m x + (if i + m = x then td_cnt i (td_lit K) * td_cnt m (td_lit B) else 0) := rfl
theorem td_Q_s (K B m x : Nat) : td_Q K B (m + 1) x = td_Q K B m x + td_q K B m 343 x := rfl
theorem td_ym58 {post : SY → Prop} {J : Int32 → (Nat → Int32) → (Nat → Int32) → (Nat → Int32) → (Nat → Int32) → (Nat → Int32) → (Nat → Int32) → Prop} {K B i : Nat} (hK : K ∈ td_shapes) (hB : B ∈ td_shapes) (hn : td_n K + td_n B ≤ 6) (hi : i < 343) (h4 : td_sec K a4) (h5 : td_sec B a5)
    (hJ : ∀ b6, (∀ x, x < 343 → b6 x = nI (td_Q K B (i + 1) x)) → J (nI (i + 1)) a1 a2 a3 a4 a5 b6) :
    ∀ (d m : Nat) (b6 : Nat → Int32), m + d = 343 → (∀ x, x < 343 → b6 x = nI (td_Q K B i x + td_q K B i m x)) → wY_multiply_58 post J (nI i) fk fc (d + 1) (nI m) a1 a2 a3 a4 a5 b6 := by
  have ci : (nI i).toNatClampNeg = i := nI_clamp (by omega)
  have li := td_cnt_le hK i
  intro d
  induction d with
  | zero =>
    intro m b6 hm hs
    have e : m = 343 := by omega
    subst e
    exact br_t (by decide) (nm_r (nI_1 i) (hJ b6 hs))
  | succ d ih =>
    intro m b6 hm hs
    have cm : (nI m).toNatClampNeg = m := nI_clamp (by omega)
    have lm := td_cnt_le hB m
    have same : td_cnt i (td_lit K) * td_cnt m (td_lit B) = 0 → wY_multiply_58 post J (nI i) fk fc (d + 1) (nI (m + 1)) a1 a2 a3 a4 a5 b6 := by
      intro z
      refine ih (m + 1) b6 (by omega) (fun x hx => ?_)
      have z2 : td_q K B i (m + 1) x = td_q K B i m x := by
        rw [td_q_s, z]
        by_cases c : i + m = x
        · rw [if_pos c, Nat.add_zero]
        · rw [if_neg c, Nat.add_zero]
      rw [z2]
      exact hs x hx
    refine br_f (nI_ge (b := 343) (by omega) (by decide)) ⟨vp_in_nI hi (by omega), ?_⟩
    rw [ci, cm, h4 i hi, h5 m (by omega)]
    refine pk_le (td_cnt i (td_lit K)) 0 (fun z => nm_r (nI_1 m) (same ?_)) (fun z => ⟨vp_in_nI (by omega) (by omega), ?_⟩)
    · have z0 : td_cnt i (td_lit K) = 0 := by omega
      rw [z0, Nat.zero_mul]
    · refine pk_le (td_cnt m (td_lit B)) 0 (fun w => nm_r (nI_1 m) (same ?_)) (fun w => ?_)
      · have z0 : td_cnt m (td_lit B) = 0 := by omega
        rw [z0, Nat.mul_zero]
      · have hi2 := td_cnt_hi hK z
        have hm2 := td_cnt_hi hB w
        have im : i + m < 343 := by omega
        have cim : (nI (i + m)).toNatClampNeg = i + m := nI_clamp (by omega)
        rw [nI_add i m, cim]
        have ev : b6 (i + m) + nI (td_cnt i (td_lit K)) * nI (td_cnt m (td_lit B)) = nI (td_Q K B i (i + m) + td_q K B i (m + 1) (i + m)) := by
          rw [hs _ im, pk_mul, nI_add, td_q_s, if_pos rfl, Nat.add_assoc]
        refine ⟨vp_in_nI im (by omega), vp_in_nI hi (by omega), vp_in_nI (by omega) (by omega), vp_in_nI im (by omega), nm_r (congrArg (fun z => upd b6 (i + m) z) ev) (nm_r (nI_1 m) (ih (m + 1) _ (by omega) (fun x hx => ?_)))⟩
        by_cases c : x = i + m
        · subst c
          exact pk_us
        · have z2 : td_q K B i (m + 1) x = td_q K B i m x := by rw [td_q_s, if_neg (fun z => c z.symm), Nat.add_zero]
          rw [z2]
          exact (pk_un c).trans (hs x hx)
theorem td_ym49 {post : SY → Prop} {K B : Nat} (hK : K ∈ td_shapes) (hB : B ∈ td_shapes) (hn : td_n K + td_n B ≤ 6) (h4 : td_sec K a4) (h5 : td_sec B a5)
    (h : ∀ b6, (∀ x, x < 343 → b6 x = nI (td_PP K B x)) → post (fk, fc, a1, a2, a3, a4, a5, b6)) :
    ∀ (d i : Nat) (b6 : Nat → Int32), i + d = 343 → (∀ x, x < 343 → b6 x = nI (td_Q K B i x)) → wY_multiply_49 post fk fc (d + 1) (nI i) a1 a2 a3 a4 a5 b6 := by
  intro d
  induction d with
  | zero =>
    intro i b6 hi hs
    have e : i = 343 := by omega
    subst e
    exact br_t (by decide) (h b6 hs)
  | succ d ih =>
    intro i b6 hi hs
    exact br_f (nI_ge (b := 343) (by omega) (by decide)) ⟨_, td_ym58 hK hB hn (by omega) h4 h5 (fun c6 hc => ih (i + 1) c6 (by omega) hc) 343 0 b6 rfl hs⟩
theorem td_ym10 {post : SY → Prop} {K B : Nat} (hK : td_shp K = true) (hB : td_shp B = true) (hn : td_n K + td_n B ≤ 6) (h5 : td_sec K a5)
    (h : ∀ fc b1 b2 b3 b4 b5 b6, (∀ x, x < 343 → b6 x = nI (td_PP K B x)) → post (fk, fc, b1, b2, b3, b4, b5, b6)) :
    ∀ (d i : Nat) (b4 b6 : Nat → Int32), i + d = 343 → (∀ x, x < i → b4 x = nI (td_cnt x (td_lit K)) ∧ b6 x = 0) → wY_multiply_10 post (nI B) fk fc (d + 1) (nI i) a1 a2 a3 b4 a5 b6 := by
  intro d
  induction d with
  | zero =>
    intro i b4 b6 hi hs
    have e : i = 343 := by omega
    subst e
    refine br_t (by decide) (td_yexp hB (fun c1 c2 c3 c5 hc => ?_))
    exact ⟨_, td_ym49 (td_shp_mem hK) (td_shp_mem hB) hn (fun x hx => (hs x hx).1) hc (fun c6 hc6 => h _ c1 c2 c3 b4 c5 c6 hc6) 343 0 b6 rfl (fun x hx => (hs x hx).2)⟩
  | succ d ih =>
    intro i b4 b6 hi hs
    have ci : (nI i).toNatClampNeg = i := nI_clamp (by omega)
    have e4 : upd b4 (nI i).toNatClampNeg (a5 (nI i).toNatClampNeg) = upd b4 i (nI (td_cnt i (td_lit K))) := by rw [ci, h5 i (by omega)]
    refine br_f (nI_ge (b := 343) (by omega) (by decide)) ⟨vp_in_nI (by omega) (by omega), vp_in_nI (by omega) (by omega), nm_r e4 ⟨vp_in_nI (by omega) (by omega), nm_r (congrArg (fun z => upd b6 z 0) ci) (nm_r (nI_1 i) (ih (i + 1) _ _ (by omega) (fun x hx => ?_)))⟩⟩
    by_cases c : x = i
    · subst c
      exact ⟨pk_us, pk_us⟩
    · have g := hs x (by omega)
      exact ⟨(pk_un c).trans g.1, (pk_un c).trans g.2⟩
theorem td_ymul {post : SY → Prop} {K B : Nat} (hK : td_shp K = true) (hB : td_shp B = true) (hn : td_n K + td_n B ≤ 6)
    (h : ∀ fc b1 b2 b3 b4 b5 b6, (∀ x, x < 343 → b6 x = nI (td_RR K B 601 x)) → post (nI K, fc, b1, b2, b3, b4, b5, b6)) : wpY_multiply post (nI K, fc, a1, a2, a3, a4, a5, a6) (nI B) := by
  unfold wpY_multiply
  refine td_yexp hK (fun b1 b2 b3 b5 hs => ?_)
  refine ⟨_, td_ym10 hK hB hn hs (fun fc c1 c2 c3 c4 c5 c6 hc => h fc c1 c2 c3 c4 c5 c6 (fun x hx => ?_)) 343 0 a4 a6 rfl (fun x hx => absurd hx (Nat.not_lt_zero x))⟩
  rw [hc x hx, td_PP_RR (td_shp_mem hK) (td_shp_mem hB) hn]
theorem td_yt98 {post : Int32 → SY → Prop} {J : Int32 → Int32 → Int32 → Int32 → (Nat → Int32) → (Nat → Int32) → (Nat → Int32) → (Nat → Int32) → (Nat → Int32) → (Nat → Int32) → Prop} {K B s : Nat} {x1 x2 : Int32} {S3 : Nat} (h5 : td_sec s a5) (c : td_shp s = true) (dn : td_n s = td_n K + td_n B)
    (hJ : ∀ b6, (∀ x, x < 343 → b6 x = nI (td_RR K B s x)) → J (nI (S3 + td_mm K B s)) (nI s + (-1)) fk fc a1 a2 a3 a4 a5 b6) :
    ∀ (d m : Nat) (b6 : Nat → Int32), m + d = 343 → (∀ x, x < 343 → b6 x = nI (if x < m then td_RR K B s x else td_RR K B (s + 1) x)) → wY_takeOff_98 post J x1 x2 (nI S3) (nI s) (nI (td_mm K B s)) fk fc (d + 1) (nI m) a1 a2 a3 a4 a5 b6 := by
  intro d
  induction d with
  | zero =>
    intro m b6 hm hs
    have e : m = 343 := by omega
    subst e
    refine br_t (by decide) (nm_r (nI_add _ _) (nm_e (hJ b6 (fun x hx => ?_))))
    have g := hs x hx
    rw [if_pos hx] at g
    exact g
  | succ d ih =>
    intro m b6 hm hs
    have cm : (nI m).toNatClampNeg = m := nI_clamp (by omega)
    have g := hs m (by omega)
    rw [if_neg (Nat.lt_irrefl m)] at g
    have ev : upd b6 (nI m).toNatClampNeg (b6 (nI m).toNatClampNeg - nI (td_mm K B s) * a5 (nI m).toNatClampNeg) = upd b6 m (nI (td_RR K B s m)) := by
      rw [cm, g, h5 m (by omega), pk_mul, td_RR_y m c dn, pk_sub (Nat.le_add_left _ _), Nat.add_sub_cancel]
    refine br_f (nI_ge (b := 343) (by omega) (by decide)) ⟨vp_in_nI (by omega) (by omega), vp_in_nI (by omega) (by omega), vp_in_nI (by omega) (by omega), nm_r ev (nm_r (nI_1 m) (ih (m + 1) _ (by omega) (fun x hx => ?_)))⟩
    by_cases q : x = m
    · subst q
      rw [if_pos (Nat.lt_succ_self x)]
      exact pk_us
    · have g2 := hs x hx
      rw [pk_un q, g2]
      by_cases w : x < m
      · rw [if_pos w, if_pos (by omega)]
      · rw [if_neg w, if_neg (by omega)]
end
end
section
section
variable {fk fc : Int32} {a1 a2 a3 a4 a5 a6 : Nat → Int32}
theorem td_neg {s : Nat} {x : Int32} (hs : s < 2 ^ 31) (hx : x < 0) : ¬ nI s = x := fun e => nI_pos hs (by rw [e]; exact hx)
theorem td_A_lt {s : Nat} (c : td_shp s = true) : td_A s < 343 := by
  have q := (td_shp_iff s).mp c
  unfold td_n at q
  unfold td_A
  omega
theorem td_yt80 {post : Int32 → SY → Prop} {J : Int32 → Int32 → Int32 → Int32 → (Nat → Int32) → (Nat → Int32) → (Nat → Int32) → (Nat → Int32) → (Nat → Int32) → (Nat → Int32) → Prop} {K B s : Nat} {x1 x2 : Int32} {S3 : Nat} (c : td_shp s = true) (dn : td_n s = td_n K + td_n B)
    (hs : ∀ x, x < 343 → a6 x = nI (td_RR K B (s + 1) x))
    (hp : nI s = x2 → post (nI (td_mm K B s)) (fk, fc, a1, a2, a3, a4, a5, a6))
    (hJ : ¬ nI s = x2 → ∀ fc b1 b2 b3 b5 b6, (∀ x, x < 343 → b6 x = nI (td_RR K B s x)) → J (nI (S3 + td_mm K B s)) (nI s + (-1)) fk fc b1 b2 b3 a4 b5 b6) :
    wY_takeOff_80 post J x1 x2 (nI S3) (nI s) (nI (td_mm K B s)) fk fc a1 a2 a3 a4 a5 a6 := by
  unfold wY_takeOff_80
  refine br_c hp (fun q => td_yexp c (fun b1 b2 b3 b5 h5 => ?_))
  exact ⟨_, td_yt98 h5 c dn (fun b6 h6 => hJ q _ b1 b2 b3 b5 b6 h6) 343 0 a6 rfl (fun x hx => by rw [if_neg (Nat.not_lt_zero x)]; exact hs x hx)⟩
theorem td_yt7 {post : Int32 → SY → Prop} {K B : Nat} {x2 : Int32} (hK : td_shp K = true) (hB : td_shp B = true) (hn : td_n K + td_n B ≤ 6) (P : Nat → Nat → Prop)
    (hend : ∀ S3, P 0 S3 → ∀ fc b1 b2 b3 b4 b5 b6, (x2 = (-1) → post (nI S3) (fk, fc, b1, b2, b3, b4, b5, b6)) ∧ (¬ x2 = (-1) → post 0 (fk, fc, b1, b2, b3, b4, b5, b6)))
    (hskip : ∀ s S3, ¬ (td_shp s = true ∧ td_n s = td_n K + td_n B) → P (s + 1) S3 → P s S3)
    (htop : ∀ s S3, s ≤ 600 → td_shp s = true → td_n s = td_n K + td_n B → P (s + 1) S3 → 0 < td_mm K B s → x2 = (-2) → ∀ fc b1 b2 b3 b4 b5 b6, post (nI s) (fk, fc, b1, b2, b3, b4, b5, b6))
    (hask : ∀ s S3, s ≤ 600 → td_shp s = true → td_n s = td_n K + td_n B → P (s + 1) S3 → nI s = x2 → ∀ fc b1 b2 b3 b4 b5 b6, post (nI (td_mm K B s)) (fk, fc, b1, b2, b3, b4, b5, b6))
    (hgo : ∀ s S3, s ≤ 600 → td_shp s = true → td_n s = td_n K + td_n B → P (s + 1) S3 → ¬ (0 < td_mm K B s ∧ x2 = (-2)) → ¬ nI s = x2 → P s (S3 + td_mm K B s)) :
    ∀ (e S3 : Nat) (fc : Int32) (b1 b2 b3 b4 b5 b6 : Nat → Int32), e ≤ 601 → P e S3 → (∀ x, x < 343 → b6 x = nI (td_RR K B e x)) → wY_takeOff_7 post (nI (td_n K + td_n B)) x2 (e + 1) (nI S3) (nI e + (-1)) fk fc b1 b2 b3 b4 b5 b6 := by
  intro e
  induction e with
  | zero =>
    intro S3 fc b1 b2 b3 b4 b5 b6 _ hP _
    exact br_t (by decide) (hend S3 hP fc b1 b2 b3 b4 b5 b6)
  | succ s ih =>
    intro S3 fc b1 b2 b3 b4 b5 b6 he hP hs
    rw [pk_m1]
    refine br_f (nI_pos (by omega)) ?_
    have skip : ¬ (td_shp s = true ∧ td_n s = td_n K + td_n B) → wY_takeOff_7 post (nI (td_n K + td_n B)) x2 (s + 1) (nI S3) (nI s + (-1)) fk fc b1 b2 b3 b4 b5 b6 := by
      intro q
      refine ih S3 fc b1 b2 b3 b4 b5 b6 (by omega) (hskip s S3 q hP) (fun x hx => ?_)
      rw [← td_RR_n x q]
      exact hs x hx
    by_cases c : td_shp s = true
    · have k6 := td_n_6 (td_shp_mem c)
      refine td_ysh1 c (br_f (by decide) (td_ysz (by omega) ?_))
      refine pk_eq (td_n s) (td_n K + td_n B) (fun dn => ?_) (fun dn => nm_e (skip (fun q => dn q.2)))
      have al := td_A_lt c
      have ea : 49 * (nI s / 100) + 7 * (nI s / 10 - nI s / 10 / 10 * 10) + (nI s - nI s / 10 * 10) = nI (td_A s) := by
        rw [td_e100 (j := s) (by omega), td_e10 (j := s) (by omega), td_e1 (j := s) (by omega), td_ix]
        rfl
      have ev : b6 (nI (td_A s)).toNatClampNeg = nI (td_mm K B s) := by
        rw [nI_clamp (n := td_A s) (by omega), hs _ al, td_RR_at c dn]
      have lm := td_mm_le (td_shp_mem hK) (td_shp_mem hB) (td_shp_mem c) hn
      refine ⟨by decide, by decide, by decide, by decide, nm_r ea ⟨vp_in_nI al (by omega), nm_r ev ?_⟩⟩
      have go : ¬ (0 < td_mm K B s ∧ x2 = (-2)) → wY_takeOff_80 post (wY_takeOff_7 post (nI (td_n K + td_n B)) x2 (s + 1)) (nI (td_n K + td_n B)) x2 (nI S3) (nI s) (nI (td_mm K B s)) fk fc b1 b2 b3 b4 b5 b6 := by
        intro q
        refine td_yt80 c dn hs (fun w => hask s S3 (by omega) c dn hP w fc b1 b2 b3 b4 b5 b6) (fun w fc c1 c2 c3 c5 c6 h6 => ?_)
        exact ih (S3 + td_mm K B s) fc c1 c2 c3 b4 c5 c6 (by omega) (hgo s S3 (by omega) c dn hP q w) h6
      refine pk_le (td_mm K B s) 0 (fun z => go (fun q => absurd q.1 (by omega))) (fun z => ?_)
      exact br_c (fun w => htop s S3 (by omega) c dn hP z w fc b1 b2 b3 b4 b5 b6) (fun w => go (fun q => w q.2))
    · refine td_ysh0 (fun j hj z => c ?_) (br_t rfl (nm_e (skip (fun q => c q.1))))
      have hj2 := td_shp_le hj
      have z2 := (nI_eq (by omega) (by omega)).mp z
      rw [z2]; exact hj
theorem td_ytoP {post : Int32 → SY → Prop} {K B : Nat} (hK : td_shp K = true) (hB : td_shp B = true) (hn : td_n K + td_n B ≤ 6) (hs : ∀ x, x < 343 → a6 x = nI (td_RR K B 601 x))
    (h : ∀ fc b1 b2 b3 b4 b5 b6, post (nI (td_TT K B 601)) (fk, fc, b1, b2, b3, b4, b5, b6)) : wpY_takeOff post (fk, fc, a1, a2, a3, a4, a5, a6) (nI (td_n K + td_n B)) (-1) := by
  have k := td_yt7 (post := post) (fk := fk) (x2 := -1) hK hB hn (fun e S3 => S3 + td_TT K B e = td_TT K B 601) ?_ ?_ ?_ ?_ ?_ 601 0 fc a1 a2 a3 a4 a5 a6 (Nat.le_refl _) (Nat.zero_add _) hs
  · exact ⟨_, k⟩
  · intro S3 hP fc b1 b2 b3 b4 b5 b6
    refine br_t rfl ?_
    have e : S3 = td_TT K B 601 := hP
    rw [e]
    exact h fc b1 b2 b3 b4 b5 b6
  · intro s S3 q hP
    show S3 + td_TT K B s = td_TT K B 601
    rw [← td_TT_n q]
    exact hP
  · intro s S3 _ _ _ _ _ w
    exact absurd w (by decide)
  · intro s S3 h6 _ _ _ w
    exact absurd w (td_neg (by omega) (by decide))
  · intro s S3 h6 c dn hP _ _
    show S3 + td_mm K B s + td_TT K B s = td_TT K B 601
    have hP2 : S3 + td_TT K B (s + 1) = td_TT K B 601 := hP
    rw [td_TT_y c dn] at hP2
    omega
theorem td_gr_n {K B s : Nat} (h : ¬ (td_shp s = true ∧ 0 < td_mm K B s)) : td_gr K B (s + 1) = td_gr K B s := if_neg h
theorem td_gr_y {K B s : Nat} (c : td_shp s = true) (h : 0 < td_mm K B s) : td_gr K B (s + 1) = s := if_pos ⟨c, h⟩
theorem td_ytoG {post : Int32 → SY → Prop} {K B : Nat} (hK : td_shp K = true) (hB : td_shp B = true) (hn : td_n K + td_n B ≤ 6) (hs : ∀ x, x < 343 → a6 x = nI (td_RR K B 601 x))
    (h : ∀ fc b1 b2 b3 b4 b5 b6, post (nI (td_gr K B 601)) (fk, fc, b1, b2, b3, b4, b5, b6)) : wpY_takeOff post (fk, fc, a1, a2, a3, a4, a5, a6) (nI (td_n K + td_n B)) (-2) := by
  have k := td_yt7 (post := post) (fk := fk) (x2 := -2) hK hB hn (fun e _ => td_gr K B e = td_gr K B 601) ?_ ?_ ?_ ?_ ?_ 601 0 fc a1 a2 a3 a4 a5 a6 (Nat.le_refl _) rfl hs
  · exact ⟨_, k⟩
  · intro S3 hP fc b1 b2 b3 b4 b5 b6
    refine br_f (by decide) ?_
    have e : 0 = td_gr K B 601 := hP
    have g := h fc b1 b2 b3 b4 b5 b6
    rw [← e] at g
    exact g
  · intro s S3 q hP
    show td_gr K B s = td_gr K B 601
    have hP2 : td_gr K B (s + 1) = td_gr K B 601 := hP
    rw [td_gr_n] at hP2
    · exact hP2
    · intro w
      by_cases d : td_n s = td_n K + td_n B
      · exact q ⟨w.1, d⟩
      · rw [td_mm_z (td_shp_mem hK) (td_shp_mem hB) (td_shp_mem w.1) hn d] at w
        exact absurd w.2 (Nat.lt_irrefl 0)
  · intro s S3 _ c dn hP z _ fc b1 b2 b3 b4 b5 b6
    have hP2 : td_gr K B (s + 1) = td_gr K B 601 := hP
    rw [td_gr_y c z] at hP2
    rw [hP2]
    exact h fc b1 b2 b3 b4 b5 b6
  · intro s S3 h6 _ _ _ w
    exact absurd w (td_neg (by omega) (by decide))
  · intro s S3 h6 c dn hP q _
    show td_gr K B s = td_gr K B 601
    have hP2 : td_gr K B (s + 1) = td_gr K B 601 := hP
    rw [td_gr_n (fun w => q ⟨w.2, rfl⟩)] at hP2
    exact hP2
theorem td_ytoT {post : Int32 → SY → Prop} {K B t : Nat} (hK : td_shp K = true) (hB : td_shp B = true) (ht : td_shp t = true) (hn : td_n K + td_n B ≤ 6) (hs : ∀ x, x < 343 → a6 x = nI (td_RR K B 601 x))
    (h : ∀ fc b1 b2 b3 b4 b5 b6, post (nI (td_mm K B t)) (fk, fc, b1, b2, b3, b4, b5, b6)) : wpY_takeOff post (fk, fc, a1, a2, a3, a4, a5, a6) (nI (td_n K + td_n B)) (nI t) := by
  have t6 := td_shp_le ht
  have k := td_yt7 (post := post) (fk := fk) (x2 := nI t) hK hB hn (fun e _ => td_n t = td_n K + td_n B → t < e) ?_ ?_ ?_ ?_ ?_ 601 0 fc a1 a2 a3 a4 a5 a6 (Nat.le_refl _) (fun _ => by omega) hs
  · exact ⟨_, k⟩
  · intro S3 hP fc b1 b2 b3 b4 b5 b6
    refine br_f (td_neg (by omega) (by decide)) ?_
    have z : td_mm K B t = 0 := td_mm_z (td_shp_mem hK) (td_shp_mem hB) (td_shp_mem ht) hn (fun d => absurd (hP d) (Nat.not_lt_zero t))
    have g := h fc b1 b2 b3 b4 b5 b6
    rw [z] at g
    exact g
  · intro s S3 q hP d
    have l := hP d
    have ne : t ≠ s := fun e => q ⟨e ▸ ht, e ▸ d⟩
    omega
  · intro s S3 _ _ _ _ _ w
    exact absurd w (td_neg (by omega) (by decide))
  · intro s S3 h6 _ _ _ w fc b1 b2 b3 b4 b5 b6
    have e := (nI_eq (by omega) (by omega)).mp w
    rw [e]
    exact h fc b1 b2 b3 b4 b5 b6
  · intro s S3 h6 c dn hP _ w d
    have l := hP d
    have ne : t ≠ s := fun e => w (by rw [e])
    omega
theorem td_yrf1 {post : Int32 → Prop} {K B : Nat} (hK : td_shp K = true) (hB : td_shp B = true) (hn : td_n K + td_n B ≤ 6) (h : post 0) : wpY_refused post (nI K, fc, a1, a2, a3, a4, a5, a6) (nI B) := by
  have k1 := td_shp_le hK
  have k2 := td_shp_le hB
  unfold wpY_refused
  refine td_ysh1 hB (br_f (by decide) (td_ysz (by omega) (td_ysz (by omega) ?_)))
  exact pk_le (td_n K + td_n B) 6 (fun _ => h) (fun z => absurd z (by omega)) (nI_add _ _) rfl
theorem td_yrf0 {post : Int32 → Prop} {K : Nat} {x : Int32} (hK : td_shp K = true) (hx : ∀ B, td_shp B = true → td_n K + td_n B ≤ 6 → x ≠ nI B) (h : post 1) : wpY_refused post (nI K, fc, a1, a2, a3, a4, a5, a6) x := by
  have k1 := td_shp_le hK
  have k4 := (td_shp_iff K).mp hK
  unfold wpY_refused
  by_cases c : ∃ B, td_shp B = true ∧ x = nI B
  · obtain ⟨B, hB, rfl⟩ := c
    have k2 := td_shp_le hB
    have k5 := (td_shp_iff B).mp hB
    refine td_ysh1 hB (br_f (by decide) (td_ysz (by omega) (td_ysz (by omega) ?_)))
    exact pk_le (td_n K + td_n B) 6 (fun z => absurd rfl (hx B hB z)) (fun _ => h) (nI_add _ _) rfl
  · exact td_ysh0 (fun j hj e => c ⟨j, hj, e⟩) (br_t rfl h)
end
end
section
def i_Rel (k : Nat) (u : SX) (v : SY) : Prop := ∃ K, td_shp K = true ∧ u = nI K ∧ v.1 = nI K
theorem i_up {k : Nat} {u : SX} {v : SY} (h : i_Rel k u v) : i_Rel (k + 3) u v := h
theorem i_vc0 : wpX_init (fun u => wpY_init (fun v => i_Rel 0 u v)) := ⟨0, by decide, rfl, rfl⟩
theorem i_vc_keep {k : Nat} {u : SX} {v : SY} (I : i_Rel k u v) (hk : k + 3 ≤ 1536) (v1 : Int32) : wpX_keep (fun r u' => wpY_keep (fun r' v' => r' = r ∧ i_Rel (k + 3) u' v') v v1) u v1 := by
  obtain ⟨f1, f2, a1, a2, a3, a4, a5, a6⟩ := v
  obtain ⟨K, hK, rfl, hv⟩ := I
  cases hv
  by_cases c : ∃ j, td_shp j = true ∧ v1 = nI j
  · obtain ⟨j, hj, rfl⟩ := c
    have k1 := td_shp_le hj
    unfold wpX_keep wpY_keep
    refine td_xsh1 hj (br_f (by decide) (td_xco (by omega) ?_))
    exact td_ysh1 hj (br_f (by decide) (td_ysz (by omega) ⟨rfl, j, hj, rfl, rfl⟩))
  · have n : ∀ j, td_shp j = true → v1 ≠ nI j := fun j hj e => c ⟨j, hj, e⟩
    unfold wpX_keep wpY_keep
    refine td_xsh0 n (br_t rfl ?_)
    exact td_ysh0 n (br_t rfl ⟨rfl, K, hK, rfl, rfl⟩)
theorem i_vc_fillings {k : Nat} {u : SX} {v : SY} (I : i_Rel k u v) (hk : k + 3 ≤ 1536) : wpX_fillings (fun r => wpY_fillings (fun r' v' => r' = r ∧ i_Rel (k + 3) u v') v) u := by
  obtain ⟨f1, f2, a1, a2, a3, a4, a5, a6⟩ := v
  obtain ⟨K, hK, rfl, hv⟩ := I
  cases hv
  refine td_xfil hK (td_yfil hK (fun fc b1 b2 b3 b5 => ⟨?_, K, hK, rfl, rfl⟩))
  exact congrArg nI (td_fil_eq (td_shp_mem hK)).symm
theorem i_vc_withContent {k : Nat} {u : SX} {v : SY} (I : i_Rel k u v) (hk : k + 3 ≤ 1536) (v1 : Int32) : wpX_withContent (fun r => wpY_withContent (fun r' v' => r' = r ∧ i_Rel (k + 3) u v') v v1) u v1 := by
  obtain ⟨f1, f2, a1, a2, a3, a4, a5, a6⟩ := v
  obtain ⟨K, hK, rfl, hv⟩ := I
  cases hv
  by_cases c : ∃ j, j ≤ 666 ∧ td_con j = true ∧ v1 = nI j
  · obtain ⟨j, hj, hc, rfl⟩ := c
    have q := (td_con_iff j).mp hc
    unfold wpX_withContent
    refine td_xic1 hj hc (br_f (by decide) (td_xfw hK (by omega) ?_))
    refine td_ywc1 hK hj hc (fun fc b1 b2 b3 b5 => ⟨?_, K, hK, rfl, rfl⟩)
    exact congrArg nI (td_F_eq (td_shp_mem hK) (by omega) (by omega) (by omega)).symm
  · have n : ∀ j, j ≤ 666 → td_con j = true → v1 ≠ nI j := fun j hj hc e => c ⟨j, hj, hc, e⟩
    unfold wpX_withContent
    refine td_xic0 n (br_t rfl ?_)
    exact td_ywc0 n ⟨rfl, K, hK, rfl, rfl⟩
theorem i_vc_orders {k : Nat} {u : SX} {v : SY} (I : i_Rel k u v) (hk : k + 3 ≤ 1536) : wpX_orders (fun r => wpY_orders (fun r' v' => r' = r ∧ i_Rel (k + 3) u v') v) u := by
  obtain ⟨f1, f2, a1, a2, a3, a4, a5, a6⟩ := v
  obtain ⟨K, hK, rfl, hv⟩ := I
  cases hv
  exact td_xor hK (td_yor hK (fun fc b1 b2 b3 => ⟨rfl, K, hK, rfl, rfl⟩))
theorem i_vc_times {k : Nat} {u : SX} {v : SY} (I : i_Rel k u v) (hk : k + 3 ≤ 1536) (v1 : Int32) (v2 : Int32) : wpX_times (fun r => wpY_times (fun r' v' => r' = r ∧ i_Rel (k + 3) u v') v v1 v2) u v1 v2 := by
  obtain ⟨f1, f2, a1, a2, a3, a4, a5, a6⟩ := v
  obtain ⟨K, hK, rfl, hv⟩ := I
  cases hv
  have k1 := td_shp_le hK
  by_cases c : ∃ B, td_shp B = true ∧ td_n K + td_n B ≤ 6 ∧ v1 = nI B
  · obtain ⟨B, hB, hn, rfl⟩ := c
    have k2 := td_shp_le hB
    unfold wpX_times
    refine td_xcm1 hK hB hn (br_f (by decide) ?_)
    by_cases d : ∃ s, td_shp s = true ∧ v2 = nI s
    · obtain ⟨s, hs, rfl⟩ := d
      refine td_xsh1 hs (br_f (by decide) (td_xtp hK hB hs hn ?_))
      unfold wpY_times
      refine td_yrf1 hK hB hn (br_t rfl (td_ysh1 hs (br_f (by decide) (td_ymul hK hB hn (fun fc b1 b2 b3 b4 b5 b6 h6 => ?_)))))
      refine td_ysz (by omega) (td_ysz (by omega) (nm_r (nI_add _ _) ?_))
      exact td_ytoT hK hB hs hn h6 (fun fc c1 c2 c3 c4 c5 c6 => ⟨rfl, K, hK, rfl, rfl⟩)
    · have n : ∀ s, td_shp s = true → v2 ≠ nI s := fun j hj e => d ⟨j, hj, e⟩
      refine td_xsh0 n (br_t rfl ?_)
      unfold wpY_times
      exact td_yrf1 hK hB hn (br_t rfl (td_ysh0 n (br_t rfl ⟨rfl, K, hK, rfl, rfl⟩)))
  · have n : ∀ B, td_shp B = true → td_n K + td_n B ≤ 6 → v1 ≠ nI B := fun B hB hn e => c ⟨B, hB, hn, e⟩
    unfold wpX_times
    refine td_xcm0 hK n (br_t rfl ?_)
    unfold wpY_times
    exact td_yrf0 hK n (br_f (by decide) ⟨rfl, K, hK, rfl, rfl⟩)
theorem i_vc_parts {k : Nat} {u : SX} {v : SY} (I : i_Rel k u v) (hk : k + 3 ≤ 1536) (v1 : Int32) : wpX_parts (fun r => wpY_parts (fun r' v' => r' = r ∧ i_Rel (k + 3) u v') v v1) u v1 := by
  obtain ⟨f1, f2, a1, a2, a3, a4, a5, a6⟩ := v
  obtain ⟨K, hK, rfl, hv⟩ := I
  cases hv
  have k1 := td_shp_le hK
  by_cases c : ∃ B, td_shp B = true ∧ td_n K + td_n B ≤ 6 ∧ v1 = nI B
  · obtain ⟨B, hB, hn, rfl⟩ := c
    have k2 := td_shp_le hB
    unfold wpX_parts
    refine td_xcm1 hK hB hn (br_f (by decide) ⟨_, td_xpl hK hB hn 601 0 rfl ?_⟩)
    unfold wpY_parts
    refine td_yrf1 hK hB hn (br_t rfl (td_ymul hK hB hn (fun fc b1 b2 b3 b4 b5 b6 h6 => ?_)))
    refine td_ysz (by omega) (td_ysz (by omega) (nm_r (nI_add _ _) ?_))
    refine td_ytoP hK hB hn h6 (fun fc c1 c2 c3 c4 c5 c6 => ⟨?_, K, hK, rfl, rfl⟩)
    exact congrArg nI (td_TT_X (td_shp_mem hK) (td_shp_mem hB) hn).symm
  · have n : ∀ B, td_shp B = true → td_n K + td_n B ≤ 6 → v1 ≠ nI B := fun B hB hn e => c ⟨B, hB, hn, e⟩
    unfold wpX_parts
    refine td_xcm0 hK n (br_t rfl ?_)
    unfold wpY_parts
    exact td_yrf0 hK n (br_f (by decide) ⟨rfl, K, hK, rfl, rfl⟩)
theorem i_vc_greatest {k : Nat} {u : SX} {v : SY} (I : i_Rel k u v) (hk : k + 3 ≤ 1536) (v1 : Int32) : wpX_greatest (fun r => wpY_greatest (fun r' v' => r' = r ∧ i_Rel (k + 3) u v') v v1) u v1 := by
  obtain ⟨f1, f2, a1, a2, a3, a4, a5, a6⟩ := v
  obtain ⟨K, hK, rfl, hv⟩ := I
  cases hv
  have k1 := td_shp_le hK
  by_cases c : ∃ B, td_shp B = true ∧ td_n K + td_n B ≤ 6 ∧ v1 = nI B
  · obtain ⟨B, hB, hn, rfl⟩ := c
    have k2 := td_shp_le hB
    unfold wpX_greatest
    refine td_xcm1 hK hB hn (br_f (by decide) ⟨_, td_xgl hK hB hn 600 (Nat.le_refl _) ?_⟩)
    unfold wpY_greatest
    refine td_yrf1 hK hB hn (br_t rfl (td_ymul hK hB hn (fun fc b1 b2 b3 b4 b5 b6 h6 => ?_)))
    refine td_ysz (by omega) (td_ysz (by omega) (nm_r (nI_add _ _) ?_))
    exact td_ytoG hK hB hn h6 (fun fc c1 c2 c3 c4 c5 c6 => ⟨rfl, K, hK, rfl, rfl⟩)
  · have n : ∀ B, td_shp B = true → td_n K + td_n B ≤ 6 → v1 ≠ nI B := fun B hB hn e => c ⟨B, hB, hn, e⟩
    unfold wpX_greatest
    refine td_xcm0 hK n (br_t rfl ?_)
    unfold wpY_greatest
    exact td_yrf0 hK n (br_f (by decide) ⟨rfl, K, hK, rfl, rfl⟩)
theorem i_vc_turned {k : Nat} {u : SX} {v : SY} (I : i_Rel k u v) (hk : k + 3 ≤ 1536) : wpX_turned (fun r => wpY_turned (fun r' => r' = r ∧ i_Rel (k + 3) u v) v) u := by
  obtain ⟨f1, f2, a1, a2, a3, a4, a5, a6⟩ := v
  obtain ⟨K, hK, rfl, hv⟩ := I
  cases hv
  refine td_xtu hK (fun z => td_ytu hK (fun _ => ⟨rfl, K, hK, rfl, rfl⟩) (fun w => absurd w (by omega))) (fun z => td_ytu hK (fun w => absurd w (by omega)) (fun _ => ⟨rfl, K, hK, rfl, rfl⟩))
end
