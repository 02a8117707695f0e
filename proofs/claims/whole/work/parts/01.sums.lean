def td_sum (f : Nat → Nat) : Nat → Nat
  | 0 => 0
  | n + 1 => td_sum f n + f n
theorem td_sum_congr {f g : Nat → Nat} {n : Nat} (h : ∀ i, i < n → f i = g i) : td_sum f n = td_sum g n := by
  induction n with
  | zero => rfl
  | succ n ih =>
    show td_sum f n + f n = td_sum g n + g n
    rw [ih (fun i hi => h i (by omega)), h n (by omega)]
theorem td_sum_zero {f : Nat → Nat} {n : Nat} (h : ∀ i, i < n → f i = 0) : td_sum f n = 0 := by
  induction n with
  | zero => rfl
  | succ n ih =>
    show td_sum f n + f n = 0
    rw [ih (fun i hi => h i (by omega)), h n (by omega)]
theorem td_sum_add (f g : Nat → Nat) (n : Nat) : td_sum (fun i => f i + g i) n = td_sum f n + td_sum g n := by
  induction n with
  | zero => rfl
  | succ n ih =>
    show td_sum (fun i => f i + g i) n + (f n + g n) = (td_sum f n + f n) + (td_sum g n + g n)
    rw [ih]; omega
theorem td_sum_ml (a : Nat) (g : Nat → Nat) (n : Nat) : td_sum (fun i => a * g i) n = a * td_sum g n := by
  induction n with
  | zero => rfl
  | succ n ih =>
    show td_sum (fun i => a * g i) n + a * g n = a * (td_sum g n + g n)
    rw [ih, Nat.mul_add]
theorem td_sum_split (f : Nat → Nat) (m n : Nat) : td_sum f (m + n) = td_sum f m + td_sum (fun i => f (m + i)) n := by
  induction n with
  | zero => rfl
  | succ n ih =>
    show td_sum f (m + n) + f (m + n) = td_sum f m + (td_sum (fun i => f (m + i)) n + f (m + n))
    rw [ih]; omega
theorem td_sum_mul (f : Nat → Nat) (b m : Nat) : td_sum f (m * b) = td_sum (fun q => td_sum (fun d => f (d + b * q)) b) m := by
  induction m with
  | zero => rw [Nat.zero_mul]; rfl
  | succ m ih =>
    have e : td_sum (fun i => f (m * b + i)) b = td_sum (fun d => f (d + b * m)) b :=
      td_sum_congr (fun i _ => by show f (m * b + i) = f (i + b * m); rw [Nat.mul_comm m b, Nat.add_comm])
    rw [Nat.succ_mul, td_sum_split, ih, e]
    rfl
theorem td_sum_one (f : Nat → Nat) (e N : Nat) : td_sum (fun i => if e = i then f i else 0) N = if e < N then f e else 0 := by
  induction N with
  | zero => rfl
  | succ n ih =>
    show td_sum (fun i => if e = i then f i else 0) n + (if e = n then f n else 0) = _
    rw [ih]
    by_cases h : e = n
    · subst h
      rw [if_neg (Nat.lt_irrefl e), if_pos rfl, if_pos (Nat.lt_succ_self e), Nat.zero_add]
    · rw [if_neg h, Nat.add_zero]
      by_cases h2 : e < n
      · rw [if_pos h2, if_pos (by omega)]
      · rw [if_neg h2, if_neg (by omega)]
def td_ls (h : Nat → Nat) : List Nat → Nat
  | [] => 0
  | a :: l => h a + td_ls h l
theorem td_ls_congr {h g : Nat → Nat} {l : List Nat} (e : ∀ a, a ∈ l → h a = g a) : td_ls h l = td_ls g l := by
  induction l with
  | nil => rfl
  | cons a l ih =>
    show h a + td_ls h l = g a + td_ls g l
    rw [e a (List.mem_cons_self), ih (fun b hb => e b (List.mem_cons_of_mem _ hb))]
theorem td_ls_app (h : Nat → Nat) (l r : List Nat) : td_ls h (l ++ r) = td_ls h l + td_ls h r := by
  induction l with
  | nil => exact (Nat.zero_add _).symm
  | cons a l ih =>
    show h a + td_ls h (l ++ r) = h a + td_ls h l + td_ls h r
    rw [ih, Nat.add_assoc]
theorem td_ls_flat (h : Nat → Nat) (g : Nat → List Nat) (l : List Nat) : td_ls h (l.flatMap g) = td_ls (fun q => td_ls h (g q)) l := by
  induction l with
  | nil => rfl
  | cons a l ih =>
    rw [List.flatMap_cons, td_ls_app, ih]
    rfl
theorem td_ls_map (h g : Nat → Nat) (l : List Nat) : td_ls h (l.map g) = td_ls (fun q => h (g q)) l := by
  induction l with
  | nil => rfl
  | cons a l ih =>
    rw [List.map_cons]
    show h (g a) + td_ls h (l.map g) = _
    rw [ih]
    rfl
theorem td_ls_perm (h : Nat → Nat) {l r : List Nat} (p : l.Perm r) : td_ls h l = td_ls h r := by
  induction p with
  | nil => rfl
  | cons a _ ih =>
    show h a + _ = h a + _
    rw [ih]
  | swap a b l =>
    show h b + (h a + td_ls h l) = h a + (h b + td_ls h l)
    omega
  | trans _ _ e1 e2 => exact e1.trans e2
def td_cnt (i : Nat) (l : List Nat) : Nat := td_ls (fun e => if e = i then 1 else 0) l
theorem td_cs (f : Nat → Nat) (N : Nat) (l : List Nat) (hl : ∀ e, e ∈ l → e < N) : td_sum (fun i => td_cnt i l * f i) N = td_ls f l := by
  induction l with
  | nil => exact td_sum_zero (fun i _ => Nat.zero_mul _)
  | cons a l ih =>
    have e : ∀ i, i < N → td_cnt i (a :: l) * f i = (if a = i then f i else 0) + td_cnt i l * f i := by
      intro i _
      show ((if a = i then 1 else 0) + td_cnt i l) * f i = _
      rw [Nat.add_mul]
      by_cases h : a = i
      · rw [if_pos h, if_pos h, Nat.one_mul]
      · rw [if_neg h, if_neg h, Nat.zero_mul]
    rw [td_sum_congr e, td_sum_add, td_sum_one, if_pos (hl a (List.mem_cons_self)), ih (fun b hb => hl b (List.mem_cons_of_mem _ hb))]
    rfl
def td_row (t : Nat → Bool) (b q : Nat) : Nat → List Nat
  | 0 => []
  | d + 1 => td_row t b q d ++ (if t (d + b * q) = true then [d + b * q] else [])
theorem td_row_ls (t : Nat → Bool) (b q : Nat) (h : Nat → Nat) (n : Nat) : td_ls h (td_row t b q n) = td_sum (fun d => if t (d + b * q) = true then h (d + b * q) else 0) n := by
  induction n with
  | zero => rfl
  | succ n ih =>
    show td_ls h (td_row t b q n ++ (if t (n + b * q) = true then [n + b * q] else [])) = td_sum (fun d => if t (d + b * q) = true then h (d + b * q) else 0) n + (if t (n + b * q) = true then h (n + b * q) else 0)
    rw [td_ls_app, ih]
    by_cases e : t (n + b * q) = true
    · rw [if_pos e, if_pos e]; rfl
    · rw [if_neg e, if_neg e]; rfl
def td_E (t : Nat → Nat → Nat → Bool) (b : Nat) : Nat → Nat → List Nat
  | 0, _ => [0]
  | j + 1, o => (td_E t b j (o + 1)).flatMap (fun q => td_row (t o (j + 1)) b q b)
def td_ok (t : Nat → Nat → Nat → Bool) (b : Nat) : Nat → Nat → Nat → Bool
  | 0, _, _ => true
  | j + 1, o, q => td_ok t b j (o + 1) (q / b) && t o (j + 1) q
theorem td_tree (t : Nat → Nat → Nat → Bool) (b : Nat) : ∀ (j o : Nat) (h : Nat → Nat), (j = 0 ∨ 0 < b) →
    td_sum (fun q => if td_ok t b j o q = true then h q else 0) (b ^ j) = td_ls h (td_E t b j o) := by
  intro j
  induction j with
  | zero =>
    intro o h _
    show 0 + (if true = true then h 0 else 0) = h 0 + 0
    rw [if_pos rfl, Nat.zero_add, Nat.add_zero]
  | succ j ih =>
    intro o h hb
    have hb : 0 < b := by omega
    rw [Nat.pow_succ, td_sum_mul]
    have e : ∀ q, q < b ^ j → td_sum (fun d => if td_ok t b (j + 1) o (d + b * q) = true then h (d + b * q) else 0) b
        = if td_ok t b j (o + 1) q = true then td_ls h (td_row (t o (j + 1)) b q b) else 0 := by
      intro q _
      rw [td_row_ls]
      have e2 : ∀ d, d < b → (if td_ok t b (j + 1) o (d + b * q) = true then h (d + b * q) else 0)
          = if td_ok t b j (o + 1) q = true then (if t o (j + 1) (d + b * q) = true then h (d + b * q) else 0) else 0 := by
        intro d hd
        have e3 : td_ok t b (j + 1) o (d + b * q) = (td_ok t b j (o + 1) q && t o (j + 1) (d + b * q)) := by
          show (td_ok t b j (o + 1) ((d + b * q) / b) && t o (j + 1) (d + b * q)) = _
          rw [Nat.add_mul_div_left d q hb, Nat.div_eq_of_lt hd, Nat.zero_add]
        rw [e3]
        cases td_ok t b j (o + 1) q
        · rfl
        · cases t o (j + 1) (d + b * q)
          · rfl
          · rfl
      rw [td_sum_congr e2]
      cases td_ok t b j (o + 1) q
      · exact td_sum_zero (fun _ _ => rfl)
      · rfl
    rw [td_sum_congr e, ih (o + 1) (fun q => td_ls h (td_row (t o (j + 1)) b q b)) (Or.inr hb)]
    exact (td_ls_flat h (fun q => td_row (t o (j + 1)) b q b) (td_E t b j (o + 1))).symm
def td_all (p : Nat → Bool) : Nat → Bool
  | 0 => true
  | n + 1 => td_all p n && p n
theorem td_all_iff (p : Nat → Bool) (n : Nat) : td_all p n = true ↔ ∀ i, i < n → p i = true := by
  induction n with
  | zero => exact ⟨fun _ i hi => absurd hi (Nat.not_lt_zero i), fun _ => rfl⟩
  | succ n ih =>
    show (td_all p n && p n) = true ↔ _
    rw [Bool.and_eq_true, ih]
    constructor
    · intro h i hi
      by_cases e : i = n
      · subst e; exact h.2
      · exact h.1 i (by omega)
    · intro h
      exact ⟨fun i hi => h i (by omega), h n (by omega)⟩
def td_st (c : Nat → Nat → Nat → Nat → Bool) (b o j q : Nat) : Bool :=
  td_all (fun i => c o (q % b) (o + i) (q / b ^ i % b) && c (o + i) (q / b ^ i % b) o (q % b)) j
theorem td_ok_iff (c : Nat → Nat → Nat → Nat → Bool) (b : Nat) : ∀ (j o q : Nat),
    td_ok (td_st c b) b j o q = true ↔ ∀ x y, x < j → y < j → c (o + x) (q / b ^ x % b) (o + y) (q / b ^ y % b) = true := by
  intro j
  induction j with
  | zero => exact fun o q => ⟨fun _ x _ hx => absurd hx (Nat.not_lt_zero x), fun _ => rfl⟩
  | succ j ih =>
    intro o q
    show (td_ok (td_st c b) b j (o + 1) (q / b) && td_st c b o (j + 1) q) = true ↔ _
    have d : ∀ x, q / b / b ^ x = q / b ^ (x + 1) := fun x => by rw [Nat.div_div_eq_div_mul, Nat.pow_succ, Nat.mul_comm]
    have z : q / b ^ 0 % b = q % b := by rw [Nat.pow_zero, Nat.div_one]
    rw [Bool.and_eq_true, ih]
    constructor
    · intro h x y hx hy
      obtain ⟨h1, h0⟩ := h
      have h2 : ∀ i, i < j + 1 → (c o (q % b) (o + i) (q / b ^ i % b) && c (o + i) (q / b ^ i % b) o (q % b)) = true := (td_all_iff _ _).mp h0
      cases x with
      | zero =>
        have h3 := h2 y hy
        rw [Bool.and_eq_true] at h3
        rw [z]; exact h3.1
      | succ x =>
        cases y with
        | zero =>
          have h3 := h2 (x + 1) hx
          rw [Bool.and_eq_true] at h3
          rw [z]; exact h3.2
        | succ y =>
          have h3 := h1 x y (by omega) (by omega)
          rw [d, d] at h3
          rw [show o + (x + 1) = o + 1 + x by omega, show o + (y + 1) = o + 1 + y by omega]
          exact h3
    · intro h
      constructor
      · intro x y hx hy
        rw [d, d, show o + 1 + x = o + (x + 1) by omega, show o + 1 + y = o + (y + 1) by omega]
        exact h (x + 1) (y + 1) (by omega) (by omega)
      · refine (td_all_iff _ _).mpr ?_
        intro i hi
        show (c o (q % b) (o + i) (q / b ^ i % b) && c (o + i) (q / b ^ i % b) o (q % b)) = true
        rw [Bool.and_eq_true]
        have h1 := h 0 i (by omega) hi
        have h2 := h i 0 hi (by omega)
        rw [z] at h1 h2
        exact ⟨h1, h2⟩
