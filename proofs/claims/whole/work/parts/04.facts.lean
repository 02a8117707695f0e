def td_S (K m i : Nat) : Nat := td_sum (fun q => if td_fil K q = true then (if td_at (td_n K) q = i then 1 else 0) else 0) m
theorem td_S_eq {K : Nat} (hK : K ∈ td_shapes) (i : Nat) : td_S K (3 ^ td_n K) i = td_cnt i (td_lit K) := by
  have h := of_decide_eq_true (td_cap td_lit_c hK)
  have t := td_tree (td_st (td_chk K false) 3) 3 (td_n K) 0 (fun q => if td_at (td_n K) q = i then 1 else 0) (Or.inr (by decide))
  rw [← h]
  unfold td_cnt
  rw [td_ls_map]
  exact t
theorem td_lit_le {K : Nat} (hK : K ∈ td_shapes) {e : Nat} (he : e ∈ td_lit K) : e ≤ 49 * td_n K := by
  have h : ((td_lit K).all (fun e => Nat.ble e (49 * td_n K)) && Nat.ble (td_ls (fun _ => 1) (td_lit K)) 35) = true := td_cap td_lit_b hK
  rw [Bool.and_eq_true] at h
  have h2 : Nat.ble e (49 * td_n K) = true := List.all_eq_true.mp h.1 e he
  rw [Nat.ble_eq] at h2
  exact h2
theorem td_n_6 {K : Nat} (hK : K ∈ td_shapes) : td_n K ≤ 6 := by
  have c : td_shapes.all (fun K => Nat.ble (td_n K) 6) = true := by decide +kernel
  have h : Nat.ble (td_n K) 6 = true := td_cap c hK
  rw [Nat.ble_eq] at h
  exact h
theorem td_lit_lt {K : Nat} (hK : K ∈ td_shapes) {e : Nat} (he : e ∈ td_lit K) : e < 343 := by
  have a := td_lit_le hK he
  have b := td_n_6 hK
  omega
theorem td_ls_le {f g : Nat → Nat} (h : ∀ a, f a ≤ g a) (l : List Nat) : td_ls f l ≤ td_ls g l := by
  induction l with
  | nil => exact Nat.le_refl _
  | cons a l ih => exact Nat.add_le_add (h a) ih
theorem td_cnt_le {K : Nat} (hK : K ∈ td_shapes) (i : Nat) : td_cnt i (td_lit K) ≤ 35 := by
  have h : ((td_lit K).all (fun e => Nat.ble e (49 * td_n K)) && Nat.ble (td_ls (fun _ => 1) (td_lit K)) 35) = true := td_cap td_lit_b hK
  rw [Bool.and_eq_true, Nat.ble_eq] at h
  exact Nat.le_trans (td_ls_le (fun a => by by_cases e : a = i <;> simp [e]) _) h.2
theorem td_cnt_z {l : List Nat} {i : Nat} (h : ∀ e, e ∈ l → e ≠ i) : td_cnt i l = 0 := by
  induction l with
  | nil => rfl
  | cons a l ih =>
    show (if a = i then 1 else 0) + td_cnt i l = 0
    rw [if_neg (h a List.mem_cons_self), ih (fun e he => h e (List.mem_cons_of_mem _ he))]
theorem td_cnt_hi {K : Nat} (hK : K ∈ td_shapes) {i : Nat} (h : 0 < td_cnt i (td_lit K)) : i ≤ 49 * td_n K := by
  by_cases c : i ≤ 49 * td_n K
  · exact c
  · rw [td_cnt_z (l := td_lit K) (i := i) (fun e he q => c (by rw [← q]; exact td_lit_le hK he))] at h
    exact absurd h (Nat.lt_irrefl 0)
theorem td_F_eq {K : Nat} (hK : K ∈ td_shapes) {a b c : Nat} (ha : a ≤ 6) (hb : b ≤ 6) (hc : c ≤ 6) : td_F K a 0 b 0 c 0 = td_cnt (49 * a + 7 * b + c) (td_lit K) := by
  have h : (List.range 343).all (fun i => Nat.beq (td_cnt i (td_lit K)) (td_F K (i / 49) 0 (i / 7 % 7) 0 (i % 7) 0)) = true := td_cap td_F_c hK
  have g : Nat.beq (td_cnt (49 * a + 7 * b + c) (td_lit K)) (td_F K ((49 * a + 7 * b + c) / 49) 0 ((49 * a + 7 * b + c) / 7 % 7) 0 ((49 * a + 7 * b + c) % 7) 0) = true := List.all_eq_true.mp h _ (List.mem_range.mpr (by omega))
  rw [Nat.beq_eq, show (49 * a + 7 * b + c) / 49 = a by omega, show (49 * a + 7 * b + c) / 7 % 7 = b by omega, show (49 * a + 7 * b + c) % 7 = c by omega] at g
  exact g.symm
theorem td_fil_eq {K : Nat} (hK : K ∈ td_shapes) : td_sum (fun c => if td_con c = true then td_F K (c / 100) 0 (c / 10 % 10) 0 (c % 10) 0 else 0) 667 = td_sum (fun i => td_cnt i (td_lit K)) 343 := by
  have h : Nat.beq (td_sum (fun c => if td_con c = true then td_F K (c / 100) 0 (c / 10 % 10) 0 (c % 10) 0 else 0) 667) (td_ls (fun _ => 1) (td_lit K)) = true := td_cap td_fil_c hK
  rw [Nat.beq_eq] at h
  rw [h, ← td_cs (fun _ => 1) 343 (td_lit K) (fun e he => td_lit_lt hK he)]
  exact td_sum_congr (fun i _ => Nat.mul_one _)
theorem td_mm_f {K B s : Nat} (hK : K ∈ td_shapes) (hB : B ∈ td_shapes) (hs : s ∈ td_shapes) (hn : td_n K + td_n B ≤ 6) :
    td_od K B s ≤ td_ev K B s ∧ td_ev K B s ≤ 100 ∧ (td_n s = td_n K + td_n B ∨ td_ev K B s = 0) := by
  have h1 : td_shapes.all (fun B => Nat.ble 7 (td_n K + td_n B) || td_shapes.all (fun s => Nat.ble (td_od K B s) (td_ev K B s) && (Nat.ble (td_ev K B s) 100 && (Nat.beq (td_n s) (td_n K + td_n B) || Nat.beq (td_ev K B s) 0)))) = true := td_cap td_mm_c hK
  have h2 : (Nat.ble 7 (td_n K + td_n B) || td_shapes.all (fun s => Nat.ble (td_od K B s) (td_ev K B s) && (Nat.ble (td_ev K B s) 100 && (Nat.beq (td_n s) (td_n K + td_n B) || Nat.beq (td_ev K B s) 0)))) = true := td_cap h1 hB
  rw [Bool.or_eq_true, Nat.ble_eq] at h2
  have h3 := h2.resolve_left (by omega)
  have h4 : (Nat.ble (td_od K B s) (td_ev K B s) && (Nat.ble (td_ev K B s) 100 && (Nat.beq (td_n s) (td_n K + td_n B) || Nat.beq (td_ev K B s) 0))) = true := td_cap h3 hs
  rw [Bool.and_eq_true, Bool.and_eq_true, Bool.or_eq_true, Nat.ble_eq, Nat.ble_eq, Nat.beq_eq, Nat.beq_eq] at h4
  exact h4
theorem td_mm_z {K B s : Nat} (hK : K ∈ td_shapes) (hB : B ∈ td_shapes) (hs : s ∈ td_shapes) (hn : td_n K + td_n B ≤ 6) (h : td_n s ≠ td_n K + td_n B) : td_mm K B s = 0 := by
  have f := td_mm_f hK hB hs hn
  unfold td_mm
  omega
theorem td_mm_le {K B s : Nat} (hK : K ∈ td_shapes) (hB : B ∈ td_shapes) (hs : s ∈ td_shapes) (hn : td_n K + td_n B ≤ 6) : td_mm K B s ≤ 100 := by
  have f := td_mm_f hK hB hs hn
  unfold td_mm
  omega
theorem td_tri {s t : Nat} (hs : s ∈ td_shapes) (ht : t ∈ td_shapes) (hn : td_n t = td_n s) (h : t ≤ s) : td_cnt (td_A s) (td_lit t) = if Nat.beq s t = true then 1 else 0 := by
  have h1 : td_shapes.all (fun t => !(Nat.beq (td_n t) (td_n s)) || (Nat.ble (s + 1) t || Nat.beq (td_cnt (td_A s) (td_lit t)) (if Nat.beq s t = true then 1 else 0))) = true := td_cap td_tri_c hs
  have h2 : (!(Nat.beq (td_n t) (td_n s)) || (Nat.ble (s + 1) t || Nat.beq (td_cnt (td_A s) (td_lit t)) (if Nat.beq s t = true then 1 else 0))) = true := td_cap h1 ht
  have h3 : Nat.beq (td_n t) (td_n s) = true := by rw [Nat.beq_eq]; exact hn
  rw [h3, Bool.or_eq_true, Bool.or_eq_true, Nat.ble_eq] at h2
  exact Nat.eq_of_beq_eq_true ((h2.resolve_left (by decide)).resolve_left (by omega))
def td_PP (K B x : Nat) : Nat := td_sum (fun i => td_sum (fun j => if i + j = x then td_cnt i (td_lit K) * td_cnt j (td_lit B) else 0) 343) 343
def td_RR (K B s x : Nat) : Nat := td_sum (fun t => if (td_shp t && Nat.beq (td_n t) (td_n K + td_n B)) = true then td_mm K B t * td_cnt x (td_lit t) else 0) s
def td_TT (K B s : Nat) : Nat := td_sum (fun t => if (td_shp t && Nat.beq (td_n t) (td_n K + td_n B)) = true then td_mm K B t else 0) s
theorem td_PP_ls {K B : Nat} (hK : K ∈ td_shapes) (hB : B ∈ td_shapes) (x : Nat) : td_PP K B x = td_cnt x ((td_lit K).flatMap (fun i => (td_lit B).map (fun j => i + j))) := by
  unfold td_cnt
  rw [td_ls_flat]
  rw [← td_cs _ 343 (td_lit K) (fun e he => td_lit_lt hK he)]
  unfold td_PP
  refine td_sum_congr (fun i _ => ?_)
  show td_sum (fun j => if i + j = x then td_cnt i (td_lit K) * td_cnt j (td_lit B) else 0) 343 = td_cnt i (td_lit K) * td_ls (fun e => if e = x then 1 else 0) ((td_lit B).map (fun j => i + j))
  rw [td_ls_map, ← td_cs _ 343 (td_lit B) (fun e he => td_lit_lt hB he), ← td_sum_ml]
  refine td_sum_congr (fun j _ => ?_)
  show (if i + j = x then td_cnt i (td_lit K) * td_cnt j (td_lit B) else 0) = td_cnt i (td_lit K) * (td_cnt j (td_lit B) * (if i + j = x then 1 else 0))
  by_cases e : i + j = x
  · rw [if_pos e, if_pos e, Nat.mul_one]
  · rw [if_neg e, if_neg e, Nat.mul_zero, Nat.mul_zero]
theorem td_PP_RR {K B : Nat} (hK : K ∈ td_shapes) (hB : B ∈ td_shapes) (hn : td_n K + td_n B ≤ 6) (x : Nat) : td_PP K B x = td_RR K B 601 x := by
  have h1 : td_shapes.all (fun B => Nat.ble 7 (td_n K + td_n B) || List.isPerm ((td_lit K).flatMap (fun i => (td_lit B).map (fun j => i + j))) (td_shapes.flatMap (fun s => td_rep (td_mm K B s) (td_lit s)))) = true := td_cap td_pm_c hK
  have h2 : (Nat.ble 7 (td_n K + td_n B) || List.isPerm ((td_lit K).flatMap (fun i => (td_lit B).map (fun j => i + j))) (td_shapes.flatMap (fun s => td_rep (td_mm K B s) (td_lit s)))) = true := td_cap h1 hB
  rw [Bool.or_eq_true, Nat.ble_eq] at h2
  have h3 := List.isPerm_iff.mp (h2.resolve_left (by omega))
  have h4 : td_cnt x ((td_lit K).flatMap (fun i => (td_lit B).map (fun j => i + j))) = td_cnt x (td_shapes.flatMap (fun s => td_rep (td_mm K B s) (td_lit s))) := td_ls_perm _ h3
  rw [td_PP_ls hK hB, h4]
  unfold td_cnt
  rw [td_ls_flat, ← td_sel_601, ← td_sel_ls]
  unfold td_RR
  refine td_sum_congr (fun t _ => ?_)
  show (if td_shp t = true then td_ls (fun e => if e = x then 1 else 0) (td_rep (td_mm K B t) (td_lit t)) else 0) = (if (td_shp t && Nat.beq (td_n t) (td_n K + td_n B)) = true then td_mm K B t * td_cnt x (td_lit t) else 0)
  by_cases c : td_shp t = true
  · rw [if_pos c, td_rep_ls, c]
    by_cases d : td_n t = td_n K + td_n B
    · rw [if_pos (by rw [Bool.true_and, Nat.beq_eq]; exact d)]
      rfl
    · rw [if_neg (by rw [Bool.true_and, Nat.beq_eq]; exact d), td_mm_z hK hB (td_shp_mem c) hn d, Nat.zero_mul]
  · rw [if_neg c, if_neg (by rw [Bool.and_eq_true]; exact fun q => c q.1)]
theorem td_RR_y {K B s : Nat} (x : Nat) (c : td_shp s = true) (d : td_n s = td_n K + td_n B) : td_RR K B (s + 1) x = td_RR K B s x + td_mm K B s * td_cnt x (td_lit s) := by
  show td_RR K B s x + (if (td_shp s && Nat.beq (td_n s) (td_n K + td_n B)) = true then td_mm K B s * td_cnt x (td_lit s) else 0) = _
  rw [if_pos (by rw [c, Bool.true_and, Nat.beq_eq]; exact d)]
theorem td_RR_n {K B s : Nat} (x : Nat) (c : ¬ (td_shp s = true ∧ td_n s = td_n K + td_n B)) : td_RR K B (s + 1) x = td_RR K B s x := by
  show td_RR K B s x + (if (td_shp s && Nat.beq (td_n s) (td_n K + td_n B)) = true then td_mm K B s * td_cnt x (td_lit s) else 0) = _
  rw [if_neg (by rw [Bool.and_eq_true, Nat.beq_eq]; exact c), Nat.add_zero]
theorem td_TT_y {K B s : Nat} (c : td_shp s = true) (d : td_n s = td_n K + td_n B) : td_TT K B (s + 1) = td_TT K B s + td_mm K B s := by
  show td_TT K B s + (if (td_shp s && Nat.beq (td_n s) (td_n K + td_n B)) = true then td_mm K B s else 0) = _
  rw [if_pos (by rw [c, Bool.true_and, Nat.beq_eq]; exact d)]
theorem td_TT_n {K B s : Nat} (c : ¬ (td_shp s = true ∧ td_n s = td_n K + td_n B)) : td_TT K B (s + 1) = td_TT K B s := by
  show td_TT K B s + (if (td_shp s && Nat.beq (td_n s) (td_n K + td_n B)) = true then td_mm K B s else 0) = _
  rw [if_neg (by rw [Bool.and_eq_true, Nat.beq_eq]; exact c), Nat.add_zero]
theorem td_RR_at {K B s : Nat} (c : td_shp s = true) (d : td_n s = td_n K + td_n B) : td_RR K B (s + 1) (td_A s) = td_mm K B s := by
  rw [td_RR_y _ c d, td_tri (td_shp_mem c) (td_shp_mem c) rfl (Nat.le_refl s), if_pos (by rw [Nat.beq_eq]), Nat.mul_one]
  have z : td_RR K B s (td_A s) = 0 := by
    refine td_sum_zero (fun t ht => ?_)
    by_cases e : (td_shp t && Nat.beq (td_n t) (td_n K + td_n B)) = true
    · rw [if_pos e]
      rw [Bool.and_eq_true, Nat.beq_eq] at e
      rw [td_tri (td_shp_mem c) (td_shp_mem e.1) (by rw [e.2, d]) (by omega), if_neg (by rw [Nat.beq_eq]; omega), Nat.mul_zero]
    · rw [if_neg e]
  rw [z, Nat.zero_add]
theorem td_TT_X {K B : Nat} (hK : K ∈ td_shapes) (hB : B ∈ td_shapes) (hn : td_n K + td_n B ≤ 6) : td_sum (fun t => if td_shp t = true then td_mm K B t else 0) 601 = td_TT K B 601 := by
  refine td_sum_congr (fun t _ => ?_)
  by_cases c : td_shp t = true
  · rw [if_pos c, c]
    by_cases d : td_n t = td_n K + td_n B
    · rw [if_pos (by rw [Bool.true_and, Nat.beq_eq]; exact d)]
    · rw [if_neg (by rw [Bool.true_and, Nat.beq_eq]; exact d), td_mm_z hK hB (td_shp_mem c) hn d]
  · rw [if_neg c, if_neg (by rw [Bool.and_eq_true]; exact fun q => c q.1)]
def td_gr (K B : Nat) : Nat → Nat
  | 0 => 0
  | s + 1 => if td_shp s = true ∧ 0 < td_mm K B s then s else td_gr K B s
