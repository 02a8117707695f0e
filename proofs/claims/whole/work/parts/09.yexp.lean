section
variable {fk fc : Int32} {a1 a2 a3 a4 a5 a6 : Nat → Int32}
theorem td_yg5 {post : SY → Prop} {n q b : Nat} (hn : n ≤ 6) (hq : q < 2 ^ 31) (hb : n = 0 ∨ 0 < b) (hb2 : b ≤ 1000) (h : ∀ b3, (∀ c, c < n → b3 c = nI (q / b ^ c % b + 1)) → post (fk, nI n, a1, a2, b3, a4, a5, a6)) :
    ∀ (d c : Nat) (b3 : Nat → Int32), c + d = n → (∀ i, i < c → b3 i = nI (q / b ^ i % b + 1)) → wY_give_5 post (nI b) fk (nI n) (d + 1) (nI (q / b ^ c)) (nI c) a1 a2 b3 a4 a5 a6 := by
  intro d
  induction d with
  | zero =>
    intro c b3 hc hl
    have e : c = n := by omega
    subst e
    exact br_t (nI_le (by omega) (by omega)) (h b3 hl)
  | succ d ih =>
    intro c b3 hc hl
    have b0 : 0 < b := by omega
    have hz : q / b ^ c < 2 ^ 31 := Nat.lt_of_le_of_lt (Nat.div_le_self _ _) hq
    have ev : nI (q / b ^ c) - nI (q / b ^ c) / nI b * nI b + 1 = nI (q / b ^ c % b + 1) := by
      rw [pk_rem hz b0 (by omega), nI_1]
    have ed : nI (q / b ^ c) / nI b = nI (q / b ^ (c + 1)) := by
      rw [pk_div hz b0 (by omega), Nat.div_div_eq_div_mul, Nat.pow_succ]
    have hc2 : (nI c).toNatClampNeg = c := nI_clamp (by omega)
    have eu : upd b3 (nI c).toNatClampNeg (nI (q / b ^ c) - nI (q / b ^ c) / nI b * nI b + 1) = upd b3 c (nI (q / b ^ c % b + 1)) := by rw [hc2, ev]
    refine br_f (nI_ge (by omega) (by omega)) (br_f (nI_nle b0 (by omega)) ⟨nI_ne0 b0 (by omega), ?_⟩)
    refine ⟨vp_in_nI (by omega) (by omega), nm_r eu (br_f (nI_nle b0 (by omega)) ⟨nI_ne0 b0 (by omega), nm_r ed (nm_r (nI_1 c) ?_)⟩)⟩
    refine ih (c + 1) _ (by omega) ?_
    intro i hi
    by_cases e : i = c
    · subst e
      exact pk_us
    · exact (pk_un e).trans (hl i (by omega))
theorem td_ygive {post : SY → Prop} {n q b : Nat} (hn : n ≤ 6) (hq : q < 2 ^ 31) (hb : n = 0 ∨ 0 < b) (hb2 : b ≤ 1000) (h : ∀ b3, (∀ c, c < n → b3 c = nI (q / b ^ c % b + 1)) → post (fk, nI n, a1, a2, b3, a4, a5, a6)) :
    wpY_give post (fk, nI n, a1, a2, a3, a4, a5, a6) (nI q) (nI b) := by
  have k := td_yg5 (fk := fk) (a1 := a1) (a2 := a2) (a4 := a4) (a5 := a5) (a6 := a6) hn hq hb hb2 h n 0 a3 (by omega) (fun i hi => absurd hi (Nat.not_lt_zero i))
  rw [Nat.pow_zero, Nat.div_one] at k
  exact ⟨_, k⟩
theorem td_yp4 {post : Int32 → Prop} {b n : Nat} (hn : n ≤ 1000) (h : post (nI (b ^ n))) : ∀ (d i : Nat), i + d = n → wY_power_4 post (nI b) (nI n) (d + 1) (nI (b ^ i)) (nI i) := by
  intro d
  induction d with
  | zero =>
    intro i hi
    have e : i = n := by omega
    subst e
    exact br_t (nI_le (by omega) (by omega)) h
  | succ d ih =>
    intro i hi
    have e : nI (b ^ i) * nI b = nI (b ^ (i + 1)) := by rw [pk_mul, Nat.pow_succ]
    exact br_f (nI_ge (by omega) (by omega)) (nm_r e (nm_r (nI_1 i) (ih (i + 1) (by omega))))
theorem td_ypow {post : Int32 → Prop} {b n : Nat} (hn : n ≤ 1000) (h : post (nI (b ^ n))) : wpY_power post (nI b) (nI n) := by
  have k := td_yp4 hn h n 0 (by omega)
  rw [Nat.pow_zero] at k
  exact ⟨_, k⟩
theorem td_yc4 {post : Int32 → Prop} {n q v : Nat} {x : Int32} (hx : x = nI (v + 1)) (hv : v ≤ 1000) (hn : n ≤ 6) (hg : ∀ c, c < n → a3 c = nI (q / 3 ^ c % 3 + 1)) (h : post (nI (td_cn q v n))) :
    ∀ (d c : Nat), c + d = n → wY_count_4 post x fk (nI n) a1 a2 a3 a4 a5 a6 (d + 1) (nI (td_cn q v c)) (nI c) := by
  subst hx
  intro d
  induction d with
  | zero =>
    intro c hc
    have e : c = n := by omega
    subst e
    exact br_t (nI_le (by omega) (by omega)) h
  | succ d ih =>
    intro c hc
    have k := ih (c + 1) (by omega)
    have es : td_cn q v (c + 1) = td_cn q v c + (if q / 3 ^ c % 3 = v then 1 else 0) := rfl
    have m3 : q / 3 ^ c % 3 < 3 := Nat.mod_lt _ (by decide)
    rw [es] at k
    refine br_f (nI_ge (by omega) (by omega)) ?_
    rw [nI_clamp (n := c) (by omega), hg c (by omega)]
    refine ⟨vp_in_nI (by omega) (by omega), ?_⟩
    refine pk_eq (q / 3 ^ c % 3 + 1) (v + 1) (fun z => ?_) (fun z => ?_)
    · rw [if_pos (by omega)] at k
      exact nm_r (nI_1 _) (nm_r (nI_1 c) k)
    · rw [if_neg (by omega)] at k
      exact nm_r (nI_1 c) k
theorem td_yct {post : Int32 → Prop} {n q : Nat} (hn : n ≤ 6) (hg : ∀ c, c < n → a3 c = nI (q / 3 ^ c % 3 + 1)) (h : post (nI (td_at n q))) : wpY_contentOf post (fk, nI n, a1, a2, a3, a4, a5, a6) := by
  unfold wpY_contentOf
  refine ⟨_, td_yc4 (v := 0) rfl (by omega) hn hg ?_ n 0 (by omega)⟩
  refine ⟨_, td_yc4 (v := 1) rfl (by omega) hn hg ?_ n 0 (by omega)⟩
  refine ⟨_, td_yc4 (v := 2) rfl (by omega) hn hg ?_ n 0 (by omega)⟩
  have e : 49 * nI (td_cn q 0 n) + 7 * nI (td_cn q 1 n) + nI (td_cn q 2 n) = nI (td_at n q) := by
    show nI 49 * nI (td_cn q 0 n) + nI 7 * nI (td_cn q 1 n) + nI (td_cn q 2 n) = nI (td_at n q)
    rw [pk_mul, pk_mul, td_add3]
    rfl
  rw [e]
  exact h
theorem td_cn_le (q n : Nat) : td_cn q 0 n + td_cn q 1 n + td_cn q 2 n ≤ n := by
  induction n with
  | zero => exact Nat.le_refl 0
  | succ n ih =>
    show (td_cn q 0 n + (if q / 3 ^ n % 3 = 0 then 1 else 0)) + (td_cn q 1 n + (if q / 3 ^ n % 3 = 1 then 1 else 0)) + (td_cn q 2 n + (if q / 3 ^ n % 3 = 2 then 1 else 0)) ≤ n + 1
    generalize q / 3 ^ n % 3 = r
    by_cases c0 : r = 0
    · subst c0; simp; omega
    · by_cases c1 : r = 1
      · subst c1; simp; omega
      · by_cases c2 : r = 2
        · subst c2; simp; omega
        · rw [if_neg c0, if_neg c1, if_neg c2]; omega
theorem td_at_lt {n : Nat} (hn : n ≤ 6) (q : Nat) : td_at n q < 343 := by
  have h := td_cn_le q n
  unfold td_at
  omega
theorem td_S_s (K m i : Nat) : td_S K (m + 1) i = td_S K m i + (if td_fil K m = true then (if td_at (td_n K) m = i then 1 else 0) else 0) := rfl
theorem td_pow6 {b n : Nat} (hb : b ≤ 6) (hn : n ≤ 6) : b ^ n ≤ 46656 := by
  have a : b ^ n ≤ 6 ^ n := Nat.pow_le_pow_left hb n
  have c : 6 ^ n ≤ 6 ^ 6 := Nat.pow_le_pow_right (by decide) hn
  have d : 6 ^ 6 = 46656 := by decide
  omega
theorem td_ye38 {post : SY → Prop} {K : Nat} (hn : td_n K ≤ 6) (hl : td_laid K (td_n K) a1 a2)
    (h : ∀ b3 b5, (∀ i, i < 343 → b5 i = nI (td_S K (3 ^ td_n K) i)) → post (fk, nI (td_n K), a1, a2, b3, a4, b5, a6)) :
    ∀ (d m : Nat) (b3 b5 : Nat → Int32), m + d = 3 ^ td_n K → (∀ i, i < 343 → b5 i = nI (td_S K m i)) → wY_expand_38 post (nI (3 ^ td_n K)) (d + 1) (nI m) fk (nI (td_n K)) a1 a2 b3 a4 b5 a6 := by
  have pb := td_pow6 (b := 3) (by decide) hn
  intro d
  induction d with
  | zero =>
    intro m b3 b5 hm hs
    have e : m = 3 ^ td_n K := by omega
    subst e
    exact br_t (nI_le (by omega) (by omega)) (h b3 b5 hs)
  | succ d ih =>
    intro m b3 b5 hm hs
    refine br_f (nI_ge (by omega) (by omega)) ?_
    refine td_ygive (b := 3) hn (by omega) (Or.inr (by decide)) (by decide) (fun c3 hc3 => ?_)
    refine td_yct hn hc3 ?_
    have al := td_at_lt hn m
    refine td_yord (ri := false) (b := 3) (q := m) hn (by decide) (Or.inr (by decide)) hc3 (by decide) hl (fun g => ?_) (fun g => ?_)
    · have hc : (nI (td_at (td_n K) m)).toNatClampNeg = td_at (td_n K) m := nI_clamp (by omega)
      have eu : upd b5 (nI (td_at (td_n K) m)).toNatClampNeg (b5 (nI (td_at (td_n K) m)).toNatClampNeg + 1) = upd b5 (td_at (td_n K) m) (nI (td_S K m (td_at (td_n K) m) + 1)) := by
        rw [hc, hs _ al, nI_1]
      refine br_f (by decide) ⟨vp_in_nI al (by omega), vp_in_nI al (by omega), nm_r eu (nm_r (nI_1 m) (ih (m + 1) c3 _ (by omega) ?_))⟩
      intro i hi
      rw [td_S_s, if_pos (show td_fil K m = true from g)]
      by_cases e : i = td_at (td_n K) m
      · rw [if_pos e.symm, e]
        exact pk_us
      · rw [if_neg (fun z => e z.symm), Nat.add_zero]
        exact (pk_un e).trans (hs i hi)
    · refine br_t rfl (nm_r (nI_1 m) (ih (m + 1) c3 b5 (by omega) ?_))
      intro i hi
      rw [td_S_s, if_neg (show ¬ td_fil K m = true from g), Nat.add_zero]
      exact hs i hi
theorem td_ye7 {post : SY → Prop} {K : Nat} (hn : td_n K ≤ 6) (hl : td_laid K (td_n K) a1 a2)
    (h : ∀ b3 b5, (∀ i, i < 343 → b5 i = nI (td_S K (3 ^ td_n K) i)) → post (fk, nI (td_n K), a1, a2, b3, a4, b5, a6)) :
    ∀ (d x : Nat) (b5 : Nat → Int32), x + d = 343 → (∀ i, i < x → b5 i = 0) → wY_expand_7 post fk (nI (td_n K)) (d + 1) (nI x) a1 a2 a3 a4 b5 a6 := by
  intro d
  induction d with
  | zero =>
    intro x b5 hx hz
    have e : x = 343 := by omega
    subst e
    refine br_t (by decide) (td_ypow (b := 3) (by omega) ?_)
    exact ⟨_, td_ye38 hn hl h (3 ^ td_n K) 0 a3 b5 (by omega) (fun i hi => hz i hi)⟩
  | succ d ih =>
    intro x b5 hx hz
    have hc : (nI x).toNatClampNeg = x := nI_clamp (by omega)
    refine br_f (nI_ge (b := 343) (by omega) (by decide)) ⟨vp_in_nI (by omega) (by omega), nm_r (congrArg (fun z => upd b5 z 0) hc) (nm_r (nI_1 x) (ih (x + 1) _ (by omega) ?_))⟩
    intro i hi
    by_cases e : i = x
    · subst e
      exact pk_us
    · exact (pk_un e).trans (hz i (by omega))
def td_sec (K : Nat) (b5 : Nat → Int32) : Prop := ∀ i, i < 343 → b5 i = nI (td_cnt i (td_lit K))
theorem td_yexp {post : SY → Prop} {K : Nat} (hK : td_shp K = true) (h : ∀ b1 b2 b3 b5, td_sec K b5 → post (fk, nI (td_n K), b1, b2, b3, a4, b5, a6)) : wpY_expand post (fk, fc, a1, a2, a3, a4, a5, a6) (nI K) := by
  have hn := td_n_6 (td_shp_mem hK)
  unfold wpY_expand
  refine td_ylay hK (fun b1 b2 hl => ?_)
  refine ⟨_, td_ye7 hn hl (fun b3 b5 hs => h b1 b2 b3 b5 (fun i hi => ?_)) 343 0 a5 rfl (fun i hi => absurd hi (Nat.not_lt_zero i))⟩
  rw [← td_S_eq (td_shp_mem hK)]
  exact hs i hi
theorem td_yf12 {post : Int32 → SY → Prop} {K : Nat} (hs : td_sec K a5) (h : post (nI (td_sum (fun i => td_cnt i (td_lit K)) 343)) (fk, fc, a1, a2, a3, a4, a5, a6)) :
    ∀ (d x : Nat), x + d = 343 → wY_fillings_12 post fk fc a1 a2 a3 a4 a5 a6 (d + 1) (nI (td_sum (fun i => td_cnt i (td_lit K)) x)) (nI x) := by
  intro d
  induction d with
  | zero =>
    intro x hx
    have e : x = 343 := by omega
    subst e
    exact br_t (by decide) h
  | succ d ih =>
    intro x hx
    have e : nI (td_sum (fun i => td_cnt i (td_lit K)) x) + a5 (nI x).toNatClampNeg = nI (td_sum (fun i => td_cnt i (td_lit K)) (x + 1)) := by
      rw [nI_clamp (n := x) (by omega), hs x (by omega), nI_add]
      rfl
    exact br_f (nI_ge (b := 343) (by omega) (by decide)) ⟨vp_in_nI (by omega) (by omega), nm_r e (nm_r (nI_1 x) (ih (x + 1) (by omega)))⟩
theorem td_yfil {post : Int32 → SY → Prop} {K : Nat} (hK : td_shp K = true) (h : ∀ fc b1 b2 b3 b5, post (nI (td_sum (fun i => td_cnt i (td_lit K)) 343)) (nI K, fc, b1, b2, b3, a4, b5, a6)) : wpY_fillings post (nI K, fc, a1, a2, a3, a4, a5, a6) := by
  unfold wpY_fillings
  refine td_yexp hK (fun b1 b2 b3 b5 hs => ?_)
  exact ⟨_, td_yf12 hs (h _ b1 b2 b3 b5) 343 0 rfl⟩
end
