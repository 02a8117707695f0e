section
variable {fk fc : Int32} {a1 a2 a3 a4 a5 a6 : Nat → Int32}
theorem td_ix (a b c : Nat) : 49 * nI a + 7 * nI b + nI c = nI (49 * a + 7 * b + c) := by
  show nI 49 * nI a + nI 7 * nI b + nI c = _
  rw [pk_mul, pk_mul, td_add3]
theorem td_ywc1 {post : Int32 → SY → Prop} {K j : Nat} (hK : td_shp K = true) (hj : j ≤ 666) (hc : td_con j = true)
    (h : ∀ fc b1 b2 b3 b5, post (nI (td_cnt (49 * (j / 100) + 7 * (j / 10 % 10) + j % 10) (td_lit K))) (nI K, fc, b1, b2, b3, a4, b5, a6)) : wpY_withContent post (nI K, fc, a1, a2, a3, a4, a5, a6) (nI j) := by
  rw [td_con_iff] at hc
  have h3 : j < 2 ^ 31 := by omega
  refine ⟨by decide, nm_r (td_e100 h3) ⟨by decide, by decide, nm_r (td_e10 h3) ⟨by decide, nm_r (td_e1 h3) ?_⟩⟩⟩
  refine br_f (nI_pos (by omega)) ?_
  refine pk_lt 6 (j / 100) (fun z => absurd z (by omega)) (fun _ => ?_)
  refine pk_lt 6 (j / 10 % 10) (fun z => absurd z (by omega)) (fun _ => ?_)
  refine pk_le (j % 10) 6 (fun _ => ?_) (fun z => absurd z (by omega))
  refine td_yexp hK (fun b1 b2 b3 b5 hs => ?_)
  dsimp only
  rw [td_ix, nI_clamp (n := 49 * (j / 100) + 7 * (j / 10 % 10) + j % 10) (by omega), hs _ (by omega)]
  exact ⟨vp_in_nI (by omega) (by omega), h _ b1 b2 b3 b5⟩
theorem td_ywc0 {post : Int32 → SY → Prop} {K : Nat} {x : Int32} (hx : ∀ j, j ≤ 666 → td_con j = true → x ≠ nI j) (h : post (-1) (nI K, fc, a1, a2, a3, a4, a5, a6)) : wpY_withContent post (nI K, fc, a1, a2, a3, a4, a5, a6) x := by
  refine ⟨by decide, fun x1 e1 => ⟨by decide, by decide, fun x2 e2 => ⟨by decide, fun x3 e3 => br_c (fun _ => h) (fun h0 => ?_)⟩⟩⟩
  obtain ⟨j, hj, rfl⟩ := nI_of h0
  rw [td_e100 hj] at e1
  rw [td_e10 hj] at e2
  rw [td_e1 hj] at e3
  subst e1 e2 e3
  refine pk_lt 6 (j / 100) (fun _ => h) (fun z1 => ?_)
  refine pk_lt 6 (j / 10 % 10) (fun _ => h) (fun z2 => ?_)
  exact pk_le (j % 10) 6 (fun z3 => absurd rfl (hx j (by omega) ((td_con_iff j).mpr ⟨z2, z3⟩))) (fun _ => h)
def td_se (q n : Nat) : Nat → Int32
  | 0 => 0
  | c + 1 => td_se q n c ||| ((1 : Int32) <<< (nI (q / n ^ c % n + 1) &&& 31))
def td_ad (n q : Nat) : Bool := decide (td_se q n n = ((2 : Int32) <<< (nI n &&& 31)) - 2)
theorem td_or_c : td_shapes.all (fun K => Nat.beq (td_xo K) (td_ls (fun q => if td_ad (td_n K) q = true then 1 else 0) (td_E (td_st (td_chk K true) (td_n K)) (td_n K) (td_n K) 0))) = true := by decide +kernel
def td_oc (K m : Nat) : Nat := td_sum (fun q => if td_std K q = true then (if td_ad (td_n K) q = true then 1 else 0) else 0) m
theorem td_oc_eq {K : Nat} (hK : K ∈ td_shapes) : td_oc K (td_n K ^ td_n K) = td_xo K := by
  have h : Nat.beq (td_xo K) (td_ls (fun q => if td_ad (td_n K) q = true then 1 else 0) (td_E (td_st (td_chk K true) (td_n K)) (td_n K) (td_n K) 0)) = true := td_cap td_or_c hK
  rw [Nat.beq_eq] at h
  rw [h, ← td_tree (td_st (td_chk K true) (td_n K)) (td_n K) (td_n K) 0 (fun q => if td_ad (td_n K) q = true then 1 else 0) (by omega)]
  rfl
theorem td_oc_s (K m : Nat) : td_oc K (m + 1) = td_oc K m + (if td_std K m = true then (if td_ad (td_n K) m = true then 1 else 0) else 0) := rfl
theorem td_ya4 {post : Int32 → Prop} {n q : Nat} (hn : n ≤ 6) (hg : ∀ c, c < n → a3 c = nI (q / n ^ c % n + 1)) (h1 : td_ad n q = true → post 1) (h0 : ¬ td_ad n q = true → post 0) :
    ∀ (d c : Nat), c + d = n → wY_allDifferent_4 post fk (nI n) a1 a2 a3 a4 a5 a6 (d + 1) (td_se q n c) (nI c) := by
  intro d
  induction d with
  | zero =>
    intro c hc
    have e : c = n := by omega
    subst e
    exact br_t (nI_le (by omega) (by omega)) (br_c (fun z => h1 (decide_eq_true z)) (fun z => h0 (fun w => z (of_decide_eq_true w))))
  | succ d ih =>
    intro c hc
    have e : td_se q n c ||| ((1 : Int32) <<< (a3 (nI c).toNatClampNeg &&& 31)) = td_se q n (c + 1) := by
      rw [nI_clamp (n := c) (by omega), hg c (by omega)]
      rfl
    exact br_f (nI_ge (by omega) (by omega)) ⟨vp_in_nI (by omega) (by omega), nm_r e (nm_r (nI_1 c) (ih (c + 1) (by omega)))⟩
theorem td_yo24 {post : Int32 → SY → Prop} {K : Nat} (hn : td_n K ≤ 6) (hl : td_laid K (td_n K) a1 a2) (h : ∀ b3, post (nI (td_oc K (td_n K ^ td_n K))) (fk, nI (td_n K), a1, a2, b3, a4, a5, a6)) :
    ∀ (d m : Nat) (b3 : Nat → Int32), m + d = td_n K ^ td_n K → wY_orders_24 post (nI (td_n K ^ td_n K)) (d + 1) (nI (td_oc K m)) (nI m) fk (nI (td_n K)) a1 a2 b3 a4 a5 a6 := by
  have pb := td_pow6 hn hn
  intro d
  induction d with
  | zero =>
    intro m b3 hm
    have e : m = td_n K ^ td_n K := by omega
    rw [e]
    exact br_t (nI_le (by omega) (by omega)) (h b3)
  | succ d ih =>
    intro m b3 hm
    refine br_f (nI_ge (by omega) (by omega)) ?_
    refine td_ygive (b := td_n K) hn (by omega) (by omega) (by omega) (fun c3 hc3 => ?_)
    have k := ih (m + 1) c3 (by omega)
    rw [td_oc_s] at k
    refine ⟨_, td_ya4 (n := td_n K) (q := m) hn hc3 (fun g => ?_) (fun g => ?_) (td_n K) 0 (by omega)⟩
    · refine br_f (by decide) ?_
      refine td_yord (ri := true) (b := td_n K) (q := m) hn hn (by omega) hc3 (by decide) hl (fun t => ?_) (fun t => ?_)
      · rw [if_pos (show td_std K m = true from t), if_pos g] at k
        exact br_f (by decide) (nm_r (nI_1 _) (nm_r (nI_1 m) k))
      · rw [if_neg (show ¬ td_std K m = true from t)] at k
        exact br_t rfl (nm_r (nI_1 m) k)
    · have z : (if td_std K m = true then (if td_ad (td_n K) m = true then 1 else 0) else 0) = 0 := by
        rw [if_neg g]
        by_cases t : td_std K m = true
        · rw [if_pos t]
        · rw [if_neg t]
      rw [z] at k
      exact br_t rfl (nm_r (nI_1 m) k)
theorem td_yor {post : Int32 → SY → Prop} {K : Nat} (hK : td_shp K = true) (h : ∀ fc b1 b2 b3, post (nI (td_xo K)) (nI K, fc, b1, b2, b3, a4, a5, a6)) : wpY_orders post (nI K, fc, a1, a2, a3, a4, a5, a6) := by
  have hn := td_n_6 (td_shp_mem hK)
  unfold wpY_orders
  refine td_ylay hK (fun b1 b2 hl => ?_)
  refine td_ypow (by omega) ?_
  refine ⟨_, td_yo24 hn hl (fun b3 => ?_) (td_n K ^ td_n K) 0 a3 (by omega)⟩
  rw [td_oc_eq (td_shp_mem hK)]
  exact h _ b1 b2 b3
theorem td_yt27 {post : Int32 → Prop} {J : Int32 → Int32 → Prop} {K p A : Nat} (hK : td_shp K = true) (hp : p ≤ 1000) (hJ : J (nI (A * 10 + td_cl K p 3)) (nI (p + 1))) :
    ∀ (d i : Nat), i + d = 3 → wY_turned_27 post J (nI A) (nI p) (nI K) fc a1 a2 a3 a4 a5 a6 (d + 1) (nI (td_cl K p i)) (nI i) := by
  have k1 := td_shp_le hK
  intro d
  induction d with
  | zero =>
    intro i hi
    have e : i = 3 := by omega
    subst e
    have e2 : nI A * 10 + nI (td_cl K p 3) = nI (A * 10 + td_cl K p 3) := by
      show nI A * nI 10 + nI (td_cl K p 3) = _
      rw [pk_mul, nI_add]
    exact br_t (by decide) (nm_r e2 (nm_r (nI_1 p) hJ))
  | succ d ih =>
    intro i hi
    have k := ih (i + 1) (by omega)
    have es : td_cl K p (i + 1) = td_cl K p i + (if td_dg K i ≤ p then 0 else 1) := rfl
    have l := td_dg_le hK i
    rw [es] at k
    refine br_f (nI_ge (b := 3) (by omega) (by decide)) (td_yrow (by omega) (by omega) ?_)
    refine pk_le (td_dg K i) p (fun z => ?_) (fun z => ?_)
    · rw [if_pos z] at k
      exact nm_r (nI_1 i) k
    · rw [if_neg (by omega)] at k
      exact nm_r (nI_1 _) (nm_r (nI_1 i) k)
theorem td_ytu {post : Int32 → Prop} {K : Nat} (hK : td_shp K = true) (h1 : K / 100 ≤ 3 → post (nI (td_tu K))) (h0 : 3 < K / 100 → post (-1)) : wpY_turned post (nI K, fc, a1, a2, a3, a4, a5, a6) := by
  have k1 := td_shp_le hK
  refine ⟨by decide, ?_⟩
  rw [td_e100 (j := K) (by omega)]
  refine pk_le (K / 100) 3 (fun z => ?_) (fun z => h0 z)
  have e : ((0 * 10 + td_cl K 0 3) * 10 + td_cl K 1 3) * 10 + td_cl K 2 3 = td_tu K := by
    unfold td_tu
    omega
  have h2 := h1 z
  rw [← e] at h2
  have w3 : wY_turned_17 post (nI K) fc a1 a2 a3 a4 a5 a6 1 (nI (((0 * 10 + td_cl K 0 3) * 10 + td_cl K 1 3) * 10 + td_cl K 2 3)) (nI 3) := br_t (by decide) h2
  have w2 : wY_turned_17 post (nI K) fc a1 a2 a3 a4 a5 a6 2 (nI ((0 * 10 + td_cl K 0 3) * 10 + td_cl K 1 3)) (nI 2) := br_f (by decide) ⟨_, td_yt27 (p := 2) hK (by omega) w3 3 0 rfl⟩
  have w1 : wY_turned_17 post (nI K) fc a1 a2 a3 a4 a5 a6 3 (nI (0 * 10 + td_cl K 0 3)) (nI 1) := br_f (by decide) ⟨_, td_yt27 (p := 1) hK (by omega) w2 3 0 rfl⟩
  have w0 : wY_turned_17 post (nI K) fc a1 a2 a3 a4 a5 a6 4 (nI 0) (nI 0) := br_f (by decide) ⟨_, td_yt27 (p := 0) (A := 0) hK (by omega) w1 3 0 rfl⟩
  exact ⟨4, w0⟩
end
