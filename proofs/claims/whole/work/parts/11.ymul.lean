section
variable {fk fc : Int32} {a1 a2 a3 a4 a5 a6 : Nat → Int32}
def td_q (K B i m x : Nat) : Nat := td_sum (fun j => if i + j = x then td_cnt i (td_lit K) * td_cnt j (td_lit B) else 0) m
def td_Q (K B m x : Nat) : Nat := td_sum (fun i => td_q K B i 343 x) m
theorem td_q_s (K B i m x : Nat) : td_q K B i (m + 1) x = td_q K B i m x + (if i + m = x then td_cnt i (td_lit K) * td_cnt m (td_lit B) else 0) := rfl
theorem td_Q_s (K B m x : Nat) : td_Q K B (m + 1) x = td_Q K B m x + td_q K B m 343 x := rfl
theorem td_ym58 {post : SY → Prop} {J : Int32 → (Nat → Int32) → (Nat → Int32) → (Nat → Int32) → (Nat → Int32) → (Nat → Int32) → (Nat → Int32) → Prop} {K B i : Nat} (hK : K ∈ td_shapes) (hB : B ∈ td_shapes) (hn : td_n K + td_n B ≤ 6) (hi : i < 343) (h4 : td_sec K a4) (h5 : td_sec B a5)
    (hJ : ∀ b6, (∀ x, x < 343 → b6 x = nI (td_Q K B (i + 1) x)) → J (nI (i + 1)) a1 a2 a3 a4 a5 b6) :
    ∀ (d m : Nat) (b6 : Nat → Int32), m + d = 343 → (∀ x, x < 343 → b6 x = nI (td_Q K B i x + td_q K B i m x)) → wY_multiply_58 post J (nI i) fk fc (d + 1) (nI m) a1 a2 a3 a4 a5 b6 := by
  have ci : (nI i).toNatClampNeg = i := nI_clamp (by omega)
  have li := td_cnt_le hK i
  intro d
  induction d with
  | zero =>
    intro m b6 hm hs
    have e : m = 343 := by omega
    subst e
    exact br_t (by decide) (nm_r (nI_1 i) (hJ b6 hs))
  | succ d ih =>
    intro m b6 hm hs
    have cm : (nI m).toNatClampNeg = m := nI_clamp (by omega)
    have lm := td_cnt_le hB m
    have same : td_cnt i (td_lit K) * td_cnt m (td_lit B) = 0 → wY_multiply_58 post J (nI i) fk fc (d + 1) (nI (m + 1)) a1 a2 a3 a4 a5 b6 := by
      intro z
      refine ih (m + 1) b6 (by omega) (fun x hx => ?_)
      have z2 : td_q K B i (m + 1) x = td_q K B i m x := by
        rw [td_q_s, z]
        by_cases c : i + m = x
        · rw [if_pos c, Nat.add_zero]
        · rw [if_neg c, Nat.add_zero]
      rw [z2]
      exact hs x hx
    refine br_f (nI_ge (b := 343) (by omega) (by decide)) ⟨vp_in_nI hi (by omega), ?_⟩
    rw [ci, cm, h4 i hi, h5 m (by omega)]
    refine pk_le (td_cnt i (td_lit K)) 0 (fun z => nm_r (nI_1 m) (same ?_)) (fun z => ⟨vp_in_nI (by omega) (by omega), ?_⟩)
    · have z0 : td_cnt i (td_lit K) = 0 := by omega
      rw [z0, Nat.zero_mul]
    · refine pk_le (td_cnt m (td_lit B)) 0 (fun w => nm_r (nI_1 m) (same ?_)) (fun w => ?_)
      · have z0 : td_cnt m (td_lit B) = 0 := by omega
        rw [z0, Nat.mul_zero]
      · have hi2 := td_cnt_hi hK z
        have hm2 := td_cnt_hi hB w
        have im : i + m < 343 := by omega
        have cim : (nI (i + m)).toNatClampNeg = i + m := nI_clamp (by omega)
        rw [nI_add i m, cim]
        have ev : b6 (i + m) + nI (td_cnt i (td_lit K)) * nI (td_cnt m (td_lit B)) = nI (td_Q K B i (i + m) + td_q K B i (m + 1) (i + m)) := by
          rw [hs _ im, pk_mul, nI_add, td_q_s, if_pos rfl, Nat.add_assoc]
        refine ⟨vp_in_nI im (by omega), vp_in_nI hi (by omega), vp_in_nI (by omega) (by omega), vp_in_nI im (by omega), nm_r (congrArg (fun z => upd b6 (i + m) z) ev) (nm_r (nI_1 m) (ih (m + 1) _ (by omega) (fun x hx => ?_)))⟩
        by_cases c : x = i + m
        · subst c
          exact pk_us
        · have z2 : td_q K B i (m + 1) x = td_q K B i m x := by rw [td_q_s, if_neg (fun z => c z.symm), Nat.add_zero]
          rw [z2]
          exact (pk_un c).trans (hs x hx)
theorem td_ym49 {post : SY → Prop} {K B : Nat} (hK : K ∈ td_shapes) (hB : B ∈ td_shapes) (hn : td_n K + td_n B ≤ 6) (h4 : td_sec K a4) (h5 : td_sec B a5)
    (h : ∀ b6, (∀ x, x < 343 → b6 x = nI (td_PP K B x)) → post (fk, fc, a1, a2, a3, a4, a5, b6)) :
    ∀ (d i : Nat) (b6 : Nat → Int32), i + d = 343 → (∀ x, x < 343 → b6 x = nI (td_Q K B i x)) → wY_multiply_49 post fk fc (d + 1) (nI i) a1 a2 a3 a4 a5 b6 := by
  intro d
  induction d with
  | zero =>
    intro i b6 hi hs
    have e : i = 343 := by omega
    subst e
    exact br_t (by decide) (h b6 hs)
  | succ d ih =>
    intro i b6 hi hs
    exact br_f (nI_ge (b := 343) (by omega) (by decide)) ⟨_, td_ym58 hK hB hn (by omega) h4 h5 (fun c6 hc => ih (i + 1) c6 (by omega) hc) 343 0 b6 rfl hs⟩
theorem td_ym10 {post : SY → Prop} {K B : Nat} (hK : td_shp K = true) (hB : td_shp B = true) (hn : td_n K + td_n B ≤ 6) (h5 : td_sec K a5)
    (h : ∀ fc b1 b2 b3 b4 b5 b6, (∀ x, x < 343 → b6 x = nI (td_PP K B x)) → post (fk, fc, b1, b2, b3, b4, b5, b6)) :
    ∀ (d i : Nat) (b4 b6 : Nat → Int32), i + d = 343 → (∀ x, x < i → b4 x = nI (td_cnt x (td_lit K)) ∧ b6 x = 0) → wY_multiply_10 post (nI B) fk fc (d + 1) (nI i) a1 a2 a3 b4 a5 b6 := by
  intro d
  induction d with
  | zero =>
    intro i b4 b6 hi hs
    have e : i = 343 := by omega
    subst e
    refine br_t (by decide) (td_yexp hB (fun c1 c2 c3 c5 hc => ?_))
    exact ⟨_, td_ym49 (td_shp_mem hK) (td_shp_mem hB) hn (fun x hx => (hs x hx).1) hc (fun c6 hc6 => h _ c1 c2 c3 b4 c5 c6 hc6) 343 0 b6 rfl (fun x hx => (hs x hx).2)⟩
  | succ d ih =>
    intro i b4 b6 hi hs
    have ci : (nI i).toNatClampNeg = i := nI_clamp (by omega)
    have e4 : upd b4 (nI i).toNatClampNeg (a5 (nI i).toNatClampNeg) = upd b4 i (nI (td_cnt i (td_lit K))) := by rw [ci, h5 i (by omega)]
    refine br_f (nI_ge (b := 343) (by omega) (by decide)) ⟨vp_in_nI (by omega) (by omega), vp_in_nI (by omega) (by omega), nm_r e4 ⟨vp_in_nI (by omega) (by omega), nm_r (congrArg (fun z => upd b6 z 0) ci) (nm_r (nI_1 i) (ih (i + 1) _ _ (by omega) (fun x hx => ?_)))⟩⟩
    by_cases c : x = i
    · subst c
      exact ⟨pk_us, pk_us⟩
    · have g := hs x (by omega)
      exact ⟨(pk_un c).trans g.1, (pk_un c).trans g.2⟩
theorem td_ymul {post : SY → Prop} {K B : Nat} (hK : td_shp K = true) (hB : td_shp B = true) (hn : td_n K + td_n B ≤ 6)
    (h : ∀ fc b1 b2 b3 b4 b5 b6, (∀ x, x < 343 → b6 x = nI (td_RR K B 601 x)) → post (nI K, fc, b1, b2, b3, b4, b5, b6)) : wpY_multiply post (nI K, fc, a1, a2, a3, a4, a5, a6) (nI B) := by
  unfold wpY_multiply
  refine td_yexp hK (fun b1 b2 b3 b5 hs => ?_)
  refine ⟨_, td_ym10 hK hB hn hs (fun fc c1 c2 c3 c4 c5 c6 hc => h fc c1 c2 c3 c4 c5 c6 (fun x hx => ?_)) 343 0 a4 a6 rfl (fun x hx => absurd hx (Nat.not_lt_zero x))⟩
  rw [hc x hx, td_PP_RR (td_shp_mem hK) (td_shp_mem hB) hn]
theorem td_yt98 {post : Int32 → SY → Prop} {J : Int32 → Int32 → Int32 → Int32 → (Nat → Int32) → (Nat → Int32) → (Nat → Int32) → (Nat → Int32) → (Nat → Int32) → (Nat → Int32) → Prop} {K B s : Nat} {x1 x2 : Int32} {S3 : Nat} (h5 : td_sec s a5) (c : td_shp s = true) (dn : td_n s = td_n K + td_n B)
    (hJ : ∀ b6, (∀ x, x < 343 → b6 x = nI (td_RR K B s x)) → J (nI (S3 + td_mm K B s)) (nI s + (-1)) fk fc a1 a2 a3 a4 a5 b6) :
    ∀ (d m : Nat) (b6 : Nat → Int32), m + d = 343 → (∀ x, x < 343 → b6 x = nI (if x < m then td_RR K B s x else td_RR K B (s + 1) x)) → wY_takeOff_98 post J x1 x2 (nI S3) (nI s) (nI (td_mm K B s)) fk fc (d + 1) (nI m) a1 a2 a3 a4 a5 b6 := by
  intro d
  induction d with
  | zero =>
    intro m b6 hm hs
    have e : m = 343 := by omega
    subst e
    refine br_t (by decide) (nm_r (nI_add _ _) (nm_e (hJ b6 (fun x hx => ?_))))
    have g := hs x hx
    rw [if_pos hx] at g
    exact g
  | succ d ih =>
    intro m b6 hm hs
    have cm : (nI m).toNatClampNeg = m := nI_clamp (by omega)
    have g := hs m (by omega)
    rw [if_neg (Nat.lt_irrefl m)] at g
    have ev : upd b6 (nI m).toNatClampNeg (b6 (nI m).toNatClampNeg - nI (td_mm K B s) * a5 (nI m).toNatClampNeg) = upd b6 m (nI (td_RR K B s m)) := by
      rw [cm, g, h5 m (by omega), pk_mul, td_RR_y m c dn, pk_sub (Nat.le_add_left _ _), Nat.add_sub_cancel]
    refine br_f (nI_ge (b := 343) (by omega) (by decide)) ⟨vp_in_nI (by omega) (by omega), vp_in_nI (by omega) (by omega), vp_in_nI (by omega) (by omega), nm_r ev (nm_r (nI_1 m) (ih (m + 1) _ (by omega) (fun x hx => ?_)))⟩
    by_cases q : x = m
    · subst q
      rw [if_pos (Nat.lt_succ_self x)]
      exact pk_us
    · have g2 := hs x hx
      rw [pk_un q, g2]
      by_cases w : x < m
      · rw [if_pos w, if_pos (by omega)]
      · rw [if_neg w, if_neg (by omega)]
end
