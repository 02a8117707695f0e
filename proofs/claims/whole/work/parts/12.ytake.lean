section
variable {fk fc : Int32} {a1 a2 a3 a4 a5 a6 : Nat → Int32}
theorem td_neg {s : Nat} {x : Int32} (hs : s < 2 ^ 31) (hx : x < 0) : ¬ nI s = x := fun e => nI_pos hs (by rw [e]; exact hx)
theorem td_A_lt {s : Nat} (c : td_shp s = true) : td_A s < 343 := by
  have q := (td_shp_iff s).mp c
  unfold td_n at q
  unfold td_A
  omega
theorem td_yt80 {post : Int32 → SY → Prop} {J : Int32 → Int32 → Int32 → Int32 → (Nat → Int32) → (Nat → Int32) → (Nat → Int32) → (Nat → Int32) → (Nat → Int32) → (Nat → Int32) → Prop} {K B s : Nat} {x1 x2 : Int32} {S3 : Nat} (c : td_shp s = true) (dn : td_n s = td_n K + td_n B)
    (hs : ∀ x, x < 343 → a6 x = nI (td_RR K B (s + 1) x))
    (hp : nI s = x2 → post (nI (td_mm K B s)) (fk, fc, a1, a2, a3, a4, a5, a6))
    (hJ : ¬ nI s = x2 → ∀ fc b1 b2 b3 b5 b6, (∀ x, x < 343 → b6 x = nI (td_RR K B s x)) → J (nI (S3 + td_mm K B s)) (nI s + (-1)) fk fc b1 b2 b3 a4 b5 b6) :
    wY_takeOff_80 post J x1 x2 (nI S3) (nI s) (nI (td_mm K B s)) fk fc a1 a2 a3 a4 a5 a6 := by
  unfold wY_takeOff_80
  refine br_c hp (fun q => td_yexp c (fun b1 b2 b3 b5 h5 => ?_))
  exact ⟨_, td_yt98 h5 c dn (fun b6 h6 => hJ q _ b1 b2 b3 b5 b6 h6) 343 0 a6 rfl (fun x hx => by rw [if_neg (Nat.not_lt_zero x)]; exact hs x hx)⟩
theorem td_yt7 {post : Int32 → SY → Prop} {K B : Nat} {x2 : Int32} (hK : td_shp K = true) (hB : td_shp B = true) (hn : td_n K + td_n B ≤ 6) (P : Nat → Nat → Prop)
    (hend : ∀ S3, P 0 S3 → ∀ fc b1 b2 b3 b4 b5 b6, (x2 = (-1) → post (nI S3) (fk, fc, b1, b2, b3, b4, b5, b6)) ∧ (¬ x2 = (-1) → post 0 (fk, fc, b1, b2, b3, b4, b5, b6)))
    (hskip : ∀ s S3, ¬ (td_shp s = true ∧ td_n s = td_n K + td_n B) → P (s + 1) S3 → P s S3)
    (htop : ∀ s S3, s ≤ 600 → td_shp s = true → td_n s = td_n K + td_n B → P (s + 1) S3 → 0 < td_mm K B s → x2 = (-2) → ∀ fc b1 b2 b3 b4 b5 b6, post (nI s) (fk, fc, b1, b2, b3, b4, b5, b6))
    (hask : ∀ s S3, s ≤ 600 → td_shp s = true → td_n s = td_n K + td_n B → P (s + 1) S3 → nI s = x2 → ∀ fc b1 b2 b3 b4 b5 b6, post (nI (td_mm K B s)) (fk, fc, b1, b2, b3, b4, b5, b6))
    (hgo : ∀ s S3, s ≤ 600 → td_shp s = true → td_n s = td_n K + td_n B → P (s + 1) S3 → ¬ (0 < td_mm K B s ∧ x2 = (-2)) → ¬ nI s = x2 → P s (S3 + td_mm K B s)) :
    ∀ (e S3 : Nat) (fc : Int32) (b1 b2 b3 b4 b5 b6 : Nat → Int32), e ≤ 601 → P e S3 → (∀ x, x < 343 → b6 x = nI (td_RR K B e x)) → wY_takeOff_7 post (nI (td_n K + td_n B)) x2 (e + 1) (nI S3) (nI e + (-1)) fk fc b1 b2 b3 b4 b5 b6 := by
  intro e
  induction e with
  | zero =>
    intro S3 fc b1 b2 b3 b4 b5 b6 _ hP _
    exact br_t (by decide) (hend S3 hP fc b1 b2 b3 b4 b5 b6)
  | succ s ih =>
    intro S3 fc b1 b2 b3 b4 b5 b6 he hP hs
    rw [pk_m1]
    refine br_f (nI_pos (by omega)) ?_
    have skip : ¬ (td_shp s = true ∧ td_n s = td_n K + td_n B) → wY_takeOff_7 post (nI (td_n K + td_n B)) x2 (s + 1) (nI S3) (nI s + (-1)) fk fc b1 b2 b3 b4 b5 b6 := by
      intro q
      refine ih S3 fc b1 b2 b3 b4 b5 b6 (by omega) (hskip s S3 q hP) (fun x hx => ?_)
      rw [← td_RR_n x q]
      exact hs x hx
    by_cases c : td_shp s = true
    · have k6 := td_n_6 (td_shp_mem c)
      refine td_ysh1 c (br_f (by decide) (td_ysz (by omega) ?_))
      refine pk_eq (td_n s) (td_n K + td_n B) (fun dn => ?_) (fun dn => nm_e (skip (fun q => dn q.2)))
      have al := td_A_lt c
      have ea : 49 * (nI s / 100) + 7 * (nI s / 10 - nI s / 10 / 10 * 10) + (nI s - nI s / 10 * 10) = nI (td_A s) := by
        rw [td_e100 (j := s) (by omega), td_e10 (j := s) (by omega), td_e1 (j := s) (by omega), td_ix]
        rfl
      have ev : b6 (nI (td_A s)).toNatClampNeg = nI (td_mm K B s) := by
        rw [nI_clamp (n := td_A s) (by omega), hs _ al, td_RR_at c dn]
      have lm := td_mm_le (td_shp_mem hK) (td_shp_mem hB) (td_shp_mem c) hn
      refine ⟨by decide, by decide, by decide, by decide, nm_r ea ⟨vp_in_nI al (by omega), nm_r ev ?_⟩⟩
      have go : ¬ (0 < td_mm K B s ∧ x2 = (-2)) → wY_takeOff_80 post (wY_takeOff_7 post (nI (td_n K + td_n B)) x2 (s + 1)) (nI (td_n K + td_n B)) x2 (nI S3) (nI s) (nI (td_mm K B s)) fk fc b1 b2 b3 b4 b5 b6 := by
        intro q
        refine td_yt80 c dn hs (fun w => hask s S3 (by omega) c dn hP w fc b1 b2 b3 b4 b5 b6) (fun w fc c1 c2 c3 c5 c6 h6 => ?_)
        exact ih (S3 + td_mm K B s) fc c1 c2 c3 b4 c5 c6 (by omega) (hgo s S3 (by omega) c dn hP q w) h6
      refine pk_le (td_mm K B s) 0 (fun z => go (fun q => absurd q.1 (by omega))) (fun z => ?_)
      exact br_c (fun w => htop s S3 (by omega) c dn hP z w fc b1 b2 b3 b4 b5 b6) (fun w => go (fun q => w q.2))
    · refine td_ysh0 (fun j hj z => c ?_) (br_t rfl (nm_e (skip (fun q => c q.1))))
      have hj2 := td_shp_le hj
      have z2 := (nI_eq (by omega) (by omega)).mp z
      rw [z2]; exact hj
theorem td_ytoP {post : Int32 → SY → Prop} {K B : Nat} (hK : td_shp K = true) (hB : td_shp B = true) (hn : td_n K + td_n B ≤ 6) (hs : ∀ x, x < 343 → a6 x = nI (td_RR K B 601 x))
    (h : ∀ fc b1 b2 b3 b4 b5 b6, post (nI (td_TT K B 601)) (fk, fc, b1, b2, b3, b4, b5, b6)) : wpY_takeOff post (fk, fc, a1, a2, a3, a4, a5, a6) (nI (td_n K + td_n B)) (-1) := by
  have k := td_yt7 (post := post) (fk := fk) (x2 := -1) hK hB hn (fun e S3 => S3 + td_TT K B e = td_TT K B 601) ?_ ?_ ?_ ?_ ?_ 601 0 fc a1 a2 a3 a4 a5 a6 (Nat.le_refl _) (Nat.zero_add _) hs
  · exact ⟨_, k⟩
  · intro S3 hP fc b1 b2 b3 b4 b5 b6
    refine br_t rfl ?_
    have e : S3 = td_TT K B 601 := hP
    rw [e]
    exact h fc b1 b2 b3 b4 b5 b6
  · intro s S3 q hP
    show S3 + td_TT K B s = td_TT K B 601
    rw [← td_TT_n q]
    exact hP
  · intro s S3 _ _ _ _ _ w
    exact absurd w (by decide)
  · intro s S3 h6 _ _ _ w
    exact absurd w (td_neg (by omega) (by decide))
  · intro s S3 h6 c dn hP _ _
    show S3 + td_mm K B s + td_TT K B s = td_TT K B 601
    have hP2 : S3 + td_TT K B (s + 1) = td_TT K B 601 := hP
    rw [td_TT_y c dn] at hP2
    omega
theorem td_gr_n {K B s : Nat} (h : ¬ (td_shp s = true ∧ 0 < td_mm K B s)) : td_gr K B (s + 1) = td_gr K B s := if_neg h
theorem td_gr_y {K B s : Nat} (c : td_shp s = true) (h : 0 < td_mm K B s) : td_gr K B (s + 1) = s := if_pos ⟨c, h⟩
theorem td_ytoG {post : Int32 → SY → Prop} {K B : Nat} (hK : td_shp K = true) (hB : td_shp B = true) (hn : td_n K + td_n B ≤ 6) (hs : ∀ x, x < 343 → a6 x = nI (td_RR K B 601 x))
    (h : ∀ fc b1 b2 b3 b4 b5 b6, post (nI (td_gr K B 601)) (fk, fc, b1, b2, b3, b4, b5, b6)) : wpY_takeOff post (fk, fc, a1, a2, a3, a4, a5, a6) (nI (td_n K + td_n B)) (-2) := by
  have k := td_yt7 (post := post) (fk := fk) (x2 := -2) hK hB hn (fun e _ => td_gr K B e = td_gr K B 601) ?_ ?_ ?_ ?_ ?_ 601 0 fc a1 a2 a3 a4 a5 a6 (Nat.le_refl _) rfl hs
  · exact ⟨_, k⟩
  · intro S3 hP fc b1 b2 b3 b4 b5 b6
    refine br_f (by decide) ?_
    have e : 0 = td_gr K B 601 := hP
    have g := h fc b1 b2 b3 b4 b5 b6
    rw [← e] at g
    exact g
  · intro s S3 q hP
    show td_gr K B s = td_gr K B 601
    have hP2 : td_gr K B (s + 1) = td_gr K B 601 := hP
    rw [td_gr_n] at hP2
    · exact hP2
    · intro w
      by_cases d : td_n s = td_n K + td_n B
      · exact q ⟨w.1, d⟩
      · rw [td_mm_z (td_shp_mem hK) (td_shp_mem hB) (td_shp_mem w.1) hn d] at w
        exact absurd w.2 (Nat.lt_irrefl 0)
  · intro s S3 _ c dn hP z _ fc b1 b2 b3 b4 b5 b6
    have hP2 : td_gr K B (s + 1) = td_gr K B 601 := hP
    rw [td_gr_y c z] at hP2
    rw [hP2]
    exact h fc b1 b2 b3 b4 b5 b6
  · intro s S3 h6 _ _ _ w
    exact absurd w (td_neg (by omega) (by decide))
  · intro s S3 h6 c dn hP q _
    show td_gr K B s = td_gr K B 601
    have hP2 : td_gr K B (s + 1) = td_gr K B 601 := hP
    rw [td_gr_n (fun w => q ⟨w.2, rfl⟩)] at hP2
    exact hP2
theorem td_ytoT {post : Int32 → SY → Prop} {K B t : Nat} (hK : td_shp K = true) (hB : td_shp B = true) (ht : td_shp t = true) (hn : td_n K + td_n B ≤ 6) (hs : ∀ x, x < 343 → a6 x = nI (td_RR K B 601 x))
    (h : ∀ fc b1 b2 b3 b4 b5 b6, post (nI (td_mm K B t)) (fk, fc, b1, b2, b3, b4, b5, b6)) : wpY_takeOff post (fk, fc, a1, a2, a3, a4, a5, a6) (nI (td_n K + td_n B)) (nI t) := by
  have t6 := td_shp_le ht
  have k := td_yt7 (post := post) (fk := fk) (x2 := nI t) hK hB hn (fun e _ => td_n t = td_n K + td_n B → t < e) ?_ ?_ ?_ ?_ ?_ 601 0 fc a1 a2 a3 a4 a5 a6 (Nat.le_refl _) (fun _ => by omega) hs
  · exact ⟨_, k⟩
  · intro S3 hP fc b1 b2 b3 b4 b5 b6
    refine br_f (td_neg (by omega) (by decide)) ?_
    have z : td_mm K B t = 0 := td_mm_z (td_shp_mem hK) (td_shp_mem hB) (td_shp_mem ht) hn (fun d => absurd (hP d) (Nat.not_lt_zero t))
    have g := h fc b1 b2 b3 b4 b5 b6
    rw [z] at g
    exact g
  · intro s S3 q hP d
    have l := hP d
    have ne : t ≠ s := fun e => q ⟨e ▸ ht, e ▸ d⟩
    omega
  · intro s S3 _ _ _ _ _ w
    exact absurd w (td_neg (by omega) (by decide))
  · intro s S3 h6 _ _ _ w fc b1 b2 b3 b4 b5 b6
    have e := (nI_eq (by omega) (by omega)).mp w
    rw [e]
    exact h fc b1 b2 b3 b4 b5 b6
  · intro s S3 h6 c dn hP _ w d
    have l := hP d
    have ne : t ≠ s := fun e => w (by rw [e])
    omega
theorem td_yrf1 {post : Int32 → Prop} {K B : Nat} (hK : td_shp K = true) (hB : td_shp B = true) (hn : td_n K + td_n B ≤ 6) (h : post 0) : wpY_refused post (nI K, fc, a1, a2, a3, a4, a5, a6) (nI B) := by
  have k1 := td_shp_le hK
  have k2 := td_shp_le hB
  unfold wpY_refused
  refine td_ysh1 hB (br_f (by decide) (td_ysz (by omega) (td_ysz (by omega) ?_)))
  exact pk_le (td_n K + td_n B) 6 (fun _ => h) (fun z => absurd z (by omega)) (nI_add _ _) rfl
theorem td_yrf0 {post : Int32 → Prop} {K : Nat} {x : Int32} (hK : td_shp K = true) (hx : ∀ B, td_shp B = true → td_n K + td_n B ≤ 6 → x ≠ nI B) (h : post 1) : wpY_refused post (nI K, fc, a1, a2, a3, a4, a5, a6) x := by
  have k1 := td_shp_le hK
  have k4 := (td_shp_iff K).mp hK
  unfold wpY_refused
  by_cases c : ∃ B, td_shp B = true ∧ x = nI B
  · obtain ⟨B, hB, rfl⟩ := c
    have k2 := td_shp_le hB
    have k5 := (td_shp_iff B).mp hB
    refine td_ysh1 hB (br_f (by decide) (td_ysz (by omega) (td_ysz (by omega) ?_)))
    exact pk_le (td_n K + td_n B) 6 (fun z => absurd rfl (hx B hB z)) (fun _ => h) (nI_add _ _) rfl
  · exact td_ysh0 (fun j hj e => c ⟨j, hj, e⟩) (br_t rfl h)
end
