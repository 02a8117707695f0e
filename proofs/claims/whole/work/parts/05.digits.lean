theorem td_e100 {j : Nat} (hj : j < 2 ^ 31) : nI j / 100 = nI (j / 100) := pk_div (d := 100) hj (by decide) (by decide)
theorem td_e10 {j : Nat} (hj : j < 2 ^ 31) : nI j / 10 - nI j / 10 / 10 * 10 = nI (j / 10 % 10) := by
  have a : nI j / 10 = nI (j / 10) := pk_div (d := 10) hj (by decide) (by decide)
  rw [a]
  exact pk_rem (d := 10) (by omega) (by decide) (by decide)
theorem td_e1 {j : Nat} (hj : j < 2 ^ 31) : nI j - nI j / 10 * 10 = nI (j % 10) := pk_rem (d := 10) hj (by decide) (by decide)
theorem td_xd0 {post : Int32 → Prop} {j : Nat} (hj : j < 2 ^ 31) (h : post (nI (j / 100))) : wpX_digit post (nI j) 0 := by
  unfold wpX_digit
  refine br_t rfl ⟨by decide, ?_⟩
  rw [td_e100 hj]
  exact h
theorem td_xd1 {post : Int32 → Prop} {j : Nat} (hj : j < 2 ^ 31) (h : post (nI (j / 10 % 10))) : wpX_digit post (nI j) 1 := by
  unfold wpX_digit
  refine br_f (by decide) (br_t rfl ⟨by decide, by decide, ?_⟩)
  rw [td_e10 hj]
  exact h
theorem td_xd2 {post : Int32 → Prop} {j : Nat} (hj : j < 2 ^ 31) (h : post (nI (j % 10))) : wpX_digit post (nI j) 2 := by
  unfold wpX_digit
  refine br_f (by decide) (br_f (by decide) ⟨by decide, ?_⟩)
  rw [td_e1 hj]
  exact h
theorem td_add3 {a b c : Nat} : nI a + nI b + nI c = nI (a + b + c) := by rw [nI_add, nI_add]
theorem td_xsh1 {post : Int32 → Prop} {j : Nat} (hs : td_shp j = true) (h : post 1) : wpX_isShape post (nI j) := by
  have hj := td_shp_le hs
  have hq := (td_shp_iff j).mp hs
  unfold td_n at hq
  unfold wpX_isShape
  refine br_f (nI_pos (by omega)) (br_t (nI_le (b := 600) hj (by decide)) ?_)
  refine td_xd0 (by omega) (td_xd1 (by omega) (td_xd2 (by omega) ?_))
  refine pk_lt (j / 100) (j / 10 % 10) (fun z => absurd z (by omega)) (fun _ => ?_)
  refine pk_lt (j / 10 % 10) (j % 10) (fun z => absurd z (by omega)) (fun _ => ?_)
  exact pk_lt 6 (j / 100 + j / 10 % 10 + j % 10) (fun z => absurd z (by omega)) (fun _ => h) rfl td_add3
theorem td_xsh0 {post : Int32 → Prop} {x : Int32} (hx : ∀ j, td_shp j = true → x ≠ nI j) (h : post 0) : wpX_isShape post x := by
  unfold wpX_isShape
  refine br_c (fun _ => h) (fun h0 => br_c (fun h6 => ?_) (fun _ => h))
  obtain ⟨j, hj, rfl⟩ := nI_of h0
  have h7 : j ≤ 600 := (nI_leI (b := 600) hj (by decide)).mp h6
  refine td_xd0 (by omega) (td_xd1 (by omega) (td_xd2 (by omega) ?_))
  refine pk_lt (j / 100) (j / 10 % 10) (fun _ => h) (fun z1 => ?_)
  refine pk_lt (j / 10 % 10) (j % 10) (fun _ => h) (fun z2 => ?_)
  exact pk_lt 6 (j / 100 + j / 10 % 10 + j % 10) (fun _ => h) (fun z3 => absurd rfl (hx j ((td_shp_iff j).mpr ⟨z1, z2, z3⟩))) rfl td_add3
theorem td_ysh1 {post : Int32 → Prop} {j : Nat} (hs : td_shp j = true) (h : post 1) : wpY_isShape post (nI j) := by
  have hj := td_shp_le hs
  have hq := (td_shp_iff j).mp hs
  unfold td_n at hq
  have h3 : j < 2 ^ 31 := by omega
  unfold wpY_isShape
  refine ⟨by decide, nm_r (td_e100 h3) ⟨by decide, by decide, nm_r (td_e10 h3) ⟨by decide, nm_r (td_e1 h3) ?_⟩⟩⟩
  refine br_f (nI_pos (by omega)) ?_
  refine pk_lt (j / 100) (j / 10 % 10) (fun z => absurd z (by omega)) (fun _ => ?_)
  refine pk_lt (j / 10 % 10) (j % 10) (fun z => absurd z (by omega)) (fun _ => ?_)
  exact pk_lt 6 (j / 100 + j / 10 % 10 + j % 10) (fun z => absurd z (by omega)) (fun _ => h) rfl td_add3
theorem td_ysh0 {post : Int32 → Prop} {x : Int32} (hx : ∀ j, td_shp j = true → x ≠ nI j) (h : post 0) : wpY_isShape post x := by
  unfold wpY_isShape
  refine ⟨by decide, fun x1 e1 => ⟨by decide, by decide, fun x2 e2 => ⟨by decide, fun x3 e3 => br_c (fun _ => h) (fun h0 => ?_)⟩⟩⟩
  obtain ⟨j, hj, rfl⟩ := nI_of h0
  rw [td_e100 hj] at e1
  rw [td_e10 hj] at e2
  rw [td_e1 hj] at e3
  subst e1 e2 e3
  refine pk_lt (j / 100) (j / 10 % 10) (fun _ => h) (fun z1 => ?_)
  refine pk_lt (j / 10 % 10) (j % 10) (fun _ => h) (fun z2 => ?_)
  exact pk_lt 6 (j / 100 + j / 10 % 10 + j % 10) (fun _ => h) (fun z3 => absurd rfl (hx j ((td_shp_iff j).mpr ⟨z1, z2, z3⟩))) rfl td_add3
theorem td_xco {post : Int32 → Prop} {j : Nat} (hj : j < 2 ^ 31) (h : post (nI (td_n j))) : wpX_cellsOf post (nI j) := by
  unfold wpX_cellsOf
  refine td_xd0 hj (td_xd1 hj (td_xd2 hj ?_))
  rw [td_add3]
  exact h
theorem td_ysz {post : Int32 → Prop} {j : Nat} (hj : j < 2 ^ 31) (h : post (nI (td_n j))) : wpY_size post (nI j) := by
  unfold wpY_size
  refine ⟨by decide, by decide, by decide, by decide, ?_⟩
  rw [td_e100 hj, td_e10 hj, td_e1 hj, td_add3]
  exact h
def td_dg (K i : Nat) : Nat := if i = 0 then K / 100 else if i = 1 then K / 10 % 10 else K % 10
theorem td_i0 {i : Nat} (hi : i < 2 ^ 31) : nI i = 0 ↔ i = 0 := nI_eq (b := 0) hi (by decide)
theorem td_i1 {i : Nat} (hi : i < 2 ^ 31) : nI i = 1 ↔ i = 1 := nI_eq (b := 1) hi (by decide)
theorem td_xdg {post : Int32 → Prop} {K i : Nat} (hK : K < 2 ^ 31) (hi : i < 2 ^ 31) (h : post (nI (td_dg K i))) : wpX_digit post (nI K) (nI i) := by
  unfold wpX_digit
  unfold td_dg at h
  rw [td_i0 hi, td_i1 hi, td_e100 hK, td_e10 hK, td_e1 hK]
  refine br_c (fun z => ⟨by decide, ?_⟩) (fun z => br_c (fun z2 => ⟨by decide, by decide, ?_⟩) (fun z2 => ⟨by decide, ?_⟩))
  · rw [if_pos z] at h; exact h
  · rw [if_neg z, if_pos z2] at h; exact h
  · rw [if_neg z, if_neg z2] at h; exact h
theorem td_yrow {post : Int32 → Prop} {K i : Nat} (hK : K < 2 ^ 31) (hi : i < 2 ^ 31) (h : post (nI (td_dg K i))) : wpY_rowOf post (nI K) (nI i) := by
  unfold wpY_rowOf
  unfold td_dg at h
  rw [td_i0 hi, td_i1 hi, td_e100 hK, td_e10 hK, td_e1 hK]
  refine br_c (fun z => ⟨by decide, ?_⟩) (fun z => br_c (fun z2 => ⟨by decide, by decide, ?_⟩) (fun z2 => ⟨by decide, ?_⟩))
  · rw [if_pos z] at h; exact h
  · rw [if_neg z, if_pos z2] at h; exact h
  · rw [if_neg z, if_neg z2] at h; exact h
