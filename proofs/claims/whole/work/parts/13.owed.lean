def i_Rel (k : Nat) (u : SX) (v : SY) : Prop := ∃ K, td_shp K = true ∧ u = nI K ∧ v.1 = nI K
theorem i_up {k : Nat} {u : SX} {v : SY} (h : i_Rel k u v) : i_Rel (k + 3) u v := h
theorem i_vc0 : wpX_init (fun u => wpY_init (fun v => i_Rel 0 u v)) := ⟨0, by decide, rfl, rfl⟩
theorem i_vc_keep {k : Nat} {u : SX} {v : SY} (I : i_Rel k u v) (hk : k + 3 ≤ 1536) (v1 : Int32) : wpX_keep (fun r u' => wpY_keep (fun r' v' => r' = r ∧ i_Rel (k + 3) u' v') v v1) u v1 := by
  obtain ⟨f1, f2, a1, a2, a3, a4, a5, a6⟩ := v
  obtain ⟨K, hK, rfl, hv⟩ := I
  cases hv
  by_cases c : ∃ j, td_shp j = true ∧ v1 = nI j
  · obtain ⟨j, hj, rfl⟩ := c
    have k1 := td_shp_le hj
    unfold wpX_keep wpY_keep
    refine td_xsh1 hj (br_f (by decide) (td_xco (by omega) ?_))
    exact td_ysh1 hj (br_f (by decide) (td_ysz (by omega) ⟨rfl, j, hj, rfl, rfl⟩))
  · have n : ∀ j, td_shp j = true → v1 ≠ nI j := fun j hj e => c ⟨j, hj, e⟩
    unfold wpX_keep wpY_keep
    refine td_xsh0 n (br_t rfl ?_)
    exact td_ysh0 n (br_t rfl ⟨rfl, K, hK, rfl, rfl⟩)
theorem i_vc_fillings {k : Nat} {u : SX} {v : SY} (I : i_Rel k u v) (hk : k + 3 ≤ 1536) : wpX_fillings (fun r => wpY_fillings (fun r' v' => r' = r ∧ i_Rel (k + 3) u v') v) u := by
  obtain ⟨f1, f2, a1, a2, a3, a4, a5, a6⟩ := v
  obtain ⟨K, hK, rfl, hv⟩ := I
  cases hv
  refine td_xfil hK (td_yfil hK (fun fc b1 b2 b3 b5 => ⟨?_, K, hK, rfl, rfl⟩))
  exact congrArg nI (td_fil_eq (td_shp_mem hK)).symm
theorem i_vc_withContent {k : Nat} {u : SX} {v : SY} (I : i_Rel k u v) (hk : k + 3 ≤ 1536) (v1 : Int32) : wpX_withContent (fun r => wpY_withContent (fun r' v' => r' = r ∧ i_Rel (k + 3) u v') v v1) u v1 := by
  obtain ⟨f1, f2, a1, a2, a3, a4, a5, a6⟩ := v
  obtain ⟨K, hK, rfl, hv⟩ := I
  cases hv
  by_cases c : ∃ j, j ≤ 666 ∧ td_con j = true ∧ v1 = nI j
  · obtain ⟨j, hj, hc, rfl⟩ := c
    have q := (td_con_iff j).mp hc
    unfold wpX_withContent
    refine td_xic1 hj hc (br_f (by decide) (td_xfw hK (by omega) ?_))
    refine td_ywc1 hK hj hc (fun fc b1 b2 b3 b5 => ⟨?_, K, hK, rfl, rfl⟩)
    exact congrArg nI (td_F_eq (td_shp_mem hK) (by omega) (by omega) (by omega)).symm
  · have n : ∀ j, j ≤ 666 → td_con j = true → v1 ≠ nI j := fun j hj hc e => c ⟨j, hj, hc, e⟩
    unfold wpX_withContent
    refine td_xic0 n (br_t rfl ?_)
    exact td_ywc0 n ⟨rfl, K, hK, rfl, rfl⟩
theorem i_vc_orders {k : Nat} {u : SX} {v : SY} (I : i_Rel k u v) (hk : k + 3 ≤ 1536) : wpX_orders (fun r => wpY_orders (fun r' v' => r' = r ∧ i_Rel (k + 3) u v') v) u := by
  obtain ⟨f1, f2, a1, a2, a3, a4, a5, a6⟩ := v
  obtain ⟨K, hK, rfl, hv⟩ := I
  cases hv
  exact td_xor hK (td_yor hK (fun fc b1 b2 b3 => ⟨rfl, K, hK, rfl, rfl⟩))
theorem i_vc_times {k : Nat} {u : SX} {v : SY} (I : i_Rel k u v) (hk : k + 3 ≤ 1536) (v1 : Int32) (v2 : Int32) : wpX_times (fun r => wpY_times (fun r' v' => r' = r ∧ i_Rel (k + 3) u v') v v1 v2) u v1 v2 := by
  obtain ⟨f1, f2, a1, a2, a3, a4, a5, a6⟩ := v
  obtain ⟨K, hK, rfl, hv⟩ := I
  cases hv
  have k1 := td_shp_le hK
  by_cases c : ∃ B, td_shp B = true ∧ td_n K + td_n B ≤ 6 ∧ v1 = nI B
  · obtain ⟨B, hB, hn, rfl⟩ := c
    have k2 := td_shp_le hB
    unfold wpX_times
    refine td_xcm1 hK hB hn (br_f (by decide) ?_)
    by_cases d : ∃ s, td_shp s = true ∧ v2 = nI s
    · obtain ⟨s, hs, rfl⟩ := d
      refine td_xsh1 hs (br_f (by decide) (td_xtp hK hB hs hn ?_))
      unfold wpY_times
      refine td_yrf1 hK hB hn (br_t rfl (td_ysh1 hs (br_f (by decide) (td_ymul hK hB hn (fun fc b1 b2 b3 b4 b5 b6 h6 => ?_)))))
      refine td_ysz (by omega) (td_ysz (by omega) (nm_r (nI_add _ _) ?_))
      exact td_ytoT hK hB hs hn h6 (fun fc c1 c2 c3 c4 c5 c6 => ⟨rfl, K, hK, rfl, rfl⟩)
    · have n : ∀ s, td_shp s = true → v2 ≠ nI s := fun j hj e => d ⟨j, hj, e⟩
      refine td_xsh0 n (br_t rfl ?_)
      unfold wpY_times
      exact td_yrf1 hK hB hn (br_t rfl (td_ysh0 n (br_t rfl ⟨rfl, K, hK, rfl, rfl⟩)))
  · have n : ∀ B, td_shp B = true → td_n K + td_n B ≤ 6 → v1 ≠ nI B := fun B hB hn e => c ⟨B, hB, hn, e⟩
    unfold wpX_times
    refine td_xcm0 hK n (br_t rfl ?_)
    unfold wpY_times
    exact td_yrf0 hK n (br_f (by decide) ⟨rfl, K, hK, rfl, rfl⟩)
theorem i_vc_parts {k : Nat} {u : SX} {v : SY} (I : i_Rel k u v) (hk : k + 3 ≤ 1536) (v1 : Int32) : wpX_parts (fun r => wpY_parts (fun r' v' => r' = r ∧ i_Rel (k + 3) u v') v v1) u v1 := by
  obtain ⟨f1, f2, a1, a2, a3, a4, a5, a6⟩ := v
  obtain ⟨K, hK, rfl, hv⟩ := I
  cases hv
  have k1 := td_shp_le hK
  by_cases c : ∃ B, td_shp B = true ∧ td_n K + td_n B ≤ 6 ∧ v1 = nI B
  · obtain ⟨B, hB, hn, rfl⟩ := c
    have k2 := td_shp_le hB
    unfold wpX_parts
    refine td_xcm1 hK hB hn (br_f (by decide) ⟨_, td_xpl hK hB hn 601 0 rfl ?_⟩)
    unfold wpY_parts
    refine td_yrf1 hK hB hn (br_t rfl (td_ymul hK hB hn (fun fc b1 b2 b3 b4 b5 b6 h6 => ?_)))
    refine td_ysz (by omega) (td_ysz (by omega) (nm_r (nI_add _ _) ?_))
    refine td_ytoP hK hB hn h6 (fun fc c1 c2 c3 c4 c5 c6 => ⟨?_, K, hK, rfl, rfl⟩)
    exact congrArg nI (td_TT_X (td_shp_mem hK) (td_shp_mem hB) hn).symm
  · have n : ∀ B, td_shp B = true → td_n K + td_n B ≤ 6 → v1 ≠ nI B := fun B hB hn e => c ⟨B, hB, hn, e⟩
    unfold wpX_parts
    refine td_xcm0 hK n (br_t rfl ?_)
    unfold wpY_parts
    exact td_yrf0 hK n (br_f (by decide) ⟨rfl, K, hK, rfl, rfl⟩)
theorem i_vc_greatest {k : Nat} {u : SX} {v : SY} (I : i_Rel k u v) (hk : k + 3 ≤ 1536) (v1 : Int32) : wpX_greatest (fun r => wpY_greatest (fun r' v' => r' = r ∧ i_Rel (k + 3) u v') v v1) u v1 := by
  obtain ⟨f1, f2, a1, a2, a3, a4, a5, a6⟩ := v
  obtain ⟨K, hK, rfl, hv⟩ := I
  cases hv
  have k1 := td_shp_le hK
  by_cases c : ∃ B, td_shp B = true ∧ td_n K + td_n B ≤ 6 ∧ v1 = nI B
  · obtain ⟨B, hB, hn, rfl⟩ := c
    have k2 := td_shp_le hB
    unfold wpX_greatest
    refine td_xcm1 hK hB hn (br_f (by decide) ⟨_, td_xgl hK hB hn 600 (Nat.le_refl _) ?_⟩)
    unfold wpY_greatest
    refine td_yrf1 hK hB hn (br_t rfl (td_ymul hK hB hn (fun fc b1 b2 b3 b4 b5 b6 h6 => ?_)))
    refine td_ysz (by omega) (td_ysz (by omega) (nm_r (nI_add _ _) ?_))
    exact td_ytoG hK hB hn h6 (fun fc c1 c2 c3 c4 c5 c6 => ⟨rfl, K, hK, rfl, rfl⟩)
  · have n : ∀ B, td_shp B = true → td_n K + td_n B ≤ 6 → v1 ≠ nI B := fun B hB hn e => c ⟨B, hB, hn, e⟩
    unfold wpX_greatest
    refine td_xcm0 hK n (br_t rfl ?_)
    unfold wpY_greatest
    exact td_yrf0 hK n (br_f (by decide) ⟨rfl, K, hK, rfl, rfl⟩)
theorem i_vc_turned {k : Nat} {u : SX} {v : SY} (I : i_Rel k u v) (hk : k + 3 ≤ 1536) : wpX_turned (fun r => wpY_turned (fun r' => r' = r ∧ i_Rel (k + 3) u v) v) u := by
  obtain ⟨f1, f2, a1, a2, a3, a4, a5, a6⟩ := v
  obtain ⟨K, hK, rfl, hv⟩ := I
  cases hv
  refine td_xtu hK (fun z => td_ytu hK (fun _ => ⟨rfl, K, hK, rfl, rfl⟩) (fun w => absurd w (by omega))) (fun z => td_ytu hK (fun w => absurd w (by omega)) (fun _ => ⟨rfl, K, hK, rfl, rfl⟩))
