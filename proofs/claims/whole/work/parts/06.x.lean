theorem td_ai {x y : Int32} {a b : Int} (hx : x.toInt = a) (hy : y.toInt = b) (h1 : -100000 ≤ a + b) (h2 : a + b ≤ 100000) : (x + y).toInt = a + b := by
  rw [Int32.toInt_add, hx, hy]
  exact Int.bmod_eq_of_le (by omega) (by omega)
theorem td_si {x y : Int32} {a b : Int} (hx : x.toInt = a) (hy : y.toInt = b) (h1 : -100000 ≤ a - b) (h2 : a - b ≤ 100000) : (x - y).toInt = a - b := by
  rw [Int32.toInt_sub, hx, hy]
  exact Int.bmod_eq_of_le (by omega) (by omega)
theorem td_lz {x y : Int32} {a b : Int} (hx : x.toInt = a) (hy : y.toInt = b) : x < y ↔ a < b := by
  rw [Int32.lt_iff_toInt_lt, hx, hy]
theorem td_fg_iff (p1 p2 u1 v1 u2 v2 q : Nat) : td_fg p1 p2 u1 v1 u2 v2 q = true ↔ p2 + (v1 + v2 + q) ≤ u1 + u2 ∧ u1 + u2 ≤ p1 + (v1 + v2 + q) ∧ u2 ≤ v2 + q ∧ u1 ≤ v1 + q := by
  unfold td_fg
  rw [Bool.and_eq_true, Bool.and_eq_true, Bool.and_eq_true, Nat.ble_eq, Nat.ble_eq, Nat.ble_eq, Nat.ble_eq]
theorem td_fs_s (p1 p2 u1 v1 u2 v2 i : Nat) : td_fs p1 p2 u1 v1 u2 v2 (i + 1) = td_fs p1 p2 u1 v1 u2 v2 i + (if td_fg p1 p2 u1 v1 u2 v2 (p1 + i) = true then 1 else 0) := rfl
theorem td_xfl {post : Int32 → Prop} {p0 p1 p2 u1 v1 u2 v2 : Nat} {c1 c2 : Int32} (b0 : p0 ≤ 1000) (b1 : p1 ≤ 1000) (b2 : p2 ≤ 1000) (b3 : u1 ≤ 1000) (b4 : v1 ≤ 1000) (b5 : u2 ≤ 1000) (b6 : v2 ≤ 1000)
    (h1 : c1.toInt = (u1 : Int) - v1) (h2 : c2.toInt = (u2 : Int) - v2) : ∀ (d i : Nat), p1 + i + d = p0 + 1 → post (nI (td_fs p1 p2 u1 v1 u2 v2 (i + d))) →
    wX_fillingsOf_42 post c1 c2 (nI p0) (nI p1) (nI p2) (d + 1) (nI (td_fs p1 p2 u1 v1 u2 v2 i)) (nI (p1 + i)) := by
  intro d
  induction d with
  | zero =>
    intro i hi h
    exact br_t (nI_lt (by omega) (by omega)) h
  | succ d ih =>
    intro i hi h
    refine br_f (nI_nlt (by omega) (by omega)) (fun y ey => ?_)
    have t0 : (nI (p1 + i)).toInt = ((p1 + i : Nat) : Int) := nI_toInt (by omega)
    have hy : y.toInt = ((u1 : Int) - v1) + ((u2 : Int) - v2) - ((p1 + i : Nat) : Int) := by
      rw [ey]
      exact td_si (td_ai h1 h2 (by omega) (by omega)) t0 (by omega) (by omega)
    have t1 : (nI p1).toInt = ((p1 : Nat) : Int) := nI_toInt (by omega)
    have t2 : (nI p2).toInt = ((p2 : Nat) : Int) := nI_toInt (by omega)
    have k := ih (i + 1) (by omega) (by rw [show i + 1 + d = i + (d + 1) by omega]; exact h)
    have e1 : nI (p1 + i) + 1 = nI (p1 + (i + 1)) := nI_1 (p1 + i)
    rw [td_fs_s] at k
    rw [td_lz hy t2, td_lz t1 hy, td_lz h1 hy, td_lz t0 h1]
    by_cases g : td_fg p1 p2 u1 v1 u2 v2 (p1 + i) = true
    · rw [if_pos g] at k
      rw [td_fg_iff] at g
      exact br_f (by omega) (br_f (by omega) (br_f (by omega) (br_f (by omega) (nm_r (nI_1 _) (nm_r e1 k)))))
    · rw [if_neg g] at k
      rw [td_fg_iff] at g
      exact br_c (fun _ => nm_r e1 k) (fun z1 => br_c (fun _ => nm_r e1 k) (fun z2 => br_c (fun _ => nm_r e1 k) (fun z3 => br_c (fun _ => nm_r e1 k) (fun z4 => absurd (by omega) g))))
theorem td_xfo {post : Int32 → Prop} {B u1 v1 u2 v2 u3 v3 : Nat} {c1 c2 c3 : Int32} (hB : td_shp B = true) (b3 : u1 ≤ 1000) (b4 : v1 ≤ 1000) (b5 : u2 ≤ 1000) (b6 : v2 ≤ 1000) (b7 : u3 ≤ 1000) (b8 : v3 ≤ 1000)
    (h1 : c1.toInt = (u1 : Int) - v1) (h2 : c2.toInt = (u2 : Int) - v2) (h3 : c3.toInt = (u3 : Int) - v3) (h : post (nI (td_F B u1 v1 u2 v2 u3 v3))) : wpX_fillingsOf post (nI B) c1 c2 c3 := by
  have hj := td_shp_le hB
  have hq := (td_shp_iff B).mp hB
  have hs : (c1 + c2 + c3).toInt = ((u1 : Int) - v1) + ((u2 : Int) - v2) + ((u3 : Int) - v3) := td_ai (td_ai h1 h2 (by omega) (by omega)) h3 (by omega) (by omega)
  have hn : (nI (td_n B)).toInt = ((td_n B : Nat) : Int) := nI_toInt (by omega)
  unfold wpX_fillingsOf
  refine td_xco (by omega) ?_
  by_cases e : u1 + u2 + u3 = td_n B + (v1 + v2 + v3)
  · have E : c1 + c2 + c3 = nI (td_n B) := Int32.toInt_inj.mp (by rw [hs, hn]; omega)
    refine br_t E (td_xd0 (by omega) (td_xd1 (by omega) (td_xd2 (by omega) ?_)))
    unfold td_F at h
    rw [if_pos (by rw [Nat.beq_eq]; exact e)] at h
    have l := td_xfl (post := post) (p0 := B / 100) (p1 := B / 10 % 10) (p2 := B % 10) (by omega) (by omega) (by omega) b3 b4 b5 b6 h1 h2 (B / 100 + 1 - B / 10 % 10) 0 (by omega) (by rw [Nat.zero_add]; exact h)
    exact ⟨_, l⟩
  · unfold td_F at h
    rw [if_neg (by rw [Nat.beq_eq]; exact e)] at h
    refine br_f (fun E => e ?_) h
    rw [E, hn] at hs
    omega
theorem td_xfw {post : Int32 → Prop} {K c : Nat} (hK : td_shp K = true) (hc : c ≤ 700) (h : post (nI (td_F K (c / 100) 0 (c / 10 % 10) 0 (c % 10) 0))) : wpX_fillingsWithWritten post (nI K) (nI c) := by
  unfold wpX_fillingsWithWritten
  refine td_xd0 (by omega) (td_xd1 (by omega) (td_xd2 (by omega) ?_))
  refine td_xfo hK (u1 := c / 100) (v1 := 0) (u2 := c / 10 % 10) (v2 := 0) (u3 := c % 10) (v3 := 0) (by omega) (by omega) (by omega) (by omega) (by omega) (by omega) ?_ ?_ ?_ h
  · rw [nI_toInt (by omega)]; omega
  · rw [nI_toInt (by omega)]; omega
  · rw [nI_toInt (by omega)]; omega
theorem td_xtp {post : Int32 → Prop} {K B s : Nat} (hK : td_shp K = true) (hB : td_shp B = true) (hs : td_shp s = true) (hn : td_n K + td_n B ≤ 6) (h : post (nI (td_mm K B s))) : wpX_timesInProduct post (nI K) (nI B) (nI s) := by
  have k1 := td_shp_le hK
  have k3 := td_shp_le hs
  have f := td_mm_f (td_shp_mem hK) (td_shp_mem hB) (td_shp_mem hs) hn
  have a0 : nI (K / 100) + 2 = nI (K / 100 + 2) := nI_add _ 2
  have a1 : nI (K / 10 % 10) + 1 = nI (K / 10 % 10 + 1) := nI_1 _
  have c0 : nI (s / 100) + 2 = nI (s / 100 + 2) := nI_add _ 2
  have c1 : nI (s / 10 % 10) + 1 = nI (s / 10 % 10 + 1) := nI_1 _
  have q : ∀ {a b : Nat}, a ≤ 1000 → b ≤ 1000 → (nI a - nI b).toInt = (a : Int) - b := fun ha hb => pk_sub_toInt (by omega) (by omega)
  unfold wpX_timesInProduct
  refine td_xd0 (by omega) (nm_r a0 (td_xd1 (by omega) (nm_r a1 (td_xd2 (by omega) ?_))))
  refine td_xd0 (by omega) (nm_r c0 (td_xd1 (by omega) (nm_r c1 (td_xd2 (by omega) ?_))))
  refine td_xfo hB (by omega) (by omega) (by omega) (by omega) (by omega) (by omega) (q (by omega) (by omega)) (q (by omega) (by omega)) (q (by omega) (by omega)) ?_
  refine td_xfo hB (by omega) (by omega) (by omega) (by omega) (by omega) (by omega) (q (by omega) (by omega)) (q (by omega) (by omega)) (q (by omega) (by omega)) ?_
  refine td_xfo hB (by omega) (by omega) (by omega) (by omega) (by omega) (by omega) (q (by omega) (by omega)) (q (by omega) (by omega)) (q (by omega) (by omega)) ?_
  refine nm_r td_add3 ?_
  refine td_xfo hB (by omega) (by omega) (by omega) (by omega) (by omega) (by omega) (q (by omega) (by omega)) (q (by omega) (by omega)) (q (by omega) (by omega)) ?_
  refine td_xfo hB (by omega) (by omega) (by omega) (by omega) (by omega) (by omega) (q (by omega) (by omega)) (q (by omega) (by omega)) (q (by omega) (by omega)) ?_
  refine td_xfo hB (by omega) (by omega) (by omega) (by omega) (by omega) (by omega) (q (by omega) (by omega)) (q (by omega) (by omega)) (q (by omega) (by omega)) ?_
  refine nm_r td_add3 ?_
  have g : nI (td_ev K B s) - nI (td_od K B s) = nI (td_mm K B s) := pk_sub f.1
  rw [← g] at h
  exact h
def td_fx (K c : Nat) : Nat := if td_con c = true then td_F K (c / 100) 0 (c / 10 % 10) 0 (c % 10) 0 else 0
theorem td_con_iff (c : Nat) : td_con c = true ↔ c / 10 % 10 ≤ 6 ∧ c % 10 ≤ 6 := by
  unfold td_con
  rw [Bool.and_eq_true, Nat.ble_eq, Nat.ble_eq]
theorem td_xic1 {post : Int32 → Prop} {j : Nat} (hj : j ≤ 666) (hc : td_con j = true) (h : post 1) : wpX_isContent post (nI j) := by
  rw [td_con_iff] at hc
  unfold wpX_isContent
  refine br_f (nI_pos (by omega)) (br_f (nI_nlt (a := 666) hj (by decide)) (td_xd1 (by omega) ?_))
  refine pk_lt 6 (j / 10 % 10) (fun z => absurd z (by omega)) (fun _ => td_xd2 (by omega) ?_)
  exact pk_lt 6 (j % 10) (fun z => absurd z (by omega)) (fun _ => h)
theorem td_xic0 {post : Int32 → Prop} {x : Int32} (hx : ∀ j, j ≤ 666 → td_con j = true → x ≠ nI j) (h : post 0) : wpX_isContent post x := by
  unfold wpX_isContent
  refine br_c (fun _ => h) (fun h0 => br_c (fun _ => h) (fun h6 => ?_))
  obtain ⟨j, hj, rfl⟩ := nI_of h0
  have h7 : j ≤ 666 := Nat.not_lt.mp (fun z => h6 (nI_lt (a := 666) z hj))
  refine td_xd1 (by omega) ?_
  refine pk_lt 6 (j / 10 % 10) (fun _ => h) (fun z1 => td_xd2 (by omega) ?_)
  exact pk_lt 6 (j % 10) (fun _ => h) (fun z2 => absurd rfl (hx j h7 ((td_con_iff j).mpr ⟨z1, z2⟩)))
theorem td_xfi {post : Int32 → Prop} {K : Nat} (hK : td_shp K = true) : ∀ (d i : Nat), i + d = 667 → post (nI (td_sum (td_fx K) 667)) → wX_fillings_4 post (nI K) (d + 1) (nI (td_sum (td_fx K) i)) (nI i) := by
  intro d
  induction d with
  | zero =>
    intro i hi h
    have e : i = 667 := by omega
    subst e
    exact br_t (nI_lt (a := 666) (by omega) (by omega)) h
  | succ d ih =>
    intro i hi h
    have k := ih (i + 1) (by omega) h
    have es : td_sum (td_fx K) (i + 1) = td_sum (td_fx K) i + td_fx K i := rfl
    rw [es] at k
    refine br_f (nI_nlt (a := 666) (by omega) (by omega)) ?_
    by_cases c : td_con i = true
    · have e : td_fx K i = td_F K (i / 100) 0 (i / 10 % 10) 0 (i % 10) 0 := if_pos c
      rw [e] at k
      refine td_xic1 (by omega) c (br_f (by decide) (td_xfw hK (by omega) ?_))
      exact nm_r (nI_add _ _) (nm_r (nI_1 i) k)
    · have e : td_fx K i = 0 := if_neg c
      rw [e] at k
      refine td_xic0 (fun j hj hc z => c ?_) (br_t rfl (nm_r (nI_1 i) k))
      have z2 := (nI_eq (by omega) (by omega)).mp z
      rw [z2]; exact hc
theorem td_xfil {post : Int32 → Prop} {K : Nat} (hK : td_shp K = true) (h : post (nI (td_sum (td_fx K) 667))) : wpX_fillings post (nI K) := ⟨_, td_xfi hK 667 0 rfl h⟩
theorem td_xcm1 {post : Int32 → Prop} {K B : Nat} (hK : td_shp K = true) (hB : td_shp B = true) (hn : td_n K + td_n B ≤ 6) (h : post 1) : wpX_canMultiply post (nI K) (nI B) := by
  have k1 := td_shp_le hK
  have k2 := td_shp_le hB
  unfold wpX_canMultiply
  refine td_xsh1 hB (br_f (by decide) (td_xco (by omega) (td_xco (by omega) ?_)))
  exact pk_lt 6 (td_n K + td_n B) (fun z => absurd z (by omega)) (fun _ => h) rfl (nI_add _ _)
theorem td_xcm0 {post : Int32 → Prop} {K : Nat} {x : Int32} (hK : td_shp K = true) (hx : ∀ B, td_shp B = true → td_n K + td_n B ≤ 6 → x ≠ nI B) (h : post 0) : wpX_canMultiply post (nI K) x := by
  have k1 := td_shp_le hK
  have k4 := (td_shp_iff K).mp hK
  unfold wpX_canMultiply
  by_cases c : ∃ B, td_shp B = true ∧ x = nI B
  · obtain ⟨B, hB, rfl⟩ := c
    have k2 := td_shp_le hB
    have k5 := (td_shp_iff B).mp hB
    refine td_xsh1 hB (br_f (by decide) (td_xco (by omega) (td_xco (by omega) ?_)))
    exact pk_lt 6 (td_n K + td_n B) (fun _ => h) (fun z => absurd rfl (hx B hB z)) rfl (nI_add _ _)
  · exact td_xsh0 (fun j hj e => c ⟨j, hj, e⟩) (br_t rfl h)
def td_px (K B t : Nat) : Nat := if td_shp t = true then td_mm K B t else 0
theorem td_xpl {post : Int32 → Prop} {K B : Nat} (hK : td_shp K = true) (hB : td_shp B = true) (hn : td_n K + td_n B ≤ 6) : ∀ (d i : Nat), i + d = 601 → post (nI (td_sum (td_px K B) 601)) → wX_parts_14 post (nI B) (nI K) (d + 1) (nI (td_sum (td_px K B) i)) (nI i) := by
  intro d
  induction d with
  | zero =>
    intro i hi h
    have e : i = 601 := by omega
    subst e
    exact br_t (nI_lt (a := 600) (by omega) (by omega)) h
  | succ d ih =>
    intro i hi h
    have k := ih (i + 1) (by omega) h
    have es : td_sum (td_px K B) (i + 1) = td_sum (td_px K B) i + td_px K B i := rfl
    rw [es] at k
    refine br_f (nI_nlt (a := 600) (by omega) (by omega)) ?_
    by_cases c : td_shp i = true
    · have e : td_px K B i = td_mm K B i := if_pos c
      rw [e] at k
      refine td_xsh1 c (br_f (by decide) (td_xtp hK hB c hn ?_))
      exact nm_r (nI_add _ _) (nm_r (nI_1 i) k)
    · have e : td_px K B i = 0 := if_neg c
      rw [e] at k
      refine td_xsh0 (fun j hj z => c ?_) (br_t rfl (nm_r (nI_1 i) k))
      have hj2 := td_shp_le hj
      have z2 := (nI_eq (by omega) (by omega)).mp z
      rw [z2]; exact hj
theorem td_xgl {post : Int32 → Prop} {K B : Nat} (hK : td_shp K = true) (hB : td_shp B = true) (hn : td_n K + td_n B ≤ 6) : ∀ (s : Nat), s ≤ 600 → post (nI (td_gr K B (s + 1))) → wX_greatest_14 post (nI B) (nI K) (s + 1) (nI s) := by
  intro s
  induction s with
  | zero =>
    intro _ h
    have e : td_gr K B (0 + 1) = 0 := by
      show (if td_shp 0 = true ∧ 0 < td_mm K B 0 then 0 else td_gr K B 0) = 0
      by_cases c : td_shp 0 = true ∧ 0 < td_mm K B 0
      · rw [if_pos c]
      · rw [if_neg c]; rfl
    rw [e] at h
    exact br_t (by decide) h
  | succ s ih =>
    intro hs h
    have es : td_gr K B (s + 1 + 1) = if td_shp (s + 1) = true ∧ 0 < td_mm K B (s + 1) then s + 1 else td_gr K B (s + 1) := rfl
    rw [es] at h
    refine br_f (nI_nle (by omega) (by omega)) ?_
    by_cases c : td_shp (s + 1) = true
    · refine td_xsh1 c (br_f (by decide) (td_xtp hK hB c hn ?_))
      have hm := td_mm_le (td_shp_mem hK) (td_shp_mem hB) (td_shp_mem c) hn
      refine pk_le (td_mm K B (s + 1)) 0 (fun z => ?_) (fun z => ?_)
      · rw [if_neg (by omega)] at h
        exact nm_r (pk_m1 s) (ih (by omega) h)
      · rw [if_pos ⟨c, z⟩] at h
        exact h
    · rw [if_neg (fun z => c z.1)] at h
      refine td_xsh0 (fun j hj z => c ?_) (br_t rfl (nm_r (pk_m1 s) (ih (by omega) h)))
      have hj2 := td_shp_le hj
      have z2 := (nI_eq (by omega) (by omega)).mp z
      rw [z2]; exact hj
