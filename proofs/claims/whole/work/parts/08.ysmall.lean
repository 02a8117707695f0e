section
variable {fk fc : Int32} {a1 a2 a3 a4 a5 a6 : Nat → Int32}
def td_os (K i : Nat) : Nat := if i = 0 then 0 else if i = 1 then K / 100 else if i = 2 then K / 100 + K / 10 % 10 else td_n K
theorem td_os_s {K i : Nat} (hi : i < 3) : td_os K i + td_dg K i = td_os K (i + 1) := by
  unfold td_os td_dg td_n
  match i, hi with
  | 0, _ => simp
  | 1, _ => simp
  | 2, _ => simp
theorem td_R_at {K i j : Nat} (hi : i < 3) (hj : j < td_dg K i) : td_R K (td_os K i + j) = i ∧ td_P K (td_os K i + j) = j := by
  unfold td_R td_P
  match i, hi with
  | 0, _ =>
    have q : td_dg K 0 = K / 100 := rfl
    have o : td_os K 0 = 0 := rfl
    rw [q] at hj
    rw [o, if_pos (by rw [Nat.ble_eq]; omega), if_pos (by rw [Nat.ble_eq]; omega)]
    omega
  | 1, _ =>
    have q : td_dg K 1 = K / 10 % 10 := rfl
    have o : td_os K 1 = K / 100 := rfl
    rw [q] at hj
    rw [o, if_neg (by rw [Nat.ble_eq]; omega), if_pos (by rw [Nat.ble_eq]; omega), if_neg (by rw [Nat.ble_eq]; omega), if_pos (by rw [Nat.ble_eq]; omega)]
    omega
  | 2, _ =>
    have q : td_dg K 2 = K % 10 := rfl
    have o : td_os K 2 = K / 100 + K / 10 % 10 := rfl
    rw [q] at hj
    rw [o, if_neg (by rw [Nat.ble_eq]; omega), if_neg (by rw [Nat.ble_eq]; omega), if_neg (by rw [Nat.ble_eq]; omega), if_neg (by rw [Nat.ble_eq]; omega)]
    omega
theorem td_os_le {K i : Nat} (hi : i ≤ 3) : td_os K i ≤ td_n K := by
  unfold td_os td_n
  match i, hi with
  | 0, _ => simp
  | 1, _ => simp; omega
  | 2, _ => simp
  | 3, _ => simp
def td_laid (K m : Nat) (b1 b2 : Nat → Int32) : Prop := ∀ c, c < m → b1 c = nI (td_R K c) ∧ b2 c = nI (td_P K c)
theorem td_yl14 {post : SY → Prop} {J : Int32 → Int32 → (Nat → Int32) → (Nat → Int32) → (Nat → Int32) → (Nat → Int32) → (Nat → Int32) → (Nat → Int32) → Prop} {K i : Nat} (hK : td_shp K = true) (hi : i < 3)
    (hJ : ∀ b1 b2, td_laid K (td_os K (i + 1)) b1 b2 → J (nI (i + 1)) (nI (td_os K (i + 1))) b1 b2 a3 a4 a5 a6) :
    ∀ (d j : Nat) (b1 b2 : Nat → Int32), j + d = td_dg K i → td_laid K (td_os K i + j) b1 b2 → wY_lay_14 post J (nI K) (nI i) fk (d + 1) (nI j) (nI (td_os K i + j)) b1 b2 a3 a4 a5 a6 := by
  have k1 := td_shp_le hK
  have k2 := (td_shp_iff K).mp hK
  have k3 := td_dg_le hK i
  have k4 := td_os_s (K := K) hi
  have k5 := td_os_le (K := K) (i := i + 1) (by omega)
  intro d
  induction d with
  | zero =>
    intro j b1 b2 hj hl
    have e : j = td_dg K i := by omega
    rw [wY_lay_14]
    refine td_yrow (K := K) (i := i) (by omega) (by omega) ?_
    refine br_t (nI_le (by omega) (by omega)) (nm_r (nI_1 i) ?_)
    rw [e, k4]
    rw [e, k4] at hl
    exact hJ b1 b2 hl
  | succ d ih =>
    intro j b1 b2 hj hl
    have r := td_R_at (K := K) (j := j) hi (by omega)
    have hc : (nI (td_os K i + j)).toNatClampNeg = td_os K i + j := nI_clamp (by omega)
    rw [wY_lay_14]
    refine td_yrow (K := K) (i := i) (by omega) (by omega) ?_
    refine br_f (nI_ge (by omega) (by omega)) ?_
    refine ⟨vp_in_nI (by omega) (by omega), nm_r (congrArg (fun z => upd b1 z (nI i)) hc) ⟨vp_in_nI (by omega) (by omega), nm_r (congrArg (fun z => upd b2 z (nI j)) hc) (nm_r (nI_1 _) (nm_r (nI_1 j) ?_))⟩⟩
    refine ih (j + 1) _ _ (by omega) ?_
    intro c hcc
    by_cases e : c = td_os K i + j
    · subst e
      rw [r.1, r.2]
      exact ⟨pk_us, pk_us⟩
    · have h := hl c (by omega)
      exact ⟨(pk_un e).trans h.1, (pk_un e).trans h.2⟩
theorem td_yl7 {post : SY → Prop} {K : Nat} (hK : td_shp K = true) (h : ∀ b1 b2, td_laid K (td_n K) b1 b2 → post (fk, nI (td_n K), b1, b2, a3, a4, a5, a6)) :
    ∀ (d i : Nat) (b1 b2 : Nat → Int32), i + d = 3 → td_laid K (td_os K i) b1 b2 → wY_lay_7 post (nI K) fk (d + 1) (nI i) (nI (td_os K i)) b1 b2 a3 a4 a5 a6 := by
  intro d
  induction d with
  | zero =>
    intro i b1 b2 hi hl
    have e : i = 3 := by omega
    subst e
    exact br_t (by decide) (h b1 b2 hl)
  | succ d ih =>
    intro i b1 b2 hi hl
    exact br_f (nI_ge (b := 3) (by omega) (by decide)) ⟨_, td_yl14 hK (by omega) (fun c1 c2 hc => ih (i + 1) c1 c2 (by omega) hc) (td_dg K i) 0 b1 b2 (by omega) hl⟩
theorem td_ylay {post : SY → Prop} {K : Nat} (hK : td_shp K = true) (h : ∀ b1 b2, td_laid K (td_n K) b1 b2 → post (fk, nI (td_n K), b1, b2, a3, a4, a5, a6)) : wpY_lay post (fk, fc, a1, a2, a3, a4, a5, a6) (nI K) :=
  ⟨_, td_yl7 hK h 3 0 a1 a2 rfl (fun c hc => absurd hc (Nat.not_lt_zero c))⟩
theorem td_R_le (K c : Nat) : td_R K c ≤ 2 := by
  unfold td_R
  by_cases a : Nat.ble (c + 1) (K / 100) = true
  · rw [if_pos a]; omega
  · rw [if_neg a]
    by_cases b : Nat.ble (c + 1) (K / 100 + K / 10 % 10) = true
    · rw [if_pos b]; omega
    · rw [if_neg b]; omega
theorem td_P_le (K c : Nat) : td_P K c ≤ c := by
  unfold td_P
  by_cases a : Nat.ble (c + 1) (K / 100) = true
  · rw [if_pos a]; omega
  · rw [if_neg a]
    by_cases b : Nat.ble (c + 1) (K / 100 + K / 10 % 10) = true
    · rw [if_pos b]; omega
    · rw [if_neg b]; omega
def td_bad (K : Nat) (ri : Bool) (a x b y : Nat) : Prop :=
  (td_R K a = td_R K b ∧ (td_P K b = td_P K a + 1 ∧ (y + 1 ≤ x ∨ (ri = true ∧ y = x)))) ∨ (td_P K a = td_P K b ∧ (td_R K b = td_R K a + 1 ∧ y ≤ x))
theorem td_chk_iff (K : Nat) (ri : Bool) (a x b y : Nat) : td_chk K ri a x b y = true ↔ ¬ td_bad K ri a x b y := by
  unfold td_chk td_bad
  rw [Bool.and_eq_true, Bool.not_eq_true', Bool.not_eq_true', ← Bool.not_eq_true, ← Bool.not_eq_true]
  simp only [Bool.and_eq_true, Bool.or_eq_true, Nat.beq_eq, Nat.ble_eq]
  exact not_or.symm
theorem td_yo139 {post J2 J12 : Int32 → Prop} {x1 z : Int32} {a b x y : Nat} (ha : a < 6) (hb : b < 6) (hx : x < 1000) (hy : y < 1000) (ea : a3 a = nI (x + 1)) (eb : a3 b = nI (y + 1))
    (h1 : (z = 0 ∨ x < y) → J12 (nI (b + 1))) (h0 : ¬ z = 0 → y ≤ x → post 0) : wY_ordered_139 post J2 J12 x1 (nI a) (nI b) z fk fc a1 a2 a3 a4 a5 a6 := by
  unfold wY_ordered_139
  rw [nI_clamp (n := a) (by omega), nI_clamp (n := b) (by omega), ea, eb]
  refine br_c (fun q => nm_r (nI_1 b) (h1 (Or.inl q))) (fun q => ⟨vp_in_nI hb (by omega), vp_in_nI ha (by omega), ?_⟩)
  exact pk_lt (x + 1) (y + 1) (fun w => nm_r (nI_1 b) (h1 (Or.inr (by omega)))) (fun w => h0 q (by omega))
theorem td_yo96 {post J2 J12 : Int32 → Prop} {x1 w z : Int32} {ri : Bool} {a b x y : Nat} (ha : a < 6) (hb : b < 6) (hx : x < 1000) (hy : y < 1000) (ea : a3 a = nI (x + 1)) (eb : a3 b = nI (y + 1)) (hri : x1 = 0 ↔ ri = false)
    (h1 : (w = 0 ∨ (x ≤ y ∧ (ri = false ∨ y ≠ x))) → (z = 0 ∨ x < y) → J12 (nI (b + 1))) (h0 : (¬ w = 0 ∧ (y + 1 ≤ x ∨ (ri = true ∧ y = x))) ∨ (¬ z = 0 ∧ y ≤ x) → post 0) : wY_ordered_96 post J2 J12 x1 (nI a) (nI b) w z fk fc a1 a2 a3 a4 a5 a6 := by
  unfold wY_ordered_96
  rw [nI_clamp (n := a) (by omega), nI_clamp (n := b) (by omega), ea, eb]
  have k : (w = 0 ∨ (x ≤ y ∧ (ri = false ∨ y ≠ x))) → wY_ordered_139 post J2 J12 x1 (nI a) (nI b) z fk fc a1 a2 a3 a4 a5 a6 := fun q => td_yo139 ha hb hx hy ea eb (fun p => h1 q p) (fun p1 p2 => h0 (Or.inr ⟨p1, p2⟩))
  refine br_c (fun q => k (Or.inl q)) (fun q => ⟨vp_in_nI hb (by omega), vp_in_nI ha (by omega), ?_⟩)
  refine pk_lt (y + 1) (x + 1) (fun p => h0 (Or.inl ⟨q, Or.inl (by omega)⟩)) (fun p => ?_)
  refine br_c (fun r => k (Or.inr ⟨by omega, Or.inl (hri.mp r)⟩)) (fun r => ⟨vp_in_nI hb (by omega), vp_in_nI ha (by omega), ?_⟩)
  have t : ri = true := by
    cases ri
    · exact absurd (hri.mpr rfl) r
    · rfl
  exact pk_eq (y + 1) (x + 1) (fun p2 => h0 (Or.inl ⟨q, Or.inr ⟨t, by omega⟩⟩)) (fun p2 => k (Or.inr ⟨by omega, Or.inr (by omega)⟩))
theorem td_yo57 {post J2 J12 : Int32 → Prop} {x1 w : Int32} {ri : Bool} {K a b x y : Nat} (ha : a < 6) (hb : b < 6) (hx : x < 1000) (hy : y < 1000) (ea : a3 a = nI (x + 1)) (eb : a3 b = nI (y + 1)) (hri : x1 = 0 ↔ ri = false)
    (la : a1 a = nI (td_R K a) ∧ a2 a = nI (td_P K a)) (lb : a1 b = nI (td_R K b) ∧ a2 b = nI (td_P K b)) (hw : ¬ w = 0 ↔ td_R K a = td_R K b ∧ td_P K b = td_P K a + 1)
    (h1 : ¬ td_bad K ri a x b y → J12 (nI (b + 1))) (h0 : td_bad K ri a x b y → post 0) : wY_ordered_57 post J2 J12 x1 (nI a) (nI b) w fk fc a1 a2 a3 a4 a5 a6 := by
  have r1 := td_R_le K a
  have r2 := td_R_le K b
  have r3 := td_P_le K a
  have r4 := td_P_le K b
  have k : ∀ z : Int32, (¬ z = 0 ↔ td_P K a = td_P K b ∧ td_R K b = td_R K a + 1) → wY_ordered_96 post J2 J12 x1 (nI a) (nI b) w z fk fc a1 a2 a3 a4 a5 a6 := by
    intro z hz
    refine td_yo96 ha hb hx hy ea eb hri (fun p q => h1 ?_) (fun p => h0 ?_)
    · intro bd
      rcases bd with ⟨c1, c2, c3⟩ | ⟨c1, c2, c3⟩
      · have c4 := hw.mpr ⟨c1, c2⟩
        rcases p with p | ⟨p1, p2⟩
        · exact c4 p
        · rcases c3 with c3 | ⟨c5, c6⟩
          · omega
          · rcases p2 with p2 | p2
            · rw [c5] at p2; exact absurd p2 (by decide)
            · exact p2 c6
      · have c4 := hz.mpr ⟨c1, c2⟩
        rcases q with q | q
        · exact c4 q
        · omega
    · rcases p with ⟨p1, p2⟩ | ⟨p1, p2⟩
      · have c := hw.mp p1
        exact Or.inl ⟨c.1, c.2, p2⟩
      · have c := hz.mp p1
        exact Or.inr ⟨c.1, c.2, p2⟩
  unfold wY_ordered_57
  rw [nI_clamp (n := a) (by omega), nI_clamp (n := b) (by omega), la.1, la.2, lb.1, lb.2]
  refine ⟨vp_in_nI ha (by omega), vp_in_nI hb (by omega), ?_⟩
  refine pk_eq (td_P K a) (td_P K b) (fun c1 => ⟨vp_in_nI hb (by omega), vp_in_nI ha (by omega), ?_⟩) (fun c1 => ?_)
  · refine pk_eq (td_R K b) (td_R K a + 1) (fun c2 => k 1 ⟨fun _ => ⟨c1, c2⟩, fun _ => by decide⟩) (fun c2 => ?_) rfl (nI_1 _)
    exact k 0 ⟨fun q => absurd rfl q, fun q => absurd q.2 c2⟩
  · exact k 0 ⟨fun q => absurd rfl q, fun q => absurd q.1 c1⟩
theorem td_yo12 {post J2 : Int32 → Prop} {x1 : Int32} {ri : Bool} {K a : Nat} {g : Nat → Nat} (hn : td_n K ≤ 6) (ha : a < td_n K) (hg : ∀ c, c < td_n K → g c < 1000 ∧ a3 c = nI (g c + 1)) (hri : x1 = 0 ↔ ri = false) (hl : td_laid K (td_n K) a1 a2) :
    ∀ (d b : Nat), b + d = td_n K → ((∀ b', b ≤ b' → b' < td_n K → ¬ td_bad K ri a (g a) b' (g b')) → J2 (nI (a + 1))) → ((∃ b', b' < td_n K ∧ td_bad K ri a (g a) b' (g b')) → post 0) →
    wY_ordered_12 post J2 x1 (nI a) fk (nI (td_n K)) a1 a2 a3 a4 a5 a6 (d + 1) (nI b) := by
  intro d
  induction d with
  | zero =>
    intro b hb h1 h0
    exact br_t (nI_le (by omega) (by omega)) (nm_r (nI_1 a) (h1 (fun b' p q => absurd q (by omega))))
  | succ d ih =>
    intro b hb h1 h0
    have la := hl a ha
    have lb := hl b (by omega)
    have ga := hg a ha
    have gb := hg b (by omega)
    have r1 := td_R_le K a
    have r2 := td_R_le K b
    have r3 := td_P_le K a
    have r4 := td_P_le K b
    have k : ∀ w : Int32, (¬ w = 0 ↔ td_R K a = td_R K b ∧ td_P K b = td_P K a + 1) → wY_ordered_57 post J2 (wY_ordered_12 post J2 x1 (nI a) fk (nI (td_n K)) a1 a2 a3 a4 a5 a6 (d + 1)) x1 (nI a) (nI b) w fk (nI (td_n K)) a1 a2 a3 a4 a5 a6 := by
      intro w hw
      refine td_yo57 (by omega) (by omega) ga.1 gb.1 ga.2 gb.2 hri la lb hw (fun q => ?_) (fun q => h0 ⟨b, by omega, q⟩)
      refine ih (b + 1) (by omega) (fun r => h1 ?_) h0
      intro b' p1 p2
      by_cases e : b' = b
      · rw [e]; exact q
      · exact r b' (by omega) p2
    refine br_f (nI_ge (by omega) (by omega)) ?_
    rw [nI_clamp (n := a) (by omega), nI_clamp (n := b) (by omega), la.1, la.2, lb.1, lb.2]
    refine ⟨vp_in_nI (by omega) (by omega), vp_in_nI (by omega) (by omega), ?_⟩
    refine pk_eq (td_R K a) (td_R K b) (fun c1 => ⟨vp_in_nI (by omega) (by omega), vp_in_nI (by omega) (by omega), ?_⟩) (fun c1 => ?_)
    · refine pk_eq (td_P K b) (td_P K a + 1) (fun c2 => k 1 ⟨fun _ => ⟨c1, c2⟩, fun _ => by decide⟩) (fun c2 => ?_) rfl (nI_1 _)
      exact k 0 ⟨fun q => absurd rfl q, fun q => absurd q.2 c2⟩
    · exact k 0 ⟨fun q => absurd rfl q, fun q => absurd q.1 c1⟩
theorem td_yo2 {post : Int32 → Prop} {x1 : Int32} {ri : Bool} {K : Nat} {g : Nat → Nat} (hn : td_n K ≤ 6) (hg : ∀ c, c < td_n K → g c < 1000 ∧ a3 c = nI (g c + 1)) (hri : x1 = 0 ↔ ri = false) (hl : td_laid K (td_n K) a1 a2) :
    ∀ (d a : Nat), a + d = td_n K → ((∀ a' b', a ≤ a' → a' < td_n K → b' < td_n K → ¬ td_bad K ri a' (g a') b' (g b')) → post 1) → ((∃ a' b', a' < td_n K ∧ b' < td_n K ∧ td_bad K ri a' (g a') b' (g b')) → post 0) →
    wY_ordered_2 post x1 fk (nI (td_n K)) a1 a2 a3 a4 a5 a6 (d + 1) (nI a) := by
  intro d
  induction d with
  | zero =>
    intro a ha h1 h0
    exact br_t (nI_le (by omega) (by omega)) (h1 (fun a' b' p q _ => absurd q (by omega)))
  | succ d ih =>
    intro a ha h1 h0
    refine br_f (nI_ge (by omega) (by omega)) ⟨_, td_yo12 (ri := ri) hn (by omega) hg hri hl (td_n K) 0 (by omega) (fun q => ?_) (fun q => ?_)⟩
    · refine ih (a + 1) (by omega) (fun r => h1 ?_) h0
      intro a' b' p1 p2 p3
      by_cases e : a' = a
      · rw [e]; exact q b' (Nat.zero_le _) p3
      · exact r a' b' (by omega) p2 p3
    · obtain ⟨b', p1, p2⟩ := q
      exact h0 ⟨a, b', by omega, p1, p2⟩
theorem td_yord {post : Int32 → Prop} {x1 : Int32} {ri : Bool} {K b q : Nat} (hn : td_n K ≤ 6) (hb : b ≤ 6) (hb0 : td_n K = 0 ∨ 0 < b) (hg : ∀ c, c < td_n K → a3 c = nI (q / b ^ c % b + 1)) (hri : x1 = 0 ↔ ri = false) (hl : td_laid K (td_n K) a1 a2)
    (h1 : td_ok (td_st (td_chk K ri) b) b (td_n K) 0 q = true → post 1) (h0 : ¬ td_ok (td_st (td_chk K ri) b) b (td_n K) 0 q = true → post 0) : wpY_ordered post (fk, nI (td_n K), a1, a2, a3, a4, a5, a6) x1 := by
  refine ⟨_, td_yo2 (ri := ri) (g := fun c => q / b ^ c % b) hn (fun c hc => ⟨?_, hg c hc⟩) hri hl (td_n K) 0 (by omega) (fun p => h1 ?_) (fun p => h0 ?_)⟩
  · have : q / b ^ c % b < b := Nat.mod_lt _ (by omega)
    show q / b ^ c % b < 1000
    omega
  · rw [td_ok_iff]
    intro x y hx hy
    rw [Nat.zero_add, Nat.zero_add, td_chk_iff]
    exact p x y (Nat.zero_le _) hx hy
  · rw [td_ok_iff]
    intro t
    obtain ⟨x, y, hx, hy, bd⟩ := p
    have t2 := t x y hx hy
    rw [Nat.zero_add, Nat.zero_add, td_chk_iff] at t2
    exact t2 bd
end
