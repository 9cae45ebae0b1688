theorem gn4 {m : Nat} (hm : m ≤ 8) {k : Int32 → Int32 → Prop} (hk : ∀ z, k (nI (3 ^ m - 1)) z) : ∀ n p, p ≤ m → m - p < n → wl_X1_greatestNumber_4 (nI m) n (nI (3 ^ p - 1)) (nI p) k := by
  intro n
  induction n with
  | zero => intro p _ h; omega
  | succ n ih =>
    intro p hp hn
    unfold wl_X1_greatestNumber_4
    have e : (3 : Int32) * nI (3 ^ p - 1) = nI (3 * (3 ^ p - 1)) := pk_mul 3 _
    have e2 : nI (3 * (3 ^ p - 1)) + (2 : Int32) = nI (3 ^ (p + 1) - 1) := by
      have h1 : 1 ≤ 3 ^ p := Nat.pow_pos (by omega)
      have h2 : 3 ^ (p + 1) = 3 ^ p * 3 := Nat.pow_succ _ _
      rw [show 3 ^ (p + 1) - 1 = 3 * (3 ^ p - 1) + 2 by omega]
      exact nI_add _ 2
    rw [nI_leI (by omega) (by omega), nI_1, e, e2]
    refine ⟨fun q => ?_, fun q => ih (p + 1) (by omega) (by omega)⟩
    obtain rfl : p = m := by omega
    exact hk _
theorem dv3 {R p : Nat} (hR : R < 2 ^ 31) : (nI (R / 3 ^ p) - nI (R / 3 ^ p) / (3 : Int32) * (3 : Int32)) = nI (dg R p) ∧ nI (R / 3 ^ p) / (3 : Int32) = nI (R / 3 ^ (p + 1)) := by
  have h : R / 3 ^ p ≤ R := Nat.div_le_self _ _
  refine ⟨pk_rem (d := 3) (by omega) (by omega) (by omega), ?_⟩
  rw [Nat.pow_succ, ← Nat.div_div_eq_div_mul]
  exact pk_div (d := 3) (by omega) (by omega) (by omega)
theorem ps8 {m R c : Nat} {z : Int32} (hm : m ≤ 8) (hR : R < 2 ^ 31) (hc : c < 3) {k : Int32 → Int32 → Int32 → Prop} (hk : ∀ z z2, k (nI (PS R c m)) z z2) : ∀ n p, p ≤ m → m - p < n → wl_X1_placesOfSort_8 (nI m) z (nI c) n (nI (PS R c p)) (nI (R / 3 ^ p)) (nI p) k := by
  intro n
  induction n with
  | zero => intro p _ h; omega
  | succ n ih =>
    intro p hp hn
    have hd := dg_lt R p
    unfold wl_X1_placesOfSort_8
    rw [nI_leI (by omega) (by omega), nI_1, (dv3 hR).1, (dv3 hR).2, nI_eq (by omega) (by omega), sh1 p (by omega), fa_or]
    have hnx := ih (p + 1)
    refine ⟨fun q => ?_, fun q => ⟨fun h => ?_, fun h => ?_⟩⟩
    · obtain rfl : p = m := by omega
      exact hk _ _
    · have hnx := ih (p + 1) (by omega) (by omega)
      rw [PS, if_neg h] at hnx
      exact hnx
    · have hnx := ih (p + 1) (by omega) (by omega)
      rw [PS, if_pos h] at hnx
      exact hnx
theorem psort_sp {m R c : Nat} (hm : m ≤ 8) (hR : R < 2 ^ 31) (hc : c < 3) {post : Int32 → Prop} (h : post (nI (PS R c m))) : wp_X1_placesOfSort (nI m) (nI R) (nI c) post := by
  unfold wp_X1_placesOfSort
  have := ps8 (z := nI R) (k := fun x3_3 x4_4 x5_5 => post x3_3) hm hR hc (fun _ _ => h) 20000 0 (by omega) (by omega)
  rw [Nat.pow_zero, Nat.div_one] at this
  exact this
theorem mw31 {m R : Nat} {z : Int32} {σ : SM} (hm : m ≤ 8) (hR : R < 2 ^ 31) {k : Int32 → Int32 → Int32 → Int32 → Prop} (hk : ∀ z, k (nI (R / 3 ^ m)) (nI (cD R 1 m)) (nI (LW R m)) z) : ∀ n p, p ≤ m → m - p < n → wl_X4_ways_31 (nI m) z σ n (nI (R / 3 ^ p)) (nI (cD R 1 p)) (nI (LW R p)) (nI p) k := by
  intro n
  induction n with
  | zero => intro p _ h; omega
  | succ n ih =>
    intro p hp hn
    have hd := dg_lt R p
    unfold wl_X4_ways_31
    have e1 : (nI (dg R p) = (1 : Int32)) ↔ dg R p = 1 := nI_eq (b := 1) (by omega) (by omega)
    have e0 : (nI (dg R p) ≤ 0) ↔ dg R p ≤ 0 := nI_leI (b := 0) (by omega) (by omega)
    have a0 : nI (cD R 1 p) + (0 : Int32) = nI (cD R 1 p) := nI_add _ 0
    have o0 : nI (LW R p) ||| (0 : Int32) = nI (LW R p) := by
      have := fa_or (LW R p) 0
      rw [Nat.or_zero] at this
      exact this
    rw [nI_leI (by omega) (by omega), nI_1, nI_1, (dv3 hR).1, (dv3 hR).2, e1, e0, sh1 p (by omega), fa_or, a0, o0]
    refine ⟨fun q => ?_, fun q => ?_⟩
    · obtain rfl : p = m := by omega
      exact hk _
    · have hnx := ih (p + 1) (by omega) (by omega)
      have hc : cD R 1 (p + 1) = cD R 1 p + (if decide (dg R p = 1) = true then 1 else 0) := fb_ct_succ _ _
      rw [LW, hc] at hnx
      refine ⟨fun h => ⟨fun h2 => ?_, fun h2 => ?_⟩, fun h => ⟨fun h2 => absurd h2 (by omega), fun _ => ?_⟩⟩
      · rw [if_pos (show dg R p = 0 by omega), decide_eq_false h, if_neg (by decide), Nat.add_zero] at hnx
        exact hnx
      · rw [if_neg (show ¬ dg R p = 0 by omega), decide_eq_false h, if_neg (by decide), Nat.add_zero] at hnx
        exact hnx
      · rw [if_neg (show ¬ dg R p = 0 by omega), decide_eq_true h, if_pos rfl] at hnx
        exact hnx
def cwP (m R : Nat) (u : Nat) : Bool := decide (1 ≤ u) && (decide (ct8 u = cD R 1 m) && decide (sv m u (LW R m) m = PS R 1 m))
theorem cw5 {m R : Nat} (hm : m ≤ 8) (h2 : 0 < cD R 2 m) {k : Int32 → Int32 → Prop} (hk : ∀ z, k (nI (fb_ct (cwP m R) (2 ^ m))) z) : ∀ n i, 1 ≤ i → i ≤ 2 ^ m → 2 ^ m - i < n → wl_X1_countUpperRows_5 (nI m) (nI (PS R 1 m)) (nI (LW R m)) n (nI (fb_ct (cwP m R) i)) (nI i) k := by
  have hp := pow8 hm
  have hPl := PS_lt R 1 m
  have hLl := LW_lt R m
  intro n
  induction n with
  | zero => intro i _ _ h; omega
  | succ n ih =>
    intro i h1 hi hn
    unfold wl_X1_countUpperRows_5
    rw [sh1 m (by omega), nI_leI (by omega) (by omega), nI_1]
    refine ⟨fun q => ?_, fun q => ?_⟩
    · obtain rfl : i = 2 ^ m := by omega
      exact hk _
    · have hnx := ih (i + 1) (by omega) (by omega) (by omega)
      rw [fb_ct_succ, cwP, decide_eq_true h1, Bool.true_and] at hnx
      have cu := ct8_le i
      have cp := ct8_le (PS R 1 m)
      refine bitc_n (by omega) (bitc_n (by omega) ?_)
      show ((¬ nI (ct8 i) = nI (ct8 (PS R 1 m)) → _) ∧ (nI (ct8 i) = nI (ct8 (PS R 1 m)) → _))
      rw [nI_eq (by omega) (by omega), ct_PS hm]
      refine ⟨fun h => ?_, fun h => ?_⟩
      · rw [decide_eq_false h, Bool.false_and, if_neg (by decide), Nat.add_zero] at hnx
        exact hnx
      · have hc : ct8 i < ct8 (LW R m) := by rw [ct_LW hm]; omega
        obtain ⟨s1, -, -, -⟩ := sv_ok (m := m) (u := i) (l := LW R m) (by omega) (by omega) hLl hc m (by omega)
        refine served_sp (by omega) (by omega) hLl hc ?_
        rw [nI_eq (by omega) (by omega), nI_1]
        rw [decide_eq_true h, Bool.true_and] at hnx
        refine ⟨fun h3 => ?_, fun h3 => ?_⟩
        · rw [decide_eq_false h3, if_neg (by decide), Nat.add_zero] at hnx
          exact hnx
        · rw [decide_eq_true h3, if_pos rfl] at hnx
          exact hnx
theorem mw119 {m R : Nat} {z : Int32} {σ : SM} (hm : m ≤ 8) (hR : R < 3 ^ m) (h2 : 0 < cD R 2 m) {k : Int32 → Int32 → Prop} (hk : ∀ z, k (nI (fb_ct (cwP m R) (2 ^ m))) z) : ∀ n i, 1 ≤ i → i ≤ 2 ^ m → 2 ^ m - i < n → wl_X4_ways_119 (nI m) (nI R) z (nI (cD R 1 m)) (nI (LW R m)) σ n (nI (fb_ct (cwP m R) i)) (nI i) k := by
  have hp := pow8 hm
  have hLl := LW_lt R m
  have h9 : 3 ^ m ≤ 3 ^ 8 := Nat.pow_le_pow_right (by omega) hm
  have hcm : cD R 1 m ≤ m := fb_ct_le _ m
  intro n
  induction n with
  | zero => intro i _ _ h; omega
  | succ n ih =>
    intro i h1 hi hn
    unfold wl_X4_ways_119
    have a0 : nI (fb_ct (cwP m R) i) + (0 : Int32) = nI (fb_ct (cwP m R) i) := nI_add _ 0
    rw [sh1 m (by omega), nI_leI (by omega) (by omega), nI_1, nI_1, a0]
    refine ⟨fun q => ?_, fun q => ?_⟩
    · obtain rfl : i = 2 ^ m := by omega
      exact hk _
    · have hnx := ih (i + 1) (by omega) (by omega) (by omega)
      rw [fb_ct_succ, cwP, decide_eq_true h1, Bool.true_and] at hnx
      have cu := ct8_le i
      refine bits_sp (by omega) ?_
      rw [nI_eq (by omega) (by omega)]
      refine ⟨fun h => ?_, fun h => ?_⟩
      · rw [decide_eq_false h, Bool.false_and, if_neg (by decide), Nat.add_zero] at hnx
        exact hnx
      · have hc : ct8 i < ct8 (LW R m) := by rw [ct_LW hm]; omega
        obtain ⟨s1, s2, -, -⟩ := sv_ok (m := m) (u := i) (l := LW R m) (by omega) (by omega) hLl hc m (by omega)
        have hlt := (NRs (srt (sv m i (LW R m) m) (LW R m)) (srt_lt _ _) m).1
        have hlt2 : NR (sv m i (LW R m) m) (LW R m) m < 3 ^ m := hlt
        refine queued_sp (by omega) (by omega) hLl hc ?_
        rw [nI_eq (by omega) (by omega), NR_iff hR s1 s2]
        rw [decide_eq_true h, Bool.true_and] at hnx
        refine ⟨fun h3 => ?_, fun h3 => ?_⟩
        · rw [decide_eq_false h3, if_neg (by decide), Nat.add_zero] at hnx
          exact hnx
        · rw [decide_eq_true h3, if_pos rfl] at hnx
          exact hnx
theorem mw31' {m R : Nat} {z : Int32} {σ : SM} (hm : m ≤ 8) (hR : R < 2 ^ 31) {k : Int32 → Int32 → Int32 → Int32 → Prop} (hk : ∀ z, k (nI (R / 3 ^ m)) (nI (cD R 1 m)) (nI (LW R m)) z) : wl_X4_ways_31 (nI m) z σ 20000 (nI R) (0 : Int32) (0 : Int32) (0 : Int32) k := by
  have := mw31 (z := z) (σ := σ) hm hR hk 20000 0 (by omega) (by omega)
  rw [Nat.pow_zero, Nat.div_one] at this
  exact this
theorem cw_1 (m R : Nat) : nI (fb_ct (cwP m R) 1) = (0 : Int32) := by
  have : fb_ct (cwP m R) 1 = 0 := by simp [fb_ct, cwP]
  rw [this]; rfl
theorem cw5' {m R : Nat} (hm : m ≤ 8) (h2 : 0 < cD R 2 m) {k : Int32 → Int32 → Prop} (hk : ∀ z, k (nI (fb_ct (cwP m R) (2 ^ m))) z) : wl_X1_countUpperRows_5 (nI m) (nI (PS R 1 m)) (nI (LW R m)) 20000 (0 : Int32) (1 : Int32) k := by
  have hp := pow8 hm
  have := cw5 hm h2 hk 20000 1 (Nat.le_refl 1) Nat.one_le_two_pow (by omega)
  rw [cw_1] at this
  exact this
theorem mw119' {m R : Nat} {z : Int32} {σ : SM} (hm : m ≤ 8) (hR : R < 3 ^ m) (h2 : 0 < cD R 2 m) {k : Int32 → Int32 → Prop} (hk : ∀ z, k (nI (fb_ct (cwP m R) (2 ^ m))) z) : wl_X4_ways_119 (nI m) (nI R) z (nI (cD R 1 m)) (nI (LW R m)) σ 20000 (0 : Int32) (1 : Int32) k := by
  have hp := pow8 hm
  have := mw119 (z := z) (σ := σ) hm hR h2 hk 20000 1 (Nat.le_refl 1) Nat.one_le_two_pow (by omega)
  rw [cw_1] at this
  exact this
def wysB (m R : Nat) : Prop := R < 3 ^ m ∧ ¬ cD R 1 m = 0 ∧ ¬ cD R 2 m = 0 ∧ ¬ cD R 0 m = 0
theorem mways_sp {m R : Nat} {τ : SM} (m3 : 3 ≤ m) (m8 : m ≤ 8) (hR : R < 2 ^ 31) {post : Int32 → Prop} (h1 : wysB m R → post (nI (fb_ct (cwP m R) (2 ^ m)))) (h0 : ¬ wysB m R → post (-1 : Int32)) : wp_X4_ways (nI m) (nI R) τ post := by
  have hp := pow8 m8
  have h9 : 3 ^ m ≤ 3 ^ 8 := Nat.pow_le_pow_right (by omega) m8
  have h91 : 1 ≤ 3 ^ m := Nat.pow_pos (by omega)
  have c1 : cD R 1 m ≤ m := fb_ct_le _ m
  have c2 : cD R 2 m ≤ m := fb_ct_le _ m
  have ca := cD_all R m
  have hLl := LW_lt R m
  have hdl : R / 3 ^ m ≤ R := Nat.div_le_self _ _
  unfold wp_X4_ways
  refine in_t (b := nI 3) (c := nI 8) rfl rfl (nI_rng m3 m8 (by omega)) ⟨fun q => absurd q z10, fun _ => ⟨fun _ => ?_, fun q => absurd (nI_pos' hR) q⟩⟩
  refine mw31' m8 hR (fun _ => ?_)
  have e0 : (0 < nI (R / 3 ^ m)) ↔ 0 < R / 3 ^ m := nI_ltI (a := 0) (by omega) (by omega)
  have d0 : (nI (cD R 1 m) = 0) ↔ cD R 1 m = 0 := nI_eq (a := cD R 1 m) (b := 0) (by omega) (by omega)
  have el : nI (ct8 (LW R m)) = nI (cD R 1 m + cD R 2 m) := by rw [ct_LW m8]
  rw [e0, d0]
  refine ⟨fun q => h0 (fun z => ?_), fun q => ⟨fun q1 => h0 (fun z => z.2.1 q1), fun q1 => bits_sp (by omega) ?_⟩⟩
  · have := Nat.div_eq_of_lt z.1
    omega
  · have hR3 : R < 3 ^ m := by
      rcases Nat.lt_or_ge R (3 ^ m) with h | h
      · exact h
      · exact absurd (Nat.div_pos h (by omega)) q
    rw [el, nI_eq (by omega) (by omega)]
    refine ⟨fun q2 => h0 (fun z => z.2.2.1 (by omega)), fun q2 => bits_sp (by omega) ?_⟩
    rw [el, nI_eq (by omega) (by omega)]
    refine ⟨fun q3 => ?_, fun q3 => h0 (fun z => z.2.2.2 (by omega))⟩
    exact mw119' m8 hR3 (by omega) (fun _ => h1 ⟨hR3, q1, by omega, by omega⟩)
theorem cways_sp {m R : Nat} {σ : SO} (m3 : 3 ≤ m) (m8 : m ≤ 8) (hR : R < 2 ^ 31) {post : Int32 → Prop} (h1 : wysB m R → post (nI (fb_ct (cwP m R) (2 ^ m)))) (h0 : ¬ wysB m R → post (-1 : Int32)) : wp_X3_ways (nI m) (nI R) σ post := by
  have hp := pow8 m8
  have h9 : 3 ^ m ≤ 3 ^ 8 := Nat.pow_le_pow_right (by omega) m8
  have h91 : 1 ≤ 3 ^ m := Nat.pow_pos (by omega)
  have p0 : ∀ c, ((nI (PS R c m) = 0) ↔ cD R c m = 0) := fun c => by
    have := PS_lt R c m
    exact (nI_eq (a := PS R c m) (b := 0) (by omega) (by omega)).trans (PS_0 m8)
  unfold wp_X3_ways wp_X1_greatestNumber
  refine isWithin_t (nI_rng m3 m8 (by omega)) ⟨fun q => absurd q z10, fun _ => ?_⟩
  refine gn4 m8 (fun _ => ?_) 20000 0 (by omega) (by omega)
  by_cases hbig : R ≤ 3 ^ m - 1
  · refine isWithin_t (nI_rng (lo := 0) (Nat.zero_le _) hbig (by omega)) ⟨fun _ => ?_, fun q => absurd q z10⟩
    refine psort_sp (c := 1) m8 hR (by omega) (psort_sp (c := 2) m8 hR (by omega) (psort_sp (c := 0) m8 hR (by omega) ?_))
    rw [p0 1, p0 2, p0 0, fa_or, ← LW_eq]
    refine ⟨fun q => h0 (fun z => z.2.1 q), fun q => ⟨fun q2 => h0 (fun z => z.2.2.1 q2), fun q2 => ⟨fun q3 => ?_, fun q3 => h0 (fun z => z.2.2.2 q3)⟩⟩⟩
    unfold wp_X1_countUpperRows
    exact cw5' m8 (by omega) (fun _ => h1 ⟨by omega, q, q2, q3⟩)
  · have hb : ¬ (nI 0 ≤ nI R ∧ nI R ≤ nI (3 ^ m - 1)) := fun z => hbig ((nI_leI (by omega) (by omega)).mp z.2)
    exact isWithin_f hb ⟨fun q => absurd rfl q, fun _ => h0 (fun z => hbig (by have := z.1; omega))⟩
theorem r_ways {σ : SO} {τ : SM} (a b : Int32) : wp_X3_ways a b σ (fun r1 => wp_X4_ways a b τ (fun r2 => r1 = r2)) := by
  rcases rng_case a (lo := 3) (hi := 8) (by omega) (by omega) with ⟨m, m3, m8, rfl⟩ | ha
  · by_cases hneg : b < 0
    · have hb : ∀ q, ¬ (nI 0 ≤ b ∧ b ≤ q) := fun q z => (fa_of_lt hneg).2.1 z.1
      unfold wp_X3_ways wp_X1_greatestNumber
      refine isWithin_t (nI_rng m3 m8 (by omega)) ⟨fun q => absurd q z10, fun _ => ?_⟩
      refine gn4 m8 (fun _ => ?_) 20000 0 (by omega) (by omega)
      refine isWithin_f (hb _) ⟨fun q => absurd rfl q, fun _ => ?_⟩
      unfold wp_X4_ways
      exact in_t (b := nI 3) (c := nI 8) rfl rfl (nI_rng m3 m8 (by omega)) ⟨fun q => absurd q z10, fun _ => ⟨fun q => absurd q (fa_of_lt hneg).2.1, fun _ => rfl⟩⟩
    · obtain ⟨R, hR, rfl⟩ := nI_of hneg
      exact cways_sp m3 m8 hR (fun w => mways_sp m3 m8 hR (fun _ => rfl) (fun z => absurd w z)) (fun w => mways_sp m3 m8 hR (fun z => absurd z w) (fun _ => rfl))
  · unfold wp_X3_ways
    refine isWithin_f ha ⟨fun _ => ?_, fun q => absurd rfl q⟩
    unfold wp_X4_ways
    exact in_f (b := nI 3) (c := nI 8) rfl rfl ha ⟨fun _ => rfl, fun q => absurd rfl q⟩
