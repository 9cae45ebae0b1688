/-! small answers -/
theorem isWithin_t {a b c : Int32} (h1 : b ≤ a ∧ a ≤ c) {post : Int32 → Prop} (h : post 1) : wp_X3_isWithin a b c post := isWithin_sp (by rw [if_pos h1]; exact h)
theorem isWithin_f {a b c : Int32} (h1 : ¬ (b ≤ a ∧ a ≤ c)) {post : Int32 → Prop} (h : post 0) : wp_X3_isWithin a b c post := isWithin_sp (by rw [if_neg h1]; exact h)
theorem in_t {a b c : Int32} {b' c' : Int64} (hb : b.toInt64 = b') (hc : c.toInt64 = c') (h1 : b ≤ a ∧ a ≤ c) {post : Int32 → Prop} (h : post 1) : wp_X4_in a.toInt64 b' c' post := by
  subst hb; subst hc; exact in_sp32 (by rw [if_pos h1]; exact h)
theorem in_f {a b c : Int32} {b' c' : Int64} (hb : b.toInt64 = b') (hc : c.toInt64 = c') (h1 : ¬ (b ≤ a ∧ a ≤ c)) {post : Int32 → Prop} (h : post 0) : wp_X4_in a.toInt64 b' c' post := by
  subst hb; subst hc; exact in_sp32 (by rw [if_neg h1]; exact h)
/-- a state, or none -/
theorem st_case (a : Int32) {n : Nat} (hn : n ≤ 30) : (∃ s, s < 2 ^ n ∧ a = nI s) ∨ a < 0 ∨ nI (2 ^ n) ≤ a := by
  have : 2 ^ n ≤ 2 ^ 30 := Nat.pow_le_pow_right (by omega) hn
  rcases pk_ix a (n := 2 ^ n) (by omega) with h | h | h
  · exact Or.inr (Or.inl h)
  · exact Or.inr (Or.inr h)
  · exact Or.inl h
theorem hasState_t {σ : SC} {n s : Nat} (hn : n ≤ 30) (e : σ.1 = nI n) (hs : s < 2 ^ n) {post : Int32 → Prop} (h : post 1) : wp_X0_hasState (nI s) σ post := by
  have : 2 ^ n ≤ 2 ^ 30 := Nat.pow_le_pow_right (by omega) hn
  unfold wp_X0_hasState wp_X0_countStates
  dsimp only
  rw [e, sh1 n (by omega), nI_leI (by omega) (by omega)]
  exact ⟨fun q => absurd q (nI_pos (by omega)), fun _ => ⟨fun q => absurd q (by omega), fun _ => h⟩⟩
theorem hasState_f {σ : SC} {n : Nat} {a : Int32} (hn : n ≤ 30) (e : σ.1 = nI n) (ha : a < 0 ∨ nI (2 ^ n) ≤ a) {post : Int32 → Prop} (h : post 0) : wp_X0_hasState a σ post := by
  unfold wp_X0_hasState wp_X0_countStates
  rw [e, sh1 n (by omega)]
  exact ⟨fun _ => h, fun q => ⟨fun _ => h, fun q2 => absurd (ha.resolve_left q) q2⟩⟩
theorem isState_t {σ : SM} {n s : Nat} (hn : n ≤ 30) (e : σ.1 = nI n) (hs : s < 2 ^ n) {post : Int32 → Prop} (h : post 1) : wp_X4_isState (nI s) σ post := by
  have : 2 ^ n ≤ 2 ^ 30 := Nat.pow_le_pow_right (by omega) hn
  unfold wp_X4_isState
  rw [e, sh1m n (by omega)]
  exact in_t (b := nI 0) rfl rfl ⟨(nI_leI (by omega) (by omega)).mpr (by omega), (nI_leI (by omega) (by omega)).mpr (by omega)⟩ ⟨nb_1, h⟩
theorem isState_f {σ : SM} {n : Nat} {a : Int32} (hn : n ≤ 30) (e : σ.1 = nI n) (ha : a < 0 ∨ nI (2 ^ n) ≤ a) {post : Int32 → Prop} (h : post 0) : wp_X4_isState a σ post := by
  have h2 : 2 ^ n ≤ 2 ^ 30 := Nat.pow_le_pow_right (by omega) hn
  have h3 : 1 ≤ 2 ^ n := Nat.one_le_two_pow
  unfold wp_X4_isState
  rw [e, sh1m n (by omega)]
  refine in_f (b := nI 0) rfl rfl (fun q => ?_) ⟨nb_0, h⟩
  simp only [fa_lt, fa_le, nI_toInt (show 2 ^ n < 2 ^ 31 by omega), nI_toInt (show 2 ^ n - 1 < 2 ^ 31 by omega), nI_toInt (show 0 < 2 ^ 31 by omega)] at ha q
  have z0 : (0 : Int32).toInt = 0 := rfl
  omega
theorem csum_sp {x y k : Nat} {f g : Nat → Int64} {σ : SC} (e1 : σ.2.2.2.1 = f) (e2 : σ.2.2.2.2 = g) (hT : TC f g x y) (hk : k ≤ 8) {post : Int64 → Prop} (h : post (lN (SW x y k))) : wp_X0_sumOf (nI k) σ post := by
  unfold wp_X0_sumOf
  refine ⟨fun q => absurd q (nI_pos (by omega)), fun _ => ⟨fun q => absurd ((nI_leI (a := 9) (by omega) (by omega)).mp q) (by omega), fun _ => ⟨vp_in_nI (by omega) (by omega), ?_⟩⟩⟩
  rw [nI_clamp (by omega), e2, hT.2 k hk]
  exact h
theorem cwt_sp {x y n s : Nat} {f g : Nat → Int64} {σ : SC} (e0 : σ.1 = nI n) (e1 : σ.2.2.2.1 = f) (hT : TC f g x y) (hn : n ≤ 8) (hs : s < 2 ^ n) {post : Int64 → Prop} (h : post (lN (WT x y n s))) : wp_X0_weightOf (nI s) σ post := by
  unfold wp_X0_weightOf
  rw [e0]
  refine wow_sp hn hs ?_
  rw [e1, hT.1 n hn s hs]
  exact h
theorem mwt_sp {x y n s : Nat} {f : Nat → Int64} {σ : SM} (e1 : σ.2.2.2.1 = f) (hT : ∀ j, j ≤ 8 → MT f x y j) (hn : n ≤ 8) (hs : s < 2 ^ n) {post : Int64 → Prop} (h : post (lN (WT x y n s))) : wp_X4_weigh (nI n) (nI s) σ post := by
  refine mweigh_sp hn hs ?_
  rw [e1, hT n hn s hs]
  exact h
theorem msum5 {x y l : Nat} {f : Nat → Int64} {σ : SM} (e1 : σ.2.2.2.1 = f) (hT : ∀ j, j ≤ 8 → MT f x y j) (hl : l ≤ 8) {k : Int64 → Int32 → Prop} (hk : ∀ z, k (lN (SW x y l)) z) : ∀ n i, i ≤ 2 ^ l → 2 ^ l - i < n → wl_X4_sumOf_5 (nI l) σ n (lN (fb_sm (WT x y l) i)) (nI i) k := by
  have hp := pow8 hl
  intro n
  induction n with
  | zero => intro i _ h; omega
  | succ n ih =>
    intro i hi hn
    unfold wl_X4_sumOf_5
    rw [sh1 l (by omega), nI_leI (by omega) (by omega), nI_1]
    refine ⟨fun q => ?_, fun q => ?_⟩
    · obtain rfl : i = 2 ^ l := by omega
      exact hk _
    · refine mwt_sp e1 hT hl (by omega) ?_
      rw [lN_add]
      exact ih (i + 1) (by omega) (by omega)
theorem msum_sp {x y l : Nat} {f : Nat → Int64} {σ : SM} (e1 : σ.2.2.2.1 = f) (hT : ∀ j, j ≤ 8 → MT f x y j) (hl : l ≤ 8) {post : Int64 → Prop} (h : post (lN (SW x y l))) : wp_X4_sumOf (nI l) σ post := by
  have hp := pow8 hl
  unfold wp_X4_sumOf
  exact msum5 e1 hT hl (fun _ => h) 20000 0 (Nat.zero_le _) (by omega)
/-! fractions -/
theorem eu_half {p q r : Nat} (hq : 0 < q) (hr : r = p % q) (h0 : 0 < r) : 2 * (q % r) < q := by
  have h1 : r < q := by rw [hr]; exact Nat.mod_lt _ hq
  have h2 : q % r < r := Nat.mod_lt _ h0
  have h3 := Nat.div_add_mod q r
  have h4 : 1 ≤ q / r := (Nat.one_le_div_iff h0).mpr (Nat.le_of_lt h1)
  have h5 : r * 1 ≤ r * (q / r) := Nat.mul_le_mul_left r h4
  omega
theorem gcd_step (p q : Nat) : Nat.gcd q (p % q) = Nat.gcd p q := by rw [Nat.gcd_comm p q, Nat.gcd_rec q p, Nat.gcd_comm]
theorem lN_0 {a : Nat} (h : a < 2 ^ 62) : (lN a = (0 : Int64)) ↔ a = 0 := pk_lEQ (b := 0) (by omega) (by omega)
theorem cgcd {x0 x2 : Int64} {k : Int64 → Int64 → Int32 → Prop} : ∀ j p q t n, q < 2 ^ j → p < 2 ^ 62 → q < 2 ^ 62 → t + 2 * j < 100 → 2 * j < n → (∀ z, k (lN (Nat.gcd p q)) (lN 0) z) → wl_X3_greatestCommonDivisor_9 x0 x2 n (lN p) (lN q) (nI t) k := by
  intro j
  induction j with
  | zero =>
    intro p q t n hq hp hq2 ht hn hk
    obtain ⟨n, rfl⟩ : ∃ m, n = m + 1 := ⟨n - 1, by omega⟩
    obtain rfl : q = 0 := by simpa using hq
    unfold wl_X3_greatestCommonDivisor_9
    rw [Nat.gcd_zero_right] at hk
    exact ⟨fun _ => hk _, fun _ => ⟨fun _ => hk _, fun q => absurd rfl q⟩⟩
  | succ j ih =>
    intro p q t n hq hp hq2 ht hn hk
    obtain ⟨n, rfl⟩ : ∃ m, n = m + 2 := ⟨n - 2, by omega⟩
    have e100 : ((100 : Int32) ≤ nI t) ↔ 100 ≤ t := nI_leI (a := 100) (by omega) (by omega)
    have e101 : ((100 : Int32) ≤ nI (t + 1)) ↔ 100 ≤ t + 1 := nI_leI (a := 100) (by omega) (by omega)
    unfold wl_X3_greatestCommonDivisor_9
    rw [e100, lN_0 hq2]
    refine ⟨fun z => absurd z (by omega), fun _ => ⟨fun z => ?_, fun z => ⟨z, ?_⟩⟩⟩
    · subst z; rw [Nat.gcd_zero_right] at hk; exact hk _
    · rw [pk_lRem (by omega) (by omega) (by omega), nI_1]
      have hr : p % q < q := Nat.mod_lt _ (by omega)
      unfold wl_X3_greatestCommonDivisor_9
      rw [e101, lN_0 (a := p % q) (by omega)]
      refine ⟨fun z => absurd z (by omega), fun _ => ⟨fun z => ?_, fun z2 => ⟨z2, ?_⟩⟩⟩
      · rw [← gcd_step, z, Nat.gcd_zero_right] at hk
        rw [z]
        exact hk _
      · rw [pk_lRem (by omega) (by omega) (by omega), nI_1]
        have hh := eu_half (p := p) (q := q) (by omega) rfl (by omega)
        rw [Nat.pow_succ] at hq
        refine ih (p % q) (q % (p % q)) (t + 2) n (by omega) (by omega) (by omega) (by omega) (by omega) ?_
        rw [gcd_step, gcd_step]
        exact hk
theorem mgcd {x0 x2 : Int64} {x4 : Int32} {k : Int64 → Int64 → Prop} : ∀ j p q n, q < 2 ^ j → p < 2 ^ 62 → q < 2 ^ 62 → 2 * j < n → k (lN (Nat.gcd p q)) (lN 0) → wl_X4_least_6 x0 x2 x4 n (lN p) (lN q) k := by
  intro j
  induction j with
  | zero =>
    intro p q n hq hp hq2 hn hk
    obtain ⟨n, rfl⟩ : ∃ m, n = m + 1 := ⟨n - 1, by omega⟩
    obtain rfl : q = 0 := by simpa using hq
    unfold wl_X4_least_6
    rw [Nat.gcd_zero_right] at hk
    exact ⟨fun _ => hk, fun q => absurd rfl q⟩
  | succ j ih =>
    intro p q n hq hp hq2 hn hk
    obtain ⟨n, rfl⟩ : ∃ m, n = m + 2 := ⟨n - 2, by omega⟩
    unfold wl_X4_least_6
    rw [lN_0 hq2]
    refine ⟨fun z => ?_, fun z => ⟨z, ?_⟩⟩
    · subst z; rw [Nat.gcd_zero_right] at hk; exact hk
    · rw [pk_lRem (by omega) (by omega) (by omega)]
      have hr : p % q < q := Nat.mod_lt _ (by omega)
      unfold wl_X4_least_6
      rw [lN_0 (a := p % q) (by omega)]
      refine ⟨fun z => ?_, fun z2 => ⟨z2, ?_⟩⟩
      · rw [← gcd_step, z, Nat.gcd_zero_right] at hk
        rw [z]
        exact hk
      · rw [pk_lRem (by omega) (by omega) (by omega)]
        have hh := eu_half (p := p) (q := q) (by omega) rfl (by omega)
        rw [Nat.pow_succ] at hq
        refine ih (p % q) (q % (p % q)) n (by omega) (by omega) (by omega) (by omega) ?_
        rw [gcd_step, gcd_step]
        exact hk
theorem gcd_b {p q : Nat} (hq : 0 < q) (hq2 : q < 2 ^ 40) : 0 < Nat.gcd p q ∧ Nat.gcd p q < 2 ^ 40 := ⟨Nat.gcd_pos_of_pos_right _ hq, Nat.lt_of_le_of_lt (Nat.le_of_dvd hq (Nat.gcd_dvd_right p q)) hq2⟩
def frac (p q : Nat) (w : Int32) : Int64 := if w = 0 then lN (p / Nat.gcd p q) else lN (q / Nat.gcd p q)
theorem pof_sp {p q : Nat} (hq : 0 < q) (hq2 : q < 2 ^ 40) (hp : p < 2 ^ 40) (w : Int32) {post : Int64 → Prop} (h : post (frac p q w)) : wp_X3_partOfFraction (lN p) (lN q) w post := by
  obtain ⟨g0, g1⟩ := gcd_b (p := p) hq hq2
  unfold wp_X3_partOfFraction wp_X3_greatestCommonDivisor
  refine cgcd 40 p q 0 20000 hq2 (by omega) (by omega) (by omega) (by omega) (fun _ => ?_)
  have e0 : (lN (Nat.gcd p q) ≤ (0 : Int64)) ↔ Nat.gcd p q ≤ 0 := pk_lLE (b := 0) (by omega) (by omega)
  dsimp only
  rw [e0, lN_0 (by omega), pk_lDiv (by omega) g0 (by omega), pk_lDiv (by omega) g0 (by omega)]
  unfold frac at h
  refine ⟨fun z => ⟨fun y => absurd y (by omega), fun _ => ⟨by omega, ?_⟩⟩, fun z => ⟨fun y => absurd y (by omega), fun _ => ⟨by omega, ?_⟩⟩⟩
  · rw [if_neg z] at h; exact h
  · rw [if_pos z] at h; exact h
theorem least_sp {p q : Nat} (hq : 0 < q) (hq2 : q < 2 ^ 40) (hp : p < 2 ^ 40) (w : Int32) {post : Int64 → Prop} (h : post (frac p q w)) : wp_X4_least (lN p) (lN q) w post := by
  obtain ⟨g0, g1⟩ := gcd_b (p := p) hq hq2
  unfold wp_X4_least
  refine mgcd 40 p q 20000 hq2 (by omega) (by omega) (by omega) ?_
  rw [lN_0 (by omega), pk_lDiv (by omega) g0 (by omega), pk_lDiv (by omega) g0 (by omega)]
  unfold frac at h
  refine ⟨fun z => ⟨by omega, ?_⟩, fun z => ⟨by omega, ?_⟩⟩
  · rw [if_neg z] at h; exact h
  · rw [if_pos z] at h; exact h
theorem WT_lt {x y : Nat} (hx : x ≤ 9) (hy : y ≤ 9) {l : Nat} (hl : l ≤ 8) (s : Nat) : WT x y l s < 2 ^ 26 := by
  have h1 := WT_le hx hy l s
  have h2 : 9 ^ l ≤ 9 ^ 8 := Nat.pow_le_pow_right (by omega) hl
  omega
theorem SW_b {x y : Nat} (hx1 : 1 ≤ x) (hy1 : 1 ≤ y) (hx : x ≤ 9) (hy : y ≤ 9) {l : Nat} (hl : l ≤ 8) : 0 < SW x y l ∧ SW x y l < 2 ^ 40 := by
  have h0 := pow8 hl
  have h1 : 0 < 2 ^ l := Nat.two_pow_pos l
  have h2 := fb_sm_part (WT x y l) h1
  have h3 := WT_pos hx1 hy1 l 0
  have h4 := fb_sm_bound (f := WT x y l) (c := 2 ^ 26) (n := 2 ^ l) (fun k _ => Nat.le_of_lt (WT_lt hx hy hl k))
  have h5 : 2 ^ l * 2 ^ 26 ≤ 256 * 2 ^ 26 := Nat.mul_le_mul_right _ h0
  unfold SW
  omega
