theorem mbits4 {a : Nat} (ha : a < 2 ^ 31) {k : Int32 → Int32 → Prop} (hk : ∀ z, k (nI (ct8 a)) z) : ∀ n i, i ≤ 8 → 8 - i < n → wl_X4_bits_4 (nI a) n (nI (fb_ct a.testBit i)) (nI i) k := by
  intro n
  induction n with
  | zero => intro i _ h; omega
  | succ n ih =>
    intro i hi hn
    unfold wl_X4_bits_4
    have e8 : ((8 : Int32) ≤ nI i) ↔ 8 ≤ i := nI_leI (a := 8) (by omega) (by omega)
    rw [e8, tb_n ha (by omega), nI_add, nI_1]
    refine ⟨fun q => ?_, fun q => ?_⟩
    · obtain rfl : i = 8 := by omega
      exact hk _
    · have hnx := ih (i + 1) (by omega) (by omega)
      rw [fb_ct_succ, tb_eq] at hnx
      have e : a / 2 ^ i % 2 = if (decide (a / 2 ^ i % 2 = 1)) = true then 1 else 0 := by
        by_cases h : a / 2 ^ i % 2 = 1
        · simp [h]
        · simp [h]; omega
      rw [e]
      exact hnx
theorem bits_sp {a : Nat} (ha : a < 2 ^ 31) {post : Int32 → Prop} (h : post (nI (ct8 a))) : wp_X4_bits (nI a) post := by
  unfold wp_X4_bits
  exact mbits4 ha (fun _ => h) 20000 0 (by omega) (by omega)
theorem ct8_le (a : Nat) : ct8 a ≤ 8 := fb_ct_le _ 8
theorem full_ct : ∀ m, m < 9 → ct8 (2 ^ m - 1) = m := by decide +kernel
theorem full_of : ∀ m, m < 9 → ∀ l, l < 2 ^ m → ct8 l = m → l = 2 ^ m - 1 := by decide +kernel
theorem r_queue {σ : SO} {τ : SM} (a b c : Int32) : wp_X3_queue a b c σ (fun r1 => wp_X4_queue a b c τ (fun r2 => r1 = r2)) := by
  unfold wp_X3_queue wp_X4_queue
  rcases rng_case a (lo := 3) (hi := 8) (by omega) (by omega) with ⟨m, m3, m8, rfl⟩ | ha
  · have hp := pow8 m8
    have hp3 : 8 ≤ 2 ^ m := by
      have : 2 ^ 3 ≤ 2 ^ m := Nat.pow_le_pow_right (by omega) m3
      omega
    have e1 : nI (2 ^ m) - (1 : Int32) = nI (2 ^ m - 1) := pk_sub (b := 1) (by omega)
    have e2 : nI (2 ^ m - 1) - (1 : Int32) = nI (2 ^ m - 2) := by
      have := pk_sub (a := 2 ^ m - 1) (b := 1) (by omega)
      rw [show 2 ^ m - 2 = 2 ^ m - 1 - 1 by omega]
      exact this
    refine isWithin_t (nI_rng m3 m8 (by omega)) ⟨fun q => absurd q z10, fun _ => ?_⟩
    unfold wp_X1_areRows
    rw [sh1 m (by omega), e1, e2]
    have hin : wp_X4_in (nI m).toInt64 (3 : Int64) (8 : Int64) = wp_X4_in (nI m).toInt64 (nI 3).toInt64 (nI 8).toInt64 := rfl
    have inm : ∀ {post : Int32 → Prop}, post 1 → wp_X4_in (nI m).toInt64 (3 : Int64) (8 : Int64) post := fun h => in_t (b := nI 3) (c := nI 8) rfl rfl (nI_rng m3 m8 (by omega)) h
    rcases rng_case b (lo := 1) (hi := 2 ^ m - 1) (by omega) (by omega) with ⟨u, u1, u2, rfl⟩ | hb
    · refine isWithin_t (nI_rng u1 u2 (by omega)) ⟨fun q => absurd q z10, fun _ => ?_⟩
      have inu : ∀ {post : Int32 → Prop}, post 1 → wp_X4_in (nI u).toInt64 (1 : Int64) (nI (2 ^ m - 1)).toInt64 post := fun h => in_t (b := nI 1) (c := nI (2 ^ m - 1)) rfl rfl (nI_rng u1 u2 (by omega)) h
      have cu := ct8_le u
      rcases rng_case c (lo := 1) (hi := 2 ^ m - 1) (by omega) (by omega) with ⟨l, l1, l2, rfl⟩ | hc
      · have inl : ∀ {post : Int32 → Prop}, post 1 → wp_X4_in (nI l).toInt64 (1 : Int64) (nI (2 ^ m - 1)).toInt64 post := fun h => in_t (b := nI 1) (c := nI (2 ^ m - 1)) rfl rfl (nI_rng l1 l2 (by omega)) h
        have cl := ct8_le l
        by_cases hf : l ≤ 2 ^ m - 2
        · have hne : ¬ ct8 l = m := fun e => by
            have := full_of m (by omega) l (by omega) e
            omega
          refine isWithin_t (nI_rng l1 hf (by omega)) ⟨fun _ => ?_, fun q => absurd q z10⟩
          refine bitc_n (by omega) (bitc_n (by omega) ?_)
          show ((nI (ct8 l) ≤ nI (ct8 u) → _) ∧ (¬ nI (ct8 l) ≤ nI (ct8 u) → _))
          rw [nI_leI (by omega) (by omega)]
          refine ⟨fun q => ?_, fun q => ?_⟩
          · refine ⟨fun q => absurd rfl q, fun _ => inm ⟨fun q => absurd q z10, fun _ => inu ⟨fun q => absurd q z10, fun _ => inl ⟨fun q => absurd q z10, fun _ => ?_⟩⟩⟩⟩
            refine bits_sp (by omega) (bits_sp (by omega) ⟨fun _ => rfl, fun q2 => absurd ((nI_leI (by omega) (by omega)).mpr q) q2⟩)
          · refine ⟨fun _ => ?_, fun q => absurd q z10⟩
            obtain ⟨s1, s2, -, -⟩ := sv_ok (m := m) (u := u) (l := l) (by omega) (by omega) (by omega) (by omega) m (by omega)
            refine served_sp (by omega) (by omega) (by omega) (by omega) (number_sp (by omega) (by omega) (by omega) s1 ?_)
            refine inm ⟨fun q => absurd q z10, fun _ => inu ⟨fun q => absurd q z10, fun _ => inl ⟨fun q => absurd q z10, fun _ => ?_⟩⟩⟩
            refine bits_sp (by omega) (bits_sp (by omega) ⟨fun q2 => absurd ((nI_leI (by omega) (by omega)).mp q2) q, fun _ => ?_⟩)
            refine bits_sp (by omega) ⟨fun _ => ?_, fun q2 => absurd ((nI_eq (by omega) (by omega)).mp q2) hne⟩
            exact queued_sp (by omega) (by omega) (by omega) (by omega) rfl
        · obtain rfl : l = 2 ^ m - 1 := by omega
          have hfc := full_ct m (by omega)
          refine isWithin_f (fun z => absurd ((nI_leI (by omega) (by omega)).mp z.2) hf) ⟨fun q => absurd rfl q, fun _ => ?_⟩
          refine ⟨fun q => absurd rfl q, fun _ => inm ⟨fun q => absurd q z10, fun _ => inu ⟨fun q => absurd q z10, fun _ => inl ⟨fun q => absurd q z10, fun _ => ?_⟩⟩⟩⟩
          refine bits_sp (by omega) (bits_sp (by omega) ⟨fun _ => rfl, fun _ => ?_⟩)
          refine bits_sp (by omega) ⟨fun q2 => absurd (by rw [hfc]) q2, fun _ => rfl⟩
      · have hc2 : ¬ (nI 1 ≤ c ∧ c ≤ nI (2 ^ m - 2)) := fun z => hc ⟨z.1, by
          have h1 := z.2
          rw [fa_le, nI_toInt (by omega)] at h1
          rw [fa_le, nI_toInt (by omega)]
          omega⟩
        refine isWithin_f hc2 ⟨fun q => absurd rfl q, fun _ => ?_⟩
        refine ⟨fun q => absurd rfl q, fun _ => inm ⟨fun q => absurd q z10, fun _ => inu ⟨fun q => absurd q z10, fun _ => ?_⟩⟩⟩
        exact in_f (b := nI 1) (c := nI (2 ^ m - 1)) rfl rfl hc ⟨fun _ => rfl, fun q => absurd rfl q⟩
    · refine isWithin_f hb ⟨fun _ => ?_, fun q => absurd rfl q⟩
      refine ⟨fun q => absurd rfl q, fun _ => inm ⟨fun q => absurd q z10, fun _ => ?_⟩⟩
      exact in_f (b := nI 1) (c := nI (2 ^ m - 1)) rfl rfl hb ⟨fun _ => rfl, fun q => absurd rfl q⟩
  · refine isWithin_f ha ⟨fun _ => ?_, fun q => absurd rfl q⟩
    exact in_f (b := nI 3) (c := nI 8) rfl rfl ha ⟨fun _ => rfl, fun q => absurd rfl q⟩
/-! the ring taken apart -/
def dg (R p : Nat) : Nat := R / 3 ^ p % 3
def PS (R c : Nat) : Nat → Nat
  | 0 => 0
  | p + 1 => if dg R p = c then PS R c p ||| 2 ^ p else PS R c p
def LW (R : Nat) : Nat → Nat
  | 0 => 0
  | p + 1 => if dg R p = 0 then LW R p else LW R p ||| 2 ^ p
def cD (R c m : Nat) : Nat := fb_ct (fun p => decide (dg R p = c)) m
theorem dg_lt (R p : Nat) : dg R p < 3 := Nat.mod_lt _ (by omega)
theorem PS_tb (R c i : Nat) : ∀ m, (PS R c m).testBit i = (decide (i < m) && decide (dg R i = c))
  | 0 => by simp [PS]
  | m + 1 => by
    rw [PS]
    split
    · rename_i h
      rw [fb_bit_set, PS_tb R c i m]
      by_cases e : i = m
      · subst e; simp [h]
      · have : decide (i < m + 1) = decide (i < m) := by simp; omega
        rw [this]; simp [e]
    · rename_i h
      rw [PS_tb R c i m]
      by_cases e : i = m
      · subst e; simp [h]
      · have : decide (i < m + 1) = decide (i < m) := by simp; omega
        rw [this]
theorem LW_eq (R : Nat) : ∀ m, LW R m = PS R 1 m ||| PS R 2 m
  | 0 => by simp [LW, PS]
  | m + 1 => by
    apply Nat.eq_of_testBit_eq
    intro i
    have hd := dg_lt R m
    rw [Nat.testBit_or, PS_tb, PS_tb, LW]
    split
    · rename_i h
      rw [LW_eq R m, Nat.testBit_or, PS_tb, PS_tb]
      by_cases e : i = m
      · subst e; simp [h]
      · have : decide (i < m + 1) = decide (i < m) := by simp; omega
        rw [this]
    · rename_i h
      rw [fb_bit_set, LW_eq R m, Nat.testBit_or, PS_tb, PS_tb]
      by_cases e : i = m
      · subst e
        rcases (show dg R i = 1 ∨ dg R i = 2 by omega) with h1 | h1 <;> simp [h1]
      · have : decide (i < m + 1) = decide (i < m) := by simp; omega
        rw [this]; simp [e]
theorem PS_lt (R c m : Nat) : PS R c m < 2 ^ m := Nat.lt_pow_two_of_testBit _ (fun i hi => by rw [PS_tb]; simp; omega)
theorem LW_lt (R m : Nat) : LW R m < 2 ^ m := by rw [LW_eq]; exact Nat.or_lt_two_pow (PS_lt _ _ _) (PS_lt _ _ _)
theorem ct_PS {R c m : Nat} (hm : m ≤ 8) : ct8 (PS R c m) = cD R c m := by
  unfold ct8 cD
  obtain ⟨j, hj⟩ : ∃ j, 8 = m + j := ⟨8 - m, by omega⟩
  rw [hj, fb_ct_split]
  have h2 : fb_ct (fun k => (PS R c m).testBit (m + k)) j = 0 := fb_ct_zero.mpr (fun k _ => by rw [PS_tb, decide_eq_false (show ¬ m + k < m by omega), Bool.false_and])
  rw [h2, Nat.add_zero]
  exact fb_ct_cong (fun k hk => by rw [PS_tb]; simp [hk])
theorem ct_LW {R m : Nat} (hm : m ≤ 8) : ct8 (LW R m) = cD R 1 m + cD R 2 m := by
  rw [← ct_PS hm, ← ct_PS hm, LW_eq]
  unfold ct8
  rw [← fb_ct_or]
  · exact fb_ct_cong (fun k _ => by rw [Nat.testBit_or])
  · intro k _ h
    rw [PS_tb, PS_tb] at h
    simp only [Bool.and_eq_true, decide_eq_true_eq] at h
    omega
theorem cD_all (R : Nat) : ∀ m, cD R 0 m + cD R 1 m + cD R 2 m = m
  | 0 => rfl
  | m + 1 => by
    have := cD_all R m
    have hd := dg_lt R m
    unfold cD at this ⊢
    rw [fb_ct_succ, fb_ct_succ, fb_ct_succ]
    rcases (show dg R m = 0 ∨ dg R m = 1 ∨ dg R m = 2 by omega) with h | h | h <;> simp [h] <;> omega
theorem PS_0 {R c m : Nat} (hm : m ≤ 8) : PS R c m = 0 ↔ cD R c m = 0 := by
  constructor
  · intro h
    rw [← ct_PS hm, h]
    decide
  · intro h
    apply Nat.eq_of_testBit_eq
    intro i
    rw [PS_tb, Nat.zero_testBit]
    by_cases hi : i < m
    · have := fb_ct_zero.mp h i hi
      rw [this]; simp
    · simp [hi]
theorem NRs (F : Nat → Nat) (hF : ∀ p, F p < 3) : ∀ m, fb_sm (fun p => 3 ^ p * F p) m < 3 ^ m ∧ ∀ i, i < m → fb_sm (fun p => 3 ^ p * F p) m / 3 ^ i % 3 = F i
  | 0 => ⟨by simp [fb_sm], fun i h => by omega⟩
  | m + 1 => by
    obtain ⟨h1, h2⟩ := NRs F hF m
    have h3 := hF m
    rw [fb_sm_succ]
    generalize fb_sm (fun p => 3 ^ p * F p) m = S at h1 h2 ⊢
    have e : 3 ^ (m + 1) = 3 ^ m * 3 := Nat.pow_succ _ _
    have h4 : 3 ^ m * F m ≤ 3 ^ m * 2 := Nat.mul_le_mul_left _ (by omega)
    refine ⟨by omega, fun i hi => ?_⟩
    have hpos : 0 < 3 ^ i := Nat.pow_pos (by omega)
    by_cases em : i = m
    · subst em
      rw [Nat.add_mul_div_left _ _ hpos, Nat.div_eq_of_lt h1, Nat.zero_add]
      exact Nat.mod_eq_of_lt h3
    · obtain ⟨j, rfl⟩ : ∃ j, m = i + (j + 1) := ⟨m - i - 1, by omega⟩
      have e2 : 3 ^ (i + (j + 1)) * F (i + (j + 1)) = 3 ^ i * (3 * (3 ^ j * F (i + (j + 1)))) := by
        rw [Nat.pow_add, Nat.pow_succ, Nat.mul_assoc, Nat.mul_comm (3 ^ j) 3, Nat.mul_assoc]
      rw [e2, Nat.add_mul_div_left _ _ hpos, Nat.add_mul_mod_self_left]
      exact h2 i (by omega)
theorem dgs (R : Nat) : ∀ m, fb_sm (fun p => 3 ^ p * dg R p) m = R % 3 ^ m
  | 0 => by simp [fb_sm, Nat.mod_one]
  | m + 1 => by rw [fb_sm_succ, dgs R m, Nat.mod_pow_succ, dg]
theorem srt_lt (f l p : Nat) : srt f l p < 3 := by unfold srt; split; split <;> omega; omega
theorem srt_PS {R m p : Nat} (hp : p < m) : srt (PS R 1 m) (LW R m) p = dg R p := by
  have hd := dg_lt R p
  unfold srt
  rw [LW_eq, Nat.testBit_or, PS_tb, PS_tb]
  rcases (show dg R p = 0 ∨ dg R p = 1 ∨ dg R p = 2 by omega) with h | h | h <;> simp [h, hp]
theorem NR_iff {R m f : Nat} (hR : R < 3 ^ m) (hf : f < 2 ^ m) (hsub : ∀ i, f.testBit i = true → (LW R m).testBit i = true) : NR f (LW R m) m = R ↔ f = PS R 1 m := by
  constructor
  · intro h
    have h2 := (NRs (srt f (LW R m)) (srt_lt _ _) m).2
    apply Nat.eq_of_testBit_eq
    intro i
    by_cases hi : i < m
    · have h3 := h2 i hi
      have h4 : NR f (LW R m) m / 3 ^ i % 3 = srt f (LW R m) i := h3
      rw [h] at h4
      have h5 := srt_PS (R := R) (m := m) hi
      have h6 : srt f (LW R m) i = srt (PS R 1 m) (LW R m) i := by rw [h5]; exact h4.symm
      unfold srt at h6
      cases hl : (LW R m).testBit i
      · have a1 : f.testBit i = false := by
          cases hfi : f.testBit i
          · rfl
          · exact absurd (hsub i hfi) (by rw [hl]; decide)
        rw [LW_eq, Nat.testBit_or] at hl
        have a2 : (PS R 1 m).testBit i = false := by
          cases hq : (PS R 1 m).testBit i
          · rfl
          · rw [hq] at hl; exact absurd hl (by simp)
        rw [a1, a2]
      · rw [hl, if_pos rfl, if_pos rfl] at h6
        cases hfi : f.testBit i <;> cases hq : (PS R 1 m).testBit i <;> rw [hfi, hq] at h6 <;> first | rfl | exact absurd h6 (by decide)
    · rw [PS_tb, Nat.testBit_lt_two_pow (Nat.lt_of_lt_of_le hf (Nat.pow_le_pow_right (by omega) (by omega)))]
      simp [hi]
  · rintro rfl
    have e : NR (PS R 1 m) (LW R m) m = fb_sm (fun p => 3 ^ p * dg R p) m := fb_sm_cong (fun k hk => by rw [srt_PS hk])
    rw [e, dgs, Nat.mod_eq_of_lt hR]
