/-! bitCount counts bits -/
theorem bt_nI {a i : Nat} (hi : i < 32) : bt (nI a) i = a.testBit i := by
  show (BitVec.ofNat 32 a).getLsbD i = _
  rw [BitVec.getLsbD_ofNat]
  simp [hi]
theorem and_split {k x y p q : Nat} (hx : x < 2 ^ k) (hy : y < 2 ^ k) : (2 ^ k * p + x) &&& (2 ^ k * q + y) = 2 ^ k * (p &&& q) + (x &&& y) := by
  apply Nat.eq_of_testBit_eq
  intro j
  rw [Nat.testBit_and, Nat.testBit_two_pow_mul_add p hx, Nat.testBit_two_pow_mul_add q hy, Nat.testBit_two_pow_mul_add (p &&& q) (Nat.and_lt_two_pow x hy)]
  by_cases h : j < k
  · simp [h]
  · simp [h]
theorem by1 : ∀ b, b < 2 → ∀ lo, lo < 256 → (lo / 2 + 128 * b) &&& 85 = lo / 2 &&& 85 := by decide +kernel
theorem by2 : ∀ b, b < 4 → ∀ lo, lo < 256 → (lo / 4 + 64 * b) &&& 51 = lo / 4 &&& 51 := by decide +kernel
theorem by3 : ∀ b, b < 5 → ∀ p, p < 5 → ∀ q, q < 5 → ((q * 16 + p) + q + 16 * b) &&& 15 = ((q * 16 + p) + q) &&& 15 := by decide +kernel
def f1 (a M : Nat) : Nat := a / 2 &&& M
def f2 (a M : Nat) : Nat := (a &&& M) + (a / 4 &&& M)
def f3 (a M : Nat) : Nat := (a + a / 16) &&& M
theorem f1_s {lo hi M : Nat} (h : lo < 256) : f1 (256 * hi + lo) (256 * M + 85) = 256 * f1 hi M + f1 lo 85 := by
  unfold f1
  have e : (256 * hi + lo) / 2 = 2 ^ 8 * (hi / 2) + (lo / 2 + 128 * (hi % 2)) := by omega
  have := and_split (k := 8) (x := lo / 2 + 128 * (hi % 2)) (y := 85) (p := hi / 2) (q := M) (by omega) (by omega)
  rw [e]
  rw [by1 (hi % 2) (by omega) lo h] at this
  exact this
theorem f2_s {lo hi M : Nat} (h : lo < 256) : f2 (256 * hi + lo) (256 * M + 51) = 256 * f2 hi M + f2 lo 51 := by
  unfold f2
  have e : (256 * hi + lo) / 4 = 2 ^ 8 * (hi / 4) + (lo / 4 + 64 * (hi % 4)) := by omega
  have h1 := and_split (k := 8) (x := lo / 4 + 64 * (hi % 4)) (y := 51) (p := hi / 4) (q := M) (by omega) (by omega)
  have h2 := and_split (k := 8) (x := lo) (y := 51) (p := hi) (q := M) (by omega) (by omega)
  rw [by2 (hi % 4) (by omega) lo h] at h1
  rw [e]
  have h1' : (2 ^ 8 * (hi / 4) + (lo / 4 + 64 * (hi % 4))) &&& (256 * M + 51) = 256 * (hi / 4 &&& M) + (lo / 4 &&& 51) := h1
  have h2' : (256 * hi + lo) &&& (256 * M + 51) = 256 * (hi &&& M) + (lo &&& 51) := h2
  rw [h1', h2']
  omega
theorem f3_s {lo hi M : Nat} (h : lo < 256) (h1 : lo % 16 < 5) (h2 : lo / 16 < 5) (h3 : hi % 16 < 5) : f3 (256 * hi + lo) (256 * M + 15) = 256 * f3 hi M + f3 lo 15 := by
  unfold f3
  have e : (256 * hi + lo) + (256 * hi + lo) / 16 = 2 ^ 8 * (hi + hi / 16) + (lo + lo / 16 + 16 * (hi % 16)) := by omega
  have h4 := and_split (k := 8) (x := lo + lo / 16 + 16 * (hi % 16)) (y := 15) (p := hi + hi / 16) (q := M) (by omega) (by omega)
  have h5 := by3 (hi % 16) h3 (lo % 16) h1 (lo / 16) h2
  rw [show lo / 16 * 16 + lo % 16 = lo by omega] at h5
  rw [h5] at h4
  rw [e]
  exact h4
def g1 (a M : Nat) : Nat := a - f1 a M
theorem byb : ∀ lo, lo < 256 → f1 lo 85 ≤ lo ∧ f2 (g1 lo 85) 51 % 16 < 5 ∧ f2 (g1 lo 85) 51 / 16 < 5 ∧ f3 (f2 (g1 lo 85) 51) 15 = fb_ct lo.testBit 8 := by decide +kernel
theorem f1_le (a M : Nat) : f1 a M ≤ a := Nat.le_trans Nat.and_le_left (by omega)
theorem g1_s {lo hi M : Nat} (h : lo < 256) : g1 (256 * hi + lo) (256 * M + 85) = 256 * g1 hi M + g1 lo 85 := by
  unfold g1
  have h1 := f1_le hi M
  have h2 := f1_le lo 85
  rw [f1_s h]
  omega
theorem g1_lt {lo : Nat} (h : lo < 256) : g1 lo 85 < 256 := by unfold g1; omega
theorem ct_byte (a : Nat) (n : Nat) : fb_ct a.testBit (8 + n) = fb_ct (a % 256).testBit 8 + fb_ct (a / 256).testBit n := by
  rw [fb_ct_split]
  congr 1
  · refine fb_ct_cong (fun k hk => ?_)
    rw [show (256 : Nat) = 2 ^ 8 from rfl, Nat.testBit_mod_two_pow]
    simp [hk]
  · refine fb_ct_cong (fun k hk => ?_)
    rw [show (256 : Nat) = 2 ^ 8 from rfl, Nat.testBit_div_two_pow, Nat.add_comm]
theorem fin4 {q0 q1 q2 q3 D E F : Nat} (h0 : q0 ≤ 8) (h1 : q1 ≤ 8) (h2 : q2 ≤ 8) (h3 : q3 ≤ 8) (hD : D = 256 * (256 * (256 * q3 + q2) + q1) + q0) (hE : E = D / 256) (hF : F = (D + E) / 65536) : (D + E + F) % 64 = q0 + (q1 + (q2 + q3)) := by
  have e1 : E = 65536 * q3 + 256 * q2 + q1 := by omega
  have e2 : D + E = 65536 * (256 * q3 + q2 + q3) + (256 * (q1 + q2) + (q0 + q1)) := by omega
  have e3 : F = 256 * q3 + q2 + q3 := by omega
  omega
theorem bcN {a : Nat} (h : a < 2 ^ 32) : ∃ d, f3 (f2 (g1 a 1431655765) 858993459) 252645135 = d ∧ d < 2 ^ 32 ∧ f2 (g1 a 1431655765) 858993459 < 2 ^ 31 ∧ ((d + d / 256) + (d + d / 256) / 65536) % 64 = fb_ct a.testBit 32 ∧ d < 2 ^ 28 := by
  obtain ⟨p0, hp0⟩ : ∃ p, p = a % 256 := ⟨_, rfl⟩
  obtain ⟨p1, hp1⟩ : ∃ p, p = a / 256 % 256 := ⟨_, rfl⟩
  obtain ⟨p2, hp2⟩ : ∃ p, p = a / 65536 % 256 := ⟨_, rfl⟩
  obtain ⟨p3, hp3⟩ : ∃ p, p = a / 16777216 := ⟨_, rfl⟩
  have ea : a = 256 * (256 * (256 * p3 + p2) + p1) + p0 := by omega
  have l0 : p0 < 256 := by omega
  have l1 : p1 < 256 := by omega
  have l2 : p2 < 256 := by omega
  have l3 : p3 < 256 := by omega
  have c32 : fb_ct a.testBit 32 = fb_ct p0.testBit 8 + (fb_ct p1.testBit 8 + (fb_ct p2.testBit 8 + fb_ct p3.testBit 8)) := by
    rw [show (32 : Nat) = 8 + 24 from rfl, ct_byte a 24, show (24 : Nat) = 8 + 16 from rfl, ct_byte (a / 256) 16, show (16 : Nat) = 8 + 8 from rfl, ct_byte (a / 256 / 256) 8]
    rw [show a / 256 / 256 / 256 = p3 by omega, show a / 256 / 256 % 256 = p2 by omega, ← hp0, ← hp1]
  obtain ⟨a0, b0, d0, e0⟩ := byb p0 l0
  obtain ⟨a1, b1, d1, e1⟩ := byb p1 l1
  obtain ⟨a2, b2, d2, e2⟩ := byb p2 l2
  obtain ⟨a3, b3, d3, e3⟩ := byb p3 l3
  have k0 := fb_ct_le p0.testBit 8
  have k1 := fb_ct_le p1.testBit 8
  have k2 := fb_ct_le p2.testBit 8
  have k3 := fb_ct_le p3.testBit 8
  have s1 : g1 a 1431655765 = 256 * (256 * (256 * g1 p3 85 + g1 p2 85) + g1 p1 85) + g1 p0 85 := by
    have q1 := g1_s (lo := p0) (hi := 256 * (256 * p3 + p2) + p1) (M := 5592405) l0
    have q2 := g1_s (lo := p1) (hi := 256 * p3 + p2) (M := 21845) l1
    have q3 := g1_s (lo := p2) (hi := p3) (M := 85) l2
    rw [ea]
    show g1 (256 * (256 * (256 * p3 + p2) + p1) + p0) (256 * 5592405 + 85) = _
    rw [q1]
    show 256 * g1 (256 * (256 * p3 + p2) + p1) (256 * 21845 + 85) + _ = _
    rw [q2]
    show 256 * (256 * g1 (256 * p3 + p2) (256 * 85 + 85) + _) + _ = _
    rw [q3]
  have m0 := g1_lt l0
  have m1 := g1_lt l1
  have m2 := g1_lt l2
  have m3 := g1_lt l3
  have s2 : f2 (g1 a 1431655765) 858993459 = 256 * (256 * (256 * f2 (g1 p3 85) 51 + f2 (g1 p2 85) 51) + f2 (g1 p1 85) 51) + f2 (g1 p0 85) 51 := by
    rw [s1]
    show f2 _ (256 * 3355443 + 51) = _
    rw [f2_s m0]
    show 256 * f2 _ (256 * 13107 + 51) + _ = _
    rw [f2_s m1]
    show 256 * (256 * f2 _ (256 * 51 + 51) + _) + _ = _
    rw [f2_s m2]
  have s3 : f3 (f2 (g1 a 1431655765) 858993459) 252645135 = 256 * (256 * (256 * fb_ct p3.testBit 8 + fb_ct p2.testBit 8) + fb_ct p1.testBit 8) + fb_ct p0.testBit 8 := by
    rw [s2]
    show f3 _ (256 * 986895 + 15) = _
    rw [f3_s (by omega) b0 d0 (by omega)]
    show 256 * f3 _ (256 * 3855 + 15) + _ = _
    rw [f3_s (by omega) b1 d1 (by omega)]
    show 256 * (256 * f3 _ (256 * 15 + 15) + _) + _ = _
    rw [f3_s (by omega) b2 d2 (by omega), e0, e1, e2, e3]
  refine ⟨_, rfl, ?_, ?_, ?_, ?_⟩
  · rw [s3]; omega
  · rw [s2]; omega
  · rw [s3, c32]; exact fin4 k0 k1 k2 k3 rfl rfl rfl
  · rw [s3]; omega
theorem us_k : ∀ k, k < 32 → ((((nI k).toUInt32 &&& Int32.toUInt32 31).toBitVec % 32).toNat = k) := s_u
theorem bitc_sp (x : Int32) {post : Int32 → Prop} (h : post (nI (fb_ct (bt x) 32))) : wp_J6_bitCount_0f7a4 x post := by
  obtain ⟨a, ha, rfl⟩ : ∃ a, a < 2 ^ 32 ∧ x = nI a := ⟨x.toBitVec.toNat, x.toBitVec.isLt, by apply Int32.toBitVec_inj.mp; show x.toBitVec = BitVec.ofNat 32 x.toBitVec.toNat; rw [BitVec.ofNat_toNat, BitVec.setWidth_eq]⟩
  rw [fb_ct_cong (fun k hk => bt_nI hk)] at h
  obtain ⟨d, hd, d1, d2, d3, d4⟩ := bcN ha
  have l1 := f1_le a 1431655765
  have lg : g1 a 1431655765 < 2 ^ 32 := by unfold g1; omega
  unfold wp_J6_bitCount_0f7a4
  intro v1 e1 v3 e3 v5 e5 v7 e7 v9 e9
  have w1 : v1 = nI (g1 a 1431655765) := by
    rw [e1, pk_ushrN ha (1 : Int32) 1 (us_k 1 (by omega)), show (1431655765 : Int32) = nI 1431655765 from rfl, fa_and]
    exact pk_sub (a := a) (b := f1 a 1431655765) l1
  have w3 : v3 = nI (f2 (g1 a 1431655765) 858993459) := by
    rw [e3, w1, pk_ushrN lg (2 : Int32) 2 (us_k 2 (by omega)), show (858993459 : Int32) = nI 858993459 from rfl, fa_and, fa_and, nI_add]
    rfl
  have w5 : v5 = nI d := by
    rw [e5, w3, pk_ushrN (by omega) (4 : Int32) 4 (us_k 4 (by omega)), show (252645135 : Int32) = nI 252645135 from rfl, nI_add, fa_and, ← hd]
    rfl
  have w7 : v7 = nI (d + d / 256) := by
    rw [e7, w5, pk_ushrN (by omega) (8 : Int32) 8 (us_k 8 (by omega)), nI_add]
  have w9 : v9 = nI ((d + d / 256) + (d + d / 256) / 65536) := by
    rw [e9, w7, pk_ushrN (by omega) (16 : Int32) 16 (us_k 16 (by omega)), nI_add]
  have w : v9 &&& (63 : Int32) = nI (((d + d / 256) + (d + d / 256) / 65536) % 64) := by
    rw [w9]
    exact fa_mask _ 6
  rw [w, d3]
  exact h
/-- small numbers -/
theorem bitc_n {a : Nat} (ha : a < 256) {post : Int32 → Prop} (h : post (nI (fb_ct a.testBit 8))) : wp_J6_bitCount_0f7a4 (nI a) post := by
  refine bitc_sp _ ?_
  rw [fb_ct_cong (fun k hk => bt_nI hk), show (32 : Nat) = 8 + 24 from rfl, ct_byte a 24, Nat.mod_eq_of_lt ha, Nat.div_eq_of_lt ha]
  have z : fb_ct (0 : Nat).testBit 24 = 0 := by decide +kernel
  rw [z]
  exact h
