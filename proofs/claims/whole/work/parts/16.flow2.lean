def hcd (n v s : Nat) : Bool := if v = n then !s.testBit 0 else if v + 1 = n then s.testBit v else s.testBit v && !s.testBit (v + 1)
def ccd (n v s : Nat) : Bool := if v = n then s.testBit 0 else if v + 1 = n then !s.testBit v else !s.testBit v && s.testBit (v + 1)
def Lto (n v s : Nat) : Nat := if v = n then s + 1 else if v + 1 = n then s - 2 ^ v else s + 2 ^ v
def Ivs (n v s : Nat) : Nat := if v = n then s - 1 else if v + 1 = n then s + 2 ^ v else s - 2 ^ v
def rt (x y n v : Nat) : Nat := if v = n then y else if v + 1 = n then x else x * y
theorem lt_a : ∀ v, v < 8 → ∀ s, s < 256 → (s.testBit v && !s.testBit (v + 1)) = true → ((nI s &&& (((1 : Int32) <<< (nI v &&& (31 : Int32))) ^^^ (-1 : Int32))) ||| ((1 : Int32) <<< ((nI v + (1 : Int32)) &&& (31 : Int32)))) = nI (s + 2 ^ v) := by decide +kernel
theorem lt_b : ∀ v, v < 8 → ∀ s, s < 256 → s.testBit v = true → (nI s &&& (((1 : Int32) <<< (nI v &&& (31 : Int32))) ^^^ (-1 : Int32))) = nI (s - 2 ^ v) := by decide +kernel
theorem lt_c : ∀ s, s < 256 → s.testBit 0 = false → (nI s ||| (1 : Int32)) = nI (s + 1) := by decide +kernel
theorem iv_a : ∀ v, v < 8 → ∀ s, s < 256 → (!s.testBit v && s.testBit (v + 1)) = true → (nI s ^^^ ((3 : Int32) <<< (nI v &&& (31 : Int32)))) = nI (s - 2 ^ v) := by decide +kernel
theorem iv_b : ∀ v, v < 8 → ∀ s, s < 256 → s.testBit v = false → (nI s ^^^ ((1 : Int32) <<< (nI v &&& (31 : Int32)))) = nI (s + 2 ^ v) := by decide +kernel
theorem iv_c : ∀ s, s < 256 → s.testBit 0 = true → (nI s ^^^ (1 : Int32)) = nI (s - 1) := by decide +kernel
theorem bj1 : ∀ n, n < 8 → ∀ v, v < n + 2 → ∀ s, s < 2 ^ (n + 1) → hcd (n + 1) v s = true → (decide (Lto (n + 1) v s < 2 ^ (n + 1)) && ccd (n + 1) v (Lto (n + 1) v s) && decide (Ivs (n + 1) v (Lto (n + 1) v s) = s)) = true := by decide +kernel
theorem bj2 : ∀ n, n < 8 → ∀ v, v < n + 2 → ∀ s, s < 2 ^ (n + 1) → ccd (n + 1) v s = true → (decide (Ivs (n + 1) v s < 2 ^ (n + 1)) && hcd (n + 1) v (Ivs (n + 1) v s) && decide (Lto (n + 1) v (Ivs (n + 1) v s) = s)) = true := by decide +kernel
theorem tb3 {s v : Nat} : s / 2 ^ v % 4 = 1 ↔ (s.testBit v && !s.testBit (v + 1)) = true := by
  have ep : s / 2 ^ (v + 1) = s / 2 ^ v / 2 := by rw [Nat.pow_succ, Nat.div_div_eq_div_mul]
  simp only [tb_eq, ep, Bool.and_eq_true, Bool.not_eq_true', decide_eq_true_eq, decide_eq_false_iff_not]
  omega
theorem sm_zero {f : Nat → Nat} : ∀ {N : Nat}, (∀ k, k < N → f k = 0) → fb_sm f N = 0
  | 0, _ => rfl
  | N + 1, h => by rw [fb_sm_succ, sm_zero (fun k hk => h k (by omega)), h N (by omega)]
theorem sm_one {f : Nat → Nat} {a : Nat} : ∀ {N : Nat}, a < N → (∀ k, k < N → k ≠ a → f k = 0) → fb_sm f N = f a
  | 0, h, _ => by omega
  | N + 1, h, h2 => by
    rw [fb_sm_succ]
    by_cases e : a = N
    · subst e; rw [sm_zero (fun k hk => h2 k (by omega) (by omega)), Nat.zero_add]
    · rw [sm_one (by omega) (fun k hk hne => h2 k (by omega) hne), h2 N (by omega) (fun q => e q.symm), Nat.add_zero]
def tm (x y n v s : Nat) (fr : Nat) : Nat := if hcd n v fr = true ∧ Lto n v fr = s then WT x y n fr * rt x y n v else 0
def Tv (x y n s : Nat) (v : Nat) : Nat := if ccd n v s = true then WT x y n (Ivs n v s) * rt x y n v else 0
theorem tm_all {x y n v s : Nat} (hn : n < 8) (hv : v < n + 2) (hs : s < 2 ^ (n + 1)) : fb_sm (tm x y (n + 1) v s) (2 ^ (n + 1)) = Tv x y (n + 1) s v := by
  unfold Tv
  by_cases hc : ccd (n + 1) v s = true
  · have h2 := bj2 n hn v hv s hs hc
    simp only [Bool.and_eq_true, decide_eq_true_eq] at h2
    obtain ⟨⟨a1, a2⟩, a3⟩ := h2
    rw [if_pos hc, sm_one a1 (fun k hk hne => ?_)]
    · unfold tm; rw [if_pos ⟨a2, a3⟩]
    · unfold tm
      rw [if_neg]
      rintro ⟨b1, b2⟩
      have h1 := bj1 n hn v hv k hk b1
      simp only [Bool.and_eq_true, decide_eq_true_eq] at h1
      rw [b2] at h1
      exact hne h1.2.symm
  · rw [if_neg hc]
    refine sm_zero (fun k hk => ?_)
    unfold tm
    rw [if_neg]
    rintro ⟨b1, b2⟩
    have h1 := bj1 n hn v hv k hk b1
    simp only [Bool.and_eq_true, decide_eq_true_eq] at h1
    rw [b2] at h1
    exact hc h1.1.2
section HP
variable {x y n : Nat} {m : Nat → Int64} {pl op : Int32} {sd : Int64} {so be : Nat → Int32} {i1 o1 mv ldt : Int32}
theorem happens_sp {v s : Nat} (hx : x ≤ 9) (hy : y ≤ 9) (hn : n < 8) (hv : v < n + 2) (hs : s < 2 ^ (n + 1)) {post : Int64 → SM → Prop} (h1 : hcd (n + 1) v s = true → post (lN (rt x y (n + 1) v)) (nI (n + 1), nI x, nI y, m, pl, op, sd, so, be, i1, o1, mv, nI (Lto (n + 1) v s))) (h0 : hcd (n + 1) v s = false → ∀ z, post 0 (nI (n + 1), nI x, nI y, m, pl, op, sd, so, be, i1, o1, mv, z)) : wp_X4_happens (nI s) (nI v) (nI (n + 1), nI x, nI y, m, pl, op, sd, so, be, i1, o1, mv, ldt) post := by
  have hp : 2 ^ (n + 1) ≤ 256 := pow8 (by omega)
  have e3 : (nI s >>> (nI v &&& (31 : Int32))) &&& (3 : Int32) = nI (s / 2 ^ v % 4) := by
    rw [shr_n (by omega) (by omega)]
    exact fa_mask (s / 2 ^ v) 2
  have e31 : (nI (s / 2 ^ v % 4) = (1 : Int32)) ↔ s / 2 ^ v % 4 = 1 := nI_eq (a := s / 2 ^ v % 4) (b := 1) (by omega) (by omega)
  have e0 : (nI s &&& (1 : Int32)) = nI (s % 2) := fa_mask s 1
  have e00 : (nI (s % 2) = 0) ↔ s % 2 = 0 := nI_eq (a := s % 2) (b := 0) (by omega) (by omega)
  have t0 : s.testBit 0 = decide (s % 2 = 1) := by rw [tb_eq]; simp
  unfold wp_X4_happens
  dsimp only
  rw [nI_pred, nI_eq (by omega) (by omega), nI_eq (by omega) (by omega), e3, e31, tb3, tb_1 (by omega) (by omega), e0, e00]
  refine ⟨fun q1 => ⟨fun q2 => ⟨fun q3 => ?_, fun q3 => ?_⟩, fun q2 => ⟨fun q3 => ?_, fun q3 => ?_⟩⟩, fun q1 => ⟨fun q3 => ?_, fun q3 => ?_⟩⟩
  · have hh : hcd (n + 1) v s = false := by rw [hcd, if_neg q1, if_neg (by omega)]; simpa using q3
    exact h0 hh _
  · have hh : hcd (n + 1) v s = true := by rw [hcd, if_neg q1, if_neg (by omega)]; exact q3
    have h2 := h1 hh
    rw [rt, if_neg q1, if_neg (by omega), Lto, if_neg q1, if_neg (by omega)] at h2
    rw [lt_a v (by omega) s (by omega) q3, nI_l (by omega), nI_l (by omega), lN_mul]
    exact h2
  · subst q2
    have hh : hcd (v + 1) v s = false := by rw [hcd, if_neg q1, if_pos rfl]; simpa using q3
    exact h0 hh _
  · subst q2
    have hh : hcd (v + 1) v s = true := by rw [hcd, if_neg q1, if_pos rfl]; exact q3
    have h2 := h1 hh
    rw [rt, if_neg q1, if_pos rfl, Lto, if_neg q1, if_pos rfl] at h2
    rw [lt_b v (by omega) s (by omega) q3, nI_l (by omega)]
    exact h2
  · have hh : hcd (n + 1) v s = false := by rw [hcd, if_pos q1, t0]; simp; omega
    exact h0 hh _
  · have hh : hcd (n + 1) v s = true := by rw [hcd, if_pos q1, t0]; simp; omega
    have h2 := h1 hh
    rw [rt, if_pos q1, Lto, if_pos q1] at h2
    rw [lt_c s (by omega) (by rw [t0]; simp; omega), nI_l (by omega)]
    exact h2
theorem mfl67 {v s : Nat} {w : Int32} (hx1 : 1 ≤ x) (hy1 : 1 ≤ y) (hx : x ≤ 9) (hy : y ≤ 9) (hn : n < 8) (hv : v < n + 2) (hs : s < 2 ^ (n + 1)) (hT : ∀ j, j ≤ 8 → MT m x y j) {a0 : Nat} {k : Int64 → Int32 → SM → Prop} (hk : ∀ z z2, k (lN (a0 + Tv x y (n + 1) s v)) z (nI (n + 1), nI x, nI y, m, pl, op, sd, so, be, i1, o1, mv, z2)) : ∀ f i ldt, i ≤ 2 ^ (n + 1) → 2 ^ (n + 1) - i < f → wl_X4_flow_67 (nI s) w (nI v) f (lN (a0 + fb_sm (tm x y (n + 1) v s) i)) (nI i) (nI (n + 1), nI x, nI y, m, pl, op, sd, so, be, i1, o1, mv, ldt) k := by
  have hp : 2 ^ (n + 1) ≤ 256 := pow8 (by omega)
  have hr : 0 < rt x y (n + 1) v ∧ rt x y (n + 1) v ≤ 81 := by
    unfold rt
    have h1 : 0 < x * y := Nat.mul_pos (by omega) (by omega)
    have h2 : x * y ≤ 9 * 9 := Nat.mul_le_mul hx hy
    split
    · omega
    · split <;> omega
  have er : (lN (rt x y (n + 1) v) ≤ (0 : Int64)) ↔ rt x y (n + 1) v ≤ 0 := pk_lLE (b := 0) (by omega) (by omega)
  intro f
  induction f with
  | zero => intro i ldt _ h; omega
  | succ f ih =>
    intro i ldt hi hf
    unfold wl_X4_flow_67
    dsimp only
    rw [sh1 (n + 1) (by omega), nI_leI (by omega) (by omega), nI_1]
    refine ⟨fun q => ?_, fun q => ?_⟩
    · obtain rfl : i = 2 ^ (n + 1) := by omega
      rw [tm_all hn hv hs]
      exact hk _ _
    · refine happens_sp hx hy hn hv (by omega) (fun hh => ?_) (fun hh z => ?_)
      · dsimp only
        rw [er]
        have hL := bj1 n hn v hv i (by omega) hh
        simp only [Bool.and_eq_true, decide_eq_true_eq] at hL
        rw [nI_eq (by omega) (by omega)]
        refine ⟨fun q => absurd q (by omega), fun _ => ⟨fun q2 => ?_, fun q2 => ?_⟩⟩
        · have := ih (i + 1) (nI (Lto (n + 1) v i)) (by omega) (by omega)
          rw [fb_sm_succ, tm, if_neg (fun z => q2 z.2), Nat.add_zero] at this
          rw [show (0 : Int64) = lN 0 from rfl, lN_add, Nat.add_zero]
          exact this
        · refine mwt_sp rfl hT (by omega) (by omega) ?_
          have := ih (i + 1) (nI (Lto (n + 1) v i)) (by omega) (by omega)
          rw [fb_sm_succ, tm, if_pos ⟨hh, q2⟩, ← Nat.add_assoc] at this
          rw [lN_mul, lN_add]
          exact this
      · refine ⟨fun _ => ?_, fun q => absurd (by decide) q⟩
        have := ih (i + 1) z (by omega) (by omega)
        rw [fb_sm_succ, tm, if_neg (fun z => by rw [hh] at z; exact absurd z.1 (by decide)), Nat.add_zero] at this
        rw [show (0 : Int64) = lN 0 from rfl, lN_add, Nat.add_zero]
        exact this
theorem mfl27i {s : Nat} {w : Int32} (hw : ¬ w = 1) (hx1 : 1 ≤ x) (hy1 : 1 ≤ y) (hx : x ≤ 9) (hy : y ≤ 9) (hn : n < 8) (hs : s < 2 ^ (n + 1)) (hT : ∀ j, j ≤ 8 → MT m x y j) {k : Int64 → Int32 → SM → Prop} (hk : ∀ z z2, k (lN (fb_sm (Tv x y (n + 1) s) (n + 2))) z (nI (n + 1), nI x, nI y, m, pl, op, sd, so, be, i1, o1, mv, z2)) : ∀ f v ldt, v ≤ n + 2 → n + 2 - v < f → wl_X4_flow_27 (nI s) w f (lN (fb_sm (Tv x y (n + 1) s) v)) (nI v) (nI (n + 1), nI x, nI y, m, pl, op, sd, so, be, i1, o1, mv, ldt) k := by
  have hp : 2 ^ (n + 1) ≤ 256 := pow8 (by omega)
  intro f
  induction f with
  | zero => intro v ldt _ h; omega
  | succ f ih =>
    intro v ldt hv hf
    unfold wl_X4_flow_27
    dsimp only
    rw [nI_ltI (by omega) (by omega)]
    refine ⟨fun q => ?_, fun q => ⟨fun _ => ?_, fun q => absurd q hw⟩⟩
    · obtain rfl : v = n + 2 := by omega
      exact hk _ _
    · refine mfl67 (a0 := fb_sm (Tv x y (n + 1) s) v) hx1 hy1 hx hy hn (by omega) hs hT (fun z z2 => ?_) 20000 0 ldt (Nat.zero_le _) (by omega)
      rw [nI_1, ← fb_sm_succ]
      exact ih (v + 1) z2 (by omega) (by omega)
def Hv (x y n s : Nat) (v : Nat) : Nat := if hcd n v s = true then rt x y n v else 0
theorem mfl27o {s : Nat} (hx : x ≤ 9) (hy : y ≤ 9) (hn : n < 8) (hs : s < 2 ^ (n + 1)) (hT : ∀ j, j ≤ 8 → MT m x y j) {k : Int64 → Int32 → SM → Prop} (hk : ∀ z z2, k (lN (WT x y (n + 1) s * fb_sm (Hv x y (n + 1) s) (n + 2))) z (nI (n + 1), nI x, nI y, m, pl, op, sd, so, be, i1, o1, mv, z2)) : ∀ f v ldt, v ≤ n + 2 → n + 2 - v < f → wl_X4_flow_27 (nI s) 1 f (lN (WT x y (n + 1) s * fb_sm (Hv x y (n + 1) s) v)) (nI v) (nI (n + 1), nI x, nI y, m, pl, op, sd, so, be, i1, o1, mv, ldt) k := by
  have hp : 2 ^ (n + 1) ≤ 256 := pow8 (by omega)
  intro f
  induction f with
  | zero => intro v ldt _ h; omega
  | succ f ih =>
    intro v ldt hv hf
    unfold wl_X4_flow_27
    dsimp only
    rw [nI_ltI (by omega) (by omega)]
    refine ⟨fun q => ?_, fun q => ⟨fun q => absurd rfl q, fun _ => ?_⟩⟩
    · obtain rfl : v = n + 2 := by omega
      exact hk _ _
    · refine mwt_sp rfl hT (by omega) hs (happens_sp hx hy hn (by omega) hs (fun hh => ?_) (fun hh z => ?_))
      · have := ih (v + 1) (nI (Lto (n + 1) v s)) (by omega) (by omega)
        rw [fb_sm_succ, Hv, if_pos hh, Nat.mul_add] at this
        rw [lN_mul, lN_add, nI_1]
        exact this
      · have := ih (v + 1) z (by omega) (by omega)
        rw [fb_sm_succ, Hv, if_neg (by rw [hh]; decide), Nat.add_zero] at this
        rw [show (0 : Int64) = lN 0 from rfl, lN_mul, lN_add, nI_1, Nat.mul_zero, Nat.add_zero]
        exact this
end HP
