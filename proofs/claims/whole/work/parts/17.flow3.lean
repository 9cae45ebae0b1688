theorem nf_f : (!false) = true := by decide
theorem nf_ft : (!false && true) = true := by decide
theorem nf_tf : (true && !false) = true := by decide
section CF
variable {x y n : Nat} {f g : Nat → Int64}
theorem Ivs_lt {v s : Nat} (hn : n < 8) (hv : v < n + 2) (hs : s < 2 ^ (n + 1)) (hc : ccd (n + 1) v s = true) : Ivs (n + 1) v s < 2 ^ (n + 1) := by
  have h := bj2 n hn v hv s hs hc
  simp only [Bool.and_eq_true, decide_eq_true_eq] at h
  exact h.1.1
theorem cfl63 {s a0 : Nat} (hx : x ≤ 9) (hy : y ≤ 9) (hn : n < 8) (hs : s < 2 ^ (n + 1)) (hT : TC f g x y) {k : Int64 → Int32 → Prop} (hk : ∀ z, k (lN (a0 + fb_sm (Tv x y (n + 1) s) n)) z) : ∀ m v, v ≤ n → n - v < m → wl_X0_flowInto_63 (nI s) (nI (n + 1), nI x, nI y, f, g) m (lN (a0 + fb_sm (Tv x y (n + 1) s) v)) (nI v) k := by
  have hp : 2 ^ (n + 1) ≤ 256 := pow8 (by omega)
  intro m
  induction m with
  | zero => intro v _ h; omega
  | succ m ih =>
    intro v hv hm
    unfold wl_X0_flowInto_63
    dsimp only
    rw [nI_pred, nI_leI (by omega) (by omega)]
    refine ⟨fun q => ?_, fun q => ?_⟩
    · obtain rfl : v = n := by omega
      exact hk _
    · have hc : ccd (n + 1) v s = (!s.testBit v && s.testBit (v + 1)) := by rw [ccd, if_neg (by omega), if_neg (by omega)]
      have hnx := ih (v + 1) (by omega) (by omega)
      rw [fb_sm_succ, Tv, hc, Ivs, if_neg (show ¬ v = n + 1 by omega), if_neg (show ¬ v + 1 = n + 1 by omega), rt, if_neg (show ¬ v = n + 1 by omega), if_neg (show ¬ v + 1 = n + 1 by omega)] at hnx
      rw [nI_1]
      cases h0 : s.testBit v
      · refine isTaken_f (by omega) (by omega) h0 ⟨fun q => absurd rfl q, fun _ => ?_⟩
        cases h1 : s.testBit (v + 1)
        · refine isTaken_f (by omega) (by omega) h1 ⟨fun _ => ?_, fun q => absurd rfl q⟩
          rw [h0, h1] at hnx
          exact hnx
        · refine isTaken_t (by omega) (by omega) h1 ⟨fun q => absurd q z10, fun _ => ?_⟩
          have hcc : ccd (n + 1) v s = true := by rw [hc, h0, h1]; rfl
          have hlt := Ivs_lt hn (by omega) hs hcc
          rw [Ivs, if_neg (show ¬ v = n + 1 by omega), if_neg (show ¬ v + 1 = n + 1 by omega)] at hlt
          rw [iv_a v (by omega) s (by omega) (by rw [h0, h1]; rfl)]
          refine cwt_sp rfl rfl hT (by omega) hlt ?_
          unfold wp_X0_rateOfStep
          dsimp only
          rw [nI_l (by omega), nI_l (by omega), lN_mul, lN_mul, lN_add]
          rw [h0, h1, if_pos nf_ft, ← Nat.add_assoc] at hnx
          exact hnx
      · refine isTaken_t (by omega) (by omega) h0 ⟨fun _ => ?_, fun q => absurd q z10⟩
        rw [h0] at hnx
        exact hnx
theorem cfin_sp {s : Nat} (hx : x ≤ 9) (hy : y ≤ 9) (hn : n < 8) (hs : s < 2 ^ (n + 1)) (hT : TC f g x y) {post : Int64 → Prop} (h : post (lN (fb_sm (Tv x y (n + 1) s) (n + 2)))) : wp_X0_flowInto (nI s) (nI (n + 1), nI x, nI y, f, g) post := by
  have hp : 2 ^ (n + 1) ≤ 256 := pow8 (by omega)
  have hc1 : ccd (n + 1) (n + 1) s = s.testBit 0 := by rw [ccd, if_pos rfl]
  have hc0 : ccd (n + 1) n s = !s.testBit n := by rw [ccd, if_neg (by omega), if_pos rfl]
  have hT1 : Tv x y (n + 1) s (n + 1) = if s.testBit 0 = true then WT x y (n + 1) (s - 1) * y else 0 := by rw [Tv, hc1, Ivs, if_pos (rfl : n + 1 = n + 1), rt, if_pos (rfl : n + 1 = n + 1)]
  have hT0 : Tv x y (n + 1) s n = if (!s.testBit n) = true then WT x y (n + 1) (s + 2 ^ n) * x else 0 := by rw [Tv, hc0, Ivs, if_neg (show ¬ n = n + 1 by omega), if_pos (rfl : n + 1 = n + 1), rt, if_neg (show ¬ n = n + 1 by omega), if_pos (rfl : n + 1 = n + 1)]
  have hk : ∀ a0, a0 = Tv x y (n + 1) s (n + 1) + Tv x y (n + 1) s n → wl_X0_flowInto_63 (nI s) (nI (n + 1), nI x, nI y, f, g) 20000 (lN a0) (0 : Int32) (fun r _ => post r) := by
    intro a0 ha
    refine cfl63 (a0 := a0) hx hy hn hs hT (fun _ => ?_) 20000 0 (by omega) (by omega)
    rw [fb_sm_succ, fb_sm_succ] at h
    rw [ha, show Tv x y (n + 1) s (n + 1) + Tv x y (n + 1) s n + fb_sm (Tv x y (n + 1) s) n = fb_sm (Tv x y (n + 1) s) n + Tv x y (n + 1) s n + Tv x y (n + 1) s (n + 1) by omega]
    exact h
  unfold wp_X0_flowInto wp_X0_rateIn wp_X0_rateOut
  dsimp only
  rw [nI_pred]
  have top : s.testBit n = false → s + 2 ^ n < 2 ^ (n + 1) := fun h1 => by
    have hlt := Ivs_lt (v := n) hn (by omega) hs (by rw [hc0, h1]; rfl)
    rw [Ivs, if_neg (by omega), if_pos rfl] at hlt
    exact hlt
  cases h0 : s.testBit 0
  · rw [h0, if_neg (by decide)] at hT1
    refine isTaken_f (i := 0) (by omega) (by omega) h0 ⟨fun _ => ?_, fun q => absurd rfl q⟩
    cases h1 : s.testBit n
    · rw [h1, if_pos nf_f] at hT0
      refine isTaken_f (by omega) (by omega) h1 ⟨fun q => absurd rfl q, fun _ => ?_⟩
      rw [iv_b n (by omega) s (by omega) h1]
      refine cwt_sp rfl rfl hT (by omega) (top h1) ?_
      rw [nI_l (by omega), lN_mul, show (0 : Int64) = lN 0 from rfl, lN_add]
      exact hk _ (by omega)
    · rw [h1, if_neg (by decide)] at hT0
      refine isTaken_t (by omega) (by omega) h1 ⟨fun _ => ?_, fun q => absurd q z10⟩
      exact hk 0 (by omega)
  · rw [h0, if_pos rfl] at hT1
    refine isTaken_t (i := 0) (by omega) (by omega) h0 ⟨fun q => absurd q z10, fun _ => ?_⟩
    rw [iv_c s (by omega) h0]
    refine cwt_sp rfl rfl hT (by omega) (by omega) ?_
    cases h1 : s.testBit n
    · rw [h1, if_pos nf_f] at hT0
      refine isTaken_f (by omega) (by omega) h1 ⟨fun q => absurd rfl q, fun _ => ?_⟩
      rw [iv_b n (by omega) s (by omega) h1]
      refine cwt_sp rfl rfl hT (by omega) (top h1) ?_
      rw [nI_l (by omega), nI_l (by omega), lN_mul, lN_mul, show (0 : Int64) = lN 0 from rfl, lN_add, lN_add]
      exact hk _ (by omega)
    · rw [h1, if_neg (by decide)] at hT0
      refine isTaken_t (by omega) (by omega) h1 ⟨fun _ => ?_, fun q => absurd q z10⟩
      rw [nI_l (by omega), lN_mul, show (0 : Int64) = lN 0 from rfl, lN_add]
      exact hk _ (by omega)
theorem cfl40 {s a0 : Nat} (hx : x ≤ 9) (hy : y ≤ 9) (hn : n < 8) (hs : s < 2 ^ (n + 1)) {k : Int64 → Int32 → Prop} (hk : ∀ z, k (lN (a0 + fb_sm (Hv x y (n + 1) s) n)) z) : ∀ m v, v ≤ n → n - v < m → wl_X0_flowOutOf_40 (nI s) (nI (n + 1), nI x, nI y, f, g) m (lN (a0 + fb_sm (Hv x y (n + 1) s) v)) (nI v) k := by
  have hp : 2 ^ (n + 1) ≤ 256 := pow8 (by omega)
  intro m
  induction m with
  | zero => intro v _ h; omega
  | succ m ih =>
    intro v hv hm
    unfold wl_X0_flowOutOf_40
    dsimp only
    rw [nI_pred, nI_leI (by omega) (by omega)]
    refine ⟨fun q => ?_, fun q => ?_⟩
    · obtain rfl : v = n := by omega
      exact hk _
    · have hc : hcd (n + 1) v s = (s.testBit v && !s.testBit (v + 1)) := by rw [hcd, if_neg (by omega), if_neg (by omega)]
      have hnx := ih (v + 1) (by omega) (by omega)
      rw [fb_sm_succ, Hv, hc, rt, if_neg (show ¬ v = n + 1 by omega), if_neg (show ¬ v + 1 = n + 1 by omega)] at hnx
      rw [nI_1]
      cases h0 : s.testBit v
      · refine isTaken_f (by omega) (by omega) h0 ⟨fun _ => ?_, fun q => absurd rfl q⟩
        rw [h0] at hnx
        exact hnx
      · refine isTaken_t (by omega) (by omega) h0 ⟨fun q => absurd q z10, fun _ => ?_⟩
        cases h1 : s.testBit (v + 1)
        · refine isTaken_f (by omega) (by omega) h1 ⟨fun q => absurd rfl q, fun _ => ?_⟩
          unfold wp_X0_rateOfStep
          dsimp only
          rw [nI_l (by omega), nI_l (by omega), lN_mul, lN_add]
          rw [h0, h1, if_pos nf_tf, ← Nat.add_assoc] at hnx
          exact hnx
        · refine isTaken_t (by omega) (by omega) h1 ⟨fun _ => ?_, fun q => absurd q z10⟩
          rw [h0, h1] at hnx
          exact hnx
theorem cfout_sp {s : Nat} (hx : x ≤ 9) (hy : y ≤ 9) (hn : n < 8) (hs : s < 2 ^ (n + 1)) (hT : TC f g x y) {post : Int64 → Prop} (h : post (lN (WT x y (n + 1) s * fb_sm (Hv x y (n + 1) s) (n + 2)))) : wp_X0_flowOutOf (nI s) (nI (n + 1), nI x, nI y, f, g) post := by
  have hp : 2 ^ (n + 1) ≤ 256 := pow8 (by omega)
  have hT1 : Hv x y (n + 1) s (n + 1) = if (!s.testBit 0) = true then y else 0 := by rw [Hv, hcd, if_pos (rfl : n + 1 = n + 1), rt, if_pos (rfl : n + 1 = n + 1)]
  have hT0 : Hv x y (n + 1) s n = if s.testBit n = true then x else 0 := by rw [Hv, hcd, if_neg (show ¬ n = n + 1 by omega), if_pos (rfl : n + 1 = n + 1), rt, if_neg (show ¬ n = n + 1 by omega), if_pos (rfl : n + 1 = n + 1)]
  have hk : ∀ a0, a0 = Hv x y (n + 1) s (n + 1) + Hv x y (n + 1) s n → wl_X0_flowOutOf_40 (nI s) (nI (n + 1), nI x, nI y, f, g) 20000 (lN a0) (0 : Int32) (fun r _ => wp_X0_weightOf (nI s) (nI (n + 1), nI x, nI y, f, g) (fun r2 => post (r2 * r))) := by
    intro a0 ha
    refine cfl40 (a0 := a0) hx hy hn hs (fun _ => ?_) 20000 0 (by omega) (by omega)
    refine cwt_sp rfl rfl hT (by omega) hs ?_
    rw [fb_sm_succ, fb_sm_succ] at h
    rw [lN_mul, ha, show Hv x y (n + 1) s (n + 1) + Hv x y (n + 1) s n + fb_sm (Hv x y (n + 1) s) n = fb_sm (Hv x y (n + 1) s) n + Hv x y (n + 1) s n + Hv x y (n + 1) s (n + 1) by omega]
    exact h
  unfold wp_X0_flowOutOf wp_X0_rateIn wp_X0_rateOut
  dsimp only
  rw [nI_pred]
  cases h0 : s.testBit 0
  · rw [h0, if_pos nf_f] at hT1
    refine isTaken_f (i := 0) (by omega) (by omega) h0 ⟨fun q => absurd rfl q, fun _ => ?_⟩
    cases h1 : s.testBit n
    · rw [h1, if_neg (by decide)] at hT0
      refine isTaken_f (by omega) (by omega) h1 ⟨fun _ => ?_, fun q => absurd rfl q⟩
      rw [nI_l (by omega), show (0 : Int64) = lN 0 from rfl, lN_add]
      exact hk _ (by omega)
    · rw [h1, if_pos rfl] at hT0
      refine isTaken_t (by omega) (by omega) h1 ⟨fun q => absurd q z10, fun _ => ?_⟩
      rw [nI_l (by omega), nI_l (by omega), show (0 : Int64) = lN 0 from rfl, lN_add, lN_add]
      exact hk _ (by omega)
  · rw [h0, if_neg (by decide)] at hT1
    refine isTaken_t (i := 0) (by omega) (by omega) h0 ⟨fun _ => ?_, fun q => absurd q z10⟩
    cases h1 : s.testBit n
    · rw [h1, if_neg (by decide)] at hT0
      refine isTaken_f (by omega) (by omega) h1 ⟨fun _ => ?_, fun q => absurd rfl q⟩
      exact hk 0 (by omega)
    · rw [h1, if_pos rfl] at hT0
      refine isTaken_t (by omega) (by omega) h1 ⟨fun q => absurd q z10, fun _ => ?_⟩
      rw [nI_l (by omega), show (0 : Int64) = lN 0 from rfl, lN_add]
      exact hk _ (by omega)
end CF
