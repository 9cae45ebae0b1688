/-! the calls of the chain, class beside reference -/
def RC (σ : SC) (τ : SM) : Prop := ∃ (n x y : Nat) (f g m : Nat → Int64) (r : Int32 × Int32 × Int64 × (Nat → Int32) × (Nat → Int32) × Int32 × Int32 × Int32 × Int32), n < 8 ∧ 1 ≤ x ∧ x ≤ 9 ∧ 1 ≤ y ∧ y ≤ 9 ∧ TC f g x y ∧ (∀ j, j ≤ 8 → MT m x y j) ∧ σ = (nI (n + 1), nI x, nI y, f, g) ∧ τ = (nI (n + 1), nI x, nI y, m, r)
theorem rc_weight {σ : SO} {τ : SM} (a : Int32) (h : RC σ.1 τ) : wp_X3_weight a σ (fun r1 => wp_X4_weight a τ (fun r2 => r1 = r2)) := by
  obtain ⟨⟨p, xx, yy, ff, gg⟩, ss⟩ := σ
  obtain ⟨n, x, y, f, g, m, r, hn, hx1, hx, hy1, hy, hT, hM, e1, rfl⟩ := h
  cases e1
  unfold wp_X3_weight wp_X4_weight
  rcases st_case a (n := n + 1) (by omega) with ⟨s, hs, rfl⟩ | hb
  · refine hasState_t (n := n + 1) (by omega) rfl hs ⟨fun q => absurd q z10, fun _ => ?_⟩
    refine cwt_sp rfl rfl hT (by omega) hs ?_
    refine isState_t (n := n + 1) (by omega) rfl hs ⟨fun q => absurd q z10, fun _ => ?_⟩
    exact mwt_sp rfl hM (by omega) hs rfl
  · refine hasState_f (n := n + 1) (by omega) rfl hb ⟨fun _ => ?_, fun q => absurd rfl q⟩
    exact isState_f (n := n + 1) (by omega) rfl hb ⟨fun _ => rfl, fun q => absurd rfl q⟩
theorem rng_case (a : Int32) {lo hi : Nat} (hh : hi < 2 ^ 31) (hl : lo ≤ hi) : (∃ k, lo ≤ k ∧ k ≤ hi ∧ a = nI k) ∨ ¬ (nI lo ≤ a ∧ a ≤ nI hi) := by
  by_cases h : nI lo ≤ a ∧ a ≤ nI hi
  · left
    have z0 : (0 : Int32).toInt = 0 := rfl
    have h0 : ¬ a < 0 := by
      rw [fa_lt]
      have := h.1
      rw [fa_le, nI_toInt (by omega)] at this
      omega
    obtain ⟨j, hj, rfl⟩ := nI_of h0
    exact ⟨j, (nI_leI (by omega) (by omega)).mp h.1, (nI_leI (by omega) (by omega)).mp h.2, rfl⟩
  · exact Or.inr h
theorem nI_rng {k lo hi : Nat} (h1 : lo ≤ k) (h2 : k ≤ hi) (hh : hi < 2 ^ 31) : nI lo ≤ nI k ∧ nI k ≤ nI hi := ⟨(nI_leI (by omega) (by omega)).mpr h1, (nI_leI (by omega) (by omega)).mpr h2⟩
theorem rc_sum {σ : SO} {τ : SM} (a : Int32) (h : RC σ.1 τ) : wp_X3_sum a σ (fun r1 => wp_X4_sum a τ (fun r2 => r1 = r2)) := by
  obtain ⟨⟨p, xx, yy, ff, gg⟩, ss⟩ := σ
  obtain ⟨n, x, y, f, g, m, r, hn, hx1, hx, hy1, hy, hT, hM, e1, rfl⟩ := h
  cases e1
  unfold wp_X3_sum wp_X4_sum
  rcases rng_case a (lo := 0) (hi := 8) (by omega) (by omega) with ⟨k, h1, h2, rfl⟩ | hb
  · refine isWithin_t (nI_rng h1 h2 (by omega)) ⟨fun q => absurd q z10, fun _ => ?_⟩
    refine csum_sp rfl rfl hT h2 ?_
    refine in_t (b := nI 0) (c := nI 8) rfl rfl (nI_rng h1 h2 (by omega)) ⟨fun q => absurd q z10, fun _ => ?_⟩
    exact msum_sp rfl hM h2 rfl
  · refine isWithin_f hb ⟨fun _ => ?_, fun q => absurd rfl q⟩
    exact in_f (b := nI 0) (c := nI 8) rfl rfl hb ⟨fun _ => rfl, fun q => absurd rfl q⟩
theorem rc_chance {σ : SO} {τ : SM} (a w : Int32) (h : RC σ.1 τ) : wp_X3_chance a w σ (fun r1 => wp_X4_chance a w τ (fun r2 => r1 = r2)) := by
  obtain ⟨⟨p, xx, yy, ff, gg⟩, ss⟩ := σ
  obtain ⟨n, x, y, f, g, m, r, hn, hx1, hx, hy1, hy, hT, hM, e1, rfl⟩ := h
  cases e1
  obtain ⟨b1, b2⟩ := SW_b hx1 hy1 hx hy (l := n + 1) (by omega)
  unfold wp_X3_chance wp_X4_chance wp_X0_countPlaces
  rcases st_case a (n := n + 1) (by omega) with ⟨s, hs, rfl⟩ | hb
  · have hw := WT_lt hx hy (l := n + 1) (by omega) s
    refine hasState_t (n := n + 1) (by omega) rfl hs ⟨fun q => absurd q z10, fun _ => ?_⟩
    by_cases hc : nI 0 ≤ w ∧ w ≤ nI 1
    · refine isWithin_t hc ⟨fun _ => ?_, fun q => absurd q z10⟩
      refine cwt_sp rfl rfl hT (by omega) hs (csum_sp rfl rfl hT (by omega) (pof_sp b1 b2 (by omega) w ?_))
      refine isState_t (n := n + 1) (by omega) rfl hs ⟨fun q => absurd q z10, fun _ => ?_⟩
      refine in_t (b := nI 0) (c := nI 1) rfl rfl hc ⟨fun q => absurd q z10, fun _ => ?_⟩
      exact mwt_sp rfl hM (by omega) hs (msum_sp rfl hM (by omega) (least_sp b1 b2 (by omega) w rfl))
    · refine isWithin_f hc ⟨fun q => absurd rfl q, fun _ => ?_⟩
      refine isState_t (n := n + 1) (by omega) rfl hs ⟨fun q => absurd q z10, fun _ => ?_⟩
      exact in_f (b := nI 0) (c := nI 1) rfl rfl hc ⟨fun _ => rfl, fun q => absurd rfl q⟩
  · refine hasState_f (n := n + 1) (by omega) rfl hb ⟨fun _ => ?_, fun q => absurd rfl q⟩
    exact isState_f (n := n + 1) (by omega) rfl hb ⟨fun _ => rfl, fun q => absurd rfl q⟩
theorem rc_current {σ : SO} {τ : SM} (w : Int32) (h : RC σ.1 τ) : wp_X3_current w σ (fun r1 => wp_X4_current w τ (fun r2 => r1 = r2)) := by
  obtain ⟨⟨p, xx, yy, ff, gg⟩, ss⟩ := σ
  obtain ⟨n, x, y, f, g, m, r, hn, hx1, hx, hy1, hy, hT, hM, e1, rfl⟩ := h
  cases e1
  obtain ⟨b1, b2⟩ := SW_b hx1 hy1 hx hy (l := n + 1) (by omega)
  obtain ⟨b3, b4⟩ := SW_b hx1 hy1 hx hy (l := n) (by omega)
  unfold wp_X3_current wp_X4_current wp_X0_countPlaces
  dsimp only
  rw [nI_pred]
  by_cases hc : nI 0 ≤ w ∧ w ≤ nI 1
  · refine isWithin_t hc ⟨fun _ => ?_, fun q => absurd q z10⟩
    refine csum_sp rfl rfl hT (by omega) (csum_sp rfl rfl hT (by omega) (pof_sp b1 b2 (by omega) w ?_))
    refine in_t (b := nI 0) (c := nI 1) rfl rfl hc ⟨fun q => absurd q z10, fun _ => ?_⟩
    exact msum_sp rfl hM (by omega) (msum_sp rfl hM (by omega) (least_sp b1 b2 (by omega) w rfl))
  · refine isWithin_f hc ⟨fun q => absurd rfl q, fun _ => ?_⟩
    exact in_f (b := nI 0) (c := nI 1) rfl rfl hc ⟨fun _ => rfl, fun q => absurd rfl q⟩
theorem rc_taken {σ : SO} {τ : SM} (a w : Int32) (h : RC σ.1 τ) : wp_X3_taken a w σ (fun r1 => wp_X4_taken a w τ (fun r2 => r1 = r2)) := by
  obtain ⟨⟨p, xx, yy, ff, gg⟩, ss⟩ := σ
  obtain ⟨n, x, y, f, g, m, r, hn, hx1, hx, hy1, hy, hT, hM, e1, rfl⟩ := h
  cases e1
  have hp : 2 ^ (n + 1) ≤ 256 := pow8 (by omega)
  obtain ⟨b1, b2⟩ := SW_b hx1 hy1 hx hy (l := n + 1) (by omega)
  unfold wp_X3_taken wp_X4_taken wp_X0_countPlaces wp_X0_sumWithTaken
  rcases st_case a (n := n + 1) (by omega) with ⟨s, hs, rfl⟩ | hb
  · have hle : fb_sm (tk x y (n + 1) s) (2 ^ (n + 1)) ≤ SW x y (n + 1) := tk_le _
    refine hasState_t (n := n + 1) (by omega) rfl hs ⟨fun q => absurd q z10, fun _ => ?_⟩
    by_cases hc : nI 0 ≤ w ∧ w ≤ nI 1
    · refine isWithin_t hc ⟨fun _ => ?_, fun q => absurd q z10⟩
      refine ctk5 rfl rfl hT (by omega) hs (fun _ => ?_) 20000 0 (Nat.zero_le _) (by omega)
      refine csum_sp rfl rfl hT (by omega) (pof_sp b1 b2 (by omega) w ?_)
      refine isState_t (n := n + 1) (by omega) rfl hs ⟨fun q => absurd q z10, fun _ => ?_⟩
      refine in_t (b := nI 0) (c := nI 1) rfl rfl hc ⟨fun _ => ?_, fun q => absurd q z10⟩
      refine mtk27 rfl rfl hM (by omega) hs (fun _ => ?_) 20000 0 (Nat.zero_le _) (by omega)
      exact msum_sp rfl hM (by omega) (least_sp b1 b2 (by omega) w rfl)
    · refine isWithin_f hc ⟨fun q => absurd rfl q, fun _ => ?_⟩
      refine isState_t (n := n + 1) (by omega) rfl hs ⟨fun q => absurd q z10, fun _ => ?_⟩
      exact in_f (b := nI 0) (c := nI 1) rfl rfl hc ⟨fun q => absurd rfl q, fun _ => rfl⟩
  · refine hasState_f (n := n + 1) (by omega) rfl hb ⟨fun _ => ?_, fun q => absurd rfl q⟩
    exact isState_f (n := n + 1) (by omega) rfl hb ⟨fun _ => rfl, fun q => absurd rfl q⟩
theorem rc_extreme {σ : SO} {τ : SM} (w : Int32) (h : RC σ.1 τ) : wp_X3_extreme w σ (fun r1 => wp_X4_extreme w τ (fun r2 => r1 = r2)) := by
  obtain ⟨⟨p, xx, yy, ff, gg⟩, ss⟩ := σ
  obtain ⟨n, x, y, f, g, m, r, hn, hx1, hx, hy1, hy, hT, hM, e1, rfl⟩ := h
  cases e1
  have hp : 2 ^ (n + 1) ≤ 256 := pow8 (by omega)
  have hp1 : 1 ≤ 2 ^ (n + 1) := Nat.one_le_two_pow
  unfold wp_X3_extreme wp_X4_extreme wp_X0_heaviestState wp_X0_lightestState
  have hh1 : nI (hvy (WT x y (n + 1)) 1) = 0 := by simp [hvy]; rfl
  have hl1 : nI (lgt (WT x y (n + 1)) 1) = 0 := by simp [lgt]; rfl
  by_cases hc : nI 0 ≤ w ∧ w ≤ nI 1
  · refine isWithin_t hc ⟨fun _ => ⟨fun hw => ?_, fun hw => ?_⟩, fun q => absurd q z10⟩
    · have := clg4 (f := ff) (g := gg) (σ := (nI (n + 1), nI x, nI y, ff, gg)) (k := fun x1_9 x2_10 => wp_X4_in (w.toInt64) (0 : Int64) (1 : Int64) (fun r1 => ((¬ r1 = 0 → wl_X4_extreme_16 w (nI (n + 1), nI x, nI y, m, r) (20000) (0 : Int32) (1 : Int32) (fun x2_16 x3_17 => x1_9 = x2_16)) ∧ (r1 = 0 → x1_9 = (-1 : Int32))))) hx hy rfl rfl hT (by omega) (fun _ => ?_) 20000 1 (Nat.le_refl 1) hp1 (by omega)
      · rw [hl1] at this; exact this
      · refine in_t (b := nI 0) (c := nI 1) rfl rfl hc ⟨fun _ => ?_, fun q => absurd q z10⟩
        have := mex16l (f := m) (σ := (nI (n + 1), nI x, nI y, m, r)) (k := fun x2_16 x3_17 => nI (lgt (WT x y (n + 1)) (2 ^ (n + 1))) = x2_16) hw hx hy rfl rfl hM (by omega) (fun _ => rfl) 20000 1 (Nat.le_refl 1) hp1 (by omega)
        rw [hl1] at this; exact this
    · subst hw
      have := chv4 (f := ff) (g := gg) (σ := (nI (n + 1), nI x, nI y, ff, gg)) (k := fun x1_9 x2_10 => wp_X4_in ((0 : Int32).toInt64) (0 : Int64) (1 : Int64) (fun r1 => ((¬ r1 = 0 → wl_X4_extreme_16 0 (nI (n + 1), nI x, nI y, m, r) (20000) (0 : Int32) (1 : Int32) (fun x2_16 x3_17 => x1_9 = x2_16)) ∧ (r1 = 0 → x1_9 = (-1 : Int32))))) hx hy rfl rfl hT (by omega) (fun _ => ?_) 20000 1 (Nat.le_refl 1) hp1 (by omega)
      · rw [hh1] at this; exact this
      · refine in_t (b := nI 0) (c := nI 1) rfl rfl hc ⟨fun _ => ?_, fun q => absurd q z10⟩
        have := mex16h (f := m) (σ := (nI (n + 1), nI x, nI y, m, r)) (k := fun x2_16 x3_17 => nI (hvy (WT x y (n + 1)) (2 ^ (n + 1))) = x2_16) hx hy rfl rfl hM (by omega) (fun _ => rfl) 20000 1 (Nat.le_refl 1) hp1 (by omega)
        rw [hh1] at this; exact this
  · refine isWithin_f hc ⟨fun q => absurd rfl q, fun _ => ?_⟩
    exact in_f (b := nI 0) (c := nI 1) rfl rfl hc ⟨fun q => absurd rfl q, fun _ => rfl⟩
/-- what flow leaves of the reference: but leadsTo, all -/
def but (τ τ2 : SM) : Prop := ∃ z, τ2 = (τ.1, τ.2.1, τ.2.2.1, τ.2.2.2.1, τ.2.2.2.2.1, τ.2.2.2.2.2.1, τ.2.2.2.2.2.2.1, τ.2.2.2.2.2.2.2.1, τ.2.2.2.2.2.2.2.2.1, τ.2.2.2.2.2.2.2.2.2.1, τ.2.2.2.2.2.2.2.2.2.2.1, τ.2.2.2.2.2.2.2.2.2.2.2.1, z)
theorem rc_flow {σ : SO} {τ : SM} {Q : SM → Prop} (hQ : ∀ z, Q (τ.1, τ.2.1, τ.2.2.1, τ.2.2.2.1, τ.2.2.2.2.1, τ.2.2.2.2.2.1, τ.2.2.2.2.2.2.1, τ.2.2.2.2.2.2.2.1, τ.2.2.2.2.2.2.2.2.1, τ.2.2.2.2.2.2.2.2.2.1, τ.2.2.2.2.2.2.2.2.2.2.1, τ.2.2.2.2.2.2.2.2.2.2.2.1, z)) (a w : Int32) (h : RC σ.1 τ) : wp_X3_flow a w σ (fun r1 => wp_X4_flow a w τ (fun r2 τ2 => r1 = r2 ∧ (RC σ.1 τ2 ∧ Q τ2))) := by
  obtain ⟨⟨p, xx, yy, ff, gg⟩, ss⟩ := σ
  obtain ⟨n, x, y, f, g, m, ⟨pl, op, sd, so, be, i1, o1, mv, ldt⟩, hn, hx1, hx, hy1, hy, hT, hM, e1, rfl⟩ := h
  cases e1
  unfold wp_X3_flow wp_X4_flow
  rcases st_case a (n := n + 1) (by omega) with ⟨s, hs, rfl⟩ | hb
  · refine hasState_t (n := n + 1) (by omega) rfl hs ⟨fun q => absurd q z10, fun _ => ?_⟩
    rcases rng_case w (lo := 0) (hi := 1) (by omega) (by omega) with ⟨k, h1, h2, rfl⟩ | hc
    · have hc := nI_rng h1 h2 (by omega : (1 : Nat) < 2 ^ 31)
      have hk : k = 0 ∨ k = 1 := by omega
      rcases hk with rfl | rfl
      · refine isWithin_t hc ⟨fun _ => ⟨fun q => absurd rfl q, fun _ => ?_⟩, fun q => absurd q z10⟩
        refine cfin_sp hx hy hn hs hT ?_
        refine isState_t (n := n + 1) (by omega) rfl hs ⟨fun q => absurd q z10, fun _ => ?_⟩
        refine in_t (b := nI 0) (c := nI 1) rfl rfl hc ⟨fun _ => ?_, fun q => absurd q z10⟩
        exact mfl27i (w := nI 0) (by decide) hx1 hy1 hx hy hn hs hM (fun _ z2 => ⟨rfl, ⟨n, x, y, ff, gg, m, (pl, op, sd, so, be, i1, o1, mv, z2), hn, hx1, hx, hy1, hy, hT, hM, rfl, rfl⟩, hQ z2⟩) 20000 0 ldt (by omega) (by omega)
      · refine isWithin_t hc ⟨fun _ => ⟨fun _ => ?_, fun q => absurd q z10⟩, fun q => absurd q z10⟩
        refine cfout_sp hx hy hn hs hT ?_
        refine isState_t (n := n + 1) (by omega) rfl hs ⟨fun q => absurd q z10, fun _ => ?_⟩
        refine in_t (b := nI 0) (c := nI 1) rfl rfl hc ⟨fun _ => ?_, fun q => absurd q z10⟩
        exact mfl27o hx hy hn hs hM (fun _ z2 => ⟨rfl, ⟨n, x, y, ff, gg, m, (pl, op, sd, so, be, i1, o1, mv, z2), hn, hx1, hx, hy1, hy, hT, hM, rfl, rfl⟩, hQ z2⟩) 20000 0 ldt (by omega) (by omega)
    · refine isWithin_f hc ⟨fun q => absurd rfl q, fun _ => ?_⟩
      refine isState_t (n := n + 1) (by omega) rfl hs ⟨fun q => absurd q z10, fun _ => ?_⟩
      exact in_f (b := nI 0) (c := nI 1) rfl rfl hc ⟨fun q => absurd rfl q, fun _ => ⟨rfl, ⟨n, x, y, ff, gg, m, (pl, op, sd, so, be, i1, o1, mv, ldt), hn, hx1, hx, hy1, hy, hT, hM, rfl, rfl⟩, hQ ldt⟩⟩
  · refine hasState_f (n := n + 1) (by omega) rfl hb ⟨fun _ => ?_, fun q => absurd rfl q⟩
    exact isState_f (n := n + 1) (by omega) rfl hb ⟨fun _ => ⟨rfl, ⟨n, x, y, ff, gg, m, (pl, op, sd, so, be, i1, o1, mv, ldt), hn, hx1, hx, hy1, hy, hT, hM, rfl, rfl⟩, hQ ldt⟩, fun q => absurd rfl q⟩
