/-! the reference's table -/
theorem mweigh_sp {σ : SM} {l t : Nat} (hl : l ≤ 8) (ht : t < 2 ^ l) {post : Int64 → Prop} (h : post (σ.2.2.2.1 (2 ^ l - 1 + t))) : wp_X4_weigh (nI l) (nI t) σ post := by
  have h2 := pow8 hl
  have h3 : 1 ≤ 2 ^ l := Nat.one_le_two_pow
  unfold wp_X4_weigh
  rw [sh1m l (by omega), nI_add]
  refine ⟨vp_in_nI (by omega) (by omega), ?_⟩
  rw [nI_clamp (by omega)]
  exact h
theorem mlead_sp {l s : Nat} {σ : SM} {z : Int32} (hl : l < 8) (hs : s < 2 ^ (l + 1)) (h0 : s.testBit 0 = true) (h1 : s.testBit l = false) {k : Int32 → Prop} (hk : k (nI (ld s))) : ∀ n i, i ≤ ld s → ld s - i < n → wl_X4_fills_90 z (nI s) σ n (nI i) k := by
  obtain ⟨a1, a2, a3, -, -⟩ := ld_ok l hl s hs h0 h1
  have hp : 2 ^ (l + 1) ≤ 256 := pow8 (by omega)
  intro n
  induction n with
  | zero => intro i _ h; omega
  | succ n ih =>
    intro i hi hn
    unfold wl_X4_fills_90
    have e : (nI s >>> (nI i &&& (31 : Int32))) &&& (3 : Int32) = nI (s / 2 ^ i % 4) := by
      rw [shr_n (by omega) (by omega)]
      exact fa_mask (s / 2 ^ i) 2
    have e1 : (nI (s / 2 ^ i % 4) = (1 : Int32)) ↔ s / 2 ^ i % 4 = 1 := nI_eq (a := s / 2 ^ i % 4) (b := 1) (by omega) (by omega)
    rw [e, e1, nI_1]
    have b0 := a2 i (by omega)
    rw [tb_eq, decide_eq_true_iff] at b0
    have ep : s / 2 ^ (i + 1) = s / 2 ^ i / 2 := by rw [Nat.pow_succ, Nat.div_div_eq_div_mul]
    by_cases ei : i = ld s
    · subst ei
      rw [tb_eq, decide_eq_false_iff_not, ep] at a3
      exact ⟨fun _ => hk, fun q => absurd (by omega) q⟩
    · have b1 := a2 (i + 1) (by omega)
      rw [tb_eq, decide_eq_true_iff, ep] at b1
      exact ⟨fun q => absurd q (by omega), fun _ => ih (i + 1) (by omega) (by omega)⟩
def MT (f : Nat → Int64) (x y l : Nat) : Prop := ∀ t, t < 2 ^ l → f (2 ^ l - 1 + t) = lN (WT x y l t)
theorem fil17 {x y l : Nat} (hx9 : x ≤ 9) (hy9 : y ≤ 9) (hl : l < 8) {n1 : Int32} {r : Int32 × Int32 × Int64 × (Nat → Int32) × (Nat → Int32) × Int32 × Int32 × Int32 × Int32} {k : Int32 → SM → Prop} (hk : ∀ f, (∀ j, j ≤ l + 1 → MT f x y j) → k (nI (2 ^ (l + 1))) (n1, nI x, nI y, f, r)) :
    ∀ n i f, i ≤ 2 ^ (l + 1) → 2 ^ (l + 1) - i < n → (∀ j, j ≤ l → MT f x y j) → (∀ t, t < i → f (2 ^ (l + 1) - 1 + t) = lN (WT x y (l + 1) t)) → wl_X4_fills_17 (nI (l + 1)) n (nI i) (n1, nI x, nI y, f, r) k := by
  have hp : 2 ^ (l + 1) ≤ 256 := pow8 (by omega)
  have hp2 := pow_s l
  have hp1 : 1 ≤ 2 ^ l := Nat.one_le_two_pow
  intro n
  induction n with
  | zero => intro i f _ h; omega
  | succ n ih =>
    intro i f hi hn hT hR
    have step : ∀ v : Int64, v = lN (WT x y (l + 1) i) → i < 2 ^ (l + 1) → (vp_in ((nI (2 ^ (l + 1)) - (1 : Int32)) + nI i) 511) ∧ wl_X4_fills_17 (nI (l + 1)) n (nI i + (1 : Int32)) (n1, nI x, nI y, (vp_updL f ((nI (2 ^ (l + 1)) - (1 : Int32)) + nI i).toNatClampNeg v), r) k := by
      intro v hv hlt
      have e : nI (2 ^ (l + 1)) - (1 : Int32) = nI (2 ^ (l + 1) - 1) := pk_sub (b := 1) (by omega)
      rw [e, nI_add, nI_1, nI_clamp (by omega)]
      refine ⟨vp_in_nI (by omega) (by omega), ?_⟩
      refine ih (i + 1) _ (by omega) (by omega) (fun j hj t ht => ?_) (fun t ht => ?_)
      · have hj2 : 2 ^ j ≤ 2 ^ l := Nat.pow_le_pow_right (by omega) hj
        rw [pk_uLn (by omega)]
        exact hT j hj t ht
      · by_cases e : t = i
        · subst e; rw [pk_uLs]; exact hv
        · rw [pk_uLn (by omega)]; exact hR t (by omega)
    unfold wl_X4_fills_17
    rw [sh1 (l + 1) (by omega), nI_leI (by omega) (by omega)]
    refine ⟨fun q => ?_, fun q => ?_⟩
    · obtain rfl : i = 2 ^ (l + 1) := by omega
      refine hk f (fun j hj => ?_)
      by_cases e : j = l + 1
      · subst e; exact hR
      · exact hT j (by omega)
    · have e0 : (nI i &&& (1 : Int32)) = nI (i % 2) := fa_mask i 1
      have e00 : (nI (i % 2) = 0) ↔ i % 2 = 0 := nI_eq (a := i % 2) (b := 0) (by omega) (by omega)
      have t0 : i.testBit 0 = decide (i % 2 = 1) := by rw [tb_eq]; simp
      rw [e0, e00, nI_pred, tb_1 (by omega) (by omega)]
      refine ⟨fun q1 => ⟨fun q2 => ?_, fun q2 => ?_⟩, fun q1 => ?_⟩
      · have h0 : i.testBit 0 = true := by rw [t0, decide_eq_true_iff]; omega
        have h1 : i.testBit l = false := by simpa using q2
        obtain ⟨a1, a2, a3, a4, a5⟩ := ld_ok l hl i (by omega) h0 h1
        refine mlead_sp hl (by omega) h0 h1 ?_ 20000 0 (by omega) (by omega)
        dsimp only
        rw [db_ok i (by omega), ea_ok i (by omega)]
        refine mweigh_sp (by omega) a4 (mweigh_sp (by omega) a5 ?_)
        exact step _ (by dsimp only; rw [hT l (Nat.le_refl l) _ a4, hT l (Nat.le_refl l) _ a5, lN_add, ← WT_d h0 h1]) (by omega)
      · have h0 : i.testBit 0 = true := by rw [t0, decide_eq_true_iff]; omega
        obtain ⟨-, a1, a2⟩ := top_ok l hl i (by omega) q2
        rw [a1]
        refine mweigh_sp (by omega) a2 ?_
        exact step _ (by dsimp only; rw [hT l (Nat.le_refl l) _ a2, nI_l (by omega), lN_mul, ← WT_t h0 q2]) (by omega)
      · have h0 : i.testBit 0 = false := by rw [t0, decide_eq_false_iff_not]; omega
        have e : nI i >>> ((1 : Int32) &&& (31 : Int32)) = nI (i / 2) := shr_n (k := 1) (by omega) (by omega)
        rw [e]
        refine mweigh_sp (by omega) (by omega) ?_
        exact step _ (by dsimp only; rw [hT l (Nat.le_refl l) (i / 2) (by omega), nI_l (by omega), lN_mul, ← WT_f (y := y) h0]) (by omega)
theorem fil9 {x y : Nat} (hx9 : x ≤ 9) (hy9 : y ≤ 9) {n1 : Int32} {r : Int32 × Int32 × Int64 × (Nat → Int32) × (Nat → Int32) × Int32 × Int32 × Int32 × Int32} {k : Int32 → SM → Prop} (hk : ∀ f, (∀ j, j ≤ 8 → MT f x y j) → k (nI 9) (n1, nI x, nI y, f, r)) :
    ∀ n l f, l ≤ 8 → 8 - l < n → (∀ j, j ≤ l → MT f x y j) → wl_X4_fills_9 n (nI (l + 1)) (n1, nI x, nI y, f, r) k := by
  intro n
  induction n with
  | zero => intro l f _ h; omega
  | succ n ih =>
    intro l f hl hn hT
    unfold wl_X4_fills_9
    have e9 : ((9 : Int32) ≤ nI (l + 1)) ↔ 9 ≤ l + 1 := nI_leI (a := 9) (by omega) (by omega)
    rw [e9]
    refine ⟨fun q => ?_, fun q => ?_⟩
    · obtain rfl : l = 8 := by omega
      exact hk f hT
    · refine fil17 hx9 hy9 (by omega) (fun f2 h2 => ?_) 20000 0 f (Nat.zero_le _) (by have := pow8 (l := l + 1) (by omega); omega) hT (fun t ht => absurd ht (by omega))
      rw [nI_1]
      exact ih (l + 1) _ (by omega) (by omega) h2
theorem fills_sp {x y : Nat} (hx9 : x ≤ 9) (hy9 : y ≤ 9) {n1 : Int32} {f : Nat → Int64} {r : Int32 × Int32 × Int64 × (Nat → Int32) × (Nat → Int32) × Int32 × Int32 × Int32 × Int32} {post : SM → Prop} (hk : ∀ f, (∀ j, j ≤ 8 → MT f x y j) → post (n1, nI x, nI y, f, r)) : wp_X4_fills (n1, nI x, nI y, f, r) post := by
  unfold wp_X4_fills
  refine ⟨vp_in_nI (n := 0) (by omega) (by omega), ?_⟩
  refine fil9 hx9 hy9 (k := fun _ σ => post σ) (fun f h => hk f h) 20000 0 _ (by omega) (by omega) (fun j hj t ht => ?_)
  obtain rfl : j = 0 := by omega
  obtain rfl : t = 0 := by simpa using ht
  rfl
