/-! sums over sets, extremes, flows -/
def tk (x y n set : Nat) (s : Nat) : Nat := if s &&& set = set then WT x y n s else 0
theorem and_set {n i set : Nat} (hi : i < 2 ^ 31) (hs : set < 2 ^ 31) : ((nI i &&& nI set) = nI set) ↔ i &&& set = set := by
  rw [fa_and]
  exact nI_eq (Nat.lt_of_le_of_lt Nat.and_le_left hi) hs
theorem ctk5 {x y n set : Nat} {f g : Nat → Int64} {σ : SC} (e0 : σ.1 = nI n) (e1 : σ.2.2.2.1 = f) (hT : TC f g x y) (hn : n ≤ 8) (hset : set < 2 ^ n) {k : Int64 → Int32 → Prop} (hk : ∀ z, k (lN (fb_sm (tk x y n set) (2 ^ n))) z) : ∀ m i, i ≤ 2 ^ n → 2 ^ n - i < m → wl_X0_sumWithTaken_5 (nI set) σ m (lN (fb_sm (tk x y n set) i)) (nI i) k := by
  have hp := pow8 hn
  intro m
  induction m with
  | zero => intro i _ h; omega
  | succ m ih =>
    intro i hi hm
    unfold wl_X0_sumWithTaken_5 wp_X0_countStates
    dsimp only
    rw [e0, sh1 n (by omega), nI_leI (by omega) (by omega), nI_1, and_set (n := n) (by omega) (by omega)]
    refine ⟨fun q => ?_, fun q => ⟨fun q2 => ?_, fun q2 => ?_⟩⟩
    · obtain rfl : i = 2 ^ n := by omega
      exact hk _
    · have := ih (i + 1) (by omega) (by omega)
      rw [fb_sm_succ, tk, if_neg q2, Nat.add_zero] at this
      exact this
    · refine cwt_sp e0 e1 hT hn (by omega) ?_
      have := ih (i + 1) (by omega) (by omega)
      rw [fb_sm_succ, tk, if_pos q2] at this
      rw [lN_add]
      exact this
theorem mtk27 {x y n set : Nat} {f : Nat → Int64} {σ : SM} {x2 : Int32} (e0 : σ.1 = nI n) (e1 : σ.2.2.2.1 = f) (hT : ∀ j, j ≤ 8 → MT f x y j) (hn : n ≤ 8) (hset : set < 2 ^ n) {k : Int64 → Int32 → Prop} (hk : ∀ z, k (lN (fb_sm (tk x y n set) (2 ^ n))) z) : ∀ m i, i ≤ 2 ^ n → 2 ^ n - i < m → wl_X4_taken_27 (nI set) x2 σ m (lN (fb_sm (tk x y n set) i)) (nI i) k := by
  have hp := pow8 hn
  intro m
  induction m with
  | zero => intro i _ h; omega
  | succ m ih =>
    intro i hi hm
    unfold wl_X4_taken_27
    rw [e0, sh1 n (by omega), nI_leI (by omega) (by omega), nI_1, and_set (n := n) (by omega) (by omega)]
    refine ⟨fun q => ?_, fun q => ⟨fun q2 => ?_, fun q2 => ?_⟩⟩
    · obtain rfl : i = 2 ^ n := by omega
      exact hk _
    · have := ih (i + 1) (by omega) (by omega)
      rw [fb_sm_succ, tk, if_neg q2, ← lN_add] at this
      exact this
    · refine mwt_sp e1 hT hn (by omega) ?_
      have := ih (i + 1) (by omega) (by omega)
      rw [fb_sm_succ, tk, if_pos q2] at this
      rw [lN_add]
      exact this
theorem tk_le {x y n set : Nat} (N : Nat) : fb_sm (tk x y n set) N ≤ fb_sm (WT x y n) N := fb_sm_le (fun k _ => by unfold tk; split <;> omega)
/-- the best so far -/
def hvy (f : Nat → Nat) : Nat → Nat
  | 0 => 0
  | i + 1 => if f i ≤ f (hvy f i) then hvy f i else i
def lgt (f : Nat → Nat) : Nat → Nat
  | 0 => 0
  | i + 1 => if f (lgt f i) ≤ f i then lgt f i else i
theorem hvy_lt (f : Nat → Nat) : ∀ i, 1 ≤ i → hvy f i < i
  | 0, h => by omega
  | 1, _ => by simp [hvy]
  | i + 2, _ => by
    have h := hvy_lt f (i + 1) (by omega)
    rw [hvy]; split <;> omega
theorem lgt_lt (f : Nat → Nat) : ∀ i, 1 ≤ i → lgt f i < i
  | 0, h => by omega
  | 1, _ => by simp [lgt]
  | i + 2, _ => by
    have h := lgt_lt f (i + 1) (by omega)
    rw [lgt]; split <;> omega
theorem lN_leW {x y : Nat} (hx : x ≤ 9) (hy : y ≤ 9) {l : Nat} (hl : l ≤ 8) (s t : Nat) : (lN (WT x y l s) ≤ lN (WT x y l t)) ↔ WT x y l s ≤ WT x y l t := by
  have h1 := WT_lt hx hy hl s
  have h2 := WT_lt hx hy hl t
  exact pk_lLE (by omega) (by omega)
theorem chv4 {x y n : Nat} {f g : Nat → Int64} {σ : SC} (hx : x ≤ 9) (hy : y ≤ 9) (e0 : σ.1 = nI n) (e1 : σ.2.2.2.1 = f) (hT : TC f g x y) (hn : n ≤ 8) {k : Int32 → Int32 → Prop} (hk : ∀ z, k (nI (hvy (WT x y n) (2 ^ n))) z) : ∀ m i, 1 ≤ i → i ≤ 2 ^ n → 2 ^ n - i < m → wl_X0_heaviestState_4 σ m (nI (hvy (WT x y n) i)) (nI i) k := by
  have hp := pow8 hn
  intro m
  induction m with
  | zero => intro i _ _ h; omega
  | succ m ih =>
    intro i h1 hi hm
    have hb := hvy_lt (WT x y n) i h1
    unfold wl_X0_heaviestState_4 wp_X0_countStates
    dsimp only
    rw [e0, sh1 n (by omega), nI_leI (by omega) (by omega), nI_1]
    refine ⟨fun q => ?_, fun q => ?_⟩
    · obtain rfl : i = 2 ^ n := by omega
      exact hk _
    · refine cwt_sp e0 e1 hT hn (by omega) (cwt_sp e0 e1 hT hn (by omega) ?_)
      rw [lN_leW hx hy hn]
      have := ih (i + 1) (by omega) (by omega) (by omega)
      rw [hvy] at this
      exact ⟨fun q => by rw [if_pos q] at this; exact this, fun q => by rw [if_neg q] at this; exact this⟩
theorem clg4 {x y n : Nat} {f g : Nat → Int64} {σ : SC} (hx : x ≤ 9) (hy : y ≤ 9) (e0 : σ.1 = nI n) (e1 : σ.2.2.2.1 = f) (hT : TC f g x y) (hn : n ≤ 8) {k : Int32 → Int32 → Prop} (hk : ∀ z, k (nI (lgt (WT x y n) (2 ^ n))) z) : ∀ m i, 1 ≤ i → i ≤ 2 ^ n → 2 ^ n - i < m → wl_X0_lightestState_4 σ m (nI (lgt (WT x y n) i)) (nI i) k := by
  have hp := pow8 hn
  intro m
  induction m with
  | zero => intro i _ _ h; omega
  | succ m ih =>
    intro i h1 hi hm
    have hb := lgt_lt (WT x y n) i h1
    unfold wl_X0_lightestState_4 wp_X0_countStates
    dsimp only
    rw [e0, sh1 n (by omega), nI_leI (by omega) (by omega), nI_1]
    refine ⟨fun q => ?_, fun q => ?_⟩
    · obtain rfl : i = 2 ^ n := by omega
      exact hk _
    · refine cwt_sp e0 e1 hT hn (by omega) (cwt_sp e0 e1 hT hn (by omega) ?_)
      rw [lN_leW hx hy hn]
      have := ih (i + 1) (by omega) (by omega) (by omega)
      rw [lgt] at this
      exact ⟨fun q => by rw [if_pos q] at this; exact this, fun q => by rw [if_neg q] at this; exact this⟩
theorem mex16h {x y n : Nat} {f : Nat → Int64} {σ : SM} (hx : x ≤ 9) (hy : y ≤ 9) (e0 : σ.1 = nI n) (e1 : σ.2.2.2.1 = f) (hT : ∀ j, j ≤ 8 → MT f x y j) (hn : n ≤ 8) {k : Int32 → Int32 → Prop} (hk : ∀ z, k (nI (hvy (WT x y n) (2 ^ n))) z) : ∀ m i, 1 ≤ i → i ≤ 2 ^ n → 2 ^ n - i < m → wl_X4_extreme_16 0 σ m (nI (hvy (WT x y n) i)) (nI i) k := by
  have hp := pow8 hn
  intro m
  induction m with
  | zero => intro i _ _ h; omega
  | succ m ih =>
    intro i h1 hi hm
    have hb := hvy_lt (WT x y n) i h1
    unfold wl_X4_extreme_16
    rw [e0, sh1 n (by omega), nI_leI (by omega) (by omega), nI_1]
    refine ⟨fun q => ?_, fun q => ⟨fun q => absurd rfl q, fun _ => ?_⟩⟩
    · obtain rfl : i = 2 ^ n := by omega
      exact hk _
    · refine mwt_sp e1 hT hn (by omega) (mwt_sp e1 hT hn (by omega) ?_)
      rw [lN_leW hx hy hn]
      have := ih (i + 1) (by omega) (by omega) (by omega)
      rw [hvy] at this
      exact ⟨fun q => by rw [if_pos q] at this; exact this, fun q => by rw [if_neg q] at this; exact this⟩
theorem mex16l {x y n : Nat} {f : Nat → Int64} {σ : SM} {w : Int32} (hw : ¬ w = 0) (hx : x ≤ 9) (hy : y ≤ 9) (e0 : σ.1 = nI n) (e1 : σ.2.2.2.1 = f) (hT : ∀ j, j ≤ 8 → MT f x y j) (hn : n ≤ 8) {k : Int32 → Int32 → Prop} (hk : ∀ z, k (nI (lgt (WT x y n) (2 ^ n))) z) : ∀ m i, 1 ≤ i → i ≤ 2 ^ n → 2 ^ n - i < m → wl_X4_extreme_16 w σ m (nI (lgt (WT x y n) i)) (nI i) k := by
  have hp := pow8 hn
  intro m
  induction m with
  | zero => intro i _ _ h; omega
  | succ m ih =>
    intro i h1 hi hm
    have hb := lgt_lt (WT x y n) i h1
    unfold wl_X4_extreme_16
    rw [e0, sh1 n (by omega), nI_leI (by omega) (by omega), nI_1]
    refine ⟨fun q => ?_, fun q => ⟨fun _ => ?_, fun q => absurd q hw⟩⟩
    · obtain rfl : i = 2 ^ n := by omega
      exact hk _
    · refine mwt_sp e1 hT hn (by omega) (mwt_sp e1 hT hn (by omega) ?_)
      rw [lN_leW hx hy hn]
      have := ih (i + 1) (by omega) (by omega) (by omega)
      rw [lgt] at this
      exact ⟨fun q => by rw [if_pos q] at this; exact this, fun q => by rw [if_neg q] at this; exact this⟩
