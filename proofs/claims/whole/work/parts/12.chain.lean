/-! the weights, as numbers -/
def lds : Nat → Nat → Nat
  | 0, _ => 0
  | f + 1, s => if s.testBit 1 then lds f (s / 2) + 1 else 0
def ld (s : Nat) : Nat := lds 9 s
def ea (s : Nat) : Nat := s % 2 ^ (ld s) + (s / 2 ^ (ld s + 2)) * 2 ^ (ld s + 1)
def da (s : Nat) : Nat := ea s + 2 ^ (ld s)
def WT (x y : Nat) : Nat → Nat → Nat
  | 0, _ => 1
  | l + 1, s => if s.testBit 0 then (if s.testBit l then y * WT x y l (s - 2 ^ l) else WT x y l (da s) + WT x y l (ea s)) else x * WT x y l (s / 2)
theorem ld_ok0 : ∀ l, l < 8 → ∀ s, s < 2 ^ (l + 1) → (s.testBit 0 && !s.testBit l) = true → (decide (ld s + 1 ≤ l) && !s.testBit (ld s + 1) && decide (da s < 2 ^ l) && decide (ea s < 2 ^ l)) = true := by decide +kernel
theorem ld_ok1 (l : Nat) (hl : l < 8) (s : Nat) (hs : s < 2 ^ (l + 1)) (h0 : s.testBit 0 = true) (h1 : s.testBit l = false) : ld s + 1 ≤ l ∧ s.testBit (ld s + 1) = false ∧ da s < 2 ^ l ∧ ea s < 2 ^ l := by
  have h := ld_ok0 l hl s hs (by rw [h0, h1]; rfl)
  simp only [Bool.and_eq_true, decide_eq_true_eq, Bool.not_eq_true'] at h
  exact ⟨h.1.1.1, h.1.1.2, h.1.2, h.2⟩
theorem ld_ok2 : ∀ s, s < 256 → ∀ j, j < ld s + 1 → s.testBit 0 = true → s.testBit j = true := by decide +kernel
theorem ld_ok (l : Nat) (hl : l < 8) (s : Nat) (hs : s < 2 ^ (l + 1)) (h0 : s.testBit 0 = true) (h1 : s.testBit l = false) : ld s + 1 ≤ l ∧ (∀ j, j < ld s + 1 → s.testBit j = true) ∧ s.testBit (ld s + 1) = false ∧ da s < 2 ^ l ∧ ea s < 2 ^ l := by
  obtain ⟨a, b, c, d⟩ := ld_ok1 l hl s hs h0 h1
  have hp : 2 ^ (l + 1) ≤ 256 := pow8 (by omega)
  exact ⟨a, fun j hj => ld_ok2 s (by omega) j hj h0, b, c, d⟩
theorem top_ok : ∀ l, l < 8 → ∀ s, s < 2 ^ (l + 1) → s.testBit l = true → nI s ^^^ ((1 : Int32) <<< (nI l &&& (31 : Int32))) = nI (s - 2 ^ l) ∧ (nI s &&& (((1 : Int32) <<< (nI l &&& (31 : Int32))) - (1 : Int32))) = nI (s - 2 ^ l) ∧ s - 2 ^ l < 2 ^ l := by decide +kernel
theorem da_ok : ∀ s, s < 256 → (((nI s &&& (((1 : Int32) <<< (nI (ld s) &&& (31 : Int32))) - (1 : Int32))) ||| ((1 : Int32) <<< (nI (ld s) &&& (31 : Int32)))) ||| ((nI s >>> ((nI (ld s) + (2 : Int32)) &&& (31 : Int32))) <<< ((nI (ld s) + (1 : Int32)) &&& (31 : Int32)))) = nI (da s) := by decide +kernel
theorem ea_ok : ∀ s, s < 256 → ((nI s &&& (((1 : Int32) <<< (nI (ld s) &&& (31 : Int32))) - (1 : Int32))) ||| ((nI s >>> ((nI (ld s) + (2 : Int32)) &&& (31 : Int32))) <<< ((nI (ld s) + (1 : Int32)) &&& (31 : Int32)))) = nI (ea s) := by decide +kernel
theorem db_ok : ∀ s, s < 256 → (((nI s &&& (((1 : Int32) <<< (nI (ld s) &&& (31 : Int32))) - (1 : Int32))) ||| ((nI s >>> ((nI (ld s) + (2 : Int32)) &&& (31 : Int32))) <<< ((nI (ld s) + (1 : Int32)) &&& (31 : Int32)))) ||| ((1 : Int32) <<< (nI (ld s) &&& (31 : Int32)))) = nI (da s) := by decide +kernel
theorem WT_f {x y l s : Nat} (h : s.testBit 0 = false) : WT x y (l + 1) s = x * WT x y l (s / 2) := by simp [WT, h]
theorem WT_t {x y l s : Nat} (h : s.testBit 0 = true) (h2 : s.testBit l = true) : WT x y (l + 1) s = y * WT x y l (s - 2 ^ l) := by simp [WT, h, h2]
theorem WT_d {x y l s : Nat} (h : s.testBit 0 = true) (h2 : s.testBit l = false) : WT x y (l + 1) s = WT x y l (da s) + WT x y l (ea s) := by simp [WT, h, h2]
theorem WT_pos {x y : Nat} (hx : 1 ≤ x) (hy : 1 ≤ y) : ∀ l s, 1 ≤ WT x y l s
  | 0, _ => Nat.le_refl 1
  | l + 1, s => by
    cases h : s.testBit 0
    · rw [WT_f h]; exact Nat.le_trans (WT_pos hx hy l _) (Nat.le_mul_of_pos_left _ hx)
    · cases h2 : s.testBit l
      · rw [WT_d h h2]; exact Nat.le_trans (WT_pos hx hy l _) (Nat.le_add_right _ _)
      · rw [WT_t h h2]; exact Nat.le_trans (WT_pos hx hy l _) (Nat.le_mul_of_pos_left _ hy)
theorem WT_le {x y : Nat} (hx : x ≤ 9) (hy : y ≤ 9) : ∀ l s, WT x y l s ≤ 9 ^ l
  | 0, _ => Nat.le_refl 1
  | l + 1, s => by
    have e : 9 ^ (l + 1) = 9 * 9 ^ l := by rw [Nat.pow_succ, Nat.mul_comm]
    rw [e]
    cases h : s.testBit 0
    · rw [WT_f h]; exact Nat.mul_le_mul hx (WT_le hx hy l _)
    · cases h2 : s.testBit l
      · rw [WT_d h h2]
        have a := WT_le hx hy l (da s)
        have b := WT_le hx hy l (ea s)
        omega
      · rw [WT_t h h2]; exact Nat.mul_le_mul hy (WT_le hx hy l _)
def SW (x y l : Nat) : Nat := fb_sm (WT x y l) (2 ^ l)
/-! the class's table -/
theorem wow_sp {σ : SC} {l t : Nat} (hl : l ≤ 8) (ht : t < 2 ^ l) {post : Int64 → Prop} (h : post (σ.2.2.2.1 (2 ^ l + t))) : wp_X0_weightOfWord (nI l) (nI t) σ post := by
  have h2 := pow8 hl
  unfold wp_X0_weightOfWord
  rw [sh1 l (by omega), nI_add]
  refine ⟨fun q => absurd q (nI_pos (by omega)), fun _ => ⟨fun q => absurd ((nI_leI (a := 512) (by omega) (by omega)).mp q) (by omega), fun _ => ⟨vp_in_nI (by omega) (by omega), ?_⟩⟩⟩
  rw [nI_clamp (by omega)]
  exact h
theorem lead_sp {l s : Nat} (hl : l < 8) (hs : s < 2 ^ (l + 1)) (h0 : s.testBit 0 = true) (h1 : s.testBit l = false) {k : Int32 → Prop} (hk : k (nI (ld s))) : ∀ n i, i ≤ ld s → ld s - i < n → wl_X0_lastOfLeadingTaken_2 (nI (l + 1)) (nI s) n (nI i) k := by
  obtain ⟨a1, a2, a3, -, -⟩ := ld_ok l hl s hs h0 h1
  have hp : 2 ^ (l + 1) ≤ 256 := pow8 (by omega)
  intro n
  induction n with
  | zero => intro i _ h; omega
  | succ n ih =>
    intro i hi hn
    unfold wl_X0_lastOfLeadingTaken_2
    rw [nI_pred, nI_1]
    refine ⟨fun q => absurd ((nI_leI (by omega) (by omega)).mp q) (by omega), fun _ => ?_⟩
    by_cases e : i = ld s
    · subst e
      refine isTaken_f (by omega) (by omega) a3 ⟨fun _ => hk, fun q => absurd rfl q⟩
    · refine isTaken_t (by omega) (by omega) (a2 (i + 1) (by omega)) ⟨fun q => absurd q z10, fun _ => ?_⟩
      exact ih (i + 1) (by omega) (by omega)
theorem weigh_sp {σ : SC} {x y l s : Nat} (hx9 : x ≤ 9) (hy9 : y ≤ 9) (hl : l < 8) (hs : s < 2 ^ (l + 1)) (hx : σ.2.1 = nI x) (hy : σ.2.2.1 = nI y) (hW : ∀ t, t < 2 ^ l → σ.2.2.2.1 (2 ^ l + t) = lN (WT x y l t)) {post : Int64 → Prop} (h : post (lN (WT x y (l + 1) s))) : wp_X0_weigh (nI (l + 1)) (nI s) σ post := by
  have hp : 2 ^ (l + 1) ≤ 256 := pow8 (by omega)
  have hp2 := pow_s l
  unfold wp_X0_weigh
  cases h0 : s.testBit 0
  · refine isTaken_f (i := 0) (by omega) (by omega) h0 ⟨fun q => absurd rfl q, fun _ => ?_⟩
    have e : nI s >>> ((1 : Int32) &&& (31 : Int32)) = nI (s / 2) := shr_n (k := 1) (by omega) (by omega)
    rw [nI_pred, e]
    refine wow_sp (by omega) (by omega) ?_
    rw [hW _ (by omega), hx, nI_l (by omega), lN_mul, ← WT_f (y := y) h0]
    exact h
  · refine isTaken_t (i := 0) (by omega) (by omega) h0 ⟨fun _ => ?_, fun q => absurd q z10⟩
    rw [nI_pred]
    cases h1 : s.testBit l
    · obtain ⟨a1, a2, a3, a4, a5⟩ := ld_ok l hl s hs h0 h1
      refine isTaken_f (by omega) (by omega) h1 ⟨fun _ => ?_, fun q => absurd rfl q⟩
      unfold wp_X0_lastOfLeadingTaken
      refine lead_sp hl hs h0 h1 ?_ 20000 0 (by omega) (by omega)
      dsimp only
      rw [da_ok s (by omega), ea_ok s (by omega)]
      refine wow_sp (by omega) a4 (wow_sp (by omega) a5 ?_)
      rw [hW _ a4, hW _ a5, lN_add, ← WT_d h0 h1]
      exact h
    · obtain ⟨a1, -, a2⟩ := top_ok l hl s hs h1
      refine isTaken_t (by omega) (by omega) h1 ⟨fun q => absurd q z10, fun _ => ?_⟩
      rw [a1]
      refine wow_sp (by omega) a2 ?_
      rw [hW _ a2, hy, nI_l (by omega), lN_mul, ← WT_t h0 h1]
      exact h
def Trow (f : Nat → Int64) (x y l : Nat) : Prop := ∀ t, t < 2 ^ l → f (2 ^ l + t) = lN (WT x y l t)
def TC (f g : Nat → Int64) (x y : Nat) : Prop := (∀ l, l ≤ 8 → Trow f x y l) ∧ ∀ l, l ≤ 8 → g l = lN (SW x y l)
theorem waw27 {x y l : Nat} (hx9 : x ≤ 9) (hy9 : y ≤ 9) (hl : l < 8) {p : Int32} {g : Nat → Int64} {k : Int64 → Int32 → SC → Prop} (hk : ∀ f, (∀ j, j ≤ l + 1 → Trow f x y j) → k (lN (SW x y (l + 1))) (nI (2 ^ (l + 1))) (p, nI x, nI y, f, g)) :
    ∀ n i f, i ≤ 2 ^ (l + 1) → 2 ^ (l + 1) - i < n → (∀ j, j ≤ l → Trow f x y j) → (∀ t, t < i → f (2 ^ (l + 1) + t) = lN (WT x y (l + 1) t)) → wl_X0_weighAllWords_27 (nI (l + 1)) n (lN (fb_sm (WT x y (l + 1)) i)) (nI i) (p, nI x, nI y, f, g) k := by
  have hp : 2 ^ (l + 1) ≤ 256 := pow8 (by omega)
  intro n
  induction n with
  | zero => intro i f _ h; omega
  | succ n ih =>
    intro i f hi hn hT hR
    unfold wl_X0_weighAllWords_27
    rw [sh1 (l + 1) (by omega), nI_add, nI_1, nI_leI (by omega) (by omega)]
    refine ⟨fun q => ?_, fun q => ?_⟩
    · obtain rfl : i = 2 ^ (l + 1) := by omega
      refine hk f (fun j hj => ?_)
      by_cases e : j = l + 1
      · subst e; exact hR
      · exact hT j (by omega)
    · refine weigh_sp (σ := (p, nI x, nI y, f, g)) hx9 hy9 hl (by omega) rfl rfl (hT l (Nat.le_refl l)) ⟨vp_in_nI (by omega) (by omega), ?_⟩
      rw [lN_add, nI_clamp (by omega)]
      refine ih (i + 1) _ (by omega) (by omega) (fun j hj t ht => ?_) (fun t ht => ?_)
      · have hj2 : 2 ^ j ≤ 2 ^ l := Nat.pow_le_pow_right (by omega) hj
        have hp2 := pow_s l
        rw [pk_uLn (by omega)]
        exact hT j hj t ht
      · by_cases e : t = i
        · subst e; rw [pk_uLs]
        · rw [pk_uLn (by omega)]; exact hR t (by omega)
theorem waw16 {x y : Nat} (hx9 : x ≤ 9) (hy9 : y ≤ 9) {p : Int32} {k : Int32 → SC → Prop} (hk : ∀ f g, TC f g x y → k (nI 9) (p, nI x, nI y, f, g)) :
    ∀ n l f g, l ≤ 8 → 8 - l < n → (∀ j, j ≤ l → Trow f x y j) → (∀ j, j ≤ l → g j = lN (SW x y j)) → wl_X0_weighAllWords_16 n (nI (l + 1)) (p, nI x, nI y, f, g) k := by
  intro n
  induction n with
  | zero => intro l f g _ h; omega
  | succ n ih =>
    intro l f g hl hn hT hg
    unfold wl_X0_weighAllWords_16
    have e8 : ((8 : Int32) < nI (l + 1)) ↔ 8 < l + 1 := nI_ltI (a := 8) (by omega) (by omega)
    rw [e8]
    refine ⟨fun q => ?_, fun q => ?_⟩
    · obtain rfl : l = 8 := by omega
      exact hk f g ⟨hT, hg⟩
    · refine waw27 hx9 hy9 (by omega) (fun f2 h2 => ⟨vp_in_nI (by omega) (by omega), ?_⟩) 20000 0 f (Nat.zero_le _) (by have := pow8 (l := l + 1) (by omega); omega) hT (fun t ht => absurd ht (by omega))
      rw [nI_clamp (by omega), nI_1]
      refine ih (l + 1) _ _ (by omega) (by omega) h2 (fun j hj => ?_)
      by_cases e : j = l + 1
      · subst e; rw [pk_uLs]
      · rw [pk_uLn e]; exact hg j (by omega)
theorem waw_sp {x y : Nat} (hx9 : x ≤ 9) (hy9 : y ≤ 9) {p : Int32} {f g : Nat → Int64} {post : SC → Prop} (hk : ∀ f g, TC f g x y → post (p, nI x, nI y, f, g)) : wp_X0_weighAllWords (p, nI x, nI y, f, g) post := by
  unfold wp_X0_weighAllWords
  refine ⟨vp_in_nI (n := 1) (by omega) (by omega), vp_in_nI (n := 0) (by omega) (by omega), ?_⟩
  refine waw16 hx9 hy9 (k := fun _ σ => post σ) (fun f g h => hk f g h) 20000 0 _ _ (by omega) (by omega) (fun j hj t ht => ?_) (fun j hj => ?_)
  · obtain rfl : j = 0 := by omega
    obtain rfl : t = 0 := by simpa using ht
    rfl
  · obtain rfl : j = 0 := by omega
    rfl
theorem become_sp {n x y : Nat} (hx9 : x ≤ 9) (hy9 : y ≤ 9) {σ : SC} (hinv : σ.2.1 = nI x → σ.2.2.1 = nI y → TC σ.2.2.2.1 σ.2.2.2.2 x y) {post : SC → Prop} (hk : ∀ f g, TC f g x y → post (nI n, nI x, nI y, f, g)) : wp_X0_become (nI n) (nI x) (nI y) σ post := by
  unfold wp_X0_become
  refine ⟨fun _ => waw_sp hx9 hy9 hk, fun e1 => ⟨fun e2 => ?_, fun _ => waw_sp hx9 hy9 hk⟩⟩
  rw [← e1, ← e2]
  exact hk _ _ (hinv e1.symm e2.symm)
