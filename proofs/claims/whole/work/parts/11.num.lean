/-! numbers: shifts, bits, boolean answers -/
theorem sh1 : ∀ k, k < 31 → (1 : Int32) <<< (nI k &&& (31 : Int32)) = nI (2 ^ k) := by decide +kernel
theorem sh1m : ∀ k, k < 31 → ((1 : Int32) <<< (nI k &&& (31 : Int32))) - (1 : Int32) = nI (2 ^ k - 1) := by decide +kernel
theorem shr_n {s k : Nat} (hs : s < 2 ^ 31) (hk : k < 32) : nI s >>> (nI k &&& (31 : Int32)) = nI (s / 2 ^ k) := pk_shrN hs _ k (s_l k hk)
theorem tb_n {s k : Nat} (hs : s < 2 ^ 31) (hk : k < 32) : (nI s >>> (nI k &&& (31 : Int32))) &&& (1 : Int32) = nI (s / 2 ^ k % 2) := by
  rw [shr_n hs hk]
  have h : nI (s / 2 ^ k) &&& nI (2 ^ 1 - 1) = nI (s / 2 ^ k % 2 ^ 1) := fa_mask (s / 2 ^ k) 1
  exact h
theorem tb_eq {s k : Nat} : s.testBit k = decide (s / 2 ^ k % 2 = 1) := Nat.testBit_eq_decide_div_mod_eq
theorem tb_1 {s k : Nat} (hs : s < 2 ^ 31) (hk : k < 32) : ((nI s >>> (nI k &&& (31 : Int32))) &&& (1 : Int32)) = (1 : Int32) ↔ s.testBit k = true := by
  rw [tb_n hs hk, tb_eq, decide_eq_true_iff]
  exact nI_eq (a := s / 2 ^ k % 2) (b := 1) (by omega) (by omega)
theorem tb_0 {s k : Nat} (hs : s < 2 ^ 31) (hk : k < 32) : ((nI s >>> (nI k &&& (31 : Int32))) &&& (1 : Int32)) = 0 ↔ s.testBit k = false := by
  rw [tb_n hs hk, tb_eq, decide_eq_false_iff_not]
  have h := nI_eq (a := s / 2 ^ k % 2) (b := 0) (by omega) (by omega)
  exact h.trans ⟨fun h => by omega, fun h => by omega⟩
theorem isTaken_sp {s i : Nat} (hs : s < 2 ^ 31) (hi : i < 32) {post : Int32 → Prop} (h : post (if s.testBit i then 1 else 0)) : wp_X3_isTaken (nI s) (nI i) post := by
  unfold wp_X3_isTaken
  rw [tb_1 hs hi]
  cases hb : s.testBit i
  · rw [hb] at h; exact ⟨fun _ => h, fun q => by simp at q⟩
  · rw [hb] at h; exact ⟨fun q => absurd rfl q, fun _ => h⟩
theorem isWithin_sp {a b c : Int32} {post : Int32 → Prop} (h : post (if b ≤ a ∧ a ≤ c then 1 else 0)) : wp_X3_isWithin a b c post := by
  unfold wp_X3_isWithin
  refine ⟨fun q => ?_, fun q => ⟨fun q2 => ?_, fun q2 => ?_⟩⟩
  · rw [if_neg (fun z => (fa_of_lt q).2.1 z.1)] at h; exact h
  · rw [if_neg (fun z => (fa_of_lt q2).2.1 z.2)] at h; exact h
  · rw [if_pos ⟨fa_of_nlt q, fa_of_nlt q2⟩] at h; exact h
theorem in_sp {a b c : Int64} {post : Int32 → Prop} (h : post (if b ≤ a ∧ a ≤ c then 1 else 0)) : wp_X4_in a b c post := by
  unfold wp_X4_in
  simp only [fa_lt64, fa_le64] at h ⊢
  refine ⟨fun q => ?_, fun q => ⟨fun q2 => ?_, fun q2 => ?_⟩⟩
  · rw [if_neg (by omega)] at h; exact h
  · rw [if_neg (by omega)] at h; exact h
  · rw [if_pos (by omega)] at h; exact h
theorem in_sp32 {a b c : Int32} {post : Int32 → Prop} (h : post (if b ≤ a ∧ a ≤ c then 1 else 0)) : wp_X4_in a.toInt64 b.toInt64 c.toInt64 post := by
  refine in_sp ?_
  simp only [fa_wide_le]
  exact h
theorem isTaken_t {s i : Nat} (hs : s < 2 ^ 31) (hi : i < 32) (hb : s.testBit i = true) {post : Int32 → Prop} (h : post 1) : wp_X3_isTaken (nI s) (nI i) post := isTaken_sp hs hi (by rw [hb]; exact h)
theorem isTaken_f {s i : Nat} (hs : s < 2 ^ 31) (hi : i < 32) (hb : s.testBit i = false) {post : Int32 → Prop} (h : post 0) : wp_X3_isTaken (nI s) (nI i) post := isTaken_sp hs hi (by rw [hb]; exact h)
theorem z10 : ¬ (1 : Int32) = 0 := by decide
theorem pow8 {l : Nat} (h : l ≤ 8) : 2 ^ l ≤ 256 := Nat.pow_le_pow_right (n := 2) (by omega) h
theorem pow_s (l : Nat) : 2 ^ (l + 1) = 2 ^ l + 2 ^ l := by rw [Nat.pow_succ]; omega
