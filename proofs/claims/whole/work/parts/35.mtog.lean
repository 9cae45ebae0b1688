/-! the reference's all at once -/
section MT2
variable {P : Nat} {op : Int32} {n1 x1 y1 : Int32} {m1 : Nat → Int64} {sd : Int64} {i1 o1 mv ldt : Int32}
theorem mt29_1 {w : Int32} {σ : SM} (e : σ.2.2.2.2.1 = nI P) (hP : P ≤ 30) {k : Int32 → Int32 → Prop} (hk : ∀ z, k 1 z) : ∀ n p, p ≤ P → P - p < n → wl_X4_together_29 w σ n 1 (nI p) k := by
  intro n
  induction n with
  | zero => intro p _ h; omega
  | succ n ih =>
    intro p hp hn
    unfold wl_X4_together_29
    rw [e, nI_leI (by omega) (by omega), nI_1]
    exact ⟨fun _ => hk _, fun q => ⟨fun _ => ih (p + 1) (by omega) (by omega), fun z => absurd z z10⟩⟩
theorem mt29 {w : Int32} {ma be so : Nat → Int32} (hP : P ≤ 30) (hm : ∀ i, i < P → ma i = so i) {k : Int32 → Int32 → Prop} (h1 : (∃ i, i < P ∧ so i = 2) → ∀ z, k 1 z) (h0 : (∀ i, i < P → ¬ so i = 2) → ∀ z, k 0 z) : ∀ n p, p ≤ P → P - p < n → (∀ i, i < p → ¬ so i = 2) → wl_X4_together_29 w (n1, x1, y1, m1, nI P, op, sd, ma, be, i1, o1, mv, ldt) n 0 (nI p) k := by
  intro n
  induction n with
  | zero => intro p _ h; omega
  | succ n ih =>
    intro p hp hn hz
    unfold wl_X4_together_29
    dsimp only
    rw [nI_leI (by omega) (by omega), nI_1, nI_clamp (by omega)]
    refine ⟨fun q => h0 (fun i hi => hz i (by omega)) _, fun q => ⟨fun z => absurd rfl z, fun _ => ⟨vp_in_nI (by omega) (by omega), fun z => ?_, fun z => ?_⟩⟩⟩
    · refine ih (p + 1) (by omega) (by omega) (fun i hi => ?_)
      by_cases ei : i = p
      · subst ei; rw [hm i (by omega)] at z; exact z
      · exact hz i (by omega)
    · exact mt29_1 (P := P) rfl hP (h1 ⟨p, by omega, by rw [← hm p (by omega)]; exact z⟩) n (p + 1) (by omega) (by omega)
theorem mt84 {w1 w2 w3 w4 : Int32} {ma : Nat → Int32} (hP : P ≤ 30) {k : Int32 → SM → Prop} (hk : ∀ be, (∀ i, i < P → be i = ma i) → k (nI P) (n1, x1, y1, m1, nI P, op, sd, ma, be, i1, o1, mv, ldt)) : ∀ n p be, p ≤ P → P - p < n → (∀ i, i < p → be i = ma i) → wl_X4_together_84 w1 w2 w3 w4 n (nI p) (n1, x1, y1, m1, nI P, op, sd, ma, be, i1, o1, mv, ldt) k := by
  intro n
  induction n with
  | zero => intro p be _ h; omega
  | succ n ih =>
    intro p be hp hn hb
    unfold wl_X4_together_84
    dsimp only
    rw [nI_leI (by omega) (by omega), nI_1, nI_clamp (by omega)]
    refine ⟨fun q => ?_, fun q => ⟨vp_in_nI (by omega) (by omega), vp_in_nI (by omega) (by omega), ih (p + 1) _ (by omega) (by omega) (fun i hi => ?_)⟩⟩
    · obtain rfl : p = P := by omega
      exact hk be hb
    · by_cases ei : i = p
      · subst ei; rw [pk_us]
      · rw [pk_un ei]; exact hb i (by omega)
/-- the row behind p of the movers -/
def inB (P : Nat) (op : Int32) (so : Nat → Int32) (p j : Nat) : Bool := if j = 0 then decide (P ≤ p) && mvB P op so (P - 1) else decide (j - 1 < p) && mvB P op so (j - 1)
def cur (P : Nat) (op : Int32) (so : Nat → Int32) (p j : Nat) : Int32 := if (decide (j < p) && mvB P op so j) = true then 0 else if inB P op so p j = true then 1 else so j
theorem inB_ne {so : Nat → Int32} {p j : Nat} (h1 : ¬ j = p + 1) (h2 : ¬ (j = 0 ∧ p + 1 = P)) (hj : j < P) : inB P op so (p + 1) j = inB P op so p j := by
  unfold inB
  by_cases e : j = 0
  · rw [if_pos e, if_pos e, show decide (P ≤ p + 1) = decide (P ≤ p) from decide_eq_decide.mpr (by omega)]
  · rw [if_neg e, if_neg e, show decide (j - 1 < p + 1) = decide (j - 1 < p) from decide_eq_decide.mpr (by omega)]
theorem cur_no {so : Nat → Int32} {p : Nat} (h : mvB P op so p = false) (hp : p < P) {j : Nat} (hj : j < P) : cur P op so (p + 1) j = cur P op so p j := by
  unfold cur
  have e1 : (decide (j < p + 1) && mvB P op so j) = (decide (j < p) && mvB P op so j) := by
    by_cases e : j = p
    · subst e; rw [h, Bool.and_false, Bool.and_false]
    · rw [show decide (j < p + 1) = decide (j < p) from decide_eq_decide.mpr (by omega)]
  have e2 : inB P op so (p + 1) j = inB P op so p j := by
    by_cases a1 : j = p + 1
    · unfold inB
      rw [if_neg (show ¬ j = 0 by omega), if_neg (show ¬ j = 0 by omega), show j - 1 = p by omega, h, Bool.and_false, Bool.and_false]
    · by_cases a2 : j = 0 ∧ p + 1 = P
      · unfold inB
        rw [if_pos a2.1, if_pos a2.1, show P - 1 = p by omega, h, Bool.and_false, Bool.and_false]
      · exact inB_ne a1 a2 hj
  rw [e1, e2]
theorem cur_yes {so : Nat → Int32} {p q : Nat} (h2 : 2 ≤ P) (h : mvB P op so p = true) (hp : p < P) (hq : q = if p + 1 = P then 0 else p + 1) (hq0 : so q = 0) {ma : Nat → Int32} (hm : ∀ i, i < P → ma i = cur P op so p i) {j : Nat} (hj : j < P) : upd (upd ma p 0) q 1 j = cur P op so (p + 1) j := by
  have hqp : ¬ q = p := by rw [hq]; split <;> omega
  by_cases ej : j = q
  · subst ej
    rw [pk_us]
    unfold cur
    rw [mv_n (by rw [hq0]; decide), Bool.and_false, if_neg (by decide)]
    have : inB P op so (p + 1) j = true := by
      unfold inB
      by_cases e : p + 1 = P
      · rw [if_pos e] at hq
        rw [if_pos hq, show P - 1 = p by omega, h, decide_eq_true (show P ≤ p + 1 by omega)]; rfl
      · rw [if_neg e] at hq
        rw [if_neg (show ¬ j = 0 by omega), show j - 1 = p by omega, h, decide_eq_true (show p < p + 1 by omega)]; rfl
    rw [this, if_pos rfl]
  · rw [pk_un ej]
    by_cases ep : j = p
    · subst ep
      rw [pk_us]
      unfold cur
      rw [h, decide_eq_true (show j < j + 1 by omega)]; rfl
    · rw [pk_un ep, hm j hj]
      unfold cur
      have e1 : (decide (j < p + 1) && mvB P op so j) = (decide (j < p) && mvB P op so j) := by
        rw [show decide (j < p + 1) = decide (j < p) from decide_eq_decide.mpr (by omega)]
      have e2 : inB P op so (p + 1) j = inB P op so p j := by
        refine inB_ne (fun z => ?_) (fun z => ?_) hj
        · rw [if_neg (show ¬ p + 1 = P by omega)] at hq; omega
        · rw [if_pos z.2] at hq; omega
      rw [e1, e2]
theorem mt116 {w1 w2 w4 : Int32} {be so : Nat → Int32} {mv0 : Int32} {c0 : Nat} (h2 : 2 ≤ P) (hP : P ≤ 30) (hb : ∀ i, i < P → be i = so i) (hs : no2 P so) {k : Int32 → Int32 → SM → Prop} (hk : ∀ ma, (∀ i, i < P → ma i = cur P op so P i) → k (nI (c0 + fb_ct (mvB P op so) P)) (nI P) (n1, x1, y1, m1, nI P, op, sd, ma, be, i1, o1, mv0 + nI (fb_ct (mvB P op so) P), ldt)) : ∀ n p ma, p ≤ P → P - p < n → (∀ i, i < P → ma i = cur P op so p i) → wl_X4_together_116 w1 w2 w4 n (nI (c0 + fb_ct (mvB P op so) p)) (nI p) (n1, x1, y1, m1, nI P, op, sd, ma, be, i1, o1, mv0 + nI (fb_ct (mvB P op so) p), ldt) k := by
  intro n
  induction n with
  | zero => intro p ma _ h; omega
  | succ n ih =>
    intro p ma hp hn hm
    by_cases hpe : p = P
    · subst hpe
      unfold wl_X4_together_116
      exact ⟨fun _ => hk ma hm, fun q => absurd ((nI_leI (by omega) (by omega)).mpr (Nat.le_refl p)) q⟩
    · have hpl : p < P := by omega
      have f3 : fb_ct (mvB P op so) (p + 1) = fb_ct (mvB P op so) p + (if mvB P op so p = true then 1 else 0) := fb_ct_succ _ _
      have L0 : mvB P op so p = false → wl_X4_together_116 w1 w2 w4 n (nI (c0 + fb_ct (mvB P op so) p)) (nI (p + 1)) (n1, x1, y1, m1, nI P, op, sd, ma, be, i1, o1, mv0 + nI (fb_ct (mvB P op so) p), ldt) k := fun hf => by
        have := ih (p + 1) ma (by omega) (by omega) (fun i hi => by rw [cur_no hf hpl hi]; exact hm i hi)
        rw [f3, hf, if_neg (by decide), Nat.add_zero] at this
        exact this
      have L1 : ∀ q, mvB P op so p = true → q = (if p + 1 = P then 0 else p + 1) → so q = 0 → wl_X4_together_116 w1 w2 w4 n (nI (c0 + fb_ct (mvB P op so) p) + (1 : Int32)) (nI (p + 1)) (n1, x1, y1, m1, nI P, op, sd, upd (upd ma p 0) q 1, be, i1, o1, mv0 + nI (fb_ct (mvB P op so) p) + (1 : Int32), ldt) k := fun q hf hq hq0 => by
        have := ih (p + 1) (upd (upd ma p 0) q 1) (by omega) (by omega) (fun i hi => cur_yes h2 hf hpl hq hq0 hm hi)
        rw [f3, hf, if_pos rfl, ← Nat.add_assoc] at this
        rw [nI_1, Int32.add_assoc, nI_1]
        exact this
      have v0 : vp_in (nI p) 30 := vp_in_nI (by omega) (by omega)
      have vz : vp_in (0 : Int32) 30 := vp_in_nI (n := 0) (by omega) (by omega)
      have c0' : (0 : Int32).toNatClampNeg = 0 := rfl
      unfold wl_X4_together_116
      dsimp only
      rw [nI_leI (by omega) (by omega), nI_1, nI_eq (by omega) (by omega), nI_clamp (by omega), nI_clamp (by omega), c0', hb p hpl, hb 0 (by omega)]
      refine ⟨fun q => absurd q (by omega), fun _ => ⟨fun q => ?_, fun q => ?_⟩⟩
      · have hq : p + 1 < P := by omega
        have v1 : vp_in (nI (p + 1)) 30 := vp_in_nI (by omega) (by omega)
        rw [hb (p + 1) hq]
        refine ⟨v0, fun z => L0 (mv_n z), fun e => ⟨v1, fun ht => L0 (by rw [mv_i e hq, decide_eq_false ht]), fun ht => ⟨fun _ => ⟨v0, v1, L1 (p + 1) (by rw [mv_i e hq, decide_eq_true ht]) (by rw [if_neg q]) ht⟩, fun z => absurd (nI_lt (a := 0) (by omega) (by omega)) z⟩⟩⟩
      · refine ⟨v0, fun z => L0 (mv_n z), fun e => ⟨vz, fun ht => L0 (by rw [mv_l e q, decide_eq_false ht, Bool.and_false]), fun ht => ⟨fun ho => L0 (by rw [mv_l e q, decide_eq_false ho, Bool.false_and]), fun ho => ⟨v0, vz, L1 0 (by rw [mv_l e q, decide_eq_true ho, decide_eq_true ht]; rfl) (by rw [if_pos q]) ht⟩⟩⟩⟩
end MT2
