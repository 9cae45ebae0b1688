/-! all at once -/
def prB (P : Nat) (op : Int32) (so : Nat → Int32) (i : Nat) : Bool := if i = 0 then mvB P op so (P - 1) else mvB P op so (i - 1)
def tgS (P : Nat) (op : Int32) (so : Nat → Int32) (i : Nat) : Int32 := if mvB P op so i = true then 0 else if prB P op so i = true then 1 else if ¬ op = 0 ∧ i + 1 = P ∧ so i = 1 then 0 else if ¬ op = 0 ∧ i = 0 ∧ so 0 = 0 then 1 else so i
def tgA (P : Nat) (op : Int32) (A : AB) : AB := (tgS P op A.1, A.2.1 + (if ¬ op = 0 ∧ A.1 0 = 0 then 1 else 0), A.2.2.1 + (if ¬ op = 0 ∧ A.1 (P - 1) = 1 then 1 else 0), A.2.2.2 + nI (fb_ct (mvB P op A.1) P))
def no2 (P : Nat) (so : Nat → Int32) : Prop := ∀ i, i < P → so i = 0 ∨ so i = 1
section TG
variable {P : Nat} {op : Int32} {so : Nat → Int32}
theorem tg_no2 (h : no2 P so) : no2 P (tgS P op so) := fun i hi => by
  unfold tgS
  split
  · exact Or.inl rfl
  · split
    · exact Or.inr rfl
    · split
      · exact Or.inl rfl
      · split
        · exact Or.inr rfl
        · exact h i hi
/-- nobody steps to a place that is taken -/
theorem pr_0 (h2 : 2 ≤ P) {i : Nat} (hi : i < P) (h : so i = 1) : prB P op so i = false := by
  unfold prB
  by_cases e : i = 0
  · subst e
    rw [if_pos rfl]
    by_cases hq : so (P - 1) = 1
    · rw [mv_l hq (by omega), h]; simp
    · exact mv_n hq
  · rw [if_neg e]
    by_cases hq : so (i - 1) = 1
    · rw [mv_i hq (by omega), show i - 1 + 1 = i by omega, h]; decide
    · exact mv_n hq
theorem pr_o (ho : ¬ op = 0) (h2 : 2 ≤ P) : prB P op so 0 = false := by
  unfold prB
  rw [if_pos rfl]
  by_cases hq : so (P - 1) = 1
  · rw [mv_l hq (by omega), decide_eq_false ho, Bool.false_and]
  · exact mv_n hq
theorem tg_1 (h2 : 2 ≤ P) {i : Nat} (hi : i < P) (h : so i = 1) : decide (tgS P op so i = 1) = (!mvB P op so i && !(decide (¬ op = 0) && decide (i + 1 = P))) := by
  unfold tgS
  rw [pr_0 h2 hi h]
  cases mvB P op so i
  · rw [if_neg (by decide), if_neg (by decide)]
    by_cases ho : op = 0
    · rw [if_neg (fun z => z.1 ho), if_neg (fun z => z.1 ho), decide_eq_true h, decide_eq_false (show ¬ ¬ op = 0 from fun z => z ho)]
      rfl
    · by_cases e : i + 1 = P
      · rw [if_pos ⟨ho, e, h⟩, decide_eq_true ho, decide_eq_true e]
        decide
      · rw [if_neg (fun z => e z.2.1), if_neg (fun z => by have h9 := z.2.2; rw [← z.2.1, h] at h9; exact absurd h9 (by decide)), decide_eq_true h, decide_eq_false e]
        simp
  · rw [if_pos rfl]
    rfl
theorem tg_0 (h2 : 2 ≤ P) {i : Nat} (h : so i = 0) : decide (tgS P op so i = 1) = (prB P op so i || (decide (¬ op = 0) && decide (i = 0))) := by
  have hn : ¬ so i = 1 := by rw [h]; decide
  unfold tgS
  rw [mv_n hn, if_neg (by decide)]
  cases prB P op so i
  · rw [if_neg (by decide), if_neg (fun z => hn z.2.2)]
    by_cases ho : op = 0
    · rw [if_neg (fun z => z.1 ho), h, decide_eq_false (show ¬ ¬ op = 0 from fun z => z ho)]
      rfl
    · by_cases e : i = 0
      · subst e
        rw [if_pos ⟨ho, rfl, h⟩, decide_eq_true ho]
        rfl
      · rw [if_neg (fun z => e z.2.1), h, decide_eq_false e]
        simp
  · rw [if_pos rfl]
    rfl
end TG
theorem S_no {P : Nat} {F S : Int32} {so : Nat → Int32} (hB : BR P F S so) (hn : no2 P so) {i : Nat} (hi : i < 32) : bt S i = false := by
  rw [BR_S hB hi]
  by_cases h : i < P
  · rcases hn i h with e | e <;> rw [e] <;> simp <;> decide
  · rw [decide_eq_false h, Bool.false_and]
theorem BR_of {P : Nat} {F' S : Int32} {so' : Nat → Int32} (hS : ∀ i, i < 32 → bt S i = false) (hn : no2 P so') (hF : ∀ i, i < 32 → bt F' i = (decide (i < P) && decide (so' i = 1))) : BR P F' S so' := fun i hi => by
  refine ⟨fun h => ?_, fun h => ⟨by rw [hF i hi, decide_eq_false (show ¬ i < P by omega), Bool.false_and], hS i hi⟩, fun z => by rw [hS i hi] at z; exact absurd z.2 (by decide)⟩
  rw [sortI, hF i hi, hS i hi, decide_eq_true h, Bool.true_and]
  rcases hn i h with e | e <;> rw [e] <;> decide
theorem bit1_c {P p : Nat} (hp : p < P) (hP : P ≤ 30) {x : Int32} {b : Bool} (hx : ∀ i, i < 32 → bt x i = (decide (i = p) && b)) : fb_ct (bt x) 32 = if b = true then 1 else 0 := by
  cases b
  · exact fb_ct_zero.mpr (fun k hk => by rw [hx k hk, Bool.and_false])
  · have h1 := fb_ct_upd (fun _ => false) true (i := p) (n := 32) (by omega)
    have h0 : fb_ct (fun _ => false) 32 = 0 := fb_ct_zero.mpr (fun _ _ => rfl)
    rw [h0] at h1
    have h2 : fb_ct (bt x) 32 = fb_ct (fun k => if k = p then true else false) 32 := fb_ct_cong (fun k hk => by
      rw [hx k hk]
      by_cases e : k = p
      · simp [e]
      · simp [e])
    rw [h2]
    simpa using h1
theorem pr_s {P : Nat} {op : Int32} {so : Nat → Int32} {i : Nat} (h : ¬ i = 0) : prB P op so i = mvB P op so (i - 1) := by unfold prB; rw [if_neg h]
theorem open_sp {P : Nat} {op : Int32} {lot : Nat} {A : AB} {s : SS} (ho : ¬ op = 0) (h2 : 2 ≤ P) (hP : P ≤ 30) (hC : CR P op lot A s) (hn : no2 P A.1) {post : SS → Prop} (h : ∀ s', CR P op lot (tgA P op A) s' → post s') : wp_X2_stepOpenRow s post := by
  obtain ⟨F, S, hB, rfl⟩ := hC
  have e1 : nI P - (1 : Int32) = nI (P - 1) := pk_sub (b := 1) (by omega)
  unfold wp_X2_stepOpenRow
  dsimp only
  rw [e1]
  refine fwf_sp h2 hP hB (fun x hx => bitc_sp _ (bitc_sp _ ?_))
  have hgo : ∀ i, i < 32 → bt (F &&& ((1 : Int32) <<< (nI (P - 1) &&& (31 : Int32)))) i = (decide (i = P - 1) && decide (A.1 (P - 1) = 1)) := fun i hi => by
    rw [b_and, bt_sh1 (by omega) hi, BR_F hB hi]
    by_cases e : i = P - 1
    · rw [e, decide_eq_true (show P - 1 < P by omega)]
      simp
    · rw [decide_eq_false e, Bool.and_false, Bool.false_and]
  have hco : ∀ i, i < 32 → bt ((F ^^^ (-1 : Int32)) &&& (1 : Int32)) i = (decide (i = 0) && decide (A.1 0 = 0)) := fun i hi => by
    rw [b_and, b_xor, b_m1 i hi, bt_1 i hi, BR_F hB hi]
    by_cases e : i = 0
    · rw [e, decide_eq_true (show 0 < P by omega)]
      rcases hn 0 (by omega) with z | z <;> rw [z] <;> decide
    · rw [decide_eq_false e, Bool.and_false, Bool.false_and]
  have vco : (F ^^^ (-1 : Int32)) &&& (1 : Int32) = if ¬ op = 0 ∧ A.1 0 = 0 then 1 else 0 := by
    apply b_ext
    intro i hi
    rw [hco i hi]
    by_cases z : A.1 0 = 0
    · rw [if_pos ⟨ho, z⟩, bt_1 i hi, decide_eq_true z, Bool.and_true]
    · rw [if_neg (fun q => z q.2), b_0, decide_eq_false z, Bool.and_false]
  have vgo : nI (fb_ct (bt (F &&& ((1 : Int32) <<< (nI (P - 1) &&& (31 : Int32))))) 32) = if ¬ op = 0 ∧ A.1 (P - 1) = 1 then 1 else 0 := by
    rw [bit1_c (p := P - 1) (P := P) (by omega) hP hgo]
    by_cases z : A.1 (P - 1) = 1
    · rw [decide_eq_true z, if_pos rfl, if_pos (⟨ho, z⟩ : ¬ op = 0 ∧ A.1 (P - 1) = 1)]; rfl
    · rw [decide_eq_false z, if_neg (show ¬ false = true by decide), if_neg (fun q : ¬ op = 0 ∧ A.1 (P - 1) = 1 => z q.2)]; rfl
  rw [vgo, ct_cut (P := P) (g := mvB P op A.1) (by omega) hx]
  have t1 : (tgA P op A).2.1 = A.2.1 + ((F ^^^ (-1 : Int32)) &&& (1 : Int32)) := by rw [vco]; rfl
  refine h _ ⟨((((F &&& (x ^^^ (-1 : Int32))) &&& ((F &&& ((1 : Int32) <<< (nI (P - 1) &&& (31 : Int32)))) ^^^ (-1 : Int32))) ||| (x <<< ((1 : Int32) &&& (31 : Int32)))) ||| ((F ^^^ (-1 : Int32)) &&& (1 : Int32))), S, BR_of (so' := tgS P op A.1) (fun i hi => S_no hB hn hi) (tg_no2 hn) (fun i hi => ?_), by rw [t1]; rfl⟩
  have hsl := b_shl 1 (by omega) x hi
  have hsl' : bt (x <<< ((1 : Int32) &&& (31 : Int32))) i = (decide (1 ≤ i) && bt x (i - 1)) := hsl
  rw [b_or, b_or, b_and, b_and, b_xor, b_xor, b_m1 i hi, hgo i hi, hco i hi, hsl', hx i hi, hx (i - 1) (by omega), BR_F hB hi]
  by_cases h9 : i < P
  · rw [decide_eq_true h9]
    rcases hn i h9 with e | e
    · rw [tg_0 h2 e, mv_n (by rw [e]; decide), e, decide_eq_true ho]
      by_cases i0 : i = 0
      · subst i0
        rw [e, pr_o ho h2]
        simp
      · rw [pr_s i0, decide_eq_true (show 1 ≤ i by omega), decide_eq_true (show i - 1 < P by omega), decide_eq_false i0]
        simp
    · rw [tg_1 h2 h9 e, e, decide_eq_true ho]
      have hpr := pr_0 (op := op) h2 h9 e
      have hpz : (decide (1 ≤ i) && (decide (i - 1 < P) && mvB P op A.1 (i - 1))) = false := by
        by_cases i0 : i = 0
        · subst i0; rfl
        · rw [pr_s i0] at hpr; rw [hpr, Bool.and_false, Bool.and_false]
      rw [hpz]
      have hc0 : (decide (i = 0) && decide (A.1 0 = 0)) = false := by
        by_cases i0 : i = 0
        · subst i0; rw [e]; decide
        · rw [decide_eq_false i0, Bool.false_and]
      rw [hc0]
      by_cases il : i + 1 = P
      · have il2 : i = P - 1 := by omega
        rw [decide_eq_true il, decide_eq_true il2, ← il2, e]
        simp
      · have il2 : ¬ i = P - 1 := by omega
        rw [decide_eq_false il, decide_eq_false il2]
        simp
  · rw [decide_eq_false h9, Bool.false_and, Bool.false_and, Bool.false_and]
    have i0 : ¬ i = 0 := by omega
    rw [decide_eq_false i0]
    have hz : (decide (i - 1 < P) && mvB P op A.1 (i - 1)) = false := by
      by_cases z : i - 1 < P
      · by_cases hq : A.1 (i - 1) = 1
        · rw [mv_l hq (by omega), decide_eq_false ho, Bool.false_and, Bool.and_false]
        · rw [mv_n hq, Bool.and_false]
      · rw [decide_eq_false z, Bool.false_and]
    rw [hz]
    simp
theorem ring_sp {P : Nat} {op : Int32} {lot : Nat} {A : AB} {s : SS} (ho : op = 0) (h2 : 2 ≤ P) (hP : P ≤ 30) (hC : CR P op lot A s) (hn : no2 P A.1) {post : SS → Prop} (h : ∀ s', CR P op lot (tgA P op A) s' → post s') : wp_X2_stepRing s post := by
  obtain ⟨F, S, hB, rfl⟩ := hC
  have e1 : nI P - (1 : Int32) = nI (P - 1) := pk_sub (b := 1) (by omega)
  unfold wp_X2_stepRing wp_X2_allPlaces
  dsimp only
  rw [e1, sh1m P (by omega)]
  refine fwf_sp h2 hP hB (fun x hx => bitc_sp _ ?_)
  rw [ct_cut (P := P) (g := mvB P op A.1) (by omega) hx]
  have t1 : (tgA P op A).2.1 = A.2.1 := by dsimp only [tgA]; rw [if_neg (fun q => q.1 ho), Int32.add_zero]
  have t2 : (tgA P op A).2.2.1 = A.2.2.1 := by dsimp only [tgA]; rw [if_neg (fun q => q.1 ho), Int32.add_zero]
  refine h _ ⟨(((F &&& (x ^^^ (-1 : Int32))) ||| ((x <<< ((1 : Int32) &&& (31 : Int32))) &&& nI (2 ^ P - 1))) ||| (x >>> (nI (P - 1) &&& (31 : Int32)))), S, BR_of (so' := tgS P op A.1) (fun i hi => S_no hB hn hi) (tg_no2 hn) (fun i hi => ?_), by rw [t1, t2]; rfl⟩
  have hsl := b_shl 1 (by omega) x hi
  have hsl' : bt (x <<< ((1 : Int32) &&& (31 : Int32))) i = (decide (1 ≤ i) && bt x (i - 1)) := hsl
  have har : bt (x >>> (nI (P - 1) &&& (31 : Int32))) i = (decide (i = 0) && mvB P op A.1 (P - 1)) := by
    rw [b_sshr (P - 1) (by omega) x hi]
    by_cases i0 : i = 0
    · subst i0
      rw [if_pos (by omega), Nat.add_zero, hx _ (by omega), decide_eq_true (show P - 1 < P by omega)]
      simp
    · rw [decide_eq_false i0, Bool.false_and]
      by_cases z : P - 1 + i < 32
      · rw [if_pos z, hx _ z, decide_eq_false (show ¬ P - 1 + i < P by omega), Bool.false_and]
      · rw [if_neg z, hx 31 (by omega), decide_eq_false (show ¬ 31 < P by omega), Bool.false_and]
  rw [b_or, b_or, b_and, b_and, b_xor, b_m1 i hi, bt_all hi, hsl', har, hx i hi, hx (i - 1) (by omega), BR_F hB hi]
  have no : decide (¬ op = 0) = false := decide_eq_false (fun z => z ho)
  by_cases h9 : i < P
  · rw [decide_eq_true h9]
    have hpe : (decide (1 ≤ i) && (decide (i - 1 < P) && mvB P op A.1 (i - 1)) && true || decide (i = 0) && mvB P op A.1 (P - 1)) = prB P op A.1 i := by
      by_cases i0 : i = 0
      · subst i0
        unfold prB
        rw [if_pos rfl]
        simp
      · rw [pr_s i0, decide_eq_true (show 1 ≤ i by omega), decide_eq_true (show i - 1 < P by omega), decide_eq_false i0]
        simp
    rw [Bool.or_assoc, hpe]
    rcases hn i h9 with e | e
    · rw [tg_0 h2 e, mv_n (by rw [e]; decide), e, no]
      simp
    · rw [tg_1 h2 h9 e, pr_0 h2 h9 e, e, no]
      simp
  · rw [decide_eq_false h9]
    have i0 : ¬ i = 0 := by omega
    rw [decide_eq_false i0]
    simp
noncomputable def TT (P : Nat) (op : Int32) : Nat → AB → AB
  | 0, A => A
  | t + 1, A => TT P op t (tgA P op A)
noncomputable def cT (P : Nat) (op : Int32) : Nat → AB → Nat
  | 0, _ => 0
  | t + 1, A => fb_ct (mvB P op A.1) P + cT P op t (tgA P op A)
theorem TT_mv (P : Nat) (op : Int32) : ∀ t A, (TT P op t A).2.2.2 = A.2.2.2 + nI (cT P op t A)
  | 0, A => by rw [TT, cT]; exact (Int32.add_zero _).symm
  | t + 1, A => by
    rw [TT, cT, TT_mv P op t, ← nI_add, ← Int32.add_assoc]
    rfl
theorem cto {P T : Nat} {op : Int32} {w : Int32} (h2 : 2 ≤ P) (hP : P ≤ 30) (hT : T ≤ 1000) {lot : Nat} {k : Int32 → SS → Prop} : ∀ t n i A s, i + t = T → t < n → CR P op lot A s → no2 P A.1 → (∀ s', CR P op lot (TT P op t A) s' → k (nI T) s') → wl_X2_stepAllAtOnce_7 (nI T) w n (nI i) s k := by
  intro t
  induction t with
  | zero =>
    intro n i A s hi hn hC h0 hk
    obtain ⟨n, rfl⟩ : ∃ m, n = m + 1 := ⟨n - 1, by omega⟩
    obtain rfl : i = T := by omega
    unfold wl_X2_stepAllAtOnce_7
    exact ⟨fun _ => hk s hC, fun q => absurd ((nI_leI (by omega) (by omega)).mpr (Nat.le_refl i)) q⟩
  | succ t ih =>
    intro n i A s hi hn hC h0 hk
    obtain ⟨n, rfl⟩ : ∃ m, n = m + 1 := ⟨n - 1, by omega⟩
    have e2 : s.2.1 = op := by obtain ⟨F, S, -, rfl⟩ := hC; rfl
    unfold wl_X2_stepAllAtOnce_7
    rw [nI_leI (by omega) (by omega), nI_1, e2]
    refine ⟨fun q => absurd q (by omega), fun _ => ⟨fun q => ring_sp q h2 hP hC h0 (fun s' hC' => ?_), fun q => open_sp q h2 hP hC h0 (fun s' hC' => ?_)⟩⟩
    · exact ih n (i + 1) _ s' (by omega) (by omega) hC' (tg_no2 h0) hk
    · exact ih n (i + 1) _ s' (by omega) (by omega) hC' (tg_no2 h0) hk
