/-! rings -/
def nx (m q : Nat) : Nat := if q = 0 then m - 1 else q - 1
def fnd (m s : Nat) : Nat → Nat → Nat
  | 0, q => q
  | t + 1, q => if s.testBit q then q else fnd m s t (nx m q)
def fdd (m s : Nat) : Nat → Nat → Bool
  | 0, _ => false
  | t + 1, q => s.testBit q || fdd m s t (nx m q)
theorem fdd_ok : ∀ m, m < 9 → ∀ q, q < m → ∀ s, s < 2 ^ m → 0 < s → (fdd m s m q && s.testBit (fnd m s m q) && decide (fnd m s m q < m)) = true := by decide +kernel
def dif (l f : Nat) : Nat := l &&& (l ^^^ f)
theorem dif_tb (l f i : Nat) : (dif l f).testBit i = (l.testBit i && !f.testBit i) := by
  unfold dif
  rw [Nat.testBit_and, Nat.testBit_xor]
  cases l.testBit i <;> cases f.testBit i <;> rfl
theorem dif_I {l f : Nat} : (nI l &&& (nI f ^^^ (-1 : Int32))) = nI (dif l f) := by
  apply b_ext
  intro i hi
  rw [b_and, b_xor, b_m1 i hi, bt_nI hi, bt_nI hi, bt_nI hi, dif_tb]
  cases l.testBit i <;> cases f.testBit i <;> rfl
theorem dif_lt {l f m : Nat} (h : l < 2 ^ m) : dif l f < 2 ^ m := by
  unfold dif
  rw [Nat.and_comm]
  exact Nat.and_lt_two_pow _ h
theorem ff5 {m s : Nat} {z : Int32} (hm : m < 9) (hs : s < 2 ^ m) {post : Int32 → Prop} {k : Int32 → Int32 → Prop} : ∀ n t q, fdd m s (m - t) q = true → t ≤ m → m - t < n → q < m → post (nI (2 ^ (fnd m s (m - t) q))) → wl_X1_firstFrom_5 (nI m) z (nI s) post n (nI q) (nI t) k := by
  have hp : 2 ^ m ≤ 256 := pow8 (by omega)
  intro n
  induction n with
  | zero => intro t q _ _ h; omega
  | succ n ih =>
    intro t q hd ht hn hq hpost
    obtain ⟨j, hj⟩ : ∃ j, m - t = j := ⟨_, rfl⟩
    rw [hj] at hd hpost
    cases j with
    | zero => exact absurd (show false = true from hd) (by decide)
    | succ j =>
      unfold wl_X1_firstFrom_5
      rw [nI_leI (by omega) (by omega)]
      refine ⟨fun z => absurd z (by omega), fun _ => ?_⟩
      rw [fdd] at hd
      rw [fnd] at hpost
      cases hb : s.testBit q
      · rw [hb, if_neg (by decide)] at hpost
        rw [hb, Bool.false_or] at hd
        refine isTaken_f (by omega) (by omega) hb ⟨fun _ => ?_, fun z => absurd rfl z⟩
        rw [nI_1]
        have hj2 : m - (t + 1) = j := by omega
        have eq0 : (nI q = 0) ↔ q = 0 := nI_eq (a := q) (b := 0) (by omega) (by omega)
        rw [eq0]
        refine ⟨fun z => ?_, fun z => ?_⟩
        · obtain ⟨q', rfl⟩ : ∃ q', q = q' + 1 := ⟨q - 1, by omega⟩
          rw [nx, if_neg (by omega), Nat.add_sub_cancel] at hd hpost
          rw [nI_pred]
          exact ih (t + 1) q' (by rw [hj2]; exact hd) (by omega) (by omega) (by omega) (by rw [hj2]; exact hpost)
        · rw [nx, if_pos z] at hd hpost
          obtain ⟨m', rfl⟩ : ∃ m', m = m' + 1 := ⟨m - 1, by omega⟩
          rw [Nat.add_sub_cancel] at hd hpost
          rw [nI_pred]
          exact ih (t + 1) m' (by rw [hj2]; exact hd) (by omega) (by omega) (by omega) (by rw [hj2]; exact hpost)
      · rw [hb, if_pos rfl] at hpost
        refine isTaken_t (by omega) (by omega) hb ⟨fun z => absurd z z10, fun _ => ?_⟩
        rw [sh1 q (by omega)]
        exact hpost
theorem firstFrom_sp {m q s : Nat} (hm : m < 9) (hq : q < m) (hs : s < 2 ^ m) (h0 : 0 < s) {post : Int32 → Prop} (h : post (nI (2 ^ (fnd m s m q)))) : wp_X1_firstFrom (nI m) (nI q) (nI s) post := by
  have hd := fdd_ok m hm q hq s hs h0
  simp only [Bool.and_eq_true, decide_eq_true_eq] at hd
  unfold wp_X1_firstFrom
  exact ff5 hm hs 20000 0 q hd.1.1 (by omega) (by omega) hq h
theorem mq25 {m s l f : Nat} {x1 x4 : Int32} (hs : s = dif l f) (hm : m < 9) (hl : s < 2 ^ m) {k : Int32 → Prop} : ∀ j n q, fdd m s j q = true → j < n → q < m → k (nI (fnd m s j q)) → wl_X4_queued_25 (nI m) x1 (nI l) (nI f) x4 n (nI q) k := by
  have hp : 2 ^ m ≤ 256 := pow8 (by omega)
  intro j
  induction j with
  | zero => intro n q h; exact absurd (show false = true from h) (by decide)
  | succ j ih =>
    intro n q hd hn hq hk
    obtain ⟨n, rfl⟩ : ∃ n', n = n' + 1 := ⟨n - 1, by omega⟩
    unfold wl_X4_queued_25
    rw [dif_I, ← hs, tb_0 (by omega) (by omega)]
    rw [fdd] at hd
    rw [fnd] at hk
    cases hb : s.testBit q
    · rw [hb, if_neg (by decide)] at hk
      rw [hb, Bool.false_or] at hd
      have eq0 : (nI q = 0) ↔ q = 0 := nI_eq (a := q) (b := 0) (by omega) (by omega)
      rw [eq0]
      refine ⟨fun z => absurd rfl z, fun _ => ⟨fun z => ?_, fun z => ?_⟩⟩
      · obtain ⟨q', rfl⟩ : ∃ q', q = q' + 1 := ⟨q - 1, by omega⟩
        rw [nx, if_neg (by omega), Nat.add_sub_cancel] at hd hk
        rw [nI_pred]
        exact ih n q' hd (by omega) (by omega) hk
      · rw [nx, if_pos z] at hd hk
        obtain ⟨m', rfl⟩ : ∃ m', m = m' + 1 := ⟨m - 1, by omega⟩
        rw [Nat.add_sub_cancel] at hd hk
        rw [nI_pred]
        exact ih n m' hd (by omega) (by omega) hk
    · rw [hb, if_pos rfl] at hk
      exact ⟨fun _ => hk, fun z => absurd z (by decide)⟩
def sv (m u l : Nat) : Nat → Nat
  | 0 => 0
  | p + 1 => if u.testBit p then sv m u l p ||| 2 ^ (fnd m (dif l (sv m u l p)) m p) else sv m u l p
def ct8 (s : Nat) : Nat := fb_ct s.testBit 8
/-- what is used lies in the lower row, one for each of the upper one; so there is a next -/
theorem sv_ok {m u l : Nat} (hm : m < 9) (hu : u < 2 ^ m) (hl : l < 2 ^ m) (hc : ct8 u < ct8 l) : ∀ p, p ≤ m → sv m u l p < 2 ^ m ∧ (∀ i, (sv m u l p).testBit i = true → l.testBit i = true) ∧ ct8 (sv m u l p) = fb_ct u.testBit p ∧ (p < m → u.testBit p = true → 0 < dif l (sv m u l p)) := by
  have hp : 2 ^ m ≤ 256 := pow8 (by omega)
  have nxt : ∀ p, p < m → u.testBit p = true → (∀ i, (sv m u l p).testBit i = true → l.testBit i = true) → ct8 (sv m u l p) = fb_ct u.testBit p → 0 < dif l (sv m u l p) := by
    intro p hpm hb hsub hct
    rcases Nat.eq_zero_or_pos (dif l (sv m u l p)) with e | e
    · exfalso
      have h1 : ct8 l ≤ ct8 (sv m u l p) := fb_ct_sub (fun k _ hk => by
        have := dif_tb l (sv m u l p) k
        rw [e, hk, Nat.zero_testBit] at this
        cases h : (sv m u l p).testBit k
        · rw [h] at this; exact absurd this (by decide)
        · rfl)
      have h2 : fb_ct u.testBit (p + 1) ≤ ct8 u := by
        unfold ct8
        exact fb_ct_mono _ (by omega)
      rw [fb_ct_succ, hb, if_pos rfl] at h2
      omega
    · exact e
  intro p
  induction p with
  | zero =>
    intro _
    have z : ct8 (sv m u l 0) = 0 := (by decide : ct8 0 = 0)
    refine ⟨Nat.two_pow_pos m, fun i h => ?_, z, fun h1 h2 => nxt 0 h1 h2 (fun i h => ?_) z⟩
    · rw [sv, Nat.zero_testBit] at h; exact absurd h (by decide)
    · rw [sv, Nat.zero_testBit] at h; exact absurd h (by decide)
  | succ p ih =>
    intro hpm
    obtain ⟨i1, i2, i3, i4⟩ := ih (by omega)
    cases hb : u.testBit p
    · have e : sv m u l (p + 1) = sv m u l p := by rw [sv, hb, if_neg (by decide)]
      have ec : ct8 (sv m u l (p + 1)) = fb_ct u.testBit (p + 1) := by rw [e, i3, fb_ct_succ, hb, if_neg (by decide), Nat.add_zero]
      refine ⟨by rw [e]; exact i1, by rw [e]; exact i2, ec, fun h1 h2 => nxt (p + 1) h1 h2 (by rw [e]; exact i2) ec⟩
    · have hd := fdd_ok m hm p (by omega) _ (dif_lt (f := sv m u l p) hl) (i4 (by omega) hb)
      simp only [Bool.and_eq_true, decide_eq_true_eq] at hd
      obtain ⟨⟨-, d2⟩, d3⟩ := hd
      rw [dif_tb, Bool.and_eq_true, Bool.not_eq_true'] at d2
      generalize hq : fnd m (dif l (sv m u l p)) m p = q at d2 d3
      have e : sv m u l (p + 1) = sv m u l p ||| 2 ^ q := by rw [sv, hb, if_pos rfl, hq]
      have htb : ∀ i, (sv m u l (p + 1)).testBit i = if i = q then true else (sv m u l p).testBit i := fun i => by
        rw [e, fb_bit_set]
        by_cases hi : i = q
        · simp [hi]
        · simp [hi]
      have hsub : ∀ i, (sv m u l (p + 1)).testBit i = true → l.testBit i = true := fun i h => by
        rw [htb] at h
        by_cases hi : i = q
        · rw [hi]; exact d2.1
        · rw [if_neg hi] at h; exact i2 i h
      have ec : ct8 (sv m u l (p + 1)) = fb_ct u.testBit (p + 1) := by
        have h1 := fb_ct_upd (sv m u l p).testBit true (i := q) (n := 8) (by omega)
        rw [d2.2, if_neg (by decide), if_pos rfl, Nat.add_zero] at h1
        have h2 : ct8 (sv m u l (p + 1)) = fb_ct (fun k => if k = q then true else (sv m u l p).testBit k) 8 := fb_ct_cong (fun k _ => htb k)
        rw [h2, h1, fb_ct_succ u.testBit p, hb, if_pos rfl]
        show ct8 (sv m u l p) + 1 = _
        rw [i3]
      refine ⟨?_, hsub, ec, fun h1 h2 => nxt (p + 1) h1 h2 hsub ec⟩
      rw [e]
      exact Nat.or_lt_two_pow i1 (Nat.pow_lt_pow_right (by omega) d3)
theorem csv5 {m u l : Nat} (hm : m < 9) (hu : u < 2 ^ m) (hl : l < 2 ^ m) (hc : ct8 u < ct8 l) {k : Int32 → Int32 → Prop} (hk : ∀ z, k (nI (sv m u l m)) z) : ∀ n p, p ≤ m → m - p < n → wl_X1_servedPlaces_5 (nI m) (nI u) (nI l) n (nI (sv m u l p)) (nI p) k := by
  have hp : 2 ^ m ≤ 256 := pow8 (by omega)
  intro n
  induction n with
  | zero => intro p _ h; omega
  | succ n ih =>
    intro p hpm hn
    unfold wl_X1_servedPlaces_5
    rw [nI_leI (by omega) (by omega), nI_1]
    refine ⟨fun q => ?_, fun q => ?_⟩
    · obtain rfl : p = m := by omega
      exact hk _
    · have hnx := ih (p + 1) (by omega) (by omega)
      cases hb : u.testBit p
      · refine isTaken_f (by omega) (by omega) hb ⟨fun _ => ?_, fun z => absurd rfl z⟩
        rw [sv, hb, if_neg (by decide)] at hnx
        exact hnx
      · refine isTaken_t (by omega) (by omega) hb ⟨fun z => absurd z z10, fun _ => ?_⟩
        rw [dif_I]
        refine firstFrom_sp hm (by omega) (dif_lt hl) ((sv_ok hm hu hl hc p (by omega)).2.2.2 (by omega) hb) ?_
        rw [sv, hb, if_pos rfl] at hnx
        rw [fa_or]
        exact hnx
theorem served_sp {m u l : Nat} (hm : m < 9) (hu : u < 2 ^ m) (hl : l < 2 ^ m) (hc : ct8 u < ct8 l) {post : Int32 → Prop} (h : post (nI (sv m u l m))) : wp_X1_servedPlaces (nI m) (nI u) (nI l) post := by
  unfold wp_X1_servedPlaces
  exact csv5 hm hu hl hc (fun _ => h) 20000 0 (by omega) (by omega)
theorem mq5 {m u l : Nat} (hm : m < 9) (hu : u < 2 ^ m) (hl : l < 2 ^ m) (hc : ct8 u < ct8 l) {k : Int32 → Int32 → Prop} (hk : ∀ z, k (nI (sv m u l m)) z) : ∀ n p, p ≤ m → m - p < n → wl_X4_queued_5 (nI m) (nI u) (nI l) n (nI (sv m u l p)) (nI p) k := by
  have hp : 2 ^ m ≤ 256 := pow8 (by omega)
  intro n
  induction n with
  | zero => intro p _ h; omega
  | succ n ih =>
    intro p hpm hn
    unfold wl_X4_queued_5
    rw [nI_leI (by omega) (by omega), nI_1]
    refine ⟨fun q => ?_, fun q => ?_⟩
    · obtain rfl : p = m := by omega
      exact hk _
    · have hnx := ih (p + 1) (by omega) (by omega)
      rw [tb_1 (by omega) (by omega)]
      refine ⟨fun hb => ?_, fun hb => ?_⟩
      · rw [sv, if_neg hb] at hnx
        exact hnx
      · have h0 := (sv_ok hm hu hl hc p (by omega)).2.2.2 (by omega) hb
        have hd := fdd_ok m hm p (by omega) _ (dif_lt (f := sv m u l p) hl) h0
        simp only [Bool.and_eq_true, decide_eq_true_eq] at hd
        refine mq25 rfl hm (dif_lt hl) m 20000 p hd.1.1 (by omega) (by omega) ?_
        rw [sv, if_pos hb] at hnx
        rw [sh1 _ (by omega), fa_or]
        exact hnx
/-- the ring's number -/
def srt (f l : Nat) (p : Nat) : Nat := if l.testBit p then (if f.testBit p then 1 else 2) else 0
def NR (f l m : Nat) : Nat := fb_sm (fun p => 3 ^ p * srt f l p) m
theorem mq80 {m u l f : Nat} {x1 : Int32} (hm : m < 9) (hl : l < 2 ^ m) (hf : f < 2 ^ m) (hsub : ∀ i, f.testBit i = true → l.testBit i = true) {k : Int32 → Int32 → Int32 → Prop} (hk : ∀ z z2, k (nI (NR f l m)) z z2) : ∀ n p, p ≤ m → m - p < n → wl_X4_queued_80 (nI m) x1 (nI l) (nI f) n (nI (NR f l p)) (nI (3 ^ p)) (nI p) k := by
  have hp : 2 ^ m ≤ 256 := pow8 (by omega)
  intro n
  induction n with
  | zero => intro p _ h; omega
  | succ n ih =>
    intro p hpm hn
    unfold wl_X4_queued_80
    rw [nI_leI (by omega) (by omega), nI_1, tb_1 (by omega) (by omega), tb_1 (by omega) (by omega)]
    refine ⟨fun q => ?_, fun q => ?_⟩
    · obtain rfl : p = m := by omega
      exact hk _ _
    · have hnx := ih (p + 1) (by omega) (by omega)
      rw [NR, fb_sm_succ, Nat.pow_succ] at hnx
      have e3 : nI (3 ^ p) * (3 : Int32) = nI (3 ^ p * 3) := pk_mul (3 ^ p) 3
      have e0 : nI (3 ^ p) * (0 : Int32) = nI (3 ^ p * 0) := pk_mul (3 ^ p) 0
      have e1 : nI (3 ^ p) * (1 : Int32) = nI (3 ^ p * 1) := pk_mul (3 ^ p) 1
      have e2 : nI (3 ^ p) * (2 : Int32) = nI (3 ^ p * 2) := pk_mul (3 ^ p) 2
      rw [e3, e0, e1, e2, nI_add, nI_add, nI_add]
      refine ⟨fun hf0 => ⟨fun hl0 => ?_, fun hl0 => ?_⟩, fun hf1 => ?_⟩
      · have : srt f l p = 0 := by rw [srt, if_neg hl0]
        rw [this] at hnx
        exact hnx
      · have : srt f l p = 2 := by rw [srt, if_pos hl0, if_neg hf0]
        rw [this] at hnx
        exact hnx
      · have : srt f l p = 1 := by rw [srt, if_pos (hsub p hf1), if_pos hf1]
        rw [this] at hnx
        exact hnx
theorem queued_sp {m u l : Nat} (hm : m < 9) (hu : u < 2 ^ m) (hl : l < 2 ^ m) (hc : ct8 u < ct8 l) {post : Int32 → Prop} (h : post (nI (NR (sv m u l m) l m))) : wp_X4_queued (nI m) (nI u) (nI l) post := by
  obtain ⟨s1, s2, -, -⟩ := sv_ok hm hu hl hc m (by omega)
  unfold wp_X4_queued
  refine mq5 hm hu hl hc (fun _ => ?_) 20000 0 (by omega) (by omega)
  exact mq80 (u := u) hm hl s1 s2 (fun _ _ => h) 20000 0 (by omega) (by omega)
theorem cnum7 {m f l T : Nat} {x0 : Int32} (hm : m < 9) (hl : l < 2 ^ m) (hf : f < 2 ^ m) {k : Int32 → Int32 → Prop} (hk : ∀ z, k (nI T) z) : ∀ p n h, p < m → p + 1 < n → NR f l (p + 1) + 3 ^ (p + 1) * h = T → wl_X1_numberOf_7 x0 (nI f) (nI l) n (nI h) (nI p) k := by
  have hp : 2 ^ m ≤ 256 := pow8 (by omega)
  have last : ∀ n h, 0 < n → h = T → wl_X1_numberOf_7 x0 (nI f) (nI l) n (nI h) (-1 : Int32) k := by
    intro n h hn e
    obtain ⟨n, rfl⟩ : ∃ n', n = n' + 1 := ⟨n - 1, by omega⟩
    unfold wl_X1_numberOf_7
    rw [e]
    exact ⟨fun _ => hk _, fun z => absurd (by decide) z⟩
  intro p
  induction p with
  | zero =>
    intro n h hpm hn hT
    obtain ⟨n, rfl⟩ : ∃ n', n = n' + 1 := ⟨n - 1, by omega⟩
    have go : ∀ c : Nat, c = srt f l 0 → wl_X1_numberOf_7 x0 (nI f) (nI l) n (((3 : Int32) * nI h) + nI c) (nI 0 + (-1 : Int32)) k := by
      intro c hc
      have e : (3 : Int32) * nI h = nI (3 * h) := pk_mul 3 h
      rw [e, nI_add, show nI 0 + (-1 : Int32) = (-1 : Int32) by decide]
      refine last n _ (by omega) ?_
      rw [NR, fb_sm_succ] at hT
      simp only [fb_sm, Nat.pow_zero, Nat.pow_succ] at hT
      omega
    unfold wl_X1_numberOf_7
    refine ⟨fun z => absurd z (nI_pos (by omega)), fun _ => ?_⟩
    cases hl0 : l.testBit 0
    · refine isTaken_f (by omega) (by omega) hl0 ⟨fun _ => go 0 (by rw [srt, hl0]; rfl), fun z => absurd rfl z⟩
    · refine isTaken_t (by omega) (by omega) hl0 ⟨fun z => absurd z z10, fun _ => ?_⟩
      cases hf0 : f.testBit 0
      · exact isTaken_f (by omega) (by omega) hf0 ⟨fun _ => go 2 (by rw [srt, hl0, hf0]; rfl), fun z => absurd rfl z⟩
      · exact isTaken_t (by omega) (by omega) hf0 ⟨fun z => absurd z z10, fun _ => go 1 (by rw [srt, hl0, hf0]; rfl)⟩
  | succ p ih =>
    intro n h hpm hn hT
    obtain ⟨n, rfl⟩ : ∃ n', n = n' + 1 := ⟨n - 1, by omega⟩
    have go : ∀ c : Nat, c = srt f l (p + 1) → wl_X1_numberOf_7 x0 (nI f) (nI l) n (((3 : Int32) * nI h) + nI c) (nI (p + 1) + (-1 : Int32)) k := by
      intro c hc
      have e : (3 : Int32) * nI h = nI (3 * h) := pk_mul 3 h
      rw [e, nI_add, pk_m1]
      refine ih n _ (by omega) (by omega) ?_
      have e3 : 3 ^ (p + 1 + 1) = 3 ^ (p + 1) * 3 := Nat.pow_succ _ _
      rw [← hT, NR, NR, fb_sm_succ (n := p + 1), hc, e3, Nat.mul_add, Nat.mul_assoc]
      omega
    unfold wl_X1_numberOf_7
    refine ⟨fun z => absurd z (nI_pos (by omega)), fun _ => ?_⟩
    cases hl0 : l.testBit (p + 1)
    · refine isTaken_f (by omega) (by omega) hl0 ⟨fun _ => go 0 (by rw [srt, hl0]; rfl), fun z => absurd rfl z⟩
    · refine isTaken_t (by omega) (by omega) hl0 ⟨fun z => absurd z z10, fun _ => ?_⟩
      cases hf0 : f.testBit (p + 1)
      · exact isTaken_f (by omega) (by omega) hf0 ⟨fun _ => go 2 (by rw [srt, hl0, hf0]; rfl), fun z => absurd rfl z⟩
      · exact isTaken_t (by omega) (by omega) hf0 ⟨fun z => absurd z z10, fun _ => go 1 (by rw [srt, hl0, hf0]; rfl)⟩
theorem number_sp {m f l : Nat} (hm : m < 9) (h3 : 1 ≤ m) (hl : l < 2 ^ m) (hf : f < 2 ^ m) {post : Int32 → Prop} (h : post (nI (NR f l m))) : wp_X1_numberOf (nI m) (nI f) (nI l) post := by
  obtain ⟨m, rfl⟩ : ∃ m', m = m' + 1 := ⟨m - 1, by omega⟩
  unfold wp_X1_numberOf
  rw [nI_pred]
  exact cnum7 (T := NR f l (m + 1)) hm hl hf (fun _ => h) m 20000 0 (by omega) (by omega) (by omega)
