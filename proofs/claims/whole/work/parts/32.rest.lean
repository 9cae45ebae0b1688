theorem BR_0 (P : Nat) : BR P 0 0 (fun _ => 0) := fun i _ => ⟨fun _ => by rw [sortI, b_0]; rfl, fun _ => ⟨b_0 i, b_0 i⟩, fun h => by rw [b_0] at h; exact absurd h.1 (by decide)⟩
theorem mst48 {P : Nat} {op : Int32} {w1 w2 n1 x1 y1 : Int32} {m1 : Nat → Int64} {sd : Int64} {be : Nat → Int32} {i1 o1 mv ldt pl : Int32} {k : Int32 → SM → Prop} (hk : ∀ ma, (∀ j, j < 30 → ma j = 0) → k (nI 30) (n1, x1, y1, m1, pl, op, sd, ma, be, i1, o1, mv, ldt)) : ∀ n i ma, i ≤ 30 → 30 - i < n → (∀ j, j < i → ma j = 0) → wl_X4_step_48 w1 w2 n (nI i) (n1, x1, y1, m1, pl, op, sd, ma, be, i1, o1, mv, ldt) k := by
  intro n
  induction n with
  | zero => intro i ma _ h; omega
  | succ n ih =>
    intro i ma hi hn hz
    unfold wl_X4_step_48
    have e : ((30 : Int32) ≤ nI i) ↔ 30 ≤ i := nI_leI (a := 30) (by omega) (by omega)
    rw [e, nI_1, nI_clamp (by omega)]
    refine ⟨fun q => ?_, fun q => ⟨vp_in_nI (by omega) (by omega), ih (i + 1) _ (by omega) (by omega) (fun j hj => ?_)⟩⟩
    · obtain rfl : i = 30 := by omega
      exact hk ma hz
    · by_cases ej : j = i
      · subst ej; rw [pk_us]
      · rw [pk_un ej]; exact hz j (by omega)
theorem rs_step {c : SC} {s : SS} {n1 x1 y1 : Int32} {m1 : Nat → Int64} {r : RR} (a z : Int32) (hz : nb z) (hRC : RC c (n1, x1, y1, m1, r)) (h : RS s r) : wp_X3_step a z (c, s) (fun r1 σ1 => wp_X4_step a z (n1, x1, y1, m1, r) (fun r2 τ2 => r1 = r2 ∧ Rl σ1 τ2)) := by
  unfold wp_X3_step wp_X4_step wp_X2_begin
  dsimp only
  rcases rng_case a (lo := 2) (hi := 30) (by omega) (by omega) with ⟨P, p2, p30, rfl⟩ | hb
  · refine isWithin_t (nI_rng p2 p30 (by omega)) ⟨fun _ => ⟨hz, ?_⟩, fun q => absurd q z10⟩
    refine in_t (b := nI 2) (c := nI 30) rfl rfl (nI_rng p2 p30 (by omega)) ⟨fun _ => ⟨hz, ?_⟩, fun q => absurd q z10⟩
    refine mst48 (P := P) (fun ma hma => ⟨rfl, RC_r _ hRC, Or.inr ⟨P, 1, z, ((fun _ => 0), 0, 0, 0), p2, p30, hz, by omega, ⟨0, 0, BR_0 P, rfl⟩, ⟨ma, _, _, fun i hi => hma i (by omega), rfl⟩⟩⟩) 20000 0 _ (by omega) (by omega) (fun j hj => absurd hj (by omega))
  · refine isWithin_f hb ⟨fun q => absurd rfl q, fun _ => ?_⟩
    exact in_f (b := nI 2) (c := nI 30) rfl rfl hb ⟨fun q => absurd rfl q, fun _ => ⟨rfl, hRC, h⟩⟩
theorem rs_seed {c : SC} {s : SS} {n1 x1 y1 : Int32} {m1 : Nat → Int64} {r : RR} (a : Int32) (hRC : RC c (n1, x1, y1, m1, r)) (h : RS s r) : wp_X3_seed a (c, s) (fun r1 σ1 => wp_X4_seed a (n1, x1, y1, m1, r) (fun r2 τ2 => r1 = r2 ∧ Rl σ1 τ2)) := by
  unfold wp_X3_seed wp_X4_seed
  dsimp only
  refine ⟨fun q => ?_, fun q => ⟨fun q2 => absurd q2 q, fun _ => ⟨rfl, hRC, h⟩⟩⟩
  have hn : ¬ a < 0 := fun z => (fa_of_lt z).2.1 q
  obtain ⟨l2, hl2, rfl⟩ := nI_of hn
  rcases id h with ⟨h1, h2⟩ | ⟨P, lot, op, A, h2, hP, hop, hlot, hC, hM⟩
  · exact isThere_f h1 ⟨fun q => absurd rfl q, fun _ => ⟨fun _ => ⟨fun q => absurd h2 q, fun _ => ⟨rfl, hRC, h⟩⟩, fun q2 => absurd q q2⟩⟩
  · refine isThere_t h2 hP (CR_1 hC) ⟨fun _ => ?_, fun q => absurd q z10⟩
    unfold wp_X2_sow
    refine ⟨fun _ => ⟨fun _ => ?_, fun q => absurd ((MR_1 hM).symm.trans q) (nIP_0 h2 hP)⟩, fun q2 => absurd q q2⟩
    obtain ⟨F, S, hB, rfl⟩ := hC
    obtain ⟨ma, be, ldt, hm, rfl⟩ := hM
    refine ⟨rfl, RC_r _ hRC, Or.inr ⟨P, l2, op, A, h2, hP, hop, by omega, ⟨F, S, hB, rfl⟩, ⟨ma, be, ldt, hm, ?_⟩⟩⟩
    rw [nI_l hl2]
theorem mh_t {P p : Nat} {s : SS} (h2 : 2 ≤ P) (hP : P ≤ 30) (e : s.1 = nI P) (hp : p < P) {post : Int32 → Prop} (h : post 1) : wp_X2_mayHavePlace (nI p) s post := by
  unfold wp_X2_mayHavePlace
  refine ⟨fun q => absurd q (nI_pos (by omega)), fun _ => isThere_t h2 hP e ⟨fun q => absurd q z10, fun _ => ?_⟩⟩
  rw [e, nI_leI (by omega) (by omega)]
  exact ⟨fun q => absurd q (by omega), fun _ => h⟩
theorem mh_f {P : Nat} {a : Int32} {s : SS} (h2 : 2 ≤ P) (hP : P ≤ 30) (e : s.1 = nI P) (hp : a < 0 ∨ nI P ≤ a) {post : Int32 → Prop} (h : post 0) : wp_X2_mayHavePlace a s post := by
  unfold wp_X2_mayHavePlace
  refine ⟨fun _ => h, fun q => isThere_t h2 hP e ⟨fun q => absurd q z10, fun _ => ?_⟩⟩
  rw [e]
  exact ⟨fun _ => h, fun q2 => absurd (hp.resolve_left q) q2⟩
theorem mh0_t {p : Nat} {s : SS} (e : s.1 = 0) (hp : p < 30) {post : Int32 → Prop} (h : post 1) : wp_X2_mayHavePlace (nI p) s post := by
  unfold wp_X2_mayHavePlace
  refine ⟨fun q => absurd q (nI_pos (by omega)), fun _ => isThere_f e ⟨fun _ => ⟨fun q => absurd ((nI_leI (a := 30) (by omega) (by omega)).mp q) (by omega), fun _ => h⟩, fun q => absurd rfl q⟩⟩
theorem mh0_f {a : Int32} {s : SS} (e : s.1 = 0) (hp : a < 0 ∨ nI 30 ≤ a) {post : Int32 → Prop} (h : post 0) : wp_X2_mayHavePlace a s post := by
  unfold wp_X2_mayHavePlace
  exact ⟨fun _ => h, fun q => isThere_f e ⟨fun _ => ⟨fun _ => h, fun q2 => absurd (hp.resolve_left q) q2⟩, fun q => absurd rfl q⟩⟩
theorem nI_out {P : Nat} {a : Int32} (h1 : 1 ≤ P) (hP : P ≤ 30) (h : a < 0 ∨ nI P ≤ a) : ¬ (nI 0 ≤ a ∧ a ≤ nI (P - 1)) := by
  intro q
  simp only [fa_lt, fa_le, nI_toInt (show P < 2 ^ 31 by omega), nI_toInt (show P - 1 < 2 ^ 31 by omega), nI_toInt (show 0 < 2 ^ 31 by omega)] at h q
  have z0 : (0 : Int32).toInt = 0 := rfl
  omega
section IP
variable {n1 x1 y1 : Int32} {m1 : Nat → Int64} {r : RR}
theorem ip_t {P p : Nat} (h2 : 2 ≤ P) (hP : P ≤ 30) (e : r.1 = nI P) (hp : p < P) {post : Int32 → Prop} (h : post 1) : wp_X4_isPlace (nI p) (n1, x1, y1, m1, r) post := by
  have e1 : nI P - (1 : Int32) = nI (P - 1) := pk_sub (b := 1) (by omega)
  unfold wp_X4_isPlace
  dsimp only
  rw [e, e1]
  exact ⟨fun _ => in_t (b := nI 0) (c := nI (P - 1)) rfl rfl (nI_rng (Nat.zero_le _) (by omega) (by omega)) ⟨nb_1, h⟩, fun q => absurd q (nIP_0 h2 hP)⟩
theorem ip_f {P : Nat} {a : Int32} (h2 : 2 ≤ P) (hP : P ≤ 30) (e : r.1 = nI P) (hp : a < 0 ∨ nI P ≤ a) {post : Int32 → Prop} (h : post 0) : wp_X4_isPlace a (n1, x1, y1, m1, r) post := by
  have e1 : nI P - (1 : Int32) = nI (P - 1) := pk_sub (b := 1) (by omega)
  unfold wp_X4_isPlace
  dsimp only
  rw [e, e1]
  exact ⟨fun _ => in_f (b := nI 0) (c := nI (P - 1)) rfl rfl (nI_out (by omega) hP hp) ⟨nb_0, h⟩, fun q => absurd q (nIP_0 h2 hP)⟩
theorem ip0_t {p : Nat} (e : r.1 = 0) (hp : p < 30) {post : Int32 → Prop} (h : post 1) : wp_X4_isPlace (nI p) (n1, x1, y1, m1, r) post := by
  unfold wp_X4_isPlace
  dsimp only
  rw [e]
  exact ⟨fun q => absurd rfl q, fun _ => in_t (b := nI 0) (c := nI 29) rfl rfl (nI_rng (Nat.zero_le _) (by omega) (by omega)) ⟨nb_1, h⟩⟩
theorem ip0_f {a : Int32} (e : r.1 = 0) (hp : a < 0 ∨ nI 30 ≤ a) {post : Int32 → Prop} (h : post 0) : wp_X4_isPlace a (n1, x1, y1, m1, r) post := by
  unfold wp_X4_isPlace
  dsimp only
  rw [e]
  exact ⟨fun q => absurd rfl q, fun _ => in_f (b := nI 0) (c := nI 29) rfl rfl (nI_out (P := 30) (by omega) (by omega) hp) ⟨nb_0, h⟩⟩
end IP
theorem pl_case (a : Int32) {P : Nat} (hP : P ≤ 30) : (∃ p, p < P ∧ a = nI p) ∨ a < 0 ∨ nI P ≤ a := by
  rcases pk_ix a (n := P) (by omega) with h | h | h
  · exact Or.inr (Or.inl h)
  · exact Or.inr (Or.inr h)
  · exact Or.inl h
theorem rs_at {c : SC} {s : SS} {n1 x1 y1 : Int32} {m1 : Nat → Int64} {r : RR} (a : Int32) (h : RS s r) : wp_X3_at a (c, s) (fun r1 => wp_X4_at a (n1, x1, y1, m1, r) (fun r2 => r1 = r2)) := by
  unfold wp_X3_at wp_X4_at
  dsimp only
  rcases h with ⟨h1, h2⟩ | ⟨P, lot, op, A, h2, hP, hop, hlot, hC, hM⟩
  · rcases pl_case a (P := 30) (by omega) with ⟨p, hp, rfl⟩ | hb
    · refine mh0_t h1 hp ⟨fun _ => isThere_f h1 ⟨fun _ => ?_, fun q => absurd rfl q⟩, fun q => absurd q z10⟩
      exact ip0_t h2 hp ⟨fun _ => ⟨fun q => absurd h2 q, fun _ => rfl⟩, fun q => absurd q z10⟩
    · refine mh0_f h1 hb ⟨fun q => absurd rfl q, fun _ => ?_⟩
      exact ip0_f h2 hb ⟨fun q => absurd rfl q, fun _ => rfl⟩
  · have e1 := CR_1 hC
    have e2 := MR_1 hM
    rcases pl_case a hP with ⟨p, hp, rfl⟩ | hb
    · refine mh_t h2 hP e1 hp ⟨fun _ => isThere_t h2 hP e1 ⟨fun q => absurd q z10, fun _ => sortAt_sp (by omega) ?_⟩, fun q => absurd q z10⟩
      refine ip_t h2 hP e2 hp ⟨fun _ => ⟨fun _ => ⟨vp_in_nI (by omega) (by omega), ?_⟩, fun q => absurd (e2.symm.trans q) (nIP_0 h2 hP)⟩, fun q => absurd q z10⟩
      obtain ⟨F, S, hB, rfl⟩ := hC
      obtain ⟨ma, be, ldt, hm, rfl⟩ := hM
      dsimp only
      rw [nI_clamp (by omega), hm p hp, (hB p (by omega)).1 hp]
    · refine mh_f h2 hP e1 hb ⟨fun q => absurd rfl q, fun _ => ?_⟩
      exact ip_f h2 hP e2 hb ⟨fun q => absurd rfl q, fun _ => rfl⟩
theorem rs_set {c : SC} {s : SS} {n1 x1 y1 : Int32} {m1 : Nat → Int64} {r : RR} (a b : Int32) (hRC : RC c (n1, x1, y1, m1, r)) (h : RS s r) : wp_X3_set a b (c, s) (fun r1 σ1 => wp_X4_set a b (n1, x1, y1, m1, r) (fun r2 τ2 => r1 = r2 ∧ Rl σ1 τ2)) := by
  unfold wp_X3_set wp_X4_set
  dsimp only
  have same : ∀ v : Int32, v = v ∧ Rl (c, s) (n1, x1, y1, m1, r) := fun v => ⟨rfl, hRC, h⟩
  have bt3 : (nI 0 ≤ b ∧ b ≤ nI 2) → b = 0 ∨ b = 1 ∨ b = 2 := fun q => by
    rcases rng_case b (lo := 0) (hi := 2) (by omega) (by omega) with ⟨v, -, v2, rfl⟩ | z
    · rcases (show v = 0 ∨ v = 1 ∨ v = 2 by omega) with rfl | rfl | rfl
      · exact Or.inl rfl
      · exact Or.inr (Or.inl rfl)
      · exact Or.inr (Or.inr rfl)
    · exact absurd q z
  rcases id h with ⟨h1, h2⟩ | ⟨P, lot, op, A, h2, hP, hop, hlot, hC, hM⟩
  · rcases pl_case a (P := 30) (by omega) with ⟨p, hp, rfl⟩ | hb
    · refine mh0_t h1 hp ⟨fun q => absurd q z10, fun _ => ?_⟩
      by_cases hc : nI 0 ≤ b ∧ b ≤ nI 2
      · refine isWithin_t hc ⟨fun _ => isThere_f h1 ⟨fun q => absurd rfl q, fun _ => ?_⟩, fun q => absurd q z10⟩
        refine ip0_t h2 hp ⟨fun q => absurd q z10, fun _ => ?_⟩
        exact in_t (b := nI 0) (c := nI 2) rfl rfl hc ⟨fun _ => ⟨fun q => absurd h2 q, fun _ => same _⟩, fun q => absurd q z10⟩
      · refine isWithin_f hc ⟨fun q => absurd rfl q, fun _ => ?_⟩
        refine ip0_t h2 hp ⟨fun q => absurd q z10, fun _ => ?_⟩
        exact in_f (b := nI 0) (c := nI 2) rfl rfl hc ⟨fun q => absurd rfl q, fun _ => same _⟩
    · refine mh0_f h1 hb ⟨fun _ => ?_, fun q => absurd rfl q⟩
      exact ip0_f h2 hb ⟨fun _ => same _, fun q => absurd rfl q⟩
  · have e1 := CR_1 hC
    have e2 := MR_1 hM
    rcases pl_case a hP with ⟨p, hp, rfl⟩ | hb
    · refine mh_t h2 hP e1 hp ⟨fun q => absurd q z10, fun _ => ?_⟩
      by_cases hc : nI 0 ≤ b ∧ b ≤ nI 2
      · refine isWithin_t hc ⟨fun _ => isThere_t h2 hP e1 ⟨fun _ => sortAt_sp (by omega) ?_, fun q => absurd q z10⟩, fun q => absurd q z10⟩
        obtain ⟨F, S, hB, rfl⟩ := hC
        refine put_sp (by omega) (fun F' S' f1 s1 => ?_)
        refine ip_t h2 hP e2 hp ⟨fun q => absurd q z10, fun _ => ?_⟩
        refine in_t (b := nI 0) (c := nI 2) rfl rfl hc ⟨fun _ => ⟨fun _ => ⟨vp_in_nI (by omega) (by omega), vp_in_nI (by omega) (by omega), ?_⟩, fun q => absurd (e2.symm.trans q) (nIP_0 h2 hP)⟩, fun q => absurd q z10⟩
        obtain ⟨ma, be, ldt, hm, rfl⟩ := hM
        dsimp only
        rw [nI_clamp (by omega)]
        refine ⟨by rw [hm p hp, (hB p (by omega)).1 hp], RC_r _ hRC, Or.inr ⟨P, lot, op, (upd A.1 p b, A.2.1, A.2.2.1, A.2.2.2), h2, hP, hop, hlot, ⟨F', S', BR_put hB hp (bt3 hc) f1 s1, rfl⟩, ⟨_, be, ldt, ag_upd hm, rfl⟩⟩⟩
      · refine isWithin_f hc ⟨fun q => absurd rfl q, fun _ => ?_⟩
        refine ip_t h2 hP e2 hp ⟨fun q => absurd q z10, fun _ => ?_⟩
        exact in_f (b := nI 0) (c := nI 2) rfl rfl hc ⟨fun q => absurd rfl q, fun _ => same _⟩
    · refine mh_f h2 hP e1 hb ⟨fun _ => ?_, fun q => absurd rfl q⟩
      exact ip_f h2 hP e2 hb ⟨fun _ => same _, fun q => absurd rfl q⟩
/-! movers -/
def mvB (P : Nat) (op : Int32) (so : Nat → Int32) (i : Nat) : Bool := decide (so i = 1) && ((decide (i + 1 < P) && decide (so (i + 1) = 0)) || (decide (op = 0) && decide (i + 1 = P) && decide (so 0 = 0)))
theorem mv_n {P : Nat} {op : Int32} {so : Nat → Int32} {i : Nat} (h : ¬ so i = 1) : mvB P op so i = false := by unfold mvB; rw [decide_eq_false h, Bool.false_and]
theorem mv_i {P : Nat} {op : Int32} {so : Nat → Int32} {i : Nat} (h : so i = 1) (hi : i + 1 < P) : mvB P op so i = decide (so (i + 1) = 0) := by
  unfold mvB
  rw [decide_eq_true h, decide_eq_true hi, decide_eq_false (show ¬ i + 1 = P by omega)]
  simp
theorem mv_l {P : Nat} {op : Int32} {so : Nat → Int32} {i : Nat} (h : so i = 1) (hi : i + 1 = P) : mvB P op so i = (decide (op = 0) && decide (so 0 = 0)) := by
  unfold mvB
  rw [decide_eq_true h, decide_eq_false (show ¬ i + 1 < P by omega), decide_eq_true hi]
  simp
theorem told34 {P : Nat} {op : Int32} {w n1 x1 y1 : Int32} {m1 : Nat → Int64} {sd : Int64} {ma be so : Nat → Int32} {i1 o1 mv ldt : Int32} (h2 : 2 ≤ P) (hP : P ≤ 30) (hm : ∀ i, i < P → ma i = so i) (hs : ∀ i, i < P → so i = 0 ∨ so i = 1 ∨ so i = 2) {k : Int32 → Int32 → Int32 → Int32 → Prop} (hk : ∀ z, k (nI (fb_ct (fun i => decide (so i = 1)) P)) (nI (fb_ct (fun i => decide (so i = 2)) P)) (nI (fb_ct (mvB P op so) P)) z) : ∀ n p, p ≤ P → P - p < n → wl_X4_told_34 w (n1, x1, y1, m1, nI P, op, sd, ma, be, i1, o1, mv, ldt) n (nI (fb_ct (fun i => decide (so i = 1)) p)) (nI (fb_ct (fun i => decide (so i = 2)) p)) (nI (fb_ct (mvB P op so) p)) (nI p) k := by
  intro n
  induction n with
  | zero => intro p _ h; omega
  | succ n ih =>
    intro p hp hn
    by_cases hpe : p = P
    · subst hpe
      unfold wl_X4_told_34
      exact ⟨fun _ => hk _, fun q => absurd ((nI_leI (by omega) (by omega)).mpr (Nat.le_refl p)) q⟩
    · have hpl : p < P := by omega
      have hnx := ih (p + 1) (by omega) (by omega)
      have f1 : fb_ct (fun i => decide (so i = 1)) (p + 1) = fb_ct (fun i => decide (so i = 1)) p + (if decide (so p = 1) = true then 1 else 0) := fb_ct_succ _ _
      have f2 : fb_ct (fun i => decide (so i = 2)) (p + 1) = fb_ct (fun i => decide (so i = 2)) p + (if decide (so p = 2) = true then 1 else 0) := fb_ct_succ _ _
      have f3 : fb_ct (mvB P op so) (p + 1) = fb_ct (mvB P op so) p + (if mvB P op so p = true then 1 else 0) := fb_ct_succ _ _
      rw [f1, f2, f3] at hnx
      generalize fb_ct (fun i => decide (so i = 1)) p = A1 at hnx ⊢
      generalize fb_ct (fun i => decide (so i = 2)) p = A2 at hnx ⊢
      generalize fb_ct (mvB P op so) p = A3 at hnx ⊢
      have next : ∀ a b c : Nat, a = (if decide (so p = 1) = true then 1 else 0) → b = (if decide (so p = 2) = true then 1 else 0) → c = (if mvB P op so p = true then 1 else 0) → wl_X4_told_34 w (n1, x1, y1, m1, nI P, op, sd, ma, be, i1, o1, mv, ldt) n (nI A1 + nI a) (nI A2 + nI b) (nI A3 + nI c) (nI (p + 1)) k := by
        intro a b c ha hb hc
        rw [nI_add, nI_add, nI_add, ha, hb, hc]
        exact hnx
      have v0 : vp_in (nI p) 30 := vp_in_nI (by omega) (by omega)
      have c0 : (0 : Int32).toNatClampNeg = 0 := rfl
      unfold wl_X4_told_34
      dsimp only
      rw [nI_leI (by omega) (by omega), nI_1, nI_eq (by omega) (by omega), nI_clamp (by omega), nI_clamp (by omega), c0, hm p hpl, hm 0 (by omega)]
      refine ⟨fun q => absurd q (by omega), fun _ => ?_⟩
      rcases hs p hpl with e | e | e
      · have n1' : ¬ so p = 1 := by rw [e]; decide
        have n2' : ¬ so p = 2 := by rw [e]; decide
        have L := next 0 0 0 (by rw [decide_eq_false n1']; rfl) (by rw [decide_eq_false n2']; rfl) (by rw [mv_n n1']; rfl)
        exact ⟨fun _ => ⟨v0, fun _ => ⟨v0, fun _ => ⟨v0, fun _ => L, fun z => absurd z n1'⟩, fun z => absurd z n2'⟩, fun z => absurd z n1'⟩, fun _ => ⟨v0, fun _ => ⟨v0, fun _ => ⟨v0, fun _ => L, fun z => absurd z n1'⟩, fun z => absurd z n2'⟩, fun z => absurd z n1'⟩⟩
      · have n2' : ¬ so p = 2 := by rw [e]; decide
        have L0 : mvB P op so p = false → _ := fun hb => next 1 0 0 (by rw [decide_eq_true e]; rfl) (by rw [decide_eq_false n2']; rfl) (by rw [hb]; rfl)
        have L1 : mvB P op so p = true → _ := fun hb => next 1 0 1 (by rw [decide_eq_true e]; rfl) (by rw [decide_eq_false n2']; rfl) (by rw [hb]; rfl)
        refine ⟨fun q => ?_, fun q => ?_⟩
        · have hq : p + 1 < P := by omega
          rw [hm (p + 1) hq]
          have hmv := mv_i (op := op) e hq
          refine ⟨v0, fun z => absurd e z, fun _ => ⟨v0, fun _ => ⟨v0, fun z => absurd e z, fun _ => ⟨vp_in_nI (by omega) (by omega), fun ht => L0 (by rw [hmv, decide_eq_false ht]), fun ht => ⟨fun _ => L1 (by rw [hmv, decide_eq_true ht]), fun z => absurd (nI_lt (a := 0) (by omega) (by omega)) z⟩⟩⟩, fun z => absurd z n2'⟩⟩
        · have hmv := mv_l (op := op) e q
          refine ⟨v0, fun z => absurd e z, fun _ => ⟨v0, fun _ => ⟨v0, fun z => absurd e z, fun _ => ⟨vp_in_nI (n := 0) (by omega) (by omega), fun ht => L0 (by rw [hmv, decide_eq_false ht, Bool.and_false]), fun ht => ⟨fun ho => L0 (by rw [hmv, decide_eq_false ho, Bool.false_and]), fun ho => L1 (by rw [hmv, decide_eq_true ho, decide_eq_true ht]; rfl)⟩⟩⟩, fun z => absurd z n2'⟩⟩
      · have n1' : ¬ so p = 1 := by rw [e]; decide
        have L := next 0 1 0 (by rw [decide_eq_false n1']; rfl) (by rw [decide_eq_true e]; rfl) (by rw [mv_n n1']; rfl)
        exact ⟨fun _ => ⟨v0, fun _ => ⟨v0, fun z => absurd e z, fun _ => ⟨v0, fun _ => L, fun z => absurd z n1'⟩⟩, fun z => absurd z n1'⟩, fun _ => ⟨v0, fun _ => ⟨v0, fun z => absurd e z, fun _ => ⟨v0, fun _ => L, fun z => absurd z n1'⟩⟩, fun z => absurd z n1'⟩⟩
