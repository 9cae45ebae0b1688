section MT3
variable {P : Nat} {op : Int32} {so : Nat → Int32}
theorem cur_0 (h2 : 2 ≤ P) (j : Nat) : cur P op so 0 j = so j := by
  unfold cur inB
  rw [decide_eq_false (show ¬ j < 0 by omega), Bool.false_and, if_neg (by decide)]
  by_cases e : j = 0
  · rw [if_pos e, decide_eq_false (show ¬ P ≤ 0 by omega), Bool.false_and, if_neg (by decide)]
  · rw [if_neg e, decide_eq_false (show ¬ j - 1 < 0 by omega), Bool.false_and, if_neg (by decide)]
theorem inB_P {j : Nat} (hj : j < P) : inB P op so P j = prB P op so j := by
  unfold inB prB
  by_cases e : j = 0
  · rw [if_pos e, if_pos e, decide_eq_true (show P ≤ P by omega), Bool.true_and]
  · rw [if_neg e, if_neg e, decide_eq_true (show j - 1 < P by omega), Bool.true_and]
theorem tg_else {j : Nat} (hj : j < P) (h3 : ¬ (¬ op = 0 ∧ j + 1 = P ∧ so j = 1)) (h4 : ¬ (¬ op = 0 ∧ j = 0 ∧ so 0 = 0)) : cur P op so P j = tgS P op so j := by
  unfold cur tgS
  rw [inB_P hj, decide_eq_true hj, Bool.true_and, if_neg h3, if_neg h4]
theorem tg_last (ho : ¬ op = 0) (h2 : 2 ≤ P) (h : so (P - 1) = 1) : tgS P op so (P - 1) = 0 := by
  unfold tgS
  rw [mv_l h (by omega), decide_eq_false ho, Bool.false_and, if_neg (by decide), pr_0 h2 (by omega) h, if_neg (by decide), if_pos ⟨ho, by omega, h⟩]
theorem tg_first (ho : ¬ op = 0) (h2 : 2 ≤ P) (h : so 0 = 0) : tgS P op so 0 = 1 := by
  have hn : ¬ so 0 = 1 := by rw [h]; decide
  unfold tgS
  rw [mv_n hn, if_neg (by decide), pr_o ho h2, if_neg (by decide), if_neg (fun z => hn z.2.2), if_pos ⟨ho, rfl, h⟩]
end MT3
theorem mt116' {P : Nat} {op : Int32} {n1 x1 y1 : Int32} {m1 : Nat → Int64} {sd : Int64} {i1 o1 ldt : Int32} {w1 w2 w4 : Int32} {be so : Nat → Int32} {mv0 : Int32} {c0 : Nat} (h2 : 2 ≤ P) (hP : P ≤ 30) (hb : ∀ i, i < P → be i = so i) (hs : no2 P so) {k : Int32 → Int32 → SM → Prop} (hk : ∀ ma, (∀ i, i < P → ma i = cur P op so P i) → k (nI (c0 + fb_ct (mvB P op so) P)) (nI P) (n1, x1, y1, m1, nI P, op, sd, ma, be, i1, o1, mv0 + nI (fb_ct (mvB P op so) P), ldt)) {ma : Nat → Int32} (hm : ∀ i, i < P → ma i = so i) : wl_X4_together_116 w1 w2 w4 20000 (nI c0) (0 : Int32) (n1, x1, y1, m1, nI P, op, sd, ma, be, i1, o1, mv0, ldt) k := by
  have start := mt116 (w1 := w1) (w2 := w2) (w4 := w4) h2 hP hb hs hk 20000 0 ma (by omega) (by omega) (fun j hj => by rw [cur_0 h2]; exact hm j hj)
  rw [show fb_ct (mvB P op so) 0 = 0 from rfl, Nat.add_zero, show mv0 + nI 0 = mv0 from Int32.add_zero _] at start
  exact start
theorem mt75 {P T : Nat} {op : Int32} {w n1 x1 y1 : Int32} {m1 : Nat → Int64} {lot : Nat} (h2 : 2 ≤ P) (hP : P ≤ 30) (hT : T ≤ 1000) {k : Int32 → Int32 → SM → Prop} : ∀ t n i c A r, i + t = T → t < n → MR P op lot A r → no2 P A.1 → (∀ r', MR P op lot (TT P op t A) r' → k (nI (c + cT P op t A)) (nI T) (n1, x1, y1, m1, r')) → wl_X4_together_75 (nI T) w n (nI c) (nI i) (n1, x1, y1, m1, r) k := by
  intro t
  induction t with
  | zero =>
    intro n i c A r hi hn hR h0 hk
    obtain ⟨n, rfl⟩ : ∃ m, n = m + 1 := ⟨n - 1, by omega⟩
    obtain rfl : i = T := by omega
    unfold wl_X4_together_75
    exact ⟨fun _ => hk r hR, fun q => absurd ((nI_leI (by omega) (by omega)).mpr (Nat.le_refl i)) q⟩
  | succ t ih =>
    intro n i c A r hi hn hR h0 hk
    obtain ⟨n, rfl⟩ : ∃ m, n = m + 1 := ⟨n - 1, by omega⟩
    have nxt9 : ∀ r', MR P op lot (tgA P op A) r' → wl_X4_together_75 (nI T) w n (nI (c + fb_ct (mvB P op A.1) P)) (nI (i + 1)) (n1, x1, y1, m1, r') k := by
      intro r' hr'
      refine ih n (i + 1) _ _ r' (by omega) (by omega) hr' (tg_no2 h0) (fun r2 hr2 => ?_)
      have := hk r2 hr2
      rw [cT, ← Nat.add_assoc] at this
      exact this
    obtain ⟨ma, be, ldt, hm, rfl⟩ := hR
    have e1 : nI P - (1 : Int32) = nI (P - 1) := pk_sub (b := 1) (by omega)
    unfold wl_X4_together_75
    rw [nI_leI (by omega) (by omega), nI_1]
    refine ⟨fun q => absurd q (by omega), fun _ => ?_⟩
    refine mt84 hP (fun be2 hb2 => ?_) 20000 0 be (by omega) (by omega) (fun i hi => absurd hi (by omega))
    have hb3 : ∀ i, i < P → be2 i = A.1 i := fun i hi => by rw [hb2 i hi, hm i hi]
    refine mt116' h2 hP hb3 h0 (fun ma2 hm2 => ?_) hm
    have c0' : (0 : Int32).toNatClampNeg = 0 := rfl
    have vz : vp_in (0 : Int32) 30 := vp_in_nI (n := 0) (by omega) (by omega)
    have vl : vp_in (nI (P - 1)) 30 := vp_in_nI (by omega) (by omega)
    dsimp only
    rw [e1, c0', nI_clamp (by omega), hb3 0 (by omega), hb3 (P - 1) (by omega)]
    refine ⟨fun ho => ⟨fun _ => nxt9 _ ⟨ma2, be2, ldt, fun j hj => ?_, ?_⟩, fun z => absurd ho z⟩, fun ho => ⟨vl, fun hl => ⟨fun z => absurd z ho, fun _ => ⟨vz, fun hf => nxt9 _ ⟨ma2, be2, ldt, fun j hj => ?_, ?_⟩, fun hf => ⟨vz, nxt9 _ ⟨(upd ma2 0 1), be2, ldt, fun j hj => ?_, ?_⟩⟩⟩⟩, fun hl => ⟨vl, fun z => absurd z ho, fun _ => ⟨vz, fun hf => nxt9 _ ⟨(upd ma2 (P - 1) 0), be2, ldt, fun j hj => ?_, ?_⟩, fun hf => ⟨vz, nxt9 _ ⟨(upd (upd ma2 (P - 1) 0) 0 1), be2, ldt, fun j hj => ?_, ?_⟩⟩⟩⟩⟩⟩
    · rw [hm2 j hj]; exact tg_else hj (fun z => z.1 ho) (fun z => z.1 ho)
    · dsimp only [tgA]; rw [if_neg (fun z => z.1 ho), if_neg (fun z => z.1 ho), Int32.add_zero, Int32.add_zero]
    · rw [hm2 j hj]; exact tg_else hj (fun z => hl (by rw [show P - 1 = j by omega]; exact z.2.2)) (fun z => hf z.2.2)
    · dsimp only [tgA]; rw [if_neg (fun z => hf z.2), if_neg (fun z => hl z.2), Int32.add_zero, Int32.add_zero]
    · by_cases e : j = 0
      · subst e; rw [pk_us]; exact (tg_first ho h2 hf).symm
      · rw [pk_un e, hm2 j hj]; exact tg_else hj (fun z => hl (by rw [show P - 1 = j by omega]; exact z.2.2)) (fun z => e z.2.1)
    · dsimp only [tgA]; rw [if_pos ⟨ho, hf⟩, if_neg (fun z => hl z.2), Int32.add_zero]
    · by_cases e : j = P - 1
      · subst e; rw [pk_us]; exact (tg_last ho h2 hl).symm
      · rw [pk_un e, hm2 j hj]; exact tg_else hj (fun z => e (by omega)) (fun z => hf z.2.2)
    · dsimp only [tgA]; rw [if_neg (fun z => hf z.2), if_pos ⟨ho, hl⟩, Int32.add_zero]
    · by_cases e : j = 0
      · subst e; rw [pk_us]; exact (tg_first ho h2 hf).symm
      · rw [pk_un e]
        by_cases e9 : j = P - 1
        · subst e9; rw [pk_us]; exact (tg_last ho h2 hl).symm
        · rw [pk_un e9, hm2 j hj]; exact tg_else hj (fun z => e9 (by omega)) (fun z => e z.2.1)
    · dsimp only [tgA]; rw [if_pos ⟨ho, hf⟩, if_pos ⟨ho, hl⟩]
theorem rs_together {c : SC} {s : SS} {n1 x1 y1 : Int32} {m1 : Nat → Int64} {r : RR} (a : Int32) (hRC : RC c (n1, x1, y1, m1, r)) (h : RS s r) : wp_X3_together a (c, s) (fun r1 σ1 => wp_X4_together a (n1, x1, y1, m1, r) (fun r2 τ2 => r1 = r2 ∧ Rl σ1 τ2)) := by
  unfold wp_X3_together wp_X4_together
  dsimp only
  have same : ∀ v : Int32, v = v ∧ Rl (c, s) (n1, x1, y1, m1, r) := fun v => ⟨rfl, hRC, h⟩
  rcases rng_case a (lo := 1) (hi := 1000) (by omega) (by omega) with ⟨t, t1, t2, rfl⟩ | hb
  · refine isWithin_t (nI_rng t1 t2 (by omega)) ⟨fun _ => ?_, fun q => absurd q z10⟩
    have inm : ∀ {post : Int32 → Prop}, post 1 → wp_X4_in (nI t).toInt64 (1 : Int64) (1000 : Int64) post := fun h => in_t (b := nI 1) (c := nI 1000) rfl rfl (nI_rng t1 t2 (by omega)) h
    rcases id h with ⟨h1, h2⟩ | ⟨P, lot, op, A, h2, hP, hop, hlot, hC, hM⟩
    · refine isThere_f h1 ⟨fun _ => inm ⟨fun _ => ⟨fun q => absurd h2 q, fun _ => ?_⟩, fun q => absurd q z10⟩, fun q => absurd rfl q⟩
      exact mt29_1 (P := 0) h2 (by omega) (fun _ => ⟨fun z => absurd z z10, fun _ => same _⟩) 20000 0 (by omega) (by omega)
    · have cle : fb_ct (fun i => decide (A.1 i = 2)) P ≤ P := fb_ct_le _ P
      refine isThere_t h2 hP (CR_1 hC) ⟨fun q => absurd q z10, fun _ => cnt2_sp hP hC ?_⟩
      have e0 : (nI (fb_ct (fun i => decide (A.1 i = 2)) P) ≤ 0) ↔ fb_ct (fun i => decide (A.1 i = 2)) P ≤ 0 := nI_leI (b := 0) (by omega) (by omega)
      rw [e0]
      have hcs : ∀ i, i < P → A.1 i = 0 ∨ A.1 i = 1 ∨ A.1 i = 2 := by
        obtain ⟨F, S, hB, -⟩ := hC
        exact fun i hi => BR_c hB (by omega) hi
      refine ⟨fun q => ?_, fun q => ?_⟩
      · have hz : ∀ i, i < P → ¬ A.1 i = 2 := fun i hi => by
          have := fb_ct_zero.mp (Nat.le_zero.mp q) i hi
          simpa using this
        have hn : no2 P A.1 := fun i hi => by
          rcases hcs i hi with e | e | e
          · exact Or.inl e
          · exact Or.inr e
          · exact absurd e (hz i hi)
        unfold wp_X2_stepAllAtOnce
        refine cto h2 hP t2 t 20000 0 A s (by omega) (by omega) hC hn (fun s' hC' => inm ⟨fun _ => ⟨fun _ => ?_, fun q => absurd ((MR_1 hM).symm.trans q) (nIP_0 h2 hP)⟩, fun q => absurd q z10⟩)
        have em : s'.2.2.2.2.2.2.2 - s.2.2.2.2.2.2.2 = nI (cT P op t A) := by
          obtain ⟨F, S, -, rfl⟩ := hC
          obtain ⟨F2, S2, -, rfl⟩ := hC'
          dsimp only
          rw [TT_mv, Int32.add_comm, Int32.add_sub_cancel]
        obtain ⟨ma, be, ldt, hm, rfl⟩ := id hM
        refine mt29 hP hm (fun z => absurd z (fun ⟨i, hi, e⟩ => hz i hi e)) (fun _ _ => ⟨fun _ => ?_, fun z => absurd rfl z⟩) 20000 0 (by omega) (by omega) (fun i hi => absurd hi (by omega))
        have fin := mt75 (w := (0 : Int32)) (n1 := n1) (x1 := x1) (y1 := y1) (m1 := m1) (lot := lot) (k := fun x3_57 _ σ59 => s'.2.2.2.2.2.2.2 - s.2.2.2.2.2.2.2 = x3_57 ∧ Rl (c, s') σ59) h2 hP t2 t 20000 0 0 A _ (by omega) (by omega) hM hn (fun r' hr' => ⟨by rw [em, Nat.zero_add], RC_r r' hRC, Or.inr ⟨P, lot, op, _, h2, hP, hop, hlot, hC', hr'⟩⟩)
        exact fin
      · have hex : ∃ i, i < P ∧ A.1 i = 2 := by
          obtain ⟨i, hi, e⟩ := fb_ct_pos.mp (show 0 < fb_ct (fun i => decide (A.1 i = 2)) P by omega)
          exact ⟨i, hi, by simpa using e⟩
        refine inm ⟨fun _ => ⟨fun _ => ?_, fun q => absurd ((MR_1 hM).symm.trans q) (nIP_0 h2 hP)⟩, fun q => absurd q z10⟩
        obtain ⟨ma, be, ldt, hm, rfl⟩ := id hM
        exact mt29 hP hm (fun _ _ => ⟨fun z => absurd z z10, fun _ => same _⟩) (fun z => by obtain ⟨i, hi, e⟩ := hex; exact absurd e (z i hi)) 20000 0 (by omega) (by omega) (fun i hi => absurd hi (by omega))
  · refine isWithin_f hb ⟨fun q => absurd rfl q, fun _ => ?_⟩
    exact in_f (b := nI 1) (c := nI 1000) rfl rfl hb ⟨fun q => absurd rfl q, fun _ => same _⟩
