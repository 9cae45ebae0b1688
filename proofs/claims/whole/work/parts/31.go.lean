/-! the reference's row -/
abbrev RR : Type := Int32 × Int32 × Int64 × (Nat → Int32) × (Nat → Int32) × Int32 × Int32 × Int32 × Int32
def MR (P : Nat) (op : Int32) (lot : Nat) (A : AB) (r : RR) : Prop := ∃ (ma be : Nat → Int32) (ldt : Int32), (∀ i, i < P → ma i = A.1 i) ∧ r = (nI P, op, lN lot, ma, be, A.2.1, A.2.2.1, A.2.2.2, ldt)
section MG
variable {P : Nat} {op : Int32} {lot : Nat} {A : AB} {n1 x1 y1 : Int32} {m1 : Nat → Int64} {r : RR}
theorem ag_upd {ma so : Nat → Int32} {p : Nat} {v : Int32} (h : ∀ i, i < P → ma i = so i) : ∀ i, i < P → upd ma p v i = upd so p v i := fun i hi => by
  by_cases e : i = p
  · subst e; rw [pk_us, pk_us]
  · rw [pk_un e, pk_un e]; exact h i hi
theorem chg_sp {a b : Nat} (hP : P ≤ 30) (hR : MR P op lot A r) (ha : a < P) (hb : b < P) {post : Int32 → SM → Prop} (h1 : exC A.1 a b → ∀ r', MR P op lot (exA a b A) r' → post 1 (n1, x1, y1, m1, r')) (h0 : ¬ exC A.1 a b → post 0 (n1, x1, y1, m1, r)) : wp_X4_changes (nI a) (nI b) (n1, x1, y1, m1, r) post := by
  obtain ⟨ma, be, ldt, hm, rfl⟩ := hR
  have va : vp_in (nI a) 30 := vp_in_nI (by omega) (by omega)
  have vb : vp_in (nI b) 30 := vp_in_nI (by omega) (by omega)
  have ea := hm a ha
  have eb := hm b hb
  have go : exC A.1 a b → post 1 (n1, x1, y1, m1, nI P, op, lN lot, upd (upd ma a (ma b)) b (ma a), be, A.2.1, A.2.2.1, A.2.2.2 + 1, ldt) := fun hc => h1 hc _ ⟨_, be, ldt, by rw [ea, eb]; exact ag_upd (ag_upd hm), rfl⟩
  unfold wp_X4_changes
  dsimp only
  rw [nI_clamp (by omega), nI_clamp (by omega)]
  refine ⟨va, fun q1 => ⟨va, fun q2 => h0 (fun z => ?_), fun q2 => ⟨vb, fun q3 => h0 (fun z => ?_), fun q3 => ⟨va, vb, va, vb, go ?_⟩⟩⟩, fun q1 => ⟨vb, fun q2 => ⟨va, vb, va, vb, go ?_⟩, fun q2 => ⟨va, fun q3 => h0 (fun z => ?_), fun q3 => ⟨vb, fun q4 => h0 (fun z => ?_), fun q4 => ⟨va, vb, va, vb, go ?_⟩⟩⟩⟩⟩
  · rw [ea] at q1 q2
    rcases z with z | z
    · exact q1 z.1
    · exact q2 z.1
  · rw [ea] at q1
    rw [eb] at q3
    rcases z with z | z
    · exact q1 z.1
    · exact q3 z.2
  · rw [ea] at q2; rw [eb] at q3; exact Or.inr ⟨q2, q3⟩
  · rw [ea] at q1; rw [eb] at q2; exact Or.inl ⟨q1, q2⟩
  · rw [ea] at q3; rw [eb] at q2
    rcases z with z | z
    · exact z.2 q2
    · exact q3 z.1
  · rw [q1] at q3; exact absurd q3 (by decide)
  · rw [q1] at q3; exact absurd q3 (by decide)
theorem mcome_sp (hP : P ≤ 30) (h2 : 1 ≤ P) (hR : MR P op lot A r) {post : Int32 → SM → Prop} (h1 : ¬ A.1 0 = 1 → ∀ r', MR P op lot (cmA A) r' → post 1 (n1, x1, y1, m1, r')) (h0 : A.1 0 = 1 → post 0 (n1, x1, y1, m1, r)) : wp_X4_comes (n1, x1, y1, m1, r) post := by
  obtain ⟨ma, be, ldt, hm, rfl⟩ := hR
  have v0 : vp_in (0 : Int32) 30 := vp_in_nI (n := 0) (by omega) (by omega)
  have ea := hm 0 (by omega)
  have c0 : (0 : Int32).toNatClampNeg = 0 := rfl
  unfold wp_X4_comes
  dsimp only
  rw [c0, ea]
  refine ⟨v0, fun q1 => ⟨v0, fun q2 => ⟨v0, h1 q1 _ ⟨_, be, ldt, ag_upd hm, ?_⟩⟩, fun q2 => ⟨v0, h1 q1 _ ⟨_, be, ldt, ag_upd hm, ?_⟩⟩⟩, fun q1 => h0 q1⟩
  · dsimp only [cmA]; rw [if_neg q2]
  · dsimp only [cmA]; rw [if_pos q2]
theorem mgone_sp (hP : P ≤ 30) (h2 : 1 ≤ P) (hR : MR P op lot A r) {post : Int32 → SM → Prop} (h1 : A.1 (P - 1) = 1 → ∀ r', MR P op lot (gsA P A) r' → post 1 (n1, x1, y1, m1, r')) (h0 : ¬ A.1 (P - 1) = 1 → post 0 (n1, x1, y1, m1, r)) : wp_X4_goes (n1, x1, y1, m1, r) post := by
  obtain ⟨ma, be, ldt, hm, rfl⟩ := hR
  have ea := hm (P - 1) (by omega)
  have e : nI P - (1 : Int32) = nI (P - 1) := pk_sub (b := 1) h2
  have va : vp_in (nI (P - 1)) 30 := vp_in_nI (by omega) (by omega)
  unfold wp_X4_goes
  dsimp only
  rw [e, nI_clamp (by omega), ea]
  exact ⟨va, fun q1 => ⟨va, h1 q1 _ ⟨_, be, ldt, ag_upd hm, rfl⟩⟩, fun q1 => h0 q1⟩
end MG
noncomputable def GG (P : Nat) (op : Int32) : Nat → Nat → AB → Nat → Nat × AB × Nat
  | 0, lot, A, c => (lot, A, c)
  | t + 1, lot, A, c => @ite _ (stC P op (drw P (nxt lot)) A.1) (Classical.propDecidable _) (GG P op t (nxt lot) (stA P op (drw P (nxt lot)) A) (c + 1)) (GG P op t (nxt lot) A c)
theorem GG_lot (P : Nat) (op : Int32) : ∀ t lot A c, lot < 2147483648 → (GG P op t lot A c).1 < 2147483648
  | 0, lot, A, c, h => h
  | t + 1, lot, A, c, _ => by
    have hl : nxt lot < 2147483648 := Nat.mod_lt _ (by omega)
    rw [GG]
    split
    · exact GG_lot P op t _ _ _ hl
    · exact GG_lot P op t _ _ _ hl
theorem cgo {P T : Nat} {op : Int32} (hP : P ≤ 30) (h2 : 2 ≤ P) (hT : T ≤ 10000) {k : Int32 → Int32 → SS → Prop} : ∀ t n i c lot A σ, i + t = T → t < n → CR P op lot A σ → (∀ σ', CR P op (GG P op t lot A c).1 (GG P op t lot A c).2.1 σ' → k (nI (GG P op t lot A c).2.2) (nI T) σ') → wl_X2_stepSingly_4 (nI T) n (nI c) (nI i) σ k := by
  intro t
  induction t with
  | zero =>
    intro n i c lot A σ hi hn hR hk
    obtain ⟨n, rfl⟩ : ∃ m, n = m + 1 := ⟨n - 1, by omega⟩
    obtain rfl : i = T := by omega
    unfold wl_X2_stepSingly_4
    exact ⟨fun _ => hk σ hR, fun q => absurd ((nI_leI (by omega) (by omega)).mpr (Nat.le_refl i)) q⟩
  | succ t ih =>
    intro n i c lot A σ hi hn hR hk
    obtain ⟨n, rfl⟩ : ∃ m, n = m + 1 := ⟨n - 1, by omega⟩
    have hv : drw P (nxt lot) ≤ P := Nat.le_of_lt_succ (Nat.mod_lt _ (by omega))
    unfold wl_X2_stepSingly_4
    rw [nI_leI (by omega) (by omega), nI_1, nI_1]
    refine ⟨fun q => absurd q (by omega), fun _ => draw_sp hP hR (fun σ1 hR1 => once_sp hP h2 hv hR1 (fun hc σ2 hR2 => ⟨fun q => absurd q (by decide), fun _ => ?_⟩) (fun hc => ⟨fun _ => ?_, fun q => absurd rfl q⟩))⟩
    · refine ih n (i + 1) (c + 1) (nxt lot) _ σ2 (by omega) (by omega) hR2 (fun σ' h' => ?_)
      have := hk σ'
      rw [GG, if_pos hc] at this
      exact this h'
    · refine ih n (i + 1) c (nxt lot) A σ1 (by omega) (by omega) hR1 (fun σ' h' => ?_)
      have := hk σ'
      rw [GG, if_neg hc] at this
      exact this h'
theorem mgo {P T : Nat} {op : Int32} {n1 x1 y1 : Int32} {m1 : Nat → Int64} (hP : P ≤ 30) (h2 : 2 ≤ P) (hT : T ≤ 10000) {k : Int32 → Int32 → SM → Prop} : ∀ t n i c lot A r, i + t = T → t < n → lot < 2147483648 → MR P op lot A r → (∀ r', MR P op (GG P op t lot A c).1 (GG P op t lot A c).2.1 r' → k (nI (GG P op t lot A c).2.2) (nI T) (n1, x1, y1, m1, r')) → wl_X4_go_28 (nI T) n (nI c) (nI i) (n1, x1, y1, m1, r) k := by
  intro t
  induction t with
  | zero =>
    intro n i c lot A r hi hn hlot hR hk
    obtain ⟨n, rfl⟩ : ∃ m, n = m + 1 := ⟨n - 1, by omega⟩
    obtain rfl : i = T := by omega
    unfold wl_X4_go_28
    exact ⟨fun _ => hk r hR, fun q => absurd ((nI_leI (by omega) (by omega)).mpr (Nat.le_refl i)) q⟩
  | succ t ih =>
    intro n i c lot A r hi hn hlot hR hk
    obtain ⟨n, rfl⟩ : ∃ m, n = m + 1 := ⟨n - 1, by omega⟩
    have hl : nxt lot < 2147483648 := Nat.mod_lt _ (by omega)
    have hv : drw P (nxt lot) ≤ P := Nat.le_of_lt_succ (Nat.mod_lt _ (by omega))
    have e : nI P - (1 : Int32) = nI (P - 1) := pk_sub (b := 1) (by omega)
    have yes : stC P op (drw P (nxt lot)) A.1 → ∀ r2, MR P op (nxt lot) (stA P op (drw P (nxt lot)) A) r2 → wl_X4_go_28 (nI T) n (nI (c + 1)) (nI (i + 1)) (n1, x1, y1, m1, r2) k := by
      intro hc r2 hR2
      refine ih n (i + 1) (c + 1) (nxt lot) _ r2 (by omega) (by omega) hl hR2 (fun σ' h' => ?_)
      have := hk σ'
      rw [GG, if_pos hc] at this
      exact this h'
    have no : ¬ stC P op (drw P (nxt lot)) A.1 → ∀ r2, MR P op (nxt lot) A r2 → wl_X4_go_28 (nI T) n (nI c) (nI (i + 1)) (n1, x1, y1, m1, r2) k := by
      intro hc r2 hR2
      refine ih n (i + 1) c (nxt lot) A r2 (by omega) (by omega) hl hR2 (fun σ' h' => ?_)
      have := hk σ'
      rw [GG, if_neg hc] at this
      exact this h'
    obtain ⟨ma, be, ldt, hm, rfl⟩ := hR
    have hR1 : MR P op (nxt lot) A (nI P, op, lN (nxt lot), ma, be, A.2.1, A.2.2.1, A.2.2.2, ldt) := ⟨ma, be, ldt, hm, rfl⟩
    unfold wl_X4_go_28
    dsimp only
    rw [nI_leI (by omega) (by omega)]
    refine ⟨fun q => absurd q (by omega), fun _ v6 e6 => ?_⟩
    have s1 : (v6 + (12345 : Int64)) &&& (2147483647 : Int64) = lN (nxt lot) := by
      have a1 : v6 = lN (lot * 1103515245) := by rw [e6]; exact lN_mul lot 1103515245
      have a2 : v6 + (12345 : Int64) = lN (lot * 1103515245 + 12345) := by rw [a1]; exact lN_add _ 12345
      rw [a2]
      exact fb_maskL _ 31
    have s2 : lN (nxt lot) / (65536 : Int64) = lN (nxt lot / 65536) := pk_lDiv (b := 65536) (by omega) (by omega) (by omega)
    have a0 : nI c + (0 : Int32) = nI c := nI_add c 0
    rw [s1, s2, nI_1, nI_1, nI_1, nI_l (by omega), pk_lRem (by omega) (by omega) (by omega), lN_i, e, a0]
    have hdr : nxt lot / 65536 % (P + 1) = drw P (nxt lot) := rfl
    rw [hdr, nI_leI (by omega) (by omega), nI_eq (by omega) (by omega), nI_1]
    refine ⟨fun z => absurd ((pk_lEQ (b := 0) (by omega) (by omega)).mp z) (by omega), fun q1 => ⟨fun q2 => ⟨fun q3 => ?_, fun q3 => ?_⟩, fun q2 => ⟨fun q3 => ?_, fun q3 => ?_⟩⟩, fun q1 => ?_⟩
    · exact no (fun z => by rw [stC, if_neg (by omega), if_neg q2] at z; exact z.1 q3) _ hR1
    · have hs : stC P op (drw P (nxt lot)) A.1 ↔ A.1 (P - 1) = 1 := by rw [stC, if_neg (by omega), if_neg q2]; exact ⟨fun z => z.2, fun z => ⟨q3, z⟩⟩
      have ht : stA P op (drw P (nxt lot)) A = gsA P A := by rw [stA, if_neg (by omega), if_neg q2]
      rw [hs, ht] at yes
      rw [hs] at no
      exact mgone_sp hP (by omega) hR1 (fun z r' hr => ⟨fun q => absurd q (by decide), fun _ => yes z r' hr⟩) (fun z => ⟨fun _ => no z _ hR1, fun q => absurd rfl q⟩)
    · have hs : stC P op (drw P (nxt lot)) A.1 ↔ exC A.1 (P - 1) 0 := by rw [stC, if_neg (by omega), if_pos q2, if_pos q3]
      have ht : stA P op (drw P (nxt lot)) A = exA (P - 1) 0 A := by rw [stA, if_neg (by omega), if_pos q2, if_pos q3]
      rw [hs, ht] at yes
      rw [hs] at no
      exact chg_sp (b := 0) hP hR1 (by omega) (by omega) (fun z r' hr => ⟨fun q => absurd q (by decide), fun _ => yes z r' hr⟩) (fun z => ⟨fun _ => no z _ hR1, fun q => absurd rfl q⟩)
    · have hs : stC P op (drw P (nxt lot)) A.1 ↔ ¬ A.1 0 = 1 := by rw [stC, if_neg (by omega), if_pos q2, if_neg q3]
      have ht : stA P op (drw P (nxt lot)) A = cmA A := by rw [stA, if_neg (by omega), if_pos q2, if_neg q3]
      rw [hs, ht] at yes
      rw [hs] at no
      exact mcome_sp hP (by omega) hR1 (fun z r' hr => ⟨fun q => absurd q (by decide), fun _ => yes z r' hr⟩) (fun z => ⟨fun _ => no (fun y => y z) _ hR1, fun q => absurd rfl q⟩)
    · have hs : stC P op (drw P (nxt lot)) A.1 ↔ exC A.1 (drw P (nxt lot)) (drw P (nxt lot) + 1) := by rw [stC, if_pos (by omega)]
      have ht : stA P op (drw P (nxt lot)) A = exA (drw P (nxt lot)) (drw P (nxt lot) + 1) A := by rw [stA, if_pos (by omega)]
      rw [hs, ht] at yes
      rw [hs] at no
      exact chg_sp hP hR1 (by omega) (by omega) (fun z r' hr => ⟨fun q => absurd q (by decide), fun _ => yes z r' hr⟩) (fun z => ⟨fun _ => no z _ hR1, fun q => absurd rfl q⟩)
/-! the two rows side by side -/
def RS (s : SS) (r : RR) : Prop := (s.1 = 0 ∧ r.1 = 0) ∨ ∃ (P lot : Nat) (op : Int32) (A : AB), 2 ≤ P ∧ P ≤ 30 ∧ nb op ∧ lot < 2147483648 ∧ CR P op lot A s ∧ MR P op lot A r
/-- class and reference, side by side -/
abbrev Rl (σ : SO) (τ : SM) : Prop := RC σ.1 τ ∧ RS σ.2 τ.2.2.2.2
theorem RC_r {σ : SC} {n1 x1 y1 : Int32} {m1 : Nat → Int64} {r : RR} (r' : RR) (h : RC σ (n1, x1, y1, m1, r)) : RC σ (n1, x1, y1, m1, r') := by
  obtain ⟨n, x, y, f, g, m, r2, hn, hx1, hx, hy1, hy, hT, hM, e1, e2⟩ := h
  refine ⟨n, x, y, f, g, m, r', hn, hx1, hx, hy1, hy, hT, hM, e1, ?_⟩
  cases e2
  rfl
theorem isThere_f {s : SS} (h : s.1 = 0) {post : Int32 → Prop} (hp : post 0) : wp_X2_isThere s post := by
  unfold wp_X2_isThere
  rw [h]
  exact ⟨fun _ => hp, fun q => absurd (by decide) q⟩
theorem isThere_t {P : Nat} {s : SS} (h2 : 2 ≤ P) (hP : P ≤ 30) (h : s.1 = nI P) {post : Int32 → Prop} (hp : post 1) : wp_X2_isThere s post := by
  unfold wp_X2_isThere
  rw [h]
  exact ⟨fun q => absurd ((nI_leI (b := 0) (by omega) (by omega)).mp q) (by omega), fun _ => hp⟩
theorem CR_1 {P : Nat} {op : Int32} {lot : Nat} {A : AB} {s : SS} (h : CR P op lot A s) : s.1 = nI P := by obtain ⟨F, S, -, rfl⟩ := h; rfl
theorem MR_1 {P : Nat} {op : Int32} {lot : Nat} {A : AB} {r : RR} (h : MR P op lot A r) : r.1 = nI P := by obtain ⟨ma, be, ldt, -, rfl⟩ := h; rfl
theorem nIP_0 {P : Nat} (h2 : 2 ≤ P) (hP : P ≤ 30) : ¬ nI P = 0 := fun q => absurd ((nI_eq (b := 0) (by omega) (by omega)).mp q) (by omega)
theorem rs_go {c : SC} {s : SS} {n1 x1 y1 : Int32} {m1 : Nat → Int64} {r : RR} (a : Int32) (hRC : RC c (n1, x1, y1, m1, r)) (h : RS s r) : wp_X3_go a (c, s) (fun r1 σ1 => wp_X4_go a (n1, x1, y1, m1, r) (fun r2 τ2 => r1 = r2 ∧ Rl σ1 τ2)) := by
  unfold wp_X3_go wp_X4_go
  dsimp only
  rcases rng_case a (lo := 1) (hi := 10000) (by omega) (by omega) with ⟨t, t1, t2, rfl⟩ | hb
  · refine isWithin_t (nI_rng t1 t2 (by omega)) ⟨fun _ => ?_, fun q => absurd q z10⟩
    have inm : ∀ {post : Int32 → Prop}, post 1 → wp_X4_in (nI t).toInt64 (1 : Int64) (10000 : Int64) post := fun h => in_t (b := nI 1) (c := nI 10000) rfl rfl (nI_rng t1 t2 (by omega)) h
    rcases id h with ⟨h1, h2⟩ | ⟨P, lot, op, A, h2, hP, hop, hlot, hC, hM⟩
    · exact isThere_f h1 ⟨fun _ => inm ⟨fun _ => ⟨fun q => absurd h2 q, fun _ => ⟨rfl, hRC, h⟩⟩, fun q => absurd q z10⟩, fun q => absurd rfl q⟩
    · refine isThere_t h2 hP (CR_1 hC) ⟨fun q => absurd q z10, fun _ => ?_⟩
      unfold wp_X2_stepSingly
      refine cgo hP h2 t2 t 20000 0 0 lot A s (by omega) (by omega) hC (fun σ' hC' => inm ⟨fun _ => ⟨fun _ => ?_, fun q => absurd ((MR_1 hM).symm.trans q) (nIP_0 h2 hP)⟩, fun q => absurd q z10⟩)
      refine mgo hP h2 t2 t 20000 0 0 lot A r (by omega) (by omega) hlot hM (fun r' hM' => ⟨rfl, RC_r r' hRC, Or.inr ⟨P, _, op, _, h2, hP, hop, GG_lot P op t lot A 0 hlot, hC', hM'⟩⟩)
  · refine isWithin_f hb ⟨fun q => absurd rfl q, fun _ => ?_⟩
    exact in_f (b := nI 1) (c := nI 10000) rfl rfl hb ⟨fun q => absurd rfl q, fun _ => ⟨rfl, hRC, h⟩⟩
