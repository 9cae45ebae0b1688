/-! the stepped row: bits beside sorts -/
theorem bt_1 : ∀ i, i < 32 → bt 1 i = decide (i = 0) := by decide +kernel
theorem tbI_key (x : Int32) {p : Nat} (hp : p < 32) : ((x >>> (nI p &&& (31 : Int32))) &&& (1 : Int32)) = if bt x p then 1 else 0 := by
  apply b_ext
  intro i hi
  rw [b_and, b_sshr p hp x hi, bt_1 i hi]
  by_cases h0 : i = 0
  · subst h0
    rw [if_pos (by omega), Nat.add_zero]
    cases bt x p
    · rw [if_neg (by decide), b_0]; rfl
    · rw [if_pos rfl, bt_1 0 (by omega)]; rfl
  · rw [decide_eq_false h0, Bool.and_false]
    cases bt x p
    · rw [if_neg (by decide), b_0]
    · rw [if_pos rfl, bt_1 i hi, decide_eq_false h0]
theorem isTakenI (x : Int32) {p : Nat} (hp : p < 32) {post : Int32 → Prop} (h : post (if bt x p then 1 else 0)) : wp_X3_isTaken x (nI p) post := by
  unfold wp_X3_isTaken
  rw [tbI_key x hp]
  cases hb : bt x p
  · rw [hb] at h; exact ⟨fun _ => h, fun q => absurd q (by decide)⟩
  · rw [hb] at h; exact ⟨fun q => absurd rfl q, fun _ => h⟩
theorem bt_sh1 {p i : Nat} (hp : p < 32) (hi : i < 32) : bt ((1 : Int32) <<< (nI p &&& (31 : Int32))) i = decide (i = p) := by
  rw [b_shl p hp 1 hi, bt_1 (i - p) (by omega)]
  by_cases h : i = p
  · subst h; simp
  · rw [decide_eq_false h]
    by_cases h2 : p ≤ i
    · rw [decide_eq_false (show ¬ i - p = 0 by omega), Bool.and_false]
    · rw [decide_eq_false h2, Bool.false_and]
def sortI (F S : Int32) (i : Nat) : Int32 := if bt F i then 1 else if bt S i then 2 else 0
theorem sortI_c (F S : Int32) (i : Nat) : sortI F S i = 0 ∨ sortI F S i = 1 ∨ sortI F S i = 2 := by
  unfold sortI
  cases bt F i
  · cases bt S i
    · exact Or.inl rfl
    · exact Or.inr (Or.inr rfl)
  · exact Or.inr (Or.inl rfl)
theorem sortAt_sp {σ : SS} {p : Nat} (hp : p < 32) {post : Int32 → Prop} (h : post (sortI σ.2.2.1 σ.2.2.2.1 p)) : wp_X2_sortAt (nI p) σ post := by
  unfold wp_X2_sortAt
  unfold sortI at h
  refine isTakenI _ hp ?_
  cases hb : bt σ.2.2.1 p
  · rw [hb] at h
    refine ⟨fun _ => isTakenI _ hp ?_, fun q => absurd rfl q⟩
    cases hc : bt σ.2.2.2.1 p
    · rw [hc] at h; exact ⟨fun _ => h, fun q => absurd rfl q⟩
    · rw [hc] at h; exact ⟨fun q => absurd q (by decide), fun _ => h⟩
  · rw [hb] at h
    exact ⟨fun q => absurd q (by decide), fun _ => h⟩
def BR (P : Nat) (F S : Int32) (so : Nat → Int32) : Prop := ∀ i, i < 32 → (i < P → so i = sortI F S i) ∧ (P ≤ i → bt F i = false ∧ bt S i = false) ∧ ¬ (bt F i = true ∧ bt S i = true)
theorem put_sp {P op F S lt ci go mv : Int32} {p : Nat} {v : Int32} (hp : p < 32) {post : SS → Prop} (h : ∀ F' S', (∀ i, i < 32 → bt F' i = if i = p then decide (v = 1) else bt F i) → (∀ i, i < 32 → bt S' i = if i = p then decide (v = 2) else bt S i) → post (P, op, F', S', lt, ci, go, mv)) : wp_X2_put (nI p) v (P, op, F, S, lt, ci, go, mv) post := by
  have cs : ∀ x : Int32, ∀ i, i < 32 → bt (x ||| ((1 : Int32) <<< (nI p &&& (31 : Int32)))) i = if i = p then true else bt x i := fun x i hi => by
    rw [b_or, bt_sh1 hp hi]
    by_cases e : i = p
    · simp [e]
    · simp [e]
  have cc : ∀ x : Int32, ∀ i, i < 32 → bt (x &&& (((1 : Int32) <<< (nI p &&& (31 : Int32))) ^^^ (-1 : Int32))) i = if i = p then false else bt x i := fun x i hi => by
    rw [b_and, b_xor, bt_sh1 hp hi, b_m1 i hi]
    by_cases e : i = p
    · simp [e]
    · simp [e]
  unfold wp_X2_put
  refine ⟨fun q1 => ⟨fun q2 => ?_, fun q2 => ?_⟩, fun q1 => ⟨fun q2 => ?_, fun q2 => ?_⟩⟩
  · exact h _ _ (fun i hi => by rw [decide_eq_false q1]; exact cc F i hi) (fun i hi => by rw [decide_eq_false q2]; exact cc S i hi)
  · exact h _ _ (fun i hi => by rw [decide_eq_false q1]; exact cc F i hi) (fun i hi => by rw [decide_eq_true q2]; exact cs S i hi)
  · exact h _ _ (fun i hi => by rw [decide_eq_true q1]; exact cs F i hi) (fun i hi => by rw [decide_eq_false q2]; exact cc S i hi)
  · rw [q1] at q2; exact absurd q2 (by decide)
theorem BR_put {P p : Nat} {F S F' S' v : Int32} {so : Nat → Int32} (h : BR P F S so) (hp : p < P) (hv : v = 0 ∨ v = 1 ∨ v = 2) (h1 : ∀ i, i < 32 → bt F' i = if i = p then decide (v = 1) else bt F i) (h2 : ∀ i, i < 32 → bt S' i = if i = p then decide (v = 2) else bt S i) : BR P F' S' (upd so p v) := by
  intro i hi
  obtain ⟨a, b, c⟩ := h i hi
  by_cases e : i = p
  · subst e
    refine ⟨fun _ => ?_, fun q => absurd hp (by omega), fun q => ?_⟩
    · rw [pk_us, sortI, h1 i hi, h2 i hi, if_pos rfl, if_pos rfl]
      rcases hv with rfl | rfl | rfl <;> decide
    · rw [h1 i hi, h2 i hi, if_pos rfl, if_pos rfl, decide_eq_true_eq, decide_eq_true_eq] at q
      rw [q.1] at q
      exact absurd q.2 (by decide)
  · rw [h1 i hi, h2 i hi, if_neg e, if_neg e, pk_un e]
    refine ⟨fun q => ?_, b, c⟩
    rw [a q, sortI, sortI, h1 i hi, h2 i hi, if_neg e, if_neg e]
/-! what is done, in words of the sorts -/
abbrev AB : Type := (Nat → Int32) × Int32 × Int32 × Int32
def exC (so : Nat → Int32) (a b : Nat) : Prop := (so a = 1 ∧ ¬ so b = 1) ∨ (so a = 2 ∧ so b = 0)
noncomputable def exA (a b : Nat) (A : AB) : AB := (upd (upd A.1 a (A.1 b)) b (A.1 a), A.2.1, A.2.2.1, A.2.2.2 + 1)
def cmA (A : AB) : AB := (upd A.1 0 1, A.2.1 + 1, A.2.2.1 + (if A.1 0 = 2 then 1 else 0), A.2.2.2)
def gsA (P : Nat) (A : AB) : AB := (upd A.1 (P - 1) 0, A.2.1, A.2.2.1 + 1, A.2.2.2)
/-- the class holds A -/
def CR (P : Nat) (op : Int32) (lot : Nat) (A : AB) (σ : SS) : Prop := ∃ F S, BR P F S A.1 ∧ σ = (nI P, op, F, S, nI lot, A.2.1, A.2.2.1, A.2.2.2)
theorem exch_sp {P : Nat} {op : Int32} {lot : Nat} {A : AB} {σ : SS} {a b : Nat} (hP : P ≤ 30) (hR : CR P op lot A σ) (ha : a < P) (hb : b < P) {post : Int32 → SS → Prop} (h1 : exC A.1 a b → ∀ σ', CR P op lot (exA a b A) σ' → post 1 σ') (h0 : ¬ exC A.1 a b → post 0 σ) : wp_X2_exchange (nI a) (nI b) σ post := by
  obtain ⟨F, S, hB, rfl⟩ := hR
  have ea := (hB a (by omega)).1 ha
  have eb := (hB b (by omega)).1 hb
  have hca : A.1 a = 0 ∨ A.1 a = 1 ∨ A.1 a = 2 := by rw [ea]; exact sortI_c _ _ _
  have hcb : A.1 b = 0 ∨ A.1 b = 1 ∨ A.1 b = 2 := by rw [eb]; exact sortI_c _ _ _
  have go : exC A.1 a b → wp_X2_put (nI a) (A.1 b) (nI P, op, F, S, nI lot, A.2.1, A.2.2.1, A.2.2.2) (fun σ9 => wp_X2_put (nI b) (A.1 a) σ9 (fun σ11 => post (1 : Int32) (σ11.1, σ11.2.1, σ11.2.2.1, σ11.2.2.2.1, σ11.2.2.2.2.1, σ11.2.2.2.2.2.1, σ11.2.2.2.2.2.2.1, (σ11.2.2.2.2.2.2.2 + (1 : Int32))))) := by
    intro hc
    refine put_sp (by omega) (fun F1 S1 f1 s1 => put_sp (by omega) (fun F2 S2 f2 s2 => ?_))
    refine h1 hc _ ⟨F2, S2, ?_, rfl⟩
    exact BR_put (BR_put hB ha hcb f1 s1) hb hca f2 s2
  unfold wp_X2_exchange
  refine sortAt_sp (by omega) (sortAt_sp (by omega) ?_)
  show ((¬ sortI F S a = 1 → _) ∧ (sortI F S a = 1 → _))
  dsimp only
  rw [← ea, ← eb]
  refine ⟨fun q1 => ⟨fun q2 => h0 (fun z => ?_), fun q2 => ⟨fun q3 => h0 (fun z => ?_), fun q3 => go (Or.inr ⟨q2, q3⟩)⟩⟩, fun q1 => ⟨fun q2 => go (Or.inl ⟨q1, q2⟩), fun q2 => ⟨fun q3 => h0 (fun z => ?_), fun q3 => ?_⟩⟩⟩
  · rcases z with z | z
    · exact q1 z.1
    · exact q2 z.1
  · rcases z with z | z
    · exact q1 z.1
    · exact q3 z.2
  · rcases z with z | z
    · exact z.2 q2
    · exact q3 z.1
  · rw [q1] at q3; exact absurd q3 (by decide)
theorem come_sp {P : Nat} {op : Int32} {lot : Nat} {A : AB} {σ : SS} (hP : P ≤ 30) (h2 : 1 ≤ P) (hR : CR P op lot A σ) {post : Int32 → SS → Prop} (h1 : ¬ A.1 0 = 1 → ∀ σ', CR P op lot (cmA A) σ' → post 1 σ') (h0 : A.1 0 = 1 → post 0 σ) : wp_X2_comeToFirstPlace σ post := by
  obtain ⟨F, S, hB, rfl⟩ := hR
  have ea := (hB 0 (by omega)).1 (by omega)
  unfold wp_X2_comeToFirstPlace
  refine sortAt_sp (p := 0) (by omega) ?_
  dsimp only
  rw [← ea]
  refine ⟨fun q1 => ⟨fun q2 => ?_, fun q2 => ?_⟩, fun q1 => h0 q1⟩
  · refine put_sp (p := 0) (by omega) (fun F1 S1 f1 s1 => h1 q1 _ ⟨F1, S1, BR_put hB (by omega) (Or.inr (Or.inl rfl)) f1 s1, ?_⟩)
    dsimp only [cmA]
    rw [if_neg q2, Int32.add_zero]
  · refine put_sp (p := 0) (by omega) (fun F1 S1 f1 s1 => h1 q1 _ ⟨F1, S1, BR_put hB (by omega) (Or.inr (Or.inl rfl)) f1 s1, ?_⟩)
    dsimp only [cmA]
    rw [if_pos q2]
theorem gone_sp {P : Nat} {op : Int32} {lot : Nat} {A : AB} {σ : SS} (hP : P ≤ 30) (h2 : 1 ≤ P) (hR : CR P op lot A σ) {post : Int32 → SS → Prop} (h1 : A.1 (P - 1) = 1 → ∀ σ', CR P op lot (gsA P A) σ' → post 1 σ') (h0 : ¬ A.1 (P - 1) = 1 → post 0 σ) : wp_X2_goFromLastPlace σ post := by
  obtain ⟨F, S, hB, rfl⟩ := hR
  have ea := (hB (P - 1) (by omega)).1 (by omega)
  have e : nI P - (1 : Int32) = nI (P - 1) := pk_sub (b := 1) h2
  unfold wp_X2_goFromLastPlace
  dsimp only
  rw [e]
  refine sortAt_sp (by omega) ?_
  dsimp only
  rw [← ea]
  refine ⟨fun q1 => ?_, fun q1 => h0 q1⟩
  exact put_sp (by omega) (fun F1 S1 f1 s1 => h1 q1 _ ⟨F1, S1, BR_put hB (by omega) (Or.inl rfl) f1 s1, rfl⟩)
/-- one step, by the number drawn -/
def stC (P : Nat) (op : Int32) (v : Nat) (so : Nat → Int32) : Prop := if v < P - 1 then exC so v (v + 1) else if v = P - 1 then (if op = 0 then exC so (P - 1) 0 else ¬ so 0 = 1) else (¬ op = 0 ∧ so (P - 1) = 1)
noncomputable def stA (P : Nat) (op : Int32) (v : Nat) (A : AB) : AB := if v < P - 1 then exA v (v + 1) A else if v = P - 1 then (if op = 0 then exA (P - 1) 0 A else cmA A) else gsA P A
theorem once_sp {P v : Nat} {op : Int32} {lot : Nat} {A : AB} {σ : SS} (hP : P ≤ 30) (h2 : 2 ≤ P) (hv : v ≤ P) (hR : CR P op lot A σ) {post : Int32 → SS → Prop} (h1 : stC P op v A.1 → ∀ σ', CR P op lot (stA P op v A) σ' → post 1 σ') (h0 : ¬ stC P op v A.1 → post 0 σ) : wp_X2_stepOnce (nI v) σ post := by
  have e : nI P - (1 : Int32) = nI (P - 1) := pk_sub (b := 1) (by omega)
  have e1 : σ.1 = nI P := by obtain ⟨F, S, hB, rfl⟩ := hR; rfl
  have e2 : σ.2.1 = op := by obtain ⟨F, S, hB, rfl⟩ := hR; rfl
  unfold wp_X2_stepOnce
  rw [e1, e2, e, nI_leI (by omega) (by omega), nI_eq (by omega) (by omega), nI_1]
  refine ⟨fun q1 => ⟨fun q2 => ⟨fun q3 => h0 (fun z => ?_), fun q3 => ?_⟩, fun q2 => ⟨fun q3 => ?_, fun q3 => ?_⟩⟩, fun q1 => ?_⟩
  · rw [stC, if_neg (by omega), if_neg q2] at z; exact z.1 q3
  · have hs : stC P op v A.1 ↔ A.1 (P - 1) = 1 := by rw [stC, if_neg (by omega), if_neg q2]; exact ⟨fun z => z.2, fun z => ⟨q3, z⟩⟩
    have ht : stA P op v A = gsA P A := by rw [stA, if_neg (by omega), if_neg q2]
    rw [hs, ht] at h1
    rw [hs] at h0
    refine gone_sp hP (by omega) hR (fun z σ' hr => ⟨fun q => absurd q (by decide), fun _ => h1 z σ' hr⟩) (fun z => ⟨fun _ => h0 z, fun q => absurd rfl q⟩)
  · have hs : stC P op v A.1 ↔ exC A.1 (P - 1) 0 := by rw [stC, if_neg (by omega), if_pos q2, if_pos q3]
    have ht : stA P op v A = exA (P - 1) 0 A := by rw [stA, if_neg (by omega), if_pos q2, if_pos q3]
    rw [hs, ht] at h1
    rw [hs] at h0
    exact exch_sp (b := 0) hP hR (by omega) (by omega) (fun z σ' hr => ⟨nb_1, h1 z σ' hr⟩) (fun z => ⟨nb_0, h0 z⟩)
  · have hs : stC P op v A.1 ↔ ¬ A.1 0 = 1 := by rw [stC, if_neg (by omega), if_pos q2, if_neg q3]
    have ht : stA P op v A = cmA A := by rw [stA, if_neg (by omega), if_pos q2, if_neg q3]
    rw [hs, ht] at h1
    rw [hs] at h0
    exact come_sp hP (by omega) hR (fun z σ' hr => ⟨nb_1, h1 z σ' hr⟩) (fun z => ⟨nb_0, h0 (fun y => y z)⟩)
  · have hs : stC P op v A.1 ↔ exC A.1 v (v + 1) := by rw [stC, if_pos (by omega)]
    have ht : stA P op v A = exA v (v + 1) A := by rw [stA, if_pos (by omega)]
    rw [hs, ht] at h1
    rw [hs] at h0
    exact exch_sp hP hR (by omega) (by omega) (fun z σ' hr => ⟨nb_1, h1 z σ' hr⟩) (fun z => ⟨nb_0, h0 z⟩)
/-! the seed -/
def nxt (lot : Nat) : Nat := (lot * 1103515245 + 12345) % 2147483648
def drw (P lot : Nat) : Nat := lot / 65536 % (P + 1)
theorem draw_sp {P : Nat} {op : Int32} {lot : Nat} {A : AB} {σ : SS} (hP : P ≤ 30) (hR : CR P op lot A σ) {post : Int32 → SS → Prop} (h : ∀ σ', CR P op (nxt lot) A σ' → post (nI (drw P (nxt lot))) σ') : wp_X2_draw σ post := by
  obtain ⟨F, S, hB, rfl⟩ := hR
  have hl : nxt lot < 2147483648 := Nat.mod_lt _ (by omega)
  unfold wp_X2_draw
  intro v1 e1
  have e : (v1 + (12345 : Int32)) &&& (2147483647 : Int32) = nI (nxt lot) := by
    have a1 : v1 = nI (lot * 1103515245) := by rw [e1]; exact pk_mul lot 1103515245
    have a2 : v1 + (12345 : Int32) = nI (lot * 1103515245 + 12345) := by rw [a1]; exact nI_add _ 12345
    rw [a2]
    exact fa_mask _ 31
  have e16 : nI (nxt lot) >>> ((16 : Int32) &&& (31 : Int32)) = nI (nxt lot / 65536) := shr_n (k := 16) (by omega) (by omega)
  have hq : nxt lot / 65536 < 32768 := by omega
  dsimp only
  rw [e, e16, nI_1]
  have p0 : (nI (P + 1) ≤ 0) ↔ P + 1 ≤ 0 := nI_leI (b := 0) (by omega) (by omega)
  have p1 : (nI (P + 1) = 0) ↔ P + 1 = 0 := nI_eq (b := 0) (by omega) (by omega)
  rw [p0, p1, pk_rem (by omega) (by omega) (by omega)]
  exact ⟨fun z => absurd z (by omega), fun _ => ⟨by omega, h _ ⟨F, S, hB, rfl⟩⟩⟩
