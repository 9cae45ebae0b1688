theorem bt_all {P i : Nat} (hi : i < 32) : bt (nI (2 ^ P - 1)) i = decide (i < P) := by rw [bt_nI hi, Nat.testBit_two_pow_sub_one]
theorem ct_cut {P : Nat} (hP : P ≤ 32) {f g : Nat → Bool} (h : ∀ i, i < 32 → f i = (decide (i < P) && g i)) : fb_ct f 32 = fb_ct g P := by
  obtain ⟨j, hj⟩ : ∃ j, 32 = P + j := ⟨32 - P, by omega⟩
  rw [hj, fb_ct_split]
  have h2 : fb_ct (fun k => f (P + k)) j = 0 := fb_ct_zero.mpr (fun k hk => by rw [h (P + k) (by omega), decide_eq_false (show ¬ P + k < P by omega), Bool.false_and])
  rw [h2, Nat.add_zero]
  exact fb_ct_cong (fun k hk => by rw [h k (by omega), decide_eq_true hk, Bool.true_and])
theorem BR_F {P i : Nat} {F S : Int32} {so : Nat → Int32} (hB : BR P F S so) (hi : i < 32) : bt F i = (decide (i < P) && decide (so i = 1)) := by
  obtain ⟨a, b, c⟩ := hB i hi
  by_cases h : i < P
  · rw [decide_eq_true h, Bool.true_and, a h, sortI]
    cases bt F i
    · cases bt S i <;> decide
    · cases bt S i <;> decide
  · rw [decide_eq_false h, Bool.false_and]
    exact (b (by omega)).1
theorem BR_S {P i : Nat} {F S : Int32} {so : Nat → Int32} (hB : BR P F S so) (hi : i < 32) : bt S i = (decide (i < P) && decide (so i = 2)) := by
  obtain ⟨a, b, c⟩ := hB i hi
  by_cases h : i < P
  · rw [decide_eq_true h, Bool.true_and, a h, sortI]
    cases hF : bt F i
    · cases bt S i <;> decide
    · cases hS : bt S i
      · decide
      · exact absurd ⟨hF, hS⟩ c
  · rw [decide_eq_false h, Bool.false_and]
    exact (b (by omega)).2
theorem BR_c {P i : Nat} {F S : Int32} {so : Nat → Int32} (hB : BR P F S so) (hi : i < 32) (h : i < P) : so i = 0 ∨ so i = 1 ∨ so i = 2 := by rw [(hB i hi).1 h]; exact sortI_c _ _ _
theorem fr_bit {P : Nat} {F S : Int32} {so : Nat → Int32} (hB : BR P F S so) {i : Nat} (hi : i < 32) : bt ((nI (2 ^ P - 1) &&& (F ^^^ (-1 : Int32))) &&& (S ^^^ (-1 : Int32))) i = (decide (i < P) && decide (so i = 0)) := by
  rw [b_and, b_and, b_xor, b_xor, b_m1 i hi, bt_all hi, BR_F hB hi, BR_S hB hi]
  by_cases h : i < P
  · rw [decide_eq_true h]
    rcases BR_c hB hi h with e | e | e <;> rw [e] <;> decide
  · rw [decide_eq_false h]
    rfl
theorem fwf_sp {P : Nat} {op F S lt ci go mv : Int32} {so : Nat → Int32} (h2 : 2 ≤ P) (hP : P ≤ 30) (hB : BR P F S so) {post : Int32 → Prop} (h : ∀ x, (∀ i, i < 32 → bt x i = (decide (i < P) && mvB P op so i)) → post x) : wp_X2_firstsWithFreeBehind (nI P, op, F, S, lt, ci, go, mv) post := by
  have e1 : nI P - (1 : Int32) = nI (P - 1) := pk_sub (b := 1) (by omega)
  have sh : ∀ i, i < 32 → bt (((nI (2 ^ P - 1) &&& (F ^^^ (-1 : Int32))) &&& (S ^^^ (-1 : Int32))) >>> ((1 : Int32) &&& (31 : Int32))) i = (decide (i + 1 < P) && decide (so (i + 1) = 0)) := fun i hi => by
    have hb := b_sshr 1 (by omega) ((nI (2 ^ P - 1) &&& (F ^^^ (-1 : Int32))) &&& (S ^^^ (-1 : Int32))) hi
    have hb' : bt (((nI (2 ^ P - 1) &&& (F ^^^ (-1 : Int32))) &&& (S ^^^ (-1 : Int32))) >>> ((1 : Int32) &&& (31 : Int32))) i = _ := hb
    rw [hb']
    by_cases h31 : 1 + i < 32
    · rw [if_pos h31, fr_bit hB h31, Nat.add_comm]
    · rw [if_neg h31, fr_bit hB (by omega), decide_eq_false (show ¬ 31 < P by omega), decide_eq_false (show ¬ i + 1 < P by omega)]
      rfl
  unfold wp_X2_firstsWithFreeBehind wp_X2_allPlaces
  dsimp only
  rw [sh1m P (by omega), e1]
  refine ⟨fun q => h _ (fun i hi => ?_), fun q => h _ (fun i hi => ?_)⟩
  · have ar : bt ((((nI (2 ^ P - 1) &&& (F ^^^ (-1 : Int32))) &&& (S ^^^ (-1 : Int32))) &&& (1 : Int32)) <<< (nI (P - 1) &&& (31 : Int32))) i = (decide (i + 1 = P) && decide (so 0 = 0)) := by
      rw [b_shl (P - 1) (by omega) _ hi, b_and, fr_bit hB (by omega), bt_1 _ (by omega)]
      by_cases e : i + 1 = P
      · have e0 : i - (P - 1) = 0 := by omega
        rw [e0, decide_eq_true e, decide_eq_true (show P - 1 ≤ i by omega), decide_eq_true (show 0 < P by omega)]
        simp
      · rw [decide_eq_false e, Bool.false_and]
        by_cases hle : P - 1 ≤ i
        · rw [decide_eq_false (show ¬ i - (P - 1) = 0 by omega)]
          simp
        · rw [decide_eq_false hle, Bool.false_and]
    rw [b_and, b_or, sh i hi, ar, BR_F hB hi, mvB, decide_eq_true q, Bool.true_and, Bool.and_assoc]
  · rw [b_and, b_or, sh i hi, b_0, BR_F hB hi, mvB, decide_eq_false q, Bool.false_and, Bool.false_and, Bool.and_assoc]
def tellV (P : Nat) (op : Int32) (A : AB) (a : Int32) : Int32 := if a = 0 then nI P else if a = 1 then (if op = 0 then 0 else 1) else if a = 2 then A.2.1 else if a = 3 then A.2.2.1 else if a = 4 then A.2.2.2 else if a = 5 then nI (fb_ct (fun i => decide (A.1 i = 1)) P) else if a = 6 then nI (fb_ct (fun i => decide (A.1 i = 2)) P) else nI (fb_ct (mvB P op A.1) P)
theorem cnt1_sp {P : Nat} {op : Int32} {lot : Nat} {A : AB} {s : SS} (hP : P ≤ 30) (hC : CR P op lot A s) {post : Int32 → Prop} (h : post (nI (fb_ct (fun i => decide (A.1 i = 1)) P))) : wp_X2_countOfSort (1 : Int32) s post := by
  obtain ⟨F, S, hB, rfl⟩ := hC
  unfold wp_X2_countOfSort
  refine ⟨fun q => absurd rfl q, fun _ => bitc_sp _ ?_⟩
  rw [ct_cut (P := P) (g := fun i => decide (A.1 i = 1)) (by omega) (fun i hi => BR_F hB hi)]
  exact h
theorem cnt2_sp {P : Nat} {op : Int32} {lot : Nat} {A : AB} {s : SS} (hP : P ≤ 30) (hC : CR P op lot A s) {post : Int32 → Prop} (h : post (nI (fb_ct (fun i => decide (A.1 i = 2)) P))) : wp_X2_countOfSort (2 : Int32) s post := by
  obtain ⟨F, S, hB, rfl⟩ := hC
  unfold wp_X2_countOfSort
  refine ⟨fun _ => bitc_sp _ ?_, fun q => absurd q (by decide)⟩
  rw [ct_cut (P := P) (g := fun i => decide (A.1 i = 2)) (by omega) (fun i hi => BR_S hB hi)]
  exact h
theorem tell_sp {P : Nat} {op : Int32} {lot : Nat} {A : AB} {s : SS} {a : Int32} (h2 : 2 ≤ P) (hP : P ≤ 30) (hC : CR P op lot A s) {post : Int32 → Prop} (h : post (tellV P op A a)) : wp_X2_tell a s post := by
  obtain ⟨F, S, hB, rfl⟩ := id hC
  unfold wp_X2_tell
  unfold tellV at h
  refine ⟨fun e => ?_, fun n0 => ⟨fun e => ⟨fun z => ?_, fun z => ?_⟩, fun n1 => ⟨fun e => ?_, fun n2 => ⟨fun e => ?_, fun n3 => ⟨fun e => ?_, fun n4 => ⟨fun e => ?_, fun n5 => ⟨fun e => ?_, fun n6 => ?_⟩⟩⟩⟩⟩⟩⟩
  · rw [if_pos e] at h; exact h
  · rw [if_neg n0, if_pos e, if_pos z] at h; exact h
  · rw [if_neg n0, if_pos e, if_neg z] at h; exact h
  · rw [if_neg n0, if_neg n1, if_pos e] at h; exact h
  · rw [if_neg n0, if_neg n1, if_neg n2, if_pos e] at h; exact h
  · rw [if_neg n0, if_neg n1, if_neg n2, if_neg n3, if_pos e] at h; exact h
  · rw [if_neg n0, if_neg n1, if_neg n2, if_neg n3, if_neg n4, if_pos e] at h; exact cnt1_sp hP hC h
  · rw [if_neg n0, if_neg n1, if_neg n2, if_neg n3, if_neg n4, if_neg n5, if_pos e] at h; exact cnt2_sp hP hC h
  · rw [if_neg n0, if_neg n1, if_neg n2, if_neg n3, if_neg n4, if_neg n5, if_neg n6] at h
    refine fwf_sp h2 hP hB (fun x hx => bitc_sp _ ?_)
    rw [ct_cut (P := P) (g := mvB P op A.1) (by omega) hx]
    exact h
theorem rs_told {c : SC} {s : SS} {n1 x1 y1 : Int32} {m1 : Nat → Int64} {r : RR} (a : Int32) (h : RS s r) : wp_X3_told a (c, s) (fun r1 => wp_X4_told a (n1, x1, y1, m1, r) (fun r2 => r1 = r2)) := by
  unfold wp_X3_told wp_X4_told
  dsimp only
  by_cases hc : nI 0 ≤ a ∧ a ≤ nI 7
  · refine isWithin_t hc ⟨fun _ => ?_, fun q => absurd q z10⟩
    have inm : ∀ {post : Int32 → Prop}, post 1 → wp_X4_in a.toInt64 (0 : Int64) (7 : Int64) post := fun h => in_t (b := nI 0) (c := nI 7) rfl rfl hc h
    rcases h with ⟨h1, h2⟩ | ⟨P, lot, op, A, h2, hP, hop, hlot, hC, hM⟩
    · exact isThere_f h1 ⟨fun _ => inm ⟨fun _ => ⟨fun q => absurd h2 q, fun _ => rfl⟩, fun q => absurd q z10⟩, fun q => absurd rfl q⟩
    · refine isThere_t h2 hP (CR_1 hC) ⟨fun q => absurd q z10, fun _ => tell_sp h2 hP hC (inm ⟨fun _ => ⟨fun _ => ?_, fun q => absurd ((MR_1 hM).symm.trans q) (nIP_0 h2 hP)⟩, fun q => absurd q z10⟩)⟩
      obtain ⟨F, S, hB, rfl⟩ := hC
      obtain ⟨ma, be, ldt, hm, rfl⟩ := hM
      refine told34 h2 hP hm (fun i hi => BR_c hB (by omega) hi) (fun _ => ?_) 20000 0 (by omega) (by omega)
      dsimp only
      unfold tellV
      refine ⟨fun e => ?_, fun n0 => ⟨fun e => ⟨fun z => ?_, fun z => ?_⟩, fun n1 => ⟨fun e => ?_, fun n2 => ⟨fun e => ?_, fun n3 => ⟨fun e => ?_, fun n4 => ⟨fun e => ?_, fun n5 => ⟨fun e => ?_, fun n6 => ?_⟩⟩⟩⟩⟩⟩⟩
      · rw [if_pos e]
      · rw [if_neg n0, if_pos e, if_pos z]
      · rw [if_neg n0, if_pos e, if_neg z]
      · rw [if_neg n0, if_neg n1, if_pos e]
      · rw [if_neg n0, if_neg n1, if_neg n2, if_pos e]
      · rw [if_neg n0, if_neg n1, if_neg n2, if_neg n3, if_pos e]
      · rw [if_neg n0, if_neg n1, if_neg n2, if_neg n3, if_neg n4, if_pos e]
      · rw [if_neg n0, if_neg n1, if_neg n2, if_neg n3, if_neg n4, if_neg n5, if_pos e]
      · rw [if_neg n0, if_neg n1, if_neg n2, if_neg n3, if_neg n4, if_neg n5, if_neg n6]
  · refine isWithin_f hc ⟨fun q => absurd rfl q, fun _ => ?_⟩
    exact in_f (b := nI 0) (c := nI 7) rfl rfl hc ⟨fun q => absurd rfl q, fun _ => rfl⟩
