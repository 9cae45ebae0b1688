set_option maxHeartbeats 4000000 in
set_option maxRecDepth 100000 in
theorem c_X3_isTaken (l : Launch) (dC : Nat → ClassId) (dI : Nat → Nat → Nat)   (p0 : Int32) (p1 : Int32) (post : Int32 → Prop) (hw : wp_X3_isTaken p0 p1  post) : KI l yX3_isTaken wsX3_isTaken ({ frames := 0, cells := 0, slots := 0, locals := 0 } : Room) (dC, dI) [] [] [.int p0, .int p1] (fun r u => post r ∧ u = []) := by
  intro sz
  refine Met.ofW (cc := cX3_isTaken) (maxL := 2) (ret := (some .boolean)) (by decide) rfl ?_
  intro p e s m args below meth c s₁ B hml hv
  obtain ⟨rfl, hsz, hP, hK, hD0, hnw⟩ := hv
  have hx := B.exec
  have hb := B.bytes
  have hr := B.returns
  have hts := atoms_spec (ws := wsX3_isTaken) B.pre
  have hown : s.vm.findClass RX3 = some m.cls := findClass_of_methodNamed B.named
  have hlocks := B.notSynchronized
  subst hsz
  have hD := hD0.self (sz := s.heap.size)
  generalize hAe : va_A [] s.heap.size = A at hD ⊢
  have hA : ∀ q : Nat, s.heap.size ≤ q → A q := fun q h => by rw [← hAe]; exact Or.inr h
  have hS : va_S A s.heap s.heap [] := va_S.rf
  have hP : va_P (dC, dI) vwCl [] s.heap := hP
  have hD : va_D A [] := hD
  have hl := lv_entry ([.int p0, .int p1]) (n := 2) (Nat.le_of_ble_eq_true rfl)
  rw [lg_entry_eq]
  generalize (lg_sl ([.int p0, .int p1]) ++ List.replicate (2 - (lg_sl ([.int p0, .int p1])).length) Slot.unset).toArray = ls at hl ⊢
  have hl : lv_has ls 2 [(0, .int p0), (1, .int p1)] := hl
  unfold wp_X3_isTaken at hw
  skip
  obtain ⟨H, hH⟩ : ∃ H, H = s.heap := ⟨_, rfl⟩
  obtain ⟨locs, hlo⟩ : ∃ q : List Loc, q = [] := ⟨_, rfl⟩
  rw [← hH] at hP
  have hS : va_S A s.heap H locs := by rw [hH, hlo]; exact hS
  suffices hgo : W p l e (headSpec wsX3_isTaken ({ frames := 0, cells := 0, slots := 0, locals := 0 } : Room)).room s m _ below meth c H locs 0 0 _ (F0 m 0 ls []) by rw [hH, hlo] at hgo; exact hgo
  refine lv_iload_n hx hb dX3_isTaken_0 rfl (lv_at hl 0 rfl) ?_
  refine lv_iload_n hx hb dX3_isTaken_1 rfl (lv_at hl 1 rfl) ?_
  refine lv_ishr hx hb dX3_isTaken_2 ?_
  refine lv_iconst (v := (1 : Int32)) hx hb dX3_isTaken_3 (by decide) ?_
  refine lv_iand hx hb dX3_isTaken_4 ?_
  refine lv_iconst (v := (1 : Int32)) hx hb dX3_isTaken_5 (by decide) ?_
  refine lv_icmp_ne (tgt := 13) hx hb dX3_isTaken_6 (by decide) (fun c1 => ?_) (fun c1 => ?_)
  · have hw := hw.1 c1
    refine lv_iconst (v := (0 : Int32)) hx hb dX3_isTaken_13 (by decide) ?_
    exact W.zret (v := (0 : Int32)) hx hb hr (nb_nar nb_0) (fun t ht hW => ⟨⟨(0 : Int32), ([] : va_W), rfl, ⟨hw, rfl⟩, by rw [ht]; exact hP, va_K.moved hW.alike hK, hD⟩, hS.F ht⟩) hS.2.2 dX3_isTaken_14
  · have hw := hw.2 c1
    refine lv_iconst (v := (1 : Int32)) hx hb dX3_isTaken_9 (by decide) ?_
    refine lv_goto (tgt := 14) hx hb dX3_isTaken_10 (by decide) ?_
    exact W.zret (v := (1 : Int32)) hx hb hr (nb_nar nb_1) (fun t ht hW => ⟨⟨(1 : Int32), ([] : va_W), rfl, ⟨hw, rfl⟩, by rw [ht]; exact hP, va_K.moved hW.alike hK, hD⟩, hS.F ht⟩) hS.2.2 dX3_isTaken_14
set_option maxHeartbeats 4000000 in
set_option maxRecDepth 100000 in
theorem c_X0_weightOfWord (l : Launch) (dC : Nat → ClassId) (dI : Nat → Nat → Nat) (h0 w0 w1 : Nat) (cJ : ClassId) (σ : SC) (p0 : Int32) (p1 : Int32) (post : Int64 → Prop) (hw : wp_X0_weightOfWord p0 p1 σ post) : KL l yX0_weightOfWord wsX0_weightOfWord ({ frames := 0, cells := 0, slots := 0, locals := 0 } : Room) (dC, dI) [(cJ, .long)] (cl0 h0 w0 w1 cJ σ) [.ref h0, .int p0, .int p1] (fun r u => post r ∧ u = (cl0 h0 w0 w1 cJ σ)) := by
  intro sz
  refine Met.ofW (cc := cX0_weightOfWord) (maxL := 4) (ret := (some .long)) (by decide) rfl ?_
  intro p e s m args below meth c s₁ B hml hv
  obtain ⟨rfl, hsz, hP, hK, hD0, hnw⟩ := hv
  have hx := B.exec
  have hb := B.bytes
  have hr := B.returns
  have hts := atoms_spec (ws := wsX0_weightOfWord) B.pre
  have hown : s.vm.findClass RX0 = some m.cls := findClass_of_methodNamed B.named
  have hlocks := B.notSynchronized
  subst hsz
  have hD := hD0.self (sz := s.heap.size)
  generalize hAe : va_A (cl0 h0 w0 w1 cJ σ) s.heap.size = A at hD ⊢
  have hA : ∀ q : Nat, s.heap.size ≤ q → A q := fun q h => by rw [← hAe]; exact Or.inr h
  have hS : va_S A s.heap s.heap [] := va_S.rf
  have hP : va_P (dC, dI) vwCl [(h0, .inr (0, [.ref w0, .ref w1, .int σ.1, .int σ.2.1, .int σ.2.2.1])), (w0, .inl (cJ, 512, .inr (.inl (σ.2.2.2.1)))), (w1, .inl (cJ, 9, .inr (.inl (σ.2.2.2.2))))] s.heap := hP
  have hD : va_D A [(h0, .inr (0, [.ref w0, .ref w1, .int σ.1, .int σ.2.1, .int σ.2.2.1])), (w0, .inl (cJ, 512, .inr (.inl (σ.2.2.2.1)))), (w1, .inl (cJ, 9, .inr (.inl (σ.2.2.2.2))))] := hD
  have fl_9 := hts (.fieldLink RX0 9 "OnePlaceEach$Chain" "weights" "[J") (by decide +kernel)
  have hin0 : ∀ w ∈ wsX00, w ∈ wsX0_weightOfWord := by decide +kernel
  have hl := lv_entry ([.ref h0, .int p0, .int p1]) (n := 4) (Nat.le_of_ble_eq_true rfl)
  rw [lg_entry_eq]
  generalize (lg_sl ([.ref h0, .int p0, .int p1]) ++ List.replicate (4 - (lg_sl ([.ref h0, .int p0, .int p1])).length) Slot.unset).toArray = ls at hl ⊢
  have hl : lv_has ls 4 [(0, .ref h0), (1, .int p0), (2, .int p1)] := hl
  unfold wp_X0_weightOfWord at hw
  skip
  obtain ⟨H, hH⟩ : ∃ H, H = s.heap := ⟨_, rfl⟩
  obtain ⟨locs, hlo⟩ : ∃ q : List Loc, q = [] := ⟨_, rfl⟩
  rw [← hH] at hP
  have hS : va_S A s.heap H locs := by rw [hH, hlo]; exact hS
  suffices hgo : W p l e (headSpec wsX0_weightOfWord ({ frames := 0, cells := 0, slots := 0, locals := 0 } : Room)).room s m _ below meth c H locs 0 0 _ (F0 m 0 ls []) by rw [hH, hlo] at hgo; exact hgo
  refine lv_iconst (v := (1 : Int32)) hx hb dX0_weightOfWord_0 (by decide) ?_
  refine lv_iload_n hx hb dX0_weightOfWord_1 rfl (lv_at hl 1 rfl) ?_
  refine lv_ishl hx hb dX0_weightOfWord_2 ?_
  refine lv_iload_n hx hb dX0_weightOfWord_3 rfl (lv_at hl 2 rfl) ?_
  refine lv_iadd hx hb dX0_weightOfWord_4 ?_
  refine lv_istore_n (lv' := [(3, .int (((1 : Int32) <<< (p0 &&& (31 : Int32))) + p1)), (0, .ref h0), (1, .int p0), (2, .int p1)]) hx hb dX0_weightOfWord_5 rfl hl (by decide) rfl (fun ls hl => ?_)
  refine lv_iload_n hx hb dX0_weightOfWord_6 rfl (lv_at hl 0 rfl) ?_
  refine lv_if_lt (tgt := 28) hx hb dX0_weightOfWord_7 (by decide) (fun c1 => ?_) (fun c1 => ?_)
  · have hw := hw.1 c1
    refine lv_lconst (v := (0 : Int64)) hx hb dX0_weightOfWord_28 (by decide) ?_
    exact W.lret (v := (0 : Int64)) hx hb hr (fun t ht hW => ⟨⟨(0 : Int64), ((cl0 h0 w0 w1 cJ σ)), rfl, ⟨hw, rfl⟩, by rw [ht]; exact hP, va_K.moved hW.alike hK, hD⟩, hS.F ht⟩) hS.2.2 dX0_weightOfWord_29
  · have hw := hw.2 c1
    refine lv_iload_n hx hb dX0_weightOfWord_10 rfl (lv_at hl 0 rfl) ?_
    refine lv_aload_n hx hb dX0_weightOfWord_11 rfl (lv_at hl 1 rfl) ?_
    refine va_get (D := (dC, dI)) (ci := 0) (v := .ref w0) (C := RX0) (T := TX0) (N := 5) hx hb hts hin0 hown hK hP 0 rfl rfl 0 (by decide) fl_9 (fun _ h9 => h9) rfl dX0_weightOfWord_12 ?_
    refine va_alen (v := (512 : Int32)) hx hb hK hP 1 0 rfl rfl (by decide) dX0_weightOfWord_15 ?_
    refine lv_icmp_ge (tgt := 28) hx hb dX0_weightOfWord_16 (by decide) (fun c2 => ?_) (fun c2 => ?_)
    · have hw := hw.1 c2
      refine lv_lconst (v := (0 : Int64)) hx hb dX0_weightOfWord_28 (by decide) ?_
      exact W.lret (v := (0 : Int64)) hx hb hr (fun t ht hW => ⟨⟨(0 : Int64), ((cl0 h0 w0 w1 cJ σ)), rfl, ⟨hw, rfl⟩, by rw [ht]; exact hP, va_K.moved hW.alike hK, hD⟩, hS.F ht⟩) hS.2.2 dX0_weightOfWord_29
    · have hw := hw.2 c2
      refine lv_aload_n hx hb dX0_weightOfWord_19 rfl (lv_at hl 1 rfl) ?_
      refine va_get (D := (dC, dI)) (ci := 0) (v := .ref w0) (C := RX0) (T := TX0) (N := 5) hx hb hts hin0 hown hK hP 0 rfl rfl 0 (by decide) fl_9 (fun _ h9 => h9) rfl dX0_weightOfWord_20 ?_
      refine lv_iload_n hx hb dX0_weightOfWord_23 rfl (lv_at hl 0 rfl) ?_
      have z3 := hw.1
      have hw := hw.2
      refine va_lald hx hb hK hP 1 0 rfl rfl z3 dX0_weightOfWord_24 ?_
      refine lv_goto (tgt := 29) hx hb dX0_weightOfWord_25 (by decide) ?_
      exact W.lret (v := (σ.2.2.2.1 (((1 : Int32) <<< (p0 &&& (31 : Int32))) + p1).toNatClampNeg)) hx hb hr (fun t ht hW => ⟨⟨(σ.2.2.2.1 (((1 : Int32) <<< (p0 &&& (31 : Int32))) + p1).toNatClampNeg), ((cl0 h0 w0 w1 cJ σ)), rfl, ⟨hw, rfl⟩, by rw [ht]; exact hP, va_K.moved hW.alike hK, hD⟩, hS.F ht⟩) hS.2.2 dX0_weightOfWord_29
set_option maxHeartbeats 4000000 in
set_option maxRecDepth 100000 in
theorem c_X0_lastOfLeadingTaken (l : Launch) (dC : Nat → ClassId) (dI : Nat → Nat → Nat)   (p0 : Int32) (p1 : Int32) (post : Int32 → Prop) (hw : wp_X0_lastOfLeadingTaken p0 p1  post) : KI l yX0_lastOfLeadingTaken wsX0_lastOfLeadingTaken ({ frames := 1, cells := 0, slots := 0, locals := 21 } : Room) (dC, dI) [] [] [.int p0, .int p1] (fun r u => post r ∧ u = []) := by
  intro sz
  refine Met.ofW (cc := cX0_lastOfLeadingTaken) (maxL := 3) (ret := (some .int)) (by decide) rfl ?_
  intro p e s m args below meth c s₁ B hml hv
  obtain ⟨rfl, hsz, hP, hK, hD0, hnw⟩ := hv
  have hx := B.exec
  have hb := B.bytes
  have hr := B.returns
  have hts := atoms_spec (ws := wsX0_lastOfLeadingTaken) B.pre
  have hown : s.vm.findClass RX0 = some m.cls := findClass_of_methodNamed B.named
  have hlocks := B.notSynchronized
  subst hsz
  have hD := hD0.self (sz := s.heap.size)
  generalize hAe : va_A [] s.heap.size = A at hD ⊢
  have hA : ∀ q : Nat, s.heap.size ≤ q → A q := fun q h => by rw [← hAe]; exact Or.inr h
  have hS : va_S A s.heap s.heap [] := va_S.rf
  have hP : va_P (dC, dI) vwCl [] s.heap := hP
  have hD : va_D A [] := hD
  have L2 : ∀ (x0 : Int32) (x1 : Int32)  (n : Nat) (x2 : Int32)  (k : Int32 → Prop), wl_X0_lastOfLeadingTaken_2 x0 x1  n x2 k →
      (∀ (x2 : Int32) , k x2 → ∀ (H : Heap) (locs : List Loc) (ls : Array Slot), va_P (dC, dI) vwCl [] H → va_D A [] → va_S A s.heap H locs → lv_has ls 3 [(2, .int x2), (0, .int x0), (1, .int x1)] → W p l e (headSpec wsX0_lastOfLeadingTaken ({ frames := 1, cells := 0, slots := 0, locals := 21 } : Room)).room s m ([.int p0, .int p1] : List Value).toArray below meth c H locs 0 0 (MQ below (va_Qi (fun r u => post r ∧ u = []) (kB (dC, dI) [] A) A) ([.int p0, .int p1] : List Value).toArray s 0 0 A) (F0 m 25 ls [])) →
      ∀ (H : Heap) (locs : List Loc) (ls : Array Slot), va_P (dC, dI) vwCl [] H → va_D A [] → va_S A s.heap H locs → lv_has ls 3 [(2, .int x2), (0, .int x0), (1, .int x1)] → W p l e (headSpec wsX0_lastOfLeadingTaken ({ frames := 1, cells := 0, slots := 0, locals := 21 } : Room)).room s m ([.int p0, .int p1] : List Value).toArray below meth c H locs 0 0 (MQ below (va_Qi (fun r u => post r ∧ u = []) (kB (dC, dI) [] A) A) ([.int p0, .int p1] : List Value).toArray s 0 0 A) (F0 m 2 ls []) := by
    intro x0 x1 n
    induction n with
    | zero => intro x2 k hw; exact absurd hw id
    | succ n ih =>
      intro x2 k hw hk H locs ls hP hD hS hl
      unfold wl_X0_lastOfLeadingTaken_2 at hw
      refine lv_iload_n hx hb dX0_lastOfLeadingTaken_2 rfl (lv_at hl 0 rfl) ?_
      refine lv_iload_n hx hb dX0_lastOfLeadingTaken_3 rfl (lv_at hl 1 rfl) ?_
      refine lv_iconst (v := (1 : Int32)) hx hb dX0_lastOfLeadingTaken_4 (by decide) ?_
      refine lv_isub hx hb dX0_lastOfLeadingTaken_5 ?_
      refine lv_icmp_ge (tgt := 25) hx hb dX0_lastOfLeadingTaken_6 (by decide) (fun c1 => ?_) (fun c1 => ?_)
      · have hw := hw.1 c1
        exact hk x2 hw H locs ls hP hD hS (lv_sub hl [0, 1, 2] rfl)
      · have hw := hw.2 c1
        refine lv_iload_n hx hb dX0_lastOfLeadingTaken_9 rfl (lv_at hl 2 rfl) ?_
        refine lv_iload_n hx hb dX0_lastOfLeadingTaken_10 rfl (lv_at hl 0 rfl) ?_
        refine lv_iconst (v := (1 : Int32)) hx hb dX0_lastOfLeadingTaken_11 (by decide) ?_
        refine lv_iadd hx hb dX0_lastOfLeadingTaken_12 ?_
        have hPc := hP.sub (ws' := ([] : va_W)) [] rfl
        have hDc := hD.sub (ws' := ([] : va_W)) [] (by decide) rfl
        have hKc := hK.sub (tys' := []) [] rfl
        have hFc := va_free (wc := ([] : va_W)) hD hS hA [] rfl
        refine kc_i (wr := ([] : va_W)) (kr_N (As := [.int x1, .int (x2 + (1 : Int32))]) (rest := []) (ws := []) ⟨hx, hb, hml, hown, hts⟩ (c_X3_isTaken l dC dI   x1 (x2 + (1 : Int32)) _ hw H.size) ⟨va_cnB 2 hts gX0_lastOfLeadingTaken_X3_isTaken_n47 rfl rfl rfl hnw.1 (hts (.initialized RX3) (by decide +kernel)) (by decide +kernel) ⟨Nat.le_of_ble_eq_true rfl, Nat.le_of_ble_eq_true rfl⟩, hts (.static yX3_isTaken) (by decide +kernel), trivial⟩ hKc hnw hP hD hPc hDc rfl hl.1 rfl (Nat.le_of_ble_eq_true rfl) dX0_lastOfLeadingTaken_13 ⟨Nat.zero_le _, Nat.zero_le _⟩) hP hD hS hFc [] [] rfl rfl (by decide) (by decide) (fun r2 u1 H locs hq hP hD hS => ?_)
        obtain ⟨hw, rfl⟩ := hq
        have hP : va_P (dC, dI) vwCl [] H := hP
        have hD : va_D A [] := hD
        refine lv_if_eq (tgt := 25) hx hb dX0_lastOfLeadingTaken_16 (by decide) (fun c4 => ?_) (fun c4 => ?_)
        · have hw := hw.1 c4
          exact hk x2 hw H locs ls hP hD hS (lv_sub hl [0, 1, 2] rfl)
        · have hw := hw.2 c4
          refine lv_iinc (v := (x2 + (1 : Int32))) (lv' := [(2, .int (x2 + (1 : Int32))), (0, .int x0), (1, .int x1)]) hx hb dX0_lastOfLeadingTaken_19 hl (k := 0) rfl rfl (by decide) rfl (fun ls hl => ?_)
          refine lv_goto (tgt := 2) hx hb dX0_lastOfLeadingTaken_22 (by decide) ?_
          exact ih (x2 + (1 : Int32)) _ hw hk H locs ls hP hD hS (lv_sub hl [0, 1, 2] rfl)
  have hl := lv_entry ([.int p0, .int p1]) (n := 3) (Nat.le_of_ble_eq_true rfl)
  rw [lg_entry_eq]
  generalize (lg_sl ([.int p0, .int p1]) ++ List.replicate (3 - (lg_sl ([.int p0, .int p1])).length) Slot.unset).toArray = ls at hl ⊢
  have hl : lv_has ls 3 [(0, .int p0), (1, .int p1)] := hl
  unfold wp_X0_lastOfLeadingTaken at hw
  skip
  obtain ⟨H, hH⟩ : ∃ H, H = s.heap := ⟨_, rfl⟩
  obtain ⟨locs, hlo⟩ : ∃ q : List Loc, q = [] := ⟨_, rfl⟩
  rw [← hH] at hP
  have hS : va_S A s.heap H locs := by rw [hH, hlo]; exact hS
  suffices hgo : W p l e (headSpec wsX0_lastOfLeadingTaken ({ frames := 1, cells := 0, slots := 0, locals := 21 } : Room)).room s m _ below meth c H locs 0 0 _ (F0 m 0 ls []) by rw [hH, hlo] at hgo; exact hgo
  refine lv_iconst (v := (0 : Int32)) hx hb dX0_lastOfLeadingTaken_0 (by decide) ?_
  refine lv_istore_n (lv' := [(2, .int (0 : Int32)), (0, .int p0), (1, .int p1)]) hx hb dX0_lastOfLeadingTaken_1 rfl hl (by decide) rfl (fun ls hl => ?_)
  refine L2 p0 p1 (20000) (0 : Int32) _ hw (fun x2_5 hw H locs ls hP hD hS hl => ?_) H locs ls hP hD hS (lv_sub hl [0, 1, 2] rfl)
  refine lv_iload_n hx hb dX0_lastOfLeadingTaken_25 rfl (lv_at hl 0 rfl) ?_
  exact W.iret (v := x2_5) hx hb hr (fun t ht hW => ⟨⟨x2_5, ([] : va_W), rfl, ⟨hw, rfl⟩, by rw [ht]; exact hP, va_K.moved hW.alike hK, hD⟩, hS.F ht⟩) hS.2.2 dX0_lastOfLeadingTaken_26
set_option maxHeartbeats 4000000 in
set_option maxRecDepth 100000 in
theorem c_X0_countStates (l : Launch) (dC : Nat → ClassId) (dI : Nat → Nat → Nat) (h0 w0 w1 : Nat) (cJ : ClassId) (σ : SC)  (post : Int32 → Prop) (hw : wp_X0_countStates  σ post) : KI l yX0_countStates wsX0_countStates ({ frames := 0, cells := 0, slots := 0, locals := 0 } : Room) (dC, dI) [(cJ, .long)] (cl0 h0 w0 w1 cJ σ) [.ref h0] (fun r u => post r ∧ u = (cl0 h0 w0 w1 cJ σ)) := by
  intro sz
  refine Met.ofW (cc := cX0_countStates) (maxL := 1) (ret := (some .int)) (by decide) rfl ?_
  intro p e s m args below meth c s₁ B hml hv
  obtain ⟨rfl, hsz, hP, hK, hD0, hnw⟩ := hv
  have hx := B.exec
  have hb := B.bytes
  have hr := B.returns
  have hts := atoms_spec (ws := wsX0_countStates) B.pre
  have hown : s.vm.findClass RX0 = some m.cls := findClass_of_methodNamed B.named
  have hlocks := B.notSynchronized
  subst hsz
  have hD := hD0.self (sz := s.heap.size)
  generalize hAe : va_A (cl0 h0 w0 w1 cJ σ) s.heap.size = A at hD ⊢
  have hA : ∀ q : Nat, s.heap.size ≤ q → A q := fun q h => by rw [← hAe]; exact Or.inr h
  have hS : va_S A s.heap s.heap [] := va_S.rf
  have hP : va_P (dC, dI) vwCl [(h0, .inr (0, [.ref w0, .ref w1, .int σ.1, .int σ.2.1, .int σ.2.2.1])), (w0, .inl (cJ, 512, .inr (.inl (σ.2.2.2.1)))), (w1, .inl (cJ, 9, .inr (.inl (σ.2.2.2.2))))] s.heap := hP
  have hD : va_D A [(h0, .inr (0, [.ref w0, .ref w1, .int σ.1, .int σ.2.1, .int σ.2.2.1])), (w0, .inl (cJ, 512, .inr (.inl (σ.2.2.2.1)))), (w1, .inl (cJ, 9, .inr (.inl (σ.2.2.2.2))))] := hD
  have fl_22 := hts (.fieldLink RX0 22 "OnePlaceEach$Chain" "places" "I") (by decide +kernel)
  have hin0 : ∀ w ∈ wsX00, w ∈ wsX0_countStates := by decide +kernel
  have hl := lv_entry ([.ref h0]) (n := 1) (Nat.le_of_ble_eq_true rfl)
  rw [lg_entry_eq]
  generalize (lg_sl ([.ref h0]) ++ List.replicate (1 - (lg_sl ([.ref h0])).length) Slot.unset).toArray = ls at hl ⊢
  have hl : lv_has ls 1 [(0, .ref h0)] := hl
  unfold wp_X0_countStates at hw
  skip
  obtain ⟨H, hH⟩ : ∃ H, H = s.heap := ⟨_, rfl⟩
  obtain ⟨locs, hlo⟩ : ∃ q : List Loc, q = [] := ⟨_, rfl⟩
  rw [← hH] at hP
  have hS : va_S A s.heap H locs := by rw [hH, hlo]; exact hS
  suffices hgo : W p l e (headSpec wsX0_countStates ({ frames := 0, cells := 0, slots := 0, locals := 0 } : Room)).room s m _ below meth c H locs 0 0 _ (F0 m 0 ls []) by rw [hH, hlo] at hgo; exact hgo
  refine lv_iconst (v := (1 : Int32)) hx hb dX0_countStates_0 (by decide) ?_
  refine lv_aload_n hx hb dX0_countStates_1 rfl (lv_at hl 0 rfl) ?_
  refine va_get (D := (dC, dI)) (ci := 0) (v := .int σ.1) (C := RX0) (T := TX0) (N := 5) hx hb hts hin0 hown hK hP 0 rfl rfl 2 (by decide) fl_22 (fun _ h9 => h9) rfl dX0_countStates_2 ?_
  refine lv_ishl hx hb dX0_countStates_5 ?_
  exact W.iret (v := ((1 : Int32) <<< (σ.1 &&& (31 : Int32)))) hx hb hr (fun t ht hW => ⟨⟨((1 : Int32) <<< (σ.1 &&& (31 : Int32))), ((cl0 h0 w0 w1 cJ σ)), rfl, ⟨hw, rfl⟩, by rw [ht]; exact hP, va_K.moved hW.alike hK, hD⟩, hS.F ht⟩) hS.2.2 dX0_countStates_6
set_option maxHeartbeats 4000000 in
set_option maxRecDepth 100000 in
theorem c_X0_weightOf (l : Launch) (dC : Nat → ClassId) (dI : Nat → Nat → Nat) (h0 w0 w1 : Nat) (cJ : ClassId) (σ : SC) (p0 : Int32) (post : Int64 → Prop) (hw : wp_X0_weightOf p0 σ post) : KL l yX0_weightOf wsX0_weightOf ({ frames := 1, cells := 0, slots := 0, locals := 23 } : Room) (dC, dI) [(cJ, .long)] (cl0 h0 w0 w1 cJ σ) [.ref h0, .int p0] (fun r u => post r ∧ u = (cl0 h0 w0 w1 cJ σ)) := by
  intro sz
  refine Met.ofW (cc := cX0_weightOf) (maxL := 2) (ret := (some .long)) (by decide) rfl ?_
  intro p e s m args below meth c s₁ B hml hv
  obtain ⟨rfl, hsz, hP, hK, hD0, hnw⟩ := hv
  have hx := B.exec
  have hb := B.bytes
  have hr := B.returns
  have hts := atoms_spec (ws := wsX0_weightOf) B.pre
  have hown : s.vm.findClass RX0 = some m.cls := findClass_of_methodNamed B.named
  have hlocks := B.notSynchronized
  subst hsz
  have hD := hD0.self (sz := s.heap.size)
  generalize hAe : va_A (cl0 h0 w0 w1 cJ σ) s.heap.size = A at hD ⊢
  have hA : ∀ q : Nat, s.heap.size ≤ q → A q := fun q h => by rw [← hAe]; exact Or.inr h
  have hS : va_S A s.heap s.heap [] := va_S.rf
  have hP : va_P (dC, dI) vwCl [(h0, .inr (0, [.ref w0, .ref w1, .int σ.1, .int σ.2.1, .int σ.2.2.1])), (w0, .inl (cJ, 512, .inr (.inl (σ.2.2.2.1)))), (w1, .inl (cJ, 9, .inr (.inl (σ.2.2.2.2))))] s.heap := hP
  have hD : va_D A [(h0, .inr (0, [.ref w0, .ref w1, .int σ.1, .int σ.2.1, .int σ.2.2.1])), (w0, .inl (cJ, 512, .inr (.inl (σ.2.2.2.1)))), (w1, .inl (cJ, 9, .inr (.inl (σ.2.2.2.2))))] := hD
  have fl_22 := hts (.fieldLink RX0 22 "OnePlaceEach$Chain" "places" "I") (by decide +kernel)
  have hin0 : ∀ w ∈ wsX00, w ∈ wsX0_weightOf := by decide +kernel
  have hl := lv_entry ([.ref h0, .int p0]) (n := 2) (Nat.le_of_ble_eq_true rfl)
  rw [lg_entry_eq]
  generalize (lg_sl ([.ref h0, .int p0]) ++ List.replicate (2 - (lg_sl ([.ref h0, .int p0])).length) Slot.unset).toArray = ls at hl ⊢
  have hl : lv_has ls 2 [(0, .ref h0), (1, .int p0)] := hl
  unfold wp_X0_weightOf at hw
  skip
  obtain ⟨H, hH⟩ : ∃ H, H = s.heap := ⟨_, rfl⟩
  obtain ⟨locs, hlo⟩ : ∃ q : List Loc, q = [] := ⟨_, rfl⟩
  rw [← hH] at hP
  have hS : va_S A s.heap H locs := by rw [hH, hlo]; exact hS
  suffices hgo : W p l e (headSpec wsX0_weightOf ({ frames := 1, cells := 0, slots := 0, locals := 23 } : Room)).room s m _ below meth c H locs 0 0 _ (F0 m 0 ls []) by rw [hH, hlo] at hgo; exact hgo
  refine lv_aload_n hx hb dX0_weightOf_0 rfl (lv_at hl 0 rfl) ?_
  refine lv_aload_n hx hb dX0_weightOf_1 rfl (lv_at hl 0 rfl) ?_
  refine va_get (D := (dC, dI)) (ci := 0) (v := .int σ.1) (C := RX0) (T := TX0) (N := 5) hx hb hts hin0 hown hK hP 0 rfl rfl 2 (by decide) fl_22 (fun _ h9 => h9) rfl dX0_weightOf_2 ?_
  refine lv_iload_n hx hb dX0_weightOf_5 rfl (lv_at hl 1 rfl) ?_
  have hPc := hP
  have hDc := hD
  have hKc := hK
  have hFc := va_free (wc := [(h0, .inr (0, [.ref w0, .ref w1, .int σ.1, .int σ.2.1, .int σ.2.2.1])), (w0, .inl (cJ, 512, .inr (.inl (σ.2.2.2.1)))), (w1, .inl (cJ, 9, .inr (.inl (σ.2.2.2.2))))]) hD hS hA [0, 1, 2] rfl
  refine kc_l (wr := ([] : va_W)) (kr_V (As := [.int σ.1, .int p0]) (rest := []) (b := h0) (ws := [(h0, .inr (0, [.ref w0, .ref w1, .int σ.1, .int σ.2.1, .int σ.2.2.1])), (w0, .inl (cJ, 512, .inr (.inl (σ.2.2.2.1)))), (w1, .inl (cJ, 9, .inr (.inl (σ.2.2.2.2))))]) ⟨hx, hb, hml, hown, hts⟩ (c_X0_weightOfWord l dC dI h0 w0 w1 cJ σ σ.1 p0 _ hw H.size) (cwV 2 hts gX0_weightOf_X0_weightOfWord rfl rfl rfl (by decide +kernel) ⟨Nat.le_of_ble_eq_true rfl, Nat.le_of_ble_eq_true rfl⟩) 0 0 hK rfl rfl rfl hKc hnw hP hD hPc hDc rfl hl.1 rfl (Nat.le_of_ble_eq_true rfl) dX0_weightOf_6 ⟨Nat.zero_le _, Nat.zero_le _⟩) hP hD hS hFc [0, 1, 2] [] rfl rfl (by decide) (by decide) (fun r1 u1 H locs hq hP hD hS => ?_)
  obtain ⟨hw, rfl⟩ := hq
  have hP : va_P (dC, dI) vwCl [(h0, .inr (0, [.ref w0, .ref w1, .int σ.1, .int σ.2.1, .int σ.2.2.1])), (w0, .inl (cJ, 512, .inr (.inl (σ.2.2.2.1)))), (w1, .inl (cJ, 9, .inr (.inl (σ.2.2.2.2))))] H := hP
  have hD : va_D A [(h0, .inr (0, [.ref w0, .ref w1, .int σ.1, .int σ.2.1, .int σ.2.2.1])), (w0, .inl (cJ, 512, .inr (.inl (σ.2.2.2.1)))), (w1, .inl (cJ, 9, .inr (.inl (σ.2.2.2.2))))] := hD
  exact W.lret (v := r1) hx hb hr (fun t ht hW => ⟨⟨r1, ((cl0 h0 w0 w1 cJ σ)), rfl, ⟨hw, rfl⟩, by rw [ht]; exact hP, va_K.moved hW.alike hK, hD⟩, hS.F ht⟩) hS.2.2 dX0_weightOf_9
set_option maxHeartbeats 4000000 in
set_option maxRecDepth 100000 in
theorem c_X0_sumWithTaken (l : Launch) (dC : Nat → ClassId) (dI : Nat → Nat → Nat) (h0 w0 w1 : Nat) (cJ : ClassId) (σ : SC) (p0 : Int32) (post : Int64 → Prop) (hw : wp_X0_sumWithTaken p0 σ post) : KL l yX0_sumWithTaken wsX0_sumWithTaken ({ frames := 2, cells := 0, slots := 0, locals := 44 } : Room) (dC, dI) [(cJ, .long)] (cl0 h0 w0 w1 cJ σ) [.ref h0, .int p0] (fun r u => post r ∧ u = (cl0 h0 w0 w1 cJ σ)) := by
  intro sz
  refine Met.ofW (cc := cX0_sumWithTaken) (maxL := 5) (ret := (some .long)) (by decide) rfl ?_
  intro p e s m args below meth c s₁ B hml hv
  obtain ⟨rfl, hsz, hP, hK, hD0, hnw⟩ := hv
  have hx := B.exec
  have hb := B.bytes
  have hr := B.returns
  have hts := atoms_spec (ws := wsX0_sumWithTaken) B.pre
  have hown : s.vm.findClass RX0 = some m.cls := findClass_of_methodNamed B.named
  have hlocks := B.notSynchronized
  subst hsz
  have hD := hD0.self (sz := s.heap.size)
  generalize hAe : va_A (cl0 h0 w0 w1 cJ σ) s.heap.size = A at hD ⊢
  have hA : ∀ q : Nat, s.heap.size ≤ q → A q := fun q h => by rw [← hAe]; exact Or.inr h
  have hS : va_S A s.heap s.heap [] := va_S.rf
  have hP : va_P (dC, dI) vwCl [(h0, .inr (0, [.ref w0, .ref w1, .int σ.1, .int σ.2.1, .int σ.2.2.1])), (w0, .inl (cJ, 512, .inr (.inl (σ.2.2.2.1)))), (w1, .inl (cJ, 9, .inr (.inl (σ.2.2.2.2))))] s.heap := hP
  have hD : va_D A [(h0, .inr (0, [.ref w0, .ref w1, .int σ.1, .int σ.2.1, .int σ.2.2.1])), (w0, .inl (cJ, 512, .inr (.inl (σ.2.2.2.1)))), (w1, .inl (cJ, 9, .inr (.inl (σ.2.2.2.2))))] := hD
  have L5 : ∀ (x1 : Int32)  (n : Nat) (x2 : Int64) (x4 : Int32)  (k : Int64 → Int32 → Prop), wl_X0_sumWithTaken_5 x1 σ n x2 x4 k →
      (∀ (x2 : Int64) (x4 : Int32) , k x2 x4 → ∀ (H : Heap) (locs : List Loc) (ls : Array Slot), va_P (dC, dI) vwCl [(h0, .inr (0, [.ref w0, .ref w1, .int σ.1, .int σ.2.1, .int σ.2.2.1])), (w0, .inl (cJ, 512, .inr (.inl (σ.2.2.2.1)))), (w1, .inl (cJ, 9, .inr (.inl (σ.2.2.2.2))))] H → va_D A [(h0, .inr (0, [.ref w0, .ref w1, .int σ.1, .int σ.2.1, .int σ.2.2.1])), (w0, .inl (cJ, 512, .inr (.inl (σ.2.2.2.1)))), (w1, .inl (cJ, 9, .inr (.inl (σ.2.2.2.2))))] → va_S A s.heap H locs → lv_has ls 5 [(4, .int x4), (2, .long x2), (0, .ref h0), (1, .int x1)] → W p l e (headSpec wsX0_sumWithTaken ({ frames := 2, cells := 0, slots := 0, locals := 44 } : Room)).room s m ([.ref h0, .int p0] : List Value).toArray below meth c H locs 0 0 (MQ below (va_Ql (fun r u => post r ∧ u = (cl0 h0 w0 w1 cJ σ)) (kB (dC, dI) [(cJ, .long)] A) A) ([.ref h0, .int p0] : List Value).toArray s 0 0 A) (F0 m 37 ls [])) →
      ∀ (H : Heap) (locs : List Loc) (ls : Array Slot), va_P (dC, dI) vwCl [(h0, .inr (0, [.ref w0, .ref w1, .int σ.1, .int σ.2.1, .int σ.2.2.1])), (w0, .inl (cJ, 512, .inr (.inl (σ.2.2.2.1)))), (w1, .inl (cJ, 9, .inr (.inl (σ.2.2.2.2))))] H → va_D A [(h0, .inr (0, [.ref w0, .ref w1, .int σ.1, .int σ.2.1, .int σ.2.2.1])), (w0, .inl (cJ, 512, .inr (.inl (σ.2.2.2.1)))), (w1, .inl (cJ, 9, .inr (.inl (σ.2.2.2.2))))] → va_S A s.heap H locs → lv_has ls 5 [(4, .int x4), (2, .long x2), (0, .ref h0), (1, .int x1)] → W p l e (headSpec wsX0_sumWithTaken ({ frames := 2, cells := 0, slots := 0, locals := 44 } : Room)).room s m ([.ref h0, .int p0] : List Value).toArray below meth c H locs 0 0 (MQ below (va_Ql (fun r u => post r ∧ u = (cl0 h0 w0 w1 cJ σ)) (kB (dC, dI) [(cJ, .long)] A) A) ([.ref h0, .int p0] : List Value).toArray s 0 0 A) (F0 m 5 ls []) := by
    intro x1 n
    induction n with
    | zero => intro x2 x4 k hw; exact absurd hw id
    | succ n ih =>
      intro x2 x4 k hw hk H locs ls hP hD hS hl
      unfold wl_X0_sumWithTaken_5 at hw
      refine lv_iload hx hb dX0_sumWithTaken_5 (lv_at hl 0 rfl) ?_
      refine lv_aload_n hx hb dX0_sumWithTaken_7 rfl (lv_at hl 2 rfl) ?_
      have hPc := hP
      have hDc := hD
      have hKc := hK
      have hFc := va_free (wc := [(h0, .inr (0, [.ref w0, .ref w1, .int σ.1, .int σ.2.1, .int σ.2.2.1])), (w0, .inl (cJ, 512, .inr (.inl (σ.2.2.2.1)))), (w1, .inl (cJ, 9, .inr (.inl (σ.2.2.2.2))))]) hD hS hA [0, 1, 2] rfl
      refine kc_i (wr := ([] : va_W)) (kr_V (As := []) (rest := [.int x4]) (b := h0) (ws := [(h0, .inr (0, [.ref w0, .ref w1, .int σ.1, .int σ.2.1, .int σ.2.2.1])), (w0, .inl (cJ, 512, .inr (.inl (σ.2.2.2.1)))), (w1, .inl (cJ, 9, .inr (.inl (σ.2.2.2.2))))]) ⟨hx, hb, hml, hown, hts⟩ (c_X0_countStates l dC dI h0 w0 w1 cJ σ  _ hw H.size) (cwV 0 hts gX0_sumWithTaken_X0_countStates rfl rfl rfl (by decide +kernel) ⟨Nat.le_of_ble_eq_true rfl, Nat.le_of_ble_eq_true rfl⟩) 0 0 hK rfl rfl rfl hKc hnw hP hD hPc hDc rfl hl.1 rfl (Nat.le_of_ble_eq_true rfl) dX0_sumWithTaken_8 ⟨Nat.zero_le _, Nat.zero_le _⟩) hP hD hS hFc [0, 1, 2] [] rfl rfl (by decide) (by decide) (fun r1 u1 H locs hq hP hD hS => ?_)
      obtain ⟨hw, rfl⟩ := hq
      have hP : va_P (dC, dI) vwCl [(h0, .inr (0, [.ref w0, .ref w1, .int σ.1, .int σ.2.1, .int σ.2.2.1])), (w0, .inl (cJ, 512, .inr (.inl (σ.2.2.2.1)))), (w1, .inl (cJ, 9, .inr (.inl (σ.2.2.2.2))))] H := hP
      have hD : va_D A [(h0, .inr (0, [.ref w0, .ref w1, .int σ.1, .int σ.2.1, .int σ.2.2.1])), (w0, .inl (cJ, 512, .inr (.inl (σ.2.2.2.1)))), (w1, .inl (cJ, 9, .inr (.inl (σ.2.2.2.2))))] := hD
      refine lv_icmp_ge (tgt := 37) hx hb dX0_sumWithTaken_11 (by decide) (fun c3 => ?_) (fun c3 => ?_)
      · have hw := hw.1 c3
        exact hk x2 x4 hw H locs ls hP hD hS (lv_sub hl [0, 1, 2, 3] rfl)
      · have hw := hw.2 c3
        refine lv_iload hx hb dX0_sumWithTaken_14 (lv_at hl 0 rfl) ?_
        refine lv_iload_n hx hb dX0_sumWithTaken_16 rfl (lv_at hl 3 rfl) ?_
        refine lv_iand hx hb dX0_sumWithTaken_17 ?_
        refine lv_iload_n hx hb dX0_sumWithTaken_18 rfl (lv_at hl 3 rfl) ?_
        refine lv_icmp_ne (tgt := 31) hx hb dX0_sumWithTaken_19 (by decide) (fun c4 => ?_) (fun c4 => ?_)
        · have hw := hw.1 c4
          refine lv_iinc (v := (x4 + (1 : Int32))) (lv' := [(4, .int (x4 + (1 : Int32))), (2, .long x2), (0, .ref h0), (1, .int x1)]) hx hb dX0_sumWithTaken_31 hl (k := 0) rfl rfl (by decide) rfl (fun ls hl => ?_)
          refine lv_goto (tgt := 5) hx hb dX0_sumWithTaken_34 (by decide) ?_
          exact ih x2 (x4 + (1 : Int32)) _ hw hk H locs ls hP hD hS (lv_sub hl [0, 1, 2, 3] rfl)
        · have hw := hw.2 c4
          refine lv_lload_n hx hb dX0_sumWithTaken_22 rfl (lv_at hl 1 rfl) ?_
          refine lv_aload_n hx hb dX0_sumWithTaken_23 rfl (lv_at hl 2 rfl) ?_
          refine lv_iload hx hb dX0_sumWithTaken_24 (lv_at hl 0 rfl) ?_
          have hPc := hP
          have hDc := hD
          have hKc := hK
          have hFc := va_free (wc := [(h0, .inr (0, [.ref w0, .ref w1, .int σ.1, .int σ.2.1, .int σ.2.2.1])), (w0, .inl (cJ, 512, .inr (.inl (σ.2.2.2.1)))), (w1, .inl (cJ, 9, .inr (.inl (σ.2.2.2.2))))]) hD hS hA [0, 1, 2] rfl
          refine kc_l (wr := ([] : va_W)) (kr_V (As := [.int x4]) (rest := [.long x2]) (b := h0) (ws := [(h0, .inr (0, [.ref w0, .ref w1, .int σ.1, .int σ.2.1, .int σ.2.2.1])), (w0, .inl (cJ, 512, .inr (.inl (σ.2.2.2.1)))), (w1, .inl (cJ, 9, .inr (.inl (σ.2.2.2.2))))]) ⟨hx, hb, hml, hown, hts⟩ (c_X0_weightOf l dC dI h0 w0 w1 cJ σ x4 _ hw H.size) (cwV 1 hts gX0_sumWithTaken_X0_weightOf rfl rfl rfl (by decide +kernel) ⟨Nat.le_of_ble_eq_true rfl, Nat.le_of_ble_eq_true rfl⟩) 0 0 hK rfl rfl rfl hKc hnw hP hD hPc hDc rfl hl.1 rfl (Nat.le_of_ble_eq_true rfl) dX0_sumWithTaken_26 ⟨Nat.zero_le _, Nat.zero_le _⟩) hP hD hS hFc [0, 1, 2] [] rfl rfl (by decide) (by decide) (fun r5 u1 H locs hq hP hD hS => ?_)
          obtain ⟨hw, rfl⟩ := hq
          have hP : va_P (dC, dI) vwCl [(h0, .inr (0, [.ref w0, .ref w1, .int σ.1, .int σ.2.1, .int σ.2.2.1])), (w0, .inl (cJ, 512, .inr (.inl (σ.2.2.2.1)))), (w1, .inl (cJ, 9, .inr (.inl (σ.2.2.2.2))))] H := hP
          have hD : va_D A [(h0, .inr (0, [.ref w0, .ref w1, .int σ.1, .int σ.2.1, .int σ.2.2.1])), (w0, .inl (cJ, 512, .inr (.inl (σ.2.2.2.1)))), (w1, .inl (cJ, 9, .inr (.inl (σ.2.2.2.2))))] := hD
          refine lv_ladd hx hb dX0_sumWithTaken_29 ?_
          refine lv_lstore_n (lv' := [(2, .long (x2 + r5)), (4, .int x4), (0, .ref h0), (1, .int x1)]) hx hb dX0_sumWithTaken_30 rfl hl (by decide) rfl (fun ls hl => ?_)
          refine lv_iinc (v := (x4 + (1 : Int32))) (lv' := [(4, .int (x4 + (1 : Int32))), (2, .long (x2 + r5)), (0, .ref h0), (1, .int x1)]) hx hb dX0_sumWithTaken_31 hl (k := 1) rfl rfl (by decide) rfl (fun ls hl => ?_)
          refine lv_goto (tgt := 5) hx hb dX0_sumWithTaken_34 (by decide) ?_
          exact ih (x2 + r5) (x4 + (1 : Int32)) _ hw hk H locs ls hP hD hS (lv_sub hl [0, 1, 2, 3] rfl)
  have hl := lv_entry ([.ref h0, .int p0]) (n := 5) (Nat.le_of_ble_eq_true rfl)
  rw [lg_entry_eq]
  generalize (lg_sl ([.ref h0, .int p0]) ++ List.replicate (5 - (lg_sl ([.ref h0, .int p0])).length) Slot.unset).toArray = ls at hl ⊢
  have hl : lv_has ls 5 [(0, .ref h0), (1, .int p0)] := hl
  unfold wp_X0_sumWithTaken at hw
  skip
  obtain ⟨H, hH⟩ : ∃ H, H = s.heap := ⟨_, rfl⟩
  obtain ⟨locs, hlo⟩ : ∃ q : List Loc, q = [] := ⟨_, rfl⟩
  rw [← hH] at hP
  have hS : va_S A s.heap H locs := by rw [hH, hlo]; exact hS
  suffices hgo : W p l e (headSpec wsX0_sumWithTaken ({ frames := 2, cells := 0, slots := 0, locals := 44 } : Room)).room s m _ below meth c H locs 0 0 _ (F0 m 0 ls []) by rw [hH, hlo] at hgo; exact hgo
  refine lv_lconst (v := (0 : Int64)) hx hb dX0_sumWithTaken_0 (by decide) ?_
  refine lv_lstore_n (lv' := [(2, .long (0 : Int64)), (0, .ref h0), (1, .int p0)]) hx hb dX0_sumWithTaken_1 rfl hl (by decide) rfl (fun ls hl => ?_)
  refine lv_iconst (v := (0 : Int32)) hx hb dX0_sumWithTaken_2 (by decide) ?_
  refine lv_istore (lv' := [(4, .int (0 : Int32)), (2, .long (0 : Int64)), (0, .ref h0), (1, .int p0)]) hx hb dX0_sumWithTaken_3 hl (by decide) rfl (fun ls hl => ?_)
  refine L5 p0 (20000) (0 : Int64) (0 : Int32) _ hw (fun x2_7 x4_8 hw H locs ls hP hD hS hl => ?_) H locs ls hP hD hS (lv_sub hl [0, 1, 2, 3] rfl)
  refine lv_lload_n hx hb dX0_sumWithTaken_37 rfl (lv_at hl 1 rfl) ?_
  exact W.lret (v := x2_7) hx hb hr (fun t ht hW => ⟨⟨x2_7, ((cl0 h0 w0 w1 cJ σ)), rfl, ⟨hw, rfl⟩, by rw [ht]; exact hP, va_K.moved hW.alike hK, hD⟩, hS.F ht⟩) hS.2.2 dX0_sumWithTaken_38
set_option maxHeartbeats 4000000 in
set_option maxRecDepth 100000 in
theorem c_X2_put (l : Launch) (dC : Nat → ClassId) (dI : Nat → Nat → Nat) (h0 : Nat)  (σ : SS) (p0 : Int32) (p1 : Int32) (post : SS → Prop) (hw : wp_X2_put p0 p1 σ post) : KV l yX2_put wsX2_put ({ frames := 0, cells := 0, slots := 0, locals := 0 } : Room) (dC, dI) [] (cl2 h0 σ) [.ref h0, .int p0, .int p1] (fun u => ∃ σ', post σ' ∧ u = (cl2 h0 (σ'))) := by
  intro sz
  refine Met.ofW (cc := cX2_put) (maxL := 4) (ret := none) (by decide) rfl ?_
  intro p e s m args below meth c s₁ B hml hv
  obtain ⟨rfl, hsz, hP, hK, hD0, hnw⟩ := hv
  have hx := B.exec
  have hb := B.bytes
  have hr := B.returns
  have hts := atoms_spec (ws := wsX2_put) B.pre
  have hown : s.vm.findClass RX2 = some m.cls := findClass_of_methodNamed B.named
  have hlocks := B.notSynchronized
  subst hsz
  have hD := hD0.self (sz := s.heap.size)
  generalize hAe : va_A (cl2 h0 σ) s.heap.size = A at hD ⊢
  have hA : ∀ q : Nat, s.heap.size ≤ q → A q := fun q h => by rw [← hAe]; exact Or.inr h
  have hS : va_S A s.heap s.heap [] := va_S.rf
  have hP : va_P (dC, dI) vwCl [(h0, .inr (1, [.int σ.1, .int σ.2.1, .int σ.2.2.1, .int σ.2.2.2.1, .int σ.2.2.2.2.1, .int σ.2.2.2.2.2.1, .int σ.2.2.2.2.2.2.1, .int σ.2.2.2.2.2.2.2]))] s.heap := hP
  have hD : va_D A [(h0, .inr (1, [.int σ.1, .int σ.2.1, .int σ.2.2.1, .int σ.2.2.2.1, .int σ.2.2.2.2.1, .int σ.2.2.2.2.2.1, .int σ.2.2.2.2.2.2.1, .int σ.2.2.2.2.2.2.2]))] := hD
  have fl_19 := hts (.fieldLink RX2 19 "OnePlaceEach$Stepped" "firsts" "I") (by decide +kernel)
  have fl_22 := hts (.fieldLink RX2 22 "OnePlaceEach$Stepped" "seconds" "I") (by decide +kernel)
  have hin0 : ∀ w ∈ wsX20, w ∈ wsX2_put := by decide +kernel
  have hl := lv_entry ([.ref h0, .int p0, .int p1]) (n := 4) (Nat.le_of_ble_eq_true rfl)
  rw [lg_entry_eq]
  generalize (lg_sl ([.ref h0, .int p0, .int p1]) ++ List.replicate (4 - (lg_sl ([.ref h0, .int p0, .int p1])).length) Slot.unset).toArray = ls at hl ⊢
  have hl : lv_has ls 4 [(0, .ref h0), (1, .int p0), (2, .int p1)] := hl
  unfold wp_X2_put at hw
  skip
  obtain ⟨H, hH⟩ : ∃ H, H = s.heap := ⟨_, rfl⟩
  obtain ⟨locs, hlo⟩ : ∃ q : List Loc, q = [] := ⟨_, rfl⟩
  rw [← hH] at hP
  have hS : va_S A s.heap H locs := by rw [hH, hlo]; exact hS
  suffices hgo : W p l e (headSpec wsX2_put ({ frames := 0, cells := 0, slots := 0, locals := 0 } : Room)).room s m _ below meth c H locs 0 0 _ (F0 m 0 ls []) by rw [hH, hlo] at hgo; exact hgo
  refine lv_iconst (v := (1 : Int32)) hx hb dX2_put_0 (by decide) ?_
  refine lv_iload_n hx hb dX2_put_1 rfl (lv_at hl 1 rfl) ?_
  refine lv_ishl hx hb dX2_put_2 ?_
  refine lv_istore_n (lv' := [(3, .int ((1 : Int32) <<< (p0 &&& (31 : Int32)))), (0, .ref h0), (1, .int p0), (2, .int p1)]) hx hb dX2_put_3 rfl hl (by decide) rfl (fun ls hl => ?_)
  refine lv_aload_n hx hb dX2_put_4 rfl (lv_at hl 1 rfl) ?_
  refine lv_iload_n hx hb dX2_put_5 rfl (lv_at hl 3 rfl) ?_
  refine lv_iconst (v := (1 : Int32)) hx hb dX2_put_6 (by decide) ?_
  refine lv_icmp_ne (tgt := 19) hx hb dX2_put_7 (by decide) (fun c1 => ?_) (fun c1 => ?_)
  · have hw := hw.1 c1
    refine lv_aload_n hx hb dX2_put_19 rfl (lv_at hl 1 rfl) ?_
    refine va_get (D := (dC, dI)) (ci := 1) (v := .int σ.2.2.1) (C := RX2) (T := TX2) (N := 8) hx hb hts hin0 hown hK hP 0 rfl rfl 2 (by decide) fl_19 (fun _ h9 => h9) rfl dX2_put_20 ?_
    refine lv_iload_n hx hb dX2_put_23 rfl (lv_at hl 0 rfl) ?_
    refine lv_iconst (v := (-1 : Int32)) hx hb dX2_put_24 (by decide) ?_
    refine lv_ixor hx hb dX2_put_25 ?_
    refine lv_iand hx hb dX2_put_26 ?_
    refine va_put (D := (dC, dI)) (ci := 1) (v := .int (σ.2.2.1 &&& (((1 : Int32) <<< (p0 &&& (31 : Int32))) ^^^ (-1 : Int32)))) (ty := .int) (C := RX2) (T := TX2) (N := 8) hx hb hts hin0 tyX2 tyX2_ok nmX2 hown hK hP hD hS 0 rfl rfl 2 (by decide) fl_19 (fun _ h9 => h9) rfl (by decide +kernel) rfl rfl (Nat.le_of_ble_eq_true rfl) dX2_put_27 (fun H locs hP hD hS => ?_)
    have hP : va_P (dC, dI) vwCl [(h0, .inr (1, [.int σ.1, .int σ.2.1, .int (σ.2.2.1 &&& (((1 : Int32) <<< (p0 &&& (31 : Int32))) ^^^ (-1 : Int32))), .int σ.2.2.2.1, .int σ.2.2.2.2.1, .int σ.2.2.2.2.2.1, .int σ.2.2.2.2.2.2.1, .int σ.2.2.2.2.2.2.2]))] H := hP
    have hD : va_D A [(h0, .inr (1, [.int σ.1, .int σ.2.1, .int (σ.2.2.1 &&& (((1 : Int32) <<< (p0 &&& (31 : Int32))) ^^^ (-1 : Int32))), .int σ.2.2.2.1, .int σ.2.2.2.2.1, .int σ.2.2.2.2.2.1, .int σ.2.2.2.2.2.2.1, .int σ.2.2.2.2.2.2.2]))] := hD
    refine lv_aload_n hx hb dX2_put_30 rfl (lv_at hl 1 rfl) ?_
    refine lv_iload_n hx hb dX2_put_31 rfl (lv_at hl 3 rfl) ?_
    refine lv_iconst (v := (2 : Int32)) hx hb dX2_put_32 (by decide) ?_
    refine lv_icmp_ne (tgt := 45) hx hb dX2_put_33 (by decide) (fun c2 => ?_) (fun c2 => ?_)
    · have hw := hw.1 c2
      refine lv_aload_n hx hb dX2_put_45 rfl (lv_at hl 1 rfl) ?_
      refine va_get (D := (dC, dI)) (ci := 1) (v := .int σ.2.2.2.1) (C := RX2) (T := TX2) (N := 8) hx hb hts hin0 hown hK hP 0 rfl rfl 3 (by decide) fl_22 (fun _ h9 => h9) rfl dX2_put_46 ?_
      refine lv_iload_n hx hb dX2_put_49 rfl (lv_at hl 0 rfl) ?_
      refine lv_iconst (v := (-1 : Int32)) hx hb dX2_put_50 (by decide) ?_
      refine lv_ixor hx hb dX2_put_51 ?_
      refine lv_iand hx hb dX2_put_52 ?_
      refine va_put (D := (dC, dI)) (ci := 1) (v := .int (σ.2.2.2.1 &&& (((1 : Int32) <<< (p0 &&& (31 : Int32))) ^^^ (-1 : Int32)))) (ty := .int) (C := RX2) (T := TX2) (N := 8) hx hb hts hin0 tyX2 tyX2_ok nmX2 hown hK hP hD hS 0 rfl rfl 3 (by decide) fl_22 (fun _ h9 => h9) rfl (by decide +kernel) rfl rfl (Nat.le_of_ble_eq_true rfl) dX2_put_53 (fun H locs hP hD hS => ?_)
      have hP : va_P (dC, dI) vwCl [(h0, .inr (1, [.int σ.1, .int σ.2.1, .int (σ.2.2.1 &&& (((1 : Int32) <<< (p0 &&& (31 : Int32))) ^^^ (-1 : Int32))), .int (σ.2.2.2.1 &&& (((1 : Int32) <<< (p0 &&& (31 : Int32))) ^^^ (-1 : Int32))), .int σ.2.2.2.2.1, .int σ.2.2.2.2.2.1, .int σ.2.2.2.2.2.2.1, .int σ.2.2.2.2.2.2.2]))] H := hP
      have hD : va_D A [(h0, .inr (1, [.int σ.1, .int σ.2.1, .int (σ.2.2.1 &&& (((1 : Int32) <<< (p0 &&& (31 : Int32))) ^^^ (-1 : Int32))), .int (σ.2.2.2.1 &&& (((1 : Int32) <<< (p0 &&& (31 : Int32))) ^^^ (-1 : Int32))), .int σ.2.2.2.2.1, .int σ.2.2.2.2.2.1, .int σ.2.2.2.2.2.2.1, .int σ.2.2.2.2.2.2.2]))] := hD
      exact W.vret hx hb hr (fun t ht hW => ⟨⟨((cl2 h0 (σ.1, σ.2.1, (σ.2.2.1 &&& (((1 : Int32) <<< (p0 &&& (31 : Int32))) ^^^ (-1 : Int32))), (σ.2.2.2.1 &&& (((1 : Int32) <<< (p0 &&& (31 : Int32))) ^^^ (-1 : Int32))), σ.2.2.2.2.1, σ.2.2.2.2.2.1, σ.2.2.2.2.2.2.1, σ.2.2.2.2.2.2.2))), rfl, ⟨(σ.1, σ.2.1, (σ.2.2.1 &&& (((1 : Int32) <<< (p0 &&& (31 : Int32))) ^^^ (-1 : Int32))), (σ.2.2.2.1 &&& (((1 : Int32) <<< (p0 &&& (31 : Int32))) ^^^ (-1 : Int32))), σ.2.2.2.2.1, σ.2.2.2.2.2.1, σ.2.2.2.2.2.2.1, σ.2.2.2.2.2.2.2), hw, rfl⟩, by rw [ht]; exact hP, va_K.moved hW.alike hK, hD⟩, hS.F ht⟩) hS.2.2 dX2_put_56
    · have hw := hw.2 c2
      refine lv_aload_n hx hb dX2_put_36 rfl (lv_at hl 1 rfl) ?_
      refine va_get (D := (dC, dI)) (ci := 1) (v := .int σ.2.2.2.1) (C := RX2) (T := TX2) (N := 8) hx hb hts hin0 hown hK hP 0 rfl rfl 3 (by decide) fl_22 (fun _ h9 => h9) rfl dX2_put_37 ?_
      refine lv_iload_n hx hb dX2_put_40 rfl (lv_at hl 0 rfl) ?_
      refine lv_ior hx hb dX2_put_41 ?_
      refine lv_goto (tgt := 53) hx hb dX2_put_42 (by decide) ?_
      refine va_put (D := (dC, dI)) (ci := 1) (v := .int (σ.2.2.2.1 ||| ((1 : Int32) <<< (p0 &&& (31 : Int32))))) (ty := .int) (C := RX2) (T := TX2) (N := 8) hx hb hts hin0 tyX2 tyX2_ok nmX2 hown hK hP hD hS 0 rfl rfl 3 (by decide) fl_22 (fun _ h9 => h9) rfl (by decide +kernel) rfl rfl (Nat.le_of_ble_eq_true rfl) dX2_put_53 (fun H locs hP hD hS => ?_)
      have hP : va_P (dC, dI) vwCl [(h0, .inr (1, [.int σ.1, .int σ.2.1, .int (σ.2.2.1 &&& (((1 : Int32) <<< (p0 &&& (31 : Int32))) ^^^ (-1 : Int32))), .int (σ.2.2.2.1 ||| ((1 : Int32) <<< (p0 &&& (31 : Int32)))), .int σ.2.2.2.2.1, .int σ.2.2.2.2.2.1, .int σ.2.2.2.2.2.2.1, .int σ.2.2.2.2.2.2.2]))] H := hP
      have hD : va_D A [(h0, .inr (1, [.int σ.1, .int σ.2.1, .int (σ.2.2.1 &&& (((1 : Int32) <<< (p0 &&& (31 : Int32))) ^^^ (-1 : Int32))), .int (σ.2.2.2.1 ||| ((1 : Int32) <<< (p0 &&& (31 : Int32)))), .int σ.2.2.2.2.1, .int σ.2.2.2.2.2.1, .int σ.2.2.2.2.2.2.1, .int σ.2.2.2.2.2.2.2]))] := hD
      exact W.vret hx hb hr (fun t ht hW => ⟨⟨((cl2 h0 (σ.1, σ.2.1, (σ.2.2.1 &&& (((1 : Int32) <<< (p0 &&& (31 : Int32))) ^^^ (-1 : Int32))), (σ.2.2.2.1 ||| ((1 : Int32) <<< (p0 &&& (31 : Int32)))), σ.2.2.2.2.1, σ.2.2.2.2.2.1, σ.2.2.2.2.2.2.1, σ.2.2.2.2.2.2.2))), rfl, ⟨(σ.1, σ.2.1, (σ.2.2.1 &&& (((1 : Int32) <<< (p0 &&& (31 : Int32))) ^^^ (-1 : Int32))), (σ.2.2.2.1 ||| ((1 : Int32) <<< (p0 &&& (31 : Int32)))), σ.2.2.2.2.1, σ.2.2.2.2.2.1, σ.2.2.2.2.2.2.1, σ.2.2.2.2.2.2.2), hw, rfl⟩, by rw [ht]; exact hP, va_K.moved hW.alike hK, hD⟩, hS.F ht⟩) hS.2.2 dX2_put_56
  · have hw := hw.2 c1
    refine lv_aload_n hx hb dX2_put_10 rfl (lv_at hl 1 rfl) ?_
    refine va_get (D := (dC, dI)) (ci := 1) (v := .int σ.2.2.1) (C := RX2) (T := TX2) (N := 8) hx hb hts hin0 hown hK hP 0 rfl rfl 2 (by decide) fl_19 (fun _ h9 => h9) rfl dX2_put_11 ?_
    refine lv_iload_n hx hb dX2_put_14 rfl (lv_at hl 0 rfl) ?_
    refine lv_ior hx hb dX2_put_15 ?_
    refine lv_goto (tgt := 27) hx hb dX2_put_16 (by decide) ?_
    refine va_put (D := (dC, dI)) (ci := 1) (v := .int (σ.2.2.1 ||| ((1 : Int32) <<< (p0 &&& (31 : Int32))))) (ty := .int) (C := RX2) (T := TX2) (N := 8) hx hb hts hin0 tyX2 tyX2_ok nmX2 hown hK hP hD hS 0 rfl rfl 2 (by decide) fl_19 (fun _ h9 => h9) rfl (by decide +kernel) rfl rfl (Nat.le_of_ble_eq_true rfl) dX2_put_27 (fun H locs hP hD hS => ?_)
    have hP : va_P (dC, dI) vwCl [(h0, .inr (1, [.int σ.1, .int σ.2.1, .int (σ.2.2.1 ||| ((1 : Int32) <<< (p0 &&& (31 : Int32)))), .int σ.2.2.2.1, .int σ.2.2.2.2.1, .int σ.2.2.2.2.2.1, .int σ.2.2.2.2.2.2.1, .int σ.2.2.2.2.2.2.2]))] H := hP
    have hD : va_D A [(h0, .inr (1, [.int σ.1, .int σ.2.1, .int (σ.2.2.1 ||| ((1 : Int32) <<< (p0 &&& (31 : Int32)))), .int σ.2.2.2.1, .int σ.2.2.2.2.1, .int σ.2.2.2.2.2.1, .int σ.2.2.2.2.2.2.1, .int σ.2.2.2.2.2.2.2]))] := hD
    refine lv_aload_n hx hb dX2_put_30 rfl (lv_at hl 1 rfl) ?_
    refine lv_iload_n hx hb dX2_put_31 rfl (lv_at hl 3 rfl) ?_
    refine lv_iconst (v := (2 : Int32)) hx hb dX2_put_32 (by decide) ?_
    refine lv_icmp_ne (tgt := 45) hx hb dX2_put_33 (by decide) (fun c3 => ?_) (fun c3 => ?_)
    · have hw := hw.1 c3
      refine lv_aload_n hx hb dX2_put_45 rfl (lv_at hl 1 rfl) ?_
      refine va_get (D := (dC, dI)) (ci := 1) (v := .int σ.2.2.2.1) (C := RX2) (T := TX2) (N := 8) hx hb hts hin0 hown hK hP 0 rfl rfl 3 (by decide) fl_22 (fun _ h9 => h9) rfl dX2_put_46 ?_
      refine lv_iload_n hx hb dX2_put_49 rfl (lv_at hl 0 rfl) ?_
      refine lv_iconst (v := (-1 : Int32)) hx hb dX2_put_50 (by decide) ?_
      refine lv_ixor hx hb dX2_put_51 ?_
      refine lv_iand hx hb dX2_put_52 ?_
      refine va_put (D := (dC, dI)) (ci := 1) (v := .int (σ.2.2.2.1 &&& (((1 : Int32) <<< (p0 &&& (31 : Int32))) ^^^ (-1 : Int32)))) (ty := .int) (C := RX2) (T := TX2) (N := 8) hx hb hts hin0 tyX2 tyX2_ok nmX2 hown hK hP hD hS 0 rfl rfl 3 (by decide) fl_22 (fun _ h9 => h9) rfl (by decide +kernel) rfl rfl (Nat.le_of_ble_eq_true rfl) dX2_put_53 (fun H locs hP hD hS => ?_)
      have hP : va_P (dC, dI) vwCl [(h0, .inr (1, [.int σ.1, .int σ.2.1, .int (σ.2.2.1 ||| ((1 : Int32) <<< (p0 &&& (31 : Int32)))), .int (σ.2.2.2.1 &&& (((1 : Int32) <<< (p0 &&& (31 : Int32))) ^^^ (-1 : Int32))), .int σ.2.2.2.2.1, .int σ.2.2.2.2.2.1, .int σ.2.2.2.2.2.2.1, .int σ.2.2.2.2.2.2.2]))] H := hP
      have hD : va_D A [(h0, .inr (1, [.int σ.1, .int σ.2.1, .int (σ.2.2.1 ||| ((1 : Int32) <<< (p0 &&& (31 : Int32)))), .int (σ.2.2.2.1 &&& (((1 : Int32) <<< (p0 &&& (31 : Int32))) ^^^ (-1 : Int32))), .int σ.2.2.2.2.1, .int σ.2.2.2.2.2.1, .int σ.2.2.2.2.2.2.1, .int σ.2.2.2.2.2.2.2]))] := hD
      exact W.vret hx hb hr (fun t ht hW => ⟨⟨((cl2 h0 (σ.1, σ.2.1, (σ.2.2.1 ||| ((1 : Int32) <<< (p0 &&& (31 : Int32)))), (σ.2.2.2.1 &&& (((1 : Int32) <<< (p0 &&& (31 : Int32))) ^^^ (-1 : Int32))), σ.2.2.2.2.1, σ.2.2.2.2.2.1, σ.2.2.2.2.2.2.1, σ.2.2.2.2.2.2.2))), rfl, ⟨(σ.1, σ.2.1, (σ.2.2.1 ||| ((1 : Int32) <<< (p0 &&& (31 : Int32)))), (σ.2.2.2.1 &&& (((1 : Int32) <<< (p0 &&& (31 : Int32))) ^^^ (-1 : Int32))), σ.2.2.2.2.1, σ.2.2.2.2.2.1, σ.2.2.2.2.2.2.1, σ.2.2.2.2.2.2.2), hw, rfl⟩, by rw [ht]; exact hP, va_K.moved hW.alike hK, hD⟩, hS.F ht⟩) hS.2.2 dX2_put_56
    · have hw := hw.2 c3
      refine lv_aload_n hx hb dX2_put_36 rfl (lv_at hl 1 rfl) ?_
      refine va_get (D := (dC, dI)) (ci := 1) (v := .int σ.2.2.2.1) (C := RX2) (T := TX2) (N := 8) hx hb hts hin0 hown hK hP 0 rfl rfl 3 (by decide) fl_22 (fun _ h9 => h9) rfl dX2_put_37 ?_
      refine lv_iload_n hx hb dX2_put_40 rfl (lv_at hl 0 rfl) ?_
      refine lv_ior hx hb dX2_put_41 ?_
      refine lv_goto (tgt := 53) hx hb dX2_put_42 (by decide) ?_
      refine va_put (D := (dC, dI)) (ci := 1) (v := .int (σ.2.2.2.1 ||| ((1 : Int32) <<< (p0 &&& (31 : Int32))))) (ty := .int) (C := RX2) (T := TX2) (N := 8) hx hb hts hin0 tyX2 tyX2_ok nmX2 hown hK hP hD hS 0 rfl rfl 3 (by decide) fl_22 (fun _ h9 => h9) rfl (by decide +kernel) rfl rfl (Nat.le_of_ble_eq_true rfl) dX2_put_53 (fun H locs hP hD hS => ?_)
      have hP : va_P (dC, dI) vwCl [(h0, .inr (1, [.int σ.1, .int σ.2.1, .int (σ.2.2.1 ||| ((1 : Int32) <<< (p0 &&& (31 : Int32)))), .int (σ.2.2.2.1 ||| ((1 : Int32) <<< (p0 &&& (31 : Int32)))), .int σ.2.2.2.2.1, .int σ.2.2.2.2.2.1, .int σ.2.2.2.2.2.2.1, .int σ.2.2.2.2.2.2.2]))] H := hP
      have hD : va_D A [(h0, .inr (1, [.int σ.1, .int σ.2.1, .int (σ.2.2.1 ||| ((1 : Int32) <<< (p0 &&& (31 : Int32)))), .int (σ.2.2.2.1 ||| ((1 : Int32) <<< (p0 &&& (31 : Int32)))), .int σ.2.2.2.2.1, .int σ.2.2.2.2.2.1, .int σ.2.2.2.2.2.2.1, .int σ.2.2.2.2.2.2.2]))] := hD
      exact W.vret hx hb hr (fun t ht hW => ⟨⟨((cl2 h0 (σ.1, σ.2.1, (σ.2.2.1 ||| ((1 : Int32) <<< (p0 &&& (31 : Int32)))), (σ.2.2.2.1 ||| ((1 : Int32) <<< (p0 &&& (31 : Int32)))), σ.2.2.2.2.1, σ.2.2.2.2.2.1, σ.2.2.2.2.2.2.1, σ.2.2.2.2.2.2.2))), rfl, ⟨(σ.1, σ.2.1, (σ.2.2.1 ||| ((1 : Int32) <<< (p0 &&& (31 : Int32)))), (σ.2.2.2.1 ||| ((1 : Int32) <<< (p0 &&& (31 : Int32)))), σ.2.2.2.2.1, σ.2.2.2.2.2.1, σ.2.2.2.2.2.2.1, σ.2.2.2.2.2.2.2), hw, rfl⟩, by rw [ht]; exact hP, va_K.moved hW.alike hK, hD⟩, hS.F ht⟩) hS.2.2 dX2_put_56
set_option maxHeartbeats 4000000 in
set_option maxRecDepth 100000 in
theorem c_X2_begin (l : Launch) (dC : Nat → ClassId) (dI : Nat → Nat → Nat) (h0 : Nat)  (σ : SS) (p0 : Int32) (p1 : Int32) (post : SS → Prop) (hw : wp_X2_begin p0 p1 σ post) : KV l yX2_begin wsX2_begin ({ frames := 0, cells := 0, slots := 0, locals := 0 } : Room) (dC, dI) [] (cl2 h0 σ) [.ref h0, .int p0, .int p1] (fun u => ∃ σ', post σ' ∧ u = (cl2 h0 (σ'))) := by
  intro sz
  refine Met.ofW (cc := cX2_begin) (maxL := 3) (ret := none) (by decide) rfl ?_
  intro p e s m args below meth c s₁ B hml hv
  obtain ⟨rfl, hsz, hP, hK, hD0, hnw⟩ := hv
  have hx := B.exec
  have hb := B.bytes
  have hr := B.returns
  have hts := atoms_spec (ws := wsX2_begin) B.pre
  have hown : s.vm.findClass RX2 = some m.cls := findClass_of_methodNamed B.named
  have hlocks := B.notSynchronized
  subst hsz
  have hD := hD0.self (sz := s.heap.size)
  generalize hAe : va_A (cl2 h0 σ) s.heap.size = A at hD ⊢
  have hA : ∀ q : Nat, s.heap.size ≤ q → A q := fun q h => by rw [← hAe]; exact Or.inr h
  have hS : va_S A s.heap s.heap [] := va_S.rf
  have hP : va_P (dC, dI) vwCl [(h0, .inr (1, [.int σ.1, .int σ.2.1, .int σ.2.2.1, .int σ.2.2.2.1, .int σ.2.2.2.2.1, .int σ.2.2.2.2.2.1, .int σ.2.2.2.2.2.2.1, .int σ.2.2.2.2.2.2.2]))] s.heap := hP
  have hD : va_D A [(h0, .inr (1, [.int σ.1, .int σ.2.1, .int σ.2.2.1, .int σ.2.2.2.1, .int σ.2.2.2.2.1, .int σ.2.2.2.2.2.1, .int σ.2.2.2.2.2.2.1, .int σ.2.2.2.2.2.2.2]))] := hD
  have fl_9 := hts (.fieldLink RX2 9 "OnePlaceEach$Stepped" "places" "I") (by decide +kernel)
  have fl_15 := hts (.fieldLink RX2 15 "OnePlaceEach$Stepped" "open" "Z") (by decide +kernel)
  have fl_19 := hts (.fieldLink RX2 19 "OnePlaceEach$Stepped" "firsts" "I") (by decide +kernel)
  have fl_22 := hts (.fieldLink RX2 22 "OnePlaceEach$Stepped" "seconds" "I") (by decide +kernel)
  have fl_25 := hts (.fieldLink RX2 25 "OnePlaceEach$Stepped" "lot" "I") (by decide +kernel)
  have fl_28 := hts (.fieldLink RX2 28 "OnePlaceEach$Stepped" "comeIn" "I") (by decide +kernel)
  have fl_31 := hts (.fieldLink RX2 31 "OnePlaceEach$Stepped" "goneOut" "I") (by decide +kernel)
  have fl_34 := hts (.fieldLink RX2 34 "OnePlaceEach$Stepped" "moved" "I") (by decide +kernel)
  have hin0 : ∀ w ∈ wsX20, w ∈ wsX2_begin := by decide +kernel
  have hl := lv_entry ([.ref h0, .int p0, .int p1]) (n := 3) (Nat.le_of_ble_eq_true rfl)
  rw [lg_entry_eq]
  generalize (lg_sl ([.ref h0, .int p0, .int p1]) ++ List.replicate (3 - (lg_sl ([.ref h0, .int p0, .int p1])).length) Slot.unset).toArray = ls at hl ⊢
  have hl : lv_has ls 3 [(0, .ref h0), (1, .int p0), (2, .int p1)] := hl
  unfold wp_X2_begin at hw
  skip
  obtain ⟨H, hH⟩ : ∃ H, H = s.heap := ⟨_, rfl⟩
  obtain ⟨locs, hlo⟩ : ∃ q : List Loc, q = [] := ⟨_, rfl⟩
  rw [← hH] at hP
  have hS : va_S A s.heap H locs := by rw [hH, hlo]; exact hS
  suffices hgo : W p l e (headSpec wsX2_begin ({ frames := 0, cells := 0, slots := 0, locals := 0 } : Room)).room s m _ below meth c H locs 0 0 _ (F0 m 0 ls []) by rw [hH, hlo] at hgo; exact hgo
  refine lv_aload_n hx hb dX2_begin_0 rfl (lv_at hl 0 rfl) ?_
  refine lv_iload_n hx hb dX2_begin_1 rfl (lv_at hl 1 rfl) ?_
  refine va_put (D := (dC, dI)) (ci := 1) (v := .int p0) (ty := .int) (C := RX2) (T := TX2) (N := 8) hx hb hts hin0 tyX2 tyX2_ok nmX2 hown hK hP hD hS 0 rfl rfl 0 (by decide) fl_9 (fun _ h9 => h9) rfl (by decide +kernel) rfl rfl (Nat.le_of_ble_eq_true rfl) dX2_begin_2 (fun H locs hP hD hS => ?_)
  have hP : va_P (dC, dI) vwCl [(h0, .inr (1, [.int p0, .int σ.2.1, .int σ.2.2.1, .int σ.2.2.2.1, .int σ.2.2.2.2.1, .int σ.2.2.2.2.2.1, .int σ.2.2.2.2.2.2.1, .int σ.2.2.2.2.2.2.2]))] H := hP
  have hD : va_D A [(h0, .inr (1, [.int p0, .int σ.2.1, .int σ.2.2.1, .int σ.2.2.2.1, .int σ.2.2.2.2.1, .int σ.2.2.2.2.2.1, .int σ.2.2.2.2.2.2.1, .int σ.2.2.2.2.2.2.2]))] := hD
  refine lv_aload_n hx hb dX2_begin_5 rfl (lv_at hl 0 rfl) ?_
  refine lv_iload_n hx hb dX2_begin_6 rfl (lv_at hl 2 rfl) ?_
  have z1 := hw.1
  have hw := hw.2
  refine va_put (D := (dC, dI)) (ci := 1) (v := .int p1) (ty := .boolean) (C := RX2) (T := TX2) (N := 8) hx hb hts hin0 tyX2 tyX2_ok nmX2 hown hK hP hD hS 0 rfl rfl 1 (by decide) fl_15 (fun _ h9 => h9) rfl (by decide +kernel) (nb_nar z1) (nb_fit z1) (Nat.le_of_ble_eq_true rfl) dX2_begin_7 (fun H locs hP hD hS => ?_)
  have hP : va_P (dC, dI) vwCl [(h0, .inr (1, [.int p0, .int p1, .int σ.2.2.1, .int σ.2.2.2.1, .int σ.2.2.2.2.1, .int σ.2.2.2.2.2.1, .int σ.2.2.2.2.2.2.1, .int σ.2.2.2.2.2.2.2]))] H := hP
  have hD : va_D A [(h0, .inr (1, [.int p0, .int p1, .int σ.2.2.1, .int σ.2.2.2.1, .int σ.2.2.2.2.1, .int σ.2.2.2.2.2.1, .int σ.2.2.2.2.2.2.1, .int σ.2.2.2.2.2.2.2]))] := hD
  refine lv_aload_n hx hb dX2_begin_10 rfl (lv_at hl 0 rfl) ?_
  refine lv_iconst (v := (0 : Int32)) hx hb dX2_begin_11 (by decide) ?_
  refine va_put (D := (dC, dI)) (ci := 1) (v := .int (0 : Int32)) (ty := .int) (C := RX2) (T := TX2) (N := 8) hx hb hts hin0 tyX2 tyX2_ok nmX2 hown hK hP hD hS 0 rfl rfl 2 (by decide) fl_19 (fun _ h9 => h9) rfl (by decide +kernel) rfl rfl (Nat.le_of_ble_eq_true rfl) dX2_begin_12 (fun H locs hP hD hS => ?_)
  have hP : va_P (dC, dI) vwCl [(h0, .inr (1, [.int p0, .int p1, .int (0 : Int32), .int σ.2.2.2.1, .int σ.2.2.2.2.1, .int σ.2.2.2.2.2.1, .int σ.2.2.2.2.2.2.1, .int σ.2.2.2.2.2.2.2]))] H := hP
  have hD : va_D A [(h0, .inr (1, [.int p0, .int p1, .int (0 : Int32), .int σ.2.2.2.1, .int σ.2.2.2.2.1, .int σ.2.2.2.2.2.1, .int σ.2.2.2.2.2.2.1, .int σ.2.2.2.2.2.2.2]))] := hD
  refine lv_aload_n hx hb dX2_begin_15 rfl (lv_at hl 0 rfl) ?_
  refine lv_iconst (v := (0 : Int32)) hx hb dX2_begin_16 (by decide) ?_
  refine va_put (D := (dC, dI)) (ci := 1) (v := .int (0 : Int32)) (ty := .int) (C := RX2) (T := TX2) (N := 8) hx hb hts hin0 tyX2 tyX2_ok nmX2 hown hK hP hD hS 0 rfl rfl 3 (by decide) fl_22 (fun _ h9 => h9) rfl (by decide +kernel) rfl rfl (Nat.le_of_ble_eq_true rfl) dX2_begin_17 (fun H locs hP hD hS => ?_)
  have hP : va_P (dC, dI) vwCl [(h0, .inr (1, [.int p0, .int p1, .int (0 : Int32), .int (0 : Int32), .int σ.2.2.2.2.1, .int σ.2.2.2.2.2.1, .int σ.2.2.2.2.2.2.1, .int σ.2.2.2.2.2.2.2]))] H := hP
  have hD : va_D A [(h0, .inr (1, [.int p0, .int p1, .int (0 : Int32), .int (0 : Int32), .int σ.2.2.2.2.1, .int σ.2.2.2.2.2.1, .int σ.2.2.2.2.2.2.1, .int σ.2.2.2.2.2.2.2]))] := hD
  refine lv_aload_n hx hb dX2_begin_20 rfl (lv_at hl 0 rfl) ?_
  refine lv_iconst (v := (1 : Int32)) hx hb dX2_begin_21 (by decide) ?_
  refine va_put (D := (dC, dI)) (ci := 1) (v := .int (1 : Int32)) (ty := .int) (C := RX2) (T := TX2) (N := 8) hx hb hts hin0 tyX2 tyX2_ok nmX2 hown hK hP hD hS 0 rfl rfl 4 (by decide) fl_25 (fun _ h9 => h9) rfl (by decide +kernel) rfl rfl (Nat.le_of_ble_eq_true rfl) dX2_begin_22 (fun H locs hP hD hS => ?_)
  have hP : va_P (dC, dI) vwCl [(h0, .inr (1, [.int p0, .int p1, .int (0 : Int32), .int (0 : Int32), .int (1 : Int32), .int σ.2.2.2.2.2.1, .int σ.2.2.2.2.2.2.1, .int σ.2.2.2.2.2.2.2]))] H := hP
  have hD : va_D A [(h0, .inr (1, [.int p0, .int p1, .int (0 : Int32), .int (0 : Int32), .int (1 : Int32), .int σ.2.2.2.2.2.1, .int σ.2.2.2.2.2.2.1, .int σ.2.2.2.2.2.2.2]))] := hD
  refine lv_aload_n hx hb dX2_begin_25 rfl (lv_at hl 0 rfl) ?_
  refine lv_iconst (v := (0 : Int32)) hx hb dX2_begin_26 (by decide) ?_
  refine va_put (D := (dC, dI)) (ci := 1) (v := .int (0 : Int32)) (ty := .int) (C := RX2) (T := TX2) (N := 8) hx hb hts hin0 tyX2 tyX2_ok nmX2 hown hK hP hD hS 0 rfl rfl 5 (by decide) fl_28 (fun _ h9 => h9) rfl (by decide +kernel) rfl rfl (Nat.le_of_ble_eq_true rfl) dX2_begin_27 (fun H locs hP hD hS => ?_)
  have hP : va_P (dC, dI) vwCl [(h0, .inr (1, [.int p0, .int p1, .int (0 : Int32), .int (0 : Int32), .int (1 : Int32), .int (0 : Int32), .int σ.2.2.2.2.2.2.1, .int σ.2.2.2.2.2.2.2]))] H := hP
  have hD : va_D A [(h0, .inr (1, [.int p0, .int p1, .int (0 : Int32), .int (0 : Int32), .int (1 : Int32), .int (0 : Int32), .int σ.2.2.2.2.2.2.1, .int σ.2.2.2.2.2.2.2]))] := hD
  refine lv_aload_n hx hb dX2_begin_30 rfl (lv_at hl 0 rfl) ?_
  refine lv_iconst (v := (0 : Int32)) hx hb dX2_begin_31 (by decide) ?_
  refine va_put (D := (dC, dI)) (ci := 1) (v := .int (0 : Int32)) (ty := .int) (C := RX2) (T := TX2) (N := 8) hx hb hts hin0 tyX2 tyX2_ok nmX2 hown hK hP hD hS 0 rfl rfl 6 (by decide) fl_31 (fun _ h9 => h9) rfl (by decide +kernel) rfl rfl (Nat.le_of_ble_eq_true rfl) dX2_begin_32 (fun H locs hP hD hS => ?_)
  have hP : va_P (dC, dI) vwCl [(h0, .inr (1, [.int p0, .int p1, .int (0 : Int32), .int (0 : Int32), .int (1 : Int32), .int (0 : Int32), .int (0 : Int32), .int σ.2.2.2.2.2.2.2]))] H := hP
  have hD : va_D A [(h0, .inr (1, [.int p0, .int p1, .int (0 : Int32), .int (0 : Int32), .int (1 : Int32), .int (0 : Int32), .int (0 : Int32), .int σ.2.2.2.2.2.2.2]))] := hD
  refine lv_aload_n hx hb dX2_begin_35 rfl (lv_at hl 0 rfl) ?_
  refine lv_iconst (v := (0 : Int32)) hx hb dX2_begin_36 (by decide) ?_
  refine va_put (D := (dC, dI)) (ci := 1) (v := .int (0 : Int32)) (ty := .int) (C := RX2) (T := TX2) (N := 8) hx hb hts hin0 tyX2 tyX2_ok nmX2 hown hK hP hD hS 0 rfl rfl 7 (by decide) fl_34 (fun _ h9 => h9) rfl (by decide +kernel) rfl rfl (Nat.le_of_ble_eq_true rfl) dX2_begin_37 (fun H locs hP hD hS => ?_)
  have hP : va_P (dC, dI) vwCl [(h0, .inr (1, [.int p0, .int p1, .int (0 : Int32), .int (0 : Int32), .int (1 : Int32), .int (0 : Int32), .int (0 : Int32), .int (0 : Int32)]))] H := hP
  have hD : va_D A [(h0, .inr (1, [.int p0, .int p1, .int (0 : Int32), .int (0 : Int32), .int (1 : Int32), .int (0 : Int32), .int (0 : Int32), .int (0 : Int32)]))] := hD
  exact W.vret hx hb hr (fun t ht hW => ⟨⟨((cl2 h0 (p0, p1, (0 : Int32), (0 : Int32), (1 : Int32), (0 : Int32), (0 : Int32), (0 : Int32)))), rfl, ⟨(p0, p1, (0 : Int32), (0 : Int32), (1 : Int32), (0 : Int32), (0 : Int32), (0 : Int32)), hw, rfl⟩, by rw [ht]; exact hP, va_K.moved hW.alike hK, hD⟩, hS.F ht⟩) hS.2.2 dX2_begin_40
set_option maxHeartbeats 4000000 in
set_option maxRecDepth 100000 in
theorem c_X4_in (l : Launch) (dC : Nat → ClassId) (dI : Nat → Nat → Nat)   (p0 : Int64) (p1 : Int64) (p2 : Int64) (post : Int32 → Prop) (hw : wp_X4_in p0 p1 p2  post) : KI l yX4_in wsX4_in ({ frames := 0, cells := 0, slots := 0, locals := 0 } : Room) (dC, dI) [] [] [.long p0, .long p1, .long p2] (fun r u => post r ∧ u = []) := by
  intro sz
  refine Met.ofW (cc := cX4_in) (maxL := 6) (ret := (some .boolean)) (by decide) rfl ?_
  intro p e s m args below meth c s₁ B hml hv
  obtain ⟨rfl, hsz, hP, hK, hD0, hnw⟩ := hv
  have hx := B.exec
  have hb := B.bytes
  have hr := B.returns
  have hts := atoms_spec (ws := wsX4_in) B.pre
  have hown : s.vm.findClass RX4 = some m.cls := findClass_of_methodNamed B.named
  have hlocks := B.notSynchronized
  subst hsz
  have hD := hD0.self (sz := s.heap.size)
  generalize hAe : va_A [] s.heap.size = A at hD ⊢
  have hA : ∀ q : Nat, s.heap.size ≤ q → A q := fun q h => by rw [← hAe]; exact Or.inr h
  have hS : va_S A s.heap s.heap [] := va_S.rf
  have hP : va_P (dC, dI) vwCl [] s.heap := hP
  have hD : va_D A [] := hD
  have hl := lv_entry ([.long p0, .long p1, .long p2]) (n := 6) (Nat.le_of_ble_eq_true rfl)
  rw [lg_entry_eq]
  generalize (lg_sl ([.long p0, .long p1, .long p2]) ++ List.replicate (6 - (lg_sl ([.long p0, .long p1, .long p2])).length) Slot.unset).toArray = ls at hl ⊢
  have hl : lv_has ls 6 [(0, .long p0), (2, .long p1), (4, .long p2)] := hl
  unfold wp_X4_in at hw
  skip
  obtain ⟨H, hH⟩ : ∃ H, H = s.heap := ⟨_, rfl⟩
  obtain ⟨locs, hlo⟩ : ∃ q : List Loc, q = [] := ⟨_, rfl⟩
  rw [← hH] at hP
  have hS : va_S A s.heap H locs := by rw [hH, hlo]; exact hS
  suffices hgo : W p l e (headSpec wsX4_in ({ frames := 0, cells := 0, slots := 0, locals := 0 } : Room)).room s m _ below meth c H locs 0 0 _ (F0 m 0 ls []) by rw [hH, hlo] at hgo; exact hgo
  refine lv_lload_n hx hb dX4_in_0 rfl (lv_at hl 0 rfl) ?_
  refine lv_lload_n hx hb dX4_in_1 rfl (lv_at hl 1 rfl) ?_
  refine W.lcmp hx hb dX4_in_2 ?_
  refine lv_if_lt (tgt := 17) hx hb dX4_in_3 (by decide) (fun c1 => ?_) (fun c1 => ?_)
  · have hw := hw.1 (lgc_lt.mp c1)
    refine lv_iconst (v := (0 : Int32)) hx hb dX4_in_17 (by decide) ?_
    exact W.zret (v := (0 : Int32)) hx hb hr (nb_nar nb_0) (fun t ht hW => ⟨⟨(0 : Int32), ([] : va_W), rfl, ⟨hw, rfl⟩, by rw [ht]; exact hP, va_K.moved hW.alike hK, hD⟩, hS.F ht⟩) hS.2.2 dX4_in_18
  · have hw := hw.2 ((not_congr lgc_lt).mp c1)
    refine lv_lload_n hx hb dX4_in_6 rfl (lv_at hl 0 rfl) ?_
    refine lv_lload hx hb dX4_in_7 (lv_at hl 2 rfl) ?_
    refine W.lcmp hx hb dX4_in_9 ?_
    refine lv_if_gt (tgt := 17) hx hb dX4_in_10 (by decide) (fun c2 => ?_) (fun c2 => ?_)
    · have hw := hw.1 (lgc_gt.mp c2)
      refine lv_iconst (v := (0 : Int32)) hx hb dX4_in_17 (by decide) ?_
      exact W.zret (v := (0 : Int32)) hx hb hr (nb_nar nb_0) (fun t ht hW => ⟨⟨(0 : Int32), ([] : va_W), rfl, ⟨hw, rfl⟩, by rw [ht]; exact hP, va_K.moved hW.alike hK, hD⟩, hS.F ht⟩) hS.2.2 dX4_in_18
    · have hw := hw.2 ((not_congr lgc_gt).mp c2)
      refine lv_iconst (v := (1 : Int32)) hx hb dX4_in_13 (by decide) ?_
      refine lv_goto (tgt := 18) hx hb dX4_in_14 (by decide) ?_
      exact W.zret (v := (1 : Int32)) hx hb hr (nb_nar nb_1) (fun t ht hW => ⟨⟨(1 : Int32), ([] : va_W), rfl, ⟨hw, rfl⟩, by rw [ht]; exact hP, va_K.moved hW.alike hK, hD⟩, hS.F ht⟩) hS.2.2 dX4_in_18
set_option maxHeartbeats 4000000 in
set_option maxRecDepth 100000 in
theorem c_X4_isState (l : Launch) (dC : Nat → ClassId) (dI : Nat → Nat → Nat) (h0 w0 so be : Nat) (cJ : ClassId) (cI : ClassId) (σ : SM) (p0 : Int32) (post : Int32 → Prop) (hw : wp_X4_isState p0 σ post) : KI l yX4_isState wsX4_isState ({ frames := 1, cells := 0, slots := 0, locals := 25 } : Room) (dC, dI) [(cJ, .long), (cI, .int)] (cl4 h0 w0 so be cJ cI σ) [.ref h0, .int p0] (fun r u => post r ∧ u = (cl4 h0 w0 so be cJ cI σ)) := by
  intro sz
  refine Met.ofW (cc := cX4_isState) (maxL := 2) (ret := (some .boolean)) (by decide) rfl ?_
  intro p e s m args below meth c s₁ B hml hv
  obtain ⟨rfl, hsz, hP, hK, hD0, hnw⟩ := hv
  have hx := B.exec
  have hb := B.bytes
  have hr := B.returns
  have hts := atoms_spec (ws := wsX4_isState) B.pre
  have hown : s.vm.findClass RX4 = some m.cls := findClass_of_methodNamed B.named
  have hlocks := B.notSynchronized
  subst hsz
  have hD := hD0.self (sz := s.heap.size)
  generalize hAe : va_A (cl4 h0 w0 so be cJ cI σ) s.heap.size = A at hD ⊢
  have hA : ∀ q : Nat, s.heap.size ≤ q → A q := fun q h => by rw [← hAe]; exact Or.inr h
  have hS : va_S A s.heap s.heap [] := va_S.rf
  have hP : va_P (dC, dI) vwCl [(h0, .inr (3, [.int σ.1, .int σ.2.1, .int σ.2.2.1, .ref w0, .int σ.2.2.2.2.1, .int σ.2.2.2.2.2.1, .long σ.2.2.2.2.2.2.1, .ref so, .ref be, .int σ.2.2.2.2.2.2.2.2.2.1, .int σ.2.2.2.2.2.2.2.2.2.2.1, .int σ.2.2.2.2.2.2.2.2.2.2.2.1, .int σ.2.2.2.2.2.2.2.2.2.2.2.2])), (w0, .inl (cJ, 511, .inr (.inl (σ.2.2.2.1)))), (so, .inl (cI, 30, .inl (σ.2.2.2.2.2.2.2.1))), (be, .inl (cI, 30, .inl (σ.2.2.2.2.2.2.2.2.1)))] s.heap := hP
  have hD : va_D A [(h0, .inr (3, [.int σ.1, .int σ.2.1, .int σ.2.2.1, .ref w0, .int σ.2.2.2.2.1, .int σ.2.2.2.2.2.1, .long σ.2.2.2.2.2.2.1, .ref so, .ref be, .int σ.2.2.2.2.2.2.2.2.2.1, .int σ.2.2.2.2.2.2.2.2.2.2.1, .int σ.2.2.2.2.2.2.2.2.2.2.2.1, .int σ.2.2.2.2.2.2.2.2.2.2.2.2])), (w0, .inl (cJ, 511, .inr (.inl (σ.2.2.2.1)))), (so, .inl (cI, 30, .inl (σ.2.2.2.2.2.2.2.1))), (be, .inl (cI, 30, .inl (σ.2.2.2.2.2.2.2.2.1)))] := hD
  have fl_7 := hts (.fieldLink RX4 7 "OnePlaceEachModel" "n" "I") (by decide +kernel)
  have hin0 : ∀ w ∈ wsX40, w ∈ wsX4_isState := by decide +kernel
  have hl := lv_entry ([.ref h0, .int p0]) (n := 2) (Nat.le_of_ble_eq_true rfl)
  rw [lg_entry_eq]
  generalize (lg_sl ([.ref h0, .int p0]) ++ List.replicate (2 - (lg_sl ([.ref h0, .int p0])).length) Slot.unset).toArray = ls at hl ⊢
  have hl : lv_has ls 2 [(0, .ref h0), (1, .int p0)] := hl
  unfold wp_X4_isState at hw
  skip
  obtain ⟨H, hH⟩ : ∃ H, H = s.heap := ⟨_, rfl⟩
  obtain ⟨locs, hlo⟩ : ∃ q : List Loc, q = [] := ⟨_, rfl⟩
  rw [← hH] at hP
  have hS : va_S A s.heap H locs := by rw [hH, hlo]; exact hS
  suffices hgo : W p l e (headSpec wsX4_isState ({ frames := 1, cells := 0, slots := 0, locals := 25 } : Room)).room s m _ below meth c H locs 0 0 _ (F0 m 0 ls []) by rw [hH, hlo] at hgo; exact hgo
  refine lv_iload_n hx hb dX4_isState_0 rfl (lv_at hl 1 rfl) ?_
  refine lv_i2l hx hb dX4_isState_1 rfl ?_
  refine lv_lconst (v := (0 : Int64)) hx hb dX4_isState_2 (by decide) ?_
  refine lv_iconst (v := (1 : Int32)) hx hb dX4_isState_3 (by decide) ?_
  refine lv_aload_n hx hb dX4_isState_4 rfl (lv_at hl 0 rfl) ?_
  refine va_get (D := (dC, dI)) (ci := 3) (v := .int σ.1) (C := RX4) (T := TX4) (N := 13) hx hb hts hin0 hown hK hP 0 rfl rfl 0 (by decide) fl_7 (fun _ h9 => h9) rfl dX4_isState_5 ?_
  refine lv_ishl hx hb dX4_isState_8 ?_
  refine lv_iconst (v := (1 : Int32)) hx hb dX4_isState_9 (by decide) ?_
  refine lv_isub hx hb dX4_isState_10 ?_
  refine lv_i2l hx hb dX4_isState_11 rfl ?_
  have hPc := hP.sub (ws' := ([] : va_W)) [] rfl
  have hDc := hD.sub (ws' := ([] : va_W)) [] (by decide) rfl
  have hKc := hK.sub (tys' := []) [] rfl
  have hFc := va_free (wc := ([] : va_W)) hD hS hA [] rfl
  refine kc_i (wr := [(h0, .inr (3, [.int σ.1, .int σ.2.1, .int σ.2.2.1, .ref w0, .int σ.2.2.2.2.1, .int σ.2.2.2.2.2.1, .long σ.2.2.2.2.2.2.1, .ref so, .ref be, .int σ.2.2.2.2.2.2.2.2.2.1, .int σ.2.2.2.2.2.2.2.2.2.2.1, .int σ.2.2.2.2.2.2.2.2.2.2.2.1, .int σ.2.2.2.2.2.2.2.2.2.2.2.2])), (w0, .inl (cJ, 511, .inr (.inl (σ.2.2.2.1)))), (so, .inl (cI, 30, .inl (σ.2.2.2.2.2.2.2.1))), (be, .inl (cI, 30, .inl (σ.2.2.2.2.2.2.2.2.1)))]) (kr_S (As := [.long (p0.toInt64), .long (0 : Int64), .long ((((1 : Int32) <<< (σ.1 &&& (31 : Int32))) - (1 : Int32)).toInt64)]) (rest := []) (ws := [(h0, .inr (3, [.int σ.1, .int σ.2.1, .int σ.2.2.1, .ref w0, .int σ.2.2.2.2.1, .int σ.2.2.2.2.2.1, .long σ.2.2.2.2.2.2.1, .ref so, .ref be, .int σ.2.2.2.2.2.2.2.2.2.1, .int σ.2.2.2.2.2.2.2.2.2.2.1, .int σ.2.2.2.2.2.2.2.2.2.2.2.1, .int σ.2.2.2.2.2.2.2.2.2.2.2.2])), (w0, .inl (cJ, 511, .inr (.inl (σ.2.2.2.1)))), (so, .inl (cI, 30, .inl (σ.2.2.2.2.2.2.2.1))), (be, .inl (cI, 30, .inl (σ.2.2.2.2.2.2.2.2.1)))]) ⟨hx, hb, hml, hown, hts⟩ (c_X4_in l dC dI   (p0.toInt64) (0 : Int64) ((((1 : Int32) <<< (σ.1 &&& (31 : Int32))) - (1 : Int32)).toInt64) _ hw H.size) (va_cwS 3 hts gX4_isState_X4_in rfl rfl rfl (by decide +kernel) ⟨Nat.le_of_ble_eq_true rfl, Nat.le_of_ble_eq_true rfl⟩) hKc hnw hP hD hPc hDc rfl hl.1 rfl (Nat.le_of_ble_eq_true rfl) dX4_isState_12 ⟨Nat.zero_le _, Nat.zero_le _⟩) hP hD hS hFc [] [0, 1, 2, 3] rfl rfl (by decide) (by decide) (fun r1 u1 H locs hq hP hD hS => ?_)
  obtain ⟨hw, rfl⟩ := hq
  have hP : va_P (dC, dI) vwCl [(h0, .inr (3, [.int σ.1, .int σ.2.1, .int σ.2.2.1, .ref w0, .int σ.2.2.2.2.1, .int σ.2.2.2.2.2.1, .long σ.2.2.2.2.2.2.1, .ref so, .ref be, .int σ.2.2.2.2.2.2.2.2.2.1, .int σ.2.2.2.2.2.2.2.2.2.2.1, .int σ.2.2.2.2.2.2.2.2.2.2.2.1, .int σ.2.2.2.2.2.2.2.2.2.2.2.2])), (w0, .inl (cJ, 511, .inr (.inl (σ.2.2.2.1)))), (so, .inl (cI, 30, .inl (σ.2.2.2.2.2.2.2.1))), (be, .inl (cI, 30, .inl (σ.2.2.2.2.2.2.2.2.1)))] H := hP
  have hD : va_D A [(h0, .inr (3, [.int σ.1, .int σ.2.1, .int σ.2.2.1, .ref w0, .int σ.2.2.2.2.1, .int σ.2.2.2.2.2.1, .long σ.2.2.2.2.2.2.1, .ref so, .ref be, .int σ.2.2.2.2.2.2.2.2.2.1, .int σ.2.2.2.2.2.2.2.2.2.2.1, .int σ.2.2.2.2.2.2.2.2.2.2.2.1, .int σ.2.2.2.2.2.2.2.2.2.2.2.2])), (w0, .inl (cJ, 511, .inr (.inl (σ.2.2.2.1)))), (so, .inl (cI, 30, .inl (σ.2.2.2.2.2.2.2.1))), (be, .inl (cI, 30, .inl (σ.2.2.2.2.2.2.2.2.1)))] := hD
  have z3 := hw.1
  have hw := hw.2
  exact W.zret (v := r1) hx hb hr (nb_nar z3) (fun t ht hW => ⟨⟨r1, ((cl4 h0 w0 so be cJ cI σ)), rfl, ⟨hw, rfl⟩, by rw [ht]; exact hP, va_K.moved hW.alike hK, hD⟩, hS.F ht⟩) hS.2.2 dX4_isState_15
