set_option maxHeartbeats 4000000 in
set_option maxRecDepth 100000 in
theorem c_X3_isTaken (l : Launch) (dC : Nat → ClassId) (dI : Nat → Nat → Nat)   (p0 : Int32) (p1 : Int32) (post : Int32 → Prop) (hw : wp_X3_isTaken p0 p1  post) : KI l yX3_isTaken wsX3_isTaken ({ frames := 0, cells := 0, slots := 0, locals := 0 } : Room) (dC, dI) [] [] [.int p0, .int p1] (fun r u => post r ∧ u = []) := by
  intro sz
  refine Met.ofW (cc := cX3_isTaken) (maxL := 2) (ret := (some .boolean)) (by decide) rfl ?_
  intro p e s m args below meth c s₁ B hml hv
  obtain ⟨rfl, hsz, hP, hK, hD0, hnw⟩ := hv
  have hx := B.exec
  have hb := B.bytes
  have hr := B.returns
  have hts := atoms_spec (ws := wsX3_isTaken) B.pre
  have hown : s.vm.findClass RX3 = some m.cls := findClass_of_methodNamed B.named
  have hlocks := B.notSynchronized
  subst hsz
  have hD := hD0.self (sz := s.heap.size)
  generalize hAe : va_A [] s.heap.size = A at hD ⊢
  have hA : ∀ q : Nat, s.heap.size ≤ q → A q := fun q h => by rw [← hAe]; exact Or.inr h
  have hS : va_S A s.heap s.heap [] := va_S.rf
  have hP : va_P (dC, dI) vwCl [] s.heap := hP
  have hD : va_D A [] := hD
  have hl := lv_entry ([.int p0, .int p1]) (n := 2) (Nat.le_of_ble_eq_true rfl)
  rw [lg_entry_eq]
  generalize (lg_sl ([.int p0, .int p1]) ++ List.replicate (2 - (lg_sl ([.int p0, .int p1])).length) Slot.unset).toArray = ls at hl ⊢
  have hl : lv_has ls 2 [(0, .int p0), (1, .int p1)] := hl
  unfold wp_X3_isTaken at hw
  skip
  obtain ⟨H, hH⟩ : ∃ H, H = s.heap := ⟨_, rfl⟩
  obtain ⟨locs, hlo⟩ : ∃ q : List Loc, q = [] := ⟨_, rfl⟩
  rw [← hH] at hP
  have hS : va_S A s.heap H locs := by rw [hH, hlo]; exact hS
  suffices hgo : W p l e (headSpec wsX3_isTaken ({ frames := 0, cells := 0, slots := 0, locals := 0 } : Room)).room s m _ below meth c H locs 0 0 _ (F0 m 0 ls []) by rw [hH, hlo] at hgo; exact hgo
  refine lv_iload_n hx hb dX3_isTaken_0 rfl (lv_at hl 0 rfl) ?_
  refine lv_iload_n hx hb dX3_isTaken_1 rfl (lv_at hl 1 rfl) ?_
  refine lv_ishr hx hb dX3_isTaken_2 ?_
  refine lv_iconst (v := (1 : Int32)) hx hb dX3_isTaken_3 (by decide) ?_
  refine lv_iand hx hb dX3_isTaken_4 ?_
  refine lv_iconst (v := (1 : Int32)) hx hb dX3_isTaken_5 (by decide) ?_
  refine lv_icmp_ne (tgt := 13) hx hb dX3_isTaken_6 (by decide) (fun c1 => ?_) (fun c1 => ?_)
  · have hw := hw.1 c1
    refine lv_iconst (v := (0 : Int32)) hx hb dX3_isTaken_13 (by decide) ?_
    exact W.zret (v := (0 : Int32)) hx hb hr (nb_nar nb_0) (fun t ht hW => ⟨⟨(0 : Int32), ([] : va_W), rfl, ⟨hw, rfl⟩, by rw [ht]; exact hP, va_K.moved hW.alike hK, hD⟩, hS.F ht⟩) hS.2.2 dX3_isTaken_14
  · have hw := hw.2 c1
    refine lv_iconst (v := (1 : Int32)) hx hb dX3_isTaken_9 (by decide) ?_
    refine lv_goto (tgt := 14) hx hb dX3_isTaken_10 (by decide) ?_
    exact W.zret (v := (1 : Int32)) hx hb hr (nb_nar nb_1) (fun t ht hW => ⟨⟨(1 : Int32), ([] : va_W), rfl, ⟨hw, rfl⟩, by rw [ht]; exact hP, va_K.moved hW.alike hK, hD⟩, hS.F ht⟩) hS.2.2 dX3_isTaken_14
set_option maxHeartbeats 4000000 in
set_option maxRecDepth 100000 in
theorem c_X0_weightOfWord (l : Launch) (dC : Nat → ClassId) (dI : Nat → Nat → Nat) (h0 w0 w1 : Nat) (cJ : ClassId) (σ : SC) (p0 : Int32) (p1 : Int32) (post : Int64 → Prop) (hw : wp_X0_weightOfWord p0 p1 σ post) : KL l yX0_weightOfWord wsX0_weightOfWord ({ frames := 0, cells := 0, slots := 0, locals := 0 } : Room) (dC, dI) [(cJ, .long)] (cl0 h0 w0 w1 cJ σ) [.ref h0, .int p0, .int p1] (fun r u => post r ∧ u = (cl0 h0 w0 w1 cJ σ)) := by
  intro sz
  refine Met.ofW (cc := cX0_weightOfWord) (maxL := 4) (ret := (some .long)) (by decide) rfl ?_
  intro p e s m args below meth c s₁ B hml hv
  obtain ⟨rfl, hsz, hP, hK, hD0, hnw⟩ := hv
  have hx := B.exec
  have hb := B.bytes
  have hr := B.returns
  have hts := atoms_spec (ws := wsX0_weightOfWord) B.pre
  have hown : s.vm.findClass RX0 = some m.cls := findClass_of_methodNamed B.named
  have hlocks := B.notSynchronized
  subst hsz
  have hD := hD0.self (sz := s.heap.size)
  generalize hAe : va_A (cl0 h0 w0 w1 cJ σ) s.heap.size = A at hD ⊢
  have hA : ∀ q : Nat, s.heap.size ≤ q → A q := fun q h => by rw [← hAe]; exact Or.inr h
  have hS : va_S A s.heap s.heap [] := va_S.rf
  have hP : va_P (dC, dI) vwCl [(h0, .inr (0, [.ref w0, .ref w1, .int σ.1, .int σ.2.1, .int σ.2.2.1])), (w0, .inl (cJ, 512, .inr (.inl (σ.2.2.2.1)))), (w1, .inl (cJ, 9, .inr (.inl (σ.2.2.2.2))))] s.heap := hP
  have hD : va_D A [(h0, .inr (0, [.ref w0, .ref w1, .int σ.1, .int σ.2.1, .int σ.2.2.1])), (w0, .inl (cJ, 512, .inr (.inl (σ.2.2.2.1)))), (w1, .inl (cJ, 9, .inr (.inl (σ.2.2.2.2))))] := hD
  have fl_9 := hts (.fieldLink RX0 9 "OnePlaceEach$Chain" "weights" "[J") (by decide +kernel)
  have hin0 : ∀ w ∈ wsX00, w ∈ wsX0_weightOfWord := by decide +kernel
  have hl := lv_entry ([.ref h0, .int p0, .int p1]) (n := 4) (Nat.le_of_ble_eq_true rfl)
  rw [lg_entry_eq]
  generalize (lg_sl ([.ref h0, .int p0, .int p1]) ++ List.replicate (4 - (lg_sl ([.ref h0, .int p0, .int p1])).length) Slot.unset).toArray = ls at hl ⊢
  have hl : lv_has ls 4 [(0, .ref h0), (1, .int p0), (2, .int p1)] := hl
  unfold wp_X0_weightOfWord at hw
  skip
  obtain ⟨H, hH⟩ : ∃ H, H = s.heap := ⟨_, rfl⟩
  obtain ⟨locs, hlo⟩ : ∃ q : List Loc, q = [] := ⟨_, rfl⟩
  rw [← hH] at hP
  have hS : va_S A s.heap H locs := by rw [hH, hlo]; exact hS
  suffices hgo : W p l e (headSpec wsX0_weightOfWord ({ frames := 0, cells := 0, slots := 0, locals := 0 } : Room)).room s m _ below meth c H locs 0 0 _ (F0 m 0 ls []) by rw [hH, hlo] at hgo; exact hgo
  refine lv_iconst (v := (1 : Int32)) hx hb dX0_weightOfWord_0 (by decide) ?_
  refine lv_iload_n hx hb dX0_weightOfWord_1 rfl (lv_at hl 1 rfl) ?_
  refine lv_ishl hx hb dX0_weightOfWord_2 ?_
  refine lv_iload_n hx hb dX0_weightOfWord_3 rfl (lv_at hl 2 rfl) ?_
  refine lv_iadd hx hb dX0_weightOfWord_4 ?_
  refine lv_istore_n (lv' := [(3, .int (((1 : Int32) <<< (p0 &&& (31 : Int32))) + p1)), (0, .ref h0), (1, .int p0), (2, .int p1)]) hx hb dX0_weightOfWord_5 rfl hl (by decide) rfl (fun ls hl => ?_)
  refine lv_iload_n hx hb dX0_weightOfWord_6 rfl (lv_at hl 0 rfl) ?_
  refine lv_if_lt (tgt := 28) hx hb dX0_weightOfWord_7 (by decide) (fun c1 => ?_) (fun c1 => ?_)
  · have hw := hw.1 c1
    refine lv_lconst (v := (0 : Int64)) hx hb dX0_weightOfWord_28 (by decide) ?_
    exact W.lret (v := (0 : Int64)) hx hb hr (fun t ht hW => ⟨⟨(0 : Int64), ((cl0 h0 w0 w1 cJ σ)), rfl, ⟨hw, rfl⟩, by rw [ht]; exact hP, va_K.moved hW.alike hK, hD⟩, hS.F ht⟩) hS.2.2 dX0_weightOfWord_29
  · have hw := hw.2 c1
    refine lv_iload_n hx hb dX0_weightOfWord_10 rfl (lv_at hl 0 rfl) ?_
    refine lv_aload_n hx hb dX0_weightOfWord_11 rfl (lv_at hl 1 rfl) ?_
    refine va_get (D := (dC, dI)) (ci := 0) (v := .ref w0) (C := RX0) (T := TX0) (N := 5) hx hb hts hin0 hown hK hP 0 rfl rfl 0 (by decide) fl_9 (fun _ h9 => h9) rfl dX0_weightOfWord_12 ?_
    refine va_alen (v := (512 : Int32)) hx hb hK hP 1 0 rfl rfl rfl dX0_weightOfWord_15 ?_
    refine lv_icmp_ge (tgt := 28) hx hb dX0_weightOfWord_16 (by decide) (fun c2 => ?_) (fun c2 => ?_)
    · have hw := hw.1 c2
      refine lv_lconst (v := (0 : Int64)) hx hb dX0_weightOfWord_28 (by decide) ?_
      exact W.lret (v := (0 : Int64)) hx hb hr (fun t ht hW => ⟨⟨(0 : Int64), ((cl0 h0 w0 w1 cJ σ)), rfl, ⟨hw, rfl⟩, by rw [ht]; exact hP, va_K.moved hW.alike hK, hD⟩, hS.F ht⟩) hS.2.2 dX0_weightOfWord_29
    · have hw := hw.2 c2
      refine lv_aload_n hx hb dX0_weightOfWord_19 rfl (lv_at hl 1 rfl) ?_
      refine va_get (D := (dC, dI)) (ci := 0) (v := .ref w0) (C := RX0) (T := TX0) (N := 5) hx hb hts hin0 hown hK hP 0 rfl rfl 0 (by decide) fl_9 (fun _ h9 => h9) rfl dX0_weightOfWord_20 ?_
      refine lv_iload_n hx hb dX0_weightOfWord_23 rfl (lv_at hl 0 rfl) ?_
      have z3 := hw.1
      have hw := hw.2
      refine va_lald hx hb hK hP 1 0 rfl rfl z3 dX0_weightOfWord_24 ?_
      refine lv_goto (tgt := 29) hx hb dX0_weightOfWord_25 (by decide) ?_
      exact W.lret (v := (σ.2.2.2.1 (((1 : Int32) <<< (p0 &&& (31 : Int32))) + p1).toNatClampNeg)) hx hb hr (fun t ht hW => ⟨⟨(σ.2.2.2.1 (((1 : Int32) <<< (p0 &&& (31 : Int32))) + p1).toNatClampNeg), ((cl0 h0 w0 w1 cJ σ)), rfl, ⟨hw, rfl⟩, by rw [ht]; exact hP, va_K.moved hW.alike hK, hD⟩, hS.F ht⟩) hS.2.2 dX0_weightOfWord_29
set_option maxHeartbeats 4000000 in
set_option maxRecDepth 100000 in
theorem c_X0_lastOfLeadingTaken (l : Launch) (dC : Nat → ClassId) (dI : Nat → Nat → Nat)   (p0 : Int32) (p1 : Int32) (post : Int32 → Prop) (hw : wp_X0_lastOfLeadingTaken p0 p1  post) : KI l yX0_lastOfLeadingTaken wsX0_lastOfLeadingTaken ({ frames := 1, cells := 0, slots := 0, locals := 21 } : Room) (dC, dI) [] [] [.int p0, .int p1] (fun r u => post r ∧ u = []) := by
  intro sz
  refine Met.ofW (cc := cX0_lastOfLeadingTaken) (maxL := 3) (ret := (some .int)) (by decide) rfl ?_
  intro p e s m args below meth c s₁ B hml hv
  obtain ⟨rfl, hsz, hP, hK, hD0, hnw⟩ := hv
  have hx := B.exec
  have hb := B.bytes
  have hr := B.returns
  have hts := atoms_spec (ws := wsX0_lastOfLeadingTaken) B.pre
  have hown : s.vm.findClass RX0 = some m.cls := findClass_of_methodNamed B.named
  have hlocks := B.notSynchronized
  subst hsz
  have hD := hD0.self (sz := s.heap.size)
  generalize hAe : va_A [] s.heap.size = A at hD ⊢
  have hA : ∀ q : Nat, s.heap.size ≤ q → A q := fun q h => by rw [← hAe]; exact Or.inr h
  have hS : va_S A s.heap s.heap [] := va_S.rf
  have hP : va_P (dC, dI) vwCl [] s.heap := hP
  have hD : va_D A [] := hD
  have L2 : ∀ (x0 : Int32) (x1 : Int32)  (n : Nat) (x2 : Int32)  (k : Int32 → Prop), wl_X0_lastOfLeadingTaken_2 x0 x1  n x2 k →
      (∀ (x2 : Int32) , k x2 → ∀ (H : Heap) (locs : List Loc) (ls : Array Slot), va_P (dC, dI) vwCl [] H → va_D A [] → va_S A s.heap H locs → lv_has ls 3 [(2, .int x2), (0, .int x0), (1, .int x1)] → W p l e (headSpec wsX0_lastOfLeadingTaken ({ frames := 1, cells := 0, slots := 0, locals := 21 } : Room)).room s m ([.int p0, .int p1] : List Value).toArray below meth c H locs 0 0 (MQ below (va_Qi (fun r u => post r ∧ u = []) (kB (dC, dI) [] A) A) ([.int p0, .int p1] : List Value).toArray s 0 0 A) (F0 m 25 ls [])) →
      ∀ (H : Heap) (locs : List Loc) (ls : Array Slot), va_P (dC, dI) vwCl [] H → va_D A [] → va_S A s.heap H locs → lv_has ls 3 [(2, .int x2), (0, .int x0), (1, .int x1)] → W p l e (headSpec wsX0_lastOfLeadingTaken ({ frames := 1, cells := 0, slots := 0, locals := 21 } : Room)).room s m ([.int p0, .int p1] : List Value).toArray below meth c H locs 0 0 (MQ below (va_Qi (fun r u => post r ∧ u = []) (kB (dC, dI) [] A) A) ([.int p0, .int p1] : List Value).toArray s 0 0 A) (F0 m 2 ls []) := by
    intro x0 x1 n
    induction n with
    | zero => intro x2 k hw; exact absurd hw id
    | succ n ih =>
      intro x2 k hw hk H locs ls hP hD hS hl
      unfold wl_X0_lastOfLeadingTaken_2 at hw
      refine lv_iload_n hx hb dX0_lastOfLeadingTaken_2 rfl (lv_at hl 0 rfl) ?_
      refine lv_iload_n hx hb dX0_lastOfLeadingTaken_3 rfl (lv_at hl 1 rfl) ?_
      refine lv_iconst (v := (1 : Int32)) hx hb dX0_lastOfLeadingTaken_4 (by decide) ?_
      refine lv_isub hx hb dX0_lastOfLeadingTaken_5 ?_
      refine lv_icmp_ge (tgt := 25) hx hb dX0_lastOfLeadingTaken_6 (by decide) (fun c1 => ?_) (fun c1 => ?_)
      · have hw := hw.1 c1
        exact hk x2 hw H locs ls hP hD hS (lv_sub hl [0, 1, 2] rfl)
      · have hw := hw.2 c1
        refine lv_iload_n hx hb dX0_lastOfLeadingTaken_9 rfl (lv_at hl 2 rfl) ?_
        refine lv_iload_n hx hb dX0_lastOfLeadingTaken_10 rfl (lv_at hl 0 rfl) ?_
        refine lv_iconst (v := (1 : Int32)) hx hb dX0_lastOfLeadingTaken_11 (by decide) ?_
        refine lv_iadd hx hb dX0_lastOfLeadingTaken_12 ?_
        have hPc := hP.sub (ws' := ([] : va_W)) [] rfl
        have hDc := hD.sub (ws' := ([] : va_W)) [] (by decide) rfl
        have hKc := hK.sub (tys' := []) [] rfl
        have hFc := va_free (wc := ([] : va_W)) hD hS hA [] rfl
        refine kc_i (wr := ([] : va_W)) (kr_N (As := [.int x1, .int (x2 + (1 : Int32))]) (rest := []) (ws := []) ⟨hx, hb, hml, hown, hts⟩ (c_X3_isTaken l dC dI   x1 (x2 + (1 : Int32)) _ hw H.size) ⟨va_cnB 2 hts gX0_lastOfLeadingTaken_X3_isTaken_n47 rfl rfl rfl hnw.1 (hts (.initialized RX3) (by decide +kernel)) (by decide +kernel) ⟨Nat.le_of_ble_eq_true rfl, Nat.le_of_ble_eq_true rfl⟩, hts (.static yX3_isTaken) (by decide +kernel), trivial⟩ hKc hnw hP hD hPc hDc rfl hl.1 rfl (Nat.le_of_ble_eq_true rfl) dX0_lastOfLeadingTaken_13 ⟨Nat.zero_le _, Nat.zero_le _⟩) hP hD hS hFc [] [] rfl rfl (by decide) (by decide) (fun r2 u1 H locs hq hP hD hS => ?_)
        obtain ⟨hw, rfl⟩ := hq
        have hP : va_P (dC, dI) vwCl [] H := hP
        have hD : va_D A [] := hD
        refine lv_if_eq (tgt := 25) hx hb dX0_lastOfLeadingTaken_16 (by decide) (fun c4 => ?_) (fun c4 => ?_)
        · have hw := hw.1 c4
          exact hk x2 hw H locs ls hP hD hS (lv_sub hl [0, 1, 2] rfl)
        · have hw := hw.2 c4
          refine lv_iinc (v := (x2 + (1 : Int32))) (lv' := [(2, .int (x2 + (1 : Int32))), (0, .int x0), (1, .int x1)]) hx hb dX0_lastOfLeadingTaken_19 hl (k := 0) rfl rfl (by decide) rfl (fun ls hl => ?_)
          refine lv_goto (tgt := 2) hx hb dX0_lastOfLeadingTaken_22 (by decide) ?_
          exact ih (x2 + (1 : Int32)) _ hw hk H locs ls hP hD hS (lv_sub hl [0, 1, 2] rfl)
  have hl := lv_entry ([.int p0, .int p1]) (n := 3) (Nat.le_of_ble_eq_true rfl)
  rw [lg_entry_eq]
  generalize (lg_sl ([.int p0, .int p1]) ++ List.replicate (3 - (lg_sl ([.int p0, .int p1])).length) Slot.unset).toArray = ls at hl ⊢
  have hl : lv_has ls 3 [(0, .int p0), (1, .int p1)] := hl
  unfold wp_X0_lastOfLeadingTaken at hw
  skip
  obtain ⟨H, hH⟩ : ∃ H, H = s.heap := ⟨_, rfl⟩
  obtain ⟨locs, hlo⟩ : ∃ q : List Loc, q = [] := ⟨_, rfl⟩
  rw [← hH] at hP
  have hS : va_S A s.heap H locs := by rw [hH, hlo]; exact hS
  suffices hgo : W p l e (headSpec wsX0_lastOfLeadingTaken ({ frames := 1, cells := 0, slots := 0, locals := 21 } : Room)).room s m _ below meth c H locs 0 0 _ (F0 m 0 ls []) by rw [hH, hlo] at hgo; exact hgo
  refine lv_iconst (v := (0 : Int32)) hx hb dX0_lastOfLeadingTaken_0 (by decide) ?_
  refine lv_istore_n (lv' := [(2, .int (0 : Int32)), (0, .int p0), (1, .int p1)]) hx hb dX0_lastOfLeadingTaken_1 rfl hl (by decide) rfl (fun ls hl => ?_)
  refine L2 p0 p1 (20000) (0 : Int32) _ hw (fun x2_5 hw H locs ls hP hD hS hl => ?_) H locs ls hP hD hS (lv_sub hl [0, 1, 2] rfl)
  refine lv_iload_n hx hb dX0_lastOfLeadingTaken_25 rfl (lv_at hl 0 rfl) ?_
  exact W.iret (v := x2_5) hx hb hr (fun t ht hW => ⟨⟨x2_5, ([] : va_W), rfl, ⟨hw, rfl⟩, by rw [ht]; exact hP, va_K.moved hW.alike hK, hD⟩, hS.F ht⟩) hS.2.2 dX0_lastOfLeadingTaken_26
set_option maxHeartbeats 4000000 in
set_option maxRecDepth 100000 in
theorem c_X0_weigh (l : Launch) (dC : Nat → ClassId) (dI : Nat → Nat → Nat) (h0 w0 w1 : Nat) (cJ : ClassId) (σ : SC) (p0 : Int32) (p1 : Int32) (post : Int64 → Prop) (hw : wp_X0_weigh p0 p1 σ post) : KL l yX0_weigh wsX0_weigh ({ frames := 2, cells := 0, slots := 0, locals := 43 } : Room) (dC, dI) [(cJ, .long)] (cl0 h0 w0 w1 cJ σ) [.ref h0, .int p0, .int p1] (fun r u => post r ∧ u = (cl0 h0 w0 w1 cJ σ)) := by
  intro sz
  refine Met.ofW (cc := cX0_weigh) (maxL := 6) (ret := (some .long)) (by decide) rfl ?_
  intro p e s m args below meth c s₁ B hml hv
  obtain ⟨rfl, hsz, hP, hK, hD0, hnw⟩ := hv
  have hx := B.exec
  have hb := B.bytes
  have hr := B.returns
  have hts := atoms_spec (ws := wsX0_weigh) B.pre
  have hown : s.vm.findClass RX0 = some m.cls := findClass_of_methodNamed B.named
  have hlocks := B.notSynchronized
  subst hsz
  have hD := hD0.self (sz := s.heap.size)
  generalize hAe : va_A (cl0 h0 w0 w1 cJ σ) s.heap.size = A at hD ⊢
  have hA : ∀ q : Nat, s.heap.size ≤ q → A q := fun q h => by rw [← hAe]; exact Or.inr h
  have hS : va_S A s.heap s.heap [] := va_S.rf
  have hP : va_P (dC, dI) vwCl [(h0, .inr (0, [.ref w0, .ref w1, .int σ.1, .int σ.2.1, .int σ.2.2.1])), (w0, .inl (cJ, 512, .inr (.inl (σ.2.2.2.1)))), (w1, .inl (cJ, 9, .inr (.inl (σ.2.2.2.2))))] s.heap := hP
  have hD : va_D A [(h0, .inr (0, [.ref w0, .ref w1, .int σ.1, .int σ.2.1, .int σ.2.2.1])), (w0, .inl (cJ, 512, .inr (.inl (σ.2.2.2.1)))), (w1, .inl (cJ, 9, .inr (.inl (σ.2.2.2.2))))] := hD
  have fl_26 := hts (.fieldLink RX0 26 "OnePlaceEach$Chain" "x" "I") (by decide +kernel)
  have fl_29 := hts (.fieldLink RX0 29 "OnePlaceEach$Chain" "y" "I") (by decide +kernel)
  have hin0 : ∀ w ∈ wsX00, w ∈ wsX0_weigh := by decide +kernel
  have hl := lv_entry ([.ref h0, .int p0, .int p1]) (n := 6) (Nat.le_of_ble_eq_true rfl)
  rw [lg_entry_eq]
  generalize (lg_sl ([.ref h0, .int p0, .int p1]) ++ List.replicate (6 - (lg_sl ([.ref h0, .int p0, .int p1])).length) Slot.unset).toArray = ls at hl ⊢
  have hl : lv_has ls 6 [(0, .ref h0), (1, .int p0), (2, .int p1)] := hl
  unfold wp_X0_weigh at hw
  skip
  obtain ⟨H, hH⟩ : ∃ H, H = s.heap := ⟨_, rfl⟩
  obtain ⟨locs, hlo⟩ : ∃ q : List Loc, q = [] := ⟨_, rfl⟩
  rw [← hH] at hP
  have hS : va_S A s.heap H locs := by rw [hH, hlo]; exact hS
  suffices hgo : W p l e (headSpec wsX0_weigh ({ frames := 2, cells := 0, slots := 0, locals := 43 } : Room)).room s m _ below meth c H locs 0 0 _ (F0 m 0 ls []) by rw [hH, hlo] at hgo; exact hgo
  refine lv_iload_n hx hb dX0_weigh_0 rfl (lv_at hl 2 rfl) ?_
  refine lv_iconst (v := (0 : Int32)) hx hb dX0_weigh_1 (by decide) ?_
  have hPc := hP.sub (ws' := ([] : va_W)) [] rfl
  have hDc := hD.sub (ws' := ([] : va_W)) [] (by decide) rfl
  have hKc := hK.sub (tys' := []) [] rfl
  have hFc := va_free (wc := ([] : va_W)) hD hS hA [] rfl
  refine kc_i (wr := [(h0, .inr (0, [.ref w0, .ref w1, .int σ.1, .int σ.2.1, .int σ.2.2.1])), (w0, .inl (cJ, 512, .inr (.inl (σ.2.2.2.1)))), (w1, .inl (cJ, 9, .inr (.inl (σ.2.2.2.2))))]) (kr_N (As := [.int p1, .int (0 : Int32)]) (rest := []) (ws := [(h0, .inr (0, [.ref w0, .ref w1, .int σ.1, .int σ.2.1, .int σ.2.2.1])), (w0, .inl (cJ, 512, .inr (.inl (σ.2.2.2.1)))), (w1, .inl (cJ, 9, .inr (.inl (σ.2.2.2.2))))]) ⟨hx, hb, hml, hown, hts⟩ (c_X3_isTaken l dC dI   p1 (0 : Int32) _ hw H.size) ⟨va_cnB 2 hts gX0_weigh_X3_isTaken_n47 rfl rfl rfl hnw.1 (hts (.initialized RX3) (by decide +kernel)) (by decide +kernel) ⟨Nat.le_of_ble_eq_true rfl, Nat.le_of_ble_eq_true rfl⟩, hts (.static yX3_isTaken) (by decide +kernel), trivial⟩ hKc hnw hP hD hPc hDc rfl hl.1 rfl (Nat.le_of_ble_eq_true rfl) dX0_weigh_2 ⟨Nat.zero_le _, Nat.zero_le _⟩) hP hD hS hFc [] [0, 1, 2] rfl rfl (by decide) (by decide) (fun r1 u1 H locs hq hP hD hS => ?_)
  obtain ⟨hw, rfl⟩ := hq
  have hP : va_P (dC, dI) vwCl [(h0, .inr (0, [.ref w0, .ref w1, .int σ.1, .int σ.2.1, .int σ.2.2.1])), (w0, .inl (cJ, 512, .inr (.inl (σ.2.2.2.1)))), (w1, .inl (cJ, 9, .inr (.inl (σ.2.2.2.2))))] H := hP
  have hD : va_D A [(h0, .inr (0, [.ref w0, .ref w1, .int σ.1, .int σ.2.1, .int σ.2.2.1])), (w0, .inl (cJ, 512, .inr (.inl (σ.2.2.2.1)))), (w1, .inl (cJ, 9, .inr (.inl (σ.2.2.2.2))))] := hD
  refine lv_if_ne (tgt := 25) hx hb dX0_weigh_5 (by decide) (fun c3 => ?_) (fun c3 => ?_)
  · have hw := hw.1 c3
    refine lv_iload_n hx hb dX0_weigh_25 rfl (lv_at hl 2 rfl) ?_
    refine lv_iload_n hx hb dX0_weigh_26 rfl (lv_at hl 1 rfl) ?_
    refine lv_iconst (v := (1 : Int32)) hx hb dX0_weigh_27 (by decide) ?_
    refine lv_isub hx hb dX0_weigh_28 ?_
    have hPc := hP.sub (ws' := ([] : va_W)) [] rfl
    have hDc := hD.sub (ws' := ([] : va_W)) [] (by decide) rfl
    have hKc := hK.sub (tys' := []) [] rfl
    have hFc := va_free (wc := ([] : va_W)) hD hS hA [] rfl
    refine kc_i (wr := [(h0, .inr (0, [.ref w0, .ref w1, .int σ.1, .int σ.2.1, .int σ.2.2.1])), (w0, .inl (cJ, 512, .inr (.inl (σ.2.2.2.1)))), (w1, .inl (cJ, 9, .inr (.inl (σ.2.2.2.2))))]) (kr_N (As := [.int p1, .int (p0 - (1 : Int32))]) (rest := []) (ws := [(h0, .inr (0, [.ref w0, .ref w1, .int σ.1, .int σ.2.1, .int σ.2.2.1])), (w0, .inl (cJ, 512, .inr (.inl (σ.2.2.2.1)))), (w1, .inl (cJ, 9, .inr (.inl (σ.2.2.2.2))))]) ⟨hx, hb, hml, hown, hts⟩ (c_X3_isTaken l dC dI   p1 (p0 - (1 : Int32)) _ hw H.size) ⟨va_cnB 2 hts gX0_weigh_X3_isTaken_n47 rfl rfl rfl hnw.1 (hts (.initialized RX3) (by decide +kernel)) (by decide +kernel) ⟨Nat.le_of_ble_eq_true rfl, Nat.le_of_ble_eq_true rfl⟩, hts (.static yX3_isTaken) (by decide +kernel), trivial⟩ hKc hnw hP hD hPc hDc rfl hl.1 rfl (Nat.le_of_ble_eq_true rfl) dX0_weigh_29 ⟨Nat.zero_le _, Nat.zero_le _⟩) hP hD hS hFc [] [0, 1, 2] rfl rfl (by decide) (by decide) (fun r4 u1 H locs hq hP hD hS => ?_)
    obtain ⟨hw, rfl⟩ := hq
    have hP : va_P (dC, dI) vwCl [(h0, .inr (0, [.ref w0, .ref w1, .int σ.1, .int σ.2.1, .int σ.2.2.1])), (w0, .inl (cJ, 512, .inr (.inl (σ.2.2.2.1)))), (w1, .inl (cJ, 9, .inr (.inl (σ.2.2.2.2))))] H := hP
    have hD : va_D A [(h0, .inr (0, [.ref w0, .ref w1, .int σ.1, .int σ.2.1, .int σ.2.2.1])), (w0, .inl (cJ, 512, .inr (.inl (σ.2.2.2.1)))), (w1, .inl (cJ, 9, .inr (.inl (σ.2.2.2.2))))] := hD
    refine lv_if_eq (tgt := 56) hx hb dX0_weigh_32 (by decide) (fun c6 => ?_) (fun c6 => ?_)
    · have hw := hw.1 c6
      refine lv_iload_n hx hb dX0_weigh_56 rfl (lv_at hl 1 rfl) ?_
      refine lv_iload_n hx hb dX0_weigh_57 rfl (lv_at hl 2 rfl) ?_
      have hPc := hP.sub (ws' := ([] : va_W)) [] rfl
      have hDc := hD.sub (ws' := ([] : va_W)) [] (by decide) rfl
      have hKc := hK.sub (tys' := []) [] rfl
      have hFc := va_free (wc := ([] : va_W)) hD hS hA [] rfl
      refine kc_i (wr := [(h0, .inr (0, [.ref w0, .ref w1, .int σ.1, .int σ.2.1, .int σ.2.2.1])), (w0, .inl (cJ, 512, .inr (.inl (σ.2.2.2.1)))), (w1, .inl (cJ, 9, .inr (.inl (σ.2.2.2.2))))]) (kr_S (As := [.int p0, .int p1]) (rest := []) (ws := [(h0, .inr (0, [.ref w0, .ref w1, .int σ.1, .int σ.2.1, .int σ.2.2.1])), (w0, .inl (cJ, 512, .inr (.inl (σ.2.2.2.1)))), (w1, .inl (cJ, 9, .inr (.inl (σ.2.2.2.2))))]) ⟨hx, hb, hml, hown, hts⟩ (c_X0_lastOfLeadingTaken l dC dI   p0 p1 _ hw H.size) (va_cwS 2 hts gX0_weigh_X0_lastOfLeadingTaken rfl rfl rfl (by decide +kernel) ⟨Nat.le_of_ble_eq_true rfl, Nat.le_of_ble_eq_true rfl⟩) hKc hnw hP hD hPc hDc rfl hl.1 rfl (Nat.le_of_ble_eq_true rfl) dX0_weigh_58 ⟨Nat.zero_le _, Nat.zero_le _⟩) hP hD hS hFc [] [0, 1, 2] rfl rfl (by decide) (by decide) (fun r7 u1 H locs hq hP hD hS => ?_)
      obtain ⟨hw, rfl⟩ := hq
      have hP : va_P (dC, dI) vwCl [(h0, .inr (0, [.ref w0, .ref w1, .int σ.1, .int σ.2.1, .int σ.2.2.1])), (w0, .inl (cJ, 512, .inr (.inl (σ.2.2.2.1)))), (w1, .inl (cJ, 9, .inr (.inl (σ.2.2.2.2))))] H := hP
      have hD : va_D A [(h0, .inr (0, [.ref w0, .ref w1, .int σ.1, .int σ.2.1, .int σ.2.2.1])), (w0, .inl (cJ, 512, .inr (.inl (σ.2.2.2.1)))), (w1, .inl (cJ, 9, .inr (.inl (σ.2.2.2.2))))] := hD
      refine lv_istore_n (lv' := [(3, .int r7), (0, .ref h0), (1, .int p0), (2, .int p1)]) hx hb dX0_weigh_61 rfl hl (by decide) rfl (fun ls hl => ?_)
      refine lv_iload_n hx hb dX0_weigh_62 rfl (lv_at hl 3 rfl) ?_
      refine lv_iconst (v := (1 : Int32)) hx hb dX0_weigh_63 (by decide) ?_
      refine lv_iload_n hx hb dX0_weigh_64 rfl (lv_at hl 0 rfl) ?_
      refine lv_ishl hx hb dX0_weigh_65 ?_
      refine lv_iconst (v := (1 : Int32)) hx hb dX0_weigh_66 (by decide) ?_
      refine lv_isub hx hb dX0_weigh_67 ?_
      refine lv_iand hx hb dX0_weigh_68 ?_
      refine lv_istore (lv' := [(4, .int (p1 &&& (((1 : Int32) <<< (r7 &&& (31 : Int32))) - (1 : Int32)))), (3, .int r7), (0, .ref h0), (1, .int p0), (2, .int p1)]) hx hb dX0_weigh_69 hl (by decide) rfl (fun ls hl => ?_)
      refine lv_iload_n hx hb dX0_weigh_71 rfl (lv_at hl 4 rfl) ?_
      refine lv_iload_n hx hb dX0_weigh_72 rfl (lv_at hl 1 rfl) ?_
      refine lv_iconst (v := (2 : Int32)) hx hb dX0_weigh_73 (by decide) ?_
      refine lv_iadd hx hb dX0_weigh_74 ?_
      refine lv_ishr hx hb dX0_weigh_75 ?_
      refine lv_iload_n hx hb dX0_weigh_76 rfl (lv_at hl 1 rfl) ?_
      refine lv_iconst (v := (1 : Int32)) hx hb dX0_weigh_77 (by decide) ?_
      refine lv_iadd hx hb dX0_weigh_78 ?_
      refine lv_ishl hx hb dX0_weigh_79 ?_
      refine lv_istore (lv' := [(5, .int ((p1 >>> ((r7 + (2 : Int32)) &&& (31 : Int32))) <<< ((r7 + (1 : Int32)) &&& (31 : Int32)))), (4, .int (p1 &&& (((1 : Int32) <<< (r7 &&& (31 : Int32))) - (1 : Int32)))), (3, .int r7), (0, .ref h0), (1, .int p0), (2, .int p1)]) hx hb dX0_weigh_80 hl (by decide) rfl (fun ls hl => ?_)
      refine lv_aload_n hx hb dX0_weigh_82 rfl (lv_at hl 3 rfl) ?_
      refine lv_iload_n hx hb dX0_weigh_83 rfl (lv_at hl 4 rfl) ?_
      refine lv_iconst (v := (1 : Int32)) hx hb dX0_weigh_84 (by decide) ?_
      refine lv_isub hx hb dX0_weigh_85 ?_
      refine lv_iload hx hb dX0_weigh_86 (lv_at hl 1 rfl) ?_
      refine lv_iconst (v := (1 : Int32)) hx hb dX0_weigh_88 (by decide) ?_
      refine lv_iload_n hx hb dX0_weigh_89 rfl (lv_at hl 2 rfl) ?_
      refine lv_ishl hx hb dX0_weigh_90 ?_
      refine lv_ior hx hb dX0_weigh_91 ?_
      refine lv_iload hx hb dX0_weigh_92 (lv_at hl 0 rfl) ?_
      refine lv_ior hx hb dX0_weigh_94 ?_
      have hPc := hP
      have hDc := hD
      have hKc := hK
      have hFc := va_free (wc := [(h0, .inr (0, [.ref w0, .ref w1, .int σ.1, .int σ.2.1, .int σ.2.2.1])), (w0, .inl (cJ, 512, .inr (.inl (σ.2.2.2.1)))), (w1, .inl (cJ, 9, .inr (.inl (σ.2.2.2.2))))]) hD hS hA [0, 1, 2] rfl
      refine kc_l (wr := ([] : va_W)) (kr_V (As := [.int (p0 - (1 : Int32)), .int (((p1 &&& (((1 : Int32) <<< (r7 &&& (31 : Int32))) - (1 : Int32))) ||| ((1 : Int32) <<< (r7 &&& (31 : Int32)))) ||| ((p1 >>> ((r7 + (2 : Int32)) &&& (31 : Int32))) <<< ((r7 + (1 : Int32)) &&& (31 : Int32))))]) (rest := []) (b := h0) (ws := [(h0, .inr (0, [.ref w0, .ref w1, .int σ.1, .int σ.2.1, .int σ.2.2.1])), (w0, .inl (cJ, 512, .inr (.inl (σ.2.2.2.1)))), (w1, .inl (cJ, 9, .inr (.inl (σ.2.2.2.2))))]) ⟨hx, hb, hml, hown, hts⟩ (c_X0_weightOfWord l dC dI h0 w0 w1 cJ σ (p0 - (1 : Int32)) (((p1 &&& (((1 : Int32) <<< (r7 &&& (31 : Int32))) - (1 : Int32))) ||| ((1 : Int32) <<< (r7 &&& (31 : Int32)))) ||| ((p1 >>> ((r7 + (2 : Int32)) &&& (31 : Int32))) <<< ((r7 + (1 : Int32)) &&& (31 : Int32)))) _ hw H.size) (cwV 2 hts gX0_weigh_X0_weightOfWord rfl rfl rfl (by decide +kernel) ⟨Nat.le_of_ble_eq_true rfl, Nat.le_of_ble_eq_true rfl⟩) 0 0 hK rfl rfl rfl hKc hnw hP hD hPc hDc rfl hl.1 rfl (Nat.le_of_ble_eq_true rfl) dX0_weigh_95 ⟨Nat.zero_le _, Nat.zero_le _⟩) hP hD hS hFc [0, 1, 2] [] rfl rfl (by decide) (by decide) (fun r9 u1 H locs hq hP hD hS => ?_)
      obtain ⟨hw, rfl⟩ := hq
      have hP : va_P (dC, dI) vwCl [(h0, .inr (0, [.ref w0, .ref w1, .int σ.1, .int σ.2.1, .int σ.2.2.1])), (w0, .inl (cJ, 512, .inr (.inl (σ.2.2.2.1)))), (w1, .inl (cJ, 9, .inr (.inl (σ.2.2.2.2))))] H := hP
      have hD : va_D A [(h0, .inr (0, [.ref w0, .ref w1, .int σ.1, .int σ.2.1, .int σ.2.2.1])), (w0, .inl (cJ, 512, .inr (.inl (σ.2.2.2.1)))), (w1, .inl (cJ, 9, .inr (.inl (σ.2.2.2.2))))] := hD
      refine lv_aload_n hx hb dX0_weigh_98 rfl (lv_at hl 3 rfl) ?_
      refine lv_iload_n hx hb dX0_weigh_99 rfl (lv_at hl 4 rfl) ?_
      refine lv_iconst (v := (1 : Int32)) hx hb dX0_weigh_100 (by decide) ?_
      refine lv_isub hx hb dX0_weigh_101 ?_
      refine lv_iload hx hb dX0_weigh_102 (lv_at hl 1 rfl) ?_
      refine lv_iload hx hb dX0_weigh_104 (lv_at hl 0 rfl) ?_
      refine lv_ior hx hb dX0_weigh_106 ?_
      have hPc := hP
      have hDc := hD
      have hKc := hK
      have hFc := va_free (wc := [(h0, .inr (0, [.ref w0, .ref w1, .int σ.1, .int σ.2.1, .int σ.2.2.1])), (w0, .inl (cJ, 512, .inr (.inl (σ.2.2.2.1)))), (w1, .inl (cJ, 9, .inr (.inl (σ.2.2.2.2))))]) hD hS hA [0, 1, 2] rfl
      refine kc_l (wr := ([] : va_W)) (kr_V (As := [.int (p0 - (1 : Int32)), .int ((p1 &&& (((1 : Int32) <<< (r7 &&& (31 : Int32))) - (1 : Int32))) ||| ((p1 >>> ((r7 + (2 : Int32)) &&& (31 : Int32))) <<< ((r7 + (1 : Int32)) &&& (31 : Int32))))]) (rest := [.long r9]) (b := h0) (ws := [(h0, .inr (0, [.ref w0, .ref w1, .int σ.1, .int σ.2.1, .int σ.2.2.1])), (w0, .inl (cJ, 512, .inr (.inl (σ.2.2.2.1)))), (w1, .inl (cJ, 9, .inr (.inl (σ.2.2.2.2))))]) ⟨hx, hb, hml, hown, hts⟩ (c_X0_weightOfWord l dC dI h0 w0 w1 cJ σ (p0 - (1 : Int32)) ((p1 &&& (((1 : Int32) <<< (r7 &&& (31 : Int32))) - (1 : Int32))) ||| ((p1 >>> ((r7 + (2 : Int32)) &&& (31 : Int32))) <<< ((r7 + (1 : Int32)) &&& (31 : Int32)))) _ hw H.size) (cwV 2 hts gX0_weigh_X0_weightOfWord rfl rfl rfl (by decide +kernel) ⟨Nat.le_of_ble_eq_true rfl, Nat.le_of_ble_eq_true rfl⟩) 0 0 hK rfl rfl rfl hKc hnw hP hD hPc hDc rfl hl.1 rfl (Nat.le_of_ble_eq_true rfl) dX0_weigh_107 ⟨Nat.zero_le _, Nat.zero_le _⟩) hP hD hS hFc [0, 1, 2] [] rfl rfl (by decide) (by decide) (fun r11 u1 H locs hq hP hD hS => ?_)
      obtain ⟨hw, rfl⟩ := hq
      have hP : va_P (dC, dI) vwCl [(h0, .inr (0, [.ref w0, .ref w1, .int σ.1, .int σ.2.1, .int σ.2.2.1])), (w0, .inl (cJ, 512, .inr (.inl (σ.2.2.2.1)))), (w1, .inl (cJ, 9, .inr (.inl (σ.2.2.2.2))))] H := hP
      have hD : va_D A [(h0, .inr (0, [.ref w0, .ref w1, .int σ.1, .int σ.2.1, .int σ.2.2.1])), (w0, .inl (cJ, 512, .inr (.inl (σ.2.2.2.1)))), (w1, .inl (cJ, 9, .inr (.inl (σ.2.2.2.2))))] := hD
      refine lv_ladd hx hb dX0_weigh_110 ?_
      exact W.lret (v := (r9 + r11)) hx hb hr (fun t ht hW => ⟨⟨(r9 + r11), ((cl0 h0 w0 w1 cJ σ)), rfl, ⟨hw, rfl⟩, by rw [ht]; exact hP, va_K.moved hW.alike hK, hD⟩, hS.F ht⟩) hS.2.2 dX0_weigh_111
    · have hw := hw.2 c6
      refine lv_aload_n hx hb dX0_weigh_35 rfl (lv_at hl 0 rfl) ?_
      refine va_get (D := (dC, dI)) (ci := 0) (v := .int σ.2.2.1) (C := RX0) (T := TX0) (N := 5) hx hb hts hin0 hown hK hP 0 rfl rfl 4 (by decide) fl_29 (fun _ h9 => h9) rfl dX0_weigh_36 ?_
      refine lv_i2l hx hb dX0_weigh_39 rfl ?_
      refine lv_aload_n hx hb dX0_weigh_40 rfl (lv_at hl 0 rfl) ?_
      refine lv_iload_n hx hb dX0_weigh_41 rfl (lv_at hl 1 rfl) ?_
      refine lv_iconst (v := (1 : Int32)) hx hb dX0_weigh_42 (by decide) ?_
      refine lv_isub hx hb dX0_weigh_43 ?_
      refine lv_iload_n hx hb dX0_weigh_44 rfl (lv_at hl 2 rfl) ?_
      refine lv_iconst (v := (1 : Int32)) hx hb dX0_weigh_45 (by decide) ?_
      refine lv_iload_n hx hb dX0_weigh_46 rfl (lv_at hl 1 rfl) ?_
      refine lv_iconst (v := (1 : Int32)) hx hb dX0_weigh_47 (by decide) ?_
      refine lv_isub hx hb dX0_weigh_48 ?_
      refine lv_ishl hx hb dX0_weigh_49 ?_
      refine lv_ixor hx hb dX0_weigh_50 ?_
      have hPc := hP
      have hDc := hD
      have hKc := hK
      have hFc := va_free (wc := [(h0, .inr (0, [.ref w0, .ref w1, .int σ.1, .int σ.2.1, .int σ.2.2.1])), (w0, .inl (cJ, 512, .inr (.inl (σ.2.2.2.1)))), (w1, .inl (cJ, 9, .inr (.inl (σ.2.2.2.2))))]) hD hS hA [0, 1, 2] rfl
      refine kc_l (wr := ([] : va_W)) (kr_V (As := [.int (p0 - (1 : Int32)), .int (p1 ^^^ ((1 : Int32) <<< ((p0 - (1 : Int32)) &&& (31 : Int32))))]) (rest := [.long (σ.2.2.1.toInt64)]) (b := h0) (ws := [(h0, .inr (0, [.ref w0, .ref w1, .int σ.1, .int σ.2.1, .int σ.2.2.1])), (w0, .inl (cJ, 512, .inr (.inl (σ.2.2.2.1)))), (w1, .inl (cJ, 9, .inr (.inl (σ.2.2.2.2))))]) ⟨hx, hb, hml, hown, hts⟩ (c_X0_weightOfWord l dC dI h0 w0 w1 cJ σ (p0 - (1 : Int32)) (p1 ^^^ ((1 : Int32) <<< ((p0 - (1 : Int32)) &&& (31 : Int32)))) _ hw H.size) (cwV 2 hts gX0_weigh_X0_weightOfWord rfl rfl rfl (by decide +kernel) ⟨Nat.le_of_ble_eq_true rfl, Nat.le_of_ble_eq_true rfl⟩) 0 0 hK rfl rfl rfl hKc hnw hP hD hPc hDc rfl hl.1 rfl (Nat.le_of_ble_eq_true rfl) dX0_weigh_51 ⟨Nat.zero_le _, Nat.zero_le _⟩) hP hD hS hFc [0, 1, 2] [] rfl rfl (by decide) (by decide) (fun r13 u1 H locs hq hP hD hS => ?_)
      obtain ⟨hw, rfl⟩ := hq
      have hP : va_P (dC, dI) vwCl [(h0, .inr (0, [.ref w0, .ref w1, .int σ.1, .int σ.2.1, .int σ.2.2.1])), (w0, .inl (cJ, 512, .inr (.inl (σ.2.2.2.1)))), (w1, .inl (cJ, 9, .inr (.inl (σ.2.2.2.2))))] H := hP
      have hD : va_D A [(h0, .inr (0, [.ref w0, .ref w1, .int σ.1, .int σ.2.1, .int σ.2.2.1])), (w0, .inl (cJ, 512, .inr (.inl (σ.2.2.2.1)))), (w1, .inl (cJ, 9, .inr (.inl (σ.2.2.2.2))))] := hD
      refine lv_lmul hx hb dX0_weigh_54 ?_
      exact W.lret (v := ((σ.2.2.1.toInt64) * r13)) hx hb hr (fun t ht hW => ⟨⟨((σ.2.2.1.toInt64) * r13), ((cl0 h0 w0 w1 cJ σ)), rfl, ⟨hw, rfl⟩, by rw [ht]; exact hP, va_K.moved hW.alike hK, hD⟩, hS.F ht⟩) hS.2.2 dX0_weigh_55
  · have hw := hw.2 c3
    refine lv_aload_n hx hb dX0_weigh_8 rfl (lv_at hl 0 rfl) ?_
    refine va_get (D := (dC, dI)) (ci := 0) (v := .int σ.2.1) (C := RX0) (T := TX0) (N := 5) hx hb hts hin0 hown hK hP 0 rfl rfl 3 (by decide) fl_26 (fun _ h9 => h9) rfl dX0_weigh_9 ?_
    refine lv_i2l hx hb dX0_weigh_12 rfl ?_
    refine lv_aload_n hx hb dX0_weigh_13 rfl (lv_at hl 0 rfl) ?_
    refine lv_iload_n hx hb dX0_weigh_14 rfl (lv_at hl 1 rfl) ?_
    refine lv_iconst (v := (1 : Int32)) hx hb dX0_weigh_15 (by decide) ?_
    refine lv_isub hx hb dX0_weigh_16 ?_
    refine lv_iload_n hx hb dX0_weigh_17 rfl (lv_at hl 2 rfl) ?_
    refine lv_iconst (v := (1 : Int32)) hx hb dX0_weigh_18 (by decide) ?_
    refine lv_ishr hx hb dX0_weigh_19 ?_
    have hPc := hP
    have hDc := hD
    have hKc := hK
    have hFc := va_free (wc := [(h0, .inr (0, [.ref w0, .ref w1, .int σ.1, .int σ.2.1, .int σ.2.2.1])), (w0, .inl (cJ, 512, .inr (.inl (σ.2.2.2.1)))), (w1, .inl (cJ, 9, .inr (.inl (σ.2.2.2.2))))]) hD hS hA [0, 1, 2] rfl
    refine kc_l (wr := ([] : va_W)) (kr_V (As := [.int (p0 - (1 : Int32)), .int (p1 >>> ((1 : Int32) &&& (31 : Int32)))]) (rest := [.long (σ.2.1.toInt64)]) (b := h0) (ws := [(h0, .inr (0, [.ref w0, .ref w1, .int σ.1, .int σ.2.1, .int σ.2.2.1])), (w0, .inl (cJ, 512, .inr (.inl (σ.2.2.2.1)))), (w1, .inl (cJ, 9, .inr (.inl (σ.2.2.2.2))))]) ⟨hx, hb, hml, hown, hts⟩ (c_X0_weightOfWord l dC dI h0 w0 w1 cJ σ (p0 - (1 : Int32)) (p1 >>> ((1 : Int32) &&& (31 : Int32))) _ hw H.size) (cwV 2 hts gX0_weigh_X0_weightOfWord rfl rfl rfl (by decide +kernel) ⟨Nat.le_of_ble_eq_true rfl, Nat.le_of_ble_eq_true rfl⟩) 0 0 hK rfl rfl rfl hKc hnw hP hD hPc hDc rfl hl.1 rfl (Nat.le_of_ble_eq_true rfl) dX0_weigh_20 ⟨Nat.zero_le _, Nat.zero_le _⟩) hP hD hS hFc [0, 1, 2] [] rfl rfl (by decide) (by decide) (fun r15 u1 H locs hq hP hD hS => ?_)
    obtain ⟨hw, rfl⟩ := hq
    have hP : va_P (dC, dI) vwCl [(h0, .inr (0, [.ref w0, .ref w1, .int σ.1, .int σ.2.1, .int σ.2.2.1])), (w0, .inl (cJ, 512, .inr (.inl (σ.2.2.2.1)))), (w1, .inl (cJ, 9, .inr (.inl (σ.2.2.2.2))))] H := hP
    have hD : va_D A [(h0, .inr (0, [.ref w0, .ref w1, .int σ.1, .int σ.2.1, .int σ.2.2.1])), (w0, .inl (cJ, 512, .inr (.inl (σ.2.2.2.1)))), (w1, .inl (cJ, 9, .inr (.inl (σ.2.2.2.2))))] := hD
    refine lv_lmul hx hb dX0_weigh_23 ?_
    exact W.lret (v := ((σ.2.1.toInt64) * r15)) hx hb hr (fun t ht hW => ⟨⟨((σ.2.1.toInt64) * r15), ((cl0 h0 w0 w1 cJ σ)), rfl, ⟨hw, rfl⟩, by rw [ht]; exact hP, va_K.moved hW.alike hK, hD⟩, hS.F ht⟩) hS.2.2 dX0_weigh_24
set_option maxHeartbeats 4000000 in
set_option maxRecDepth 100000 in
theorem c_X0_weighAllWords (l : Launch) (dC : Nat → ClassId) (dI : Nat → Nat → Nat) (h0 w0 w1 : Nat) (cJ : ClassId) (σ : SC)  (post : SC → Prop) (hw : wp_X0_weighAllWords  σ post) : KV l yX0_weighAllWords wsX0_weighAllWords ({ frames := 3, cells := 0, slots := 0, locals := 68 } : Room) (dC, dI) [(cJ, .long)] (cl0 h0 w0 w1 cJ σ) [.ref h0] (fun u => ∃ σ', post σ' ∧ u = (cl0 h0 w0 w1 cJ (σ'))) := by
  intro sz
  refine Met.ofW (cc := cX0_weighAllWords) (maxL := 7) (ret := none) (by decide) rfl ?_
  intro p e s m args below meth c s₁ B hml hv
  obtain ⟨rfl, hsz, hP, hK, hD0, hnw⟩ := hv
  have hx := B.exec
  have hb := B.bytes
  have hr := B.returns
  have hts := atoms_spec (ws := wsX0_weighAllWords) B.pre
  have hown : s.vm.findClass RX0 = some m.cls := findClass_of_methodNamed B.named
  have hlocks := B.notSynchronized
  subst hsz
  have hD := hD0.self (sz := s.heap.size)
  generalize hAe : va_A (cl0 h0 w0 w1 cJ σ) s.heap.size = A at hD ⊢
  have hA : ∀ q : Nat, s.heap.size ≤ q → A q := fun q h => by rw [← hAe]; exact Or.inr h
  have hS : va_S A s.heap s.heap [] := va_S.rf
  have hP : va_P (dC, dI) vwCl [(h0, .inr (0, [.ref w0, .ref w1, .int σ.1, .int σ.2.1, .int σ.2.2.1])), (w0, .inl (cJ, 512, .inr (.inl (σ.2.2.2.1)))), (w1, .inl (cJ, 9, .inr (.inl (σ.2.2.2.2))))] s.heap := hP
  have hD : va_D A [(h0, .inr (0, [.ref w0, .ref w1, .int σ.1, .int σ.2.1, .int σ.2.2.1])), (w0, .inl (cJ, 512, .inr (.inl (σ.2.2.2.1)))), (w1, .inl (cJ, 9, .inr (.inl (σ.2.2.2.2))))] := hD
  have fl_9 := hts (.fieldLink RX0 9 "OnePlaceEach$Chain" "weights" "[J") (by decide +kernel)
  have fl_15 := hts (.fieldLink RX0 15 "OnePlaceEach$Chain" "sums" "[J") (by decide +kernel)
  have hin0 : ∀ w ∈ wsX00, w ∈ wsX0_weighAllWords := by decide +kernel
  have L27 : ∀ (x1 : Int32)  (n : Nat) (x2 : Int64) (x4 : Int32) (σ : SC) (k : Int64 → Int32 → SC → Prop), wl_X0_weighAllWords_27 x1  n x2 x4 σ k →
      (∀ (x2 : Int64) (x4 : Int32) (σ : SC), k x2 x4 σ → ∀ (H : Heap) (locs : List Loc) (ls : Array Slot), va_P (dC, dI) vwCl [(h0, .inr (0, [.ref w0, .ref w1, .int σ.1, .int σ.2.1, .int σ.2.2.1])), (w0, .inl (cJ, 512, .inr (.inl (σ.2.2.2.1)))), (w1, .inl (cJ, 9, .inr (.inl (σ.2.2.2.2))))] H → va_D A [(h0, .inr (0, [.ref w0, .ref w1, .int σ.1, .int σ.2.1, .int σ.2.2.1])), (w0, .inl (cJ, 512, .inr (.inl (σ.2.2.2.1)))), (w1, .inl (cJ, 9, .inr (.inl (σ.2.2.2.2))))] → va_S A s.heap H locs → lv_has ls 7 [(4, .int x4), (2, .long x2), (1, .int x1), (0, .ref h0)] → W p l e (headSpec wsX0_weighAllWords ({ frames := 3, cells := 0, slots := 0, locals := 68 } : Room)).room s m ([.ref h0] : List Value).toArray below meth c H locs 0 0 (MQ below (va_Qv (fun u => ∃ σ', post σ' ∧ u = (cl0 h0 w0 w1 cJ (σ'))) (kB (dC, dI) [(cJ, .long)] A) A) ([.ref h0] : List Value).toArray s 0 0 A) (F0 m 68 ls [])) →
      ∀ (H : Heap) (locs : List Loc) (ls : Array Slot), va_P (dC, dI) vwCl [(h0, .inr (0, [.ref w0, .ref w1, .int σ.1, .int σ.2.1, .int σ.2.2.1])), (w0, .inl (cJ, 512, .inr (.inl (σ.2.2.2.1)))), (w1, .inl (cJ, 9, .inr (.inl (σ.2.2.2.2))))] H → va_D A [(h0, .inr (0, [.ref w0, .ref w1, .int σ.1, .int σ.2.1, .int σ.2.2.1])), (w0, .inl (cJ, 512, .inr (.inl (σ.2.2.2.1)))), (w1, .inl (cJ, 9, .inr (.inl (σ.2.2.2.2))))] → va_S A s.heap H locs → lv_has ls 7 [(4, .int x4), (2, .long x2), (1, .int x1), (0, .ref h0)] → W p l e (headSpec wsX0_weighAllWords ({ frames := 3, cells := 0, slots := 0, locals := 68 } : Room)).room s m ([.ref h0] : List Value).toArray below meth c H locs 0 0 (MQ below (va_Qv (fun u => ∃ σ', post σ' ∧ u = (cl0 h0 w0 w1 cJ (σ'))) (kB (dC, dI) [(cJ, .long)] A) A) ([.ref h0] : List Value).toArray s 0 0 A) (F0 m 27 ls []) := by
    intro x1 n
    induction n with
    | zero => intro x2 x4 σ k hw; exact absurd hw id
    | succ n ih =>
      intro x2 x4 σ k hw hk H locs ls hP hD hS hl
      unfold wl_X0_weighAllWords_27 at hw
      refine lv_iload hx hb dX0_weighAllWords_27 (lv_at hl 0 rfl) ?_
      refine lv_iconst (v := (1 : Int32)) hx hb dX0_weighAllWords_29 (by decide) ?_
      refine lv_iload_n hx hb dX0_weighAllWords_30 rfl (lv_at hl 2 rfl) ?_
      refine lv_ishl hx hb dX0_weighAllWords_31 ?_
      refine lv_icmp_ge (tgt := 68) hx hb dX0_weighAllWords_32 (by decide) (fun c4 => ?_) (fun c4 => ?_)
      · have hw := hw.1 c4
        exact hk x2 x4 σ hw H locs ls hP hD hS (lv_sub hl [0, 1, 2, 3] rfl)
      · have hw := hw.2 c4
        refine lv_aload_n hx hb dX0_weighAllWords_35 rfl (lv_at hl 3 rfl) ?_
        refine lv_iload_n hx hb dX0_weighAllWords_36 rfl (lv_at hl 2 rfl) ?_
        refine lv_iload hx hb dX0_weighAllWords_37 (lv_at hl 0 rfl) ?_
        have hPc := hP
        have hDc := hD
        have hKc := hK
        have hFc := va_free (wc := [(h0, .inr (0, [.ref w0, .ref w1, .int σ.1, .int σ.2.1, .int σ.2.2.1])), (w0, .inl (cJ, 512, .inr (.inl (σ.2.2.2.1)))), (w1, .inl (cJ, 9, .inr (.inl (σ.2.2.2.2))))]) hD hS hA [0, 1, 2] rfl
        refine kc_l (wr := ([] : va_W)) (kr_V (As := [.int x1, .int x4]) (rest := []) (b := h0) (ws := [(h0, .inr (0, [.ref w0, .ref w1, .int σ.1, .int σ.2.1, .int σ.2.2.1])), (w0, .inl (cJ, 512, .inr (.inl (σ.2.2.2.1)))), (w1, .inl (cJ, 9, .inr (.inl (σ.2.2.2.2))))]) ⟨hx, hb, hml, hown, hts⟩ (c_X0_weigh l dC dI h0 w0 w1 cJ σ x1 x4 _ hw H.size) (cwV 2 hts gX0_weighAllWords_X0_weigh rfl rfl rfl (by decide +kernel) ⟨Nat.le_of_ble_eq_true rfl, Nat.le_of_ble_eq_true rfl⟩) 0 0 hK rfl rfl rfl hKc hnw hP hD hPc hDc rfl hl.1 rfl (Nat.le_of_ble_eq_true rfl) dX0_weighAllWords_39 ⟨Nat.zero_le _, Nat.zero_le _⟩) hP hD hS hFc [0, 1, 2] [] rfl rfl (by decide) (by decide) (fun r5 u1 H locs hq hP hD hS => ?_)
        obtain ⟨hw, rfl⟩ := hq
        have hP : va_P (dC, dI) vwCl [(h0, .inr (0, [.ref w0, .ref w1, .int σ.1, .int σ.2.1, .int σ.2.2.1])), (w0, .inl (cJ, 512, .inr (.inl (σ.2.2.2.1)))), (w1, .inl (cJ, 9, .inr (.inl (σ.2.2.2.2))))] H := hP
        have hD : va_D A [(h0, .inr (0, [.ref w0, .ref w1, .int σ.1, .int σ.2.1, .int σ.2.2.1])), (w0, .inl (cJ, 512, .inr (.inl (σ.2.2.2.1)))), (w1, .inl (cJ, 9, .inr (.inl (σ.2.2.2.2))))] := hD
        refine lv_lstore (lv' := [(5, .long r5), (4, .int x4), (2, .long x2), (1, .int x1), (0, .ref h0)]) hx hb dX0_weighAllWords_42 hl (by decide) rfl (fun ls hl => ?_)
        refine lv_aload_n hx hb dX0_weighAllWords_44 rfl (lv_at hl 4 rfl) ?_
        refine va_get (D := (dC, dI)) (ci := 0) (v := .ref w0) (C := RX0) (T := TX0) (N := 5) hx hb hts hin0 hown hK hP 0 rfl rfl 0 (by decide) fl_9 (fun _ h9 => h9) rfl dX0_weighAllWords_45 ?_
        refine lv_iconst (v := (1 : Int32)) hx hb dX0_weighAllWords_48 (by decide) ?_
        refine lv_iload_n hx hb dX0_weighAllWords_49 rfl (lv_at hl 3 rfl) ?_
        refine lv_ishl hx hb dX0_weighAllWords_50 ?_
        refine lv_iload hx hb dX0_weighAllWords_51 (lv_at hl 1 rfl) ?_
        refine lv_iadd hx hb dX0_weighAllWords_53 ?_
        refine lv_lload hx hb dX0_weighAllWords_54 (lv_at hl 0 rfl) ?_
        have z7 := hw.1
        have hw := hw.2
        refine va_last hx hb hK hP hD hS 1 0 rfl rfl z7 dX0_weighAllWords_56 (fun H locs hP hD hS => ?_)
        have hP : va_P (dC, dI) vwCl [(h0, .inr (0, [.ref w0, .ref w1, .int σ.1, .int σ.2.1, .int σ.2.2.1])), (w0, .inl (cJ, 512, .inr (.inl ((vp_updL σ.2.2.2.1 (((1 : Int32) <<< (x1 &&& (31 : Int32))) + x4).toNatClampNeg r5))))), (w1, .inl (cJ, 9, .inr (.inl (σ.2.2.2.2))))] H := hP
        have hD : va_D A [(h0, .inr (0, [.ref w0, .ref w1, .int σ.1, .int σ.2.1, .int σ.2.2.1])), (w0, .inl (cJ, 512, .inr (.inl ((vp_updL σ.2.2.2.1 (((1 : Int32) <<< (x1 &&& (31 : Int32))) + x4).toNatClampNeg r5))))), (w1, .inl (cJ, 9, .inr (.inl (σ.2.2.2.2))))] := hD
        refine lv_lload_n hx hb dX0_weighAllWords_57 rfl (lv_at hl 2 rfl) ?_
        refine lv_lload hx hb dX0_weighAllWords_58 (lv_at hl 0 rfl) ?_
        refine lv_ladd hx hb dX0_weighAllWords_60 ?_
        refine lv_lstore_n (lv' := [(2, .long (x2 + r5)), (5, .long r5), (4, .int x4), (1, .int x1), (0, .ref h0)]) hx hb dX0_weighAllWords_61 rfl hl (by decide) rfl (fun ls hl => ?_)
        refine lv_iinc (v := (x4 + (1 : Int32))) (lv' := [(4, .int (x4 + (1 : Int32))), (2, .long (x2 + r5)), (5, .long r5), (1, .int x1), (0, .ref h0)]) hx hb dX0_weighAllWords_62 hl (k := 2) rfl rfl (by decide) rfl (fun ls hl => ?_)
        refine lv_goto (tgt := 27) hx hb dX0_weighAllWords_65 (by decide) ?_
        exact ih (x2 + r5) (x4 + (1 : Int32)) (σ.1, σ.2.1, σ.2.2.1, (vp_updL σ.2.2.2.1 (((1 : Int32) <<< (x1 &&& (31 : Int32))) + x4).toNatClampNeg r5), σ.2.2.2.2) _ hw hk H locs ls hP hD hS (lv_sub hl [0, 1, 3, 4] rfl)
  have L16 : ∀   (n : Nat) (x1 : Int32) (σ : SC) (k : Int32 → SC → Prop), wl_X0_weighAllWords_16   n x1 σ k →
      (∀ (x1 : Int32) (σ : SC), k x1 σ → ∀ (H : Heap) (locs : List Loc) (ls : Array Slot), va_P (dC, dI) vwCl [(h0, .inr (0, [.ref w0, .ref w1, .int σ.1, .int σ.2.1, .int σ.2.2.1])), (w0, .inl (cJ, 512, .inr (.inl (σ.2.2.2.1)))), (w1, .inl (cJ, 9, .inr (.inl (σ.2.2.2.2))))] H → va_D A [(h0, .inr (0, [.ref w0, .ref w1, .int σ.1, .int σ.2.1, .int σ.2.2.1])), (w0, .inl (cJ, 512, .inr (.inl (σ.2.2.2.1)))), (w1, .inl (cJ, 9, .inr (.inl (σ.2.2.2.2))))] → va_S A s.heap H locs → lv_has ls 7 [(1, .int x1), (0, .ref h0)] → W p l e (headSpec wsX0_weighAllWords ({ frames := 3, cells := 0, slots := 0, locals := 68 } : Room)).room s m ([.ref h0] : List Value).toArray below meth c H locs 0 0 (MQ below (va_Qv (fun u => ∃ σ', post σ' ∧ u = (cl0 h0 w0 w1 cJ (σ'))) (kB (dC, dI) [(cJ, .long)] A) A) ([.ref h0] : List Value).toArray s 0 0 A) (F0 m 81 ls [])) →
      ∀ (H : Heap) (locs : List Loc) (ls : Array Slot), va_P (dC, dI) vwCl [(h0, .inr (0, [.ref w0, .ref w1, .int σ.1, .int σ.2.1, .int σ.2.2.1])), (w0, .inl (cJ, 512, .inr (.inl (σ.2.2.2.1)))), (w1, .inl (cJ, 9, .inr (.inl (σ.2.2.2.2))))] H → va_D A [(h0, .inr (0, [.ref w0, .ref w1, .int σ.1, .int σ.2.1, .int σ.2.2.1])), (w0, .inl (cJ, 512, .inr (.inl (σ.2.2.2.1)))), (w1, .inl (cJ, 9, .inr (.inl (σ.2.2.2.2))))] → va_S A s.heap H locs → lv_has ls 7 [(1, .int x1), (0, .ref h0)] → W p l e (headSpec wsX0_weighAllWords ({ frames := 3, cells := 0, slots := 0, locals := 68 } : Room)).room s m ([.ref h0] : List Value).toArray below meth c H locs 0 0 (MQ below (va_Qv (fun u => ∃ σ', post σ' ∧ u = (cl0 h0 w0 w1 cJ (σ'))) (kB (dC, dI) [(cJ, .long)] A) A) ([.ref h0] : List Value).toArray s 0 0 A) (F0 m 16 ls []) := by
    intro  n
    induction n with
    | zero => intro x1 σ k hw; exact absurd hw id
    | succ n ih =>
      intro x1 σ k hw hk H locs ls hP hD hS hl
      unfold wl_X0_weighAllWords_16 at hw
      refine lv_iload_n hx hb dX0_weighAllWords_16 rfl (lv_at hl 0 rfl) ?_
      refine lv_bipush (v := (8 : Int32)) hx hb dX0_weighAllWords_17 (by decide) ?_
      refine lv_icmp_gt (tgt := 81) hx hb dX0_weighAllWords_19 (by decide) (fun c3 => ?_) (fun c3 => ?_)
      · have hw := hw.1 c3
        exact hk x1 σ hw H locs ls hP hD hS (lv_sub hl [0, 1] rfl)
      · have hw := hw.2 c3
        refine lv_lconst (v := (0 : Int64)) hx hb dX0_weighAllWords_22 (by decide) ?_
        refine lv_lstore_n (lv' := [(2, .long (0 : Int64)), (1, .int x1), (0, .ref h0)]) hx hb dX0_weighAllWords_23 rfl hl (by decide) rfl (fun ls hl => ?_)
        refine lv_iconst (v := (0 : Int32)) hx hb dX0_weighAllWords_24 (by decide) ?_
        refine lv_istore (lv' := [(4, .int (0 : Int32)), (2, .long (0 : Int64)), (1, .int x1), (0, .ref h0)]) hx hb dX0_weighAllWords_25 hl (by decide) rfl (fun ls hl => ?_)
        refine L27 x1 (20000) (0 : Int64) (0 : Int32) σ _ hw (fun x2_8 x4_9 σ10 hw H locs ls hP hD hS hl => ?_) H locs ls hP hD hS (lv_sub hl [0, 1, 2, 3] rfl)
        refine lv_aload_n hx hb dX0_weighAllWords_68 rfl (lv_at hl 3 rfl) ?_
        refine va_get (D := (dC, dI)) (ci := 0) (v := .ref w1) (C := RX0) (T := TX0) (N := 5) hx hb hts hin0 hown hK hP 0 rfl rfl 1 (by decide) fl_15 (fun _ h9 => h9) rfl dX0_weighAllWords_69 ?_
        refine lv_iload_n hx hb dX0_weighAllWords_72 rfl (lv_at hl 2 rfl) ?_
        refine lv_lload_n hx hb dX0_weighAllWords_73 rfl (lv_at hl 1 rfl) ?_
        have z11 := hw.1
        have hw := hw.2
        refine va_last hx hb hK hP hD hS 2 0 rfl rfl z11 dX0_weighAllWords_74 (fun H locs hP hD hS => ?_)
        have hP : va_P (dC, dI) vwCl [(h0, .inr (0, [.ref w0, .ref w1, .int σ10.1, .int σ10.2.1, .int σ10.2.2.1])), (w0, .inl (cJ, 512, .inr (.inl (σ10.2.2.2.1)))), (w1, .inl (cJ, 9, .inr (.inl ((vp_updL σ10.2.2.2.2 x1.toNatClampNeg x2_8)))))] H := hP
        have hD : va_D A [(h0, .inr (0, [.ref w0, .ref w1, .int σ10.1, .int σ10.2.1, .int σ10.2.2.1])), (w0, .inl (cJ, 512, .inr (.inl (σ10.2.2.2.1)))), (w1, .inl (cJ, 9, .inr (.inl ((vp_updL σ10.2.2.2.2 x1.toNatClampNeg x2_8)))))] := hD
        refine lv_iinc (v := (x1 + (1 : Int32))) (lv' := [(1, .int (x1 + (1 : Int32))), (4, .int x4_9), (2, .long x2_8), (0, .ref h0)]) hx hb dX0_weighAllWords_75 hl (k := 2) rfl rfl (by decide) rfl (fun ls hl => ?_)
        refine lv_goto (tgt := 16) hx hb dX0_weighAllWords_78 (by decide) ?_
        exact ih (x1 + (1 : Int32)) (σ10.1, σ10.2.1, σ10.2.2.1, σ10.2.2.2.1, (vp_updL σ10.2.2.2.2 x1.toNatClampNeg x2_8)) _ hw hk H locs ls hP hD hS (lv_sub hl [0, 3] rfl)
  have hl := lv_entry ([.ref h0]) (n := 7) (Nat.le_of_ble_eq_true rfl)
  rw [lg_entry_eq]
  generalize (lg_sl ([.ref h0]) ++ List.replicate (7 - (lg_sl ([.ref h0])).length) Slot.unset).toArray = ls at hl ⊢
  have hl : lv_has ls 7 [(0, .ref h0)] := hl
  unfold wp_X0_weighAllWords at hw
  skip
  obtain ⟨H, hH⟩ : ∃ H, H = s.heap := ⟨_, rfl⟩
  obtain ⟨locs, hlo⟩ : ∃ q : List Loc, q = [] := ⟨_, rfl⟩
  rw [← hH] at hP
  have hS : va_S A s.heap H locs := by rw [hH, hlo]; exact hS
  suffices hgo : W p l e (headSpec wsX0_weighAllWords ({ frames := 3, cells := 0, slots := 0, locals := 68 } : Room)).room s m _ below meth c H locs 0 0 _ (F0 m 0 ls []) by rw [hH, hlo] at hgo; exact hgo
  refine lv_aload_n hx hb dX0_weighAllWords_0 rfl (lv_at hl 0 rfl) ?_
  refine va_get (D := (dC, dI)) (ci := 0) (v := .ref w0) (C := RX0) (T := TX0) (N := 5) hx hb hts hin0 hown hK hP 0 rfl rfl 0 (by decide) fl_9 (fun _ h9 => h9) rfl dX0_weighAllWords_1 ?_
  refine lv_iconst (v := (1 : Int32)) hx hb dX0_weighAllWords_4 (by decide) ?_
  refine lv_lconst (v := (1 : Int64)) hx hb dX0_weighAllWords_5 (by decide) ?_
  have z1 := hw.1
  have hw := hw.2
  refine va_last hx hb hK hP hD hS 1 0 rfl rfl z1 dX0_weighAllWords_6 (fun H locs hP hD hS => ?_)
  have hP : va_P (dC, dI) vwCl [(h0, .inr (0, [.ref w0, .ref w1, .int σ.1, .int σ.2.1, .int σ.2.2.1])), (w0, .inl (cJ, 512, .inr (.inl ((vp_updL σ.2.2.2.1 (1 : Int32).toNatClampNeg (1 : Int64)))))), (w1, .inl (cJ, 9, .inr (.inl (σ.2.2.2.2))))] H := hP
  have hD : va_D A [(h0, .inr (0, [.ref w0, .ref w1, .int σ.1, .int σ.2.1, .int σ.2.2.1])), (w0, .inl (cJ, 512, .inr (.inl ((vp_updL σ.2.2.2.1 (1 : Int32).toNatClampNeg (1 : Int64)))))), (w1, .inl (cJ, 9, .inr (.inl (σ.2.2.2.2))))] := hD
  refine lv_aload_n hx hb dX0_weighAllWords_7 rfl (lv_at hl 0 rfl) ?_
  refine va_get (D := (dC, dI)) (ci := 0) (v := .ref w1) (C := RX0) (T := TX0) (N := 5) hx hb hts hin0 hown hK hP 0 rfl rfl 1 (by decide) fl_15 (fun _ h9 => h9) rfl dX0_weighAllWords_8 ?_
  refine lv_iconst (v := (0 : Int32)) hx hb dX0_weighAllWords_11 (by decide) ?_
  refine lv_lconst (v := (1 : Int64)) hx hb dX0_weighAllWords_12 (by decide) ?_
  have z2 := hw.1
  have hw := hw.2
  refine va_last hx hb hK hP hD hS 2 0 rfl rfl z2 dX0_weighAllWords_13 (fun H locs hP hD hS => ?_)
  have hP : va_P (dC, dI) vwCl [(h0, .inr (0, [.ref w0, .ref w1, .int σ.1, .int σ.2.1, .int σ.2.2.1])), (w0, .inl (cJ, 512, .inr (.inl ((vp_updL σ.2.2.2.1 (1 : Int32).toNatClampNeg (1 : Int64)))))), (w1, .inl (cJ, 9, .inr (.inl ((vp_updL σ.2.2.2.2 (0 : Int32).toNatClampNeg (1 : Int64))))))] H := hP
  have hD : va_D A [(h0, .inr (0, [.ref w0, .ref w1, .int σ.1, .int σ.2.1, .int σ.2.2.1])), (w0, .inl (cJ, 512, .inr (.inl ((vp_updL σ.2.2.2.1 (1 : Int32).toNatClampNeg (1 : Int64)))))), (w1, .inl (cJ, 9, .inr (.inl ((vp_updL σ.2.2.2.2 (0 : Int32).toNatClampNeg (1 : Int64))))))] := hD
  refine lv_iconst (v := (1 : Int32)) hx hb dX0_weighAllWords_14 (by decide) ?_
  refine lv_istore_n (lv' := [(1, .int (1 : Int32)), (0, .ref h0)]) hx hb dX0_weighAllWords_15 rfl hl (by decide) rfl (fun ls hl => ?_)
  refine L16  (20000) (1 : Int32) (σ.1, σ.2.1, σ.2.2.1, (vp_updL σ.2.2.2.1 (1 : Int32).toNatClampNeg (1 : Int64)), (vp_updL σ.2.2.2.2 (0 : Int32).toNatClampNeg (1 : Int64))) _ hw (fun x1_12 σ13 hw H locs ls hP hD hS hl => ?_) H locs ls hP hD hS (lv_sub hl [0, 1] rfl)
  exact W.vret hx hb hr (fun t ht hW => ⟨⟨((cl0 h0 w0 w1 cJ σ13)), rfl, ⟨σ13, hw, rfl⟩, by rw [ht]; exact hP, va_K.moved hW.alike hK, hD⟩, hS.F ht⟩) hS.2.2 dX0_weighAllWords_81
set_option maxHeartbeats 4000000 in
set_option maxRecDepth 100000 in
theorem c_X0_become (l : Launch) (dC : Nat → ClassId) (dI : Nat → Nat → Nat) (h0 w0 w1 : Nat) (cJ : ClassId) (σ : SC) (p0 : Int32) (p1 : Int32) (p2 : Int32) (post : SC → Prop) (hw : wp_X0_become p0 p1 p2 σ post) : KV l yX0_become wsX0_become ({ frames := 4, cells := 0, slots := 0, locals := 94 } : Room) (dC, dI) [(cJ, .long)] (cl0 h0 w0 w1 cJ σ) [.ref h0, .int p0, .int p1, .int p2] (fun u => ∃ σ', post σ' ∧ u = (cl0 h0 w0 w1 cJ (σ'))) := by
  intro sz
  refine Met.ofW (cc := cX0_become) (maxL := 4) (ret := none) (by decide) rfl ?_
  intro p e s m args below meth c s₁ B hml hv
  obtain ⟨rfl, hsz, hP, hK, hD0, hnw⟩ := hv
  have hx := B.exec
  have hb := B.bytes
  have hr := B.returns
  have hts := atoms_spec (ws := wsX0_become) B.pre
  have hown : s.vm.findClass RX0 = some m.cls := findClass_of_methodNamed B.named
  have hlocks := B.notSynchronized
  subst hsz
  have hD := hD0.self (sz := s.heap.size)
  generalize hAe : va_A (cl0 h0 w0 w1 cJ σ) s.heap.size = A at hD ⊢
  have hA : ∀ q : Nat, s.heap.size ≤ q → A q := fun q h => by rw [← hAe]; exact Or.inr h
  have hS : va_S A s.heap s.heap [] := va_S.rf
  have hP : va_P (dC, dI) vwCl [(h0, .inr (0, [.ref w0, .ref w1, .int σ.1, .int σ.2.1, .int σ.2.2.1])), (w0, .inl (cJ, 512, .inr (.inl (σ.2.2.2.1)))), (w1, .inl (cJ, 9, .inr (.inl (σ.2.2.2.2))))] s.heap := hP
  have hD : va_D A [(h0, .inr (0, [.ref w0, .ref w1, .int σ.1, .int σ.2.1, .int σ.2.2.1])), (w0, .inl (cJ, 512, .inr (.inl (σ.2.2.2.1)))), (w1, .inl (cJ, 9, .inr (.inl (σ.2.2.2.2))))] := hD
  have fl_22 := hts (.fieldLink RX0 22 "OnePlaceEach$Chain" "places" "I") (by decide +kernel)
  have fl_26 := hts (.fieldLink RX0 26 "OnePlaceEach$Chain" "x" "I") (by decide +kernel)
  have fl_29 := hts (.fieldLink RX0 29 "OnePlaceEach$Chain" "y" "I") (by decide +kernel)
  have hin0 : ∀ w ∈ wsX00, w ∈ wsX0_become := by decide +kernel
  have hl := lv_entry ([.ref h0, .int p0, .int p1, .int p2]) (n := 4) (Nat.le_of_ble_eq_true rfl)
  rw [lg_entry_eq]
  generalize (lg_sl ([.ref h0, .int p0, .int p1, .int p2]) ++ List.replicate (4 - (lg_sl ([.ref h0, .int p0, .int p1, .int p2])).length) Slot.unset).toArray = ls at hl ⊢
  have hl : lv_has ls 4 [(0, .ref h0), (1, .int p0), (2, .int p1), (3, .int p2)] := hl
  unfold wp_X0_become at hw
  skip
  obtain ⟨H, hH⟩ : ∃ H, H = s.heap := ⟨_, rfl⟩
  obtain ⟨locs, hlo⟩ : ∃ q : List Loc, q = [] := ⟨_, rfl⟩
  rw [← hH] at hP
  have hS : va_S A s.heap H locs := by rw [hH, hlo]; exact hS
  suffices hgo : W p l e (headSpec wsX0_become ({ frames := 4, cells := 0, slots := 0, locals := 94 } : Room)).room s m _ below meth c H locs 0 0 _ (F0 m 0 ls []) by rw [hH, hlo] at hgo; exact hgo
  refine lv_aload_n hx hb dX0_become_0 rfl (lv_at hl 0 rfl) ?_
  refine lv_iload_n hx hb dX0_become_1 rfl (lv_at hl 1 rfl) ?_
  refine va_put (D := (dC, dI)) (ci := 0) (v := .int p0) (ty := .int) (C := RX0) (T := TX0) (N := 5) hx hb hts hin0 tyX0 tyX0_ok nmX0 hown hK hP hD hS 0 rfl rfl 2 (by decide) fl_22 (fun _ h9 => h9) rfl (by decide +kernel) rfl rfl (Nat.le_of_ble_eq_true rfl) dX0_become_2 (fun H locs hP hD hS => ?_)
  have hP : va_P (dC, dI) vwCl [(h0, .inr (0, [.ref w0, .ref w1, .int p0, .int σ.2.1, .int σ.2.2.1])), (w0, .inl (cJ, 512, .inr (.inl (σ.2.2.2.1)))), (w1, .inl (cJ, 9, .inr (.inl (σ.2.2.2.2))))] H := hP
  have hD : va_D A [(h0, .inr (0, [.ref w0, .ref w1, .int p0, .int σ.2.1, .int σ.2.2.1])), (w0, .inl (cJ, 512, .inr (.inl (σ.2.2.2.1)))), (w1, .inl (cJ, 9, .inr (.inl (σ.2.2.2.2))))] := hD
  refine lv_iload_n hx hb dX0_become_5 rfl (lv_at hl 2 rfl) ?_
  refine lv_aload_n hx hb dX0_become_6 rfl (lv_at hl 0 rfl) ?_
  refine va_get (D := (dC, dI)) (ci := 0) (v := .int σ.2.1) (C := RX0) (T := TX0) (N := 5) hx hb hts hin0 hown hK hP 0 rfl rfl 3 (by decide) fl_26 (fun _ h9 => h9) rfl dX0_become_7 ?_
  refine lv_icmp_ne (tgt := 21) hx hb dX0_become_10 (by decide) (fun c1 => ?_) (fun c1 => ?_)
  · have hw := hw.1 c1
    refine lv_aload_n hx hb dX0_become_21 rfl (lv_at hl 0 rfl) ?_
    refine lv_iload_n hx hb dX0_become_22 rfl (lv_at hl 2 rfl) ?_
    refine va_put (D := (dC, dI)) (ci := 0) (v := .int p1) (ty := .int) (C := RX0) (T := TX0) (N := 5) hx hb hts hin0 tyX0 tyX0_ok nmX0 hown hK hP hD hS 0 rfl rfl 3 (by decide) fl_26 (fun _ h9 => h9) rfl (by decide +kernel) rfl rfl (Nat.le_of_ble_eq_true rfl) dX0_become_23 (fun H locs hP hD hS => ?_)
    have hP : va_P (dC, dI) vwCl [(h0, .inr (0, [.ref w0, .ref w1, .int p0, .int p1, .int σ.2.2.1])), (w0, .inl (cJ, 512, .inr (.inl (σ.2.2.2.1)))), (w1, .inl (cJ, 9, .inr (.inl (σ.2.2.2.2))))] H := hP
    have hD : va_D A [(h0, .inr (0, [.ref w0, .ref w1, .int p0, .int p1, .int σ.2.2.1])), (w0, .inl (cJ, 512, .inr (.inl (σ.2.2.2.1)))), (w1, .inl (cJ, 9, .inr (.inl (σ.2.2.2.2))))] := hD
    refine lv_aload_n hx hb dX0_become_26 rfl (lv_at hl 0 rfl) ?_
    refine lv_iload_n hx hb dX0_become_27 rfl (lv_at hl 3 rfl) ?_
    refine va_put (D := (dC, dI)) (ci := 0) (v := .int p2) (ty := .int) (C := RX0) (T := TX0) (N := 5) hx hb hts hin0 tyX0 tyX0_ok nmX0 hown hK hP hD hS 0 rfl rfl 4 (by decide) fl_29 (fun _ h9 => h9) rfl (by decide +kernel) rfl rfl (Nat.le_of_ble_eq_true rfl) dX0_become_28 (fun H locs hP hD hS => ?_)
    have hP : va_P (dC, dI) vwCl [(h0, .inr (0, [.ref w0, .ref w1, .int p0, .int p1, .int p2])), (w0, .inl (cJ, 512, .inr (.inl (σ.2.2.2.1)))), (w1, .inl (cJ, 9, .inr (.inl (σ.2.2.2.2))))] H := hP
    have hD : va_D A [(h0, .inr (0, [.ref w0, .ref w1, .int p0, .int p1, .int p2])), (w0, .inl (cJ, 512, .inr (.inl (σ.2.2.2.1)))), (w1, .inl (cJ, 9, .inr (.inl (σ.2.2.2.2))))] := hD
    refine lv_aload_n hx hb dX0_become_31 rfl (lv_at hl 0 rfl) ?_
    have hPc := hP
    have hDc := hD
    have hKc := hK
    have hFc := va_free (wc := [(h0, .inr (0, [.ref w0, .ref w1, .int p0, .int p1, .int p2])), (w0, .inl (cJ, 512, .inr (.inl (σ.2.2.2.1)))), (w1, .inl (cJ, 9, .inr (.inl (σ.2.2.2.2))))]) hD hS hA [0, 1, 2] rfl
    refine kc_v (wr := ([] : va_W)) (kr_V (As := []) (rest := []) (b := h0) (ws := [(h0, .inr (0, [.ref w0, .ref w1, .int p0, .int p1, .int p2])), (w0, .inl (cJ, 512, .inr (.inl (σ.2.2.2.1)))), (w1, .inl (cJ, 9, .inr (.inl (σ.2.2.2.2))))]) ⟨hx, hb, hml, hown, hts⟩ (c_X0_weighAllWords l dC dI h0 w0 w1 cJ (p0, p1, p2, σ.2.2.2.1, σ.2.2.2.2)  _ hw H.size) (cwV 0 hts gX0_become_X0_weighAllWords rfl rfl rfl (by decide +kernel) ⟨Nat.le_of_ble_eq_true rfl, Nat.le_of_ble_eq_true rfl⟩) 0 0 hK rfl rfl rfl hKc hnw hP hD hPc hDc rfl hl.1 rfl (Nat.le_of_ble_eq_true rfl) dX0_become_32 ⟨Nat.zero_le _, Nat.zero_le _⟩) hP hD hS hFc [0, 1, 2] [] rfl rfl (by decide) (by decide) (fun u1 H locs hq hP hD hS => ?_)
    obtain ⟨σ3, hw, rfl⟩ := hq
    have hP : va_P (dC, dI) vwCl [(h0, .inr (0, [.ref w0, .ref w1, .int σ3.1, .int σ3.2.1, .int σ3.2.2.1])), (w0, .inl (cJ, 512, .inr (.inl (σ3.2.2.2.1)))), (w1, .inl (cJ, 9, .inr (.inl (σ3.2.2.2.2))))] H := hP
    have hD : va_D A [(h0, .inr (0, [.ref w0, .ref w1, .int σ3.1, .int σ3.2.1, .int σ3.2.2.1])), (w0, .inl (cJ, 512, .inr (.inl (σ3.2.2.2.1)))), (w1, .inl (cJ, 9, .inr (.inl (σ3.2.2.2.2))))] := hD
    exact W.vret hx hb hr (fun t ht hW => ⟨⟨((cl0 h0 w0 w1 cJ σ3)), rfl, ⟨σ3, hw, rfl⟩, by rw [ht]; exact hP, va_K.moved hW.alike hK, hD⟩, hS.F ht⟩) hS.2.2 dX0_become_35
  · have hw := hw.2 c1
    refine lv_iload_n hx hb dX0_become_13 rfl (lv_at hl 3 rfl) ?_
    refine lv_aload_n hx hb dX0_become_14 rfl (lv_at hl 0 rfl) ?_
    refine va_get (D := (dC, dI)) (ci := 0) (v := .int σ.2.2.1) (C := RX0) (T := TX0) (N := 5) hx hb hts hin0 hown hK hP 0 rfl rfl 4 (by decide) fl_29 (fun _ h9 => h9) rfl dX0_become_15 ?_
    refine lv_icmp_eq (tgt := 35) hx hb dX0_become_18 (by decide) (fun c4 => ?_) (fun c4 => ?_)
    · have hw := hw.1 c4
      exact W.vret hx hb hr (fun t ht hW => ⟨⟨((cl0 h0 w0 w1 cJ (p0, σ.2.1, σ.2.2.1, σ.2.2.2.1, σ.2.2.2.2))), rfl, ⟨(p0, σ.2.1, σ.2.2.1, σ.2.2.2.1, σ.2.2.2.2), hw, rfl⟩, by rw [ht]; exact hP, va_K.moved hW.alike hK, hD⟩, hS.F ht⟩) hS.2.2 dX0_become_35
    · have hw := hw.2 c4
      refine lv_aload_n hx hb dX0_become_21 rfl (lv_at hl 0 rfl) ?_
      refine lv_iload_n hx hb dX0_become_22 rfl (lv_at hl 2 rfl) ?_
      refine va_put (D := (dC, dI)) (ci := 0) (v := .int p1) (ty := .int) (C := RX0) (T := TX0) (N := 5) hx hb hts hin0 tyX0 tyX0_ok nmX0 hown hK hP hD hS 0 rfl rfl 3 (by decide) fl_26 (fun _ h9 => h9) rfl (by decide +kernel) rfl rfl (Nat.le_of_ble_eq_true rfl) dX0_become_23 (fun H locs hP hD hS => ?_)
      have hP : va_P (dC, dI) vwCl [(h0, .inr (0, [.ref w0, .ref w1, .int p0, .int p1, .int σ.2.2.1])), (w0, .inl (cJ, 512, .inr (.inl (σ.2.2.2.1)))), (w1, .inl (cJ, 9, .inr (.inl (σ.2.2.2.2))))] H := hP
      have hD : va_D A [(h0, .inr (0, [.ref w0, .ref w1, .int p0, .int p1, .int σ.2.2.1])), (w0, .inl (cJ, 512, .inr (.inl (σ.2.2.2.1)))), (w1, .inl (cJ, 9, .inr (.inl (σ.2.2.2.2))))] := hD
      refine lv_aload_n hx hb dX0_become_26 rfl (lv_at hl 0 rfl) ?_
      refine lv_iload_n hx hb dX0_become_27 rfl (lv_at hl 3 rfl) ?_
      refine va_put (D := (dC, dI)) (ci := 0) (v := .int p2) (ty := .int) (C := RX0) (T := TX0) (N := 5) hx hb hts hin0 tyX0 tyX0_ok nmX0 hown hK hP hD hS 0 rfl rfl 4 (by decide) fl_29 (fun _ h9 => h9) rfl (by decide +kernel) rfl rfl (Nat.le_of_ble_eq_true rfl) dX0_become_28 (fun H locs hP hD hS => ?_)
      have hP : va_P (dC, dI) vwCl [(h0, .inr (0, [.ref w0, .ref w1, .int p0, .int p1, .int p2])), (w0, .inl (cJ, 512, .inr (.inl (σ.2.2.2.1)))), (w1, .inl (cJ, 9, .inr (.inl (σ.2.2.2.2))))] H := hP
      have hD : va_D A [(h0, .inr (0, [.ref w0, .ref w1, .int p0, .int p1, .int p2])), (w0, .inl (cJ, 512, .inr (.inl (σ.2.2.2.1)))), (w1, .inl (cJ, 9, .inr (.inl (σ.2.2.2.2))))] := hD
      refine lv_aload_n hx hb dX0_become_31 rfl (lv_at hl 0 rfl) ?_
      have hPc := hP
      have hDc := hD
      have hKc := hK
      have hFc := va_free (wc := [(h0, .inr (0, [.ref w0, .ref w1, .int p0, .int p1, .int p2])), (w0, .inl (cJ, 512, .inr (.inl (σ.2.2.2.1)))), (w1, .inl (cJ, 9, .inr (.inl (σ.2.2.2.2))))]) hD hS hA [0, 1, 2] rfl
      refine kc_v (wr := ([] : va_W)) (kr_V (As := []) (rest := []) (b := h0) (ws := [(h0, .inr (0, [.ref w0, .ref w1, .int p0, .int p1, .int p2])), (w0, .inl (cJ, 512, .inr (.inl (σ.2.2.2.1)))), (w1, .inl (cJ, 9, .inr (.inl (σ.2.2.2.2))))]) ⟨hx, hb, hml, hown, hts⟩ (c_X0_weighAllWords l dC dI h0 w0 w1 cJ (p0, p1, p2, σ.2.2.2.1, σ.2.2.2.2)  _ hw H.size) (cwV 0 hts gX0_become_X0_weighAllWords rfl rfl rfl (by decide +kernel) ⟨Nat.le_of_ble_eq_true rfl, Nat.le_of_ble_eq_true rfl⟩) 0 0 hK rfl rfl rfl hKc hnw hP hD hPc hDc rfl hl.1 rfl (Nat.le_of_ble_eq_true rfl) dX0_become_32 ⟨Nat.zero_le _, Nat.zero_le _⟩) hP hD hS hFc [0, 1, 2] [] rfl rfl (by decide) (by decide) (fun u1 H locs hq hP hD hS => ?_)
      obtain ⟨σ6, hw, rfl⟩ := hq
      have hP : va_P (dC, dI) vwCl [(h0, .inr (0, [.ref w0, .ref w1, .int σ6.1, .int σ6.2.1, .int σ6.2.2.1])), (w0, .inl (cJ, 512, .inr (.inl (σ6.2.2.2.1)))), (w1, .inl (cJ, 9, .inr (.inl (σ6.2.2.2.2))))] H := hP
      have hD : va_D A [(h0, .inr (0, [.ref w0, .ref w1, .int σ6.1, .int σ6.2.1, .int σ6.2.2.1])), (w0, .inl (cJ, 512, .inr (.inl (σ6.2.2.2.1)))), (w1, .inl (cJ, 9, .inr (.inl (σ6.2.2.2.2))))] := hD
      exact W.vret hx hb hr (fun t ht hW => ⟨⟨((cl0 h0 w0 w1 cJ σ6)), rfl, ⟨σ6, hw, rfl⟩, by rw [ht]; exact hP, va_K.moved hW.alike hK, hD⟩, hS.F ht⟩) hS.2.2 dX0_become_35
set_option maxHeartbeats 4000000 in
set_option maxRecDepth 100000 in
theorem c_X0_countPlaces (l : Launch) (dC : Nat → ClassId) (dI : Nat → Nat → Nat) (h0 w0 w1 : Nat) (cJ : ClassId) (σ : SC)  (post : Int32 → Prop) (hw : wp_X0_countPlaces  σ post) : KI l yX0_countPlaces wsX0_countPlaces ({ frames := 0, cells := 0, slots := 0, locals := 0 } : Room) (dC, dI) [(cJ, .long)] (cl0 h0 w0 w1 cJ σ) [.ref h0] (fun r u => post r ∧ u = (cl0 h0 w0 w1 cJ σ)) := by
  intro sz
  refine Met.ofW (cc := cX0_countPlaces) (maxL := 1) (ret := (some .int)) (by decide) rfl ?_
  intro p e s m args below meth c s₁ B hml hv
  obtain ⟨rfl, hsz, hP, hK, hD0, hnw⟩ := hv
  have hx := B.exec
  have hb := B.bytes
  have hr := B.returns
  have hts := atoms_spec (ws := wsX0_countPlaces) B.pre
  have hown : s.vm.findClass RX0 = some m.cls := findClass_of_methodNamed B.named
  have hlocks := B.notSynchronized
  subst hsz
  have hD := hD0.self (sz := s.heap.size)
  generalize hAe : va_A (cl0 h0 w0 w1 cJ σ) s.heap.size = A at hD ⊢
  have hA : ∀ q : Nat, s.heap.size ≤ q → A q := fun q h => by rw [← hAe]; exact Or.inr h
  have hS : va_S A s.heap s.heap [] := va_S.rf
  have hP : va_P (dC, dI) vwCl [(h0, .inr (0, [.ref w0, .ref w1, .int σ.1, .int σ.2.1, .int σ.2.2.1])), (w0, .inl (cJ, 512, .inr (.inl (σ.2.2.2.1)))), (w1, .inl (cJ, 9, .inr (.inl (σ.2.2.2.2))))] s.heap := hP
  have hD : va_D A [(h0, .inr (0, [.ref w0, .ref w1, .int σ.1, .int σ.2.1, .int σ.2.2.1])), (w0, .inl (cJ, 512, .inr (.inl (σ.2.2.2.1)))), (w1, .inl (cJ, 9, .inr (.inl (σ.2.2.2.2))))] := hD
  have fl_22 := hts (.fieldLink RX0 22 "OnePlaceEach$Chain" "places" "I") (by decide +kernel)
  have hin0 : ∀ w ∈ wsX00, w ∈ wsX0_countPlaces := by decide +kernel
  have hl := lv_entry ([.ref h0]) (n := 1) (Nat.le_of_ble_eq_true rfl)
  rw [lg_entry_eq]
  generalize (lg_sl ([.ref h0]) ++ List.replicate (1 - (lg_sl ([.ref h0])).length) Slot.unset).toArray = ls at hl ⊢
  have hl : lv_has ls 1 [(0, .ref h0)] := hl
  unfold wp_X0_countPlaces at hw
  skip
  obtain ⟨H, hH⟩ : ∃ H, H = s.heap := ⟨_, rfl⟩
  obtain ⟨locs, hlo⟩ : ∃ q : List Loc, q = [] := ⟨_, rfl⟩
  rw [← hH] at hP
  have hS : va_S A s.heap H locs := by rw [hH, hlo]; exact hS
  suffices hgo : W p l e (headSpec wsX0_countPlaces ({ frames := 0, cells := 0, slots := 0, locals := 0 } : Room)).room s m _ below meth c H locs 0 0 _ (F0 m 0 ls []) by rw [hH, hlo] at hgo; exact hgo
  refine lv_aload_n hx hb dX0_countPlaces_0 rfl (lv_at hl 0 rfl) ?_
  refine va_get (D := (dC, dI)) (ci := 0) (v := .int σ.1) (C := RX0) (T := TX0) (N := 5) hx hb hts hin0 hown hK hP 0 rfl rfl 2 (by decide) fl_22 (fun _ h9 => h9) rfl dX0_countPlaces_1 ?_
  exact W.iret (v := σ.1) hx hb hr (fun t ht hW => ⟨⟨σ.1, ((cl0 h0 w0 w1 cJ σ)), rfl, ⟨hw, rfl⟩, by rw [ht]; exact hP, va_K.moved hW.alike hK, hD⟩, hS.F ht⟩) hS.2.2 dX0_countPlaces_4
set_option maxHeartbeats 4000000 in
set_option maxRecDepth 100000 in
theorem c_X0_countStates (l : Launch) (dC : Nat → ClassId) (dI : Nat → Nat → Nat) (h0 w0 w1 : Nat) (cJ : ClassId) (σ : SC)  (post : Int32 → Prop) (hw : wp_X0_countStates  σ post) : KI l yX0_countStates wsX0_countStates ({ frames := 0, cells := 0, slots := 0, locals := 0 } : Room) (dC, dI) [(cJ, .long)] (cl0 h0 w0 w1 cJ σ) [.ref h0] (fun r u => post r ∧ u = (cl0 h0 w0 w1 cJ σ)) := by
  intro sz
  refine Met.ofW (cc := cX0_countStates) (maxL := 1) (ret := (some .int)) (by decide) rfl ?_
  intro p e s m args below meth c s₁ B hml hv
  obtain ⟨rfl, hsz, hP, hK, hD0, hnw⟩ := hv
  have hx := B.exec
  have hb := B.bytes
  have hr := B.returns
  have hts := atoms_spec (ws := wsX0_countStates) B.pre
  have hown : s.vm.findClass RX0 = some m.cls := findClass_of_methodNamed B.named
  have hlocks := B.notSynchronized
  subst hsz
  have hD := hD0.self (sz := s.heap.size)
  generalize hAe : va_A (cl0 h0 w0 w1 cJ σ) s.heap.size = A at hD ⊢
  have hA : ∀ q : Nat, s.heap.size ≤ q → A q := fun q h => by rw [← hAe]; exact Or.inr h
  have hS : va_S A s.heap s.heap [] := va_S.rf
  have hP : va_P (dC, dI) vwCl [(h0, .inr (0, [.ref w0, .ref w1, .int σ.1, .int σ.2.1, .int σ.2.2.1])), (w0, .inl (cJ, 512, .inr (.inl (σ.2.2.2.1)))), (w1, .inl (cJ, 9, .inr (.inl (σ.2.2.2.2))))] s.heap := hP
  have hD : va_D A [(h0, .inr (0, [.ref w0, .ref w1, .int σ.1, .int σ.2.1, .int σ.2.2.1])), (w0, .inl (cJ, 512, .inr (.inl (σ.2.2.2.1)))), (w1, .inl (cJ, 9, .inr (.inl (σ.2.2.2.2))))] := hD
  have fl_22 := hts (.fieldLink RX0 22 "OnePlaceEach$Chain" "places" "I") (by decide +kernel)
  have hin0 : ∀ w ∈ wsX00, w ∈ wsX0_countStates := by decide +kernel
  have hl := lv_entry ([.ref h0]) (n := 1) (Nat.le_of_ble_eq_true rfl)
  rw [lg_entry_eq]
  generalize (lg_sl ([.ref h0]) ++ List.replicate (1 - (lg_sl ([.ref h0])).length) Slot.unset).toArray = ls at hl ⊢
  have hl : lv_has ls 1 [(0, .ref h0)] := hl
  unfold wp_X0_countStates at hw
  skip
  obtain ⟨H, hH⟩ : ∃ H, H = s.heap := ⟨_, rfl⟩
  obtain ⟨locs, hlo⟩ : ∃ q : List Loc, q = [] := ⟨_, rfl⟩
  rw [← hH] at hP
  have hS : va_S A s.heap H locs := by rw [hH, hlo]; exact hS
  suffices hgo : W p l e (headSpec wsX0_countStates ({ frames := 0, cells := 0, slots := 0, locals := 0 } : Room)).room s m _ below meth c H locs 0 0 _ (F0 m 0 ls []) by rw [hH, hlo] at hgo; exact hgo
  refine lv_iconst (v := (1 : Int32)) hx hb dX0_countStates_0 (by decide) ?_
  refine lv_aload_n hx hb dX0_countStates_1 rfl (lv_at hl 0 rfl) ?_
  refine va_get (D := (dC, dI)) (ci := 0) (v := .int σ.1) (C := RX0) (T := TX0) (N := 5) hx hb hts hin0 hown hK hP 0 rfl rfl 2 (by decide) fl_22 (fun _ h9 => h9) rfl dX0_countStates_2 ?_
  refine lv_ishl hx hb dX0_countStates_5 ?_
  exact W.iret (v := ((1 : Int32) <<< (σ.1 &&& (31 : Int32)))) hx hb hr (fun t ht hW => ⟨⟨((1 : Int32) <<< (σ.1 &&& (31 : Int32))), ((cl0 h0 w0 w1 cJ σ)), rfl, ⟨hw, rfl⟩, by rw [ht]; exact hP, va_K.moved hW.alike hK, hD⟩, hS.F ht⟩) hS.2.2 dX0_countStates_6
set_option maxHeartbeats 4000000 in
set_option maxRecDepth 100000 in
theorem c_X0_hasState (l : Launch) (dC : Nat → ClassId) (dI : Nat → Nat → Nat) (h0 w0 w1 : Nat) (cJ : ClassId) (σ : SC) (p0 : Int32) (post : Int32 → Prop) (hw : wp_X0_hasState p0 σ post) : KI l yX0_hasState wsX0_hasState ({ frames := 1, cells := 0, slots := 0, locals := 20 } : Room) (dC, dI) [(cJ, .long)] (cl0 h0 w0 w1 cJ σ) [.ref h0, .int p0] (fun r u => post r ∧ u = (cl0 h0 w0 w1 cJ σ)) := by
  intro sz
  refine Met.ofW (cc := cX0_hasState) (maxL := 2) (ret := (some .boolean)) (by decide) rfl ?_
  intro p e s m args below meth c s₁ B hml hv
  obtain ⟨rfl, hsz, hP, hK, hD0, hnw⟩ := hv
  have hx := B.exec
  have hb := B.bytes
  have hr := B.returns
  have hts := atoms_spec (ws := wsX0_hasState) B.pre
  have hown : s.vm.findClass RX0 = some m.cls := findClass_of_methodNamed B.named
  have hlocks := B.notSynchronized
  subst hsz
  have hD := hD0.self (sz := s.heap.size)
  generalize hAe : va_A (cl0 h0 w0 w1 cJ σ) s.heap.size = A at hD ⊢
  have hA : ∀ q : Nat, s.heap.size ≤ q → A q := fun q h => by rw [← hAe]; exact Or.inr h
  have hS : va_S A s.heap s.heap [] := va_S.rf
  have hP : va_P (dC, dI) vwCl [(h0, .inr (0, [.ref w0, .ref w1, .int σ.1, .int σ.2.1, .int σ.2.2.1])), (w0, .inl (cJ, 512, .inr (.inl (σ.2.2.2.1)))), (w1, .inl (cJ, 9, .inr (.inl (σ.2.2.2.2))))] s.heap := hP
  have hD : va_D A [(h0, .inr (0, [.ref w0, .ref w1, .int σ.1, .int σ.2.1, .int σ.2.2.1])), (w0, .inl (cJ, 512, .inr (.inl (σ.2.2.2.1)))), (w1, .inl (cJ, 9, .inr (.inl (σ.2.2.2.2))))] := hD
  have hl := lv_entry ([.ref h0, .int p0]) (n := 2) (Nat.le_of_ble_eq_true rfl)
  rw [lg_entry_eq]
  generalize (lg_sl ([.ref h0, .int p0]) ++ List.replicate (2 - (lg_sl ([.ref h0, .int p0])).length) Slot.unset).toArray = ls at hl ⊢
  have hl : lv_has ls 2 [(0, .ref h0), (1, .int p0)] := hl
  unfold wp_X0_hasState at hw
  skip
  obtain ⟨H, hH⟩ : ∃ H, H = s.heap := ⟨_, rfl⟩
  obtain ⟨locs, hlo⟩ : ∃ q : List Loc, q = [] := ⟨_, rfl⟩
  rw [← hH] at hP
  have hS : va_S A s.heap H locs := by rw [hH, hlo]; exact hS
  suffices hgo : W p l e (headSpec wsX0_hasState ({ frames := 1, cells := 0, slots := 0, locals := 20 } : Room)).room s m _ below meth c H locs 0 0 _ (F0 m 0 ls []) by rw [hH, hlo] at hgo; exact hgo
  refine lv_iload_n hx hb dX0_hasState_0 rfl (lv_at hl 1 rfl) ?_
  refine lv_if_lt (tgt := 16) hx hb dX0_hasState_1 (by decide) (fun c1 => ?_) (fun c1 => ?_)
  · have hw := hw.1 c1
    refine lv_iconst (v := (0 : Int32)) hx hb dX0_hasState_16 (by decide) ?_
    exact W.zret (v := (0 : Int32)) hx hb hr (nb_nar nb_0) (fun t ht hW => ⟨⟨(0 : Int32), ((cl0 h0 w0 w1 cJ σ)), rfl, ⟨hw, rfl⟩, by rw [ht]; exact hP, va_K.moved hW.alike hK, hD⟩, hS.F ht⟩) hS.2.2 dX0_hasState_17
  · have hw := hw.2 c1
    refine lv_iload_n hx hb dX0_hasState_4 rfl (lv_at hl 1 rfl) ?_
    refine lv_aload_n hx hb dX0_hasState_5 rfl (lv_at hl 0 rfl) ?_
    have hPc := hP
    have hDc := hD
    have hKc := hK
    have hFc := va_free (wc := [(h0, .inr (0, [.ref w0, .ref w1, .int σ.1, .int σ.2.1, .int σ.2.2.1])), (w0, .inl (cJ, 512, .inr (.inl (σ.2.2.2.1)))), (w1, .inl (cJ, 9, .inr (.inl (σ.2.2.2.2))))]) hD hS hA [0, 1, 2] rfl
    refine kc_i (wr := ([] : va_W)) (kr_V (As := []) (rest := [.int p0]) (b := h0) (ws := [(h0, .inr (0, [.ref w0, .ref w1, .int σ.1, .int σ.2.1, .int σ.2.2.1])), (w0, .inl (cJ, 512, .inr (.inl (σ.2.2.2.1)))), (w1, .inl (cJ, 9, .inr (.inl (σ.2.2.2.2))))]) ⟨hx, hb, hml, hown, hts⟩ (c_X0_countStates l dC dI h0 w0 w1 cJ σ  _ hw H.size) (cwV 0 hts gX0_hasState_X0_countStates rfl rfl rfl (by decide +kernel) ⟨Nat.le_of_ble_eq_true rfl, Nat.le_of_ble_eq_true rfl⟩) 0 0 hK rfl rfl rfl hKc hnw hP hD hPc hDc rfl hl.1 rfl (Nat.le_of_ble_eq_true rfl) dX0_hasState_6 ⟨Nat.zero_le _, Nat.zero_le _⟩) hP hD hS hFc [0, 1, 2] [] rfl rfl (by decide) (by decide) (fun r2 u1 H locs hq hP hD hS => ?_)
    obtain ⟨hw, rfl⟩ := hq
    have hP : va_P (dC, dI) vwCl [(h0, .inr (0, [.ref w0, .ref w1, .int σ.1, .int σ.2.1, .int σ.2.2.1])), (w0, .inl (cJ, 512, .inr (.inl (σ.2.2.2.1)))), (w1, .inl (cJ, 9, .inr (.inl (σ.2.2.2.2))))] H := hP
    have hD : va_D A [(h0, .inr (0, [.ref w0, .ref w1, .int σ.1, .int σ.2.1, .int σ.2.2.1])), (w0, .inl (cJ, 512, .inr (.inl (σ.2.2.2.1)))), (w1, .inl (cJ, 9, .inr (.inl (σ.2.2.2.2))))] := hD
    refine lv_icmp_ge (tgt := 16) hx hb dX0_hasState_9 (by decide) (fun c4 => ?_) (fun c4 => ?_)
    · have hw := hw.1 c4
      refine lv_iconst (v := (0 : Int32)) hx hb dX0_hasState_16 (by decide) ?_
      exact W.zret (v := (0 : Int32)) hx hb hr (nb_nar nb_0) (fun t ht hW => ⟨⟨(0 : Int32), ((cl0 h0 w0 w1 cJ σ)), rfl, ⟨hw, rfl⟩, by rw [ht]; exact hP, va_K.moved hW.alike hK, hD⟩, hS.F ht⟩) hS.2.2 dX0_hasState_17
    · have hw := hw.2 c4
      refine lv_iconst (v := (1 : Int32)) hx hb dX0_hasState_12 (by decide) ?_
      refine lv_goto (tgt := 17) hx hb dX0_hasState_13 (by decide) ?_
      exact W.zret (v := (1 : Int32)) hx hb hr (nb_nar nb_1) (fun t ht hW => ⟨⟨(1 : Int32), ((cl0 h0 w0 w1 cJ σ)), rfl, ⟨hw, rfl⟩, by rw [ht]; exact hP, va_K.moved hW.alike hK, hD⟩, hS.F ht⟩) hS.2.2 dX0_hasState_17
set_option maxHeartbeats 4000000 in
set_option maxRecDepth 100000 in
theorem c_X0_weightOf (l : Launch) (dC : Nat → ClassId) (dI : Nat → Nat → Nat) (h0 w0 w1 : Nat) (cJ : ClassId) (σ : SC) (p0 : Int32) (post : Int64 → Prop) (hw : wp_X0_weightOf p0 σ post) : KL l yX0_weightOf wsX0_weightOf ({ frames := 1, cells := 0, slots := 0, locals := 23 } : Room) (dC, dI) [(cJ, .long)] (cl0 h0 w0 w1 cJ σ) [.ref h0, .int p0] (fun r u => post r ∧ u = (cl0 h0 w0 w1 cJ σ)) := by
  intro sz
  refine Met.ofW (cc := cX0_weightOf) (maxL := 2) (ret := (some .long)) (by decide) rfl ?_
  intro p e s m args below meth c s₁ B hml hv
  obtain ⟨rfl, hsz, hP, hK, hD0, hnw⟩ := hv
  have hx := B.exec
  have hb := B.bytes
  have hr := B.returns
  have hts := atoms_spec (ws := wsX0_weightOf) B.pre
  have hown : s.vm.findClass RX0 = some m.cls := findClass_of_methodNamed B.named
  have hlocks := B.notSynchronized
  subst hsz
  have hD := hD0.self (sz := s.heap.size)
  generalize hAe : va_A (cl0 h0 w0 w1 cJ σ) s.heap.size = A at hD ⊢
  have hA : ∀ q : Nat, s.heap.size ≤ q → A q := fun q h => by rw [← hAe]; exact Or.inr h
  have hS : va_S A s.heap s.heap [] := va_S.rf
  have hP : va_P (dC, dI) vwCl [(h0, .inr (0, [.ref w0, .ref w1, .int σ.1, .int σ.2.1, .int σ.2.2.1])), (w0, .inl (cJ, 512, .inr (.inl (σ.2.2.2.1)))), (w1, .inl (cJ, 9, .inr (.inl (σ.2.2.2.2))))] s.heap := hP
  have hD : va_D A [(h0, .inr (0, [.ref w0, .ref w1, .int σ.1, .int σ.2.1, .int σ.2.2.1])), (w0, .inl (cJ, 512, .inr (.inl (σ.2.2.2.1)))), (w1, .inl (cJ, 9, .inr (.inl (σ.2.2.2.2))))] := hD
  have fl_22 := hts (.fieldLink RX0 22 "OnePlaceEach$Chain" "places" "I") (by decide +kernel)
  have hin0 : ∀ w ∈ wsX00, w ∈ wsX0_weightOf := by decide +kernel
  have hl := lv_entry ([.ref h0, .int p0]) (n := 2) (Nat.le_of_ble_eq_true rfl)
  rw [lg_entry_eq]
  generalize (lg_sl ([.ref h0, .int p0]) ++ List.replicate (2 - (lg_sl ([.ref h0, .int p0])).length) Slot.unset).toArray = ls at hl ⊢
  have hl : lv_has ls 2 [(0, .ref h0), (1, .int p0)] := hl
  unfold wp_X0_weightOf at hw
  skip
  obtain ⟨H, hH⟩ : ∃ H, H = s.heap := ⟨_, rfl⟩
  obtain ⟨locs, hlo⟩ : ∃ q : List Loc, q = [] := ⟨_, rfl⟩
  rw [← hH] at hP
  have hS : va_S A s.heap H locs := by rw [hH, hlo]; exact hS
  suffices hgo : W p l e (headSpec wsX0_weightOf ({ frames := 1, cells := 0, slots := 0, locals := 23 } : Room)).room s m _ below meth c H locs 0 0 _ (F0 m 0 ls []) by rw [hH, hlo] at hgo; exact hgo
  refine lv_aload_n hx hb dX0_weightOf_0 rfl (lv_at hl 0 rfl) ?_
  refine lv_aload_n hx hb dX0_weightOf_1 rfl (lv_at hl 0 rfl) ?_
  refine va_get (D := (dC, dI)) (ci := 0) (v := .int σ.1) (C := RX0) (T := TX0) (N := 5) hx hb hts hin0 hown hK hP 0 rfl rfl 2 (by decide) fl_22 (fun _ h9 => h9) rfl dX0_weightOf_2 ?_
  refine lv_iload_n hx hb dX0_weightOf_5 rfl (lv_at hl 1 rfl) ?_
  have hPc := hP
  have hDc := hD
  have hKc := hK
  have hFc := va_free (wc := [(h0, .inr (0, [.ref w0, .ref w1, .int σ.1, .int σ.2.1, .int σ.2.2.1])), (w0, .inl (cJ, 512, .inr (.inl (σ.2.2.2.1)))), (w1, .inl (cJ, 9, .inr (.inl (σ.2.2.2.2))))]) hD hS hA [0, 1, 2] rfl
  refine kc_l (wr := ([] : va_W)) (kr_V (As := [.int σ.1, .int p0]) (rest := []) (b := h0) (ws := [(h0, .inr (0, [.ref w0, .ref w1, .int σ.1, .int σ.2.1, .int σ.2.2.1])), (w0, .inl (cJ, 512, .inr (.inl (σ.2.2.2.1)))), (w1, .inl (cJ, 9, .inr (.inl (σ.2.2.2.2))))]) ⟨hx, hb, hml, hown, hts⟩ (c_X0_weightOfWord l dC dI h0 w0 w1 cJ σ σ.1 p0 _ hw H.size) (cwV 2 hts gX0_weightOf_X0_weightOfWord rfl rfl rfl (by decide +kernel) ⟨Nat.le_of_ble_eq_true rfl, Nat.le_of_ble_eq_true rfl⟩) 0 0 hK rfl rfl rfl hKc hnw hP hD hPc hDc rfl hl.1 rfl (Nat.le_of_ble_eq_true rfl) dX0_weightOf_6 ⟨Nat.zero_le _, Nat.zero_le _⟩) hP hD hS hFc [0, 1, 2] [] rfl rfl (by decide) (by decide) (fun r1 u1 H locs hq hP hD hS => ?_)
  obtain ⟨hw, rfl⟩ := hq
  have hP : va_P (dC, dI) vwCl [(h0, .inr (0, [.ref w0, .ref w1, .int σ.1, .int σ.2.1, .int σ.2.2.1])), (w0, .inl (cJ, 512, .inr (.inl (σ.2.2.2.1)))), (w1, .inl (cJ, 9, .inr (.inl (σ.2.2.2.2))))] H := hP
  have hD : va_D A [(h0, .inr (0, [.ref w0, .ref w1, .int σ.1, .int σ.2.1, .int σ.2.2.1])), (w0, .inl (cJ, 512, .inr (.inl (σ.2.2.2.1)))), (w1, .inl (cJ, 9, .inr (.inl (σ.2.2.2.2))))] := hD
  exact W.lret (v := r1) hx hb hr (fun t ht hW => ⟨⟨r1, ((cl0 h0 w0 w1 cJ σ)), rfl, ⟨hw, rfl⟩, by rw [ht]; exact hP, va_K.moved hW.alike hK, hD⟩, hS.F ht⟩) hS.2.2 dX0_weightOf_9
set_option maxHeartbeats 4000000 in
set_option maxRecDepth 100000 in
theorem c_X0_sumOf (l : Launch) (dC : Nat → ClassId) (dI : Nat → Nat → Nat) (h0 w0 w1 : Nat) (cJ : ClassId) (σ : SC) (p0 : Int32) (post : Int64 → Prop) (hw : wp_X0_sumOf p0 σ post) : KL l yX0_sumOf wsX0_sumOf ({ frames := 0, cells := 0, slots := 0, locals := 0 } : Room) (dC, dI) [(cJ, .long)] (cl0 h0 w0 w1 cJ σ) [.ref h0, .int p0] (fun r u => post r ∧ u = (cl0 h0 w0 w1 cJ σ)) := by
  intro sz
  refine Met.ofW (cc := cX0_sumOf) (maxL := 2) (ret := (some .long)) (by decide) rfl ?_
  intro p e s m args below meth c s₁ B hml hv
  obtain ⟨rfl, hsz, hP, hK, hD0, hnw⟩ := hv
  have hx := B.exec
  have hb := B.bytes
  have hr := B.returns
  have hts := atoms_spec (ws := wsX0_sumOf) B.pre
  have hown : s.vm.findClass RX0 = some m.cls := findClass_of_methodNamed B.named
  have hlocks := B.notSynchronized
  subst hsz
  have hD := hD0.self (sz := s.heap.size)
  generalize hAe : va_A (cl0 h0 w0 w1 cJ σ) s.heap.size = A at hD ⊢
  have hA : ∀ q : Nat, s.heap.size ≤ q → A q := fun q h => by rw [← hAe]; exact Or.inr h
  have hS : va_S A s.heap s.heap [] := va_S.rf
  have hP : va_P (dC, dI) vwCl [(h0, .inr (0, [.ref w0, .ref w1, .int σ.1, .int σ.2.1, .int σ.2.2.1])), (w0, .inl (cJ, 512, .inr (.inl (σ.2.2.2.1)))), (w1, .inl (cJ, 9, .inr (.inl (σ.2.2.2.2))))] s.heap := hP
  have hD : va_D A [(h0, .inr (0, [.ref w0, .ref w1, .int σ.1, .int σ.2.1, .int σ.2.2.1])), (w0, .inl (cJ, 512, .inr (.inl (σ.2.2.2.1)))), (w1, .inl (cJ, 9, .inr (.inl (σ.2.2.2.2))))] := hD
  have fl_15 := hts (.fieldLink RX0 15 "OnePlaceEach$Chain" "sums" "[J") (by decide +kernel)
  have hin0 : ∀ w ∈ wsX00, w ∈ wsX0_sumOf := by decide +kernel
  have hl := lv_entry ([.ref h0, .int p0]) (n := 2) (Nat.le_of_ble_eq_true rfl)
  rw [lg_entry_eq]
  generalize (lg_sl ([.ref h0, .int p0]) ++ List.replicate (2 - (lg_sl ([.ref h0, .int p0])).length) Slot.unset).toArray = ls at hl ⊢
  have hl : lv_has ls 2 [(0, .ref h0), (1, .int p0)] := hl
  unfold wp_X0_sumOf at hw
  skip
  obtain ⟨H, hH⟩ : ∃ H, H = s.heap := ⟨_, rfl⟩
  obtain ⟨locs, hlo⟩ : ∃ q : List Loc, q = [] := ⟨_, rfl⟩
  rw [← hH] at hP
  have hS : va_S A s.heap H locs := by rw [hH, hlo]; exact hS
  suffices hgo : W p l e (headSpec wsX0_sumOf ({ frames := 0, cells := 0, slots := 0, locals := 0 } : Room)).room s m _ below meth c H locs 0 0 _ (F0 m 0 ls []) by rw [hH, hlo] at hgo; exact hgo
  refine lv_iload_n hx hb dX0_sumOf_0 rfl (lv_at hl 1 rfl) ?_
  refine lv_if_lt (tgt := 22) hx hb dX0_sumOf_1 (by decide) (fun c1 => ?_) (fun c1 => ?_)
  · have hw := hw.1 c1
    refine lv_lconst (v := (0 : Int64)) hx hb dX0_sumOf_22 (by decide) ?_
    exact W.lret (v := (0 : Int64)) hx hb hr (fun t ht hW => ⟨⟨(0 : Int64), ((cl0 h0 w0 w1 cJ σ)), rfl, ⟨hw, rfl⟩, by rw [ht]; exact hP, va_K.moved hW.alike hK, hD⟩, hS.F ht⟩) hS.2.2 dX0_sumOf_23
  · have hw := hw.2 c1
    refine lv_iload_n hx hb dX0_sumOf_4 rfl (lv_at hl 1 rfl) ?_
    refine lv_aload_n hx hb dX0_sumOf_5 rfl (lv_at hl 0 rfl) ?_
    refine va_get (D := (dC, dI)) (ci := 0) (v := .ref w1) (C := RX0) (T := TX0) (N := 5) hx hb hts hin0 hown hK hP 0 rfl rfl 1 (by decide) fl_15 (fun _ h9 => h9) rfl dX0_sumOf_6 ?_
    refine va_alen (v := (9 : Int32)) hx hb hK hP 2 0 rfl rfl rfl dX0_sumOf_9 ?_
    refine lv_icmp_ge (tgt := 22) hx hb dX0_sumOf_10 (by decide) (fun c2 => ?_) (fun c2 => ?_)
    · have hw := hw.1 c2
      refine lv_lconst (v := (0 : Int64)) hx hb dX0_sumOf_22 (by decide) ?_
      exact W.lret (v := (0 : Int64)) hx hb hr (fun t ht hW => ⟨⟨(0 : Int64), ((cl0 h0 w0 w1 cJ σ)), rfl, ⟨hw, rfl⟩, by rw [ht]; exact hP, va_K.moved hW.alike hK, hD⟩, hS.F ht⟩) hS.2.2 dX0_sumOf_23
    · have hw := hw.2 c2
      refine lv_aload_n hx hb dX0_sumOf_13 rfl (lv_at hl 0 rfl) ?_
      refine va_get (D := (dC, dI)) (ci := 0) (v := .ref w1) (C := RX0) (T := TX0) (N := 5) hx hb hts hin0 hown hK hP 0 rfl rfl 1 (by decide) fl_15 (fun _ h9 => h9) rfl dX0_sumOf_14 ?_
      refine lv_iload_n hx hb dX0_sumOf_17 rfl (lv_at hl 1 rfl) ?_
      have z3 := hw.1
      have hw := hw.2
      refine va_lald hx hb hK hP 2 0 rfl rfl z3 dX0_sumOf_18 ?_
      refine lv_goto (tgt := 23) hx hb dX0_sumOf_19 (by decide) ?_
      exact W.lret (v := (σ.2.2.2.2 p0.toNatClampNeg)) hx hb hr (fun t ht hW => ⟨⟨(σ.2.2.2.2 p0.toNatClampNeg), ((cl0 h0 w0 w1 cJ σ)), rfl, ⟨hw, rfl⟩, by rw [ht]; exact hP, va_K.moved hW.alike hK, hD⟩, hS.F ht⟩) hS.2.2 dX0_sumOf_23
set_option maxHeartbeats 4000000 in
set_option maxRecDepth 100000 in
theorem c_X0_sumWithTaken (l : Launch) (dC : Nat → ClassId) (dI : Nat → Nat → Nat) (h0 w0 w1 : Nat) (cJ : ClassId) (σ : SC) (p0 : Int32) (post : Int64 → Prop) (hw : wp_X0_sumWithTaken p0 σ post) : KL l yX0_sumWithTaken wsX0_sumWithTaken ({ frames := 2, cells := 0, slots := 0, locals := 44 } : Room) (dC, dI) [(cJ, .long)] (cl0 h0 w0 w1 cJ σ) [.ref h0, .int p0] (fun r u => post r ∧ u = (cl0 h0 w0 w1 cJ σ)) := by
  intro sz
  refine Met.ofW (cc := cX0_sumWithTaken) (maxL := 5) (ret := (some .long)) (by decide) rfl ?_
  intro p e s m args below meth c s₁ B hml hv
  obtain ⟨rfl, hsz, hP, hK, hD0, hnw⟩ := hv
  have hx := B.exec
  have hb := B.bytes
  have hr := B.returns
  have hts := atoms_spec (ws := wsX0_sumWithTaken) B.pre
  have hown : s.vm.findClass RX0 = some m.cls := findClass_of_methodNamed B.named
  have hlocks := B.notSynchronized
  subst hsz
  have hD := hD0.self (sz := s.heap.size)
  generalize hAe : va_A (cl0 h0 w0 w1 cJ σ) s.heap.size = A at hD ⊢
  have hA : ∀ q : Nat, s.heap.size ≤ q → A q := fun q h => by rw [← hAe]; exact Or.inr h
  have hS : va_S A s.heap s.heap [] := va_S.rf
  have hP : va_P (dC, dI) vwCl [(h0, .inr (0, [.ref w0, .ref w1, .int σ.1, .int σ.2.1, .int σ.2.2.1])), (w0, .inl (cJ, 512, .inr (.inl (σ.2.2.2.1)))), (w1, .inl (cJ, 9, .inr (.inl (σ.2.2.2.2))))] s.heap := hP
  have hD : va_D A [(h0, .inr (0, [.ref w0, .ref w1, .int σ.1, .int σ.2.1, .int σ.2.2.1])), (w0, .inl (cJ, 512, .inr (.inl (σ.2.2.2.1)))), (w1, .inl (cJ, 9, .inr (.inl (σ.2.2.2.2))))] := hD
  have L5 : ∀ (x1 : Int32)  (n : Nat) (x2 : Int64) (x4 : Int32)  (k : Int64 → Int32 → Prop), wl_X0_sumWithTaken_5 x1 σ n x2 x4 k →
      (∀ (x2 : Int64) (x4 : Int32) , k x2 x4 → ∀ (H : Heap) (locs : List Loc) (ls : Array Slot), va_P (dC, dI) vwCl [(h0, .inr (0, [.ref w0, .ref w1, .int σ.1, .int σ.2.1, .int σ.2.2.1])), (w0, .inl (cJ, 512, .inr (.inl (σ.2.2.2.1)))), (w1, .inl (cJ, 9, .inr (.inl (σ.2.2.2.2))))] H → va_D A [(h0, .inr (0, [.ref w0, .ref w1, .int σ.1, .int σ.2.1, .int σ.2.2.1])), (w0, .inl (cJ, 512, .inr (.inl (σ.2.2.2.1)))), (w1, .inl (cJ, 9, .inr (.inl (σ.2.2.2.2))))] → va_S A s.heap H locs → lv_has ls 5 [(4, .int x4), (2, .long x2), (0, .ref h0), (1, .int x1)] → W p l e (headSpec wsX0_sumWithTaken ({ frames := 2, cells := 0, slots := 0, locals := 44 } : Room)).room s m ([.ref h0, .int p0] : List Value).toArray below meth c H locs 0 0 (MQ below (va_Ql (fun r u => post r ∧ u = (cl0 h0 w0 w1 cJ σ)) (kB (dC, dI) [(cJ, .long)] A) A) ([.ref h0, .int p0] : List Value).toArray s 0 0 A) (F0 m 37 ls [])) →
      ∀ (H : Heap) (locs : List Loc) (ls : Array Slot), va_P (dC, dI) vwCl [(h0, .inr (0, [.ref w0, .ref w1, .int σ.1, .int σ.2.1, .int σ.2.2.1])), (w0, .inl (cJ, 512, .inr (.inl (σ.2.2.2.1)))), (w1, .inl (cJ, 9, .inr (.inl (σ.2.2.2.2))))] H → va_D A [(h0, .inr (0, [.ref w0, .ref w1, .int σ.1, .int σ.2.1, .int σ.2.2.1])), (w0, .inl (cJ, 512, .inr (.inl (σ.2.2.2.1)))), (w1, .inl (cJ, 9, .inr (.inl (σ.2.2.2.2))))] → va_S A s.heap H locs → lv_has ls 5 [(4, .int x4), (2, .long x2), (0, .ref h0), (1, .int x1)] → W p l e (headSpec wsX0_sumWithTaken ({ frames := 2, cells := 0, slots := 0, locals := 44 } : Room)).room s m ([.ref h0, .int p0] : List Value).toArray below meth c H locs 0 0 (MQ below (va_Ql (fun r u => post r ∧ u = (cl0 h0 w0 w1 cJ σ)) (kB (dC, dI) [(cJ, .long)] A) A) ([.ref h0, .int p0] : List Value).toArray s 0 0 A) (F0 m 5 ls []) := by
    intro x1 n
    induction n with
    | zero => intro x2 x4 k hw; exact absurd hw id
    | succ n ih =>
      intro x2 x4 k hw hk H locs ls hP hD hS hl
      unfold wl_X0_sumWithTaken_5 at hw
      refine lv_iload hx hb dX0_sumWithTaken_5 (lv_at hl 0 rfl) ?_
      refine lv_aload_n hx hb dX0_sumWithTaken_7 rfl (lv_at hl 2 rfl) ?_
      have hPc := hP
      have hDc := hD
      have hKc := hK
      have hFc := va_free (wc := [(h0, .inr (0, [.ref w0, .ref w1, .int σ.1, .int σ.2.1, .int σ.2.2.1])), (w0, .inl (cJ, 512, .inr (.inl (σ.2.2.2.1)))), (w1, .inl (cJ, 9, .inr (.inl (σ.2.2.2.2))))]) hD hS hA [0, 1, 2] rfl
      refine kc_i (wr := ([] : va_W)) (kr_V (As := []) (rest := [.int x4]) (b := h0) (ws := [(h0, .inr (0, [.ref w0, .ref w1, .int σ.1, .int σ.2.1, .int σ.2.2.1])), (w0, .inl (cJ, 512, .inr (.inl (σ.2.2.2.1)))), (w1, .inl (cJ, 9, .inr (.inl (σ.2.2.2.2))))]) ⟨hx, hb, hml, hown, hts⟩ (c_X0_countStates l dC dI h0 w0 w1 cJ σ  _ hw H.size) (cwV 0 hts gX0_sumWithTaken_X0_countStates rfl rfl rfl (by decide +kernel) ⟨Nat.le_of_ble_eq_true rfl, Nat.le_of_ble_eq_true rfl⟩) 0 0 hK rfl rfl rfl hKc hnw hP hD hPc hDc rfl hl.1 rfl (Nat.le_of_ble_eq_true rfl) dX0_sumWithTaken_8 ⟨Nat.zero_le _, Nat.zero_le _⟩) hP hD hS hFc [0, 1, 2] [] rfl rfl (by decide) (by decide) (fun r1 u1 H locs hq hP hD hS => ?_)
      obtain ⟨hw, rfl⟩ := hq
      have hP : va_P (dC, dI) vwCl [(h0, .inr (0, [.ref w0, .ref w1, .int σ.1, .int σ.2.1, .int σ.2.2.1])), (w0, .inl (cJ, 512, .inr (.inl (σ.2.2.2.1)))), (w1, .inl (cJ, 9, .inr (.inl (σ.2.2.2.2))))] H := hP
      have hD : va_D A [(h0, .inr (0, [.ref w0, .ref w1, .int σ.1, .int σ.2.1, .int σ.2.2.1])), (w0, .inl (cJ, 512, .inr (.inl (σ.2.2.2.1)))), (w1, .inl (cJ, 9, .inr (.inl (σ.2.2.2.2))))] := hD
      refine lv_icmp_ge (tgt := 37) hx hb dX0_sumWithTaken_11 (by decide) (fun c3 => ?_) (fun c3 => ?_)
      · have hw := hw.1 c3
        exact hk x2 x4 hw H locs ls hP hD hS (lv_sub hl [0, 1, 2, 3] rfl)
      · have hw := hw.2 c3
        refine lv_iload hx hb dX0_sumWithTaken_14 (lv_at hl 0 rfl) ?_
        refine lv_iload_n hx hb dX0_sumWithTaken_16 rfl (lv_at hl 3 rfl) ?_
        refine lv_iand hx hb dX0_sumWithTaken_17 ?_
        refine lv_iload_n hx hb dX0_sumWithTaken_18 rfl (lv_at hl 3 rfl) ?_
        refine lv_icmp_ne (tgt := 31) hx hb dX0_sumWithTaken_19 (by decide) (fun c4 => ?_) (fun c4 => ?_)
        · have hw := hw.1 c4
          refine lv_iinc (v := (x4 + (1 : Int32))) (lv' := [(4, .int (x4 + (1 : Int32))), (2, .long x2), (0, .ref h0), (1, .int x1)]) hx hb dX0_sumWithTaken_31 hl (k := 0) rfl rfl (by decide) rfl (fun ls hl => ?_)
          refine lv_goto (tgt := 5) hx hb dX0_sumWithTaken_34 (by decide) ?_
          exact ih x2 (x4 + (1 : Int32)) _ hw hk H locs ls hP hD hS (lv_sub hl [0, 1, 2, 3] rfl)
        · have hw := hw.2 c4
          refine lv_lload_n hx hb dX0_sumWithTaken_22 rfl (lv_at hl 1 rfl) ?_
          refine lv_aload_n hx hb dX0_sumWithTaken_23 rfl (lv_at hl 2 rfl) ?_
          refine lv_iload hx hb dX0_sumWithTaken_24 (lv_at hl 0 rfl) ?_
          have hPc := hP
          have hDc := hD
          have hKc := hK
          have hFc := va_free (wc := [(h0, .inr (0, [.ref w0, .ref w1, .int σ.1, .int σ.2.1, .int σ.2.2.1])), (w0, .inl (cJ, 512, .inr (.inl (σ.2.2.2.1)))), (w1, .inl (cJ, 9, .inr (.inl (σ.2.2.2.2))))]) hD hS hA [0, 1, 2] rfl
          refine kc_l (wr := ([] : va_W)) (kr_V (As := [.int x4]) (rest := [.long x2]) (b := h0) (ws := [(h0, .inr (0, [.ref w0, .ref w1, .int σ.1, .int σ.2.1, .int σ.2.2.1])), (w0, .inl (cJ, 512, .inr (.inl (σ.2.2.2.1)))), (w1, .inl (cJ, 9, .inr (.inl (σ.2.2.2.2))))]) ⟨hx, hb, hml, hown, hts⟩ (c_X0_weightOf l dC dI h0 w0 w1 cJ σ x4 _ hw H.size) (cwV 1 hts gX0_sumWithTaken_X0_weightOf rfl rfl rfl (by decide +kernel) ⟨Nat.le_of_ble_eq_true rfl, Nat.le_of_ble_eq_true rfl⟩) 0 0 hK rfl rfl rfl hKc hnw hP hD hPc hDc rfl hl.1 rfl (Nat.le_of_ble_eq_true rfl) dX0_sumWithTaken_26 ⟨Nat.zero_le _, Nat.zero_le _⟩) hP hD hS hFc [0, 1, 2] [] rfl rfl (by decide) (by decide) (fun r5 u1 H locs hq hP hD hS => ?_)
          obtain ⟨hw, rfl⟩ := hq
          have hP : va_P (dC, dI) vwCl [(h0, .inr (0, [.ref w0, .ref w1, .int σ.1, .int σ.2.1, .int σ.2.2.1])), (w0, .inl (cJ, 512, .inr (.inl (σ.2.2.2.1)))), (w1, .inl (cJ, 9, .inr (.inl (σ.2.2.2.2))))] H := hP
          have hD : va_D A [(h0, .inr (0, [.ref w0, .ref w1, .int σ.1, .int σ.2.1, .int σ.2.2.1])), (w0, .inl (cJ, 512, .inr (.inl (σ.2.2.2.1)))), (w1, .inl (cJ, 9, .inr (.inl (σ.2.2.2.2))))] := hD
          refine lv_ladd hx hb dX0_sumWithTaken_29 ?_
          refine lv_lstore_n (lv' := [(2, .long (x2 + r5)), (4, .int x4), (0, .ref h0), (1, .int x1)]) hx hb dX0_sumWithTaken_30 rfl hl (by decide) rfl (fun ls hl => ?_)
          refine lv_iinc (v := (x4 + (1 : Int32))) (lv' := [(4, .int (x4 + (1 : Int32))), (2, .long (x2 + r5)), (0, .ref h0), (1, .int x1)]) hx hb dX0_sumWithTaken_31 hl (k := 1) rfl rfl (by decide) rfl (fun ls hl => ?_)
          refine lv_goto (tgt := 5) hx hb dX0_sumWithTaken_34 (by decide) ?_
          exact ih (x2 + r5) (x4 + (1 : Int32)) _ hw hk H locs ls hP hD hS (lv_sub hl [0, 1, 2, 3] rfl)
  have hl := lv_entry ([.ref h0, .int p0]) (n := 5) (Nat.le_of_ble_eq_true rfl)
  rw [lg_entry_eq]
  generalize (lg_sl ([.ref h0, .int p0]) ++ List.replicate (5 - (lg_sl ([.ref h0, .int p0])).length) Slot.unset).toArray = ls at hl ⊢
  have hl : lv_has ls 5 [(0, .ref h0), (1, .int p0)] := hl
  unfold wp_X0_sumWithTaken at hw
  skip
  obtain ⟨H, hH⟩ : ∃ H, H = s.heap := ⟨_, rfl⟩
  obtain ⟨locs, hlo⟩ : ∃ q : List Loc, q = [] := ⟨_, rfl⟩
  rw [← hH] at hP
  have hS : va_S A s.heap H locs := by rw [hH, hlo]; exact hS
  suffices hgo : W p l e (headSpec wsX0_sumWithTaken ({ frames := 2, cells := 0, slots := 0, locals := 44 } : Room)).room s m _ below meth c H locs 0 0 _ (F0 m 0 ls []) by rw [hH, hlo] at hgo; exact hgo
  refine lv_lconst (v := (0 : Int64)) hx hb dX0_sumWithTaken_0 (by decide) ?_
  refine lv_lstore_n (lv' := [(2, .long (0 : Int64)), (0, .ref h0), (1, .int p0)]) hx hb dX0_sumWithTaken_1 rfl hl (by decide) rfl (fun ls hl => ?_)
  refine lv_iconst (v := (0 : Int32)) hx hb dX0_sumWithTaken_2 (by decide) ?_
  refine lv_istore (lv' := [(4, .int (0 : Int32)), (2, .long (0 : Int64)), (0, .ref h0), (1, .int p0)]) hx hb dX0_sumWithTaken_3 hl (by decide) rfl (fun ls hl => ?_)
  refine L5 p0 (20000) (0 : Int64) (0 : Int32) _ hw (fun x2_7 x4_8 hw H locs ls hP hD hS hl => ?_) H locs ls hP hD hS (lv_sub hl [0, 1, 2, 3] rfl)
  refine lv_lload_n hx hb dX0_sumWithTaken_37 rfl (lv_at hl 1 rfl) ?_
  exact W.lret (v := x2_7) hx hb hr (fun t ht hW => ⟨⟨x2_7, ((cl0 h0 w0 w1 cJ σ)), rfl, ⟨hw, rfl⟩, by rw [ht]; exact hP, va_K.moved hW.alike hK, hD⟩, hS.F ht⟩) hS.2.2 dX0_sumWithTaken_38
set_option maxHeartbeats 4000000 in
set_option maxRecDepth 100000 in
theorem c_X0_rateIn (l : Launch) (dC : Nat → ClassId) (dI : Nat → Nat → Nat) (h0 w0 w1 : Nat) (cJ : ClassId) (σ : SC)  (post : Int64 → Prop) (hw : wp_X0_rateIn  σ post) : KL l yX0_rateIn wsX0_rateIn ({ frames := 0, cells := 0, slots := 0, locals := 0 } : Room) (dC, dI) [(cJ, .long)] (cl0 h0 w0 w1 cJ σ) [.ref h0] (fun r u => post r ∧ u = (cl0 h0 w0 w1 cJ σ)) := by
  intro sz
  refine Met.ofW (cc := cX0_rateIn) (maxL := 1) (ret := (some .long)) (by decide) rfl ?_
  intro p e s m args below meth c s₁ B hml hv
  obtain ⟨rfl, hsz, hP, hK, hD0, hnw⟩ := hv
  have hx := B.exec
  have hb := B.bytes
  have hr := B.returns
  have hts := atoms_spec (ws := wsX0_rateIn) B.pre
  have hown : s.vm.findClass RX0 = some m.cls := findClass_of_methodNamed B.named
  have hlocks := B.notSynchronized
  subst hsz
  have hD := hD0.self (sz := s.heap.size)
  generalize hAe : va_A (cl0 h0 w0 w1 cJ σ) s.heap.size = A at hD ⊢
  have hA : ∀ q : Nat, s.heap.size ≤ q → A q := fun q h => by rw [← hAe]; exact Or.inr h
  have hS : va_S A s.heap s.heap [] := va_S.rf
  have hP : va_P (dC, dI) vwCl [(h0, .inr (0, [.ref w0, .ref w1, .int σ.1, .int σ.2.1, .int σ.2.2.1])), (w0, .inl (cJ, 512, .inr (.inl (σ.2.2.2.1)))), (w1, .inl (cJ, 9, .inr (.inl (σ.2.2.2.2))))] s.heap := hP
  have hD : va_D A [(h0, .inr (0, [.ref w0, .ref w1, .int σ.1, .int σ.2.1, .int σ.2.2.1])), (w0, .inl (cJ, 512, .inr (.inl (σ.2.2.2.1)))), (w1, .inl (cJ, 9, .inr (.inl (σ.2.2.2.2))))] := hD
  have fl_29 := hts (.fieldLink RX0 29 "OnePlaceEach$Chain" "y" "I") (by decide +kernel)
  have hin0 : ∀ w ∈ wsX00, w ∈ wsX0_rateIn := by decide +kernel
  have hl := lv_entry ([.ref h0]) (n := 1) (Nat.le_of_ble_eq_true rfl)
  rw [lg_entry_eq]
  generalize (lg_sl ([.ref h0]) ++ List.replicate (1 - (lg_sl ([.ref h0])).length) Slot.unset).toArray = ls at hl ⊢
  have hl : lv_has ls 1 [(0, .ref h0)] := hl
  unfold wp_X0_rateIn at hw
  skip
  obtain ⟨H, hH⟩ : ∃ H, H = s.heap := ⟨_, rfl⟩
  obtain ⟨locs, hlo⟩ : ∃ q : List Loc, q = [] := ⟨_, rfl⟩
  rw [← hH] at hP
  have hS : va_S A s.heap H locs := by rw [hH, hlo]; exact hS
  suffices hgo : W p l e (headSpec wsX0_rateIn ({ frames := 0, cells := 0, slots := 0, locals := 0 } : Room)).room s m _ below meth c H locs 0 0 _ (F0 m 0 ls []) by rw [hH, hlo] at hgo; exact hgo
  refine lv_aload_n hx hb dX0_rateIn_0 rfl (lv_at hl 0 rfl) ?_
  refine va_get (D := (dC, dI)) (ci := 0) (v := .int σ.2.2.1) (C := RX0) (T := TX0) (N := 5) hx hb hts hin0 hown hK hP 0 rfl rfl 4 (by decide) fl_29 (fun _ h9 => h9) rfl dX0_rateIn_1 ?_
  refine lv_i2l hx hb dX0_rateIn_4 rfl ?_
  exact W.lret (v := (σ.2.2.1.toInt64)) hx hb hr (fun t ht hW => ⟨⟨(σ.2.2.1.toInt64), ((cl0 h0 w0 w1 cJ σ)), rfl, ⟨hw, rfl⟩, by rw [ht]; exact hP, va_K.moved hW.alike hK, hD⟩, hS.F ht⟩) hS.2.2 dX0_rateIn_5
set_option maxHeartbeats 4000000 in
set_option maxRecDepth 100000 in
theorem c_X0_rateOut (l : Launch) (dC : Nat → ClassId) (dI : Nat → Nat → Nat) (h0 w0 w1 : Nat) (cJ : ClassId) (σ : SC)  (post : Int64 → Prop) (hw : wp_X0_rateOut  σ post) : KL l yX0_rateOut wsX0_rateOut ({ frames := 0, cells := 0, slots := 0, locals := 0 } : Room) (dC, dI) [(cJ, .long)] (cl0 h0 w0 w1 cJ σ) [.ref h0] (fun r u => post r ∧ u = (cl0 h0 w0 w1 cJ σ)) := by
  intro sz
  refine Met.ofW (cc := cX0_rateOut) (maxL := 1) (ret := (some .long)) (by decide) rfl ?_
  intro p e s m args below meth c s₁ B hml hv
  obtain ⟨rfl, hsz, hP, hK, hD0, hnw⟩ := hv
  have hx := B.exec
  have hb := B.bytes
  have hr := B.returns
  have hts := atoms_spec (ws := wsX0_rateOut) B.pre
  have hown : s.vm.findClass RX0 = some m.cls := findClass_of_methodNamed B.named
  have hlocks := B.notSynchronized
  subst hsz
  have hD := hD0.self (sz := s.heap.size)
  generalize hAe : va_A (cl0 h0 w0 w1 cJ σ) s.heap.size = A at hD ⊢
  have hA : ∀ q : Nat, s.heap.size ≤ q → A q := fun q h => by rw [← hAe]; exact Or.inr h
  have hS : va_S A s.heap s.heap [] := va_S.rf
  have hP : va_P (dC, dI) vwCl [(h0, .inr (0, [.ref w0, .ref w1, .int σ.1, .int σ.2.1, .int σ.2.2.1])), (w0, .inl (cJ, 512, .inr (.inl (σ.2.2.2.1)))), (w1, .inl (cJ, 9, .inr (.inl (σ.2.2.2.2))))] s.heap := hP
  have hD : va_D A [(h0, .inr (0, [.ref w0, .ref w1, .int σ.1, .int σ.2.1, .int σ.2.2.1])), (w0, .inl (cJ, 512, .inr (.inl (σ.2.2.2.1)))), (w1, .inl (cJ, 9, .inr (.inl (σ.2.2.2.2))))] := hD
  have fl_26 := hts (.fieldLink RX0 26 "OnePlaceEach$Chain" "x" "I") (by decide +kernel)
  have hin0 : ∀ w ∈ wsX00, w ∈ wsX0_rateOut := by decide +kernel
  have hl := lv_entry ([.ref h0]) (n := 1) (Nat.le_of_ble_eq_true rfl)
  rw [lg_entry_eq]
  generalize (lg_sl ([.ref h0]) ++ List.replicate (1 - (lg_sl ([.ref h0])).length) Slot.unset).toArray = ls at hl ⊢
  have hl : lv_has ls 1 [(0, .ref h0)] := hl
  unfold wp_X0_rateOut at hw
  skip
  obtain ⟨H, hH⟩ : ∃ H, H = s.heap := ⟨_, rfl⟩
  obtain ⟨locs, hlo⟩ : ∃ q : List Loc, q = [] := ⟨_, rfl⟩
  rw [← hH] at hP
  have hS : va_S A s.heap H locs := by rw [hH, hlo]; exact hS
  suffices hgo : W p l e (headSpec wsX0_rateOut ({ frames := 0, cells := 0, slots := 0, locals := 0 } : Room)).room s m _ below meth c H locs 0 0 _ (F0 m 0 ls []) by rw [hH, hlo] at hgo; exact hgo
  refine lv_aload_n hx hb dX0_rateOut_0 rfl (lv_at hl 0 rfl) ?_
  refine va_get (D := (dC, dI)) (ci := 0) (v := .int σ.2.1) (C := RX0) (T := TX0) (N := 5) hx hb hts hin0 hown hK hP 0 rfl rfl 3 (by decide) fl_26 (fun _ h9 => h9) rfl dX0_rateOut_1 ?_
  refine lv_i2l hx hb dX0_rateOut_4 rfl ?_
  exact W.lret (v := (σ.2.1.toInt64)) hx hb hr (fun t ht hW => ⟨⟨(σ.2.1.toInt64), ((cl0 h0 w0 w1 cJ σ)), rfl, ⟨hw, rfl⟩, by rw [ht]; exact hP, va_K.moved hW.alike hK, hD⟩, hS.F ht⟩) hS.2.2 dX0_rateOut_5
set_option maxHeartbeats 4000000 in
set_option maxRecDepth 100000 in
theorem c_X0_rateOfStep (l : Launch) (dC : Nat → ClassId) (dI : Nat → Nat → Nat) (h0 w0 w1 : Nat) (cJ : ClassId) (σ : SC)  (post : Int64 → Prop) (hw : wp_X0_rateOfStep  σ post) : KL l yX0_rateOfStep wsX0_rateOfStep ({ frames := 0, cells := 0, slots := 0, locals := 0 } : Room) (dC, dI) [(cJ, .long)] (cl0 h0 w0 w1 cJ σ) [.ref h0] (fun r u => post r ∧ u = (cl0 h0 w0 w1 cJ σ)) := by
  intro sz
  refine Met.ofW (cc := cX0_rateOfStep) (maxL := 1) (ret := (some .long)) (by decide) rfl ?_
  intro p e s m args below meth c s₁ B hml hv
  obtain ⟨rfl, hsz, hP, hK, hD0, hnw⟩ := hv
  have hx := B.exec
  have hb := B.bytes
  have hr := B.returns
  have hts := atoms_spec (ws := wsX0_rateOfStep) B.pre
  have hown : s.vm.findClass RX0 = some m.cls := findClass_of_methodNamed B.named
  have hlocks := B.notSynchronized
  subst hsz
  have hD := hD0.self (sz := s.heap.size)
  generalize hAe : va_A (cl0 h0 w0 w1 cJ σ) s.heap.size = A at hD ⊢
  have hA : ∀ q : Nat, s.heap.size ≤ q → A q := fun q h => by rw [← hAe]; exact Or.inr h
  have hS : va_S A s.heap s.heap [] := va_S.rf
  have hP : va_P (dC, dI) vwCl [(h0, .inr (0, [.ref w0, .ref w1, .int σ.1, .int σ.2.1, .int σ.2.2.1])), (w0, .inl (cJ, 512, .inr (.inl (σ.2.2.2.1)))), (w1, .inl (cJ, 9, .inr (.inl (σ.2.2.2.2))))] s.heap := hP
  have hD : va_D A [(h0, .inr (0, [.ref w0, .ref w1, .int σ.1, .int σ.2.1, .int σ.2.2.1])), (w0, .inl (cJ, 512, .inr (.inl (σ.2.2.2.1)))), (w1, .inl (cJ, 9, .inr (.inl (σ.2.2.2.2))))] := hD
  have fl_26 := hts (.fieldLink RX0 26 "OnePlaceEach$Chain" "x" "I") (by decide +kernel)
  have fl_29 := hts (.fieldLink RX0 29 "OnePlaceEach$Chain" "y" "I") (by decide +kernel)
  have hin0 : ∀ w ∈ wsX00, w ∈ wsX0_rateOfStep := by decide +kernel
  have hl := lv_entry ([.ref h0]) (n := 1) (Nat.le_of_ble_eq_true rfl)
  rw [lg_entry_eq]
  generalize (lg_sl ([.ref h0]) ++ List.replicate (1 - (lg_sl ([.ref h0])).length) Slot.unset).toArray = ls at hl ⊢
  have hl : lv_has ls 1 [(0, .ref h0)] := hl
  unfold wp_X0_rateOfStep at hw
  skip
  obtain ⟨H, hH⟩ : ∃ H, H = s.heap := ⟨_, rfl⟩
  obtain ⟨locs, hlo⟩ : ∃ q : List Loc, q = [] := ⟨_, rfl⟩
  rw [← hH] at hP
  have hS : va_S A s.heap H locs := by rw [hH, hlo]; exact hS
  suffices hgo : W p l e (headSpec wsX0_rateOfStep ({ frames := 0, cells := 0, slots := 0, locals := 0 } : Room)).room s m _ below meth c H locs 0 0 _ (F0 m 0 ls []) by rw [hH, hlo] at hgo; exact hgo
  refine lv_aload_n hx hb dX0_rateOfStep_0 rfl (lv_at hl 0 rfl) ?_
  refine va_get (D := (dC, dI)) (ci := 0) (v := .int σ.2.1) (C := RX0) (T := TX0) (N := 5) hx hb hts hin0 hown hK hP 0 rfl rfl 3 (by decide) fl_26 (fun _ h9 => h9) rfl dX0_rateOfStep_1 ?_
  refine lv_i2l hx hb dX0_rateOfStep_4 rfl ?_
  refine lv_aload_n hx hb dX0_rateOfStep_5 rfl (lv_at hl 0 rfl) ?_
  refine va_get (D := (dC, dI)) (ci := 0) (v := .int σ.2.2.1) (C := RX0) (T := TX0) (N := 5) hx hb hts hin0 hown hK hP 0 rfl rfl 4 (by decide) fl_29 (fun _ h9 => h9) rfl dX0_rateOfStep_6 ?_
  refine lv_i2l hx hb dX0_rateOfStep_9 rfl ?_
  refine lv_lmul hx hb dX0_rateOfStep_10 ?_
  exact W.lret (v := ((σ.2.1.toInt64) * (σ.2.2.1.toInt64))) hx hb hr (fun t ht hW => ⟨⟨((σ.2.1.toInt64) * (σ.2.2.1.toInt64)), ((cl0 h0 w0 w1 cJ σ)), rfl, ⟨hw, rfl⟩, by rw [ht]; exact hP, va_K.moved hW.alike hK, hD⟩, hS.F ht⟩) hS.2.2 dX0_rateOfStep_11
set_option maxHeartbeats 4000000 in
set_option maxRecDepth 100000 in
theorem c_X0_flowInto (l : Launch) (dC : Nat → ClassId) (dI : Nat → Nat → Nat) (h0 w0 w1 : Nat) (cJ : ClassId) (σ : SC) (p0 : Int32) (post : Int64 → Prop) (hw : wp_X0_flowInto p0 σ post) : KL l yX0_flowInto wsX0_flowInto ({ frames := 2, cells := 0, slots := 0, locals := 44 } : Room) (dC, dI) [(cJ, .long)] (cl0 h0 w0 w1 cJ σ) [.ref h0, .int p0] (fun r u => post r ∧ u = (cl0 h0 w0 w1 cJ σ)) := by
  intro sz
  refine Met.ofW (cc := cX0_flowInto) (maxL := 5) (ret := (some .long)) (by decide) rfl ?_
  intro p e s m args below meth c s₁ B hml hv
  obtain ⟨rfl, hsz, hP, hK, hD0, hnw⟩ := hv
  have hx := B.exec
  have hb := B.bytes
  have hr := B.returns
  have hts := atoms_spec (ws := wsX0_flowInto) B.pre
  have hown : s.vm.findClass RX0 = some m.cls := findClass_of_methodNamed B.named
  have hlocks := B.notSynchronized
  subst hsz
  have hD := hD0.self (sz := s.heap.size)
  generalize hAe : va_A (cl0 h0 w0 w1 cJ σ) s.heap.size = A at hD ⊢
  have hA : ∀ q : Nat, s.heap.size ≤ q → A q := fun q h => by rw [← hAe]; exact Or.inr h
  have hS : va_S A s.heap s.heap [] := va_S.rf
  have hP : va_P (dC, dI) vwCl [(h0, .inr (0, [.ref w0, .ref w1, .int σ.1, .int σ.2.1, .int σ.2.2.1])), (w0, .inl (cJ, 512, .inr (.inl (σ.2.2.2.1)))), (w1, .inl (cJ, 9, .inr (.inl (σ.2.2.2.2))))] s.heap := hP
  have hD : va_D A [(h0, .inr (0, [.ref w0, .ref w1, .int σ.1, .int σ.2.1, .int σ.2.2.1])), (w0, .inl (cJ, 512, .inr (.inl (σ.2.2.2.1)))), (w1, .inl (cJ, 9, .inr (.inl (σ.2.2.2.2))))] := hD
  have fl_22 := hts (.fieldLink RX0 22 "OnePlaceEach$Chain" "places" "I") (by decide +kernel)
  have hin0 : ∀ w ∈ wsX00, w ∈ wsX0_flowInto := by decide +kernel
  have L63 : ∀ (x1 : Int32)  (n : Nat) (x2 : Int64) (x4 : Int32)  (k : Int64 → Int32 → Prop), wl_X0_flowInto_63 x1 σ n x2 x4 k →
      (∀ (x2 : Int64) (x4 : Int32) , k x2 x4 → ∀ (H : Heap) (locs : List Loc) (ls : Array Slot), va_P (dC, dI) vwCl [(h0, .inr (0, [.ref w0, .ref w1, .int σ.1, .int σ.2.1, .int σ.2.2.1])), (w0, .inl (cJ, 512, .inr (.inl (σ.2.2.2.1)))), (w1, .inl (cJ, 9, .inr (.inl (σ.2.2.2.2))))] H → va_D A [(h0, .inr (0, [.ref w0, .ref w1, .int σ.1, .int σ.2.1, .int σ.2.2.1])), (w0, .inl (cJ, 512, .inr (.inl (σ.2.2.2.1)))), (w1, .inl (cJ, 9, .inr (.inl (σ.2.2.2.2))))] → va_S A s.heap H locs → lv_has ls 5 [(4, .int x4), (2, .long x2), (0, .ref h0), (1, .int x1)] → W p l e (headSpec wsX0_flowInto ({ frames := 2, cells := 0, slots := 0, locals := 44 } : Room)).room s m ([.ref h0, .int p0] : List Value).toArray below meth c H locs 0 0 (MQ below (va_Ql (fun r u => post r ∧ u = (cl0 h0 w0 w1 cJ σ)) (kB (dC, dI) [(cJ, .long)] A) A) ([.ref h0, .int p0] : List Value).toArray s 0 0 A) (F0 m 118 ls [])) →
      ∀ (H : Heap) (locs : List Loc) (ls : Array Slot), va_P (dC, dI) vwCl [(h0, .inr (0, [.ref w0, .ref w1, .int σ.1, .int σ.2.1, .int σ.2.2.1])), (w0, .inl (cJ, 512, .inr (.inl (σ.2.2.2.1)))), (w1, .inl (cJ, 9, .inr (.inl (σ.2.2.2.2))))] H → va_D A [(h0, .inr (0, [.ref w0, .ref w1, .int σ.1, .int σ.2.1, .int σ.2.2.1])), (w0, .inl (cJ, 512, .inr (.inl (σ.2.2.2.1)))), (w1, .inl (cJ, 9, .inr (.inl (σ.2.2.2.2))))] → va_S A s.heap H locs → lv_has ls 5 [(4, .int x4), (2, .long x2), (0, .ref h0), (1, .int x1)] → W p l e (headSpec wsX0_flowInto ({ frames := 2, cells := 0, slots := 0, locals := 44 } : Room)).room s m ([.ref h0, .int p0] : List Value).toArray below meth c H locs 0 0 (MQ below (va_Ql (fun r u => post r ∧ u = (cl0 h0 w0 w1 cJ σ)) (kB (dC, dI) [(cJ, .long)] A) A) ([.ref h0, .int p0] : List Value).toArray s 0 0 A) (F0 m 63 ls []) := by
    intro x1 n
    induction n with
    | zero => intro x2 x4 k hw; exact absurd hw id
    | succ n ih =>
      intro x2 x4 k hw hk H locs ls hP hD hS hl
      unfold wl_X0_flowInto_63 at hw
      refine lv_iload hx hb dX0_flowInto_63 (lv_at hl 0 rfl) ?_
      refine lv_aload_n hx hb dX0_flowInto_65 rfl (lv_at hl 2 rfl) ?_
      refine va_get (D := (dC, dI)) (ci := 0) (v := .int σ.1) (C := RX0) (T := TX0) (N := 5) hx hb hts hin0 hown hK hP 0 rfl rfl 2 (by decide) fl_22 (fun _ h9 => h9) rfl dX0_flowInto_66 ?_
      refine lv_iconst (v := (1 : Int32)) hx hb dX0_flowInto_69 (by decide) ?_
      refine lv_isub hx hb dX0_flowInto_70 ?_
      refine lv_icmp_ge (tgt := 118) hx hb dX0_flowInto_71 (by decide) (fun c7 => ?_) (fun c7 => ?_)
      · have hw := hw.1 c7
        exact hk x2 x4 hw H locs ls hP hD hS (lv_sub hl [0, 1, 2, 3] rfl)
      · have hw := hw.2 c7
        refine lv_iload_n hx hb dX0_flowInto_74 rfl (lv_at hl 3 rfl) ?_
        refine lv_iload hx hb dX0_flowInto_75 (lv_at hl 0 rfl) ?_
        have hPc := hP.sub (ws' := ([] : va_W)) [] rfl
        have hDc := hD.sub (ws' := ([] : va_W)) [] (by decide) rfl
        have hKc := hK.sub (tys' := []) [] rfl
        have hFc := va_free (wc := ([] : va_W)) hD hS hA [] rfl
        refine kc_i (wr := [(h0, .inr (0, [.ref w0, .ref w1, .int σ.1, .int σ.2.1, .int σ.2.2.1])), (w0, .inl (cJ, 512, .inr (.inl (σ.2.2.2.1)))), (w1, .inl (cJ, 9, .inr (.inl (σ.2.2.2.2))))]) (kr_N (As := [.int x1, .int x4]) (rest := []) (ws := [(h0, .inr (0, [.ref w0, .ref w1, .int σ.1, .int σ.2.1, .int σ.2.2.1])), (w0, .inl (cJ, 512, .inr (.inl (σ.2.2.2.1)))), (w1, .inl (cJ, 9, .inr (.inl (σ.2.2.2.2))))]) ⟨hx, hb, hml, hown, hts⟩ (c_X3_isTaken l dC dI   x1 x4 _ hw H.size) ⟨va_cnB 2 hts gX0_flowInto_X3_isTaken_n47 rfl rfl rfl hnw.1 (hts (.initialized RX3) (by decide +kernel)) (by decide +kernel) ⟨Nat.le_of_ble_eq_true rfl, Nat.le_of_ble_eq_true rfl⟩, hts (.static yX3_isTaken) (by decide +kernel), trivial⟩ hKc hnw hP hD hPc hDc rfl hl.1 rfl (Nat.le_of_ble_eq_true rfl) dX0_flowInto_77 ⟨Nat.zero_le _, Nat.zero_le _⟩) hP hD hS hFc [] [0, 1, 2] rfl rfl (by decide) (by decide) (fun r8 u1 H locs hq hP hD hS => ?_)
        obtain ⟨hw, rfl⟩ := hq
        have hP : va_P (dC, dI) vwCl [(h0, .inr (0, [.ref w0, .ref w1, .int σ.1, .int σ.2.1, .int σ.2.2.1])), (w0, .inl (cJ, 512, .inr (.inl (σ.2.2.2.1)))), (w1, .inl (cJ, 9, .inr (.inl (σ.2.2.2.2))))] H := hP
        have hD : va_D A [(h0, .inr (0, [.ref w0, .ref w1, .int σ.1, .int σ.2.1, .int σ.2.2.1])), (w0, .inl (cJ, 512, .inr (.inl (σ.2.2.2.1)))), (w1, .inl (cJ, 9, .inr (.inl (σ.2.2.2.2))))] := hD
        refine lv_if_ne (tgt := 112) hx hb dX0_flowInto_80 (by decide) (fun c10 => ?_) (fun c10 => ?_)
        · have hw := hw.1 c10
          refine lv_iinc (v := (x4 + (1 : Int32))) (lv' := [(4, .int (x4 + (1 : Int32))), (2, .long x2), (0, .ref h0), (1, .int x1)]) hx hb dX0_flowInto_112 hl (k := 0) rfl rfl (by decide) rfl (fun ls hl => ?_)
          refine lv_goto (tgt := 63) hx hb dX0_flowInto_115 (by decide) ?_
          exact ih x2 (x4 + (1 : Int32)) _ hw hk H locs ls hP hD hS (lv_sub hl [0, 1, 2, 3] rfl)
        · have hw := hw.2 c10
          refine lv_iload_n hx hb dX0_flowInto_83 rfl (lv_at hl 3 rfl) ?_
          refine lv_iload hx hb dX0_flowInto_84 (lv_at hl 0 rfl) ?_
          refine lv_iconst (v := (1 : Int32)) hx hb dX0_flowInto_86 (by decide) ?_
          refine lv_iadd hx hb dX0_flowInto_87 ?_
          have hPc := hP.sub (ws' := ([] : va_W)) [] rfl
          have hDc := hD.sub (ws' := ([] : va_W)) [] (by decide) rfl
          have hKc := hK.sub (tys' := []) [] rfl
          have hFc := va_free (wc := ([] : va_W)) hD hS hA [] rfl
          refine kc_i (wr := [(h0, .inr (0, [.ref w0, .ref w1, .int σ.1, .int σ.2.1, .int σ.2.2.1])), (w0, .inl (cJ, 512, .inr (.inl (σ.2.2.2.1)))), (w1, .inl (cJ, 9, .inr (.inl (σ.2.2.2.2))))]) (kr_N (As := [.int x1, .int (x4 + (1 : Int32))]) (rest := []) (ws := [(h0, .inr (0, [.ref w0, .ref w1, .int σ.1, .int σ.2.1, .int σ.2.2.1])), (w0, .inl (cJ, 512, .inr (.inl (σ.2.2.2.1)))), (w1, .inl (cJ, 9, .inr (.inl (σ.2.2.2.2))))]) ⟨hx, hb, hml, hown, hts⟩ (c_X3_isTaken l dC dI   x1 (x4 + (1 : Int32)) _ hw H.size) ⟨va_cnB 2 hts gX0_flowInto_X3_isTaken_n47 rfl rfl rfl hnw.1 (hts (.initialized RX3) (by decide +kernel)) (by decide +kernel) ⟨Nat.le_of_ble_eq_true rfl, Nat.le_of_ble_eq_true rfl⟩, hts (.static yX3_isTaken) (by decide +kernel), trivial⟩ hKc hnw hP hD hPc hDc rfl hl.1 rfl (Nat.le_of_ble_eq_true rfl) dX0_flowInto_88 ⟨Nat.zero_le _, Nat.zero_le _⟩) hP hD hS hFc [] [0, 1, 2] rfl rfl (by decide) (by decide) (fun r11 u1 H locs hq hP hD hS => ?_)
          obtain ⟨hw, rfl⟩ := hq
          have hP : va_P (dC, dI) vwCl [(h0, .inr (0, [.ref w0, .ref w1, .int σ.1, .int σ.2.1, .int σ.2.2.1])), (w0, .inl (cJ, 512, .inr (.inl (σ.2.2.2.1)))), (w1, .inl (cJ, 9, .inr (.inl (σ.2.2.2.2))))] H := hP
          have hD : va_D A [(h0, .inr (0, [.ref w0, .ref w1, .int σ.1, .int σ.2.1, .int σ.2.2.1])), (w0, .inl (cJ, 512, .inr (.inl (σ.2.2.2.1)))), (w1, .inl (cJ, 9, .inr (.inl (σ.2.2.2.2))))] := hD
          refine lv_if_eq (tgt := 112) hx hb dX0_flowInto_91 (by decide) (fun c13 => ?_) (fun c13 => ?_)
          · have hw := hw.1 c13
            refine lv_iinc (v := (x4 + (1 : Int32))) (lv' := [(4, .int (x4 + (1 : Int32))), (2, .long x2), (0, .ref h0), (1, .int x1)]) hx hb dX0_flowInto_112 hl (k := 0) rfl rfl (by decide) rfl (fun ls hl => ?_)
            refine lv_goto (tgt := 63) hx hb dX0_flowInto_115 (by decide) ?_
            exact ih x2 (x4 + (1 : Int32)) _ hw hk H locs ls hP hD hS (lv_sub hl [0, 1, 2, 3] rfl)
          · have hw := hw.2 c13
            refine lv_lload_n hx hb dX0_flowInto_94 rfl (lv_at hl 1 rfl) ?_
            refine lv_aload_n hx hb dX0_flowInto_95 rfl (lv_at hl 2 rfl) ?_
            refine lv_iload_n hx hb dX0_flowInto_96 rfl (lv_at hl 3 rfl) ?_
            refine lv_iconst (v := (3 : Int32)) hx hb dX0_flowInto_97 (by decide) ?_
            refine lv_iload hx hb dX0_flowInto_98 (lv_at hl 0 rfl) ?_
            refine lv_ishl hx hb dX0_flowInto_100 ?_
            refine lv_ixor hx hb dX0_flowInto_101 ?_
            have hPc := hP
            have hDc := hD
            have hKc := hK
            have hFc := va_free (wc := [(h0, .inr (0, [.ref w0, .ref w1, .int σ.1, .int σ.2.1, .int σ.2.2.1])), (w0, .inl (cJ, 512, .inr (.inl (σ.2.2.2.1)))), (w1, .inl (cJ, 9, .inr (.inl (σ.2.2.2.2))))]) hD hS hA [0, 1, 2] rfl
            refine kc_l (wr := ([] : va_W)) (kr_V (As := [.int (x1 ^^^ ((3 : Int32) <<< (x4 &&& (31 : Int32))))]) (rest := [.long x2]) (b := h0) (ws := [(h0, .inr (0, [.ref w0, .ref w1, .int σ.1, .int σ.2.1, .int σ.2.2.1])), (w0, .inl (cJ, 512, .inr (.inl (σ.2.2.2.1)))), (w1, .inl (cJ, 9, .inr (.inl (σ.2.2.2.2))))]) ⟨hx, hb, hml, hown, hts⟩ (c_X0_weightOf l dC dI h0 w0 w1 cJ σ (x1 ^^^ ((3 : Int32) <<< (x4 &&& (31 : Int32)))) _ hw H.size) (cwV 1 hts gX0_flowInto_X0_weightOf rfl rfl rfl (by decide +kernel) ⟨Nat.le_of_ble_eq_true rfl, Nat.le_of_ble_eq_true rfl⟩) 0 0 hK rfl rfl rfl hKc hnw hP hD hPc hDc rfl hl.1 rfl (Nat.le_of_ble_eq_true rfl) dX0_flowInto_102 ⟨Nat.zero_le _, Nat.zero_le _⟩) hP hD hS hFc [0, 1, 2] [] rfl rfl (by decide) (by decide) (fun r14 u1 H locs hq hP hD hS => ?_)
            obtain ⟨hw, rfl⟩ := hq
            have hP : va_P (dC, dI) vwCl [(h0, .inr (0, [.ref w0, .ref w1, .int σ.1, .int σ.2.1, .int σ.2.2.1])), (w0, .inl (cJ, 512, .inr (.inl (σ.2.2.2.1)))), (w1, .inl (cJ, 9, .inr (.inl (σ.2.2.2.2))))] H := hP
            have hD : va_D A [(h0, .inr (0, [.ref w0, .ref w1, .int σ.1, .int σ.2.1, .int σ.2.2.1])), (w0, .inl (cJ, 512, .inr (.inl (σ.2.2.2.1)))), (w1, .inl (cJ, 9, .inr (.inl (σ.2.2.2.2))))] := hD
            refine lv_aload_n hx hb dX0_flowInto_105 rfl (lv_at hl 2 rfl) ?_
            have hPc := hP
            have hDc := hD
            have hKc := hK
            have hFc := va_free (wc := [(h0, .inr (0, [.ref w0, .ref w1, .int σ.1, .int σ.2.1, .int σ.2.2.1])), (w0, .inl (cJ, 512, .inr (.inl (σ.2.2.2.1)))), (w1, .inl (cJ, 9, .inr (.inl (σ.2.2.2.2))))]) hD hS hA [0, 1, 2] rfl
            refine kc_l (wr := ([] : va_W)) (kr_V (As := []) (rest := [.long r14, .long x2]) (b := h0) (ws := [(h0, .inr (0, [.ref w0, .ref w1, .int σ.1, .int σ.2.1, .int σ.2.2.1])), (w0, .inl (cJ, 512, .inr (.inl (σ.2.2.2.1)))), (w1, .inl (cJ, 9, .inr (.inl (σ.2.2.2.2))))]) ⟨hx, hb, hml, hown, hts⟩ (c_X0_rateOfStep l dC dI h0 w0 w1 cJ σ  _ hw H.size) (cwV 0 hts gX0_flowInto_X0_rateOfStep rfl rfl rfl (by decide +kernel) ⟨Nat.le_of_ble_eq_true rfl, Nat.le_of_ble_eq_true rfl⟩) 0 0 hK rfl rfl rfl hKc hnw hP hD hPc hDc rfl hl.1 rfl (Nat.le_of_ble_eq_true rfl) dX0_flowInto_106 ⟨Nat.zero_le _, Nat.zero_le _⟩) hP hD hS hFc [0, 1, 2] [] rfl rfl (by decide) (by decide) (fun r16 u1 H locs hq hP hD hS => ?_)
            obtain ⟨hw, rfl⟩ := hq
            have hP : va_P (dC, dI) vwCl [(h0, .inr (0, [.ref w0, .ref w1, .int σ.1, .int σ.2.1, .int σ.2.2.1])), (w0, .inl (cJ, 512, .inr (.inl (σ.2.2.2.1)))), (w1, .inl (cJ, 9, .inr (.inl (σ.2.2.2.2))))] H := hP
            have hD : va_D A [(h0, .inr (0, [.ref w0, .ref w1, .int σ.1, .int σ.2.1, .int σ.2.2.1])), (w0, .inl (cJ, 512, .inr (.inl (σ.2.2.2.1)))), (w1, .inl (cJ, 9, .inr (.inl (σ.2.2.2.2))))] := hD
            refine lv_lmul hx hb dX0_flowInto_109 ?_
            refine lv_ladd hx hb dX0_flowInto_110 ?_
            refine lv_lstore_n (lv' := [(2, .long (x2 + (r14 * r16))), (4, .int x4), (0, .ref h0), (1, .int x1)]) hx hb dX0_flowInto_111 rfl hl (by decide) rfl (fun ls hl => ?_)
            refine lv_iinc (v := (x4 + (1 : Int32))) (lv' := [(4, .int (x4 + (1 : Int32))), (2, .long (x2 + (r14 * r16))), (0, .ref h0), (1, .int x1)]) hx hb dX0_flowInto_112 hl (k := 1) rfl rfl (by decide) rfl (fun ls hl => ?_)
            refine lv_goto (tgt := 63) hx hb dX0_flowInto_115 (by decide) ?_
            exact ih (x2 + (r14 * r16)) (x4 + (1 : Int32)) _ hw hk H locs ls hP hD hS (lv_sub hl [0, 1, 2, 3] rfl)
  have hl := lv_entry ([.ref h0, .int p0]) (n := 5) (Nat.le_of_ble_eq_true rfl)
  rw [lg_entry_eq]
  generalize (lg_sl ([.ref h0, .int p0]) ++ List.replicate (5 - (lg_sl ([.ref h0, .int p0])).length) Slot.unset).toArray = ls at hl ⊢
  have hl : lv_has ls 5 [(0, .ref h0), (1, .int p0)] := hl
  unfold wp_X0_flowInto at hw
  skip
  obtain ⟨H, hH⟩ : ∃ H, H = s.heap := ⟨_, rfl⟩
  obtain ⟨locs, hlo⟩ : ∃ q : List Loc, q = [] := ⟨_, rfl⟩
  rw [← hH] at hP
  have hS : va_S A s.heap H locs := by rw [hH, hlo]; exact hS
  suffices hgo : W p l e (headSpec wsX0_flowInto ({ frames := 2, cells := 0, slots := 0, locals := 44 } : Room)).room s m _ below meth c H locs 0 0 _ (F0 m 0 ls []) by rw [hH, hlo] at hgo; exact hgo
  refine lv_lconst (v := (0 : Int64)) hx hb dX0_flowInto_0 (by decide) ?_
  refine lv_lstore_n (lv' := [(2, .long (0 : Int64)), (0, .ref h0), (1, .int p0)]) hx hb dX0_flowInto_1 rfl hl (by decide) rfl (fun ls hl => ?_)
  refine lv_iload_n hx hb dX0_flowInto_2 rfl (lv_at hl 2 rfl) ?_
  refine lv_iconst (v := (0 : Int32)) hx hb dX0_flowInto_3 (by decide) ?_
  have hPc := hP.sub (ws' := ([] : va_W)) [] rfl
  have hDc := hD.sub (ws' := ([] : va_W)) [] (by decide) rfl
  have hKc := hK.sub (tys' := []) [] rfl
  have hFc := va_free (wc := ([] : va_W)) hD hS hA [] rfl
  refine kc_i (wr := [(h0, .inr (0, [.ref w0, .ref w1, .int σ.1, .int σ.2.1, .int σ.2.2.1])), (w0, .inl (cJ, 512, .inr (.inl (σ.2.2.2.1)))), (w1, .inl (cJ, 9, .inr (.inl (σ.2.2.2.2))))]) (kr_N (As := [.int p0, .int (0 : Int32)]) (rest := []) (ws := [(h0, .inr (0, [.ref w0, .ref w1, .int σ.1, .int σ.2.1, .int σ.2.2.1])), (w0, .inl (cJ, 512, .inr (.inl (σ.2.2.2.1)))), (w1, .inl (cJ, 9, .inr (.inl (σ.2.2.2.2))))]) ⟨hx, hb, hml, hown, hts⟩ (c_X3_isTaken l dC dI   p0 (0 : Int32) _ hw H.size) ⟨va_cnB 2 hts gX0_flowInto_X3_isTaken_n47 rfl rfl rfl hnw.1 (hts (.initialized RX3) (by decide +kernel)) (by decide +kernel) ⟨Nat.le_of_ble_eq_true rfl, Nat.le_of_ble_eq_true rfl⟩, hts (.static yX3_isTaken) (by decide +kernel), trivial⟩ hKc hnw hP hD hPc hDc rfl hl.1 rfl (Nat.le_of_ble_eq_true rfl) dX0_flowInto_4 ⟨Nat.zero_le _, Nat.zero_le _⟩) hP hD hS hFc [] [0, 1, 2] rfl rfl (by decide) (by decide) (fun r1 u1 H locs hq hP hD hS => ?_)
  obtain ⟨hw, rfl⟩ := hq
  have hP : va_P (dC, dI) vwCl [(h0, .inr (0, [.ref w0, .ref w1, .int σ.1, .int σ.2.1, .int σ.2.2.1])), (w0, .inl (cJ, 512, .inr (.inl (σ.2.2.2.1)))), (w1, .inl (cJ, 9, .inr (.inl (σ.2.2.2.2))))] H := hP
  have hD : va_D A [(h0, .inr (0, [.ref w0, .ref w1, .int σ.1, .int σ.2.1, .int σ.2.2.1])), (w0, .inl (cJ, 512, .inr (.inl (σ.2.2.2.1)))), (w1, .inl (cJ, 9, .inr (.inl (σ.2.2.2.2))))] := hD
  refine lv_if_eq (tgt := 25) hx hb dX0_flowInto_7 (by decide) (fun c3 => ?_) (fun c3 => ?_)
  · have hw := hw.1 c3
    refine lv_iload_n hx hb dX0_flowInto_25 rfl (lv_at hl 2 rfl) ?_
    refine lv_aload_n hx hb dX0_flowInto_26 rfl (lv_at hl 1 rfl) ?_
    refine va_get (D := (dC, dI)) (ci := 0) (v := .int σ.1) (C := RX0) (T := TX0) (N := 5) hx hb hts hin0 hown hK hP 0 rfl rfl 2 (by decide) fl_22 (fun _ h9 => h9) rfl dX0_flowInto_27 ?_
    refine lv_iconst (v := (1 : Int32)) hx hb dX0_flowInto_30 (by decide) ?_
    refine lv_isub hx hb dX0_flowInto_31 ?_
    have hPc := hP.sub (ws' := ([] : va_W)) [] rfl
    have hDc := hD.sub (ws' := ([] : va_W)) [] (by decide) rfl
    have hKc := hK.sub (tys' := []) [] rfl
    have hFc := va_free (wc := ([] : va_W)) hD hS hA [] rfl
    refine kc_i (wr := [(h0, .inr (0, [.ref w0, .ref w1, .int σ.1, .int σ.2.1, .int σ.2.2.1])), (w0, .inl (cJ, 512, .inr (.inl (σ.2.2.2.1)))), (w1, .inl (cJ, 9, .inr (.inl (σ.2.2.2.2))))]) (kr_N (As := [.int p0, .int (σ.1 - (1 : Int32))]) (rest := []) (ws := [(h0, .inr (0, [.ref w0, .ref w1, .int σ.1, .int σ.2.1, .int σ.2.2.1])), (w0, .inl (cJ, 512, .inr (.inl (σ.2.2.2.1)))), (w1, .inl (cJ, 9, .inr (.inl (σ.2.2.2.2))))]) ⟨hx, hb, hml, hown, hts⟩ (c_X3_isTaken l dC dI   p0 (σ.1 - (1 : Int32)) _ hw H.size) ⟨va_cnB 2 hts gX0_flowInto_X3_isTaken_n47 rfl rfl rfl hnw.1 (hts (.initialized RX3) (by decide +kernel)) (by decide +kernel) ⟨Nat.le_of_ble_eq_true rfl, Nat.le_of_ble_eq_true rfl⟩, hts (.static yX3_isTaken) (by decide +kernel), trivial⟩ hKc hnw hP hD hPc hDc rfl hl.1 rfl (Nat.le_of_ble_eq_true rfl) dX0_flowInto_32 ⟨Nat.zero_le _, Nat.zero_le _⟩) hP hD hS hFc [] [0, 1, 2] rfl rfl (by decide) (by decide) (fun r4 u1 H locs hq hP hD hS => ?_)
    obtain ⟨hw, rfl⟩ := hq
    have hP : va_P (dC, dI) vwCl [(h0, .inr (0, [.ref w0, .ref w1, .int σ.1, .int σ.2.1, .int σ.2.2.1])), (w0, .inl (cJ, 512, .inr (.inl (σ.2.2.2.1)))), (w1, .inl (cJ, 9, .inr (.inl (σ.2.2.2.2))))] H := hP
    have hD : va_D A [(h0, .inr (0, [.ref w0, .ref w1, .int σ.1, .int σ.2.1, .int σ.2.2.1])), (w0, .inl (cJ, 512, .inr (.inl (σ.2.2.2.1)))), (w1, .inl (cJ, 9, .inr (.inl (σ.2.2.2.2))))] := hD
    refine lv_if_ne (tgt := 60) hx hb dX0_flowInto_35 (by decide) (fun c6 => ?_) (fun c6 => ?_)
    · have hw := hw.1 c6
      refine lv_iconst (v := (0 : Int32)) hx hb dX0_flowInto_60 (by decide) ?_
      refine lv_istore (lv' := [(4, .int (0 : Int32)), (2, .long (0 : Int64)), (0, .ref h0), (1, .int p0)]) hx hb dX0_flowInto_61 hl (by decide) rfl (fun ls hl => ?_)
      refine L63 p0 (20000) (0 : Int64) (0 : Int32) _ hw (fun x2_18 x4_19 hw H locs ls hP hD hS hl => ?_) H locs ls hP hD hS (lv_sub hl [0, 1, 2, 3] rfl)
      refine lv_lload_n hx hb dX0_flowInto_118 rfl (lv_at hl 1 rfl) ?_
      exact W.lret (v := x2_18) hx hb hr (fun t ht hW => ⟨⟨x2_18, ((cl0 h0 w0 w1 cJ σ)), rfl, ⟨hw, rfl⟩, by rw [ht]; exact hP, va_K.moved hW.alike hK, hD⟩, hS.F ht⟩) hS.2.2 dX0_flowInto_119
    · have hw := hw.2 c6
      refine lv_lload_n hx hb dX0_flowInto_38 rfl (lv_at hl 0 rfl) ?_
      refine lv_aload_n hx hb dX0_flowInto_39 rfl (lv_at hl 1 rfl) ?_
      refine lv_iload_n hx hb dX0_flowInto_40 rfl (lv_at hl 2 rfl) ?_
      refine lv_iconst (v := (1 : Int32)) hx hb dX0_flowInto_41 (by decide) ?_
      refine lv_aload_n hx hb dX0_flowInto_42 rfl (lv_at hl 1 rfl) ?_
      refine va_get (D := (dC, dI)) (ci := 0) (v := .int σ.1) (C := RX0) (T := TX0) (N := 5) hx hb hts hin0 hown hK hP 0 rfl rfl 2 (by decide) fl_22 (fun _ h9 => h9) rfl dX0_flowInto_43 ?_
      refine lv_iconst (v := (1 : Int32)) hx hb dX0_flowInto_46 (by decide) ?_
      refine lv_isub hx hb dX0_flowInto_47 ?_
      refine lv_ishl hx hb dX0_flowInto_48 ?_
      refine lv_ixor hx hb dX0_flowInto_49 ?_
      have hPc := hP
      have hDc := hD
      have hKc := hK
      have hFc := va_free (wc := [(h0, .inr (0, [.ref w0, .ref w1, .int σ.1, .int σ.2.1, .int σ.2.2.1])), (w0, .inl (cJ, 512, .inr (.inl (σ.2.2.2.1)))), (w1, .inl (cJ, 9, .inr (.inl (σ.2.2.2.2))))]) hD hS hA [0, 1, 2] rfl
      refine kc_l (wr := ([] : va_W)) (kr_V (As := [.int (p0 ^^^ ((1 : Int32) <<< ((σ.1 - (1 : Int32)) &&& (31 : Int32))))]) (rest := [.long (0 : Int64)]) (b := h0) (ws := [(h0, .inr (0, [.ref w0, .ref w1, .int σ.1, .int σ.2.1, .int σ.2.2.1])), (w0, .inl (cJ, 512, .inr (.inl (σ.2.2.2.1)))), (w1, .inl (cJ, 9, .inr (.inl (σ.2.2.2.2))))]) ⟨hx, hb, hml, hown, hts⟩ (c_X0_weightOf l dC dI h0 w0 w1 cJ σ (p0 ^^^ ((1 : Int32) <<< ((σ.1 - (1 : Int32)) &&& (31 : Int32)))) _ hw H.size) (cwV 1 hts gX0_flowInto_X0_weightOf rfl rfl rfl (by decide +kernel) ⟨Nat.le_of_ble_eq_true rfl, Nat.le_of_ble_eq_true rfl⟩) 0 0 hK rfl rfl rfl hKc hnw hP hD hPc hDc rfl hl.1 rfl (Nat.le_of_ble_eq_true rfl) dX0_flowInto_50 ⟨Nat.zero_le _, Nat.zero_le _⟩) hP hD hS hFc [0, 1, 2] [] rfl rfl (by decide) (by decide) (fun r21 u1 H locs hq hP hD hS => ?_)
      obtain ⟨hw, rfl⟩ := hq
      have hP : va_P (dC, dI) vwCl [(h0, .inr (0, [.ref w0, .ref w1, .int σ.1, .int σ.2.1, .int σ.2.2.1])), (w0, .inl (cJ, 512, .inr (.inl (σ.2.2.2.1)))), (w1, .inl (cJ, 9, .inr (.inl (σ.2.2.2.2))))] H := hP
      have hD : va_D A [(h0, .inr (0, [.ref w0, .ref w1, .int σ.1, .int σ.2.1, .int σ.2.2.1])), (w0, .inl (cJ, 512, .inr (.inl (σ.2.2.2.1)))), (w1, .inl (cJ, 9, .inr (.inl (σ.2.2.2.2))))] := hD
      refine lv_aload_n hx hb dX0_flowInto_53 rfl (lv_at hl 1 rfl) ?_
      have hPc := hP
      have hDc := hD
      have hKc := hK
      have hFc := va_free (wc := [(h0, .inr (0, [.ref w0, .ref w1, .int σ.1, .int σ.2.1, .int σ.2.2.1])), (w0, .inl (cJ, 512, .inr (.inl (σ.2.2.2.1)))), (w1, .inl (cJ, 9, .inr (.inl (σ.2.2.2.2))))]) hD hS hA [0, 1, 2] rfl
      refine kc_l (wr := ([] : va_W)) (kr_V (As := []) (rest := [.long r21, .long (0 : Int64)]) (b := h0) (ws := [(h0, .inr (0, [.ref w0, .ref w1, .int σ.1, .int σ.2.1, .int σ.2.2.1])), (w0, .inl (cJ, 512, .inr (.inl (σ.2.2.2.1)))), (w1, .inl (cJ, 9, .inr (.inl (σ.2.2.2.2))))]) ⟨hx, hb, hml, hown, hts⟩ (c_X0_rateOut l dC dI h0 w0 w1 cJ σ  _ hw H.size) (cwV 0 hts gX0_flowInto_X0_rateOut rfl rfl rfl (by decide +kernel) ⟨Nat.le_of_ble_eq_true rfl, Nat.le_of_ble_eq_true rfl⟩) 0 0 hK rfl rfl rfl hKc hnw hP hD hPc hDc rfl hl.1 rfl (Nat.le_of_ble_eq_true rfl) dX0_flowInto_54 ⟨Nat.zero_le _, Nat.zero_le _⟩) hP hD hS hFc [0, 1, 2] [] rfl rfl (by decide) (by decide) (fun r23 u1 H locs hq hP hD hS => ?_)
      obtain ⟨hw, rfl⟩ := hq
      have hP : va_P (dC, dI) vwCl [(h0, .inr (0, [.ref w0, .ref w1, .int σ.1, .int σ.2.1, .int σ.2.2.1])), (w0, .inl (cJ, 512, .inr (.inl (σ.2.2.2.1)))), (w1, .inl (cJ, 9, .inr (.inl (σ.2.2.2.2))))] H := hP
      have hD : va_D A [(h0, .inr (0, [.ref w0, .ref w1, .int σ.1, .int σ.2.1, .int σ.2.2.1])), (w0, .inl (cJ, 512, .inr (.inl (σ.2.2.2.1)))), (w1, .inl (cJ, 9, .inr (.inl (σ.2.2.2.2))))] := hD
      refine lv_lmul hx hb dX0_flowInto_57 ?_
      refine lv_ladd hx hb dX0_flowInto_58 ?_
      refine lv_lstore_n (lv' := [(2, .long ((0 : Int64) + (r21 * r23))), (0, .ref h0), (1, .int p0)]) hx hb dX0_flowInto_59 rfl hl (by decide) rfl (fun ls hl => ?_)
      refine lv_iconst (v := (0 : Int32)) hx hb dX0_flowInto_60 (by decide) ?_
      refine lv_istore (lv' := [(4, .int (0 : Int32)), (2, .long ((0 : Int64) + (r21 * r23))), (0, .ref h0), (1, .int p0)]) hx hb dX0_flowInto_61 hl (by decide) rfl (fun ls hl => ?_)
      refine L63 p0 (20000) ((0 : Int64) + (r21 * r23)) (0 : Int32) _ hw (fun x2_25 x4_26 hw H locs ls hP hD hS hl => ?_) H locs ls hP hD hS (lv_sub hl [0, 1, 2, 3] rfl)
      refine lv_lload_n hx hb dX0_flowInto_118 rfl (lv_at hl 1 rfl) ?_
      exact W.lret (v := x2_25) hx hb hr (fun t ht hW => ⟨⟨x2_25, ((cl0 h0 w0 w1 cJ σ)), rfl, ⟨hw, rfl⟩, by rw [ht]; exact hP, va_K.moved hW.alike hK, hD⟩, hS.F ht⟩) hS.2.2 dX0_flowInto_119
  · have hw := hw.2 c3
    refine lv_lload_n hx hb dX0_flowInto_10 rfl (lv_at hl 0 rfl) ?_
    refine lv_aload_n hx hb dX0_flowInto_11 rfl (lv_at hl 1 rfl) ?_
    refine lv_iload_n hx hb dX0_flowInto_12 rfl (lv_at hl 2 rfl) ?_
    refine lv_iconst (v := (1 : Int32)) hx hb dX0_flowInto_13 (by decide) ?_
    refine lv_ixor hx hb dX0_flowInto_14 ?_
    have hPc := hP
    have hDc := hD
    have hKc := hK
    have hFc := va_free (wc := [(h0, .inr (0, [.ref w0, .ref w1, .int σ.1, .int σ.2.1, .int σ.2.2.1])), (w0, .inl (cJ, 512, .inr (.inl (σ.2.2.2.1)))), (w1, .inl (cJ, 9, .inr (.inl (σ.2.2.2.2))))]) hD hS hA [0, 1, 2] rfl
    refine kc_l (wr := ([] : va_W)) (kr_V (As := [.int (p0 ^^^ (1 : Int32))]) (rest := [.long (0 : Int64)]) (b := h0) (ws := [(h0, .inr (0, [.ref w0, .ref w1, .int σ.1, .int σ.2.1, .int σ.2.2.1])), (w0, .inl (cJ, 512, .inr (.inl (σ.2.2.2.1)))), (w1, .inl (cJ, 9, .inr (.inl (σ.2.2.2.2))))]) ⟨hx, hb, hml, hown, hts⟩ (c_X0_weightOf l dC dI h0 w0 w1 cJ σ (p0 ^^^ (1 : Int32)) _ hw H.size) (cwV 1 hts gX0_flowInto_X0_weightOf rfl rfl rfl (by decide +kernel) ⟨Nat.le_of_ble_eq_true rfl, Nat.le_of_ble_eq_true rfl⟩) 0 0 hK rfl rfl rfl hKc hnw hP hD hPc hDc rfl hl.1 rfl (Nat.le_of_ble_eq_true rfl) dX0_flowInto_15 ⟨Nat.zero_le _, Nat.zero_le _⟩) hP hD hS hFc [0, 1, 2] [] rfl rfl (by decide) (by decide) (fun r28 u1 H locs hq hP hD hS => ?_)
    obtain ⟨hw, rfl⟩ := hq
    have hP : va_P (dC, dI) vwCl [(h0, .inr (0, [.ref w0, .ref w1, .int σ.1, .int σ.2.1, .int σ.2.2.1])), (w0, .inl (cJ, 512, .inr (.inl (σ.2.2.2.1)))), (w1, .inl (cJ, 9, .inr (.inl (σ.2.2.2.2))))] H := hP
    have hD : va_D A [(h0, .inr (0, [.ref w0, .ref w1, .int σ.1, .int σ.2.1, .int σ.2.2.1])), (w0, .inl (cJ, 512, .inr (.inl (σ.2.2.2.1)))), (w1, .inl (cJ, 9, .inr (.inl (σ.2.2.2.2))))] := hD
    refine lv_aload_n hx hb dX0_flowInto_18 rfl (lv_at hl 1 rfl) ?_
    have hPc := hP
    have hDc := hD
    have hKc := hK
    have hFc := va_free (wc := [(h0, .inr (0, [.ref w0, .ref w1, .int σ.1, .int σ.2.1, .int σ.2.2.1])), (w0, .inl (cJ, 512, .inr (.inl (σ.2.2.2.1)))), (w1, .inl (cJ, 9, .inr (.inl (σ.2.2.2.2))))]) hD hS hA [0, 1, 2] rfl
    refine kc_l (wr := ([] : va_W)) (kr_V (As := []) (rest := [.long r28, .long (0 : Int64)]) (b := h0) (ws := [(h0, .inr (0, [.ref w0, .ref w1, .int σ.1, .int σ.2.1, .int σ.2.2.1])), (w0, .inl (cJ, 512, .inr (.inl (σ.2.2.2.1)))), (w1, .inl (cJ, 9, .inr (.inl (σ.2.2.2.2))))]) ⟨hx, hb, hml, hown, hts⟩ (c_X0_rateIn l dC dI h0 w0 w1 cJ σ  _ hw H.size) (cwV 0 hts gX0_flowInto_X0_rateIn rfl rfl rfl (by decide +kernel) ⟨Nat.le_of_ble_eq_true rfl, Nat.le_of_ble_eq_true rfl⟩) 0 0 hK rfl rfl rfl hKc hnw hP hD hPc hDc rfl hl.1 rfl (Nat.le_of_ble_eq_true rfl) dX0_flowInto_19 ⟨Nat.zero_le _, Nat.zero_le _⟩) hP hD hS hFc [0, 1, 2] [] rfl rfl (by decide) (by decide) (fun r30 u1 H locs hq hP hD hS => ?_)
    obtain ⟨hw, rfl⟩ := hq
    have hP : va_P (dC, dI) vwCl [(h0, .inr (0, [.ref w0, .ref w1, .int σ.1, .int σ.2.1, .int σ.2.2.1])), (w0, .inl (cJ, 512, .inr (.inl (σ.2.2.2.1)))), (w1, .inl (cJ, 9, .inr (.inl (σ.2.2.2.2))))] H := hP
    have hD : va_D A [(h0, .inr (0, [.ref w0, .ref w1, .int σ.1, .int σ.2.1, .int σ.2.2.1])), (w0, .inl (cJ, 512, .inr (.inl (σ.2.2.2.1)))), (w1, .inl (cJ, 9, .inr (.inl (σ.2.2.2.2))))] := hD
    refine lv_lmul hx hb dX0_flowInto_22 ?_
    refine lv_ladd hx hb dX0_flowInto_23 ?_
    refine lv_lstore_n (lv' := [(2, .long ((0 : Int64) + (r28 * r30))), (0, .ref h0), (1, .int p0)]) hx hb dX0_flowInto_24 rfl hl (by decide) rfl (fun ls hl => ?_)
    refine lv_iload_n hx hb dX0_flowInto_25 rfl (lv_at hl 2 rfl) ?_
    refine lv_aload_n hx hb dX0_flowInto_26 rfl (lv_at hl 1 rfl) ?_
    refine va_get (D := (dC, dI)) (ci := 0) (v := .int σ.1) (C := RX0) (T := TX0) (N := 5) hx hb hts hin0 hown hK hP 0 rfl rfl 2 (by decide) fl_22 (fun _ h9 => h9) rfl dX0_flowInto_27 ?_
    refine lv_iconst (v := (1 : Int32)) hx hb dX0_flowInto_30 (by decide) ?_
    refine lv_isub hx hb dX0_flowInto_31 ?_
    have hPc := hP.sub (ws' := ([] : va_W)) [] rfl
    have hDc := hD.sub (ws' := ([] : va_W)) [] (by decide) rfl
    have hKc := hK.sub (tys' := []) [] rfl
    have hFc := va_free (wc := ([] : va_W)) hD hS hA [] rfl
    refine kc_i (wr := [(h0, .inr (0, [.ref w0, .ref w1, .int σ.1, .int σ.2.1, .int σ.2.2.1])), (w0, .inl (cJ, 512, .inr (.inl (σ.2.2.2.1)))), (w1, .inl (cJ, 9, .inr (.inl (σ.2.2.2.2))))]) (kr_N (As := [.int p0, .int (σ.1 - (1 : Int32))]) (rest := []) (ws := [(h0, .inr (0, [.ref w0, .ref w1, .int σ.1, .int σ.2.1, .int σ.2.2.1])), (w0, .inl (cJ, 512, .inr (.inl (σ.2.2.2.1)))), (w1, .inl (cJ, 9, .inr (.inl (σ.2.2.2.2))))]) ⟨hx, hb, hml, hown, hts⟩ (c_X3_isTaken l dC dI   p0 (σ.1 - (1 : Int32)) _ hw H.size) ⟨va_cnB 2 hts gX0_flowInto_X3_isTaken_n47 rfl rfl rfl hnw.1 (hts (.initialized RX3) (by decide +kernel)) (by decide +kernel) ⟨Nat.le_of_ble_eq_true rfl, Nat.le_of_ble_eq_true rfl⟩, hts (.static yX3_isTaken) (by decide +kernel), trivial⟩ hKc hnw hP hD hPc hDc rfl hl.1 rfl (Nat.le_of_ble_eq_true rfl) dX0_flowInto_32 ⟨Nat.zero_le _, Nat.zero_le _⟩) hP hD hS hFc [] [0, 1, 2] rfl rfl (by decide) (by decide) (fun r32 u1 H locs hq hP hD hS => ?_)
    obtain ⟨hw, rfl⟩ := hq
    have hP : va_P (dC, dI) vwCl [(h0, .inr (0, [.ref w0, .ref w1, .int σ.1, .int σ.2.1, .int σ.2.2.1])), (w0, .inl (cJ, 512, .inr (.inl (σ.2.2.2.1)))), (w1, .inl (cJ, 9, .inr (.inl (σ.2.2.2.2))))] H := hP
    have hD : va_D A [(h0, .inr (0, [.ref w0, .ref w1, .int σ.1, .int σ.2.1, .int σ.2.2.1])), (w0, .inl (cJ, 512, .inr (.inl (σ.2.2.2.1)))), (w1, .inl (cJ, 9, .inr (.inl (σ.2.2.2.2))))] := hD
    refine lv_if_ne (tgt := 60) hx hb dX0_flowInto_35 (by decide) (fun c34 => ?_) (fun c34 => ?_)
    · have hw := hw.1 c34
      refine lv_iconst (v := (0 : Int32)) hx hb dX0_flowInto_60 (by decide) ?_
      refine lv_istore (lv' := [(4, .int (0 : Int32)), (2, .long ((0 : Int64) + (r28 * r30))), (0, .ref h0), (1, .int p0)]) hx hb dX0_flowInto_61 hl (by decide) rfl (fun ls hl => ?_)
      refine L63 p0 (20000) ((0 : Int64) + (r28 * r30)) (0 : Int32) _ hw (fun x2_35 x4_36 hw H locs ls hP hD hS hl => ?_) H locs ls hP hD hS (lv_sub hl [0, 1, 2, 3] rfl)
      refine lv_lload_n hx hb dX0_flowInto_118 rfl (lv_at hl 1 rfl) ?_
      exact W.lret (v := x2_35) hx hb hr (fun t ht hW => ⟨⟨x2_35, ((cl0 h0 w0 w1 cJ σ)), rfl, ⟨hw, rfl⟩, by rw [ht]; exact hP, va_K.moved hW.alike hK, hD⟩, hS.F ht⟩) hS.2.2 dX0_flowInto_119
    · have hw := hw.2 c34
      refine lv_lload_n hx hb dX0_flowInto_38 rfl (lv_at hl 0 rfl) ?_
      refine lv_aload_n hx hb dX0_flowInto_39 rfl (lv_at hl 1 rfl) ?_
      refine lv_iload_n hx hb dX0_flowInto_40 rfl (lv_at hl 2 rfl) ?_
      refine lv_iconst (v := (1 : Int32)) hx hb dX0_flowInto_41 (by decide) ?_
      refine lv_aload_n hx hb dX0_flowInto_42 rfl (lv_at hl 1 rfl) ?_
      refine va_get (D := (dC, dI)) (ci := 0) (v := .int σ.1) (C := RX0) (T := TX0) (N := 5) hx hb hts hin0 hown hK hP 0 rfl rfl 2 (by decide) fl_22 (fun _ h9 => h9) rfl dX0_flowInto_43 ?_
      refine lv_iconst (v := (1 : Int32)) hx hb dX0_flowInto_46 (by decide) ?_
      refine lv_isub hx hb dX0_flowInto_47 ?_
      refine lv_ishl hx hb dX0_flowInto_48 ?_
      refine lv_ixor hx hb dX0_flowInto_49 ?_
      have hPc := hP
      have hDc := hD
      have hKc := hK
      have hFc := va_free (wc := [(h0, .inr (0, [.ref w0, .ref w1, .int σ.1, .int σ.2.1, .int σ.2.2.1])), (w0, .inl (cJ, 512, .inr (.inl (σ.2.2.2.1)))), (w1, .inl (cJ, 9, .inr (.inl (σ.2.2.2.2))))]) hD hS hA [0, 1, 2] rfl
      refine kc_l (wr := ([] : va_W)) (kr_V (As := [.int (p0 ^^^ ((1 : Int32) <<< ((σ.1 - (1 : Int32)) &&& (31 : Int32))))]) (rest := [.long ((0 : Int64) + (r28 * r30))]) (b := h0) (ws := [(h0, .inr (0, [.ref w0, .ref w1, .int σ.1, .int σ.2.1, .int σ.2.2.1])), (w0, .inl (cJ, 512, .inr (.inl (σ.2.2.2.1)))), (w1, .inl (cJ, 9, .inr (.inl (σ.2.2.2.2))))]) ⟨hx, hb, hml, hown, hts⟩ (c_X0_weightOf l dC dI h0 w0 w1 cJ σ (p0 ^^^ ((1 : Int32) <<< ((σ.1 - (1 : Int32)) &&& (31 : Int32)))) _ hw H.size) (cwV 1 hts gX0_flowInto_X0_weightOf rfl rfl rfl (by decide +kernel) ⟨Nat.le_of_ble_eq_true rfl, Nat.le_of_ble_eq_true rfl⟩) 0 0 hK rfl rfl rfl hKc hnw hP hD hPc hDc rfl hl.1 rfl (Nat.le_of_ble_eq_true rfl) dX0_flowInto_50 ⟨Nat.zero_le _, Nat.zero_le _⟩) hP hD hS hFc [0, 1, 2] [] rfl rfl (by decide) (by decide) (fun r38 u1 H locs hq hP hD hS => ?_)
      obtain ⟨hw, rfl⟩ := hq
      have hP : va_P (dC, dI) vwCl [(h0, .inr (0, [.ref w0, .ref w1, .int σ.1, .int σ.2.1, .int σ.2.2.1])), (w0, .inl (cJ, 512, .inr (.inl (σ.2.2.2.1)))), (w1, .inl (cJ, 9, .inr (.inl (σ.2.2.2.2))))] H := hP
      have hD : va_D A [(h0, .inr (0, [.ref w0, .ref w1, .int σ.1, .int σ.2.1, .int σ.2.2.1])), (w0, .inl (cJ, 512, .inr (.inl (σ.2.2.2.1)))), (w1, .inl (cJ, 9, .inr (.inl (σ.2.2.2.2))))] := hD
      refine lv_aload_n hx hb dX0_flowInto_53 rfl (lv_at hl 1 rfl) ?_
      have hPc := hP
      have hDc := hD
      have hKc := hK
      have hFc := va_free (wc := [(h0, .inr (0, [.ref w0, .ref w1, .int σ.1, .int σ.2.1, .int σ.2.2.1])), (w0, .inl (cJ, 512, .inr (.inl (σ.2.2.2.1)))), (w1, .inl (cJ, 9, .inr (.inl (σ.2.2.2.2))))]) hD hS hA [0, 1, 2] rfl
      refine kc_l (wr := ([] : va_W)) (kr_V (As := []) (rest := [.long r38, .long ((0 : Int64) + (r28 * r30))]) (b := h0) (ws := [(h0, .inr (0, [.ref w0, .ref w1, .int σ.1, .int σ.2.1, .int σ.2.2.1])), (w0, .inl (cJ, 512, .inr (.inl (σ.2.2.2.1)))), (w1, .inl (cJ, 9, .inr (.inl (σ.2.2.2.2))))]) ⟨hx, hb, hml, hown, hts⟩ (c_X0_rateOut l dC dI h0 w0 w1 cJ σ  _ hw H.size) (cwV 0 hts gX0_flowInto_X0_rateOut rfl rfl rfl (by decide +kernel) ⟨Nat.le_of_ble_eq_true rfl, Nat.le_of_ble_eq_true rfl⟩) 0 0 hK rfl rfl rfl hKc hnw hP hD hPc hDc rfl hl.1 rfl (Nat.le_of_ble_eq_true rfl) dX0_flowInto_54 ⟨Nat.zero_le _, Nat.zero_le _⟩) hP hD hS hFc [0, 1, 2] [] rfl rfl (by decide) (by decide) (fun r40 u1 H locs hq hP hD hS => ?_)
      obtain ⟨hw, rfl⟩ := hq
      have hP : va_P (dC, dI) vwCl [(h0, .inr (0, [.ref w0, .ref w1, .int σ.1, .int σ.2.1, .int σ.2.2.1])), (w0, .inl (cJ, 512, .inr (.inl (σ.2.2.2.1)))), (w1, .inl (cJ, 9, .inr (.inl (σ.2.2.2.2))))] H := hP
      have hD : va_D A [(h0, .inr (0, [.ref w0, .ref w1, .int σ.1, .int σ.2.1, .int σ.2.2.1])), (w0, .inl (cJ, 512, .inr (.inl (σ.2.2.2.1)))), (w1, .inl (cJ, 9, .inr (.inl (σ.2.2.2.2))))] := hD
      refine lv_lmul hx hb dX0_flowInto_57 ?_
      refine lv_ladd hx hb dX0_flowInto_58 ?_
      refine lv_lstore_n (lv' := [(2, .long (((0 : Int64) + (r28 * r30)) + (r38 * r40))), (0, .ref h0), (1, .int p0)]) hx hb dX0_flowInto_59 rfl hl (by decide) rfl (fun ls hl => ?_)
      refine lv_iconst (v := (0 : Int32)) hx hb dX0_flowInto_60 (by decide) ?_
      refine lv_istore (lv' := [(4, .int (0 : Int32)), (2, .long (((0 : Int64) + (r28 * r30)) + (r38 * r40))), (0, .ref h0), (1, .int p0)]) hx hb dX0_flowInto_61 hl (by decide) rfl (fun ls hl => ?_)
      refine L63 p0 (20000) (((0 : Int64) + (r28 * r30)) + (r38 * r40)) (0 : Int32) _ hw (fun x2_42 x4_43 hw H locs ls hP hD hS hl => ?_) H locs ls hP hD hS (lv_sub hl [0, 1, 2, 3] rfl)
      refine lv_lload_n hx hb dX0_flowInto_118 rfl (lv_at hl 1 rfl) ?_
      exact W.lret (v := x2_42) hx hb hr (fun t ht hW => ⟨⟨x2_42, ((cl0 h0 w0 w1 cJ σ)), rfl, ⟨hw, rfl⟩, by rw [ht]; exact hP, va_K.moved hW.alike hK, hD⟩, hS.F ht⟩) hS.2.2 dX0_flowInto_119
