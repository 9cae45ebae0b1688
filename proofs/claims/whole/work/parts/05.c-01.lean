set_option maxHeartbeats 4000000 in
set_option maxRecDepth 100000 in
theorem c_X0_flowOutOf (l : Launch) (dC : Nat → ClassId) (dI : Nat → Nat → Nat) (h0 w0 w1 : Nat) (cJ : ClassId) (σ : SC) (p0 : Int32) (post : Int64 → Prop) (hw : wp_X0_flowOutOf p0 σ post) : KL l yX0_flowOutOf wsX0_flowOutOf ({ frames := 2, cells := 0, slots := 0, locals := 44 } : Room) (dC, dI) [(cJ, .long)] (cl0 h0 w0 w1 cJ σ) [.ref h0, .int p0] (fun r u => post r ∧ u = (cl0 h0 w0 w1 cJ σ)) := by
  intro sz
  refine Met.ofW (cc := cX0_flowOutOf) (maxL := 5) (ret := (some .long)) (by decide) rfl ?_
  intro p e s m args below meth c s₁ B hml hv
  obtain ⟨rfl, hsz, hP, hK, hD0, hnw⟩ := hv
  have hx := B.exec
  have hb := B.bytes
  have hr := B.returns
  have hts := atoms_spec (ws := wsX0_flowOutOf) B.pre
  have hown : s.vm.findClass RX0 = some m.cls := findClass_of_methodNamed B.named
  have hlocks := B.notSynchronized
  subst hsz
  have hD := hD0.self (sz := s.heap.size)
  generalize hAe : va_A (cl0 h0 w0 w1 cJ σ) s.heap.size = A at hD ⊢
  have hA : ∀ q : Nat, s.heap.size ≤ q → A q := fun q h => by rw [← hAe]; exact Or.inr h
  have hS : va_S A s.heap s.heap [] := va_S.rf
  have hP : va_P (dC, dI) vwCl [(h0, .inr (0, [.ref w0, .ref w1, .int σ.1, .int σ.2.1, .int σ.2.2.1])), (w0, .inl (cJ, 512, .inr (.inl (σ.2.2.2.1)))), (w1, .inl (cJ, 9, .inr (.inl (σ.2.2.2.2))))] s.heap := hP
  have hD : va_D A [(h0, .inr (0, [.ref w0, .ref w1, .int σ.1, .int σ.2.1, .int σ.2.2.1])), (w0, .inl (cJ, 512, .inr (.inl (σ.2.2.2.1)))), (w1, .inl (cJ, 9, .inr (.inl (σ.2.2.2.2))))] := hD
  have fl_22 := hts (.fieldLink RX0 22 "OnePlaceEach$Chain" "places" "I") (by decide +kernel)
  have hin0 : ∀ w ∈ wsX00, w ∈ wsX0_flowOutOf := by decide +kernel
  have L40 : ∀ (x1 : Int32)  (n : Nat) (x2 : Int64) (x4 : Int32)  (k : Int64 → Int32 → Prop), wl_X0_flowOutOf_40 x1 σ n x2 x4 k →
      (∀ (x2 : Int64) (x4 : Int32) , k x2 x4 → ∀ (H : Heap) (locs : List Loc) (ls : Array Slot), va_P (dC, dI) vwCl [(h0, .inr (0, [.ref w0, .ref w1, .int σ.1, .int σ.2.1, .int σ.2.2.1])), (w0, .inl (cJ, 512, .inr (.inl (σ.2.2.2.1)))), (w1, .inl (cJ, 9, .inr (.inl (σ.2.2.2.2))))] H → va_D A [(h0, .inr (0, [.ref w0, .ref w1, .int σ.1, .int σ.2.1, .int σ.2.2.1])), (w0, .inl (cJ, 512, .inr (.inl (σ.2.2.2.1)))), (w1, .inl (cJ, 9, .inr (.inl (σ.2.2.2.2))))] → va_S A s.heap H locs → lv_has ls 5 [(4, .int x4), (2, .long x2), (0, .ref h0), (1, .int x1)] → W p l e (headSpec wsX0_flowOutOf ({ frames := 2, cells := 0, slots := 0, locals := 44 } : Room)).room s m ([.ref h0, .int p0] : List Value).toArray below meth c H locs 0 0 (MQ below (va_Ql (fun r u => post r ∧ u = (cl0 h0 w0 w1 cJ σ)) (kB (dC, dI) [(cJ, .long)] A) A) ([.ref h0, .int p0] : List Value).toArray s 0 0 A) (F0 m 84 ls [])) →
      ∀ (H : Heap) (locs : List Loc) (ls : Array Slot), va_P (dC, dI) vwCl [(h0, .inr (0, [.ref w0, .ref w1, .int σ.1, .int σ.2.1, .int σ.2.2.1])), (w0, .inl (cJ, 512, .inr (.inl (σ.2.2.2.1)))), (w1, .inl (cJ, 9, .inr (.inl (σ.2.2.2.2))))] H → va_D A [(h0, .inr (0, [.ref w0, .ref w1, .int σ.1, .int σ.2.1, .int σ.2.2.1])), (w0, .inl (cJ, 512, .inr (.inl (σ.2.2.2.1)))), (w1, .inl (cJ, 9, .inr (.inl (σ.2.2.2.2))))] → va_S A s.heap H locs → lv_has ls 5 [(4, .int x4), (2, .long x2), (0, .ref h0), (1, .int x1)] → W p l e (headSpec wsX0_flowOutOf ({ frames := 2, cells := 0, slots := 0, locals := 44 } : Room)).room s m ([.ref h0, .int p0] : List Value).toArray below meth c H locs 0 0 (MQ below (va_Ql (fun r u => post r ∧ u = (cl0 h0 w0 w1 cJ σ)) (kB (dC, dI) [(cJ, .long)] A) A) ([.ref h0, .int p0] : List Value).toArray s 0 0 A) (F0 m 40 ls []) := by
    intro x1 n
    induction n with
    | zero => intro x2 x4 k hw; exact absurd hw id
    | succ n ih =>
      intro x2 x4 k hw hk H locs ls hP hD hS hl
      unfold wl_X0_flowOutOf_40 at hw
      refine lv_iload hx hb dX0_flowOutOf_40 (lv_at hl 0 rfl) ?_
      refine lv_aload_n hx hb dX0_flowOutOf_42 rfl (lv_at hl 2 rfl) ?_
      refine va_get (D := (dC, dI)) (ci := 0) (v := .int σ.1) (C := RX0) (T := TX0) (N := 5) hx hb hts hin0 hown hK hP 0 rfl rfl 2 (by decide) fl_22 (fun _ h9 => h9) rfl dX0_flowOutOf_43 ?_
      refine lv_iconst (v := (1 : Int32)) hx hb dX0_flowOutOf_46 (by decide) ?_
      refine lv_isub hx hb dX0_flowOutOf_47 ?_
      refine lv_icmp_ge (tgt := 84) hx hb dX0_flowOutOf_48 (by decide) (fun c7 => ?_) (fun c7 => ?_)
      · have hw := hw.1 c7
        exact hk x2 x4 hw H locs ls hP hD hS (lv_sub hl [0, 1, 2, 3] rfl)
      · have hw := hw.2 c7
        refine lv_iload_n hx hb dX0_flowOutOf_51 rfl (lv_at hl 3 rfl) ?_
        refine lv_iload hx hb dX0_flowOutOf_52 (lv_at hl 0 rfl) ?_
        have hPc := hP.sub (ws' := ([] : va_W)) [] rfl
        have hDc := hD.sub (ws' := ([] : va_W)) [] (by decide) rfl
        have hKc := hK.sub (tys' := []) [] rfl
        have hFc := va_free (wc := ([] : va_W)) hD hS hA [] rfl
        refine kc_i (wr := [(h0, .inr (0, [.ref w0, .ref w1, .int σ.1, .int σ.2.1, .int σ.2.2.1])), (w0, .inl (cJ, 512, .inr (.inl (σ.2.2.2.1)))), (w1, .inl (cJ, 9, .inr (.inl (σ.2.2.2.2))))]) (kr_N (As := [.int x1, .int x4]) (rest := []) (ws := [(h0, .inr (0, [.ref w0, .ref w1, .int σ.1, .int σ.2.1, .int σ.2.2.1])), (w0, .inl (cJ, 512, .inr (.inl (σ.2.2.2.1)))), (w1, .inl (cJ, 9, .inr (.inl (σ.2.2.2.2))))]) ⟨hx, hb, hml, hown, hts⟩ (c_X3_isTaken l dC dI   x1 x4 _ hw H.size) ⟨va_cnB 2 hts gX0_flowOutOf_X3_isTaken_n47 rfl rfl rfl hnw.1 (hts (.initialized RX3) (by decide +kernel)) (by decide +kernel) ⟨Nat.le_of_ble_eq_true rfl, Nat.le_of_ble_eq_true rfl⟩, hts (.static yX3_isTaken) (by decide +kernel), trivial⟩ hKc hnw hP hD hPc hDc rfl hl.1 rfl (Nat.le_of_ble_eq_true rfl) dX0_flowOutOf_54 ⟨Nat.zero_le _, Nat.zero_le _⟩) hP hD hS hFc [] [0, 1, 2] rfl rfl (by decide) (by decide) (fun r8 u1 H locs hq hP hD hS => ?_)
        obtain ⟨hw, rfl⟩ := hq
        have hP : va_P (dC, dI) vwCl [(h0, .inr (0, [.ref w0, .ref w1, .int σ.1, .int σ.2.1, .int σ.2.2.1])), (w0, .inl (cJ, 512, .inr (.inl (σ.2.2.2.1)))), (w1, .inl (cJ, 9, .inr (.inl (σ.2.2.2.2))))] H := hP
        have hD : va_D A [(h0, .inr (0, [.ref w0, .ref w1, .int σ.1, .int σ.2.1, .int σ.2.2.1])), (w0, .inl (cJ, 512, .inr (.inl (σ.2.2.2.1)))), (w1, .inl (cJ, 9, .inr (.inl (σ.2.2.2.2))))] := hD
        refine lv_if_eq (tgt := 78) hx hb dX0_flowOutOf_57 (by decide) (fun c10 => ?_) (fun c10 => ?_)
        · have hw := hw.1 c10
          refine lv_iinc (v := (x4 + (1 : Int32))) (lv' := [(4, .int (x4 + (1 : Int32))), (2, .long x2), (0, .ref h0), (1, .int x1)]) hx hb dX0_flowOutOf_78 hl (k := 0) rfl rfl (by decide) rfl (fun ls hl => ?_)
          refine lv_goto (tgt := 40) hx hb dX0_flowOutOf_81 (by decide) ?_
          exact ih x2 (x4 + (1 : Int32)) _ hw hk H locs ls hP hD hS (lv_sub hl [0, 1, 2, 3] rfl)
        · have hw := hw.2 c10
          refine lv_iload_n hx hb dX0_flowOutOf_60 rfl (lv_at hl 3 rfl) ?_
          refine lv_iload hx hb dX0_flowOutOf_61 (lv_at hl 0 rfl) ?_
          refine lv_iconst (v := (1 : Int32)) hx hb dX0_flowOutOf_63 (by decide) ?_
          refine lv_iadd hx hb dX0_flowOutOf_64 ?_
          have hPc := hP.sub (ws' := ([] : va_W)) [] rfl
          have hDc := hD.sub (ws' := ([] : va_W)) [] (by decide) rfl
          have hKc := hK.sub (tys' := []) [] rfl
          have hFc := va_free (wc := ([] : va_W)) hD hS hA [] rfl
          refine kc_i (wr := [(h0, .inr (0, [.ref w0, .ref w1, .int σ.1, .int σ.2.1, .int σ.2.2.1])), (w0, .inl (cJ, 512, .inr (.inl (σ.2.2.2.1)))), (w1, .inl (cJ, 9, .inr (.inl (σ.2.2.2.2))))]) (kr_N (As := [.int x1, .int (x4 + (1 : Int32))]) (rest := []) (ws := [(h0, .inr (0, [.ref w0, .ref w1, .int σ.1, .int σ.2.1, .int σ.2.2.1])), (w0, .inl (cJ, 512, .inr (.inl (σ.2.2.2.1)))), (w1, .inl (cJ, 9, .inr (.inl (σ.2.2.2.2))))]) ⟨hx, hb, hml, hown, hts⟩ (c_X3_isTaken l dC dI   x1 (x4 + (1 : Int32)) _ hw H.size) ⟨va_cnB 2 hts gX0_flowOutOf_X3_isTaken_n47 rfl rfl rfl hnw.1 (hts (.initialized RX3) (by decide +kernel)) (by decide +kernel) ⟨Nat.le_of_ble_eq_true rfl, Nat.le_of_ble_eq_true rfl⟩, hts (.static yX3_isTaken) (by decide +kernel), trivial⟩ hKc hnw hP hD hPc hDc rfl hl.1 rfl (Nat.le_of_ble_eq_true rfl) dX0_flowOutOf_65 ⟨Nat.zero_le _, Nat.zero_le _⟩) hP hD hS hFc [] [0, 1, 2] rfl rfl (by decide) (by decide) (fun r11 u1 H locs hq hP hD hS => ?_)
          obtain ⟨hw, rfl⟩ := hq
          have hP : va_P (dC, dI) vwCl [(h0, .inr (0, [.ref w0, .ref w1, .int σ.1, .int σ.2.1, .int σ.2.2.1])), (w0, .inl (cJ, 512, .inr (.inl (σ.2.2.2.1)))), (w1, .inl (cJ, 9, .inr (.inl (σ.2.2.2.2))))] H := hP
          have hD : va_D A [(h0, .inr (0, [.ref w0, .ref w1, .int σ.1, .int σ.2.1, .int σ.2.2.1])), (w0, .inl (cJ, 512, .inr (.inl (σ.2.2.2.1)))), (w1, .inl (cJ, 9, .inr (.inl (σ.2.2.2.2))))] := hD
          refine lv_if_ne (tgt := 78) hx hb dX0_flowOutOf_68 (by decide) (fun c13 => ?_) (fun c13 => ?_)
          · have hw := hw.1 c13
            refine lv_iinc (v := (x4 + (1 : Int32))) (lv' := [(4, .int (x4 + (1 : Int32))), (2, .long x2), (0, .ref h0), (1, .int x1)]) hx hb dX0_flowOutOf_78 hl (k := 0) rfl rfl (by decide) rfl (fun ls hl => ?_)
            refine lv_goto (tgt := 40) hx hb dX0_flowOutOf_81 (by decide) ?_
            exact ih x2 (x4 + (1 : Int32)) _ hw hk H locs ls hP hD hS (lv_sub hl [0, 1, 2, 3] rfl)
          · have hw := hw.2 c13
            refine lv_lload_n hx hb dX0_flowOutOf_71 rfl (lv_at hl 1 rfl) ?_
            refine lv_aload_n hx hb dX0_flowOutOf_72 rfl (lv_at hl 2 rfl) ?_
            have hPc := hP
            have hDc := hD
            have hKc := hK
            have hFc := va_free (wc := [(h0, .inr (0, [.ref w0, .ref w1, .int σ.1, .int σ.2.1, .int σ.2.2.1])), (w0, .inl (cJ, 512, .inr (.inl (σ.2.2.2.1)))), (w1, .inl (cJ, 9, .inr (.inl (σ.2.2.2.2))))]) hD hS hA [0, 1, 2] rfl
            refine kc_l (wr := ([] : va_W)) (kr_V (As := []) (rest := [.long x2]) (b := h0) (ws := [(h0, .inr (0, [.ref w0, .ref w1, .int σ.1, .int σ.2.1, .int σ.2.2.1])), (w0, .inl (cJ, 512, .inr (.inl (σ.2.2.2.1)))), (w1, .inl (cJ, 9, .inr (.inl (σ.2.2.2.2))))]) ⟨hx, hb, hml, hown, hts⟩ (c_X0_rateOfStep l dC dI h0 w0 w1 cJ σ  _ hw H.size) (cwV 0 hts gX0_flowOutOf_X0_rateOfStep rfl rfl rfl (by decide +kernel) ⟨Nat.le_of_ble_eq_true rfl, Nat.le_of_ble_eq_true rfl⟩) 0 0 hK rfl rfl rfl hKc hnw hP hD hPc hDc rfl hl.1 rfl (Nat.le_of_ble_eq_true rfl) dX0_flowOutOf_73 ⟨Nat.zero_le _, Nat.zero_le _⟩) hP hD hS hFc [0, 1, 2] [] rfl rfl (by decide) (by decide) (fun r14 u1 H locs hq hP hD hS => ?_)
            obtain ⟨hw, rfl⟩ := hq
            have hP : va_P (dC, dI) vwCl [(h0, .inr (0, [.ref w0, .ref w1, .int σ.1, .int σ.2.1, .int σ.2.2.1])), (w0, .inl (cJ, 512, .inr (.inl (σ.2.2.2.1)))), (w1, .inl (cJ, 9, .inr (.inl (σ.2.2.2.2))))] H := hP
            have hD : va_D A [(h0, .inr (0, [.ref w0, .ref w1, .int σ.1, .int σ.2.1, .int σ.2.2.1])), (w0, .inl (cJ, 512, .inr (.inl (σ.2.2.2.1)))), (w1, .inl (cJ, 9, .inr (.inl (σ.2.2.2.2))))] := hD
            refine lv_ladd hx hb dX0_flowOutOf_76 ?_
            refine lv_lstore_n (lv' := [(2, .long (x2 + r14)), (4, .int x4), (0, .ref h0), (1, .int x1)]) hx hb dX0_flowOutOf_77 rfl hl (by decide) rfl (fun ls hl => ?_)
            refine lv_iinc (v := (x4 + (1 : Int32))) (lv' := [(4, .int (x4 + (1 : Int32))), (2, .long (x2 + r14)), (0, .ref h0), (1, .int x1)]) hx hb dX0_flowOutOf_78 hl (k := 1) rfl rfl (by decide) rfl (fun ls hl => ?_)
            refine lv_goto (tgt := 40) hx hb dX0_flowOutOf_81 (by decide) ?_
            exact ih (x2 + r14) (x4 + (1 : Int32)) _ hw hk H locs ls hP hD hS (lv_sub hl [0, 1, 2, 3] rfl)
  have hl := lv_entry ([.ref h0, .int p0]) (n := 5) (Nat.le_of_ble_eq_true rfl)
  rw [lg_entry_eq]
  generalize (lg_sl ([.ref h0, .int p0]) ++ List.replicate (5 - (lg_sl ([.ref h0, .int p0])).length) Slot.unset).toArray = ls at hl ⊢
  have hl : lv_has ls 5 [(0, .ref h0), (1, .int p0)] := hl
  unfold wp_X0_flowOutOf at hw
  skip
  obtain ⟨H, hH⟩ : ∃ H, H = s.heap := ⟨_, rfl⟩
  obtain ⟨locs, hlo⟩ : ∃ q : List Loc, q = [] := ⟨_, rfl⟩
  rw [← hH] at hP
  have hS : va_S A s.heap H locs := by rw [hH, hlo]; exact hS
  suffices hgo : W p l e (headSpec wsX0_flowOutOf ({ frames := 2, cells := 0, slots := 0, locals := 44 } : Room)).room s m _ below meth c H locs 0 0 _ (F0 m 0 ls []) by rw [hH, hlo] at hgo; exact hgo
  refine lv_lconst (v := (0 : Int64)) hx hb dX0_flowOutOf_0 (by decide) ?_
  refine lv_lstore_n (lv' := [(2, .long (0 : Int64)), (0, .ref h0), (1, .int p0)]) hx hb dX0_flowOutOf_1 rfl hl (by decide) rfl (fun ls hl => ?_)
  refine lv_iload_n hx hb dX0_flowOutOf_2 rfl (lv_at hl 2 rfl) ?_
  refine lv_iconst (v := (0 : Int32)) hx hb dX0_flowOutOf_3 (by decide) ?_
  have hPc := hP.sub (ws' := ([] : va_W)) [] rfl
  have hDc := hD.sub (ws' := ([] : va_W)) [] (by decide) rfl
  have hKc := hK.sub (tys' := []) [] rfl
  have hFc := va_free (wc := ([] : va_W)) hD hS hA [] rfl
  refine kc_i (wr := [(h0, .inr (0, [.ref w0, .ref w1, .int σ.1, .int σ.2.1, .int σ.2.2.1])), (w0, .inl (cJ, 512, .inr (.inl (σ.2.2.2.1)))), (w1, .inl (cJ, 9, .inr (.inl (σ.2.2.2.2))))]) (kr_N (As := [.int p0, .int (0 : Int32)]) (rest := []) (ws := [(h0, .inr (0, [.ref w0, .ref w1, .int σ.1, .int σ.2.1, .int σ.2.2.1])), (w0, .inl (cJ, 512, .inr (.inl (σ.2.2.2.1)))), (w1, .inl (cJ, 9, .inr (.inl (σ.2.2.2.2))))]) ⟨hx, hb, hml, hown, hts⟩ (c_X3_isTaken l dC dI   p0 (0 : Int32) _ hw H.size) ⟨va_cnB 2 hts gX0_flowOutOf_X3_isTaken_n47 rfl rfl rfl hnw.1 (hts (.initialized RX3) (by decide +kernel)) (by decide +kernel) ⟨Nat.le_of_ble_eq_true rfl, Nat.le_of_ble_eq_true rfl⟩, hts (.static yX3_isTaken) (by decide +kernel), trivial⟩ hKc hnw hP hD hPc hDc rfl hl.1 rfl (Nat.le_of_ble_eq_true rfl) dX0_flowOutOf_4 ⟨Nat.zero_le _, Nat.zero_le _⟩) hP hD hS hFc [] [0, 1, 2] rfl rfl (by decide) (by decide) (fun r1 u1 H locs hq hP hD hS => ?_)
  obtain ⟨hw, rfl⟩ := hq
  have hP : va_P (dC, dI) vwCl [(h0, .inr (0, [.ref w0, .ref w1, .int σ.1, .int σ.2.1, .int σ.2.2.1])), (w0, .inl (cJ, 512, .inr (.inl (σ.2.2.2.1)))), (w1, .inl (cJ, 9, .inr (.inl (σ.2.2.2.2))))] H := hP
  have hD : va_D A [(h0, .inr (0, [.ref w0, .ref w1, .int σ.1, .int σ.2.1, .int σ.2.2.1])), (w0, .inl (cJ, 512, .inr (.inl (σ.2.2.2.1)))), (w1, .inl (cJ, 9, .inr (.inl (σ.2.2.2.2))))] := hD
  refine lv_if_ne (tgt := 17) hx hb dX0_flowOutOf_7 (by decide) (fun c3 => ?_) (fun c3 => ?_)
  · have hw := hw.1 c3
    refine lv_iload_n hx hb dX0_flowOutOf_17 rfl (lv_at hl 2 rfl) ?_
    refine lv_aload_n hx hb dX0_flowOutOf_18 rfl (lv_at hl 1 rfl) ?_
    refine va_get (D := (dC, dI)) (ci := 0) (v := .int σ.1) (C := RX0) (T := TX0) (N := 5) hx hb hts hin0 hown hK hP 0 rfl rfl 2 (by decide) fl_22 (fun _ h9 => h9) rfl dX0_flowOutOf_19 ?_
    refine lv_iconst (v := (1 : Int32)) hx hb dX0_flowOutOf_22 (by decide) ?_
    refine lv_isub hx hb dX0_flowOutOf_23 ?_
    have hPc := hP.sub (ws' := ([] : va_W)) [] rfl
    have hDc := hD.sub (ws' := ([] : va_W)) [] (by decide) rfl
    have hKc := hK.sub (tys' := []) [] rfl
    have hFc := va_free (wc := ([] : va_W)) hD hS hA [] rfl
    refine kc_i (wr := [(h0, .inr (0, [.ref w0, .ref w1, .int σ.1, .int σ.2.1, .int σ.2.2.1])), (w0, .inl (cJ, 512, .inr (.inl (σ.2.2.2.1)))), (w1, .inl (cJ, 9, .inr (.inl (σ.2.2.2.2))))]) (kr_N (As := [.int p0, .int (σ.1 - (1 : Int32))]) (rest := []) (ws := [(h0, .inr (0, [.ref w0, .ref w1, .int σ.1, .int σ.2.1, .int σ.2.2.1])), (w0, .inl (cJ, 512, .inr (.inl (σ.2.2.2.1)))), (w1, .inl (cJ, 9, .inr (.inl (σ.2.2.2.2))))]) ⟨hx, hb, hml, hown, hts⟩ (c_X3_isTaken l dC dI   p0 (σ.1 - (1 : Int32)) _ hw H.size) ⟨va_cnB 2 hts gX0_flowOutOf_X3_isTaken_n47 rfl rfl rfl hnw.1 (hts (.initialized RX3) (by decide +kernel)) (by decide +kernel) ⟨Nat.le_of_ble_eq_true rfl, Nat.le_of_ble_eq_true rfl⟩, hts (.static yX3_isTaken) (by decide +kernel), trivial⟩ hKc hnw hP hD hPc hDc rfl hl.1 rfl (Nat.le_of_ble_eq_true rfl) dX0_flowOutOf_24 ⟨Nat.zero_le _, Nat.zero_le _⟩) hP hD hS hFc [] [0, 1, 2] rfl rfl (by decide) (by decide) (fun r4 u1 H locs hq hP hD hS => ?_)
    obtain ⟨hw, rfl⟩ := hq
    have hP : va_P (dC, dI) vwCl [(h0, .inr (0, [.ref w0, .ref w1, .int σ.1, .int σ.2.1, .int σ.2.2.1])), (w0, .inl (cJ, 512, .inr (.inl (σ.2.2.2.1)))), (w1, .inl (cJ, 9, .inr (.inl (σ.2.2.2.2))))] H := hP
    have hD : va_D A [(h0, .inr (0, [.ref w0, .ref w1, .int σ.1, .int σ.2.1, .int σ.2.2.1])), (w0, .inl (cJ, 512, .inr (.inl (σ.2.2.2.1)))), (w1, .inl (cJ, 9, .inr (.inl (σ.2.2.2.2))))] := hD
    refine lv_if_eq (tgt := 37) hx hb dX0_flowOutOf_27 (by decide) (fun c6 => ?_) (fun c6 => ?_)
    · have hw := hw.1 c6
      refine lv_iconst (v := (0 : Int32)) hx hb dX0_flowOutOf_37 (by decide) ?_
      refine lv_istore (lv' := [(4, .int (0 : Int32)), (2, .long (0 : Int64)), (0, .ref h0), (1, .int p0)]) hx hb dX0_flowOutOf_38 hl (by decide) rfl (fun ls hl => ?_)
      refine L40 p0 (20000) (0 : Int64) (0 : Int32) _ hw (fun x2_16 x4_17 hw H locs ls hP hD hS hl => ?_) H locs ls hP hD hS (lv_sub hl [0, 1, 2, 3] rfl)
      refine lv_aload_n hx hb dX0_flowOutOf_84 rfl (lv_at hl 2 rfl) ?_
      refine lv_iload_n hx hb dX0_flowOutOf_85 rfl (lv_at hl 3 rfl) ?_
      have hPc := hP
      have hDc := hD
      have hKc := hK
      have hFc := va_free (wc := [(h0, .inr (0, [.ref w0, .ref w1, .int σ.1, .int σ.2.1, .int σ.2.2.1])), (w0, .inl (cJ, 512, .inr (.inl (σ.2.2.2.1)))), (w1, .inl (cJ, 9, .inr (.inl (σ.2.2.2.2))))]) hD hS hA [0, 1, 2] rfl
      refine kc_l (wr := ([] : va_W)) (kr_V (As := [.int p0]) (rest := []) (b := h0) (ws := [(h0, .inr (0, [.ref w0, .ref w1, .int σ.1, .int σ.2.1, .int σ.2.2.1])), (w0, .inl (cJ, 512, .inr (.inl (σ.2.2.2.1)))), (w1, .inl (cJ, 9, .inr (.inl (σ.2.2.2.2))))]) ⟨hx, hb, hml, hown, hts⟩ (c_X0_weightOf l dC dI h0 w0 w1 cJ σ p0 _ hw H.size) (cwV 1 hts gX0_flowOutOf_X0_weightOf rfl rfl rfl (by decide +kernel) ⟨Nat.le_of_ble_eq_true rfl, Nat.le_of_ble_eq_true rfl⟩) 0 0 hK rfl rfl rfl hKc hnw hP hD hPc hDc rfl hl.1 rfl (Nat.le_of_ble_eq_true rfl) dX0_flowOutOf_86 ⟨Nat.zero_le _, Nat.zero_le _⟩) hP hD hS hFc [0, 1, 2] [] rfl rfl (by decide) (by decide) (fun r19 u1 H locs hq hP hD hS => ?_)
      obtain ⟨hw, rfl⟩ := hq
      have hP : va_P (dC, dI) vwCl [(h0, .inr (0, [.ref w0, .ref w1, .int σ.1, .int σ.2.1, .int σ.2.2.1])), (w0, .inl (cJ, 512, .inr (.inl (σ.2.2.2.1)))), (w1, .inl (cJ, 9, .inr (.inl (σ.2.2.2.2))))] H := hP
      have hD : va_D A [(h0, .inr (0, [.ref w0, .ref w1, .int σ.1, .int σ.2.1, .int σ.2.2.1])), (w0, .inl (cJ, 512, .inr (.inl (σ.2.2.2.1)))), (w1, .inl (cJ, 9, .inr (.inl (σ.2.2.2.2))))] := hD
      refine lv_lload_n hx hb dX0_flowOutOf_89 rfl (lv_at hl 1 rfl) ?_
      refine lv_lmul hx hb dX0_flowOutOf_90 ?_
      exact W.lret (v := (r19 * x2_16)) hx hb hr (fun t ht hW => ⟨⟨(r19 * x2_16), ((cl0 h0 w0 w1 cJ σ)), rfl, ⟨hw, rfl⟩, by rw [ht]; exact hP, va_K.moved hW.alike hK, hD⟩, hS.F ht⟩) hS.2.2 dX0_flowOutOf_91
    · have hw := hw.2 c6
      refine lv_lload_n hx hb dX0_flowOutOf_30 rfl (lv_at hl 0 rfl) ?_
      refine lv_aload_n hx hb dX0_flowOutOf_31 rfl (lv_at hl 1 rfl) ?_
      have hPc := hP
      have hDc := hD
      have hKc := hK
      have hFc := va_free (wc := [(h0, .inr (0, [.ref w0, .ref w1, .int σ.1, .int σ.2.1, .int σ.2.2.1])), (w0, .inl (cJ, 512, .inr (.inl (σ.2.2.2.1)))), (w1, .inl (cJ, 9, .inr (.inl (σ.2.2.2.2))))]) hD hS hA [0, 1, 2] rfl
      refine kc_l (wr := ([] : va_W)) (kr_V (As := []) (rest := [.long (0 : Int64)]) (b := h0) (ws := [(h0, .inr (0, [.ref w0, .ref w1, .int σ.1, .int σ.2.1, .int σ.2.2.1])), (w0, .inl (cJ, 512, .inr (.inl (σ.2.2.2.1)))), (w1, .inl (cJ, 9, .inr (.inl (σ.2.2.2.2))))]) ⟨hx, hb, hml, hown, hts⟩ (c_X0_rateOut l dC dI h0 w0 w1 cJ σ  _ hw H.size) (cwV 0 hts gX0_flowOutOf_X0_rateOut rfl rfl rfl (by decide +kernel) ⟨Nat.le_of_ble_eq_true rfl, Nat.le_of_ble_eq_true rfl⟩) 0 0 hK rfl rfl rfl hKc hnw hP hD hPc hDc rfl hl.1 rfl (Nat.le_of_ble_eq_true rfl) dX0_flowOutOf_32 ⟨Nat.zero_le _, Nat.zero_le _⟩) hP hD hS hFc [0, 1, 2] [] rfl rfl (by decide) (by decide) (fun r21 u1 H locs hq hP hD hS => ?_)
      obtain ⟨hw, rfl⟩ := hq
      have hP : va_P (dC, dI) vwCl [(h0, .inr (0, [.ref w0, .ref w1, .int σ.1, .int σ.2.1, .int σ.2.2.1])), (w0, .inl (cJ, 512, .inr (.inl (σ.2.2.2.1)))), (w1, .inl (cJ, 9, .inr (.inl (σ.2.2.2.2))))] H := hP
      have hD : va_D A [(h0, .inr (0, [.ref w0, .ref w1, .int σ.1, .int σ.2.1, .int σ.2.2.1])), (w0, .inl (cJ, 512, .inr (.inl (σ.2.2.2.1)))), (w1, .inl (cJ, 9, .inr (.inl (σ.2.2.2.2))))] := hD
      refine lv_ladd hx hb dX0_flowOutOf_35 ?_
      refine lv_lstore_n (lv' := [(2, .long ((0 : Int64) + r21)), (0, .ref h0), (1, .int p0)]) hx hb dX0_flowOutOf_36 rfl hl (by decide) rfl (fun ls hl => ?_)
      refine lv_iconst (v := (0 : Int32)) hx hb dX0_flowOutOf_37 (by decide) ?_
      refine lv_istore (lv' := [(4, .int (0 : Int32)), (2, .long ((0 : Int64) + r21)), (0, .ref h0), (1, .int p0)]) hx hb dX0_flowOutOf_38 hl (by decide) rfl (fun ls hl => ?_)
      refine L40 p0 (20000) ((0 : Int64) + r21) (0 : Int32) _ hw (fun x2_23 x4_24 hw H locs ls hP hD hS hl => ?_) H locs ls hP hD hS (lv_sub hl [0, 1, 2, 3] rfl)
      refine lv_aload_n hx hb dX0_flowOutOf_84 rfl (lv_at hl 2 rfl) ?_
      refine lv_iload_n hx hb dX0_flowOutOf_85 rfl (lv_at hl 3 rfl) ?_
      have hPc := hP
      have hDc := hD
      have hKc := hK
      have hFc := va_free (wc := [(h0, .inr (0, [.ref w0, .ref w1, .int σ.1, .int σ.2.1, .int σ.2.2.1])), (w0, .inl (cJ, 512, .inr (.inl (σ.2.2.2.1)))), (w1, .inl (cJ, 9, .inr (.inl (σ.2.2.2.2))))]) hD hS hA [0, 1, 2] rfl
      refine kc_l (wr := ([] : va_W)) (kr_V (As := [.int p0]) (rest := []) (b := h0) (ws := [(h0, .inr (0, [.ref w0, .ref w1, .int σ.1, .int σ.2.1, .int σ.2.2.1])), (w0, .inl (cJ, 512, .inr (.inl (σ.2.2.2.1)))), (w1, .inl (cJ, 9, .inr (.inl (σ.2.2.2.2))))]) ⟨hx, hb, hml, hown, hts⟩ (c_X0_weightOf l dC dI h0 w0 w1 cJ σ p0 _ hw H.size) (cwV 1 hts gX0_flowOutOf_X0_weightOf rfl rfl rfl (by decide +kernel) ⟨Nat.le_of_ble_eq_true rfl, Nat.le_of_ble_eq_true rfl⟩) 0 0 hK rfl rfl rfl hKc hnw hP hD hPc hDc rfl hl.1 rfl (Nat.le_of_ble_eq_true rfl) dX0_flowOutOf_86 ⟨Nat.zero_le _, Nat.zero_le _⟩) hP hD hS hFc [0, 1, 2] [] rfl rfl (by decide) (by decide) (fun r26 u1 H locs hq hP hD hS => ?_)
      obtain ⟨hw, rfl⟩ := hq
      have hP : va_P (dC, dI) vwCl [(h0, .inr (0, [.ref w0, .ref w1, .int σ.1, .int σ.2.1, .int σ.2.2.1])), (w0, .inl (cJ, 512, .inr (.inl (σ.2.2.2.1)))), (w1, .inl (cJ, 9, .inr (.inl (σ.2.2.2.2))))] H := hP
      have hD : va_D A [(h0, .inr (0, [.ref w0, .ref w1, .int σ.1, .int σ.2.1, .int σ.2.2.1])), (w0, .inl (cJ, 512, .inr (.inl (σ.2.2.2.1)))), (w1, .inl (cJ, 9, .inr (.inl (σ.2.2.2.2))))] := hD
      refine lv_lload_n hx hb dX0_flowOutOf_89 rfl (lv_at hl 1 rfl) ?_
      refine lv_lmul hx hb dX0_flowOutOf_90 ?_
      exact W.lret (v := (r26 * x2_23)) hx hb hr (fun t ht hW => ⟨⟨(r26 * x2_23), ((cl0 h0 w0 w1 cJ σ)), rfl, ⟨hw, rfl⟩, by rw [ht]; exact hP, va_K.moved hW.alike hK, hD⟩, hS.F ht⟩) hS.2.2 dX0_flowOutOf_91
  · have hw := hw.2 c3
    refine lv_lload_n hx hb dX0_flowOutOf_10 rfl (lv_at hl 0 rfl) ?_
    refine lv_aload_n hx hb dX0_flowOutOf_11 rfl (lv_at hl 1 rfl) ?_
    have hPc := hP
    have hDc := hD
    have hKc := hK
    have hFc := va_free (wc := [(h0, .inr (0, [.ref w0, .ref w1, .int σ.1, .int σ.2.1, .int σ.2.2.1])), (w0, .inl (cJ, 512, .inr (.inl (σ.2.2.2.1)))), (w1, .inl (cJ, 9, .inr (.inl (σ.2.2.2.2))))]) hD hS hA [0, 1, 2] rfl
    refine kc_l (wr := ([] : va_W)) (kr_V (As := []) (rest := [.long (0 : Int64)]) (b := h0) (ws := [(h0, .inr (0, [.ref w0, .ref w1, .int σ.1, .int σ.2.1, .int σ.2.2.1])), (w0, .inl (cJ, 512, .inr (.inl (σ.2.2.2.1)))), (w1, .inl (cJ, 9, .inr (.inl (σ.2.2.2.2))))]) ⟨hx, hb, hml, hown, hts⟩ (c_X0_rateIn l dC dI h0 w0 w1 cJ σ  _ hw H.size) (cwV 0 hts gX0_flowOutOf_X0_rateIn rfl rfl rfl (by decide +kernel) ⟨Nat.le_of_ble_eq_true rfl, Nat.le_of_ble_eq_true rfl⟩) 0 0 hK rfl rfl rfl hKc hnw hP hD hPc hDc rfl hl.1 rfl (Nat.le_of_ble_eq_true rfl) dX0_flowOutOf_12 ⟨Nat.zero_le _, Nat.zero_le _⟩) hP hD hS hFc [0, 1, 2] [] rfl rfl (by decide) (by decide) (fun r28 u1 H locs hq hP hD hS => ?_)
    obtain ⟨hw, rfl⟩ := hq
    have hP : va_P (dC, dI) vwCl [(h0, .inr (0, [.ref w0, .ref w1, .int σ.1, .int σ.2.1, .int σ.2.2.1])), (w0, .inl (cJ, 512, .inr (.inl (σ.2.2.2.1)))), (w1, .inl (cJ, 9, .inr (.inl (σ.2.2.2.2))))] H := hP
    have hD : va_D A [(h0, .inr (0, [.ref w0, .ref w1, .int σ.1, .int σ.2.1, .int σ.2.2.1])), (w0, .inl (cJ, 512, .inr (.inl (σ.2.2.2.1)))), (w1, .inl (cJ, 9, .inr (.inl (σ.2.2.2.2))))] := hD
    refine lv_ladd hx hb dX0_flowOutOf_15 ?_
    refine lv_lstore_n (lv' := [(2, .long ((0 : Int64) + r28)), (0, .ref h0), (1, .int p0)]) hx hb dX0_flowOutOf_16 rfl hl (by decide) rfl (fun ls hl => ?_)
    refine lv_iload_n hx hb dX0_flowOutOf_17 rfl (lv_at hl 2 rfl) ?_
    refine lv_aload_n hx hb dX0_flowOutOf_18 rfl (lv_at hl 1 rfl) ?_
    refine va_get (D := (dC, dI)) (ci := 0) (v := .int σ.1) (C := RX0) (T := TX0) (N := 5) hx hb hts hin0 hown hK hP 0 rfl rfl 2 (by decide) fl_22 (fun _ h9 => h9) rfl dX0_flowOutOf_19 ?_
    refine lv_iconst (v := (1 : Int32)) hx hb dX0_flowOutOf_22 (by decide) ?_
    refine lv_isub hx hb dX0_flowOutOf_23 ?_
    have hPc := hP.sub (ws' := ([] : va_W)) [] rfl
    have hDc := hD.sub (ws' := ([] : va_W)) [] (by decide) rfl
    have hKc := hK.sub (tys' := []) [] rfl
    have hFc := va_free (wc := ([] : va_W)) hD hS hA [] rfl
    refine kc_i (wr := [(h0, .inr (0, [.ref w0, .ref w1, .int σ.1, .int σ.2.1, .int σ.2.2.1])), (w0, .inl (cJ, 512, .inr (.inl (σ.2.2.2.1)))), (w1, .inl (cJ, 9, .inr (.inl (σ.2.2.2.2))))]) (kr_N (As := [.int p0, .int (σ.1 - (1 : Int32))]) (rest := []) (ws := [(h0, .inr (0, [.ref w0, .ref w1, .int σ.1, .int σ.2.1, .int σ.2.2.1])), (w0, .inl (cJ, 512, .inr (.inl (σ.2.2.2.1)))), (w1, .inl (cJ, 9, .inr (.inl (σ.2.2.2.2))))]) ⟨hx, hb, hml, hown, hts⟩ (c_X3_isTaken l dC dI   p0 (σ.1 - (1 : Int32)) _ hw H.size) ⟨va_cnB 2 hts gX0_flowOutOf_X3_isTaken_n47 rfl rfl rfl hnw.1 (hts (.initialized RX3) (by decide +kernel)) (by decide +kernel) ⟨Nat.le_of_ble_eq_true rfl, Nat.le_of_ble_eq_true rfl⟩, hts (.static yX3_isTaken) (by decide +kernel), trivial⟩ hKc hnw hP hD hPc hDc rfl hl.1 rfl (Nat.le_of_ble_eq_true rfl) dX0_flowOutOf_24 ⟨Nat.zero_le _, Nat.zero_le _⟩) hP hD hS hFc [] [0, 1, 2] rfl rfl (by decide) (by decide) (fun r30 u1 H locs hq hP hD hS => ?_)
    obtain ⟨hw, rfl⟩ := hq
    have hP : va_P (dC, dI) vwCl [(h0, .inr (0, [.ref w0, .ref w1, .int σ.1, .int σ.2.1, .int σ.2.2.1])), (w0, .inl (cJ, 512, .inr (.inl (σ.2.2.2.1)))), (w1, .inl (cJ, 9, .inr (.inl (σ.2.2.2.2))))] H := hP
    have hD : va_D A [(h0, .inr (0, [.ref w0, .ref w1, .int σ.1, .int σ.2.1, .int σ.2.2.1])), (w0, .inl (cJ, 512, .inr (.inl (σ.2.2.2.1)))), (w1, .inl (cJ, 9, .inr (.inl (σ.2.2.2.2))))] := hD
    refine lv_if_eq (tgt := 37) hx hb dX0_flowOutOf_27 (by decide) (fun c32 => ?_) (fun c32 => ?_)
    · have hw := hw.1 c32
      refine lv_iconst (v := (0 : Int32)) hx hb dX0_flowOutOf_37 (by decide) ?_
      refine lv_istore (lv' := [(4, .int (0 : Int32)), (2, .long ((0 : Int64) + r28)), (0, .ref h0), (1, .int p0)]) hx hb dX0_flowOutOf_38 hl (by decide) rfl (fun ls hl => ?_)
      refine L40 p0 (20000) ((0 : Int64) + r28) (0 : Int32) _ hw (fun x2_33 x4_34 hw H locs ls hP hD hS hl => ?_) H locs ls hP hD hS (lv_sub hl [0, 1, 2, 3] rfl)
      refine lv_aload_n hx hb dX0_flowOutOf_84 rfl (lv_at hl 2 rfl) ?_
      refine lv_iload_n hx hb dX0_flowOutOf_85 rfl (lv_at hl 3 rfl) ?_
      have hPc := hP
      have hDc := hD
      have hKc := hK
      have hFc := va_free (wc := [(h0, .inr (0, [.ref w0, .ref w1, .int σ.1, .int σ.2.1, .int σ.2.2.1])), (w0, .inl (cJ, 512, .inr (.inl (σ.2.2.2.1)))), (w1, .inl (cJ, 9, .inr (.inl (σ.2.2.2.2))))]) hD hS hA [0, 1, 2] rfl
      refine kc_l (wr := ([] : va_W)) (kr_V (As := [.int p0]) (rest := []) (b := h0) (ws := [(h0, .inr (0, [.ref w0, .ref w1, .int σ.1, .int σ.2.1, .int σ.2.2.1])), (w0, .inl (cJ, 512, .inr (.inl (σ.2.2.2.1)))), (w1, .inl (cJ, 9, .inr (.inl (σ.2.2.2.2))))]) ⟨hx, hb, hml, hown, hts⟩ (c_X0_weightOf l dC dI h0 w0 w1 cJ σ p0 _ hw H.size) (cwV 1 hts gX0_flowOutOf_X0_weightOf rfl rfl rfl (by decide +kernel) ⟨Nat.le_of_ble_eq_true rfl, Nat.le_of_ble_eq_true rfl⟩) 0 0 hK rfl rfl rfl hKc hnw hP hD hPc hDc rfl hl.1 rfl (Nat.le_of_ble_eq_true rfl) dX0_flowOutOf_86 ⟨Nat.zero_le _, Nat.zero_le _⟩) hP hD hS hFc [0, 1, 2] [] rfl rfl (by decide) (by decide) (fun r36 u1 H locs hq hP hD hS => ?_)
      obtain ⟨hw, rfl⟩ := hq
      have hP : va_P (dC, dI) vwCl [(h0, .inr (0, [.ref w0, .ref w1, .int σ.1, .int σ.2.1, .int σ.2.2.1])), (w0, .inl (cJ, 512, .inr (.inl (σ.2.2.2.1)))), (w1, .inl (cJ, 9, .inr (.inl (σ.2.2.2.2))))] H := hP
      have hD : va_D A [(h0, .inr (0, [.ref w0, .ref w1, .int σ.1, .int σ.2.1, .int σ.2.2.1])), (w0, .inl (cJ, 512, .inr (.inl (σ.2.2.2.1)))), (w1, .inl (cJ, 9, .inr (.inl (σ.2.2.2.2))))] := hD
      refine lv_lload_n hx hb dX0_flowOutOf_89 rfl (lv_at hl 1 rfl) ?_
      refine lv_lmul hx hb dX0_flowOutOf_90 ?_
      exact W.lret (v := (r36 * x2_33)) hx hb hr (fun t ht hW => ⟨⟨(r36 * x2_33), ((cl0 h0 w0 w1 cJ σ)), rfl, ⟨hw, rfl⟩, by rw [ht]; exact hP, va_K.moved hW.alike hK, hD⟩, hS.F ht⟩) hS.2.2 dX0_flowOutOf_91
    · have hw := hw.2 c32
      refine lv_lload_n hx hb dX0_flowOutOf_30 rfl (lv_at hl 0 rfl) ?_
      refine lv_aload_n hx hb dX0_flowOutOf_31 rfl (lv_at hl 1 rfl) ?_
      have hPc := hP
      have hDc := hD
      have hKc := hK
      have hFc := va_free (wc := [(h0, .inr (0, [.ref w0, .ref w1, .int σ.1, .int σ.2.1, .int σ.2.2.1])), (w0, .inl (cJ, 512, .inr (.inl (σ.2.2.2.1)))), (w1, .inl (cJ, 9, .inr (.inl (σ.2.2.2.2))))]) hD hS hA [0, 1, 2] rfl
      refine kc_l (wr := ([] : va_W)) (kr_V (As := []) (rest := [.long ((0 : Int64) + r28)]) (b := h0) (ws := [(h0, .inr (0, [.ref w0, .ref w1, .int σ.1, .int σ.2.1, .int σ.2.2.1])), (w0, .inl (cJ, 512, .inr (.inl (σ.2.2.2.1)))), (w1, .inl (cJ, 9, .inr (.inl (σ.2.2.2.2))))]) ⟨hx, hb, hml, hown, hts⟩ (c_X0_rateOut l dC dI h0 w0 w1 cJ σ  _ hw H.size) (cwV 0 hts gX0_flowOutOf_X0_rateOut rfl rfl rfl (by decide +kernel) ⟨Nat.le_of_ble_eq_true rfl, Nat.le_of_ble_eq_true rfl⟩) 0 0 hK rfl rfl rfl hKc hnw hP hD hPc hDc rfl hl.1 rfl (Nat.le_of_ble_eq_true rfl) dX0_flowOutOf_32 ⟨Nat.zero_le _, Nat.zero_le _⟩) hP hD hS hFc [0, 1, 2] [] rfl rfl (by decide) (by decide) (fun r38 u1 H locs hq hP hD hS => ?_)
      obtain ⟨hw, rfl⟩ := hq
      have hP : va_P (dC, dI) vwCl [(h0, .inr (0, [.ref w0, .ref w1, .int σ.1, .int σ.2.1, .int σ.2.2.1])), (w0, .inl (cJ, 512, .inr (.inl (σ.2.2.2.1)))), (w1, .inl (cJ, 9, .inr (.inl (σ.2.2.2.2))))] H := hP
      have hD : va_D A [(h0, .inr (0, [.ref w0, .ref w1, .int σ.1, .int σ.2.1, .int σ.2.2.1])), (w0, .inl (cJ, 512, .inr (.inl (σ.2.2.2.1)))), (w1, .inl (cJ, 9, .inr (.inl (σ.2.2.2.2))))] := hD
      refine lv_ladd hx hb dX0_flowOutOf_35 ?_
      refine lv_lstore_n (lv' := [(2, .long (((0 : Int64) + r28) + r38)), (0, .ref h0), (1, .int p0)]) hx hb dX0_flowOutOf_36 rfl hl (by decide) rfl (fun ls hl => ?_)
      refine lv_iconst (v := (0 : Int32)) hx hb dX0_flowOutOf_37 (by decide) ?_
      refine lv_istore (lv' := [(4, .int (0 : Int32)), (2, .long (((0 : Int64) + r28) + r38)), (0, .ref h0), (1, .int p0)]) hx hb dX0_flowOutOf_38 hl (by decide) rfl (fun ls hl => ?_)
      refine L40 p0 (20000) (((0 : Int64) + r28) + r38) (0 : Int32) _ hw (fun x2_40 x4_41 hw H locs ls hP hD hS hl => ?_) H locs ls hP hD hS (lv_sub hl [0, 1, 2, 3] rfl)
      refine lv_aload_n hx hb dX0_flowOutOf_84 rfl (lv_at hl 2 rfl) ?_
      refine lv_iload_n hx hb dX0_flowOutOf_85 rfl (lv_at hl 3 rfl) ?_
      have hPc := hP
      have hDc := hD
      have hKc := hK
      have hFc := va_free (wc := [(h0, .inr (0, [.ref w0, .ref w1, .int σ.1, .int σ.2.1, .int σ.2.2.1])), (w0, .inl (cJ, 512, .inr (.inl (σ.2.2.2.1)))), (w1, .inl (cJ, 9, .inr (.inl (σ.2.2.2.2))))]) hD hS hA [0, 1, 2] rfl
      refine kc_l (wr := ([] : va_W)) (kr_V (As := [.int p0]) (rest := []) (b := h0) (ws := [(h0, .inr (0, [.ref w0, .ref w1, .int σ.1, .int σ.2.1, .int σ.2.2.1])), (w0, .inl (cJ, 512, .inr (.inl (σ.2.2.2.1)))), (w1, .inl (cJ, 9, .inr (.inl (σ.2.2.2.2))))]) ⟨hx, hb, hml, hown, hts⟩ (c_X0_weightOf l dC dI h0 w0 w1 cJ σ p0 _ hw H.size) (cwV 1 hts gX0_flowOutOf_X0_weightOf rfl rfl rfl (by decide +kernel) ⟨Nat.le_of_ble_eq_true rfl, Nat.le_of_ble_eq_true rfl⟩) 0 0 hK rfl rfl rfl hKc hnw hP hD hPc hDc rfl hl.1 rfl (Nat.le_of_ble_eq_true rfl) dX0_flowOutOf_86 ⟨Nat.zero_le _, Nat.zero_le _⟩) hP hD hS hFc [0, 1, 2] [] rfl rfl (by decide) (by decide) (fun r43 u1 H locs hq hP hD hS => ?_)
      obtain ⟨hw, rfl⟩ := hq
      have hP : va_P (dC, dI) vwCl [(h0, .inr (0, [.ref w0, .ref w1, .int σ.1, .int σ.2.1, .int σ.2.2.1])), (w0, .inl (cJ, 512, .inr (.inl (σ.2.2.2.1)))), (w1, .inl (cJ, 9, .inr (.inl (σ.2.2.2.2))))] H := hP
      have hD : va_D A [(h0, .inr (0, [.ref w0, .ref w1, .int σ.1, .int σ.2.1, .int σ.2.2.1])), (w0, .inl (cJ, 512, .inr (.inl (σ.2.2.2.1)))), (w1, .inl (cJ, 9, .inr (.inl (σ.2.2.2.2))))] := hD
      refine lv_lload_n hx hb dX0_flowOutOf_89 rfl (lv_at hl 1 rfl) ?_
      refine lv_lmul hx hb dX0_flowOutOf_90 ?_
      exact W.lret (v := (r43 * x2_40)) hx hb hr (fun t ht hW => ⟨⟨(r43 * x2_40), ((cl0 h0 w0 w1 cJ σ)), rfl, ⟨hw, rfl⟩, by rw [ht]; exact hP, va_K.moved hW.alike hK, hD⟩, hS.F ht⟩) hS.2.2 dX0_flowOutOf_91
set_option maxHeartbeats 4000000 in
set_option maxRecDepth 100000 in
theorem c_X0_heaviestState (l : Launch) (dC : Nat → ClassId) (dI : Nat → Nat → Nat) (h0 w0 w1 : Nat) (cJ : ClassId) (σ : SC)  (post : Int32 → Prop) (hw : wp_X0_heaviestState  σ post) : KI l yX0_heaviestState wsX0_heaviestState ({ frames := 2, cells := 0, slots := 0, locals := 44 } : Room) (dC, dI) [(cJ, .long)] (cl0 h0 w0 w1 cJ σ) [.ref h0] (fun r u => post r ∧ u = (cl0 h0 w0 w1 cJ σ)) := by
  intro sz
  refine Met.ofW (cc := cX0_heaviestState) (maxL := 3) (ret := (some .int)) (by decide) rfl ?_
  intro p e s m args below meth c s₁ B hml hv
  obtain ⟨rfl, hsz, hP, hK, hD0, hnw⟩ := hv
  have hx := B.exec
  have hb := B.bytes
  have hr := B.returns
  have hts := atoms_spec (ws := wsX0_heaviestState) B.pre
  have hown : s.vm.findClass RX0 = some m.cls := findClass_of_methodNamed B.named
  have hlocks := B.notSynchronized
  subst hsz
  have hD := hD0.self (sz := s.heap.size)
  generalize hAe : va_A (cl0 h0 w0 w1 cJ σ) s.heap.size = A at hD ⊢
  have hA : ∀ q : Nat, s.heap.size ≤ q → A q := fun q h => by rw [← hAe]; exact Or.inr h
  have hS : va_S A s.heap s.heap [] := va_S.rf
  have hP : va_P (dC, dI) vwCl [(h0, .inr (0, [.ref w0, .ref w1, .int σ.1, .int σ.2.1, .int σ.2.2.1])), (w0, .inl (cJ, 512, .inr (.inl (σ.2.2.2.1)))), (w1, .inl (cJ, 9, .inr (.inl (σ.2.2.2.2))))] s.heap := hP
  have hD : va_D A [(h0, .inr (0, [.ref w0, .ref w1, .int σ.1, .int σ.2.1, .int σ.2.2.1])), (w0, .inl (cJ, 512, .inr (.inl (σ.2.2.2.1)))), (w1, .inl (cJ, 9, .inr (.inl (σ.2.2.2.2))))] := hD
  have L4 : ∀   (n : Nat) (x1 : Int32) (x2 : Int32)  (k : Int32 → Int32 → Prop), wl_X0_heaviestState_4  σ n x1 x2 k →
      (∀ (x1 : Int32) (x2 : Int32) , k x1 x2 → ∀ (H : Heap) (locs : List Loc) (ls : Array Slot), va_P (dC, dI) vwCl [(h0, .inr (0, [.ref w0, .ref w1, .int σ.1, .int σ.2.1, .int σ.2.2.1])), (w0, .inl (cJ, 512, .inr (.inl (σ.2.2.2.1)))), (w1, .inl (cJ, 9, .inr (.inl (σ.2.2.2.2))))] H → va_D A [(h0, .inr (0, [.ref w0, .ref w1, .int σ.1, .int σ.2.1, .int σ.2.2.1])), (w0, .inl (cJ, 512, .inr (.inl (σ.2.2.2.1)))), (w1, .inl (cJ, 9, .inr (.inl (σ.2.2.2.2))))] → va_S A s.heap H locs → lv_has ls 3 [(2, .int x2), (1, .int x1), (0, .ref h0)] → W p l e (headSpec wsX0_heaviestState ({ frames := 2, cells := 0, slots := 0, locals := 44 } : Room)).room s m ([.ref h0] : List Value).toArray below meth c H locs 0 0 (MQ below (va_Qi (fun r u => post r ∧ u = (cl0 h0 w0 w1 cJ σ)) (kB (dC, dI) [(cJ, .long)] A) A) ([.ref h0] : List Value).toArray s 0 0 A) (F0 m 34 ls [])) →
      ∀ (H : Heap) (locs : List Loc) (ls : Array Slot), va_P (dC, dI) vwCl [(h0, .inr (0, [.ref w0, .ref w1, .int σ.1, .int σ.2.1, .int σ.2.2.1])), (w0, .inl (cJ, 512, .inr (.inl (σ.2.2.2.1)))), (w1, .inl (cJ, 9, .inr (.inl (σ.2.2.2.2))))] H → va_D A [(h0, .inr (0, [.ref w0, .ref w1, .int σ.1, .int σ.2.1, .int σ.2.2.1])), (w0, .inl (cJ, 512, .inr (.inl (σ.2.2.2.1)))), (w1, .inl (cJ, 9, .inr (.inl (σ.2.2.2.2))))] → va_S A s.heap H locs → lv_has ls 3 [(2, .int x2), (1, .int x1), (0, .ref h0)] → W p l e (headSpec wsX0_heaviestState ({ frames := 2, cells := 0, slots := 0, locals := 44 } : Room)).room s m ([.ref h0] : List Value).toArray below meth c H locs 0 0 (MQ below (va_Qi (fun r u => post r ∧ u = (cl0 h0 w0 w1 cJ σ)) (kB (dC, dI) [(cJ, .long)] A) A) ([.ref h0] : List Value).toArray s 0 0 A) (F0 m 4 ls []) := by
    intro  n
    induction n with
    | zero => intro x1 x2 k hw; exact absurd hw id
    | succ n ih =>
      intro x1 x2 k hw hk H locs ls hP hD hS hl
      unfold wl_X0_heaviestState_4 at hw
      refine lv_iload_n hx hb dX0_heaviestState_4 rfl (lv_at hl 0 rfl) ?_
      refine lv_aload_n hx hb dX0_heaviestState_5 rfl (lv_at hl 2 rfl) ?_
      have hPc := hP
      have hDc := hD
      have hKc := hK
      have hFc := va_free (wc := [(h0, .inr (0, [.ref w0, .ref w1, .int σ.1, .int σ.2.1, .int σ.2.2.1])), (w0, .inl (cJ, 512, .inr (.inl (σ.2.2.2.1)))), (w1, .inl (cJ, 9, .inr (.inl (σ.2.2.2.2))))]) hD hS hA [0, 1, 2] rfl
      refine kc_i (wr := ([] : va_W)) (kr_V (As := []) (rest := [.int x2]) (b := h0) (ws := [(h0, .inr (0, [.ref w0, .ref w1, .int σ.1, .int σ.2.1, .int σ.2.2.1])), (w0, .inl (cJ, 512, .inr (.inl (σ.2.2.2.1)))), (w1, .inl (cJ, 9, .inr (.inl (σ.2.2.2.2))))]) ⟨hx, hb, hml, hown, hts⟩ (c_X0_countStates l dC dI h0 w0 w1 cJ σ  _ hw H.size) (cwV 0 hts gX0_heaviestState_X0_countStates rfl rfl rfl (by decide +kernel) ⟨Nat.le_of_ble_eq_true rfl, Nat.le_of_ble_eq_true rfl⟩) 0 0 hK rfl rfl rfl hKc hnw hP hD hPc hDc rfl hl.1 rfl (Nat.le_of_ble_eq_true rfl) dX0_heaviestState_6 ⟨Nat.zero_le _, Nat.zero_le _⟩) hP hD hS hFc [0, 1, 2] [] rfl rfl (by decide) (by decide) (fun r1 u1 H locs hq hP hD hS => ?_)
      obtain ⟨hw, rfl⟩ := hq
      have hP : va_P (dC, dI) vwCl [(h0, .inr (0, [.ref w0, .ref w1, .int σ.1, .int σ.2.1, .int σ.2.2.1])), (w0, .inl (cJ, 512, .inr (.inl (σ.2.2.2.1)))), (w1, .inl (cJ, 9, .inr (.inl (σ.2.2.2.2))))] H := hP
      have hD : va_D A [(h0, .inr (0, [.ref w0, .ref w1, .int σ.1, .int σ.2.1, .int σ.2.2.1])), (w0, .inl (cJ, 512, .inr (.inl (σ.2.2.2.1)))), (w1, .inl (cJ, 9, .inr (.inl (σ.2.2.2.2))))] := hD
      refine lv_icmp_ge (tgt := 34) hx hb dX0_heaviestState_9 (by decide) (fun c3 => ?_) (fun c3 => ?_)
      · have hw := hw.1 c3
        exact hk x1 x2 hw H locs ls hP hD hS (lv_sub hl [0, 1, 2] rfl)
      · have hw := hw.2 c3
        refine lv_aload_n hx hb dX0_heaviestState_12 rfl (lv_at hl 2 rfl) ?_
        refine lv_iload_n hx hb dX0_heaviestState_13 rfl (lv_at hl 0 rfl) ?_
        have hPc := hP
        have hDc := hD
        have hKc := hK
        have hFc := va_free (wc := [(h0, .inr (0, [.ref w0, .ref w1, .int σ.1, .int σ.2.1, .int σ.2.2.1])), (w0, .inl (cJ, 512, .inr (.inl (σ.2.2.2.1)))), (w1, .inl (cJ, 9, .inr (.inl (σ.2.2.2.2))))]) hD hS hA [0, 1, 2] rfl
        refine kc_l (wr := ([] : va_W)) (kr_V (As := [.int x2]) (rest := []) (b := h0) (ws := [(h0, .inr (0, [.ref w0, .ref w1, .int σ.1, .int σ.2.1, .int σ.2.2.1])), (w0, .inl (cJ, 512, .inr (.inl (σ.2.2.2.1)))), (w1, .inl (cJ, 9, .inr (.inl (σ.2.2.2.2))))]) ⟨hx, hb, hml, hown, hts⟩ (c_X0_weightOf l dC dI h0 w0 w1 cJ σ x2 _ hw H.size) (cwV 1 hts gX0_heaviestState_X0_weightOf rfl rfl rfl (by decide +kernel) ⟨Nat.le_of_ble_eq_true rfl, Nat.le_of_ble_eq_true rfl⟩) 0 0 hK rfl rfl rfl hKc hnw hP hD hPc hDc rfl hl.1 rfl (Nat.le_of_ble_eq_true rfl) dX0_heaviestState_14 ⟨Nat.zero_le _, Nat.zero_le _⟩) hP hD hS hFc [0, 1, 2] [] rfl rfl (by decide) (by decide) (fun r4 u1 H locs hq hP hD hS => ?_)
        obtain ⟨hw, rfl⟩ := hq
        have hP : va_P (dC, dI) vwCl [(h0, .inr (0, [.ref w0, .ref w1, .int σ.1, .int σ.2.1, .int σ.2.2.1])), (w0, .inl (cJ, 512, .inr (.inl (σ.2.2.2.1)))), (w1, .inl (cJ, 9, .inr (.inl (σ.2.2.2.2))))] H := hP
        have hD : va_D A [(h0, .inr (0, [.ref w0, .ref w1, .int σ.1, .int σ.2.1, .int σ.2.2.1])), (w0, .inl (cJ, 512, .inr (.inl (σ.2.2.2.1)))), (w1, .inl (cJ, 9, .inr (.inl (σ.2.2.2.2))))] := hD
        refine lv_aload_n hx hb dX0_heaviestState_17 rfl (lv_at hl 2 rfl) ?_
        refine lv_iload_n hx hb dX0_heaviestState_18 rfl (lv_at hl 1 rfl) ?_
        have hPc := hP
        have hDc := hD
        have hKc := hK
        have hFc := va_free (wc := [(h0, .inr (0, [.ref w0, .ref w1, .int σ.1, .int σ.2.1, .int σ.2.2.1])), (w0, .inl (cJ, 512, .inr (.inl (σ.2.2.2.1)))), (w1, .inl (cJ, 9, .inr (.inl (σ.2.2.2.2))))]) hD hS hA [0, 1, 2] rfl
        refine kc_l (wr := ([] : va_W)) (kr_V (As := [.int x1]) (rest := [.long r4]) (b := h0) (ws := [(h0, .inr (0, [.ref w0, .ref w1, .int σ.1, .int σ.2.1, .int σ.2.2.1])), (w0, .inl (cJ, 512, .inr (.inl (σ.2.2.2.1)))), (w1, .inl (cJ, 9, .inr (.inl (σ.2.2.2.2))))]) ⟨hx, hb, hml, hown, hts⟩ (c_X0_weightOf l dC dI h0 w0 w1 cJ σ x1 _ hw H.size) (cwV 1 hts gX0_heaviestState_X0_weightOf rfl rfl rfl (by decide +kernel) ⟨Nat.le_of_ble_eq_true rfl, Nat.le_of_ble_eq_true rfl⟩) 0 0 hK rfl rfl rfl hKc hnw hP hD hPc hDc rfl hl.1 rfl (Nat.le_of_ble_eq_true rfl) dX0_heaviestState_19 ⟨Nat.zero_le _, Nat.zero_le _⟩) hP hD hS hFc [0, 1, 2] [] rfl rfl (by decide) (by decide) (fun r6 u1 H locs hq hP hD hS => ?_)
        obtain ⟨hw, rfl⟩ := hq
        have hP : va_P (dC, dI) vwCl [(h0, .inr (0, [.ref w0, .ref w1, .int σ.1, .int σ.2.1, .int σ.2.2.1])), (w0, .inl (cJ, 512, .inr (.inl (σ.2.2.2.1)))), (w1, .inl (cJ, 9, .inr (.inl (σ.2.2.2.2))))] H := hP
        have hD : va_D A [(h0, .inr (0, [.ref w0, .ref w1, .int σ.1, .int σ.2.1, .int σ.2.2.1])), (w0, .inl (cJ, 512, .inr (.inl (σ.2.2.2.1)))), (w1, .inl (cJ, 9, .inr (.inl (σ.2.2.2.2))))] := hD
        refine W.lcmp hx hb dX0_heaviestState_22 ?_
        refine lv_if_le (tgt := 28) hx hb dX0_heaviestState_23 (by decide) (fun c8 => ?_) (fun c8 => ?_)
        · have hw := hw.1 (lgc_le.mp c8)
          refine lv_iinc (v := (x2 + (1 : Int32))) (lv' := [(2, .int (x2 + (1 : Int32))), (1, .int x1), (0, .ref h0)]) hx hb dX0_heaviestState_28 hl (k := 0) rfl rfl (by decide) rfl (fun ls hl => ?_)
          refine lv_goto (tgt := 4) hx hb dX0_heaviestState_31 (by decide) ?_
          exact ih x1 (x2 + (1 : Int32)) _ hw hk H locs ls hP hD hS (lv_sub hl [0, 1, 2] rfl)
        · have hw := hw.2 ((not_congr lgc_le).mp c8)
          refine lv_iload_n hx hb dX0_heaviestState_26 rfl (lv_at hl 0 rfl) ?_
          refine lv_istore_n (lv' := [(1, .int x2), (2, .int x2), (0, .ref h0)]) hx hb dX0_heaviestState_27 rfl hl (by decide) rfl (fun ls hl => ?_)
          refine lv_iinc (v := (x2 + (1 : Int32))) (lv' := [(2, .int (x2 + (1 : Int32))), (1, .int x2), (0, .ref h0)]) hx hb dX0_heaviestState_28 hl (k := 1) rfl rfl (by decide) rfl (fun ls hl => ?_)
          refine lv_goto (tgt := 4) hx hb dX0_heaviestState_31 (by decide) ?_
          exact ih x2 (x2 + (1 : Int32)) _ hw hk H locs ls hP hD hS (lv_sub hl [0, 1, 2] rfl)
  have hl := lv_entry ([.ref h0]) (n := 3) (Nat.le_of_ble_eq_true rfl)
  rw [lg_entry_eq]
  generalize (lg_sl ([.ref h0]) ++ List.replicate (3 - (lg_sl ([.ref h0])).length) Slot.unset).toArray = ls at hl ⊢
  have hl : lv_has ls 3 [(0, .ref h0)] := hl
  unfold wp_X0_heaviestState at hw
  skip
  obtain ⟨H, hH⟩ : ∃ H, H = s.heap := ⟨_, rfl⟩
  obtain ⟨locs, hlo⟩ : ∃ q : List Loc, q = [] := ⟨_, rfl⟩
  rw [← hH] at hP
  have hS : va_S A s.heap H locs := by rw [hH, hlo]; exact hS
  suffices hgo : W p l e (headSpec wsX0_heaviestState ({ frames := 2, cells := 0, slots := 0, locals := 44 } : Room)).room s m _ below meth c H locs 0 0 _ (F0 m 0 ls []) by rw [hH, hlo] at hgo; exact hgo
  refine lv_iconst (v := (0 : Int32)) hx hb dX0_heaviestState_0 (by decide) ?_
  refine lv_istore_n (lv' := [(1, .int (0 : Int32)), (0, .ref h0)]) hx hb dX0_heaviestState_1 rfl hl (by decide) rfl (fun ls hl => ?_)
  refine lv_iconst (v := (1 : Int32)) hx hb dX0_heaviestState_2 (by decide) ?_
  refine lv_istore_n (lv' := [(2, .int (1 : Int32)), (1, .int (0 : Int32)), (0, .ref h0)]) hx hb dX0_heaviestState_3 rfl hl (by decide) rfl (fun ls hl => ?_)
  refine L4  (20000) (0 : Int32) (1 : Int32) _ hw (fun x1_9 x2_10 hw H locs ls hP hD hS hl => ?_) H locs ls hP hD hS (lv_sub hl [0, 1, 2] rfl)
  refine lv_iload_n hx hb dX0_heaviestState_34 rfl (lv_at hl 1 rfl) ?_
  exact W.iret (v := x1_9) hx hb hr (fun t ht hW => ⟨⟨x1_9, ((cl0 h0 w0 w1 cJ σ)), rfl, ⟨hw, rfl⟩, by rw [ht]; exact hP, va_K.moved hW.alike hK, hD⟩, hS.F ht⟩) hS.2.2 dX0_heaviestState_35
set_option maxHeartbeats 4000000 in
set_option maxRecDepth 100000 in
theorem c_X0_lightestState (l : Launch) (dC : Nat → ClassId) (dI : Nat → Nat → Nat) (h0 w0 w1 : Nat) (cJ : ClassId) (σ : SC)  (post : Int32 → Prop) (hw : wp_X0_lightestState  σ post) : KI l yX0_lightestState wsX0_lightestState ({ frames := 2, cells := 0, slots := 0, locals := 44 } : Room) (dC, dI) [(cJ, .long)] (cl0 h0 w0 w1 cJ σ) [.ref h0] (fun r u => post r ∧ u = (cl0 h0 w0 w1 cJ σ)) := by
  intro sz
  refine Met.ofW (cc := cX0_lightestState) (maxL := 3) (ret := (some .int)) (by decide) rfl ?_
  intro p e s m args below meth c s₁ B hml hv
  obtain ⟨rfl, hsz, hP, hK, hD0, hnw⟩ := hv
  have hx := B.exec
  have hb := B.bytes
  have hr := B.returns
  have hts := atoms_spec (ws := wsX0_lightestState) B.pre
  have hown : s.vm.findClass RX0 = some m.cls := findClass_of_methodNamed B.named
  have hlocks := B.notSynchronized
  subst hsz
  have hD := hD0.self (sz := s.heap.size)
  generalize hAe : va_A (cl0 h0 w0 w1 cJ σ) s.heap.size = A at hD ⊢
  have hA : ∀ q : Nat, s.heap.size ≤ q → A q := fun q h => by rw [← hAe]; exact Or.inr h
  have hS : va_S A s.heap s.heap [] := va_S.rf
  have hP : va_P (dC, dI) vwCl [(h0, .inr (0, [.ref w0, .ref w1, .int σ.1, .int σ.2.1, .int σ.2.2.1])), (w0, .inl (cJ, 512, .inr (.inl (σ.2.2.2.1)))), (w1, .inl (cJ, 9, .inr (.inl (σ.2.2.2.2))))] s.heap := hP
  have hD : va_D A [(h0, .inr (0, [.ref w0, .ref w1, .int σ.1, .int σ.2.1, .int σ.2.2.1])), (w0, .inl (cJ, 512, .inr (.inl (σ.2.2.2.1)))), (w1, .inl (cJ, 9, .inr (.inl (σ.2.2.2.2))))] := hD
  have L4 : ∀   (n : Nat) (x1 : Int32) (x2 : Int32)  (k : Int32 → Int32 → Prop), wl_X0_lightestState_4  σ n x1 x2 k →
      (∀ (x1 : Int32) (x2 : Int32) , k x1 x2 → ∀ (H : Heap) (locs : List Loc) (ls : Array Slot), va_P (dC, dI) vwCl [(h0, .inr (0, [.ref w0, .ref w1, .int σ.1, .int σ.2.1, .int σ.2.2.1])), (w0, .inl (cJ, 512, .inr (.inl (σ.2.2.2.1)))), (w1, .inl (cJ, 9, .inr (.inl (σ.2.2.2.2))))] H → va_D A [(h0, .inr (0, [.ref w0, .ref w1, .int σ.1, .int σ.2.1, .int σ.2.2.1])), (w0, .inl (cJ, 512, .inr (.inl (σ.2.2.2.1)))), (w1, .inl (cJ, 9, .inr (.inl (σ.2.2.2.2))))] → va_S A s.heap H locs → lv_has ls 3 [(2, .int x2), (1, .int x1), (0, .ref h0)] → W p l e (headSpec wsX0_lightestState ({ frames := 2, cells := 0, slots := 0, locals := 44 } : Room)).room s m ([.ref h0] : List Value).toArray below meth c H locs 0 0 (MQ below (va_Qi (fun r u => post r ∧ u = (cl0 h0 w0 w1 cJ σ)) (kB (dC, dI) [(cJ, .long)] A) A) ([.ref h0] : List Value).toArray s 0 0 A) (F0 m 34 ls [])) →
      ∀ (H : Heap) (locs : List Loc) (ls : Array Slot), va_P (dC, dI) vwCl [(h0, .inr (0, [.ref w0, .ref w1, .int σ.1, .int σ.2.1, .int σ.2.2.1])), (w0, .inl (cJ, 512, .inr (.inl (σ.2.2.2.1)))), (w1, .inl (cJ, 9, .inr (.inl (σ.2.2.2.2))))] H → va_D A [(h0, .inr (0, [.ref w0, .ref w1, .int σ.1, .int σ.2.1, .int σ.2.2.1])), (w0, .inl (cJ, 512, .inr (.inl (σ.2.2.2.1)))), (w1, .inl (cJ, 9, .inr (.inl (σ.2.2.2.2))))] → va_S A s.heap H locs → lv_has ls 3 [(2, .int x2), (1, .int x1), (0, .ref h0)] → W p l e (headSpec wsX0_lightestState ({ frames := 2, cells := 0, slots := 0, locals := 44 } : Room)).room s m ([.ref h0] : List Value).toArray below meth c H locs 0 0 (MQ below (va_Qi (fun r u => post r ∧ u = (cl0 h0 w0 w1 cJ σ)) (kB (dC, dI) [(cJ, .long)] A) A) ([.ref h0] : List Value).toArray s 0 0 A) (F0 m 4 ls []) := by
    intro  n
    induction n with
    | zero => intro x1 x2 k hw; exact absurd hw id
    | succ n ih =>
      intro x1 x2 k hw hk H locs ls hP hD hS hl
      unfold wl_X0_lightestState_4 at hw
      refine lv_iload_n hx hb dX0_lightestState_4 rfl (lv_at hl 0 rfl) ?_
      refine lv_aload_n hx hb dX0_lightestState_5 rfl (lv_at hl 2 rfl) ?_
      have hPc := hP
      have hDc := hD
      have hKc := hK
      have hFc := va_free (wc := [(h0, .inr (0, [.ref w0, .ref w1, .int σ.1, .int σ.2.1, .int σ.2.2.1])), (w0, .inl (cJ, 512, .inr (.inl (σ.2.2.2.1)))), (w1, .inl (cJ, 9, .inr (.inl (σ.2.2.2.2))))]) hD hS hA [0, 1, 2] rfl
      refine kc_i (wr := ([] : va_W)) (kr_V (As := []) (rest := [.int x2]) (b := h0) (ws := [(h0, .inr (0, [.ref w0, .ref w1, .int σ.1, .int σ.2.1, .int σ.2.2.1])), (w0, .inl (cJ, 512, .inr (.inl (σ.2.2.2.1)))), (w1, .inl (cJ, 9, .inr (.inl (σ.2.2.2.2))))]) ⟨hx, hb, hml, hown, hts⟩ (c_X0_countStates l dC dI h0 w0 w1 cJ σ  _ hw H.size) (cwV 0 hts gX0_lightestState_X0_countStates rfl rfl rfl (by decide +kernel) ⟨Nat.le_of_ble_eq_true rfl, Nat.le_of_ble_eq_true rfl⟩) 0 0 hK rfl rfl rfl hKc hnw hP hD hPc hDc rfl hl.1 rfl (Nat.le_of_ble_eq_true rfl) dX0_lightestState_6 ⟨Nat.zero_le _, Nat.zero_le _⟩) hP hD hS hFc [0, 1, 2] [] rfl rfl (by decide) (by decide) (fun r1 u1 H locs hq hP hD hS => ?_)
      obtain ⟨hw, rfl⟩ := hq
      have hP : va_P (dC, dI) vwCl [(h0, .inr (0, [.ref w0, .ref w1, .int σ.1, .int σ.2.1, .int σ.2.2.1])), (w0, .inl (cJ, 512, .inr (.inl (σ.2.2.2.1)))), (w1, .inl (cJ, 9, .inr (.inl (σ.2.2.2.2))))] H := hP
      have hD : va_D A [(h0, .inr (0, [.ref w0, .ref w1, .int σ.1, .int σ.2.1, .int σ.2.2.1])), (w0, .inl (cJ, 512, .inr (.inl (σ.2.2.2.1)))), (w1, .inl (cJ, 9, .inr (.inl (σ.2.2.2.2))))] := hD
      refine lv_icmp_ge (tgt := 34) hx hb dX0_lightestState_9 (by decide) (fun c3 => ?_) (fun c3 => ?_)
      · have hw := hw.1 c3
        exact hk x1 x2 hw H locs ls hP hD hS (lv_sub hl [0, 1, 2] rfl)
      · have hw := hw.2 c3
        refine lv_aload_n hx hb dX0_lightestState_12 rfl (lv_at hl 2 rfl) ?_
        refine lv_iload_n hx hb dX0_lightestState_13 rfl (lv_at hl 0 rfl) ?_
        have hPc := hP
        have hDc := hD
        have hKc := hK
        have hFc := va_free (wc := [(h0, .inr (0, [.ref w0, .ref w1, .int σ.1, .int σ.2.1, .int σ.2.2.1])), (w0, .inl (cJ, 512, .inr (.inl (σ.2.2.2.1)))), (w1, .inl (cJ, 9, .inr (.inl (σ.2.2.2.2))))]) hD hS hA [0, 1, 2] rfl
        refine kc_l (wr := ([] : va_W)) (kr_V (As := [.int x2]) (rest := []) (b := h0) (ws := [(h0, .inr (0, [.ref w0, .ref w1, .int σ.1, .int σ.2.1, .int σ.2.2.1])), (w0, .inl (cJ, 512, .inr (.inl (σ.2.2.2.1)))), (w1, .inl (cJ, 9, .inr (.inl (σ.2.2.2.2))))]) ⟨hx, hb, hml, hown, hts⟩ (c_X0_weightOf l dC dI h0 w0 w1 cJ σ x2 _ hw H.size) (cwV 1 hts gX0_lightestState_X0_weightOf rfl rfl rfl (by decide +kernel) ⟨Nat.le_of_ble_eq_true rfl, Nat.le_of_ble_eq_true rfl⟩) 0 0 hK rfl rfl rfl hKc hnw hP hD hPc hDc rfl hl.1 rfl (Nat.le_of_ble_eq_true rfl) dX0_lightestState_14 ⟨Nat.zero_le _, Nat.zero_le _⟩) hP hD hS hFc [0, 1, 2] [] rfl rfl (by decide) (by decide) (fun r4 u1 H locs hq hP hD hS => ?_)
        obtain ⟨hw, rfl⟩ := hq
        have hP : va_P (dC, dI) vwCl [(h0, .inr (0, [.ref w0, .ref w1, .int σ.1, .int σ.2.1, .int σ.2.2.1])), (w0, .inl (cJ, 512, .inr (.inl (σ.2.2.2.1)))), (w1, .inl (cJ, 9, .inr (.inl (σ.2.2.2.2))))] H := hP
        have hD : va_D A [(h0, .inr (0, [.ref w0, .ref w1, .int σ.1, .int σ.2.1, .int σ.2.2.1])), (w0, .inl (cJ, 512, .inr (.inl (σ.2.2.2.1)))), (w1, .inl (cJ, 9, .inr (.inl (σ.2.2.2.2))))] := hD
        refine lv_aload_n hx hb dX0_lightestState_17 rfl (lv_at hl 2 rfl) ?_
        refine lv_iload_n hx hb dX0_lightestState_18 rfl (lv_at hl 1 rfl) ?_
        have hPc := hP
        have hDc := hD
        have hKc := hK
        have hFc := va_free (wc := [(h0, .inr (0, [.ref w0, .ref w1, .int σ.1, .int σ.2.1, .int σ.2.2.1])), (w0, .inl (cJ, 512, .inr (.inl (σ.2.2.2.1)))), (w1, .inl (cJ, 9, .inr (.inl (σ.2.2.2.2))))]) hD hS hA [0, 1, 2] rfl
        refine kc_l (wr := ([] : va_W)) (kr_V (As := [.int x1]) (rest := [.long r4]) (b := h0) (ws := [(h0, .inr (0, [.ref w0, .ref w1, .int σ.1, .int σ.2.1, .int σ.2.2.1])), (w0, .inl (cJ, 512, .inr (.inl (σ.2.2.2.1)))), (w1, .inl (cJ, 9, .inr (.inl (σ.2.2.2.2))))]) ⟨hx, hb, hml, hown, hts⟩ (c_X0_weightOf l dC dI h0 w0 w1 cJ σ x1 _ hw H.size) (cwV 1 hts gX0_lightestState_X0_weightOf rfl rfl rfl (by decide +kernel) ⟨Nat.le_of_ble_eq_true rfl, Nat.le_of_ble_eq_true rfl⟩) 0 0 hK rfl rfl rfl hKc hnw hP hD hPc hDc rfl hl.1 rfl (Nat.le_of_ble_eq_true rfl) dX0_lightestState_19 ⟨Nat.zero_le _, Nat.zero_le _⟩) hP hD hS hFc [0, 1, 2] [] rfl rfl (by decide) (by decide) (fun r6 u1 H locs hq hP hD hS => ?_)
        obtain ⟨hw, rfl⟩ := hq
        have hP : va_P (dC, dI) vwCl [(h0, .inr (0, [.ref w0, .ref w1, .int σ.1, .int σ.2.1, .int σ.2.2.1])), (w0, .inl (cJ, 512, .inr (.inl (σ.2.2.2.1)))), (w1, .inl (cJ, 9, .inr (.inl (σ.2.2.2.2))))] H := hP
        have hD : va_D A [(h0, .inr (0, [.ref w0, .ref w1, .int σ.1, .int σ.2.1, .int σ.2.2.1])), (w0, .inl (cJ, 512, .inr (.inl (σ.2.2.2.1)))), (w1, .inl (cJ, 9, .inr (.inl (σ.2.2.2.2))))] := hD
        refine W.lcmp hx hb dX0_lightestState_22 ?_
        refine lv_if_ge (tgt := 28) hx hb dX0_lightestState_23 (by decide) (fun c8 => ?_) (fun c8 => ?_)
        · have hw := hw.1 (lgc_ge.mp c8)
          refine lv_iinc (v := (x2 + (1 : Int32))) (lv' := [(2, .int (x2 + (1 : Int32))), (1, .int x1), (0, .ref h0)]) hx hb dX0_lightestState_28 hl (k := 0) rfl rfl (by decide) rfl (fun ls hl => ?_)
          refine lv_goto (tgt := 4) hx hb dX0_lightestState_31 (by decide) ?_
          exact ih x1 (x2 + (1 : Int32)) _ hw hk H locs ls hP hD hS (lv_sub hl [0, 1, 2] rfl)
        · have hw := hw.2 ((not_congr lgc_ge).mp c8)
          refine lv_iload_n hx hb dX0_lightestState_26 rfl (lv_at hl 0 rfl) ?_
          refine lv_istore_n (lv' := [(1, .int x2), (2, .int x2), (0, .ref h0)]) hx hb dX0_lightestState_27 rfl hl (by decide) rfl (fun ls hl => ?_)
          refine lv_iinc (v := (x2 + (1 : Int32))) (lv' := [(2, .int (x2 + (1 : Int32))), (1, .int x2), (0, .ref h0)]) hx hb dX0_lightestState_28 hl (k := 1) rfl rfl (by decide) rfl (fun ls hl => ?_)
          refine lv_goto (tgt := 4) hx hb dX0_lightestState_31 (by decide) ?_
          exact ih x2 (x2 + (1 : Int32)) _ hw hk H locs ls hP hD hS (lv_sub hl [0, 1, 2] rfl)
  have hl := lv_entry ([.ref h0]) (n := 3) (Nat.le_of_ble_eq_true rfl)
  rw [lg_entry_eq]
  generalize (lg_sl ([.ref h0]) ++ List.replicate (3 - (lg_sl ([.ref h0])).length) Slot.unset).toArray = ls at hl ⊢
  have hl : lv_has ls 3 [(0, .ref h0)] := hl
  unfold wp_X0_lightestState at hw
  skip
  obtain ⟨H, hH⟩ : ∃ H, H = s.heap := ⟨_, rfl⟩
  obtain ⟨locs, hlo⟩ : ∃ q : List Loc, q = [] := ⟨_, rfl⟩
  rw [← hH] at hP
  have hS : va_S A s.heap H locs := by rw [hH, hlo]; exact hS
  suffices hgo : W p l e (headSpec wsX0_lightestState ({ frames := 2, cells := 0, slots := 0, locals := 44 } : Room)).room s m _ below meth c H locs 0 0 _ (F0 m 0 ls []) by rw [hH, hlo] at hgo; exact hgo
  refine lv_iconst (v := (0 : Int32)) hx hb dX0_lightestState_0 (by decide) ?_
  refine lv_istore_n (lv' := [(1, .int (0 : Int32)), (0, .ref h0)]) hx hb dX0_lightestState_1 rfl hl (by decide) rfl (fun ls hl => ?_)
  refine lv_iconst (v := (1 : Int32)) hx hb dX0_lightestState_2 (by decide) ?_
  refine lv_istore_n (lv' := [(2, .int (1 : Int32)), (1, .int (0 : Int32)), (0, .ref h0)]) hx hb dX0_lightestState_3 rfl hl (by decide) rfl (fun ls hl => ?_)
  refine L4  (20000) (0 : Int32) (1 : Int32) _ hw (fun x1_9 x2_10 hw H locs ls hP hD hS hl => ?_) H locs ls hP hD hS (lv_sub hl [0, 1, 2] rfl)
  refine lv_iload_n hx hb dX0_lightestState_34 rfl (lv_at hl 1 rfl) ?_
  exact W.iret (v := x1_9) hx hb hr (fun t ht hW => ⟨⟨x1_9, ((cl0 h0 w0 w1 cJ σ)), rfl, ⟨hw, rfl⟩, by rw [ht]; exact hP, va_K.moved hW.alike hK, hD⟩, hS.F ht⟩) hS.2.2 dX0_lightestState_35
set_option maxHeartbeats 4000000 in
set_option maxRecDepth 100000 in
theorem c_X3_isWithin (l : Launch) (dC : Nat → ClassId) (dI : Nat → Nat → Nat)   (p0 : Int32) (p1 : Int32) (p2 : Int32) (post : Int32 → Prop) (hw : wp_X3_isWithin p0 p1 p2  post) : KI l yX3_isWithin wsX3_isWithin ({ frames := 0, cells := 0, slots := 0, locals := 0 } : Room) (dC, dI) [] [] [.int p0, .int p1, .int p2] (fun r u => post r ∧ u = []) := by
  intro sz
  refine Met.ofW (cc := cX3_isWithin) (maxL := 3) (ret := (some .boolean)) (by decide) rfl ?_
  intro p e s m args below meth c s₁ B hml hv
  obtain ⟨rfl, hsz, hP, hK, hD0, hnw⟩ := hv
  have hx := B.exec
  have hb := B.bytes
  have hr := B.returns
  have hts := atoms_spec (ws := wsX3_isWithin) B.pre
  have hown : s.vm.findClass RX3 = some m.cls := findClass_of_methodNamed B.named
  have hlocks := B.notSynchronized
  subst hsz
  have hD := hD0.self (sz := s.heap.size)
  generalize hAe : va_A [] s.heap.size = A at hD ⊢
  have hA : ∀ q : Nat, s.heap.size ≤ q → A q := fun q h => by rw [← hAe]; exact Or.inr h
  have hS : va_S A s.heap s.heap [] := va_S.rf
  have hP : va_P (dC, dI) vwCl [] s.heap := hP
  have hD : va_D A [] := hD
  have hl := lv_entry ([.int p0, .int p1, .int p2]) (n := 3) (Nat.le_of_ble_eq_true rfl)
  rw [lg_entry_eq]
  generalize (lg_sl ([.int p0, .int p1, .int p2]) ++ List.replicate (3 - (lg_sl ([.int p0, .int p1, .int p2])).length) Slot.unset).toArray = ls at hl ⊢
  have hl : lv_has ls 3 [(0, .int p0), (1, .int p1), (2, .int p2)] := hl
  unfold wp_X3_isWithin at hw
  skip
  obtain ⟨H, hH⟩ : ∃ H, H = s.heap := ⟨_, rfl⟩
  obtain ⟨locs, hlo⟩ : ∃ q : List Loc, q = [] := ⟨_, rfl⟩
  rw [← hH] at hP
  have hS : va_S A s.heap H locs := by rw [hH, hlo]; exact hS
  suffices hgo : W p l e (headSpec wsX3_isWithin ({ frames := 0, cells := 0, slots := 0, locals := 0 } : Room)).room s m _ below meth c H locs 0 0 _ (F0 m 0 ls []) by rw [hH, hlo] at hgo; exact hgo
  refine lv_iload_n hx hb dX3_isWithin_0 rfl (lv_at hl 0 rfl) ?_
  refine lv_iload_n hx hb dX3_isWithin_1 rfl (lv_at hl 1 rfl) ?_
  refine lv_icmp_lt (tgt := 14) hx hb dX3_isWithin_2 (by decide) (fun c1 => ?_) (fun c1 => ?_)
  · have hw := hw.1 c1
    refine lv_iconst (v := (0 : Int32)) hx hb dX3_isWithin_14 (by decide) ?_
    exact W.zret (v := (0 : Int32)) hx hb hr (nb_nar nb_0) (fun t ht hW => ⟨⟨(0 : Int32), ([] : va_W), rfl, ⟨hw, rfl⟩, by rw [ht]; exact hP, va_K.moved hW.alike hK, hD⟩, hS.F ht⟩) hS.2.2 dX3_isWithin_15
  · have hw := hw.2 c1
    refine lv_iload_n hx hb dX3_isWithin_5 rfl (lv_at hl 0 rfl) ?_
    refine lv_iload_n hx hb dX3_isWithin_6 rfl (lv_at hl 2 rfl) ?_
    refine lv_icmp_gt (tgt := 14) hx hb dX3_isWithin_7 (by decide) (fun c2 => ?_) (fun c2 => ?_)
    · have hw := hw.1 c2
      refine lv_iconst (v := (0 : Int32)) hx hb dX3_isWithin_14 (by decide) ?_
      exact W.zret (v := (0 : Int32)) hx hb hr (nb_nar nb_0) (fun t ht hW => ⟨⟨(0 : Int32), ([] : va_W), rfl, ⟨hw, rfl⟩, by rw [ht]; exact hP, va_K.moved hW.alike hK, hD⟩, hS.F ht⟩) hS.2.2 dX3_isWithin_15
    · have hw := hw.2 c2
      refine lv_iconst (v := (1 : Int32)) hx hb dX3_isWithin_10 (by decide) ?_
      refine lv_goto (tgt := 15) hx hb dX3_isWithin_11 (by decide) ?_
      exact W.zret (v := (1 : Int32)) hx hb hr (nb_nar nb_1) (fun t ht hW => ⟨⟨(1 : Int32), ([] : va_W), rfl, ⟨hw, rfl⟩, by rw [ht]; exact hP, va_K.moved hW.alike hK, hD⟩, hS.F ht⟩) hS.2.2 dX3_isWithin_15
set_option maxHeartbeats 4000000 in
set_option maxRecDepth 100000 in
theorem c_J6_bitCount_0f7a4 (l : Launch) (dC : Nat → ClassId) (dI : Nat → Nat → Nat)   (p0 : Int32) (post : Int32 → Prop) (hw : wp_J6_bitCount_0f7a4 p0  post) : KI l yJ6_bitCount_0f7a4 wsJ6_bitCount_0f7a4 ({ frames := 0, cells := 0, slots := 0, locals := 0 } : Room) (dC, dI) [] [] [.int p0] (fun r u => post r ∧ u = []) := by
  intro sz
  refine Met.ofW (cc := cJ6_bitCount_0f7a4) (maxL := 1) (ret := (some .int)) (by decide) rfl ?_
  intro p e s m args below meth c s₁ B hml hv
  obtain ⟨rfl, hsz, hP, hK, hD0, hnw⟩ := hv
  have hx := B.exec
  have hb := B.bytes
  have hr := B.returns
  have hts := atoms_spec (ws := wsJ6_bitCount_0f7a4) B.pre
  have hown : s.vm.findClass RJ6 = some m.cls := findClass_of_methodNamed B.named
  have hlocks := B.notSynchronized
  subst hsz
  have hD := hD0.self (sz := s.heap.size)
  generalize hAe : va_A [] s.heap.size = A at hD ⊢
  have hA : ∀ q : Nat, s.heap.size ≤ q → A q := fun q h => by rw [← hAe]; exact Or.inr h
  have hS : va_S A s.heap s.heap [] := va_S.rf
  have hP : va_P (dC, dI) vwCl [] s.heap := hP
  have hD : va_D A [] := hD
  have hl := lv_entry ([.int p0]) (n := 1) (Nat.le_of_ble_eq_true rfl)
  rw [lg_entry_eq]
  generalize (lg_sl ([.int p0]) ++ List.replicate (1 - (lg_sl ([.int p0])).length) Slot.unset).toArray = ls at hl ⊢
  have hl : lv_has ls 1 [(0, .int p0)] := hl
  unfold wp_J6_bitCount_0f7a4 at hw
  skip
  obtain ⟨H, hH⟩ : ∃ H, H = s.heap := ⟨_, rfl⟩
  obtain ⟨locs, hlo⟩ : ∃ q : List Loc, q = [] := ⟨_, rfl⟩
  rw [← hH] at hP
  have hS : va_S A s.heap H locs := by rw [hH, hlo]; exact hS
  suffices hgo : W p l e (headSpec wsJ6_bitCount_0f7a4 ({ frames := 0, cells := 0, slots := 0, locals := 0 } : Room)).room s m _ below meth c H locs 0 0 _ (F0 m 0 ls []) by rw [hH, hlo] at hgo; exact hgo
  refine lv_iload_n hx hb dJ6_bitCount_0f7a4_0 rfl (lv_at hl 0 rfl) ?_
  refine lv_iload_n hx hb dJ6_bitCount_0f7a4_1 rfl (lv_at hl 0 rfl) ?_
  refine lv_iconst (v := (1 : Int32)) hx hb dJ6_bitCount_0f7a4_2 (by decide) ?_
  refine lv_iushr hx hb dJ6_bitCount_0f7a4_3 rfl ?_
  refine lv_ldcw (v := (1431655765 : Int32)) hx hb hown (hts (.constant RJ6 265 (1431655765 : Int32)) (by decide +kernel)) dJ6_bitCount_0f7a4_4 ?_
  refine lv_iand hx hb dJ6_bitCount_0f7a4_7 ?_
  refine lv_isub hx hb dJ6_bitCount_0f7a4_8 ?_
  refine lv_topi (fun v1 e2 => ?_)
  have hw := hw v1 e2
  refine lv_istore_n (lv' := [(0, .int v1)]) hx hb dJ6_bitCount_0f7a4_9 rfl hl (by decide) rfl (fun ls hl => ?_)
  refine lv_iload_n hx hb dJ6_bitCount_0f7a4_10 rfl (lv_at hl 0 rfl) ?_
  refine lv_ldcw (v := (858993459 : Int32)) hx hb hown (hts (.constant RJ6 266 (858993459 : Int32)) (by decide +kernel)) dJ6_bitCount_0f7a4_11 ?_
  refine lv_iand hx hb dJ6_bitCount_0f7a4_14 ?_
  refine lv_iload_n hx hb dJ6_bitCount_0f7a4_15 rfl (lv_at hl 0 rfl) ?_
  refine lv_iconst (v := (2 : Int32)) hx hb dJ6_bitCount_0f7a4_16 (by decide) ?_
  refine lv_iushr hx hb dJ6_bitCount_0f7a4_17 rfl ?_
  refine lv_ldcw (v := (858993459 : Int32)) hx hb hown (hts (.constant RJ6 266 (858993459 : Int32)) (by decide +kernel)) dJ6_bitCount_0f7a4_18 ?_
  refine lv_iand hx hb dJ6_bitCount_0f7a4_21 ?_
  refine lv_iadd hx hb dJ6_bitCount_0f7a4_22 ?_
  refine lv_topi (fun v3 e4 => ?_)
  have hw := hw v3 e4
  refine lv_istore_n (lv' := [(0, .int v3)]) hx hb dJ6_bitCount_0f7a4_23 rfl hl (by decide) rfl (fun ls hl => ?_)
  refine lv_iload_n hx hb dJ6_bitCount_0f7a4_24 rfl (lv_at hl 0 rfl) ?_
  refine lv_iload_n hx hb dJ6_bitCount_0f7a4_25 rfl (lv_at hl 0 rfl) ?_
  refine lv_iconst (v := (4 : Int32)) hx hb dJ6_bitCount_0f7a4_26 (by decide) ?_
  refine lv_iushr hx hb dJ6_bitCount_0f7a4_27 rfl ?_
  refine lv_iadd hx hb dJ6_bitCount_0f7a4_28 ?_
  refine lv_ldcw (v := (252645135 : Int32)) hx hb hown (hts (.constant RJ6 267 (252645135 : Int32)) (by decide +kernel)) dJ6_bitCount_0f7a4_29 ?_
  refine lv_iand hx hb dJ6_bitCount_0f7a4_32 ?_
  refine lv_topi (fun v5 e6 => ?_)
  have hw := hw v5 e6
  refine lv_istore_n (lv' := [(0, .int v5)]) hx hb dJ6_bitCount_0f7a4_33 rfl hl (by decide) rfl (fun ls hl => ?_)
  refine lv_iload_n hx hb dJ6_bitCount_0f7a4_34 rfl (lv_at hl 0 rfl) ?_
  refine lv_iload_n hx hb dJ6_bitCount_0f7a4_35 rfl (lv_at hl 0 rfl) ?_
  refine lv_bipush (v := (8 : Int32)) hx hb dJ6_bitCount_0f7a4_36 (by decide) ?_
  refine lv_iushr hx hb dJ6_bitCount_0f7a4_38 rfl ?_
  refine lv_iadd hx hb dJ6_bitCount_0f7a4_39 ?_
  refine lv_topi (fun v7 e8 => ?_)
  have hw := hw v7 e8
  refine lv_istore_n (lv' := [(0, .int v7)]) hx hb dJ6_bitCount_0f7a4_40 rfl hl (by decide) rfl (fun ls hl => ?_)
  refine lv_iload_n hx hb dJ6_bitCount_0f7a4_41 rfl (lv_at hl 0 rfl) ?_
  refine lv_iload_n hx hb dJ6_bitCount_0f7a4_42 rfl (lv_at hl 0 rfl) ?_
  refine lv_bipush (v := (16 : Int32)) hx hb dJ6_bitCount_0f7a4_43 (by decide) ?_
  refine lv_iushr hx hb dJ6_bitCount_0f7a4_45 rfl ?_
  refine lv_iadd hx hb dJ6_bitCount_0f7a4_46 ?_
  refine lv_topi (fun v9 e10 => ?_)
  have hw := hw v9 e10
  refine lv_istore_n (lv' := [(0, .int v9)]) hx hb dJ6_bitCount_0f7a4_47 rfl hl (by decide) rfl (fun ls hl => ?_)
  refine lv_iload_n hx hb dJ6_bitCount_0f7a4_48 rfl (lv_at hl 0 rfl) ?_
  refine lv_bipush (v := (63 : Int32)) hx hb dJ6_bitCount_0f7a4_49 (by decide) ?_
  refine lv_iand hx hb dJ6_bitCount_0f7a4_51 ?_
  exact W.iret (v := (v9 &&& (63 : Int32))) hx hb hr (fun t ht hW => ⟨⟨(v9 &&& (63 : Int32)), ([] : va_W), rfl, ⟨hw, rfl⟩, by rw [ht]; exact hP, va_K.moved hW.alike hK, hD⟩, hS.F ht⟩) hS.2.2 dJ6_bitCount_0f7a4_52
set_option maxHeartbeats 4000000 in
set_option maxRecDepth 100000 in
theorem c_X1_areRows (l : Launch) (dC : Nat → ClassId) (dI : Nat → Nat → Nat)   (p0 : Int32) (p1 : Int32) (p2 : Int32) (post : Int32 → Prop) (hw : wp_X1_areRows p0 p1 p2  post) : KI l yX1_areRows wsX1_areRows ({ frames := 1, cells := 0, slots := 0, locals := 22 } : Room) (dC, dI) [] [] [.int p0, .int p1, .int p2] (fun r u => post r ∧ u = []) := by
  intro sz
  refine Met.ofW (cc := cX1_areRows) (maxL := 4) (ret := (some .boolean)) (by decide) rfl ?_
  intro p e s m args below meth c s₁ B hml hv
  obtain ⟨rfl, hsz, hP, hK, hD0, hnw⟩ := hv
  have hx := B.exec
  have hb := B.bytes
  have hr := B.returns
  have hts := atoms_spec (ws := wsX1_areRows) B.pre
  have hown : s.vm.findClass RX1 = some m.cls := findClass_of_methodNamed B.named
  have hlocks := B.notSynchronized
  subst hsz
  have hD := hD0.self (sz := s.heap.size)
  generalize hAe : va_A [] s.heap.size = A at hD ⊢
  have hA : ∀ q : Nat, s.heap.size ≤ q → A q := fun q h => by rw [← hAe]; exact Or.inr h
  have hS : va_S A s.heap s.heap [] := va_S.rf
  have hP : va_P (dC, dI) vwCl [] s.heap := hP
  have hD : va_D A [] := hD
  have hl := lv_entry ([.int p0, .int p1, .int p2]) (n := 4) (Nat.le_of_ble_eq_true rfl)
  rw [lg_entry_eq]
  generalize (lg_sl ([.int p0, .int p1, .int p2]) ++ List.replicate (4 - (lg_sl ([.int p0, .int p1, .int p2])).length) Slot.unset).toArray = ls at hl ⊢
  have hl : lv_has ls 4 [(0, .int p0), (1, .int p1), (2, .int p2)] := hl
  unfold wp_X1_areRows at hw
  skip
  obtain ⟨H, hH⟩ : ∃ H, H = s.heap := ⟨_, rfl⟩
  obtain ⟨locs, hlo⟩ : ∃ q : List Loc, q = [] := ⟨_, rfl⟩
  rw [← hH] at hP
  have hS : va_S A s.heap H locs := by rw [hH, hlo]; exact hS
  suffices hgo : W p l e (headSpec wsX1_areRows ({ frames := 1, cells := 0, slots := 0, locals := 22 } : Room)).room s m _ below meth c H locs 0 0 _ (F0 m 0 ls []) by rw [hH, hlo] at hgo; exact hgo
  refine lv_iconst (v := (1 : Int32)) hx hb dX1_areRows_0 (by decide) ?_
  refine lv_iload_n hx hb dX1_areRows_1 rfl (lv_at hl 0 rfl) ?_
  refine lv_ishl hx hb dX1_areRows_2 ?_
  refine lv_iconst (v := (1 : Int32)) hx hb dX1_areRows_3 (by decide) ?_
  refine lv_isub hx hb dX1_areRows_4 ?_
  refine lv_istore_n (lv' := [(3, .int (((1 : Int32) <<< (p0 &&& (31 : Int32))) - (1 : Int32))), (0, .int p0), (1, .int p1), (2, .int p2)]) hx hb dX1_areRows_5 rfl hl (by decide) rfl (fun ls hl => ?_)
  refine lv_iload_n hx hb dX1_areRows_6 rfl (lv_at hl 2 rfl) ?_
  refine lv_iconst (v := (1 : Int32)) hx hb dX1_areRows_7 (by decide) ?_
  refine lv_iload_n hx hb dX1_areRows_8 rfl (lv_at hl 0 rfl) ?_
  have hPc := hP.sub (ws' := ([] : va_W)) [] rfl
  have hDc := hD.sub (ws' := ([] : va_W)) [] (by decide) rfl
  have hKc := hK.sub (tys' := []) [] rfl
  have hFc := va_free (wc := ([] : va_W)) hD hS hA [] rfl
  refine kc_i (wr := ([] : va_W)) (kr_N (As := [.int p1, .int (1 : Int32), .int (((1 : Int32) <<< (p0 &&& (31 : Int32))) - (1 : Int32))]) (rest := []) (ws := []) ⟨hx, hb, hml, hown, hts⟩ (c_X3_isWithin l dC dI   p1 (1 : Int32) (((1 : Int32) <<< (p0 &&& (31 : Int32))) - (1 : Int32)) _ hw H.size) ⟨va_cnB 3 hts gX1_areRows_X3_isWithin_n7 rfl rfl rfl hnw.2.1 (hts (.initialized RX3) (by decide +kernel)) (by decide +kernel) ⟨Nat.le_of_ble_eq_true rfl, Nat.le_of_ble_eq_true rfl⟩, hts (.static yX3_isWithin) (by decide +kernel), trivial⟩ hKc hnw hP hD hPc hDc rfl hl.1 rfl (Nat.le_of_ble_eq_true rfl) dX1_areRows_9 ⟨Nat.zero_le _, Nat.zero_le _⟩) hP hD hS hFc [] [] rfl rfl (by decide) (by decide) (fun r1 u1 H locs hq hP hD hS => ?_)
  obtain ⟨hw, rfl⟩ := hq
  have hP : va_P (dC, dI) vwCl [] H := hP
  have hD : va_D A [] := hD
  refine lv_if_eq (tgt := 26) hx hb dX1_areRows_12 (by decide) (fun c3 => ?_) (fun c3 => ?_)
  · have hw := hw.1 c3
    refine lv_iconst (v := (0 : Int32)) hx hb dX1_areRows_26 (by decide) ?_
    exact W.zret (v := (0 : Int32)) hx hb hr (nb_nar nb_0) (fun t ht hW => ⟨⟨(0 : Int32), ([] : va_W), rfl, ⟨hw, rfl⟩, by rw [ht]; exact hP, va_K.moved hW.alike hK, hD⟩, hS.F ht⟩) hS.2.2 dX1_areRows_27
  · have hw := hw.2 c3
    refine lv_iload_n hx hb dX1_areRows_15 rfl (lv_at hl 3 rfl) ?_
    refine lv_iconst (v := (1 : Int32)) hx hb dX1_areRows_16 (by decide) ?_
    refine lv_iload_n hx hb dX1_areRows_17 rfl (lv_at hl 0 rfl) ?_
    refine lv_iconst (v := (1 : Int32)) hx hb dX1_areRows_18 (by decide) ?_
    refine lv_isub hx hb dX1_areRows_19 ?_
    have hPc := hP.sub (ws' := ([] : va_W)) [] rfl
    have hDc := hD.sub (ws' := ([] : va_W)) [] (by decide) rfl
    have hKc := hK.sub (tys' := []) [] rfl
    have hFc := va_free (wc := ([] : va_W)) hD hS hA [] rfl
    refine kc_i (wr := ([] : va_W)) (kr_N (As := [.int p2, .int (1 : Int32), .int ((((1 : Int32) <<< (p0 &&& (31 : Int32))) - (1 : Int32)) - (1 : Int32))]) (rest := []) (ws := []) ⟨hx, hb, hml, hown, hts⟩ (c_X3_isWithin l dC dI   p2 (1 : Int32) ((((1 : Int32) <<< (p0 &&& (31 : Int32))) - (1 : Int32)) - (1 : Int32)) _ hw H.size) ⟨va_cnB 3 hts gX1_areRows_X3_isWithin_n7 rfl rfl rfl hnw.2.1 (hts (.initialized RX3) (by decide +kernel)) (by decide +kernel) ⟨Nat.le_of_ble_eq_true rfl, Nat.le_of_ble_eq_true rfl⟩, hts (.static yX3_isWithin) (by decide +kernel), trivial⟩ hKc hnw hP hD hPc hDc rfl hl.1 rfl (Nat.le_of_ble_eq_true rfl) dX1_areRows_20 ⟨Nat.zero_le _, Nat.zero_le _⟩) hP hD hS hFc [] [] rfl rfl (by decide) (by decide) (fun r4 u1 H locs hq hP hD hS => ?_)
    obtain ⟨hw, rfl⟩ := hq
    have hP : va_P (dC, dI) vwCl [] H := hP
    have hD : va_D A [] := hD
    refine lv_if_ne (tgt := 28) hx hb dX1_areRows_23 (by decide) (fun c6 => ?_) (fun c6 => ?_)
    · have hw := hw.1 c6
      refine lv_iload_n hx hb dX1_areRows_28 rfl (lv_at hl 3 rfl) ?_
      have hPc := hP.sub (ws' := ([] : va_W)) [] rfl
      have hDc := hD.sub (ws' := ([] : va_W)) [] (by decide) rfl
      have hKc := hK.sub (tys' := []) [] rfl
      have hFc := va_free (wc := ([] : va_W)) hD hS hA [] rfl
      refine kc_i (wr := ([] : va_W)) (kr_S (As := [.int p2]) (rest := []) (ws := []) ⟨hx, hb, hml, hown, hts⟩ (c_J6_bitCount_0f7a4 l dC dI   p2 _ hw H.size) (va_cwS 1 hts gX1_areRows_J6_bitCount_0f7a4 rfl rfl rfl (by decide +kernel) ⟨Nat.le_of_ble_eq_true rfl, Nat.le_of_ble_eq_true rfl⟩) hKc hnw hP hD hPc hDc rfl hl.1 rfl (Nat.le_of_ble_eq_true rfl) dX1_areRows_29 ⟨Nat.zero_le _, Nat.zero_le _⟩) hP hD hS hFc [] [] rfl rfl (by decide) (by decide) (fun r7 u1 H locs hq hP hD hS => ?_)
      obtain ⟨hw, rfl⟩ := hq
      have hP : va_P (dC, dI) vwCl [] H := hP
      have hD : va_D A [] := hD
      refine lv_iload_n hx hb dX1_areRows_32 rfl (lv_at hl 2 rfl) ?_
      have hPc := hP.sub (ws' := ([] : va_W)) [] rfl
      have hDc := hD.sub (ws' := ([] : va_W)) [] (by decide) rfl
      have hKc := hK.sub (tys' := []) [] rfl
      have hFc := va_free (wc := ([] : va_W)) hD hS hA [] rfl
      refine kc_i (wr := ([] : va_W)) (kr_S (As := [.int p1]) (rest := [.int r7]) (ws := []) ⟨hx, hb, hml, hown, hts⟩ (c_J6_bitCount_0f7a4 l dC dI   p1 _ hw H.size) (va_cwS 1 hts gX1_areRows_J6_bitCount_0f7a4 rfl rfl rfl (by decide +kernel) ⟨Nat.le_of_ble_eq_true rfl, Nat.le_of_ble_eq_true rfl⟩) hKc hnw hP hD hPc hDc rfl hl.1 rfl (Nat.le_of_ble_eq_true rfl) dX1_areRows_33 ⟨Nat.zero_le _, Nat.zero_le _⟩) hP hD hS hFc [] [] rfl rfl (by decide) (by decide) (fun r9 u1 H locs hq hP hD hS => ?_)
      obtain ⟨hw, rfl⟩ := hq
      have hP : va_P (dC, dI) vwCl [] H := hP
      have hD : va_D A [] := hD
      refine lv_icmp_le (tgt := 43) hx hb dX1_areRows_36 (by decide) (fun c11 => ?_) (fun c11 => ?_)
      · have hw := hw.1 c11
        refine lv_iconst (v := (0 : Int32)) hx hb dX1_areRows_43 (by decide) ?_
        exact W.zret (v := (0 : Int32)) hx hb hr (nb_nar nb_0) (fun t ht hW => ⟨⟨(0 : Int32), ([] : va_W), rfl, ⟨hw, rfl⟩, by rw [ht]; exact hP, va_K.moved hW.alike hK, hD⟩, hS.F ht⟩) hS.2.2 dX1_areRows_44
      · have hw := hw.2 c11
        refine lv_iconst (v := (1 : Int32)) hx hb dX1_areRows_39 (by decide) ?_
        refine lv_goto (tgt := 44) hx hb dX1_areRows_40 (by decide) ?_
        exact W.zret (v := (1 : Int32)) hx hb hr (nb_nar nb_1) (fun t ht hW => ⟨⟨(1 : Int32), ([] : va_W), rfl, ⟨hw, rfl⟩, by rw [ht]; exact hP, va_K.moved hW.alike hK, hD⟩, hS.F ht⟩) hS.2.2 dX1_areRows_44
    · have hw := hw.2 c6
      refine lv_iconst (v := (0 : Int32)) hx hb dX1_areRows_26 (by decide) ?_
      exact W.zret (v := (0 : Int32)) hx hb hr (nb_nar nb_0) (fun t ht hW => ⟨⟨(0 : Int32), ([] : va_W), rfl, ⟨hw, rfl⟩, by rw [ht]; exact hP, va_K.moved hW.alike hK, hD⟩, hS.F ht⟩) hS.2.2 dX1_areRows_27
set_option maxHeartbeats 4000000 in
set_option maxRecDepth 100000 in
theorem c_X1_firstFrom (l : Launch) (dC : Nat → ClassId) (dI : Nat → Nat → Nat)   (p0 : Int32) (p1 : Int32) (p2 : Int32) (post : Int32 → Prop) (hw : wp_X1_firstFrom p0 p1 p2  post) : KI l yX1_firstFrom wsX1_firstFrom ({ frames := 1, cells := 0, slots := 0, locals := 21 } : Room) (dC, dI) [] [] [.int p0, .int p1, .int p2] (fun r u => post r ∧ u = []) := by
  intro sz
  refine Met.ofW (cc := cX1_firstFrom) (maxL := 5) (ret := (some .int)) (by decide) rfl ?_
  intro p e s m args below meth c s₁ B hml hv
  obtain ⟨rfl, hsz, hP, hK, hD0, hnw⟩ := hv
  have hx := B.exec
  have hb := B.bytes
  have hr := B.returns
  have hts := atoms_spec (ws := wsX1_firstFrom) B.pre
  have hown : s.vm.findClass RX1 = some m.cls := findClass_of_methodNamed B.named
  have hlocks := B.notSynchronized
  subst hsz
  have hD := hD0.self (sz := s.heap.size)
  generalize hAe : va_A [] s.heap.size = A at hD ⊢
  have hA : ∀ q : Nat, s.heap.size ≤ q → A q := fun q h => by rw [← hAe]; exact Or.inr h
  have hS : va_S A s.heap s.heap [] := va_S.rf
  have hP : va_P (dC, dI) vwCl [] s.heap := hP
  have hD : va_D A [] := hD
  have L5 : ∀ (x0 : Int32) (x1 : Int32) (x2 : Int32)  (n : Nat) (x3 : Int32) (x4 : Int32)  (k : Int32 → Int32 → Prop), wl_X1_firstFrom_5 x0 x1 x2  post n x3 x4 k →
      (∀ (x3 : Int32) (x4 : Int32) , k x3 x4 → ∀ (H : Heap) (locs : List Loc) (ls : Array Slot), va_P (dC, dI) vwCl [] H → va_D A [] → va_S A s.heap H locs → lv_has ls 5 [(4, .int x4), (3, .int x3), (0, .int x0), (1, .int x1), (2, .int x2)] → W p l e (headSpec wsX1_firstFrom ({ frames := 1, cells := 0, slots := 0, locals := 21 } : Room)).room s m ([.int p0, .int p1, .int p2] : List Value).toArray below meth c H locs 0 0 (MQ below (va_Qi (fun r u => post r ∧ u = []) (kB (dC, dI) [] A) A) ([.int p0, .int p1, .int p2] : List Value).toArray s 0 0 A) (F0 m 43 ls [])) →
      ∀ (H : Heap) (locs : List Loc) (ls : Array Slot), va_P (dC, dI) vwCl [] H → va_D A [] → va_S A s.heap H locs → lv_has ls 5 [(4, .int x4), (3, .int x3), (0, .int x0), (1, .int x1), (2, .int x2)] → W p l e (headSpec wsX1_firstFrom ({ frames := 1, cells := 0, slots := 0, locals := 21 } : Room)).room s m ([.int p0, .int p1, .int p2] : List Value).toArray below meth c H locs 0 0 (MQ below (va_Qi (fun r u => post r ∧ u = []) (kB (dC, dI) [] A) A) ([.int p0, .int p1, .int p2] : List Value).toArray s 0 0 A) (F0 m 5 ls []) := by
    intro x0 x1 x2 n
    induction n with
    | zero => intro x3 x4 k hw; exact absurd hw id
    | succ n ih =>
      intro x3 x4 k hw hk H locs ls hP hD hS hl
      unfold wl_X1_firstFrom_5 at hw
      refine lv_iload hx hb dX1_firstFrom_5 (lv_at hl 0 rfl) ?_
      refine lv_iload_n hx hb dX1_firstFrom_7 rfl (lv_at hl 2 rfl) ?_
      refine lv_icmp_ge (tgt := 43) hx hb dX1_firstFrom_8 (by decide) (fun c1 => ?_) (fun c1 => ?_)
      · have hw := hw.1 c1
        exact hk x3 x4 hw H locs ls hP hD hS (lv_sub hl [0, 1, 2, 3, 4] rfl)
      · have hw := hw.2 c1
        refine lv_iload_n hx hb dX1_firstFrom_11 rfl (lv_at hl 4 rfl) ?_
        refine lv_iload_n hx hb dX1_firstFrom_12 rfl (lv_at hl 1 rfl) ?_
        have hPc := hP.sub (ws' := ([] : va_W)) [] rfl
        have hDc := hD.sub (ws' := ([] : va_W)) [] (by decide) rfl
        have hKc := hK.sub (tys' := []) [] rfl
        have hFc := va_free (wc := ([] : va_W)) hD hS hA [] rfl
        refine kc_i (wr := ([] : va_W)) (kr_N (As := [.int x2, .int x3]) (rest := []) (ws := []) ⟨hx, hb, hml, hown, hts⟩ (c_X3_isTaken l dC dI   x2 x3 _ hw H.size) ⟨va_cnB 2 hts gX1_firstFrom_X3_isTaken_n19 rfl rfl rfl hnw.2.2.1 (hts (.initialized RX3) (by decide +kernel)) (by decide +kernel) ⟨Nat.le_of_ble_eq_true rfl, Nat.le_of_ble_eq_true rfl⟩, hts (.static yX3_isTaken) (by decide +kernel), trivial⟩ hKc hnw hP hD hPc hDc rfl hl.1 rfl (Nat.le_of_ble_eq_true rfl) dX1_firstFrom_13 ⟨Nat.zero_le _, Nat.zero_le _⟩) hP hD hS hFc [] [] rfl rfl (by decide) (by decide) (fun r2 u1 H locs hq hP hD hS => ?_)
        obtain ⟨hw, rfl⟩ := hq
        have hP : va_P (dC, dI) vwCl [] H := hP
        have hD : va_D A [] := hD
        refine lv_if_eq (tgt := 23) hx hb dX1_firstFrom_16 (by decide) (fun c4 => ?_) (fun c4 => ?_)
        · have hw := hw.1 c4
          refine lv_iload_n hx hb dX1_firstFrom_23 rfl (lv_at hl 1 rfl) ?_
          refine lv_if_ne (tgt := 33) hx hb dX1_firstFrom_24 (by decide) (fun c5 => ?_) (fun c5 => ?_)
          · have hw := hw.1 c5
            refine lv_iload_n hx hb dX1_firstFrom_33 rfl (lv_at hl 1 rfl) ?_
            refine lv_iconst (v := (1 : Int32)) hx hb dX1_firstFrom_34 (by decide) ?_
            refine lv_isub hx hb dX1_firstFrom_35 ?_
            refine lv_istore_n (lv' := [(3, .int (x3 - (1 : Int32))), (4, .int x4), (0, .int x0), (1, .int x1), (2, .int x2)]) hx hb dX1_firstFrom_36 rfl hl (by decide) rfl (fun ls hl => ?_)
            refine lv_iinc (v := (x4 + (1 : Int32))) (lv' := [(4, .int (x4 + (1 : Int32))), (3, .int (x3 - (1 : Int32))), (0, .int x0), (1, .int x1), (2, .int x2)]) hx hb dX1_firstFrom_37 hl (k := 1) rfl rfl (by decide) rfl (fun ls hl => ?_)
            refine lv_goto (tgt := 5) hx hb dX1_firstFrom_40 (by decide) ?_
            exact ih (x3 - (1 : Int32)) (x4 + (1 : Int32)) _ hw hk H locs ls hP hD hS (lv_sub hl [0, 1, 2, 3, 4] rfl)
          · have hw := hw.2 c5
            refine lv_iload_n hx hb dX1_firstFrom_27 rfl (lv_at hl 2 rfl) ?_
            refine lv_iconst (v := (1 : Int32)) hx hb dX1_firstFrom_28 (by decide) ?_
            refine lv_isub hx hb dX1_firstFrom_29 ?_
            refine lv_goto (tgt := 36) hx hb dX1_firstFrom_30 (by decide) ?_
            refine lv_istore_n (lv' := [(3, .int (x0 - (1 : Int32))), (4, .int x4), (0, .int x0), (1, .int x1), (2, .int x2)]) hx hb dX1_firstFrom_36 rfl hl (by decide) rfl (fun ls hl => ?_)
            refine lv_iinc (v := (x4 + (1 : Int32))) (lv' := [(4, .int (x4 + (1 : Int32))), (3, .int (x0 - (1 : Int32))), (0, .int x0), (1, .int x1), (2, .int x2)]) hx hb dX1_firstFrom_37 hl (k := 1) rfl rfl (by decide) rfl (fun ls hl => ?_)
            refine lv_goto (tgt := 5) hx hb dX1_firstFrom_40 (by decide) ?_
            exact ih (x0 - (1 : Int32)) (x4 + (1 : Int32)) _ hw hk H locs ls hP hD hS (lv_sub hl [0, 1, 2, 3, 4] rfl)
        · have hw := hw.2 c4
          refine lv_iconst (v := (1 : Int32)) hx hb dX1_firstFrom_19 (by decide) ?_
          refine lv_iload_n hx hb dX1_firstFrom_20 rfl (lv_at hl 1 rfl) ?_
          refine lv_ishl hx hb dX1_firstFrom_21 ?_
          exact W.iret (v := ((1 : Int32) <<< (x3 &&& (31 : Int32)))) hx hb hr (fun t ht hW => ⟨⟨((1 : Int32) <<< (x3 &&& (31 : Int32))), ([] : va_W), rfl, ⟨hw, rfl⟩, by rw [ht]; exact hP, va_K.moved hW.alike hK, hD⟩, hS.F ht⟩) hS.2.2 dX1_firstFrom_22
  have hl := lv_entry ([.int p0, .int p1, .int p2]) (n := 5) (Nat.le_of_ble_eq_true rfl)
  rw [lg_entry_eq]
  generalize (lg_sl ([.int p0, .int p1, .int p2]) ++ List.replicate (5 - (lg_sl ([.int p0, .int p1, .int p2])).length) Slot.unset).toArray = ls at hl ⊢
  have hl : lv_has ls 5 [(0, .int p0), (1, .int p1), (2, .int p2)] := hl
  unfold wp_X1_firstFrom at hw
  skip
  obtain ⟨H, hH⟩ : ∃ H, H = s.heap := ⟨_, rfl⟩
  obtain ⟨locs, hlo⟩ : ∃ q : List Loc, q = [] := ⟨_, rfl⟩
  rw [← hH] at hP
  have hS : va_S A s.heap H locs := by rw [hH, hlo]; exact hS
  suffices hgo : W p l e (headSpec wsX1_firstFrom ({ frames := 1, cells := 0, slots := 0, locals := 21 } : Room)).room s m _ below meth c H locs 0 0 _ (F0 m 0 ls []) by rw [hH, hlo] at hgo; exact hgo
  refine lv_iload_n hx hb dX1_firstFrom_0 rfl (lv_at hl 1 rfl) ?_
  refine lv_istore_n (lv' := [(3, .int p1), (0, .int p0), (1, .int p1), (2, .int p2)]) hx hb dX1_firstFrom_1 rfl hl (by decide) rfl (fun ls hl => ?_)
  refine lv_iconst (v := (0 : Int32)) hx hb dX1_firstFrom_2 (by decide) ?_
  refine lv_istore (lv' := [(4, .int (0 : Int32)), (3, .int p1), (0, .int p0), (1, .int p1), (2, .int p2)]) hx hb dX1_firstFrom_3 hl (by decide) rfl (fun ls hl => ?_)
  refine L5 p0 p1 p2 (20000) p1 (0 : Int32) _ hw (fun x3_6 x4_7 hw H locs ls hP hD hS hl => ?_) H locs ls hP hD hS (lv_sub hl [0, 1, 2, 3, 4] rfl)
  refine lv_iconst (v := (0 : Int32)) hx hb dX1_firstFrom_43 (by decide) ?_
  exact W.iret (v := (0 : Int32)) hx hb hr (fun t ht hW => ⟨⟨(0 : Int32), ([] : va_W), rfl, ⟨hw, rfl⟩, by rw [ht]; exact hP, va_K.moved hW.alike hK, hD⟩, hS.F ht⟩) hS.2.2 dX1_firstFrom_44
set_option maxHeartbeats 4000000 in
set_option maxRecDepth 100000 in
theorem c_X1_servedPlaces (l : Launch) (dC : Nat → ClassId) (dI : Nat → Nat → Nat)   (p0 : Int32) (p1 : Int32) (p2 : Int32) (post : Int32 → Prop) (hw : wp_X1_servedPlaces p0 p1 p2  post) : KI l yX1_servedPlaces wsX1_servedPlaces ({ frames := 2, cells := 0, slots := 0, locals := 45 } : Room) (dC, dI) [] [] [.int p0, .int p1, .int p2] (fun r u => post r ∧ u = []) := by
  intro sz
  refine Met.ofW (cc := cX1_servedPlaces) (maxL := 5) (ret := (some .int)) (by decide) rfl ?_
  intro p e s m args below meth c s₁ B hml hv
  obtain ⟨rfl, hsz, hP, hK, hD0, hnw⟩ := hv
  have hx := B.exec
  have hb := B.bytes
  have hr := B.returns
  have hts := atoms_spec (ws := wsX1_servedPlaces) B.pre
  have hown : s.vm.findClass RX1 = some m.cls := findClass_of_methodNamed B.named
  have hlocks := B.notSynchronized
  subst hsz
  have hD := hD0.self (sz := s.heap.size)
  generalize hAe : va_A [] s.heap.size = A at hD ⊢
  have hA : ∀ q : Nat, s.heap.size ≤ q → A q := fun q h => by rw [← hAe]; exact Or.inr h
  have hS : va_S A s.heap s.heap [] := va_S.rf
  have hP : va_P (dC, dI) vwCl [] s.heap := hP
  have hD : va_D A [] := hD
  have L5 : ∀ (x0 : Int32) (x1 : Int32) (x2 : Int32)  (n : Nat) (x3 : Int32) (x4 : Int32)  (k : Int32 → Int32 → Prop), wl_X1_servedPlaces_5 x0 x1 x2  n x3 x4 k →
      (∀ (x3 : Int32) (x4 : Int32) , k x3 x4 → ∀ (H : Heap) (locs : List Loc) (ls : Array Slot), va_P (dC, dI) vwCl [] H → va_D A [] → va_S A s.heap H locs → lv_has ls 5 [(4, .int x4), (3, .int x3), (0, .int x0), (1, .int x1), (2, .int x2)] → W p l e (headSpec wsX1_servedPlaces ({ frames := 2, cells := 0, slots := 0, locals := 45 } : Room)).room s m ([.int p0, .int p1, .int p2] : List Value).toArray below meth c H locs 0 0 (MQ below (va_Qi (fun r u => post r ∧ u = []) (kB (dC, dI) [] A) A) ([.int p0, .int p1, .int p2] : List Value).toArray s 0 0 A) (F0 m 40 ls [])) →
      ∀ (H : Heap) (locs : List Loc) (ls : Array Slot), va_P (dC, dI) vwCl [] H → va_D A [] → va_S A s.heap H locs → lv_has ls 5 [(4, .int x4), (3, .int x3), (0, .int x0), (1, .int x1), (2, .int x2)] → W p l e (headSpec wsX1_servedPlaces ({ frames := 2, cells := 0, slots := 0, locals := 45 } : Room)).room s m ([.int p0, .int p1, .int p2] : List Value).toArray below meth c H locs 0 0 (MQ below (va_Qi (fun r u => post r ∧ u = []) (kB (dC, dI) [] A) A) ([.int p0, .int p1, .int p2] : List Value).toArray s 0 0 A) (F0 m 5 ls []) := by
    intro x0 x1 x2 n
    induction n with
    | zero => intro x3 x4 k hw; exact absurd hw id
    | succ n ih =>
      intro x3 x4 k hw hk H locs ls hP hD hS hl
      unfold wl_X1_servedPlaces_5 at hw
      refine lv_iload hx hb dX1_servedPlaces_5 (lv_at hl 0 rfl) ?_
      refine lv_iload_n hx hb dX1_servedPlaces_7 rfl (lv_at hl 2 rfl) ?_
      refine lv_icmp_ge (tgt := 40) hx hb dX1_servedPlaces_8 (by decide) (fun c1 => ?_) (fun c1 => ?_)
      · have hw := hw.1 c1
        exact hk x3 x4 hw H locs ls hP hD hS (lv_sub hl [0, 1, 2, 3, 4] rfl)
      · have hw := hw.2 c1
        refine lv_iload_n hx hb dX1_servedPlaces_11 rfl (lv_at hl 3 rfl) ?_
        refine lv_iload hx hb dX1_servedPlaces_12 (lv_at hl 0 rfl) ?_
        have hPc := hP.sub (ws' := ([] : va_W)) [] rfl
        have hDc := hD.sub (ws' := ([] : va_W)) [] (by decide) rfl
        have hKc := hK.sub (tys' := []) [] rfl
        have hFc := va_free (wc := ([] : va_W)) hD hS hA [] rfl
        refine kc_i (wr := ([] : va_W)) (kr_N (As := [.int x1, .int x4]) (rest := []) (ws := []) ⟨hx, hb, hml, hown, hts⟩ (c_X3_isTaken l dC dI   x1 x4 _ hw H.size) ⟨va_cnB 2 hts gX1_servedPlaces_X3_isTaken_n19 rfl rfl rfl hnw.2.2.1 (hts (.initialized RX3) (by decide +kernel)) (by decide +kernel) ⟨Nat.le_of_ble_eq_true rfl, Nat.le_of_ble_eq_true rfl⟩, hts (.static yX3_isTaken) (by decide +kernel), trivial⟩ hKc hnw hP hD hPc hDc rfl hl.1 rfl (Nat.le_of_ble_eq_true rfl) dX1_servedPlaces_14 ⟨Nat.zero_le _, Nat.zero_le _⟩) hP hD hS hFc [] [] rfl rfl (by decide) (by decide) (fun r2 u1 H locs hq hP hD hS => ?_)
        obtain ⟨hw, rfl⟩ := hq
        have hP : va_P (dC, dI) vwCl [] H := hP
        have hD : va_D A [] := hD
        refine lv_if_eq (tgt := 34) hx hb dX1_servedPlaces_17 (by decide) (fun c4 => ?_) (fun c4 => ?_)
        · have hw := hw.1 c4
          refine lv_iinc (v := (x4 + (1 : Int32))) (lv' := [(4, .int (x4 + (1 : Int32))), (3, .int x3), (0, .int x0), (1, .int x1), (2, .int x2)]) hx hb dX1_servedPlaces_34 hl (k := 0) rfl rfl (by decide) rfl (fun ls hl => ?_)
          refine lv_goto (tgt := 5) hx hb dX1_servedPlaces_37 (by decide) ?_
          exact ih x3 (x4 + (1 : Int32)) _ hw hk H locs ls hP hD hS (lv_sub hl [0, 1, 2, 3, 4] rfl)
        · have hw := hw.2 c4
          refine lv_iload_n hx hb dX1_servedPlaces_20 rfl (lv_at hl 1 rfl) ?_
          refine lv_iload_n hx hb dX1_servedPlaces_21 rfl (lv_at hl 2 rfl) ?_
          refine lv_iload hx hb dX1_servedPlaces_22 (lv_at hl 0 rfl) ?_
          refine lv_iload_n hx hb dX1_servedPlaces_24 rfl (lv_at hl 4 rfl) ?_
          refine lv_iload_n hx hb dX1_servedPlaces_25 rfl (lv_at hl 1 rfl) ?_
          refine lv_iconst (v := (-1 : Int32)) hx hb dX1_servedPlaces_26 (by decide) ?_
          refine lv_ixor hx hb dX1_servedPlaces_27 ?_
          refine lv_iand hx hb dX1_servedPlaces_28 ?_
          have hPc := hP.sub (ws' := ([] : va_W)) [] rfl
          have hDc := hD.sub (ws' := ([] : va_W)) [] (by decide) rfl
          have hKc := hK.sub (tys' := []) [] rfl
          have hFc := va_free (wc := ([] : va_W)) hD hS hA [] rfl
          refine kc_i (wr := ([] : va_W)) (kr_S (As := [.int x0, .int x4, .int (x2 &&& (x3 ^^^ (-1 : Int32)))]) (rest := [.int x3]) (ws := []) ⟨hx, hb, hml, hown, hts⟩ (c_X1_firstFrom l dC dI   x0 x4 (x2 &&& (x3 ^^^ (-1 : Int32))) _ hw H.size) (va_cwS 3 hts gX1_servedPlaces_X1_firstFrom rfl rfl rfl (by decide +kernel) ⟨Nat.le_of_ble_eq_true rfl, Nat.le_of_ble_eq_true rfl⟩) hKc hnw hP hD hPc hDc rfl hl.1 rfl (Nat.le_of_ble_eq_true rfl) dX1_servedPlaces_29 ⟨Nat.zero_le _, Nat.zero_le _⟩) hP hD hS hFc [] [] rfl rfl (by decide) (by decide) (fun r5 u1 H locs hq hP hD hS => ?_)
          obtain ⟨hw, rfl⟩ := hq
          have hP : va_P (dC, dI) vwCl [] H := hP
          have hD : va_D A [] := hD
          refine lv_ior hx hb dX1_servedPlaces_32 ?_
          refine lv_istore_n (lv' := [(3, .int (x3 ||| r5)), (4, .int x4), (0, .int x0), (1, .int x1), (2, .int x2)]) hx hb dX1_servedPlaces_33 rfl hl (by decide) rfl (fun ls hl => ?_)
          refine lv_iinc (v := (x4 + (1 : Int32))) (lv' := [(4, .int (x4 + (1 : Int32))), (3, .int (x3 ||| r5)), (0, .int x0), (1, .int x1), (2, .int x2)]) hx hb dX1_servedPlaces_34 hl (k := 1) rfl rfl (by decide) rfl (fun ls hl => ?_)
          refine lv_goto (tgt := 5) hx hb dX1_servedPlaces_37 (by decide) ?_
          exact ih (x3 ||| r5) (x4 + (1 : Int32)) _ hw hk H locs ls hP hD hS (lv_sub hl [0, 1, 2, 3, 4] rfl)
  have hl := lv_entry ([.int p0, .int p1, .int p2]) (n := 5) (Nat.le_of_ble_eq_true rfl)
  rw [lg_entry_eq]
  generalize (lg_sl ([.int p0, .int p1, .int p2]) ++ List.replicate (5 - (lg_sl ([.int p0, .int p1, .int p2])).length) Slot.unset).toArray = ls at hl ⊢
  have hl : lv_has ls 5 [(0, .int p0), (1, .int p1), (2, .int p2)] := hl
  unfold wp_X1_servedPlaces at hw
  skip
  obtain ⟨H, hH⟩ : ∃ H, H = s.heap := ⟨_, rfl⟩
  obtain ⟨locs, hlo⟩ : ∃ q : List Loc, q = [] := ⟨_, rfl⟩
  rw [← hH] at hP
  have hS : va_S A s.heap H locs := by rw [hH, hlo]; exact hS
  suffices hgo : W p l e (headSpec wsX1_servedPlaces ({ frames := 2, cells := 0, slots := 0, locals := 45 } : Room)).room s m _ below meth c H locs 0 0 _ (F0 m 0 ls []) by rw [hH, hlo] at hgo; exact hgo
  refine lv_iconst (v := (0 : Int32)) hx hb dX1_servedPlaces_0 (by decide) ?_
  refine lv_istore_n (lv' := [(3, .int (0 : Int32)), (0, .int p0), (1, .int p1), (2, .int p2)]) hx hb dX1_servedPlaces_1 rfl hl (by decide) rfl (fun ls hl => ?_)
  refine lv_iconst (v := (0 : Int32)) hx hb dX1_servedPlaces_2 (by decide) ?_
  refine lv_istore (lv' := [(4, .int (0 : Int32)), (3, .int (0 : Int32)), (0, .int p0), (1, .int p1), (2, .int p2)]) hx hb dX1_servedPlaces_3 hl (by decide) rfl (fun ls hl => ?_)
  refine L5 p0 p1 p2 (20000) (0 : Int32) (0 : Int32) _ hw (fun x3_7 x4_8 hw H locs ls hP hD hS hl => ?_) H locs ls hP hD hS (lv_sub hl [0, 1, 2, 3, 4] rfl)
  refine lv_iload_n hx hb dX1_servedPlaces_40 rfl (lv_at hl 1 rfl) ?_
  exact W.iret (v := x3_7) hx hb hr (fun t ht hW => ⟨⟨x3_7, ([] : va_W), rfl, ⟨hw, rfl⟩, by rw [ht]; exact hP, va_K.moved hW.alike hK, hD⟩, hS.F ht⟩) hS.2.2 dX1_servedPlaces_41
set_option maxHeartbeats 4000000 in
set_option maxRecDepth 100000 in
theorem c_X1_numberOf (l : Launch) (dC : Nat → ClassId) (dI : Nat → Nat → Nat)   (p0 : Int32) (p1 : Int32) (p2 : Int32) (post : Int32 → Prop) (hw : wp_X1_numberOf p0 p1 p2  post) : KI l yX1_numberOf wsX1_numberOf ({ frames := 1, cells := 0, slots := 0, locals := 21 } : Room) (dC, dI) [] [] [.int p0, .int p1, .int p2] (fun r u => post r ∧ u = []) := by
  intro sz
  refine Met.ofW (cc := cX1_numberOf) (maxL := 6) (ret := (some .int)) (by decide) rfl ?_
  intro p e s m args below meth c s₁ B hml hv
  obtain ⟨rfl, hsz, hP, hK, hD0, hnw⟩ := hv
  have hx := B.exec
  have hb := B.bytes
  have hr := B.returns
  have hts := atoms_spec (ws := wsX1_numberOf) B.pre
  have hown : s.vm.findClass RX1 = some m.cls := findClass_of_methodNamed B.named
  have hlocks := B.notSynchronized
  subst hsz
  have hD := hD0.self (sz := s.heap.size)
  generalize hAe : va_A [] s.heap.size = A at hD ⊢
  have hA : ∀ q : Nat, s.heap.size ≤ q → A q := fun q h => by rw [← hAe]; exact Or.inr h
  have hS : va_S A s.heap s.heap [] := va_S.rf
  have hP : va_P (dC, dI) vwCl [] s.heap := hP
  have hD : va_D A [] := hD
  have L7 : ∀ (x0 : Int32) (x1 : Int32) (x2 : Int32)  (n : Nat) (x3 : Int32) (x4 : Int32)  (k : Int32 → Int32 → Prop), wl_X1_numberOf_7 x0 x1 x2  n x3 x4 k →
      (∀ (x3 : Int32) (x4 : Int32) , k x3 x4 → ∀ (H : Heap) (locs : List Loc) (ls : Array Slot), va_P (dC, dI) vwCl [] H → va_D A [] → va_S A s.heap H locs → lv_has ls 6 [(4, .int x4), (3, .int x3), (0, .int x0), (1, .int x1), (2, .int x2)] → W p l e (headSpec wsX1_numberOf ({ frames := 1, cells := 0, slots := 0, locals := 21 } : Room)).room s m ([.int p0, .int p1, .int p2] : List Value).toArray below meth c H locs 0 0 (MQ below (va_Qi (fun r u => post r ∧ u = []) (kB (dC, dI) [] A) A) ([.int p0, .int p1, .int p2] : List Value).toArray s 0 0 A) (F0 m 53 ls [])) →
      ∀ (H : Heap) (locs : List Loc) (ls : Array Slot), va_P (dC, dI) vwCl [] H → va_D A [] → va_S A s.heap H locs → lv_has ls 6 [(4, .int x4), (3, .int x3), (0, .int x0), (1, .int x1), (2, .int x2)] → W p l e (headSpec wsX1_numberOf ({ frames := 1, cells := 0, slots := 0, locals := 21 } : Room)).room s m ([.int p0, .int p1, .int p2] : List Value).toArray below meth c H locs 0 0 (MQ below (va_Qi (fun r u => post r ∧ u = []) (kB (dC, dI) [] A) A) ([.int p0, .int p1, .int p2] : List Value).toArray s 0 0 A) (F0 m 7 ls []) := by
    intro x0 x1 x2 n
    induction n with
    | zero => intro x3 x4 k hw; exact absurd hw id
    | succ n ih =>
      intro x3 x4 k hw hk H locs ls hP hD hS hl
      unfold wl_X1_numberOf_7 at hw
      refine lv_iload hx hb dX1_numberOf_7 (lv_at hl 0 rfl) ?_
      refine lv_if_lt (tgt := 53) hx hb dX1_numberOf_9 (by decide) (fun c1 => ?_) (fun c1 => ?_)
      · have hw := hw.1 c1
        exact hk x3 x4 hw H locs ls hP hD hS (lv_sub hl [0, 1, 2, 3, 4] rfl)
      · have hw := hw.2 c1
        refine lv_iconst (v := (0 : Int32)) hx hb dX1_numberOf_12 (by decide) ?_
        refine lv_istore (lv' := [(5, .int (0 : Int32)), (4, .int x4), (3, .int x3), (0, .int x0), (1, .int x1), (2, .int x2)]) hx hb dX1_numberOf_13 hl (by decide) rfl (fun ls hl => ?_)
        refine lv_iload_n hx hb dX1_numberOf_15 rfl (lv_at hl 5 rfl) ?_
        refine lv_iload hx hb dX1_numberOf_16 (lv_at hl 1 rfl) ?_
        have hPc := hP.sub (ws' := ([] : va_W)) [] rfl
        have hDc := hD.sub (ws' := ([] : va_W)) [] (by decide) rfl
        have hKc := hK.sub (tys' := []) [] rfl
        have hFc := va_free (wc := ([] : va_W)) hD hS hA [] rfl
        refine kc_i (wr := ([] : va_W)) (kr_N (As := [.int x2, .int x4]) (rest := []) (ws := []) ⟨hx, hb, hml, hown, hts⟩ (c_X3_isTaken l dC dI   x2 x4 _ hw H.size) ⟨va_cnB 2 hts gX1_numberOf_X3_isTaken_n19 rfl rfl rfl hnw.2.2.1 (hts (.initialized RX3) (by decide +kernel)) (by decide +kernel) ⟨Nat.le_of_ble_eq_true rfl, Nat.le_of_ble_eq_true rfl⟩, hts (.static yX3_isTaken) (by decide +kernel), trivial⟩ hKc hnw hP hD hPc hDc rfl hl.1 rfl (Nat.le_of_ble_eq_true rfl) dX1_numberOf_18 ⟨Nat.zero_le _, Nat.zero_le _⟩) hP hD hS hFc [] [] rfl rfl (by decide) (by decide) (fun r2 u1 H locs hq hP hD hS => ?_)
        obtain ⟨hw, rfl⟩ := hq
        have hP : va_P (dC, dI) vwCl [] H := hP
        have hD : va_D A [] := hD
        refine lv_if_eq (tgt := 40) hx hb dX1_numberOf_21 (by decide) (fun c4 => ?_) (fun c4 => ?_)
        · have hw := hw.1 c4
          refine lv_iconst (v := (3 : Int32)) hx hb dX1_numberOf_40 (by decide) ?_
          refine lv_iload_n hx hb dX1_numberOf_41 rfl (lv_at hl 2 rfl) ?_
          refine lv_imul hx hb dX1_numberOf_42 ?_
          refine lv_iload hx hb dX1_numberOf_43 (lv_at hl 0 rfl) ?_
          refine lv_iadd hx hb dX1_numberOf_45 ?_
          refine lv_istore_n (lv' := [(3, .int (((3 : Int32) * x3) + (0 : Int32))), (5, .int (0 : Int32)), (4, .int x4), (0, .int x0), (1, .int x1), (2, .int x2)]) hx hb dX1_numberOf_46 rfl hl (by decide) rfl (fun ls hl => ?_)
          refine lv_iinc (v := (x4 + (-1 : Int32))) (lv' := [(4, .int (x4 + (-1 : Int32))), (3, .int (((3 : Int32) * x3) + (0 : Int32))), (5, .int (0 : Int32)), (0, .int x0), (1, .int x1), (2, .int x2)]) hx hb dX1_numberOf_47 hl (k := 2) rfl rfl (by decide) rfl (fun ls hl => ?_)
          refine lv_goto (tgt := 7) hx hb dX1_numberOf_50 (by decide) ?_
          exact ih (((3 : Int32) * x3) + (0 : Int32)) (x4 + (-1 : Int32)) _ hw hk H locs ls hP hD hS (lv_sub hl [0, 1, 3, 4, 5] rfl)
        · have hw := hw.2 c4
          refine lv_iload_n hx hb dX1_numberOf_24 rfl (lv_at hl 4 rfl) ?_
          refine lv_iload hx hb dX1_numberOf_25 (lv_at hl 1 rfl) ?_
          have hPc := hP.sub (ws' := ([] : va_W)) [] rfl
          have hDc := hD.sub (ws' := ([] : va_W)) [] (by decide) rfl
          have hKc := hK.sub (tys' := []) [] rfl
          have hFc := va_free (wc := ([] : va_W)) hD hS hA [] rfl
          refine kc_i (wr := ([] : va_W)) (kr_N (As := [.int x1, .int x4]) (rest := []) (ws := []) ⟨hx, hb, hml, hown, hts⟩ (c_X3_isTaken l dC dI   x1 x4 _ hw H.size) ⟨va_cnB 2 hts gX1_numberOf_X3_isTaken_n19 rfl rfl rfl hnw.2.2.1 (hts (.initialized RX3) (by decide +kernel)) (by decide +kernel) ⟨Nat.le_of_ble_eq_true rfl, Nat.le_of_ble_eq_true rfl⟩, hts (.static yX3_isTaken) (by decide +kernel), trivial⟩ hKc hnw hP hD hPc hDc rfl hl.1 rfl (Nat.le_of_ble_eq_true rfl) dX1_numberOf_27 ⟨Nat.zero_le _, Nat.zero_le _⟩) hP hD hS hFc [] [] rfl rfl (by decide) (by decide) (fun r5 u1 H locs hq hP hD hS => ?_)
          obtain ⟨hw, rfl⟩ := hq
          have hP : va_P (dC, dI) vwCl [] H := hP
          have hD : va_D A [] := hD
          refine lv_if_eq (tgt := 37) hx hb dX1_numberOf_30 (by decide) (fun c7 => ?_) (fun c7 => ?_)
          · have hw := hw.1 c7
            refine lv_iconst (v := (2 : Int32)) hx hb dX1_numberOf_37 (by decide) ?_
            refine lv_istore (lv' := [(5, .int (2 : Int32)), (4, .int x4), (3, .int x3), (0, .int x0), (1, .int x1), (2, .int x2)]) hx hb dX1_numberOf_38 hl (by decide) rfl (fun ls hl => ?_)
            refine lv_iconst (v := (3 : Int32)) hx hb dX1_numberOf_40 (by decide) ?_
            refine lv_iload_n hx hb dX1_numberOf_41 rfl (lv_at hl 2 rfl) ?_
            refine lv_imul hx hb dX1_numberOf_42 ?_
            refine lv_iload hx hb dX1_numberOf_43 (lv_at hl 0 rfl) ?_
            refine lv_iadd hx hb dX1_numberOf_45 ?_
            refine lv_istore_n (lv' := [(3, .int (((3 : Int32) * x3) + (2 : Int32))), (5, .int (2 : Int32)), (4, .int x4), (0, .int x0), (1, .int x1), (2, .int x2)]) hx hb dX1_numberOf_46 rfl hl (by decide) rfl (fun ls hl => ?_)
            refine lv_iinc (v := (x4 + (-1 : Int32))) (lv' := [(4, .int (x4 + (-1 : Int32))), (3, .int (((3 : Int32) * x3) + (2 : Int32))), (5, .int (2 : Int32)), (0, .int x0), (1, .int x1), (2, .int x2)]) hx hb dX1_numberOf_47 hl (k := 2) rfl rfl (by decide) rfl (fun ls hl => ?_)
            refine lv_goto (tgt := 7) hx hb dX1_numberOf_50 (by decide) ?_
            exact ih (((3 : Int32) * x3) + (2 : Int32)) (x4 + (-1 : Int32)) _ hw hk H locs ls hP hD hS (lv_sub hl [0, 1, 3, 4, 5] rfl)
          · have hw := hw.2 c7
            refine lv_iconst (v := (1 : Int32)) hx hb dX1_numberOf_33 (by decide) ?_
            refine lv_goto (tgt := 38) hx hb dX1_numberOf_34 (by decide) ?_
            refine lv_istore (lv' := [(5, .int (1 : Int32)), (4, .int x4), (3, .int x3), (0, .int x0), (1, .int x1), (2, .int x2)]) hx hb dX1_numberOf_38 hl (by decide) rfl (fun ls hl => ?_)
            refine lv_iconst (v := (3 : Int32)) hx hb dX1_numberOf_40 (by decide) ?_
            refine lv_iload_n hx hb dX1_numberOf_41 rfl (lv_at hl 2 rfl) ?_
            refine lv_imul hx hb dX1_numberOf_42 ?_
            refine lv_iload hx hb dX1_numberOf_43 (lv_at hl 0 rfl) ?_
            refine lv_iadd hx hb dX1_numberOf_45 ?_
            refine lv_istore_n (lv' := [(3, .int (((3 : Int32) * x3) + (1 : Int32))), (5, .int (1 : Int32)), (4, .int x4), (0, .int x0), (1, .int x1), (2, .int x2)]) hx hb dX1_numberOf_46 rfl hl (by decide) rfl (fun ls hl => ?_)
            refine lv_iinc (v := (x4 + (-1 : Int32))) (lv' := [(4, .int (x4 + (-1 : Int32))), (3, .int (((3 : Int32) * x3) + (1 : Int32))), (5, .int (1 : Int32)), (0, .int x0), (1, .int x1), (2, .int x2)]) hx hb dX1_numberOf_47 hl (k := 2) rfl rfl (by decide) rfl (fun ls hl => ?_)
            refine lv_goto (tgt := 7) hx hb dX1_numberOf_50 (by decide) ?_
            exact ih (((3 : Int32) * x3) + (1 : Int32)) (x4 + (-1 : Int32)) _ hw hk H locs ls hP hD hS (lv_sub hl [0, 1, 3, 4, 5] rfl)
  have hl := lv_entry ([.int p0, .int p1, .int p2]) (n := 6) (Nat.le_of_ble_eq_true rfl)
  rw [lg_entry_eq]
  generalize (lg_sl ([.int p0, .int p1, .int p2]) ++ List.replicate (6 - (lg_sl ([.int p0, .int p1, .int p2])).length) Slot.unset).toArray = ls at hl ⊢
  have hl : lv_has ls 6 [(0, .int p0), (1, .int p1), (2, .int p2)] := hl
  unfold wp_X1_numberOf at hw
  skip
  obtain ⟨H, hH⟩ : ∃ H, H = s.heap := ⟨_, rfl⟩
  obtain ⟨locs, hlo⟩ : ∃ q : List Loc, q = [] := ⟨_, rfl⟩
  rw [← hH] at hP
  have hS : va_S A s.heap H locs := by rw [hH, hlo]; exact hS
  suffices hgo : W p l e (headSpec wsX1_numberOf ({ frames := 1, cells := 0, slots := 0, locals := 21 } : Room)).room s m _ below meth c H locs 0 0 _ (F0 m 0 ls []) by rw [hH, hlo] at hgo; exact hgo
  refine lv_iconst (v := (0 : Int32)) hx hb dX1_numberOf_0 (by decide) ?_
  refine lv_istore_n (lv' := [(3, .int (0 : Int32)), (0, .int p0), (1, .int p1), (2, .int p2)]) hx hb dX1_numberOf_1 rfl hl (by decide) rfl (fun ls hl => ?_)
  refine lv_iload_n hx hb dX1_numberOf_2 rfl (lv_at hl 1 rfl) ?_
  refine lv_iconst (v := (1 : Int32)) hx hb dX1_numberOf_3 (by decide) ?_
  refine lv_isub hx hb dX1_numberOf_4 ?_
  refine lv_istore (lv' := [(4, .int (p0 - (1 : Int32))), (3, .int (0 : Int32)), (0, .int p0), (1, .int p1), (2, .int p2)]) hx hb dX1_numberOf_5 hl (by decide) rfl (fun ls hl => ?_)
  refine L7 p0 p1 p2 (20000) (0 : Int32) (p0 - (1 : Int32)) _ hw (fun x3_8 x4_9 hw H locs ls hP hD hS hl => ?_) H locs ls hP hD hS (lv_sub hl [0, 1, 2, 3, 4] rfl)
  refine lv_iload_n hx hb dX1_numberOf_53 rfl (lv_at hl 1 rfl) ?_
  exact W.iret (v := x3_8) hx hb hr (fun t ht hW => ⟨⟨x3_8, ([] : va_W), rfl, ⟨hw, rfl⟩, by rw [ht]; exact hP, va_K.moved hW.alike hK, hD⟩, hS.F ht⟩) hS.2.2 dX1_numberOf_54
set_option maxHeartbeats 4000000 in
set_option maxRecDepth 100000 in
theorem c_X1_greatestNumber (l : Launch) (dC : Nat → ClassId) (dI : Nat → Nat → Nat)   (p0 : Int32) (post : Int32 → Prop) (hw : wp_X1_greatestNumber p0  post) : KI l yX1_greatestNumber wsX1_greatestNumber ({ frames := 0, cells := 0, slots := 0, locals := 0 } : Room) (dC, dI) [] [] [.int p0] (fun r u => post r ∧ u = []) := by
  intro sz
  refine Met.ofW (cc := cX1_greatestNumber) (maxL := 3) (ret := (some .int)) (by decide) rfl ?_
  intro p e s m args below meth c s₁ B hml hv
  obtain ⟨rfl, hsz, hP, hK, hD0, hnw⟩ := hv
  have hx := B.exec
  have hb := B.bytes
  have hr := B.returns
  have hts := atoms_spec (ws := wsX1_greatestNumber) B.pre
  have hown : s.vm.findClass RX1 = some m.cls := findClass_of_methodNamed B.named
  have hlocks := B.notSynchronized
  subst hsz
  have hD := hD0.self (sz := s.heap.size)
  generalize hAe : va_A [] s.heap.size = A at hD ⊢
  have hA : ∀ q : Nat, s.heap.size ≤ q → A q := fun q h => by rw [← hAe]; exact Or.inr h
  have hS : va_S A s.heap s.heap [] := va_S.rf
  have hP : va_P (dC, dI) vwCl [] s.heap := hP
  have hD : va_D A [] := hD
  have L4 : ∀ (x0 : Int32)  (n : Nat) (x1 : Int32) (x2 : Int32)  (k : Int32 → Int32 → Prop), wl_X1_greatestNumber_4 x0  n x1 x2 k →
      (∀ (x1 : Int32) (x2 : Int32) , k x1 x2 → ∀ (H : Heap) (locs : List Loc) (ls : Array Slot), va_P (dC, dI) vwCl [] H → va_D A [] → va_S A s.heap H locs → lv_has ls 3 [(2, .int x2), (1, .int x1), (0, .int x0)] → W p l e (headSpec wsX1_greatestNumber ({ frames := 0, cells := 0, slots := 0, locals := 0 } : Room)).room s m ([.int p0] : List Value).toArray below meth c H locs 0 0 (MQ below (va_Qi (fun r u => post r ∧ u = []) (kB (dC, dI) [] A) A) ([.int p0] : List Value).toArray s 0 0 A) (F0 m 21 ls [])) →
      ∀ (H : Heap) (locs : List Loc) (ls : Array Slot), va_P (dC, dI) vwCl [] H → va_D A [] → va_S A s.heap H locs → lv_has ls 3 [(2, .int x2), (1, .int x1), (0, .int x0)] → W p l e (headSpec wsX1_greatestNumber ({ frames := 0, cells := 0, slots := 0, locals := 0 } : Room)).room s m ([.int p0] : List Value).toArray below meth c H locs 0 0 (MQ below (va_Qi (fun r u => post r ∧ u = []) (kB (dC, dI) [] A) A) ([.int p0] : List Value).toArray s 0 0 A) (F0 m 4 ls []) := by
    intro x0 n
    induction n with
    | zero => intro x1 x2 k hw; exact absurd hw id
    | succ n ih =>
      intro x1 x2 k hw hk H locs ls hP hD hS hl
      unfold wl_X1_greatestNumber_4 at hw
      refine lv_iload_n hx hb dX1_greatestNumber_4 rfl (lv_at hl 0 rfl) ?_
      refine lv_iload_n hx hb dX1_greatestNumber_5 rfl (lv_at hl 2 rfl) ?_
      refine lv_icmp_ge (tgt := 21) hx hb dX1_greatestNumber_6 (by decide) (fun c1 => ?_) (fun c1 => ?_)
      · have hw := hw.1 c1
        exact hk x1 x2 hw H locs ls hP hD hS (lv_sub hl [0, 1, 2] rfl)
      · have hw := hw.2 c1
        refine lv_iconst (v := (3 : Int32)) hx hb dX1_greatestNumber_9 (by decide) ?_
        refine lv_iload_n hx hb dX1_greatestNumber_10 rfl (lv_at hl 1 rfl) ?_
        refine lv_imul hx hb dX1_greatestNumber_11 ?_
        refine lv_iconst (v := (2 : Int32)) hx hb dX1_greatestNumber_12 (by decide) ?_
        refine lv_iadd hx hb dX1_greatestNumber_13 ?_
        refine lv_istore_n (lv' := [(1, .int (((3 : Int32) * x1) + (2 : Int32))), (2, .int x2), (0, .int x0)]) hx hb dX1_greatestNumber_14 rfl hl (by decide) rfl (fun ls hl => ?_)
        refine lv_iinc (v := (x2 + (1 : Int32))) (lv' := [(2, .int (x2 + (1 : Int32))), (1, .int (((3 : Int32) * x1) + (2 : Int32))), (0, .int x0)]) hx hb dX1_greatestNumber_15 hl (k := 1) rfl rfl (by decide) rfl (fun ls hl => ?_)
        refine lv_goto (tgt := 4) hx hb dX1_greatestNumber_18 (by decide) ?_
        exact ih (((3 : Int32) * x1) + (2 : Int32)) (x2 + (1 : Int32)) _ hw hk H locs ls hP hD hS (lv_sub hl [0, 1, 2] rfl)
  have hl := lv_entry ([.int p0]) (n := 3) (Nat.le_of_ble_eq_true rfl)
  rw [lg_entry_eq]
  generalize (lg_sl ([.int p0]) ++ List.replicate (3 - (lg_sl ([.int p0])).length) Slot.unset).toArray = ls at hl ⊢
  have hl : lv_has ls 3 [(0, .int p0)] := hl
  unfold wp_X1_greatestNumber at hw
  skip
  obtain ⟨H, hH⟩ : ∃ H, H = s.heap := ⟨_, rfl⟩
  obtain ⟨locs, hlo⟩ : ∃ q : List Loc, q = [] := ⟨_, rfl⟩
  rw [← hH] at hP
  have hS : va_S A s.heap H locs := by rw [hH, hlo]; exact hS
  suffices hgo : W p l e (headSpec wsX1_greatestNumber ({ frames := 0, cells := 0, slots := 0, locals := 0 } : Room)).room s m _ below meth c H locs 0 0 _ (F0 m 0 ls []) by rw [hH, hlo] at hgo; exact hgo
  refine lv_iconst (v := (0 : Int32)) hx hb dX1_greatestNumber_0 (by decide) ?_
  refine lv_istore_n (lv' := [(1, .int (0 : Int32)), (0, .int p0)]) hx hb dX1_greatestNumber_1 rfl hl (by decide) rfl (fun ls hl => ?_)
  refine lv_iconst (v := (0 : Int32)) hx hb dX1_greatestNumber_2 (by decide) ?_
  refine lv_istore_n (lv' := [(2, .int (0 : Int32)), (1, .int (0 : Int32)), (0, .int p0)]) hx hb dX1_greatestNumber_3 rfl hl (by decide) rfl (fun ls hl => ?_)
  refine L4 p0 (20000) (0 : Int32) (0 : Int32) _ hw (fun x1_2 x2_3 hw H locs ls hP hD hS hl => ?_) H locs ls hP hD hS (lv_sub hl [0, 1, 2] rfl)
  refine lv_iload_n hx hb dX1_greatestNumber_21 rfl (lv_at hl 1 rfl) ?_
  exact W.iret (v := x1_2) hx hb hr (fun t ht hW => ⟨⟨x1_2, ([] : va_W), rfl, ⟨hw, rfl⟩, by rw [ht]; exact hP, va_K.moved hW.alike hK, hD⟩, hS.F ht⟩) hS.2.2 dX1_greatestNumber_22
