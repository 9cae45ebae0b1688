set_option maxHeartbeats 4000000 in
set_option maxRecDepth 100000 in
theorem c_X3_together (l : Launch) (dC : Nat → ClassId) (dI : Nat → Nat → Nat) (h0 hc w0 w1 hs : Nat) (cJ : ClassId) (σ : SO) (p0 : Int32) (post : Int32 → SO → Prop) (hw : wp_X3_together p0 σ post) : KI l yX3_together wsX3_together ({ frames := 4, cells := 0, slots := 0, locals := 88 } : Room) (dC, dI) [(cJ, .long)] (cl3 h0 hc w0 w1 hs cJ σ) [.ref h0, .int p0] (fun r u => ∃ σ', post r σ' ∧ u = (cl3 h0 hc w0 w1 hs cJ (σ'))) := by
  intro sz
  refine Met.ofW (cc := cX3_together) (maxL := 2) (ret := (some .int)) (by decide) rfl ?_
  intro p e s m args below meth c s₁ B hml hv
  obtain ⟨rfl, hsz, hP, hK, hD0, hnw⟩ := hv
  have hx := B.exec
  have hb := B.bytes
  have hr := B.returns
  have hts := atoms_spec (ws := wsX3_together) B.pre
  have hown : s.vm.findClass RX3 = some m.cls := findClass_of_methodNamed B.named
  have hlocks := B.notSynchronized
  subst hsz
  have hD := hD0.self (sz := s.heap.size)
  generalize hAe : va_A (cl3 h0 hc w0 w1 hs cJ σ) s.heap.size = A at hD ⊢
  have hA : ∀ q : Nat, s.heap.size ≤ q → A q := fun q h => by rw [← hAe]; exact Or.inr h
  have hS : va_S A s.heap s.heap [] := va_S.rf
  have hP : va_P (dC, dI) vwCl [(h0, .inr (2, [.ref hc, .ref hs])), (hc, .inr (0, [.ref w0, .ref w1, .int σ.1.1, .int σ.1.2.1, .int σ.1.2.2.1])), (w0, .inl (cJ, 512, .inr (.inl (σ.1.2.2.2.1)))), (w1, .inl (cJ, 9, .inr (.inl (σ.1.2.2.2.2)))), (hs, .inr (1, [.int σ.2.1, .int σ.2.2.1, .int σ.2.2.2.1, .int σ.2.2.2.2.1, .int σ.2.2.2.2.2.1, .int σ.2.2.2.2.2.2.1, .int σ.2.2.2.2.2.2.2.1, .int σ.2.2.2.2.2.2.2.2]))] s.heap := hP
  have hD : va_D A [(h0, .inr (2, [.ref hc, .ref hs])), (hc, .inr (0, [.ref w0, .ref w1, .int σ.1.1, .int σ.1.2.1, .int σ.1.2.2.1])), (w0, .inl (cJ, 512, .inr (.inl (σ.1.2.2.2.1)))), (w1, .inl (cJ, 9, .inr (.inl (σ.1.2.2.2.2)))), (hs, .inr (1, [.int σ.2.1, .int σ.2.2.1, .int σ.2.2.2.1, .int σ.2.2.2.2.1, .int σ.2.2.2.2.2.1, .int σ.2.2.2.2.2.2.1, .int σ.2.2.2.2.2.2.2.1, .int σ.2.2.2.2.2.2.2.2]))] := hD
  have fl_19 := hts (.fieldLink RX3 19 "OnePlaceEach" "stepped" "LOnePlaceEach$Stepped;") (by decide +kernel)
  have hin0 : ∀ w ∈ wsX30, w ∈ wsX3_together := by decide +kernel
  have hl := lv_entry ([.ref h0, .int p0]) (n := 2) (Nat.le_of_ble_eq_true rfl)
  rw [lg_entry_eq]
  generalize (lg_sl ([.ref h0, .int p0]) ++ List.replicate (2 - (lg_sl ([.ref h0, .int p0])).length) Slot.unset).toArray = ls at hl ⊢
  have hl : lv_has ls 2 [(0, .ref h0), (1, .int p0)] := hl
  unfold wp_X3_together at hw
  skip
  obtain ⟨H, hH⟩ : ∃ H, H = s.heap := ⟨_, rfl⟩
  obtain ⟨locs, hlo⟩ : ∃ q : List Loc, q = [] := ⟨_, rfl⟩
  rw [← hH] at hP
  have hS : va_S A s.heap H locs := by rw [hH, hlo]; exact hS
  suffices hgo : W p l e (headSpec wsX3_together ({ frames := 4, cells := 0, slots := 0, locals := 88 } : Room)).room s m _ below meth c H locs 0 0 _ (F0 m 0 ls []) by rw [hH, hlo] at hgo; exact hgo
  refine lv_iload_n hx hb dX3_together_0 rfl (lv_at hl 1 rfl) ?_
  refine lv_iconst (v := (1 : Int32)) hx hb dX3_together_1 (by decide) ?_
  refine lv_sipush (v := (1000 : Int32)) hx hb dX3_together_2 (by decide) ?_
  have hPc := hP.sub (ws' := ([] : va_W)) [] rfl
  have hDc := hD.sub (ws' := ([] : va_W)) [] (by decide) rfl
  have hKc := hK.sub (tys' := []) [] rfl
  have hFc := va_free (wc := ([] : va_W)) hD hS hA [] rfl
  refine kc_i (wr := [(h0, .inr (2, [.ref hc, .ref hs])), (hc, .inr (0, [.ref w0, .ref w1, .int σ.1.1, .int σ.1.2.1, .int σ.1.2.2.1])), (w0, .inl (cJ, 512, .inr (.inl (σ.1.2.2.2.1)))), (w1, .inl (cJ, 9, .inr (.inl (σ.1.2.2.2.2)))), (hs, .inr (1, [.int σ.2.1, .int σ.2.2.1, .int σ.2.2.2.1, .int σ.2.2.2.2.1, .int σ.2.2.2.2.2.1, .int σ.2.2.2.2.2.2.1, .int σ.2.2.2.2.2.2.2.1, .int σ.2.2.2.2.2.2.2.2]))]) (kr_S (As := [.int p0, .int (1 : Int32), .int (1000 : Int32)]) (rest := []) (ws := [(h0, .inr (2, [.ref hc, .ref hs])), (hc, .inr (0, [.ref w0, .ref w1, .int σ.1.1, .int σ.1.2.1, .int σ.1.2.2.1])), (w0, .inl (cJ, 512, .inr (.inl (σ.1.2.2.2.1)))), (w1, .inl (cJ, 9, .inr (.inl (σ.1.2.2.2.2)))), (hs, .inr (1, [.int σ.2.1, .int σ.2.2.1, .int σ.2.2.2.1, .int σ.2.2.2.2.1, .int σ.2.2.2.2.2.1, .int σ.2.2.2.2.2.2.1, .int σ.2.2.2.2.2.2.2.1, .int σ.2.2.2.2.2.2.2.2]))]) ⟨hx, hb, hml, hown, hts⟩ (c_X3_isWithin l dC dI   p0 (1 : Int32) (1000 : Int32) _ hw H.size) (va_cwS 3 hts gX3_together_X3_isWithin rfl rfl rfl (by decide +kernel) ⟨Nat.le_of_ble_eq_true rfl, Nat.le_of_ble_eq_true rfl⟩) hKc hnw hP hD hPc hDc rfl hl.1 rfl (Nat.le_of_ble_eq_true rfl) dX3_together_5 ⟨Nat.zero_le _, Nat.zero_le _⟩) hP hD hS hFc [] [0, 1, 2, 3, 4] rfl rfl (by decide) (by decide) (fun r1 u1 H locs hq hP hD hS => ?_)
  obtain ⟨hw, rfl⟩ := hq
  have hP : va_P (dC, dI) vwCl [(h0, .inr (2, [.ref hc, .ref hs])), (hc, .inr (0, [.ref w0, .ref w1, .int σ.1.1, .int σ.1.2.1, .int σ.1.2.2.1])), (w0, .inl (cJ, 512, .inr (.inl (σ.1.2.2.2.1)))), (w1, .inl (cJ, 9, .inr (.inl (σ.1.2.2.2.2)))), (hs, .inr (1, [.int σ.2.1, .int σ.2.2.1, .int σ.2.2.2.1, .int σ.2.2.2.2.1, .int σ.2.2.2.2.2.1, .int σ.2.2.2.2.2.2.1, .int σ.2.2.2.2.2.2.2.1, .int σ.2.2.2.2.2.2.2.2]))] H := hP
  have hD : va_D A [(h0, .inr (2, [.ref hc, .ref hs])), (hc, .inr (0, [.ref w0, .ref w1, .int σ.1.1, .int σ.1.2.1, .int σ.1.2.2.1])), (w0, .inl (cJ, 512, .inr (.inl (σ.1.2.2.2.1)))), (w1, .inl (cJ, 9, .inr (.inl (σ.1.2.2.2.2)))), (hs, .inr (1, [.int σ.2.1, .int σ.2.2.1, .int σ.2.2.2.1, .int σ.2.2.2.2.1, .int σ.2.2.2.2.2.1, .int σ.2.2.2.2.2.2.1, .int σ.2.2.2.2.2.2.2.1, .int σ.2.2.2.2.2.2.2.2]))] := hD
  refine lv_if_ne (tgt := 13) hx hb dX3_together_8 (by decide) (fun c3 => ?_) (fun c3 => ?_)
  · have hw := hw.1 c3
    refine lv_aload_n hx hb dX3_together_13 rfl (lv_at hl 0 rfl) ?_
    refine va_get (D := (dC, dI)) (ci := 2) (v := .ref hs) (C := RX3) (T := TX3) (N := 2) hx hb hts hin0 hown hK hP 0 rfl rfl 1 (by decide) fl_19 (fun _ h9 => h9) rfl dX3_together_14 ?_
    have hPc := hP.sub (ws' := [(hs, .inr (1, [.int σ.2.1, .int σ.2.2.1, .int σ.2.2.2.1, .int σ.2.2.2.2.1, .int σ.2.2.2.2.2.1, .int σ.2.2.2.2.2.2.1, .int σ.2.2.2.2.2.2.2.1, .int σ.2.2.2.2.2.2.2.2]))]) [4] rfl
    have hDc := hD.sub (ws' := [(hs, .inr (1, [.int σ.2.1, .int σ.2.2.1, .int σ.2.2.2.1, .int σ.2.2.2.2.1, .int σ.2.2.2.2.2.1, .int σ.2.2.2.2.2.2.1, .int σ.2.2.2.2.2.2.2.1, .int σ.2.2.2.2.2.2.2.2]))]) [4] (by decide) rfl
    have hKc := hK.sub (tys' := []) [] rfl
    have hFc := va_free (wc := [(hs, .inr (1, [.int σ.2.1, .int σ.2.2.1, .int σ.2.2.2.1, .int σ.2.2.2.2.1, .int σ.2.2.2.2.2.1, .int σ.2.2.2.2.2.2.1, .int σ.2.2.2.2.2.2.2.1, .int σ.2.2.2.2.2.2.2.2]))]) hD hS hA [4] rfl
    refine kc_i (wr := [(h0, .inr (2, [.ref hc, .ref hs])), (hc, .inr (0, [.ref w0, .ref w1, .int σ.1.1, .int σ.1.2.1, .int σ.1.2.2.1])), (w0, .inl (cJ, 512, .inr (.inl (σ.1.2.2.2.1)))), (w1, .inl (cJ, 9, .inr (.inl (σ.1.2.2.2.2))))]) (kr_V (As := []) (rest := []) (b := hs) (ws := [(h0, .inr (2, [.ref hc, .ref hs])), (hc, .inr (0, [.ref w0, .ref w1, .int σ.1.1, .int σ.1.2.1, .int σ.1.2.2.1])), (w0, .inl (cJ, 512, .inr (.inl (σ.1.2.2.2.1)))), (w1, .inl (cJ, 9, .inr (.inl (σ.1.2.2.2.2)))), (hs, .inr (1, [.int σ.2.1, .int σ.2.2.1, .int σ.2.2.2.1, .int σ.2.2.2.2.1, .int σ.2.2.2.2.2.1, .int σ.2.2.2.2.2.2.1, .int σ.2.2.2.2.2.2.2.1, .int σ.2.2.2.2.2.2.2.2]))]) ⟨hx, hb, hml, hown, hts⟩ (c_X2_isThere l dC dI hs σ.2  _ hw H.size) (cwV 0 hts gX3_together_X2_isThere rfl rfl rfl (by decide +kernel) ⟨Nat.le_of_ble_eq_true rfl, Nat.le_of_ble_eq_true rfl⟩) 1 4 hK rfl rfl rfl hKc hnw hP hD hPc hDc rfl hl.1 rfl (Nat.le_of_ble_eq_true rfl) dX3_together_17 ⟨Nat.zero_le _, Nat.zero_le _⟩) hP hD hS hFc [4] [0, 1, 2, 3] rfl rfl (by decide) (by decide) (fun r4 u1 H locs hq hP hD hS => ?_)
    obtain ⟨hw, rfl⟩ := hq
    have hP : va_P (dC, dI) vwCl [(h0, .inr (2, [.ref hc, .ref hs])), (hc, .inr (0, [.ref w0, .ref w1, .int σ.1.1, .int σ.1.2.1, .int σ.1.2.2.1])), (w0, .inl (cJ, 512, .inr (.inl (σ.1.2.2.2.1)))), (w1, .inl (cJ, 9, .inr (.inl (σ.1.2.2.2.2)))), (hs, .inr (1, [.int σ.2.1, .int σ.2.2.1, .int σ.2.2.2.1, .int σ.2.2.2.2.1, .int σ.2.2.2.2.2.1, .int σ.2.2.2.2.2.2.1, .int σ.2.2.2.2.2.2.2.1, .int σ.2.2.2.2.2.2.2.2]))] H := hP
    have hD : va_D A [(h0, .inr (2, [.ref hc, .ref hs])), (hc, .inr (0, [.ref w0, .ref w1, .int σ.1.1, .int σ.1.2.1, .int σ.1.2.2.1])), (w0, .inl (cJ, 512, .inr (.inl (σ.1.2.2.2.1)))), (w1, .inl (cJ, 9, .inr (.inl (σ.1.2.2.2.2)))), (hs, .inr (1, [.int σ.2.1, .int σ.2.2.1, .int σ.2.2.2.1, .int σ.2.2.2.2.1, .int σ.2.2.2.2.2.1, .int σ.2.2.2.2.2.2.1, .int σ.2.2.2.2.2.2.2.1, .int σ.2.2.2.2.2.2.2.2]))] := hD
    refine lv_if_eq (tgt := 34) hx hb dX3_together_20 (by decide) (fun c6 => ?_) (fun c6 => ?_)
    · have hw := hw.1 c6
      refine lv_bipush (v := (-2 : Int32)) hx hb dX3_together_34 (by decide) ?_
      exact W.iret (v := (-2 : Int32)) hx hb hr (fun t ht hW => ⟨⟨(-2 : Int32), ((cl3 h0 hc w0 w1 hs cJ σ)), rfl, ⟨σ, hw, rfl⟩, by rw [ht]; exact hP, va_K.moved hW.alike hK, hD⟩, hS.F ht⟩) hS.2.2 dX3_together_36
    · have hw := hw.2 c6
      refine lv_aload_n hx hb dX3_together_23 rfl (lv_at hl 0 rfl) ?_
      refine va_get (D := (dC, dI)) (ci := 2) (v := .ref hs) (C := RX3) (T := TX3) (N := 2) hx hb hts hin0 hown hK hP 0 rfl rfl 1 (by decide) fl_19 (fun _ h9 => h9) rfl dX3_together_24 ?_
      refine lv_iconst (v := (2 : Int32)) hx hb dX3_together_27 (by decide) ?_
      have hPc := hP.sub (ws' := [(hs, .inr (1, [.int σ.2.1, .int σ.2.2.1, .int σ.2.2.2.1, .int σ.2.2.2.2.1, .int σ.2.2.2.2.2.1, .int σ.2.2.2.2.2.2.1, .int σ.2.2.2.2.2.2.2.1, .int σ.2.2.2.2.2.2.2.2]))]) [4] rfl
      have hDc := hD.sub (ws' := [(hs, .inr (1, [.int σ.2.1, .int σ.2.2.1, .int σ.2.2.2.1, .int σ.2.2.2.2.1, .int σ.2.2.2.2.2.1, .int σ.2.2.2.2.2.2.1, .int σ.2.2.2.2.2.2.2.1, .int σ.2.2.2.2.2.2.2.2]))]) [4] (by decide) rfl
      have hKc := hK.sub (tys' := []) [] rfl
      have hFc := va_free (wc := [(hs, .inr (1, [.int σ.2.1, .int σ.2.2.1, .int σ.2.2.2.1, .int σ.2.2.2.2.1, .int σ.2.2.2.2.2.1, .int σ.2.2.2.2.2.2.1, .int σ.2.2.2.2.2.2.2.1, .int σ.2.2.2.2.2.2.2.2]))]) hD hS hA [4] rfl
      refine kc_i (wr := [(h0, .inr (2, [.ref hc, .ref hs])), (hc, .inr (0, [.ref w0, .ref w1, .int σ.1.1, .int σ.1.2.1, .int σ.1.2.2.1])), (w0, .inl (cJ, 512, .inr (.inl (σ.1.2.2.2.1)))), (w1, .inl (cJ, 9, .inr (.inl (σ.1.2.2.2.2))))]) (kr_V (As := [.int (2 : Int32)]) (rest := []) (b := hs) (ws := [(h0, .inr (2, [.ref hc, .ref hs])), (hc, .inr (0, [.ref w0, .ref w1, .int σ.1.1, .int σ.1.2.1, .int σ.1.2.2.1])), (w0, .inl (cJ, 512, .inr (.inl (σ.1.2.2.2.1)))), (w1, .inl (cJ, 9, .inr (.inl (σ.1.2.2.2.2)))), (hs, .inr (1, [.int σ.2.1, .int σ.2.2.1, .int σ.2.2.2.1, .int σ.2.2.2.2.1, .int σ.2.2.2.2.2.1, .int σ.2.2.2.2.2.2.1, .int σ.2.2.2.2.2.2.2.1, .int σ.2.2.2.2.2.2.2.2]))]) ⟨hx, hb, hml, hown, hts⟩ (c_X2_countOfSort l dC dI hs σ.2 (2 : Int32) _ hw H.size) (cwV 1 hts gX3_together_X2_countOfSort rfl rfl rfl (by decide +kernel) ⟨Nat.le_of_ble_eq_true rfl, Nat.le_of_ble_eq_true rfl⟩) 1 4 hK rfl rfl rfl hKc hnw hP hD hPc hDc rfl hl.1 rfl (Nat.le_of_ble_eq_true rfl) dX3_together_28 ⟨Nat.zero_le _, Nat.zero_le _⟩) hP hD hS hFc [4] [0, 1, 2, 3] rfl rfl (by decide) (by decide) (fun r7 u1 H locs hq hP hD hS => ?_)
      obtain ⟨hw, rfl⟩ := hq
      have hP : va_P (dC, dI) vwCl [(h0, .inr (2, [.ref hc, .ref hs])), (hc, .inr (0, [.ref w0, .ref w1, .int σ.1.1, .int σ.1.2.1, .int σ.1.2.2.1])), (w0, .inl (cJ, 512, .inr (.inl (σ.1.2.2.2.1)))), (w1, .inl (cJ, 9, .inr (.inl (σ.1.2.2.2.2)))), (hs, .inr (1, [.int σ.2.1, .int σ.2.2.1, .int σ.2.2.2.1, .int σ.2.2.2.2.1, .int σ.2.2.2.2.2.1, .int σ.2.2.2.2.2.2.1, .int σ.2.2.2.2.2.2.2.1, .int σ.2.2.2.2.2.2.2.2]))] H := hP
      have hD : va_D A [(h0, .inr (2, [.ref hc, .ref hs])), (hc, .inr (0, [.ref w0, .ref w1, .int σ.1.1, .int σ.1.2.1, .int σ.1.2.2.1])), (w0, .inl (cJ, 512, .inr (.inl (σ.1.2.2.2.1)))), (w1, .inl (cJ, 9, .inr (.inl (σ.1.2.2.2.2)))), (hs, .inr (1, [.int σ.2.1, .int σ.2.2.1, .int σ.2.2.2.1, .int σ.2.2.2.2.1, .int σ.2.2.2.2.2.1, .int σ.2.2.2.2.2.2.1, .int σ.2.2.2.2.2.2.2.1, .int σ.2.2.2.2.2.2.2.2]))] := hD
      refine lv_if_le (tgt := 37) hx hb dX3_together_31 (by decide) (fun c9 => ?_) (fun c9 => ?_)
      · have hw := hw.1 c9
        refine lv_aload_n hx hb dX3_together_37 rfl (lv_at hl 0 rfl) ?_
        refine va_get (D := (dC, dI)) (ci := 2) (v := .ref hs) (C := RX3) (T := TX3) (N := 2) hx hb hts hin0 hown hK hP 0 rfl rfl 1 (by decide) fl_19 (fun _ h9 => h9) rfl dX3_together_38 ?_
        refine lv_iload_n hx hb dX3_together_41 rfl (lv_at hl 1 rfl) ?_
        have hPc := hP.sub (ws' := [(hs, .inr (1, [.int σ.2.1, .int σ.2.2.1, .int σ.2.2.2.1, .int σ.2.2.2.2.1, .int σ.2.2.2.2.2.1, .int σ.2.2.2.2.2.2.1, .int σ.2.2.2.2.2.2.2.1, .int σ.2.2.2.2.2.2.2.2]))]) [4] rfl
        have hDc := hD.sub (ws' := [(hs, .inr (1, [.int σ.2.1, .int σ.2.2.1, .int σ.2.2.2.1, .int σ.2.2.2.2.1, .int σ.2.2.2.2.2.1, .int σ.2.2.2.2.2.2.1, .int σ.2.2.2.2.2.2.2.1, .int σ.2.2.2.2.2.2.2.2]))]) [4] (by decide) rfl
        have hKc := hK.sub (tys' := []) [] rfl
        have hFc := va_free (wc := [(hs, .inr (1, [.int σ.2.1, .int σ.2.2.1, .int σ.2.2.2.1, .int σ.2.2.2.2.1, .int σ.2.2.2.2.2.1, .int σ.2.2.2.2.2.2.1, .int σ.2.2.2.2.2.2.2.1, .int σ.2.2.2.2.2.2.2.2]))]) hD hS hA [4] rfl
        refine kc_i (wr := [(h0, .inr (2, [.ref hc, .ref hs])), (hc, .inr (0, [.ref w0, .ref w1, .int σ.1.1, .int σ.1.2.1, .int σ.1.2.2.1])), (w0, .inl (cJ, 512, .inr (.inl (σ.1.2.2.2.1)))), (w1, .inl (cJ, 9, .inr (.inl (σ.1.2.2.2.2))))]) (kr_V (As := [.int p0]) (rest := []) (b := hs) (ws := [(h0, .inr (2, [.ref hc, .ref hs])), (hc, .inr (0, [.ref w0, .ref w1, .int σ.1.1, .int σ.1.2.1, .int σ.1.2.2.1])), (w0, .inl (cJ, 512, .inr (.inl (σ.1.2.2.2.1)))), (w1, .inl (cJ, 9, .inr (.inl (σ.1.2.2.2.2)))), (hs, .inr (1, [.int σ.2.1, .int σ.2.2.1, .int σ.2.2.2.1, .int σ.2.2.2.2.1, .int σ.2.2.2.2.2.1, .int σ.2.2.2.2.2.2.1, .int σ.2.2.2.2.2.2.2.1, .int σ.2.2.2.2.2.2.2.2]))]) ⟨hx, hb, hml, hown, hts⟩ (c_X2_stepAllAtOnce l dC dI hs σ.2 p0 _ hw H.size) (cwV 1 hts gX3_together_X2_stepAllAtOnce rfl rfl rfl (by decide +kernel) ⟨Nat.le_of_ble_eq_true rfl, Nat.le_of_ble_eq_true rfl⟩) 1 4 hK rfl rfl rfl hKc hnw hP hD hPc hDc rfl hl.1 rfl (Nat.le_of_ble_eq_true rfl) dX3_together_42 ⟨Nat.zero_le _, Nat.zero_le _⟩) hP hD hS hFc [4] [0, 1, 2, 3] rfl rfl (by decide) (by decide) (fun r10 u1 H locs hq hP hD hS => ?_)
        obtain ⟨σ11, hw, rfl⟩ := hq
        have hP : va_P (dC, dI) vwCl [(h0, .inr (2, [.ref hc, .ref hs])), (hc, .inr (0, [.ref w0, .ref w1, .int σ.1.1, .int σ.1.2.1, .int σ.1.2.2.1])), (w0, .inl (cJ, 512, .inr (.inl (σ.1.2.2.2.1)))), (w1, .inl (cJ, 9, .inr (.inl (σ.1.2.2.2.2)))), (hs, .inr (1, [.int σ11.1, .int σ11.2.1, .int σ11.2.2.1, .int σ11.2.2.2.1, .int σ11.2.2.2.2.1, .int σ11.2.2.2.2.2.1, .int σ11.2.2.2.2.2.2.1, .int σ11.2.2.2.2.2.2.2]))] H := hP
        have hD : va_D A [(h0, .inr (2, [.ref hc, .ref hs])), (hc, .inr (0, [.ref w0, .ref w1, .int σ.1.1, .int σ.1.2.1, .int σ.1.2.2.1])), (w0, .inl (cJ, 512, .inr (.inl (σ.1.2.2.2.1)))), (w1, .inl (cJ, 9, .inr (.inl (σ.1.2.2.2.2)))), (hs, .inr (1, [.int σ11.1, .int σ11.2.1, .int σ11.2.2.1, .int σ11.2.2.2.1, .int σ11.2.2.2.2.1, .int σ11.2.2.2.2.2.1, .int σ11.2.2.2.2.2.2.1, .int σ11.2.2.2.2.2.2.2]))] := hD
        exact W.iret (v := r10) hx hb hr (fun t ht hW => ⟨⟨r10, ((cl3 h0 hc w0 w1 hs cJ (σ.1, σ11))), rfl, ⟨(σ.1, σ11), hw, rfl⟩, by rw [ht]; exact hP, va_K.moved hW.alike hK, hD⟩, hS.F ht⟩) hS.2.2 dX3_together_45
      · have hw := hw.2 c9
        refine lv_bipush (v := (-2 : Int32)) hx hb dX3_together_34 (by decide) ?_
        exact W.iret (v := (-2 : Int32)) hx hb hr (fun t ht hW => ⟨⟨(-2 : Int32), ((cl3 h0 hc w0 w1 hs cJ σ)), rfl, ⟨σ, hw, rfl⟩, by rw [ht]; exact hP, va_K.moved hW.alike hK, hD⟩, hS.F ht⟩) hS.2.2 dX3_together_36
  · have hw := hw.2 c3
    refine lv_iconst (v := (-1 : Int32)) hx hb dX3_together_11 (by decide) ?_
    exact W.iret (v := (-1 : Int32)) hx hb hr (fun t ht hW => ⟨⟨(-1 : Int32), ((cl3 h0 hc w0 w1 hs cJ σ)), rfl, ⟨σ, hw, rfl⟩, by rw [ht]; exact hP, va_K.moved hW.alike hK, hD⟩, hS.F ht⟩) hS.2.2 dX3_together_12
set_option maxHeartbeats 4000000 in
set_option maxRecDepth 100000 in
theorem c_X3_at (l : Launch) (dC : Nat → ClassId) (dI : Nat → Nat → Nat) (h0 hc w0 w1 hs : Nat) (cJ : ClassId) (σ : SO) (p0 : Int32) (post : Int32 → Prop) (hw : wp_X3_at p0 σ post) : KI l yX3_at wsX3_at ({ frames := 2, cells := 0, slots := 0, locals := 42 } : Room) (dC, dI) [(cJ, .long)] (cl3 h0 hc w0 w1 hs cJ σ) [.ref h0, .int p0] (fun r u => post r ∧ u = (cl3 h0 hc w0 w1 hs cJ σ)) := by
  intro sz
  refine Met.ofW (cc := cX3_at) (maxL := 2) (ret := (some .int)) (by decide) rfl ?_
  intro p e s m args below meth c s₁ B hml hv
  obtain ⟨rfl, hsz, hP, hK, hD0, hnw⟩ := hv
  have hx := B.exec
  have hb := B.bytes
  have hr := B.returns
  have hts := atoms_spec (ws := wsX3_at) B.pre
  have hown : s.vm.findClass RX3 = some m.cls := findClass_of_methodNamed B.named
  have hlocks := B.notSynchronized
  subst hsz
  have hD := hD0.self (sz := s.heap.size)
  generalize hAe : va_A (cl3 h0 hc w0 w1 hs cJ σ) s.heap.size = A at hD ⊢
  have hA : ∀ q : Nat, s.heap.size ≤ q → A q := fun q h => by rw [← hAe]; exact Or.inr h
  have hS : va_S A s.heap s.heap [] := va_S.rf
  have hP : va_P (dC, dI) vwCl [(h0, .inr (2, [.ref hc, .ref hs])), (hc, .inr (0, [.ref w0, .ref w1, .int σ.1.1, .int σ.1.2.1, .int σ.1.2.2.1])), (w0, .inl (cJ, 512, .inr (.inl (σ.1.2.2.2.1)))), (w1, .inl (cJ, 9, .inr (.inl (σ.1.2.2.2.2)))), (hs, .inr (1, [.int σ.2.1, .int σ.2.2.1, .int σ.2.2.2.1, .int σ.2.2.2.2.1, .int σ.2.2.2.2.2.1, .int σ.2.2.2.2.2.2.1, .int σ.2.2.2.2.2.2.2.1, .int σ.2.2.2.2.2.2.2.2]))] s.heap := hP
  have hD : va_D A [(h0, .inr (2, [.ref hc, .ref hs])), (hc, .inr (0, [.ref w0, .ref w1, .int σ.1.1, .int σ.1.2.1, .int σ.1.2.2.1])), (w0, .inl (cJ, 512, .inr (.inl (σ.1.2.2.2.1)))), (w1, .inl (cJ, 9, .inr (.inl (σ.1.2.2.2.2)))), (hs, .inr (1, [.int σ.2.1, .int σ.2.2.1, .int σ.2.2.2.1, .int σ.2.2.2.2.1, .int σ.2.2.2.2.2.1, .int σ.2.2.2.2.2.2.1, .int σ.2.2.2.2.2.2.2.1, .int σ.2.2.2.2.2.2.2.2]))] := hD
  have fl_19 := hts (.fieldLink RX3 19 "OnePlaceEach" "stepped" "LOnePlaceEach$Stepped;") (by decide +kernel)
  have hin0 : ∀ w ∈ wsX30, w ∈ wsX3_at := by decide +kernel
  have hl := lv_entry ([.ref h0, .int p0]) (n := 2) (Nat.le_of_ble_eq_true rfl)
  rw [lg_entry_eq]
  generalize (lg_sl ([.ref h0, .int p0]) ++ List.replicate (2 - (lg_sl ([.ref h0, .int p0])).length) Slot.unset).toArray = ls at hl ⊢
  have hl : lv_has ls 2 [(0, .ref h0), (1, .int p0)] := hl
  unfold wp_X3_at at hw
  skip
  obtain ⟨H, hH⟩ : ∃ H, H = s.heap := ⟨_, rfl⟩
  obtain ⟨locs, hlo⟩ : ∃ q : List Loc, q = [] := ⟨_, rfl⟩
  rw [← hH] at hP
  have hS : va_S A s.heap H locs := by rw [hH, hlo]; exact hS
  suffices hgo : W p l e (headSpec wsX3_at ({ frames := 2, cells := 0, slots := 0, locals := 42 } : Room)).room s m _ below meth c H locs 0 0 _ (F0 m 0 ls []) by rw [hH, hlo] at hgo; exact hgo
  refine lv_aload_n hx hb dX3_at_0 rfl (lv_at hl 0 rfl) ?_
  refine va_get (D := (dC, dI)) (ci := 2) (v := .ref hs) (C := RX3) (T := TX3) (N := 2) hx hb hts hin0 hown hK hP 0 rfl rfl 1 (by decide) fl_19 (fun _ h9 => h9) rfl dX3_at_1 ?_
  refine lv_iload_n hx hb dX3_at_4 rfl (lv_at hl 1 rfl) ?_
  have hPc := hP.sub (ws' := [(hs, .inr (1, [.int σ.2.1, .int σ.2.2.1, .int σ.2.2.2.1, .int σ.2.2.2.2.1, .int σ.2.2.2.2.2.1, .int σ.2.2.2.2.2.2.1, .int σ.2.2.2.2.2.2.2.1, .int σ.2.2.2.2.2.2.2.2]))]) [4] rfl
  have hDc := hD.sub (ws' := [(hs, .inr (1, [.int σ.2.1, .int σ.2.2.1, .int σ.2.2.2.1, .int σ.2.2.2.2.1, .int σ.2.2.2.2.2.1, .int σ.2.2.2.2.2.2.1, .int σ.2.2.2.2.2.2.2.1, .int σ.2.2.2.2.2.2.2.2]))]) [4] (by decide) rfl
  have hKc := hK.sub (tys' := []) [] rfl
  have hFc := va_free (wc := [(hs, .inr (1, [.int σ.2.1, .int σ.2.2.1, .int σ.2.2.2.1, .int σ.2.2.2.2.1, .int σ.2.2.2.2.2.1, .int σ.2.2.2.2.2.2.1, .int σ.2.2.2.2.2.2.2.1, .int σ.2.2.2.2.2.2.2.2]))]) hD hS hA [4] rfl
  refine kc_i (wr := [(h0, .inr (2, [.ref hc, .ref hs])), (hc, .inr (0, [.ref w0, .ref w1, .int σ.1.1, .int σ.1.2.1, .int σ.1.2.2.1])), (w0, .inl (cJ, 512, .inr (.inl (σ.1.2.2.2.1)))), (w1, .inl (cJ, 9, .inr (.inl (σ.1.2.2.2.2))))]) (kr_V (As := [.int p0]) (rest := []) (b := hs) (ws := [(h0, .inr (2, [.ref hc, .ref hs])), (hc, .inr (0, [.ref w0, .ref w1, .int σ.1.1, .int σ.1.2.1, .int σ.1.2.2.1])), (w0, .inl (cJ, 512, .inr (.inl (σ.1.2.2.2.1)))), (w1, .inl (cJ, 9, .inr (.inl (σ.1.2.2.2.2)))), (hs, .inr (1, [.int σ.2.1, .int σ.2.2.1, .int σ.2.2.2.1, .int σ.2.2.2.2.1, .int σ.2.2.2.2.2.1, .int σ.2.2.2.2.2.2.1, .int σ.2.2.2.2.2.2.2.1, .int σ.2.2.2.2.2.2.2.2]))]) ⟨hx, hb, hml, hown, hts⟩ (c_X2_mayHavePlace l dC dI hs σ.2 p0 _ hw H.size) (cwV 1 hts gX3_at_X2_mayHavePlace rfl rfl rfl (by decide +kernel) ⟨Nat.le_of_ble_eq_true rfl, Nat.le_of_ble_eq_true rfl⟩) 1 4 hK rfl rfl rfl hKc hnw hP hD hPc hDc rfl hl.1 rfl (Nat.le_of_ble_eq_true rfl) dX3_at_5 ⟨Nat.zero_le _, Nat.zero_le _⟩) hP hD hS hFc [4] [0, 1, 2, 3] rfl rfl (by decide) (by decide) (fun r1 u1 H locs hq hP hD hS => ?_)
  obtain ⟨hw, rfl⟩ := hq
  have hP : va_P (dC, dI) vwCl [(h0, .inr (2, [.ref hc, .ref hs])), (hc, .inr (0, [.ref w0, .ref w1, .int σ.1.1, .int σ.1.2.1, .int σ.1.2.2.1])), (w0, .inl (cJ, 512, .inr (.inl (σ.1.2.2.2.1)))), (w1, .inl (cJ, 9, .inr (.inl (σ.1.2.2.2.2)))), (hs, .inr (1, [.int σ.2.1, .int σ.2.2.1, .int σ.2.2.2.1, .int σ.2.2.2.2.1, .int σ.2.2.2.2.2.1, .int σ.2.2.2.2.2.2.1, .int σ.2.2.2.2.2.2.2.1, .int σ.2.2.2.2.2.2.2.2]))] H := hP
  have hD : va_D A [(h0, .inr (2, [.ref hc, .ref hs])), (hc, .inr (0, [.ref w0, .ref w1, .int σ.1.1, .int σ.1.2.1, .int σ.1.2.2.1])), (w0, .inl (cJ, 512, .inr (.inl (σ.1.2.2.2.1)))), (w1, .inl (cJ, 9, .inr (.inl (σ.1.2.2.2.2)))), (hs, .inr (1, [.int σ.2.1, .int σ.2.2.1, .int σ.2.2.2.1, .int σ.2.2.2.2.1, .int σ.2.2.2.2.2.1, .int σ.2.2.2.2.2.2.1, .int σ.2.2.2.2.2.2.2.1, .int σ.2.2.2.2.2.2.2.2]))] := hD
  refine lv_if_ne (tgt := 13) hx hb dX3_at_8 (by decide) (fun c3 => ?_) (fun c3 => ?_)
  · have hw := hw.1 c3
    refine lv_aload_n hx hb dX3_at_13 rfl (lv_at hl 0 rfl) ?_
    refine va_get (D := (dC, dI)) (ci := 2) (v := .ref hs) (C := RX3) (T := TX3) (N := 2) hx hb hts hin0 hown hK hP 0 rfl rfl 1 (by decide) fl_19 (fun _ h9 => h9) rfl dX3_at_14 ?_
    have hPc := hP.sub (ws' := [(hs, .inr (1, [.int σ.2.1, .int σ.2.2.1, .int σ.2.2.2.1, .int σ.2.2.2.2.1, .int σ.2.2.2.2.2.1, .int σ.2.2.2.2.2.2.1, .int σ.2.2.2.2.2.2.2.1, .int σ.2.2.2.2.2.2.2.2]))]) [4] rfl
    have hDc := hD.sub (ws' := [(hs, .inr (1, [.int σ.2.1, .int σ.2.2.1, .int σ.2.2.2.1, .int σ.2.2.2.2.1, .int σ.2.2.2.2.2.1, .int σ.2.2.2.2.2.2.1, .int σ.2.2.2.2.2.2.2.1, .int σ.2.2.2.2.2.2.2.2]))]) [4] (by decide) rfl
    have hKc := hK.sub (tys' := []) [] rfl
    have hFc := va_free (wc := [(hs, .inr (1, [.int σ.2.1, .int σ.2.2.1, .int σ.2.2.2.1, .int σ.2.2.2.2.1, .int σ.2.2.2.2.2.1, .int σ.2.2.2.2.2.2.1, .int σ.2.2.2.2.2.2.2.1, .int σ.2.2.2.2.2.2.2.2]))]) hD hS hA [4] rfl
    refine kc_i (wr := [(h0, .inr (2, [.ref hc, .ref hs])), (hc, .inr (0, [.ref w0, .ref w1, .int σ.1.1, .int σ.1.2.1, .int σ.1.2.2.1])), (w0, .inl (cJ, 512, .inr (.inl (σ.1.2.2.2.1)))), (w1, .inl (cJ, 9, .inr (.inl (σ.1.2.2.2.2))))]) (kr_V (As := []) (rest := []) (b := hs) (ws := [(h0, .inr (2, [.ref hc, .ref hs])), (hc, .inr (0, [.ref w0, .ref w1, .int σ.1.1, .int σ.1.2.1, .int σ.1.2.2.1])), (w0, .inl (cJ, 512, .inr (.inl (σ.1.2.2.2.1)))), (w1, .inl (cJ, 9, .inr (.inl (σ.1.2.2.2.2)))), (hs, .inr (1, [.int σ.2.1, .int σ.2.2.1, .int σ.2.2.2.1, .int σ.2.2.2.2.1, .int σ.2.2.2.2.2.1, .int σ.2.2.2.2.2.2.1, .int σ.2.2.2.2.2.2.2.1, .int σ.2.2.2.2.2.2.2.2]))]) ⟨hx, hb, hml, hown, hts⟩ (c_X2_isThere l dC dI hs σ.2  _ hw H.size) (cwV 0 hts gX3_at_X2_isThere rfl rfl rfl (by decide +kernel) ⟨Nat.le_of_ble_eq_true rfl, Nat.le_of_ble_eq_true rfl⟩) 1 4 hK rfl rfl rfl hKc hnw hP hD hPc hDc rfl hl.1 rfl (Nat.le_of_ble_eq_true rfl) dX3_at_17 ⟨Nat.zero_le _, Nat.zero_le _⟩) hP hD hS hFc [4] [0, 1, 2, 3] rfl rfl (by decide) (by decide) (fun r4 u1 H locs hq hP hD hS => ?_)
    obtain ⟨hw, rfl⟩ := hq
    have hP : va_P (dC, dI) vwCl [(h0, .inr (2, [.ref hc, .ref hs])), (hc, .inr (0, [.ref w0, .ref w1, .int σ.1.1, .int σ.1.2.1, .int σ.1.2.2.1])), (w0, .inl (cJ, 512, .inr (.inl (σ.1.2.2.2.1)))), (w1, .inl (cJ, 9, .inr (.inl (σ.1.2.2.2.2)))), (hs, .inr (1, [.int σ.2.1, .int σ.2.2.1, .int σ.2.2.2.1, .int σ.2.2.2.2.1, .int σ.2.2.2.2.2.1, .int σ.2.2.2.2.2.2.1, .int σ.2.2.2.2.2.2.2.1, .int σ.2.2.2.2.2.2.2.2]))] H := hP
    have hD : va_D A [(h0, .inr (2, [.ref hc, .ref hs])), (hc, .inr (0, [.ref w0, .ref w1, .int σ.1.1, .int σ.1.2.1, .int σ.1.2.2.1])), (w0, .inl (cJ, 512, .inr (.inl (σ.1.2.2.2.1)))), (w1, .inl (cJ, 9, .inr (.inl (σ.1.2.2.2.2)))), (hs, .inr (1, [.int σ.2.1, .int σ.2.2.1, .int σ.2.2.2.1, .int σ.2.2.2.2.1, .int σ.2.2.2.2.2.1, .int σ.2.2.2.2.2.2.1, .int σ.2.2.2.2.2.2.2.1, .int σ.2.2.2.2.2.2.2.2]))] := hD
    refine lv_if_eq (tgt := 34) hx hb dX3_at_20 (by decide) (fun c6 => ?_) (fun c6 => ?_)
    · have hw := hw.1 c6
      refine lv_bipush (v := (-2 : Int32)) hx hb dX3_at_34 (by decide) ?_
      exact W.iret (v := (-2 : Int32)) hx hb hr (fun t ht hW => ⟨⟨(-2 : Int32), ((cl3 h0 hc w0 w1 hs cJ σ)), rfl, ⟨hw, rfl⟩, by rw [ht]; exact hP, va_K.moved hW.alike hK, hD⟩, hS.F ht⟩) hS.2.2 dX3_at_36
    · have hw := hw.2 c6
      refine lv_aload_n hx hb dX3_at_23 rfl (lv_at hl 0 rfl) ?_
      refine va_get (D := (dC, dI)) (ci := 2) (v := .ref hs) (C := RX3) (T := TX3) (N := 2) hx hb hts hin0 hown hK hP 0 rfl rfl 1 (by decide) fl_19 (fun _ h9 => h9) rfl dX3_at_24 ?_
      refine lv_iload_n hx hb dX3_at_27 rfl (lv_at hl 1 rfl) ?_
      have hPc := hP.sub (ws' := [(hs, .inr (1, [.int σ.2.1, .int σ.2.2.1, .int σ.2.2.2.1, .int σ.2.2.2.2.1, .int σ.2.2.2.2.2.1, .int σ.2.2.2.2.2.2.1, .int σ.2.2.2.2.2.2.2.1, .int σ.2.2.2.2.2.2.2.2]))]) [4] rfl
      have hDc := hD.sub (ws' := [(hs, .inr (1, [.int σ.2.1, .int σ.2.2.1, .int σ.2.2.2.1, .int σ.2.2.2.2.1, .int σ.2.2.2.2.2.1, .int σ.2.2.2.2.2.2.1, .int σ.2.2.2.2.2.2.2.1, .int σ.2.2.2.2.2.2.2.2]))]) [4] (by decide) rfl
      have hKc := hK.sub (tys' := []) [] rfl
      have hFc := va_free (wc := [(hs, .inr (1, [.int σ.2.1, .int σ.2.2.1, .int σ.2.2.2.1, .int σ.2.2.2.2.1, .int σ.2.2.2.2.2.1, .int σ.2.2.2.2.2.2.1, .int σ.2.2.2.2.2.2.2.1, .int σ.2.2.2.2.2.2.2.2]))]) hD hS hA [4] rfl
      refine kc_i (wr := [(h0, .inr (2, [.ref hc, .ref hs])), (hc, .inr (0, [.ref w0, .ref w1, .int σ.1.1, .int σ.1.2.1, .int σ.1.2.2.1])), (w0, .inl (cJ, 512, .inr (.inl (σ.1.2.2.2.1)))), (w1, .inl (cJ, 9, .inr (.inl (σ.1.2.2.2.2))))]) (kr_V (As := [.int p0]) (rest := []) (b := hs) (ws := [(h0, .inr (2, [.ref hc, .ref hs])), (hc, .inr (0, [.ref w0, .ref w1, .int σ.1.1, .int σ.1.2.1, .int σ.1.2.2.1])), (w0, .inl (cJ, 512, .inr (.inl (σ.1.2.2.2.1)))), (w1, .inl (cJ, 9, .inr (.inl (σ.1.2.2.2.2)))), (hs, .inr (1, [.int σ.2.1, .int σ.2.2.1, .int σ.2.2.2.1, .int σ.2.2.2.2.1, .int σ.2.2.2.2.2.1, .int σ.2.2.2.2.2.2.1, .int σ.2.2.2.2.2.2.2.1, .int σ.2.2.2.2.2.2.2.2]))]) ⟨hx, hb, hml, hown, hts⟩ (c_X2_sortAt l dC dI hs σ.2 p0 _ hw H.size) (cwV 1 hts gX3_at_X2_sortAt rfl rfl rfl (by decide +kernel) ⟨Nat.le_of_ble_eq_true rfl, Nat.le_of_ble_eq_true rfl⟩) 1 4 hK rfl rfl rfl hKc hnw hP hD hPc hDc rfl hl.1 rfl (Nat.le_of_ble_eq_true rfl) dX3_at_28 ⟨Nat.zero_le _, Nat.zero_le _⟩) hP hD hS hFc [4] [0, 1, 2, 3] rfl rfl (by decide) (by decide) (fun r7 u1 H locs hq hP hD hS => ?_)
      obtain ⟨hw, rfl⟩ := hq
      have hP : va_P (dC, dI) vwCl [(h0, .inr (2, [.ref hc, .ref hs])), (hc, .inr (0, [.ref w0, .ref w1, .int σ.1.1, .int σ.1.2.1, .int σ.1.2.2.1])), (w0, .inl (cJ, 512, .inr (.inl (σ.1.2.2.2.1)))), (w1, .inl (cJ, 9, .inr (.inl (σ.1.2.2.2.2)))), (hs, .inr (1, [.int σ.2.1, .int σ.2.2.1, .int σ.2.2.2.1, .int σ.2.2.2.2.1, .int σ.2.2.2.2.2.1, .int σ.2.2.2.2.2.2.1, .int σ.2.2.2.2.2.2.2.1, .int σ.2.2.2.2.2.2.2.2]))] H := hP
      have hD : va_D A [(h0, .inr (2, [.ref hc, .ref hs])), (hc, .inr (0, [.ref w0, .ref w1, .int σ.1.1, .int σ.1.2.1, .int σ.1.2.2.1])), (w0, .inl (cJ, 512, .inr (.inl (σ.1.2.2.2.1)))), (w1, .inl (cJ, 9, .inr (.inl (σ.1.2.2.2.2)))), (hs, .inr (1, [.int σ.2.1, .int σ.2.2.1, .int σ.2.2.2.1, .int σ.2.2.2.2.1, .int σ.2.2.2.2.2.1, .int σ.2.2.2.2.2.2.1, .int σ.2.2.2.2.2.2.2.1, .int σ.2.2.2.2.2.2.2.2]))] := hD
      refine lv_goto (tgt := 36) hx hb dX3_at_31 (by decide) ?_
      exact W.iret (v := r7) hx hb hr (fun t ht hW => ⟨⟨r7, ((cl3 h0 hc w0 w1 hs cJ σ)), rfl, ⟨hw, rfl⟩, by rw [ht]; exact hP, va_K.moved hW.alike hK, hD⟩, hS.F ht⟩) hS.2.2 dX3_at_36
  · have hw := hw.2 c3
    refine lv_iconst (v := (-1 : Int32)) hx hb dX3_at_11 (by decide) ?_
    exact W.iret (v := (-1 : Int32)) hx hb hr (fun t ht hW => ⟨⟨(-1 : Int32), ((cl3 h0 hc w0 w1 hs cJ σ)), rfl, ⟨hw, rfl⟩, by rw [ht]; exact hP, va_K.moved hW.alike hK, hD⟩, hS.F ht⟩) hS.2.2 dX3_at_12
set_option maxHeartbeats 4000000 in
set_option maxRecDepth 100000 in
theorem c_X3_told (l : Launch) (dC : Nat → ClassId) (dI : Nat → Nat → Nat) (h0 hc w0 w1 hs : Nat) (cJ : ClassId) (σ : SO) (p0 : Int32) (post : Int32 → Prop) (hw : wp_X3_told p0 σ post) : KI l yX3_told wsX3_told ({ frames := 3, cells := 0, slots := 0, locals := 63 } : Room) (dC, dI) [(cJ, .long)] (cl3 h0 hc w0 w1 hs cJ σ) [.ref h0, .int p0] (fun r u => post r ∧ u = (cl3 h0 hc w0 w1 hs cJ σ)) := by
  intro sz
  refine Met.ofW (cc := cX3_told) (maxL := 2) (ret := (some .int)) (by decide) rfl ?_
  intro p e s m args below meth c s₁ B hml hv
  obtain ⟨rfl, hsz, hP, hK, hD0, hnw⟩ := hv
  have hx := B.exec
  have hb := B.bytes
  have hr := B.returns
  have hts := atoms_spec (ws := wsX3_told) B.pre
  have hown : s.vm.findClass RX3 = some m.cls := findClass_of_methodNamed B.named
  have hlocks := B.notSynchronized
  subst hsz
  have hD := hD0.self (sz := s.heap.size)
  generalize hAe : va_A (cl3 h0 hc w0 w1 hs cJ σ) s.heap.size = A at hD ⊢
  have hA : ∀ q : Nat, s.heap.size ≤ q → A q := fun q h => by rw [← hAe]; exact Or.inr h
  have hS : va_S A s.heap s.heap [] := va_S.rf
  have hP : va_P (dC, dI) vwCl [(h0, .inr (2, [.ref hc, .ref hs])), (hc, .inr (0, [.ref w0, .ref w1, .int σ.1.1, .int σ.1.2.1, .int σ.1.2.2.1])), (w0, .inl (cJ, 512, .inr (.inl (σ.1.2.2.2.1)))), (w1, .inl (cJ, 9, .inr (.inl (σ.1.2.2.2.2)))), (hs, .inr (1, [.int σ.2.1, .int σ.2.2.1, .int σ.2.2.2.1, .int σ.2.2.2.2.1, .int σ.2.2.2.2.2.1, .int σ.2.2.2.2.2.2.1, .int σ.2.2.2.2.2.2.2.1, .int σ.2.2.2.2.2.2.2.2]))] s.heap := hP
  have hD : va_D A [(h0, .inr (2, [.ref hc, .ref hs])), (hc, .inr (0, [.ref w0, .ref w1, .int σ.1.1, .int σ.1.2.1, .int σ.1.2.2.1])), (w0, .inl (cJ, 512, .inr (.inl (σ.1.2.2.2.1)))), (w1, .inl (cJ, 9, .inr (.inl (σ.1.2.2.2.2)))), (hs, .inr (1, [.int σ.2.1, .int σ.2.2.1, .int σ.2.2.2.1, .int σ.2.2.2.2.1, .int σ.2.2.2.2.2.1, .int σ.2.2.2.2.2.2.1, .int σ.2.2.2.2.2.2.2.1, .int σ.2.2.2.2.2.2.2.2]))] := hD
  have fl_19 := hts (.fieldLink RX3 19 "OnePlaceEach" "stepped" "LOnePlaceEach$Stepped;") (by decide +kernel)
  have hin0 : ∀ w ∈ wsX30, w ∈ wsX3_told := by decide +kernel
  have hl := lv_entry ([.ref h0, .int p0]) (n := 2) (Nat.le_of_ble_eq_true rfl)
  rw [lg_entry_eq]
  generalize (lg_sl ([.ref h0, .int p0]) ++ List.replicate (2 - (lg_sl ([.ref h0, .int p0])).length) Slot.unset).toArray = ls at hl ⊢
  have hl : lv_has ls 2 [(0, .ref h0), (1, .int p0)] := hl
  unfold wp_X3_told at hw
  skip
  obtain ⟨H, hH⟩ : ∃ H, H = s.heap := ⟨_, rfl⟩
  obtain ⟨locs, hlo⟩ : ∃ q : List Loc, q = [] := ⟨_, rfl⟩
  rw [← hH] at hP
  have hS : va_S A s.heap H locs := by rw [hH, hlo]; exact hS
  suffices hgo : W p l e (headSpec wsX3_told ({ frames := 3, cells := 0, slots := 0, locals := 63 } : Room)).room s m _ below meth c H locs 0 0 _ (F0 m 0 ls []) by rw [hH, hlo] at hgo; exact hgo
  refine lv_iload_n hx hb dX3_told_0 rfl (lv_at hl 1 rfl) ?_
  refine lv_iconst (v := (0 : Int32)) hx hb dX3_told_1 (by decide) ?_
  refine lv_bipush (v := (7 : Int32)) hx hb dX3_told_2 (by decide) ?_
  have hPc := hP.sub (ws' := ([] : va_W)) [] rfl
  have hDc := hD.sub (ws' := ([] : va_W)) [] (by decide) rfl
  have hKc := hK.sub (tys' := []) [] rfl
  have hFc := va_free (wc := ([] : va_W)) hD hS hA [] rfl
  refine kc_i (wr := [(h0, .inr (2, [.ref hc, .ref hs])), (hc, .inr (0, [.ref w0, .ref w1, .int σ.1.1, .int σ.1.2.1, .int σ.1.2.2.1])), (w0, .inl (cJ, 512, .inr (.inl (σ.1.2.2.2.1)))), (w1, .inl (cJ, 9, .inr (.inl (σ.1.2.2.2.2)))), (hs, .inr (1, [.int σ.2.1, .int σ.2.2.1, .int σ.2.2.2.1, .int σ.2.2.2.2.1, .int σ.2.2.2.2.2.1, .int σ.2.2.2.2.2.2.1, .int σ.2.2.2.2.2.2.2.1, .int σ.2.2.2.2.2.2.2.2]))]) (kr_S (As := [.int p0, .int (0 : Int32), .int (7 : Int32)]) (rest := []) (ws := [(h0, .inr (2, [.ref hc, .ref hs])), (hc, .inr (0, [.ref w0, .ref w1, .int σ.1.1, .int σ.1.2.1, .int σ.1.2.2.1])), (w0, .inl (cJ, 512, .inr (.inl (σ.1.2.2.2.1)))), (w1, .inl (cJ, 9, .inr (.inl (σ.1.2.2.2.2)))), (hs, .inr (1, [.int σ.2.1, .int σ.2.2.1, .int σ.2.2.2.1, .int σ.2.2.2.2.1, .int σ.2.2.2.2.2.1, .int σ.2.2.2.2.2.2.1, .int σ.2.2.2.2.2.2.2.1, .int σ.2.2.2.2.2.2.2.2]))]) ⟨hx, hb, hml, hown, hts⟩ (c_X3_isWithin l dC dI   p0 (0 : Int32) (7 : Int32) _ hw H.size) (va_cwS 3 hts gX3_told_X3_isWithin rfl rfl rfl (by decide +kernel) ⟨Nat.le_of_ble_eq_true rfl, Nat.le_of_ble_eq_true rfl⟩) hKc hnw hP hD hPc hDc rfl hl.1 rfl (Nat.le_of_ble_eq_true rfl) dX3_told_4 ⟨Nat.zero_le _, Nat.zero_le _⟩) hP hD hS hFc [] [0, 1, 2, 3, 4] rfl rfl (by decide) (by decide) (fun r1 u1 H locs hq hP hD hS => ?_)
  obtain ⟨hw, rfl⟩ := hq
  have hP : va_P (dC, dI) vwCl [(h0, .inr (2, [.ref hc, .ref hs])), (hc, .inr (0, [.ref w0, .ref w1, .int σ.1.1, .int σ.1.2.1, .int σ.1.2.2.1])), (w0, .inl (cJ, 512, .inr (.inl (σ.1.2.2.2.1)))), (w1, .inl (cJ, 9, .inr (.inl (σ.1.2.2.2.2)))), (hs, .inr (1, [.int σ.2.1, .int σ.2.2.1, .int σ.2.2.2.1, .int σ.2.2.2.2.1, .int σ.2.2.2.2.2.1, .int σ.2.2.2.2.2.2.1, .int σ.2.2.2.2.2.2.2.1, .int σ.2.2.2.2.2.2.2.2]))] H := hP
  have hD : va_D A [(h0, .inr (2, [.ref hc, .ref hs])), (hc, .inr (0, [.ref w0, .ref w1, .int σ.1.1, .int σ.1.2.1, .int σ.1.2.2.1])), (w0, .inl (cJ, 512, .inr (.inl (σ.1.2.2.2.1)))), (w1, .inl (cJ, 9, .inr (.inl (σ.1.2.2.2.2)))), (hs, .inr (1, [.int σ.2.1, .int σ.2.2.1, .int σ.2.2.2.1, .int σ.2.2.2.2.1, .int σ.2.2.2.2.2.1, .int σ.2.2.2.2.2.2.1, .int σ.2.2.2.2.2.2.2.1, .int σ.2.2.2.2.2.2.2.2]))] := hD
  refine lv_if_ne (tgt := 12) hx hb dX3_told_7 (by decide) (fun c3 => ?_) (fun c3 => ?_)
  · have hw := hw.1 c3
    refine lv_aload_n hx hb dX3_told_12 rfl (lv_at hl 0 rfl) ?_
    refine va_get (D := (dC, dI)) (ci := 2) (v := .ref hs) (C := RX3) (T := TX3) (N := 2) hx hb hts hin0 hown hK hP 0 rfl rfl 1 (by decide) fl_19 (fun _ h9 => h9) rfl dX3_told_13 ?_
    have hPc := hP.sub (ws' := [(hs, .inr (1, [.int σ.2.1, .int σ.2.2.1, .int σ.2.2.2.1, .int σ.2.2.2.2.1, .int σ.2.2.2.2.2.1, .int σ.2.2.2.2.2.2.1, .int σ.2.2.2.2.2.2.2.1, .int σ.2.2.2.2.2.2.2.2]))]) [4] rfl
    have hDc := hD.sub (ws' := [(hs, .inr (1, [.int σ.2.1, .int σ.2.2.1, .int σ.2.2.2.1, .int σ.2.2.2.2.1, .int σ.2.2.2.2.2.1, .int σ.2.2.2.2.2.2.1, .int σ.2.2.2.2.2.2.2.1, .int σ.2.2.2.2.2.2.2.2]))]) [4] (by decide) rfl
    have hKc := hK.sub (tys' := []) [] rfl
    have hFc := va_free (wc := [(hs, .inr (1, [.int σ.2.1, .int σ.2.2.1, .int σ.2.2.2.1, .int σ.2.2.2.2.1, .int σ.2.2.2.2.2.1, .int σ.2.2.2.2.2.2.1, .int σ.2.2.2.2.2.2.2.1, .int σ.2.2.2.2.2.2.2.2]))]) hD hS hA [4] rfl
    refine kc_i (wr := [(h0, .inr (2, [.ref hc, .ref hs])), (hc, .inr (0, [.ref w0, .ref w1, .int σ.1.1, .int σ.1.2.1, .int σ.1.2.2.1])), (w0, .inl (cJ, 512, .inr (.inl (σ.1.2.2.2.1)))), (w1, .inl (cJ, 9, .inr (.inl (σ.1.2.2.2.2))))]) (kr_V (As := []) (rest := []) (b := hs) (ws := [(h0, .inr (2, [.ref hc, .ref hs])), (hc, .inr (0, [.ref w0, .ref w1, .int σ.1.1, .int σ.1.2.1, .int σ.1.2.2.1])), (w0, .inl (cJ, 512, .inr (.inl (σ.1.2.2.2.1)))), (w1, .inl (cJ, 9, .inr (.inl (σ.1.2.2.2.2)))), (hs, .inr (1, [.int σ.2.1, .int σ.2.2.1, .int σ.2.2.2.1, .int σ.2.2.2.2.1, .int σ.2.2.2.2.2.1, .int σ.2.2.2.2.2.2.1, .int σ.2.2.2.2.2.2.2.1, .int σ.2.2.2.2.2.2.2.2]))]) ⟨hx, hb, hml, hown, hts⟩ (c_X2_isThere l dC dI hs σ.2  _ hw H.size) (cwV 0 hts gX3_told_X2_isThere rfl rfl rfl (by decide +kernel) ⟨Nat.le_of_ble_eq_true rfl, Nat.le_of_ble_eq_true rfl⟩) 1 4 hK rfl rfl rfl hKc hnw hP hD hPc hDc rfl hl.1 rfl (Nat.le_of_ble_eq_true rfl) dX3_told_16 ⟨Nat.zero_le _, Nat.zero_le _⟩) hP hD hS hFc [4] [0, 1, 2, 3] rfl rfl (by decide) (by decide) (fun r4 u1 H locs hq hP hD hS => ?_)
    obtain ⟨hw, rfl⟩ := hq
    have hP : va_P (dC, dI) vwCl [(h0, .inr (2, [.ref hc, .ref hs])), (hc, .inr (0, [.ref w0, .ref w1, .int σ.1.1, .int σ.1.2.1, .int σ.1.2.2.1])), (w0, .inl (cJ, 512, .inr (.inl (σ.1.2.2.2.1)))), (w1, .inl (cJ, 9, .inr (.inl (σ.1.2.2.2.2)))), (hs, .inr (1, [.int σ.2.1, .int σ.2.2.1, .int σ.2.2.2.1, .int σ.2.2.2.2.1, .int σ.2.2.2.2.2.1, .int σ.2.2.2.2.2.2.1, .int σ.2.2.2.2.2.2.2.1, .int σ.2.2.2.2.2.2.2.2]))] H := hP
    have hD : va_D A [(h0, .inr (2, [.ref hc, .ref hs])), (hc, .inr (0, [.ref w0, .ref w1, .int σ.1.1, .int σ.1.2.1, .int σ.1.2.2.1])), (w0, .inl (cJ, 512, .inr (.inl (σ.1.2.2.2.1)))), (w1, .inl (cJ, 9, .inr (.inl (σ.1.2.2.2.2)))), (hs, .inr (1, [.int σ.2.1, .int σ.2.2.1, .int σ.2.2.2.1, .int σ.2.2.2.2.1, .int σ.2.2.2.2.2.1, .int σ.2.2.2.2.2.2.1, .int σ.2.2.2.2.2.2.2.1, .int σ.2.2.2.2.2.2.2.2]))] := hD
    refine lv_if_eq (tgt := 33) hx hb dX3_told_19 (by decide) (fun c6 => ?_) (fun c6 => ?_)
    · have hw := hw.1 c6
      refine lv_bipush (v := (-2 : Int32)) hx hb dX3_told_33 (by decide) ?_
      exact W.iret (v := (-2 : Int32)) hx hb hr (fun t ht hW => ⟨⟨(-2 : Int32), ((cl3 h0 hc w0 w1 hs cJ σ)), rfl, ⟨hw, rfl⟩, by rw [ht]; exact hP, va_K.moved hW.alike hK, hD⟩, hS.F ht⟩) hS.2.2 dX3_told_35
    · have hw := hw.2 c6
      refine lv_aload_n hx hb dX3_told_22 rfl (lv_at hl 0 rfl) ?_
      refine va_get (D := (dC, dI)) (ci := 2) (v := .ref hs) (C := RX3) (T := TX3) (N := 2) hx hb hts hin0 hown hK hP 0 rfl rfl 1 (by decide) fl_19 (fun _ h9 => h9) rfl dX3_told_23 ?_
      refine lv_iload_n hx hb dX3_told_26 rfl (lv_at hl 1 rfl) ?_
      have hPc := hP.sub (ws' := [(hs, .inr (1, [.int σ.2.1, .int σ.2.2.1, .int σ.2.2.2.1, .int σ.2.2.2.2.1, .int σ.2.2.2.2.2.1, .int σ.2.2.2.2.2.2.1, .int σ.2.2.2.2.2.2.2.1, .int σ.2.2.2.2.2.2.2.2]))]) [4] rfl
      have hDc := hD.sub (ws' := [(hs, .inr (1, [.int σ.2.1, .int σ.2.2.1, .int σ.2.2.2.1, .int σ.2.2.2.2.1, .int σ.2.2.2.2.2.1, .int σ.2.2.2.2.2.2.1, .int σ.2.2.2.2.2.2.2.1, .int σ.2.2.2.2.2.2.2.2]))]) [4] (by decide) rfl
      have hKc := hK.sub (tys' := []) [] rfl
      have hFc := va_free (wc := [(hs, .inr (1, [.int σ.2.1, .int σ.2.2.1, .int σ.2.2.2.1, .int σ.2.2.2.2.1, .int σ.2.2.2.2.2.1, .int σ.2.2.2.2.2.2.1, .int σ.2.2.2.2.2.2.2.1, .int σ.2.2.2.2.2.2.2.2]))]) hD hS hA [4] rfl
      refine kc_i (wr := [(h0, .inr (2, [.ref hc, .ref hs])), (hc, .inr (0, [.ref w0, .ref w1, .int σ.1.1, .int σ.1.2.1, .int σ.1.2.2.1])), (w0, .inl (cJ, 512, .inr (.inl (σ.1.2.2.2.1)))), (w1, .inl (cJ, 9, .inr (.inl (σ.1.2.2.2.2))))]) (kr_V (As := [.int p0]) (rest := []) (b := hs) (ws := [(h0, .inr (2, [.ref hc, .ref hs])), (hc, .inr (0, [.ref w0, .ref w1, .int σ.1.1, .int σ.1.2.1, .int σ.1.2.2.1])), (w0, .inl (cJ, 512, .inr (.inl (σ.1.2.2.2.1)))), (w1, .inl (cJ, 9, .inr (.inl (σ.1.2.2.2.2)))), (hs, .inr (1, [.int σ.2.1, .int σ.2.2.1, .int σ.2.2.2.1, .int σ.2.2.2.2.1, .int σ.2.2.2.2.2.1, .int σ.2.2.2.2.2.2.1, .int σ.2.2.2.2.2.2.2.1, .int σ.2.2.2.2.2.2.2.2]))]) ⟨hx, hb, hml, hown, hts⟩ (c_X2_tell l dC dI hs σ.2 p0 _ hw H.size) (cwV 1 hts gX3_told_X2_tell rfl rfl rfl (by decide +kernel) ⟨Nat.le_of_ble_eq_true rfl, Nat.le_of_ble_eq_true rfl⟩) 1 4 hK rfl rfl rfl hKc hnw hP hD hPc hDc rfl hl.1 rfl (Nat.le_of_ble_eq_true rfl) dX3_told_27 ⟨Nat.zero_le _, Nat.zero_le _⟩) hP hD hS hFc [4] [0, 1, 2, 3] rfl rfl (by decide) (by decide) (fun r7 u1 H locs hq hP hD hS => ?_)
      obtain ⟨hw, rfl⟩ := hq
      have hP : va_P (dC, dI) vwCl [(h0, .inr (2, [.ref hc, .ref hs])), (hc, .inr (0, [.ref w0, .ref w1, .int σ.1.1, .int σ.1.2.1, .int σ.1.2.2.1])), (w0, .inl (cJ, 512, .inr (.inl (σ.1.2.2.2.1)))), (w1, .inl (cJ, 9, .inr (.inl (σ.1.2.2.2.2)))), (hs, .inr (1, [.int σ.2.1, .int σ.2.2.1, .int σ.2.2.2.1, .int σ.2.2.2.2.1, .int σ.2.2.2.2.2.1, .int σ.2.2.2.2.2.2.1, .int σ.2.2.2.2.2.2.2.1, .int σ.2.2.2.2.2.2.2.2]))] H := hP
      have hD : va_D A [(h0, .inr (2, [.ref hc, .ref hs])), (hc, .inr (0, [.ref w0, .ref w1, .int σ.1.1, .int σ.1.2.1, .int σ.1.2.2.1])), (w0, .inl (cJ, 512, .inr (.inl (σ.1.2.2.2.1)))), (w1, .inl (cJ, 9, .inr (.inl (σ.1.2.2.2.2)))), (hs, .inr (1, [.int σ.2.1, .int σ.2.2.1, .int σ.2.2.2.1, .int σ.2.2.2.2.1, .int σ.2.2.2.2.2.1, .int σ.2.2.2.2.2.2.1, .int σ.2.2.2.2.2.2.2.1, .int σ.2.2.2.2.2.2.2.2]))] := hD
      refine lv_goto (tgt := 35) hx hb dX3_told_30 (by decide) ?_
      exact W.iret (v := r7) hx hb hr (fun t ht hW => ⟨⟨r7, ((cl3 h0 hc w0 w1 hs cJ σ)), rfl, ⟨hw, rfl⟩, by rw [ht]; exact hP, va_K.moved hW.alike hK, hD⟩, hS.F ht⟩) hS.2.2 dX3_told_35
  · have hw := hw.2 c3
    refine lv_iconst (v := (-1 : Int32)) hx hb dX3_told_10 (by decide) ?_
    exact W.iret (v := (-1 : Int32)) hx hb hr (fun t ht hW => ⟨⟨(-1 : Int32), ((cl3 h0 hc w0 w1 hs cJ σ)), rfl, ⟨hw, rfl⟩, by rw [ht]; exact hP, va_K.moved hW.alike hK, hD⟩, hS.F ht⟩) hS.2.2 dX3_told_11
set_option maxHeartbeats 4000000 in
set_option maxRecDepth 100000 in
theorem c_X4_in (l : Launch) (dC : Nat → ClassId) (dI : Nat → Nat → Nat)   (p0 : Int64) (p1 : Int64) (p2 : Int64) (post : Int32 → Prop) (hw : wp_X4_in p0 p1 p2  post) : KI l yX4_in wsX4_in ({ frames := 0, cells := 0, slots := 0, locals := 0 } : Room) (dC, dI) [] [] [.long p0, .long p1, .long p2] (fun r u => post r ∧ u = []) := by
  intro sz
  refine Met.ofW (cc := cX4_in) (maxL := 6) (ret := (some .boolean)) (by decide) rfl ?_
  intro p e s m args below meth c s₁ B hml hv
  obtain ⟨rfl, hsz, hP, hK, hD0, hnw⟩ := hv
  have hx := B.exec
  have hb := B.bytes
  have hr := B.returns
  have hts := atoms_spec (ws := wsX4_in) B.pre
  have hown : s.vm.findClass RX4 = some m.cls := findClass_of_methodNamed B.named
  have hlocks := B.notSynchronized
  subst hsz
  have hD := hD0.self (sz := s.heap.size)
  generalize hAe : va_A [] s.heap.size = A at hD ⊢
  have hA : ∀ q : Nat, s.heap.size ≤ q → A q := fun q h => by rw [← hAe]; exact Or.inr h
  have hS : va_S A s.heap s.heap [] := va_S.rf
  have hP : va_P (dC, dI) vwCl [] s.heap := hP
  have hD : va_D A [] := hD
  have hl := lv_entry ([.long p0, .long p1, .long p2]) (n := 6) (Nat.le_of_ble_eq_true rfl)
  rw [lg_entry_eq]
  generalize (lg_sl ([.long p0, .long p1, .long p2]) ++ List.replicate (6 - (lg_sl ([.long p0, .long p1, .long p2])).length) Slot.unset).toArray = ls at hl ⊢
  have hl : lv_has ls 6 [(0, .long p0), (2, .long p1), (4, .long p2)] := hl
  unfold wp_X4_in at hw
  skip
  obtain ⟨H, hH⟩ : ∃ H, H = s.heap := ⟨_, rfl⟩
  obtain ⟨locs, hlo⟩ : ∃ q : List Loc, q = [] := ⟨_, rfl⟩
  rw [← hH] at hP
  have hS : va_S A s.heap H locs := by rw [hH, hlo]; exact hS
  suffices hgo : W p l e (headSpec wsX4_in ({ frames := 0, cells := 0, slots := 0, locals := 0 } : Room)).room s m _ below meth c H locs 0 0 _ (F0 m 0 ls []) by rw [hH, hlo] at hgo; exact hgo
  refine lv_lload_n hx hb dX4_in_0 rfl (lv_at hl 0 rfl) ?_
  refine lv_lload_n hx hb dX4_in_1 rfl (lv_at hl 1 rfl) ?_
  refine W.lcmp hx hb dX4_in_2 ?_
  refine lv_if_lt (tgt := 17) hx hb dX4_in_3 (by decide) (fun c1 => ?_) (fun c1 => ?_)
  · have hw := hw.1 (lgc_lt.mp c1)
    refine lv_iconst (v := (0 : Int32)) hx hb dX4_in_17 (by decide) ?_
    exact W.zret (v := (0 : Int32)) hx hb hr (nb_nar nb_0) (fun t ht hW => ⟨⟨(0 : Int32), ([] : va_W), rfl, ⟨hw, rfl⟩, by rw [ht]; exact hP, va_K.moved hW.alike hK, hD⟩, hS.F ht⟩) hS.2.2 dX4_in_18
  · have hw := hw.2 ((not_congr lgc_lt).mp c1)
    refine lv_lload_n hx hb dX4_in_6 rfl (lv_at hl 0 rfl) ?_
    refine lv_lload hx hb dX4_in_7 (lv_at hl 2 rfl) ?_
    refine W.lcmp hx hb dX4_in_9 ?_
    refine lv_if_gt (tgt := 17) hx hb dX4_in_10 (by decide) (fun c2 => ?_) (fun c2 => ?_)
    · have hw := hw.1 (lgc_gt.mp c2)
      refine lv_iconst (v := (0 : Int32)) hx hb dX4_in_17 (by decide) ?_
      exact W.zret (v := (0 : Int32)) hx hb hr (nb_nar nb_0) (fun t ht hW => ⟨⟨(0 : Int32), ([] : va_W), rfl, ⟨hw, rfl⟩, by rw [ht]; exact hP, va_K.moved hW.alike hK, hD⟩, hS.F ht⟩) hS.2.2 dX4_in_18
    · have hw := hw.2 ((not_congr lgc_gt).mp c2)
      refine lv_iconst (v := (1 : Int32)) hx hb dX4_in_13 (by decide) ?_
      refine lv_goto (tgt := 18) hx hb dX4_in_14 (by decide) ?_
      exact W.zret (v := (1 : Int32)) hx hb hr (nb_nar nb_1) (fun t ht hW => ⟨⟨(1 : Int32), ([] : va_W), rfl, ⟨hw, rfl⟩, by rw [ht]; exact hP, va_K.moved hW.alike hK, hD⟩, hS.F ht⟩) hS.2.2 dX4_in_18
set_option maxHeartbeats 4000000 in
set_option maxRecDepth 100000 in
theorem c_X4_weigh (l : Launch) (dC : Nat → ClassId) (dI : Nat → Nat → Nat) (h0 w0 so be : Nat) (cJ : ClassId) (cI : ClassId) (σ : SM) (p0 : Int32) (p1 : Int32) (post : Int64 → Prop) (hw : wp_X4_weigh p0 p1 σ post) : KL l yX4_weigh wsX4_weigh ({ frames := 0, cells := 0, slots := 0, locals := 0 } : Room) (dC, dI) [(cJ, .long), (cI, .int)] (cl4 h0 w0 so be cJ cI σ) [.ref h0, .int p0, .int p1] (fun r u => post r ∧ u = (cl4 h0 w0 so be cJ cI σ)) := by
  intro sz
  refine Met.ofW (cc := cX4_weigh) (maxL := 3) (ret := (some .long)) (by decide) rfl ?_
  intro p e s m args below meth c s₁ B hml hv
  obtain ⟨rfl, hsz, hP, hK, hD0, hnw⟩ := hv
  have hx := B.exec
  have hb := B.bytes
  have hr := B.returns
  have hts := atoms_spec (ws := wsX4_weigh) B.pre
  have hown : s.vm.findClass RX4 = some m.cls := findClass_of_methodNamed B.named
  have hlocks := B.notSynchronized
  subst hsz
  have hD := hD0.self (sz := s.heap.size)
  generalize hAe : va_A (cl4 h0 w0 so be cJ cI σ) s.heap.size = A at hD ⊢
  have hA : ∀ q : Nat, s.heap.size ≤ q → A q := fun q h => by rw [← hAe]; exact Or.inr h
  have hS : va_S A s.heap s.heap [] := va_S.rf
  have hP : va_P (dC, dI) vwCl [(h0, .inr (3, [.int σ.1, .int σ.2.1, .int σ.2.2.1, .ref w0, .int σ.2.2.2.2.1, .int σ.2.2.2.2.2.1, .long σ.2.2.2.2.2.2.1, .ref so, .ref be, .int σ.2.2.2.2.2.2.2.2.2.1, .int σ.2.2.2.2.2.2.2.2.2.2.1, .int σ.2.2.2.2.2.2.2.2.2.2.2.1, .int σ.2.2.2.2.2.2.2.2.2.2.2.2])), (w0, .inl (cJ, 511, .inr (.inl (σ.2.2.2.1)))), (so, .inl (cI, 30, .inl (σ.2.2.2.2.2.2.2.1))), (be, .inl (cI, 30, .inl (σ.2.2.2.2.2.2.2.2.1)))] s.heap := hP
  have hD : va_D A [(h0, .inr (3, [.int σ.1, .int σ.2.1, .int σ.2.2.1, .ref w0, .int σ.2.2.2.2.1, .int σ.2.2.2.2.2.1, .long σ.2.2.2.2.2.2.1, .ref so, .ref be, .int σ.2.2.2.2.2.2.2.2.2.1, .int σ.2.2.2.2.2.2.2.2.2.2.1, .int σ.2.2.2.2.2.2.2.2.2.2.2.1, .int σ.2.2.2.2.2.2.2.2.2.2.2.2])), (w0, .inl (cJ, 511, .inr (.inl (σ.2.2.2.1)))), (so, .inl (cI, 30, .inl (σ.2.2.2.2.2.2.2.1))), (be, .inl (cI, 30, .inl (σ.2.2.2.2.2.2.2.2.1)))] := hD
  have fl_19 := hts (.fieldLink RX4 19 "OnePlaceEachModel" "weights" "[J") (by decide +kernel)
  have hin0 : ∀ w ∈ wsX40, w ∈ wsX4_weigh := by decide +kernel
  have hl := lv_entry ([.ref h0, .int p0, .int p1]) (n := 3) (Nat.le_of_ble_eq_true rfl)
  rw [lg_entry_eq]
  generalize (lg_sl ([.ref h0, .int p0, .int p1]) ++ List.replicate (3 - (lg_sl ([.ref h0, .int p0, .int p1])).length) Slot.unset).toArray = ls at hl ⊢
  have hl : lv_has ls 3 [(0, .ref h0), (1, .int p0), (2, .int p1)] := hl
  unfold wp_X4_weigh at hw
  skip
  obtain ⟨H, hH⟩ : ∃ H, H = s.heap := ⟨_, rfl⟩
  obtain ⟨locs, hlo⟩ : ∃ q : List Loc, q = [] := ⟨_, rfl⟩
  rw [← hH] at hP
  have hS : va_S A s.heap H locs := by rw [hH, hlo]; exact hS
  suffices hgo : W p l e (headSpec wsX4_weigh ({ frames := 0, cells := 0, slots := 0, locals := 0 } : Room)).room s m _ below meth c H locs 0 0 _ (F0 m 0 ls []) by rw [hH, hlo] at hgo; exact hgo
  refine lv_aload_n hx hb dX4_weigh_0 rfl (lv_at hl 0 rfl) ?_
  refine va_get (D := (dC, dI)) (ci := 3) (v := .ref w0) (C := RX4) (T := TX4) (N := 13) hx hb hts hin0 hown hK hP 0 rfl rfl 3 (by decide) fl_19 (fun _ h9 => h9) rfl dX4_weigh_1 ?_
  refine lv_iconst (v := (1 : Int32)) hx hb dX4_weigh_4 (by decide) ?_
  refine lv_iload_n hx hb dX4_weigh_5 rfl (lv_at hl 1 rfl) ?_
  refine lv_ishl hx hb dX4_weigh_6 ?_
  refine lv_iconst (v := (1 : Int32)) hx hb dX4_weigh_7 (by decide) ?_
  refine lv_isub hx hb dX4_weigh_8 ?_
  refine lv_iload_n hx hb dX4_weigh_9 rfl (lv_at hl 2 rfl) ?_
  refine lv_iadd hx hb dX4_weigh_10 ?_
  have z1 := hw.1
  have hw := hw.2
  refine va_lald hx hb hK hP 1 0 rfl rfl z1 dX4_weigh_11 ?_
  exact W.lret (v := (σ.2.2.2.1 ((((1 : Int32) <<< (p0 &&& (31 : Int32))) - (1 : Int32)) + p1).toNatClampNeg)) hx hb hr (fun t ht hW => ⟨⟨(σ.2.2.2.1 ((((1 : Int32) <<< (p0 &&& (31 : Int32))) - (1 : Int32)) + p1).toNatClampNeg), ((cl4 h0 w0 so be cJ cI σ)), rfl, ⟨hw, rfl⟩, by rw [ht]; exact hP, va_K.moved hW.alike hK, hD⟩, hS.F ht⟩) hS.2.2 dX4_weigh_12
set_option maxHeartbeats 4000000 in
set_option maxRecDepth 100000 in
theorem c_X4_fills (l : Launch) (dC : Nat → ClassId) (dI : Nat → Nat → Nat) (h0 w0 so be : Nat) (cJ : ClassId) (cI : ClassId) (σ : SM)  (post : SM → Prop) (hw : wp_X4_fills  σ post) : KV l yX4_fills wsX4_fills ({ frames := 1, cells := 0, slots := 0, locals := 22 } : Room) (dC, dI) [(cJ, .long), (cI, .int)] (cl4 h0 w0 so be cJ cI σ) [.ref h0] (fun u => ∃ σ', post σ' ∧ u = (cl4 h0 w0 so be cJ cI (σ'))) := by
  intro sz
  refine Met.ofW (cc := cX4_fills) (maxL := 7) (ret := none) (by decide) rfl ?_
  intro p e s m args below meth c s₁ B hml hv
  obtain ⟨rfl, hsz, hP, hK, hD0, hnw⟩ := hv
  have hx := B.exec
  have hb := B.bytes
  have hr := B.returns
  have hts := atoms_spec (ws := wsX4_fills) B.pre
  have hown : s.vm.findClass RX4 = some m.cls := findClass_of_methodNamed B.named
  have hlocks := B.notSynchronized
  subst hsz
  have hD := hD0.self (sz := s.heap.size)
  generalize hAe : va_A (cl4 h0 w0 so be cJ cI σ) s.heap.size = A at hD ⊢
  have hA : ∀ q : Nat, s.heap.size ≤ q → A q := fun q h => by rw [← hAe]; exact Or.inr h
  have hS : va_S A s.heap s.heap [] := va_S.rf
  have hP : va_P (dC, dI) vwCl [(h0, .inr (3, [.int σ.1, .int σ.2.1, .int σ.2.2.1, .ref w0, .int σ.2.2.2.2.1, .int σ.2.2.2.2.2.1, .long σ.2.2.2.2.2.2.1, .ref so, .ref be, .int σ.2.2.2.2.2.2.2.2.2.1, .int σ.2.2.2.2.2.2.2.2.2.2.1, .int σ.2.2.2.2.2.2.2.2.2.2.2.1, .int σ.2.2.2.2.2.2.2.2.2.2.2.2])), (w0, .inl (cJ, 511, .inr (.inl (σ.2.2.2.1)))), (so, .inl (cI, 30, .inl (σ.2.2.2.2.2.2.2.1))), (be, .inl (cI, 30, .inl (σ.2.2.2.2.2.2.2.2.1)))] s.heap := hP
  have hD : va_D A [(h0, .inr (3, [.int σ.1, .int σ.2.1, .int σ.2.2.1, .ref w0, .int σ.2.2.2.2.1, .int σ.2.2.2.2.2.1, .long σ.2.2.2.2.2.2.1, .ref so, .ref be, .int σ.2.2.2.2.2.2.2.2.2.1, .int σ.2.2.2.2.2.2.2.2.2.2.1, .int σ.2.2.2.2.2.2.2.2.2.2.2.1, .int σ.2.2.2.2.2.2.2.2.2.2.2.2])), (w0, .inl (cJ, 511, .inr (.inl (σ.2.2.2.1)))), (so, .inl (cI, 30, .inl (σ.2.2.2.2.2.2.2.1))), (be, .inl (cI, 30, .inl (σ.2.2.2.2.2.2.2.2.1)))] := hD
  have fl_13 := hts (.fieldLink RX4 13 "OnePlaceEachModel" "x" "I") (by decide +kernel)
  have fl_16 := hts (.fieldLink RX4 16 "OnePlaceEachModel" "y" "I") (by decide +kernel)
  have fl_19 := hts (.fieldLink RX4 19 "OnePlaceEachModel" "weights" "[J") (by decide +kernel)
  have hin0 : ∀ w ∈ wsX40, w ∈ wsX4_fills := by decide +kernel
  have L90 : ∀ (x1 : Int32) (x2 : Int32) (σ : SM) (n : Nat) (x5 : Int32)  (k : Int32 → Prop), wl_X4_fills_90 x1 x2 σ n x5 k →
      (∀ (x5 : Int32) , k x5 → ∀ (H : Heap) (locs : List Loc) (ls : Array Slot), va_P (dC, dI) vwCl [(h0, .inr (3, [.int σ.1, .int σ.2.1, .int σ.2.2.1, .ref w0, .int σ.2.2.2.2.1, .int σ.2.2.2.2.2.1, .long σ.2.2.2.2.2.2.1, .ref so, .ref be, .int σ.2.2.2.2.2.2.2.2.2.1, .int σ.2.2.2.2.2.2.2.2.2.2.1, .int σ.2.2.2.2.2.2.2.2.2.2.2.1, .int σ.2.2.2.2.2.2.2.2.2.2.2.2])), (w0, .inl (cJ, 511, .inr (.inl (σ.2.2.2.1)))), (so, .inl (cI, 30, .inl (σ.2.2.2.2.2.2.2.1))), (be, .inl (cI, 30, .inl (σ.2.2.2.2.2.2.2.2.1)))] H → va_D A [(h0, .inr (3, [.int σ.1, .int σ.2.1, .int σ.2.2.1, .ref w0, .int σ.2.2.2.2.1, .int σ.2.2.2.2.2.1, .long σ.2.2.2.2.2.2.1, .ref so, .ref be, .int σ.2.2.2.2.2.2.2.2.2.1, .int σ.2.2.2.2.2.2.2.2.2.2.1, .int σ.2.2.2.2.2.2.2.2.2.2.2.1, .int σ.2.2.2.2.2.2.2.2.2.2.2.2])), (w0, .inl (cJ, 511, .inr (.inl (σ.2.2.2.1)))), (so, .inl (cI, 30, .inl (σ.2.2.2.2.2.2.2.1))), (be, .inl (cI, 30, .inl (σ.2.2.2.2.2.2.2.2.1)))] → va_S A s.heap H locs → lv_has ls 7 [(5, .int x5), (2, .int x2), (1, .int x1), (0, .ref h0)] → W p l e (headSpec wsX4_fills ({ frames := 1, cells := 0, slots := 0, locals := 22 } : Room)).room s m ([.ref h0] : List Value).toArray below meth c H locs 0 0 (MQ below (va_Qv (fun u => ∃ σ', post σ' ∧ u = (cl4 h0 w0 so be cJ cI (σ'))) (kB (dC, dI) [(cJ, .long), (cI, .int)] A) A) ([.ref h0] : List Value).toArray s 0 0 A) (F0 m 106 ls [])) →
      ∀ (H : Heap) (locs : List Loc) (ls : Array Slot), va_P (dC, dI) vwCl [(h0, .inr (3, [.int σ.1, .int σ.2.1, .int σ.2.2.1, .ref w0, .int σ.2.2.2.2.1, .int σ.2.2.2.2.2.1, .long σ.2.2.2.2.2.2.1, .ref so, .ref be, .int σ.2.2.2.2.2.2.2.2.2.1, .int σ.2.2.2.2.2.2.2.2.2.2.1, .int σ.2.2.2.2.2.2.2.2.2.2.2.1, .int σ.2.2.2.2.2.2.2.2.2.2.2.2])), (w0, .inl (cJ, 511, .inr (.inl (σ.2.2.2.1)))), (so, .inl (cI, 30, .inl (σ.2.2.2.2.2.2.2.1))), (be, .inl (cI, 30, .inl (σ.2.2.2.2.2.2.2.2.1)))] H → va_D A [(h0, .inr (3, [.int σ.1, .int σ.2.1, .int σ.2.2.1, .ref w0, .int σ.2.2.2.2.1, .int σ.2.2.2.2.2.1, .long σ.2.2.2.2.2.2.1, .ref so, .ref be, .int σ.2.2.2.2.2.2.2.2.2.1, .int σ.2.2.2.2.2.2.2.2.2.2.1, .int σ.2.2.2.2.2.2.2.2.2.2.2.1, .int σ.2.2.2.2.2.2.2.2.2.2.2.2])), (w0, .inl (cJ, 511, .inr (.inl (σ.2.2.2.1)))), (so, .inl (cI, 30, .inl (σ.2.2.2.2.2.2.2.1))), (be, .inl (cI, 30, .inl (σ.2.2.2.2.2.2.2.2.1)))] → va_S A s.heap H locs → lv_has ls 7 [(5, .int x5), (2, .int x2), (1, .int x1), (0, .ref h0)] → W p l e (headSpec wsX4_fills ({ frames := 1, cells := 0, slots := 0, locals := 22 } : Room)).room s m ([.ref h0] : List Value).toArray below meth c H locs 0 0 (MQ below (va_Qv (fun u => ∃ σ', post σ' ∧ u = (cl4 h0 w0 so be cJ cI (σ'))) (kB (dC, dI) [(cJ, .long), (cI, .int)] A) A) ([.ref h0] : List Value).toArray s 0 0 A) (F0 m 90 ls []) := by
    intro x1 x2 σ n
    induction n with
    | zero => intro x5 k hw; exact absurd hw id
    | succ n ih =>
      intro x5 k hw hk H locs ls hP hD hS hl
      unfold wl_X4_fills_90 at hw
      refine lv_iload_n hx hb dX4_fills_90 rfl (lv_at hl 1 rfl) ?_
      refine lv_iload hx hb dX4_fills_91 (lv_at hl 0 rfl) ?_
      refine lv_ishr hx hb dX4_fills_93 ?_
      refine lv_iconst (v := (3 : Int32)) hx hb dX4_fills_94 (by decide) ?_
      refine lv_iand hx hb dX4_fills_95 ?_
      refine lv_iconst (v := (1 : Int32)) hx hb dX4_fills_96 (by decide) ?_
      refine lv_icmp_eq (tgt := 106) hx hb dX4_fills_97 (by decide) (fun c6 => ?_) (fun c6 => ?_)
      · have hw := hw.1 c6
        exact hk x5 hw H locs ls hP hD hS (lv_sub hl [0, 1, 2, 3] rfl)
      · have hw := hw.2 c6
        refine lv_iinc (v := (x5 + (1 : Int32))) (lv' := [(5, .int (x5 + (1 : Int32))), (2, .int x2), (1, .int x1), (0, .ref h0)]) hx hb dX4_fills_100 hl (k := 0) rfl rfl (by decide) rfl (fun ls hl => ?_)
        refine lv_goto (tgt := 90) hx hb dX4_fills_103 (by decide) ?_
        exact ih (x5 + (1 : Int32)) _ hw hk H locs ls hP hD hS (lv_sub hl [0, 1, 2, 3] rfl)
  have L17 : ∀ (x1 : Int32)  (n : Nat) (x2 : Int32) (σ : SM) (k : Int32 → SM → Prop), wl_X4_fills_17 x1  n x2 σ k →
      (∀ (x2 : Int32) (σ : SM), k x2 σ → ∀ (H : Heap) (locs : List Loc) (ls : Array Slot), va_P (dC, dI) vwCl [(h0, .inr (3, [.int σ.1, .int σ.2.1, .int σ.2.2.1, .ref w0, .int σ.2.2.2.2.1, .int σ.2.2.2.2.2.1, .long σ.2.2.2.2.2.2.1, .ref so, .ref be, .int σ.2.2.2.2.2.2.2.2.2.1, .int σ.2.2.2.2.2.2.2.2.2.2.1, .int σ.2.2.2.2.2.2.2.2.2.2.2.1, .int σ.2.2.2.2.2.2.2.2.2.2.2.2])), (w0, .inl (cJ, 511, .inr (.inl (σ.2.2.2.1)))), (so, .inl (cI, 30, .inl (σ.2.2.2.2.2.2.2.1))), (be, .inl (cI, 30, .inl (σ.2.2.2.2.2.2.2.2.1)))] H → va_D A [(h0, .inr (3, [.int σ.1, .int σ.2.1, .int σ.2.2.1, .ref w0, .int σ.2.2.2.2.1, .int σ.2.2.2.2.2.1, .long σ.2.2.2.2.2.2.1, .ref so, .ref be, .int σ.2.2.2.2.2.2.2.2.2.1, .int σ.2.2.2.2.2.2.2.2.2.2.1, .int σ.2.2.2.2.2.2.2.2.2.2.2.1, .int σ.2.2.2.2.2.2.2.2.2.2.2.2])), (w0, .inl (cJ, 511, .inr (.inl (σ.2.2.2.1)))), (so, .inl (cI, 30, .inl (σ.2.2.2.2.2.2.2.1))), (be, .inl (cI, 30, .inl (σ.2.2.2.2.2.2.2.2.1)))] → va_S A s.heap H locs → lv_has ls 7 [(2, .int x2), (1, .int x1), (0, .ref h0)] → W p l e (headSpec wsX4_fills ({ frames := 1, cells := 0, slots := 0, locals := 22 } : Room)).room s m ([.ref h0] : List Value).toArray below meth c H locs 0 0 (MQ below (va_Qv (fun u => ∃ σ', post σ' ∧ u = (cl4 h0 w0 so be cJ cI (σ'))) (kB (dC, dI) [(cJ, .long), (cI, .int)] A) A) ([.ref h0] : List Value).toArray s 0 0 A) (F0 m 172 ls [])) →
      ∀ (H : Heap) (locs : List Loc) (ls : Array Slot), va_P (dC, dI) vwCl [(h0, .inr (3, [.int σ.1, .int σ.2.1, .int σ.2.2.1, .ref w0, .int σ.2.2.2.2.1, .int σ.2.2.2.2.2.1, .long σ.2.2.2.2.2.2.1, .ref so, .ref be, .int σ.2.2.2.2.2.2.2.2.2.1, .int σ.2.2.2.2.2.2.2.2.2.2.1, .int σ.2.2.2.2.2.2.2.2.2.2.2.1, .int σ.2.2.2.2.2.2.2.2.2.2.2.2])), (w0, .inl (cJ, 511, .inr (.inl (σ.2.2.2.1)))), (so, .inl (cI, 30, .inl (σ.2.2.2.2.2.2.2.1))), (be, .inl (cI, 30, .inl (σ.2.2.2.2.2.2.2.2.1)))] H → va_D A [(h0, .inr (3, [.int σ.1, .int σ.2.1, .int σ.2.2.1, .ref w0, .int σ.2.2.2.2.1, .int σ.2.2.2.2.2.1, .long σ.2.2.2.2.2.2.1, .ref so, .ref be, .int σ.2.2.2.2.2.2.2.2.2.1, .int σ.2.2.2.2.2.2.2.2.2.2.1, .int σ.2.2.2.2.2.2.2.2.2.2.2.1, .int σ.2.2.2.2.2.2.2.2.2.2.2.2])), (w0, .inl (cJ, 511, .inr (.inl (σ.2.2.2.1)))), (so, .inl (cI, 30, .inl (σ.2.2.2.2.2.2.2.1))), (be, .inl (cI, 30, .inl (σ.2.2.2.2.2.2.2.2.1)))] → va_S A s.heap H locs → lv_has ls 7 [(2, .int x2), (1, .int x1), (0, .ref h0)] → W p l e (headSpec wsX4_fills ({ frames := 1, cells := 0, slots := 0, locals := 22 } : Room)).room s m ([.ref h0] : List Value).toArray below meth c H locs 0 0 (MQ below (va_Qv (fun u => ∃ σ', post σ' ∧ u = (cl4 h0 w0 so be cJ cI (σ'))) (kB (dC, dI) [(cJ, .long), (cI, .int)] A) A) ([.ref h0] : List Value).toArray s 0 0 A) (F0 m 17 ls []) := by
    intro x1 n
    induction n with
    | zero => intro x2 σ k hw; exact absurd hw id
    | succ n ih =>
      intro x2 σ k hw hk H locs ls hP hD hS hl
      unfold wl_X4_fills_17 at hw
      refine lv_iload_n hx hb dX4_fills_17 rfl (lv_at hl 0 rfl) ?_
      refine lv_iconst (v := (1 : Int32)) hx hb dX4_fills_18 (by decide) ?_
      refine lv_iload_n hx hb dX4_fills_19 rfl (lv_at hl 1 rfl) ?_
      refine lv_ishl hx hb dX4_fills_20 ?_
      refine lv_icmp_ge (tgt := 172) hx hb dX4_fills_21 (by decide) (fun c3 => ?_) (fun c3 => ?_)
      · have hw := hw.1 c3
        exact hk x2 σ hw H locs ls hP hD hS (lv_sub hl [0, 1, 2] rfl)
      · have hw := hw.2 c3
        refine lv_iload_n hx hb dX4_fills_24 rfl (lv_at hl 0 rfl) ?_
        refine lv_iconst (v := (1 : Int32)) hx hb dX4_fills_25 (by decide) ?_
        refine lv_iand hx hb dX4_fills_26 ?_
        refine lv_if_ne (tgt := 50) hx hb dX4_fills_27 (by decide) (fun c4 => ?_) (fun c4 => ?_)
        · have hw := hw.1 c4
          refine lv_iload_n hx hb dX4_fills_50 rfl (lv_at hl 0 rfl) ?_
          refine lv_iload_n hx hb dX4_fills_51 rfl (lv_at hl 1 rfl) ?_
          refine lv_iconst (v := (1 : Int32)) hx hb dX4_fills_52 (by decide) ?_
          refine lv_isub hx hb dX4_fills_53 ?_
          refine lv_ishr hx hb dX4_fills_54 ?_
          refine lv_iconst (v := (1 : Int32)) hx hb dX4_fills_55 (by decide) ?_
          refine lv_iand hx hb dX4_fills_56 ?_
          refine lv_iconst (v := (1 : Int32)) hx hb dX4_fills_57 (by decide) ?_
          refine lv_icmp_ne (tgt := 87) hx hb dX4_fills_58 (by decide) (fun c5 => ?_) (fun c5 => ?_)
          · have hw := hw.1 c5
            refine lv_iconst (v := (0 : Int32)) hx hb dX4_fills_87 (by decide) ?_
            refine lv_istore (lv' := [(5, .int (0 : Int32)), (2, .int x2), (1, .int x1), (0, .ref h0)]) hx hb dX4_fills_88 hl (by decide) rfl (fun ls hl => ?_)
            refine L90 x1 x2 σ (20000) (0 : Int32) _ hw (fun x5_7 hw H locs ls hP hD hS hl => ?_) H locs ls hP hD hS (lv_sub hl [0, 1, 2, 3] rfl)
            refine lv_iload_n hx hb dX4_fills_106 rfl (lv_at hl 1 rfl) ?_
            refine lv_iconst (v := (1 : Int32)) hx hb dX4_fills_107 (by decide) ?_
            refine lv_iload hx hb dX4_fills_108 (lv_at hl 0 rfl) ?_
            refine lv_ishl hx hb dX4_fills_110 ?_
            refine lv_iconst (v := (1 : Int32)) hx hb dX4_fills_111 (by decide) ?_
            refine lv_isub hx hb dX4_fills_112 ?_
            refine lv_iand hx hb dX4_fills_113 ?_
            refine lv_iload_n hx hb dX4_fills_114 rfl (lv_at hl 1 rfl) ?_
            refine lv_iload hx hb dX4_fills_115 (lv_at hl 0 rfl) ?_
            refine lv_iconst (v := (2 : Int32)) hx hb dX4_fills_117 (by decide) ?_
            refine lv_iadd hx hb dX4_fills_118 ?_
            refine lv_ishr hx hb dX4_fills_119 ?_
            refine lv_iload hx hb dX4_fills_120 (lv_at hl 0 rfl) ?_
            refine lv_iconst (v := (1 : Int32)) hx hb dX4_fills_122 (by decide) ?_
            refine lv_iadd hx hb dX4_fills_123 ?_
            refine lv_ishl hx hb dX4_fills_124 ?_
            refine lv_ior hx hb dX4_fills_125 ?_
            refine lv_istore (lv' := [(6, .int ((x2 &&& (((1 : Int32) <<< (x5_7 &&& (31 : Int32))) - (1 : Int32))) ||| ((x2 >>> ((x5_7 + (2 : Int32)) &&& (31 : Int32))) <<< ((x5_7 + (1 : Int32)) &&& (31 : Int32))))), (5, .int x5_7), (2, .int x2), (1, .int x1), (0, .ref h0)]) hx hb dX4_fills_126 hl (by decide) rfl (fun ls hl => ?_)
            refine lv_aload_n hx hb dX4_fills_128 rfl (lv_at hl 4 rfl) ?_
            refine lv_iload_n hx hb dX4_fills_129 rfl (lv_at hl 3 rfl) ?_
            refine lv_iconst (v := (1 : Int32)) hx hb dX4_fills_130 (by decide) ?_
            refine lv_isub hx hb dX4_fills_131 ?_
            refine lv_iload hx hb dX4_fills_132 (lv_at hl 0 rfl) ?_
            refine lv_iconst (v := (1 : Int32)) hx hb dX4_fills_134 (by decide) ?_
            refine lv_iload hx hb dX4_fills_135 (lv_at hl 1 rfl) ?_
            refine lv_ishl hx hb dX4_fills_137 ?_
            refine lv_ior hx hb dX4_fills_138 ?_
            have hPc := hP
            have hDc := hD
            have hKc := hK
            have hFc := va_free (wc := [(h0, .inr (3, [.int σ.1, .int σ.2.1, .int σ.2.2.1, .ref w0, .int σ.2.2.2.2.1, .int σ.2.2.2.2.2.1, .long σ.2.2.2.2.2.2.1, .ref so, .ref be, .int σ.2.2.2.2.2.2.2.2.2.1, .int σ.2.2.2.2.2.2.2.2.2.2.1, .int σ.2.2.2.2.2.2.2.2.2.2.2.1, .int σ.2.2.2.2.2.2.2.2.2.2.2.2])), (w0, .inl (cJ, 511, .inr (.inl (σ.2.2.2.1)))), (so, .inl (cI, 30, .inl (σ.2.2.2.2.2.2.2.1))), (be, .inl (cI, 30, .inl (σ.2.2.2.2.2.2.2.2.1)))]) hD hS hA [0, 1, 2, 3] rfl
            refine kc_l (wr := ([] : va_W)) (kr_V (As := [.int (x1 - (1 : Int32)), .int (((x2 &&& (((1 : Int32) <<< (x5_7 &&& (31 : Int32))) - (1 : Int32))) ||| ((x2 >>> ((x5_7 + (2 : Int32)) &&& (31 : Int32))) <<< ((x5_7 + (1 : Int32)) &&& (31 : Int32)))) ||| ((1 : Int32) <<< (x5_7 &&& (31 : Int32))))]) (rest := []) (b := h0) (ws := [(h0, .inr (3, [.int σ.1, .int σ.2.1, .int σ.2.2.1, .ref w0, .int σ.2.2.2.2.1, .int σ.2.2.2.2.2.1, .long σ.2.2.2.2.2.2.1, .ref so, .ref be, .int σ.2.2.2.2.2.2.2.2.2.1, .int σ.2.2.2.2.2.2.2.2.2.2.1, .int σ.2.2.2.2.2.2.2.2.2.2.2.1, .int σ.2.2.2.2.2.2.2.2.2.2.2.2])), (w0, .inl (cJ, 511, .inr (.inl (σ.2.2.2.1)))), (so, .inl (cI, 30, .inl (σ.2.2.2.2.2.2.2.1))), (be, .inl (cI, 30, .inl (σ.2.2.2.2.2.2.2.2.1)))]) ⟨hx, hb, hml, hown, hts⟩ (c_X4_weigh l dC dI h0 w0 so be cJ cI σ (x1 - (1 : Int32)) (((x2 &&& (((1 : Int32) <<< (x5_7 &&& (31 : Int32))) - (1 : Int32))) ||| ((x2 >>> ((x5_7 + (2 : Int32)) &&& (31 : Int32))) <<< ((x5_7 + (1 : Int32)) &&& (31 : Int32)))) ||| ((1 : Int32) <<< (x5_7 &&& (31 : Int32)))) _ hw H.size) (cwV 2 hts gX4_fills_X4_weigh rfl rfl rfl (by decide +kernel) ⟨Nat.le_of_ble_eq_true rfl, Nat.le_of_ble_eq_true rfl⟩) 3 0 hK rfl rfl rfl hKc hnw hP hD hPc hDc rfl hl.1 rfl (Nat.le_of_ble_eq_true rfl) dX4_fills_139 ⟨Nat.zero_le _, Nat.zero_le _⟩) hP hD hS hFc [0, 1, 2, 3] [] rfl rfl (by decide) (by decide) (fun r9 u1 H locs hq hP hD hS => ?_)
            obtain ⟨hw, rfl⟩ := hq
            have hP : va_P (dC, dI) vwCl [(h0, .inr (3, [.int σ.1, .int σ.2.1, .int σ.2.2.1, .ref w0, .int σ.2.2.2.2.1, .int σ.2.2.2.2.2.1, .long σ.2.2.2.2.2.2.1, .ref so, .ref be, .int σ.2.2.2.2.2.2.2.2.2.1, .int σ.2.2.2.2.2.2.2.2.2.2.1, .int σ.2.2.2.2.2.2.2.2.2.2.2.1, .int σ.2.2.2.2.2.2.2.2.2.2.2.2])), (w0, .inl (cJ, 511, .inr (.inl (σ.2.2.2.1)))), (so, .inl (cI, 30, .inl (σ.2.2.2.2.2.2.2.1))), (be, .inl (cI, 30, .inl (σ.2.2.2.2.2.2.2.2.1)))] H := hP
            have hD : va_D A [(h0, .inr (3, [.int σ.1, .int σ.2.1, .int σ.2.2.1, .ref w0, .int σ.2.2.2.2.1, .int σ.2.2.2.2.2.1, .long σ.2.2.2.2.2.2.1, .ref so, .ref be, .int σ.2.2.2.2.2.2.2.2.2.1, .int σ.2.2.2.2.2.2.2.2.2.2.1, .int σ.2.2.2.2.2.2.2.2.2.2.2.1, .int σ.2.2.2.2.2.2.2.2.2.2.2.2])), (w0, .inl (cJ, 511, .inr (.inl (σ.2.2.2.1)))), (so, .inl (cI, 30, .inl (σ.2.2.2.2.2.2.2.1))), (be, .inl (cI, 30, .inl (σ.2.2.2.2.2.2.2.2.1)))] := hD
            refine lv_aload_n hx hb dX4_fills_142 rfl (lv_at hl 4 rfl) ?_
            refine lv_iload_n hx hb dX4_fills_143 rfl (lv_at hl 3 rfl) ?_
            refine lv_iconst (v := (1 : Int32)) hx hb dX4_fills_144 (by decide) ?_
            refine lv_isub hx hb dX4_fills_145 ?_
            refine lv_iload hx hb dX4_fills_146 (lv_at hl 0 rfl) ?_
            have hPc := hP
            have hDc := hD
            have hKc := hK
            have hFc := va_free (wc := [(h0, .inr (3, [.int σ.1, .int σ.2.1, .int σ.2.2.1, .ref w0, .int σ.2.2.2.2.1, .int σ.2.2.2.2.2.1, .long σ.2.2.2.2.2.2.1, .ref so, .ref be, .int σ.2.2.2.2.2.2.2.2.2.1, .int σ.2.2.2.2.2.2.2.2.2.2.1, .int σ.2.2.2.2.2.2.2.2.2.2.2.1, .int σ.2.2.2.2.2.2.2.2.2.2.2.2])), (w0, .inl (cJ, 511, .inr (.inl (σ.2.2.2.1)))), (so, .inl (cI, 30, .inl (σ.2.2.2.2.2.2.2.1))), (be, .inl (cI, 30, .inl (σ.2.2.2.2.2.2.2.2.1)))]) hD hS hA [0, 1, 2, 3] rfl
            refine kc_l (wr := ([] : va_W)) (kr_V (As := [.int (x1 - (1 : Int32)), .int ((x2 &&& (((1 : Int32) <<< (x5_7 &&& (31 : Int32))) - (1 : Int32))) ||| ((x2 >>> ((x5_7 + (2 : Int32)) &&& (31 : Int32))) <<< ((x5_7 + (1 : Int32)) &&& (31 : Int32))))]) (rest := [.long r9]) (b := h0) (ws := [(h0, .inr (3, [.int σ.1, .int σ.2.1, .int σ.2.2.1, .ref w0, .int σ.2.2.2.2.1, .int σ.2.2.2.2.2.1, .long σ.2.2.2.2.2.2.1, .ref so, .ref be, .int σ.2.2.2.2.2.2.2.2.2.1, .int σ.2.2.2.2.2.2.2.2.2.2.1, .int σ.2.2.2.2.2.2.2.2.2.2.2.1, .int σ.2.2.2.2.2.2.2.2.2.2.2.2])), (w0, .inl (cJ, 511, .inr (.inl (σ.2.2.2.1)))), (so, .inl (cI, 30, .inl (σ.2.2.2.2.2.2.2.1))), (be, .inl (cI, 30, .inl (σ.2.2.2.2.2.2.2.2.1)))]) ⟨hx, hb, hml, hown, hts⟩ (c_X4_weigh l dC dI h0 w0 so be cJ cI σ (x1 - (1 : Int32)) ((x2 &&& (((1 : Int32) <<< (x5_7 &&& (31 : Int32))) - (1 : Int32))) ||| ((x2 >>> ((x5_7 + (2 : Int32)) &&& (31 : Int32))) <<< ((x5_7 + (1 : Int32)) &&& (31 : Int32)))) _ hw H.size) (cwV 2 hts gX4_fills_X4_weigh rfl rfl rfl (by decide +kernel) ⟨Nat.le_of_ble_eq_true rfl, Nat.le_of_ble_eq_true rfl⟩) 3 0 hK rfl rfl rfl hKc hnw hP hD hPc hDc rfl hl.1 rfl (Nat.le_of_ble_eq_true rfl) dX4_fills_148 ⟨Nat.zero_le _, Nat.zero_le _⟩) hP hD hS hFc [0, 1, 2, 3] [] rfl rfl (by decide) (by decide) (fun r11 u1 H locs hq hP hD hS => ?_)
            obtain ⟨hw, rfl⟩ := hq
            have hP : va_P (dC, dI) vwCl [(h0, .inr (3, [.int σ.1, .int σ.2.1, .int σ.2.2.1, .ref w0, .int σ.2.2.2.2.1, .int σ.2.2.2.2.2.1, .long σ.2.2.2.2.2.2.1, .ref so, .ref be, .int σ.2.2.2.2.2.2.2.2.2.1, .int σ.2.2.2.2.2.2.2.2.2.2.1, .int σ.2.2.2.2.2.2.2.2.2.2.2.1, .int σ.2.2.2.2.2.2.2.2.2.2.2.2])), (w0, .inl (cJ, 511, .inr (.inl (σ.2.2.2.1)))), (so, .inl (cI, 30, .inl (σ.2.2.2.2.2.2.2.1))), (be, .inl (cI, 30, .inl (σ.2.2.2.2.2.2.2.2.1)))] H := hP
            have hD : va_D A [(h0, .inr (3, [.int σ.1, .int σ.2.1, .int σ.2.2.1, .ref w0, .int σ.2.2.2.2.1, .int σ.2.2.2.2.2.1, .long σ.2.2.2.2.2.2.1, .ref so, .ref be, .int σ.2.2.2.2.2.2.2.2.2.1, .int σ.2.2.2.2.2.2.2.2.2.2.1, .int σ.2.2.2.2.2.2.2.2.2.2.2.1, .int σ.2.2.2.2.2.2.2.2.2.2.2.2])), (w0, .inl (cJ, 511, .inr (.inl (σ.2.2.2.1)))), (so, .inl (cI, 30, .inl (σ.2.2.2.2.2.2.2.1))), (be, .inl (cI, 30, .inl (σ.2.2.2.2.2.2.2.2.1)))] := hD
            refine lv_ladd hx hb dX4_fills_151 ?_
            refine lv_lstore_n (lv' := [(3, .long (r9 + r11)), (6, .int ((x2 &&& (((1 : Int32) <<< (x5_7 &&& (31 : Int32))) - (1 : Int32))) ||| ((x2 >>> ((x5_7 + (2 : Int32)) &&& (31 : Int32))) <<< ((x5_7 + (1 : Int32)) &&& (31 : Int32))))), (5, .int x5_7), (2, .int x2), (1, .int x1), (0, .ref h0)]) hx hb dX4_fills_152 rfl hl (by decide) rfl (fun ls hl => ?_)
            refine lv_aload_n hx hb dX4_fills_153 rfl (lv_at hl 5 rfl) ?_
            refine va_get (D := (dC, dI)) (ci := 3) (v := .ref w0) (C := RX4) (T := TX4) (N := 13) hx hb hts hin0 hown hK hP 0 rfl rfl 3 (by decide) fl_19 (fun _ h9 => h9) rfl dX4_fills_154 ?_
            refine lv_iconst (v := (1 : Int32)) hx hb dX4_fills_157 (by decide) ?_
            refine lv_iload_n hx hb dX4_fills_158 rfl (lv_at hl 4 rfl) ?_
            refine lv_ishl hx hb dX4_fills_159 ?_
            refine lv_iconst (v := (1 : Int32)) hx hb dX4_fills_160 (by decide) ?_
            refine lv_isub hx hb dX4_fills_161 ?_
            refine lv_iload_n hx hb dX4_fills_162 rfl (lv_at hl 3 rfl) ?_
            refine lv_iadd hx hb dX4_fills_163 ?_
            refine lv_lload_n hx hb dX4_fills_164 rfl (lv_at hl 0 rfl) ?_
            have z13 := hw.1
            have hw := hw.2
            refine va_last hx hb hK hP hD hS 1 0 rfl rfl z13 dX4_fills_165 (fun H locs hP hD hS => ?_)
            have hP : va_P (dC, dI) vwCl [(h0, .inr (3, [.int σ.1, .int σ.2.1, .int σ.2.2.1, .ref w0, .int σ.2.2.2.2.1, .int σ.2.2.2.2.2.1, .long σ.2.2.2.2.2.2.1, .ref so, .ref be, .int σ.2.2.2.2.2.2.2.2.2.1, .int σ.2.2.2.2.2.2.2.2.2.2.1, .int σ.2.2.2.2.2.2.2.2.2.2.2.1, .int σ.2.2.2.2.2.2.2.2.2.2.2.2])), (w0, .inl (cJ, 511, .inr (.inl ((vp_updL σ.2.2.2.1 ((((1 : Int32) <<< (x1 &&& (31 : Int32))) - (1 : Int32)) + x2).toNatClampNeg (r9 + r11)))))), (so, .inl (cI, 30, .inl (σ.2.2.2.2.2.2.2.1))), (be, .inl (cI, 30, .inl (σ.2.2.2.2.2.2.2.2.1)))] H := hP
            have hD : va_D A [(h0, .inr (3, [.int σ.1, .int σ.2.1, .int σ.2.2.1, .ref w0, .int σ.2.2.2.2.1, .int σ.2.2.2.2.2.1, .long σ.2.2.2.2.2.2.1, .ref so, .ref be, .int σ.2.2.2.2.2.2.2.2.2.1, .int σ.2.2.2.2.2.2.2.2.2.2.1, .int σ.2.2.2.2.2.2.2.2.2.2.2.1, .int σ.2.2.2.2.2.2.2.2.2.2.2.2])), (w0, .inl (cJ, 511, .inr (.inl ((vp_updL σ.2.2.2.1 ((((1 : Int32) <<< (x1 &&& (31 : Int32))) - (1 : Int32)) + x2).toNatClampNeg (r9 + r11)))))), (so, .inl (cI, 30, .inl (σ.2.2.2.2.2.2.2.1))), (be, .inl (cI, 30, .inl (σ.2.2.2.2.2.2.2.2.1)))] := hD
            refine lv_iinc (v := (x2 + (1 : Int32))) (lv' := [(2, .int (x2 + (1 : Int32))), (3, .long (r9 + r11)), (6, .int ((x2 &&& (((1 : Int32) <<< (x5_7 &&& (31 : Int32))) - (1 : Int32))) ||| ((x2 >>> ((x5_7 + (2 : Int32)) &&& (31 : Int32))) <<< ((x5_7 + (1 : Int32)) &&& (31 : Int32))))), (5, .int x5_7), (1, .int x1), (0, .ref h0)]) hx hb dX4_fills_166 hl (k := 3) rfl rfl (by decide) rfl (fun ls hl => ?_)
            refine lv_goto (tgt := 17) hx hb dX4_fills_169 (by decide) ?_
            exact ih (x2 + (1 : Int32)) (σ.1, σ.2.1, σ.2.2.1, (vp_updL σ.2.2.2.1 ((((1 : Int32) <<< (x1 &&& (31 : Int32))) - (1 : Int32)) + x2).toNatClampNeg (r9 + r11)), σ.2.2.2.2.1, σ.2.2.2.2.2.1, σ.2.2.2.2.2.2.1, σ.2.2.2.2.2.2.2.1, σ.2.2.2.2.2.2.2.2.1, σ.2.2.2.2.2.2.2.2.2.1, σ.2.2.2.2.2.2.2.2.2.2.1, σ.2.2.2.2.2.2.2.2.2.2.2.1, σ.2.2.2.2.2.2.2.2.2.2.2.2) _ hw hk H locs ls hP hD hS (lv_sub hl [0, 4, 5] rfl)
          · have hw := hw.2 c5
            refine lv_aload_n hx hb dX4_fills_61 rfl (lv_at hl 2 rfl) ?_
            refine va_get (D := (dC, dI)) (ci := 3) (v := .int σ.2.2.1) (C := RX4) (T := TX4) (N := 13) hx hb hts hin0 hown hK hP 0 rfl rfl 2 (by decide) fl_16 (fun _ h9 => h9) rfl dX4_fills_62 ?_
            refine lv_i2l hx hb dX4_fills_65 rfl ?_
            refine lv_aload_n hx hb dX4_fills_66 rfl (lv_at hl 2 rfl) ?_
            refine lv_iload_n hx hb dX4_fills_67 rfl (lv_at hl 1 rfl) ?_
            refine lv_iconst (v := (1 : Int32)) hx hb dX4_fills_68 (by decide) ?_
            refine lv_isub hx hb dX4_fills_69 ?_
            refine lv_iload_n hx hb dX4_fills_70 rfl (lv_at hl 0 rfl) ?_
            refine lv_iconst (v := (1 : Int32)) hx hb dX4_fills_71 (by decide) ?_
            refine lv_iload_n hx hb dX4_fills_72 rfl (lv_at hl 1 rfl) ?_
            refine lv_iconst (v := (1 : Int32)) hx hb dX4_fills_73 (by decide) ?_
            refine lv_isub hx hb dX4_fills_74 ?_
            refine lv_ishl hx hb dX4_fills_75 ?_
            refine lv_iconst (v := (1 : Int32)) hx hb dX4_fills_76 (by decide) ?_
            refine lv_isub hx hb dX4_fills_77 ?_
            refine lv_iand hx hb dX4_fills_78 ?_
            have hPc := hP
            have hDc := hD
            have hKc := hK
            have hFc := va_free (wc := [(h0, .inr (3, [.int σ.1, .int σ.2.1, .int σ.2.2.1, .ref w0, .int σ.2.2.2.2.1, .int σ.2.2.2.2.2.1, .long σ.2.2.2.2.2.2.1, .ref so, .ref be, .int σ.2.2.2.2.2.2.2.2.2.1, .int σ.2.2.2.2.2.2.2.2.2.2.1, .int σ.2.2.2.2.2.2.2.2.2.2.2.1, .int σ.2.2.2.2.2.2.2.2.2.2.2.2])), (w0, .inl (cJ, 511, .inr (.inl (σ.2.2.2.1)))), (so, .inl (cI, 30, .inl (σ.2.2.2.2.2.2.2.1))), (be, .inl (cI, 30, .inl (σ.2.2.2.2.2.2.2.2.1)))]) hD hS hA [0, 1, 2, 3] rfl
            refine kc_l (wr := ([] : va_W)) (kr_V (As := [.int (x1 - (1 : Int32)), .int (x2 &&& (((1 : Int32) <<< ((x1 - (1 : Int32)) &&& (31 : Int32))) - (1 : Int32)))]) (rest := [.long (σ.2.2.1.toInt64)]) (b := h0) (ws := [(h0, .inr (3, [.int σ.1, .int σ.2.1, .int σ.2.2.1, .ref w0, .int σ.2.2.2.2.1, .int σ.2.2.2.2.2.1, .long σ.2.2.2.2.2.2.1, .ref so, .ref be, .int σ.2.2.2.2.2.2.2.2.2.1, .int σ.2.2.2.2.2.2.2.2.2.2.1, .int σ.2.2.2.2.2.2.2.2.2.2.2.1, .int σ.2.2.2.2.2.2.2.2.2.2.2.2])), (w0, .inl (cJ, 511, .inr (.inl (σ.2.2.2.1)))), (so, .inl (cI, 30, .inl (σ.2.2.2.2.2.2.2.1))), (be, .inl (cI, 30, .inl (σ.2.2.2.2.2.2.2.2.1)))]) ⟨hx, hb, hml, hown, hts⟩ (c_X4_weigh l dC dI h0 w0 so be cJ cI σ (x1 - (1 : Int32)) (x2 &&& (((1 : Int32) <<< ((x1 - (1 : Int32)) &&& (31 : Int32))) - (1 : Int32))) _ hw H.size) (cwV 2 hts gX4_fills_X4_weigh rfl rfl rfl (by decide +kernel) ⟨Nat.le_of_ble_eq_true rfl, Nat.le_of_ble_eq_true rfl⟩) 3 0 hK rfl rfl rfl hKc hnw hP hD hPc hDc rfl hl.1 rfl (Nat.le_of_ble_eq_true rfl) dX4_fills_79 ⟨Nat.zero_le _, Nat.zero_le _⟩) hP hD hS hFc [0, 1, 2, 3] [] rfl rfl (by decide) (by decide) (fun r14 u1 H locs hq hP hD hS => ?_)
            obtain ⟨hw, rfl⟩ := hq
            have hP : va_P (dC, dI) vwCl [(h0, .inr (3, [.int σ.1, .int σ.2.1, .int σ.2.2.1, .ref w0, .int σ.2.2.2.2.1, .int σ.2.2.2.2.2.1, .long σ.2.2.2.2.2.2.1, .ref so, .ref be, .int σ.2.2.2.2.2.2.2.2.2.1, .int σ.2.2.2.2.2.2.2.2.2.2.1, .int σ.2.2.2.2.2.2.2.2.2.2.2.1, .int σ.2.2.2.2.2.2.2.2.2.2.2.2])), (w0, .inl (cJ, 511, .inr (.inl (σ.2.2.2.1)))), (so, .inl (cI, 30, .inl (σ.2.2.2.2.2.2.2.1))), (be, .inl (cI, 30, .inl (σ.2.2.2.2.2.2.2.2.1)))] H := hP
            have hD : va_D A [(h0, .inr (3, [.int σ.1, .int σ.2.1, .int σ.2.2.1, .ref w0, .int σ.2.2.2.2.1, .int σ.2.2.2.2.2.1, .long σ.2.2.2.2.2.2.1, .ref so, .ref be, .int σ.2.2.2.2.2.2.2.2.2.1, .int σ.2.2.2.2.2.2.2.2.2.2.1, .int σ.2.2.2.2.2.2.2.2.2.2.2.1, .int σ.2.2.2.2.2.2.2.2.2.2.2.2])), (w0, .inl (cJ, 511, .inr (.inl (σ.2.2.2.1)))), (so, .inl (cI, 30, .inl (σ.2.2.2.2.2.2.2.1))), (be, .inl (cI, 30, .inl (σ.2.2.2.2.2.2.2.2.1)))] := hD
            refine lv_lmul hx hb dX4_fills_82 ?_
            refine lv_lstore_n (lv' := [(3, .long ((σ.2.2.1.toInt64) * r14)), (2, .int x2), (1, .int x1), (0, .ref h0)]) hx hb dX4_fills_83 rfl hl (by decide) rfl (fun ls hl => ?_)
            refine lv_goto (tgt := 153) hx hb dX4_fills_84 (by decide) ?_
            refine lv_aload_n hx hb dX4_fills_153 rfl (lv_at hl 3 rfl) ?_
            refine va_get (D := (dC, dI)) (ci := 3) (v := .ref w0) (C := RX4) (T := TX4) (N := 13) hx hb hts hin0 hown hK hP 0 rfl rfl 3 (by decide) fl_19 (fun _ h9 => h9) rfl dX4_fills_154 ?_
            refine lv_iconst (v := (1 : Int32)) hx hb dX4_fills_157 (by decide) ?_
            refine lv_iload_n hx hb dX4_fills_158 rfl (lv_at hl 2 rfl) ?_
            refine lv_ishl hx hb dX4_fills_159 ?_
            refine lv_iconst (v := (1 : Int32)) hx hb dX4_fills_160 (by decide) ?_
            refine lv_isub hx hb dX4_fills_161 ?_
            refine lv_iload_n hx hb dX4_fills_162 rfl (lv_at hl 1 rfl) ?_
            refine lv_iadd hx hb dX4_fills_163 ?_
            refine lv_lload_n hx hb dX4_fills_164 rfl (lv_at hl 0 rfl) ?_
            have z16 := hw.1
            have hw := hw.2
            refine va_last hx hb hK hP hD hS 1 0 rfl rfl z16 dX4_fills_165 (fun H locs hP hD hS => ?_)
            have hP : va_P (dC, dI) vwCl [(h0, .inr (3, [.int σ.1, .int σ.2.1, .int σ.2.2.1, .ref w0, .int σ.2.2.2.2.1, .int σ.2.2.2.2.2.1, .long σ.2.2.2.2.2.2.1, .ref so, .ref be, .int σ.2.2.2.2.2.2.2.2.2.1, .int σ.2.2.2.2.2.2.2.2.2.2.1, .int σ.2.2.2.2.2.2.2.2.2.2.2.1, .int σ.2.2.2.2.2.2.2.2.2.2.2.2])), (w0, .inl (cJ, 511, .inr (.inl ((vp_updL σ.2.2.2.1 ((((1 : Int32) <<< (x1 &&& (31 : Int32))) - (1 : Int32)) + x2).toNatClampNeg ((σ.2.2.1.toInt64) * r14)))))), (so, .inl (cI, 30, .inl (σ.2.2.2.2.2.2.2.1))), (be, .inl (cI, 30, .inl (σ.2.2.2.2.2.2.2.2.1)))] H := hP
            have hD : va_D A [(h0, .inr (3, [.int σ.1, .int σ.2.1, .int σ.2.2.1, .ref w0, .int σ.2.2.2.2.1, .int σ.2.2.2.2.2.1, .long σ.2.2.2.2.2.2.1, .ref so, .ref be, .int σ.2.2.2.2.2.2.2.2.2.1, .int σ.2.2.2.2.2.2.2.2.2.2.1, .int σ.2.2.2.2.2.2.2.2.2.2.2.1, .int σ.2.2.2.2.2.2.2.2.2.2.2.2])), (w0, .inl (cJ, 511, .inr (.inl ((vp_updL σ.2.2.2.1 ((((1 : Int32) <<< (x1 &&& (31 : Int32))) - (1 : Int32)) + x2).toNatClampNeg ((σ.2.2.1.toInt64) * r14)))))), (so, .inl (cI, 30, .inl (σ.2.2.2.2.2.2.2.1))), (be, .inl (cI, 30, .inl (σ.2.2.2.2.2.2.2.2.1)))] := hD
            refine lv_iinc (v := (x2 + (1 : Int32))) (lv' := [(2, .int (x2 + (1 : Int32))), (3, .long ((σ.2.2.1.toInt64) * r14)), (1, .int x1), (0, .ref h0)]) hx hb dX4_fills_166 hl (k := 1) rfl rfl (by decide) rfl (fun ls hl => ?_)
            refine lv_goto (tgt := 17) hx hb dX4_fills_169 (by decide) ?_
            exact ih (x2 + (1 : Int32)) (σ.1, σ.2.1, σ.2.2.1, (vp_updL σ.2.2.2.1 ((((1 : Int32) <<< (x1 &&& (31 : Int32))) - (1 : Int32)) + x2).toNatClampNeg ((σ.2.2.1.toInt64) * r14)), σ.2.2.2.2.1, σ.2.2.2.2.2.1, σ.2.2.2.2.2.2.1, σ.2.2.2.2.2.2.2.1, σ.2.2.2.2.2.2.2.2.1, σ.2.2.2.2.2.2.2.2.2.1, σ.2.2.2.2.2.2.2.2.2.2.1, σ.2.2.2.2.2.2.2.2.2.2.2.1, σ.2.2.2.2.2.2.2.2.2.2.2.2) _ hw hk H locs ls hP hD hS (lv_sub hl [0, 2, 3] rfl)
        · have hw := hw.2 c4
          refine lv_aload_n hx hb dX4_fills_30 rfl (lv_at hl 2 rfl) ?_
          refine va_get (D := (dC, dI)) (ci := 3) (v := .int σ.2.1) (C := RX4) (T := TX4) (N := 13) hx hb hts hin0 hown hK hP 0 rfl rfl 1 (by decide) fl_13 (fun _ h9 => h9) rfl dX4_fills_31 ?_
          refine lv_i2l hx hb dX4_fills_34 rfl ?_
          refine lv_aload_n hx hb dX4_fills_35 rfl (lv_at hl 2 rfl) ?_
          refine lv_iload_n hx hb dX4_fills_36 rfl (lv_at hl 1 rfl) ?_
          refine lv_iconst (v := (1 : Int32)) hx hb dX4_fills_37 (by decide) ?_
          refine lv_isub hx hb dX4_fills_38 ?_
          refine lv_iload_n hx hb dX4_fills_39 rfl (lv_at hl 0 rfl) ?_
          refine lv_iconst (v := (1 : Int32)) hx hb dX4_fills_40 (by decide) ?_
          refine lv_ishr hx hb dX4_fills_41 ?_
          have hPc := hP
          have hDc := hD
          have hKc := hK
          have hFc := va_free (wc := [(h0, .inr (3, [.int σ.1, .int σ.2.1, .int σ.2.2.1, .ref w0, .int σ.2.2.2.2.1, .int σ.2.2.2.2.2.1, .long σ.2.2.2.2.2.2.1, .ref so, .ref be, .int σ.2.2.2.2.2.2.2.2.2.1, .int σ.2.2.2.2.2.2.2.2.2.2.1, .int σ.2.2.2.2.2.2.2.2.2.2.2.1, .int σ.2.2.2.2.2.2.2.2.2.2.2.2])), (w0, .inl (cJ, 511, .inr (.inl (σ.2.2.2.1)))), (so, .inl (cI, 30, .inl (σ.2.2.2.2.2.2.2.1))), (be, .inl (cI, 30, .inl (σ.2.2.2.2.2.2.2.2.1)))]) hD hS hA [0, 1, 2, 3] rfl
          refine kc_l (wr := ([] : va_W)) (kr_V (As := [.int (x1 - (1 : Int32)), .int (x2 >>> ((1 : Int32) &&& (31 : Int32)))]) (rest := [.long (σ.2.1.toInt64)]) (b := h0) (ws := [(h0, .inr (3, [.int σ.1, .int σ.2.1, .int σ.2.2.1, .ref w0, .int σ.2.2.2.2.1, .int σ.2.2.2.2.2.1, .long σ.2.2.2.2.2.2.1, .ref so, .ref be, .int σ.2.2.2.2.2.2.2.2.2.1, .int σ.2.2.2.2.2.2.2.2.2.2.1, .int σ.2.2.2.2.2.2.2.2.2.2.2.1, .int σ.2.2.2.2.2.2.2.2.2.2.2.2])), (w0, .inl (cJ, 511, .inr (.inl (σ.2.2.2.1)))), (so, .inl (cI, 30, .inl (σ.2.2.2.2.2.2.2.1))), (be, .inl (cI, 30, .inl (σ.2.2.2.2.2.2.2.2.1)))]) ⟨hx, hb, hml, hown, hts⟩ (c_X4_weigh l dC dI h0 w0 so be cJ cI σ (x1 - (1 : Int32)) (x2 >>> ((1 : Int32) &&& (31 : Int32))) _ hw H.size) (cwV 2 hts gX4_fills_X4_weigh rfl rfl rfl (by decide +kernel) ⟨Nat.le_of_ble_eq_true rfl, Nat.le_of_ble_eq_true rfl⟩) 3 0 hK rfl rfl rfl hKc hnw hP hD hPc hDc rfl hl.1 rfl (Nat.le_of_ble_eq_true rfl) dX4_fills_42 ⟨Nat.zero_le _, Nat.zero_le _⟩) hP hD hS hFc [0, 1, 2, 3] [] rfl rfl (by decide) (by decide) (fun r17 u1 H locs hq hP hD hS => ?_)
          obtain ⟨hw, rfl⟩ := hq
          have hP : va_P (dC, dI) vwCl [(h0, .inr (3, [.int σ.1, .int σ.2.1, .int σ.2.2.1, .ref w0, .int σ.2.2.2.2.1, .int σ.2.2.2.2.2.1, .long σ.2.2.2.2.2.2.1, .ref so, .ref be, .int σ.2.2.2.2.2.2.2.2.2.1, .int σ.2.2.2.2.2.2.2.2.2.2.1, .int σ.2.2.2.2.2.2.2.2.2.2.2.1, .int σ.2.2.2.2.2.2.2.2.2.2.2.2])), (w0, .inl (cJ, 511, .inr (.inl (σ.2.2.2.1)))), (so, .inl (cI, 30, .inl (σ.2.2.2.2.2.2.2.1))), (be, .inl (cI, 30, .inl (σ.2.2.2.2.2.2.2.2.1)))] H := hP
          have hD : va_D A [(h0, .inr (3, [.int σ.1, .int σ.2.1, .int σ.2.2.1, .ref w0, .int σ.2.2.2.2.1, .int σ.2.2.2.2.2.1, .long σ.2.2.2.2.2.2.1, .ref so, .ref be, .int σ.2.2.2.2.2.2.2.2.2.1, .int σ.2.2.2.2.2.2.2.2.2.2.1, .int σ.2.2.2.2.2.2.2.2.2.2.2.1, .int σ.2.2.2.2.2.2.2.2.2.2.2.2])), (w0, .inl (cJ, 511, .inr (.inl (σ.2.2.2.1)))), (so, .inl (cI, 30, .inl (σ.2.2.2.2.2.2.2.1))), (be, .inl (cI, 30, .inl (σ.2.2.2.2.2.2.2.2.1)))] := hD
          refine lv_lmul hx hb dX4_fills_45 ?_
          refine lv_lstore_n (lv' := [(3, .long ((σ.2.1.toInt64) * r17)), (2, .int x2), (1, .int x1), (0, .ref h0)]) hx hb dX4_fills_46 rfl hl (by decide) rfl (fun ls hl => ?_)
          refine lv_goto (tgt := 153) hx hb dX4_fills_47 (by decide) ?_
          refine lv_aload_n hx hb dX4_fills_153 rfl (lv_at hl 3 rfl) ?_
          refine va_get (D := (dC, dI)) (ci := 3) (v := .ref w0) (C := RX4) (T := TX4) (N := 13) hx hb hts hin0 hown hK hP 0 rfl rfl 3 (by decide) fl_19 (fun _ h9 => h9) rfl dX4_fills_154 ?_
          refine lv_iconst (v := (1 : Int32)) hx hb dX4_fills_157 (by decide) ?_
          refine lv_iload_n hx hb dX4_fills_158 rfl (lv_at hl 2 rfl) ?_
          refine lv_ishl hx hb dX4_fills_159 ?_
          refine lv_iconst (v := (1 : Int32)) hx hb dX4_fills_160 (by decide) ?_
          refine lv_isub hx hb dX4_fills_161 ?_
          refine lv_iload_n hx hb dX4_fills_162 rfl (lv_at hl 1 rfl) ?_
          refine lv_iadd hx hb dX4_fills_163 ?_
          refine lv_lload_n hx hb dX4_fills_164 rfl (lv_at hl 0 rfl) ?_
          have z19 := hw.1
          have hw := hw.2
          refine va_last hx hb hK hP hD hS 1 0 rfl rfl z19 dX4_fills_165 (fun H locs hP hD hS => ?_)
          have hP : va_P (dC, dI) vwCl [(h0, .inr (3, [.int σ.1, .int σ.2.1, .int σ.2.2.1, .ref w0, .int σ.2.2.2.2.1, .int σ.2.2.2.2.2.1, .long σ.2.2.2.2.2.2.1, .ref so, .ref be, .int σ.2.2.2.2.2.2.2.2.2.1, .int σ.2.2.2.2.2.2.2.2.2.2.1, .int σ.2.2.2.2.2.2.2.2.2.2.2.1, .int σ.2.2.2.2.2.2.2.2.2.2.2.2])), (w0, .inl (cJ, 511, .inr (.inl ((vp_updL σ.2.2.2.1 ((((1 : Int32) <<< (x1 &&& (31 : Int32))) - (1 : Int32)) + x2).toNatClampNeg ((σ.2.1.toInt64) * r17)))))), (so, .inl (cI, 30, .inl (σ.2.2.2.2.2.2.2.1))), (be, .inl (cI, 30, .inl (σ.2.2.2.2.2.2.2.2.1)))] H := hP
          have hD : va_D A [(h0, .inr (3, [.int σ.1, .int σ.2.1, .int σ.2.2.1, .ref w0, .int σ.2.2.2.2.1, .int σ.2.2.2.2.2.1, .long σ.2.2.2.2.2.2.1, .ref so, .ref be, .int σ.2.2.2.2.2.2.2.2.2.1, .int σ.2.2.2.2.2.2.2.2.2.2.1, .int σ.2.2.2.2.2.2.2.2.2.2.2.1, .int σ.2.2.2.2.2.2.2.2.2.2.2.2])), (w0, .inl (cJ, 511, .inr (.inl ((vp_updL σ.2.2.2.1 ((((1 : Int32) <<< (x1 &&& (31 : Int32))) - (1 : Int32)) + x2).toNatClampNeg ((σ.2.1.toInt64) * r17)))))), (so, .inl (cI, 30, .inl (σ.2.2.2.2.2.2.2.1))), (be, .inl (cI, 30, .inl (σ.2.2.2.2.2.2.2.2.1)))] := hD
          refine lv_iinc (v := (x2 + (1 : Int32))) (lv' := [(2, .int (x2 + (1 : Int32))), (3, .long ((σ.2.1.toInt64) * r17)), (1, .int x1), (0, .ref h0)]) hx hb dX4_fills_166 hl (k := 1) rfl rfl (by decide) rfl (fun ls hl => ?_)
          refine lv_goto (tgt := 17) hx hb dX4_fills_169 (by decide) ?_
          exact ih (x2 + (1 : Int32)) (σ.1, σ.2.1, σ.2.2.1, (vp_updL σ.2.2.2.1 ((((1 : Int32) <<< (x1 &&& (31 : Int32))) - (1 : Int32)) + x2).toNatClampNeg ((σ.2.1.toInt64) * r17)), σ.2.2.2.2.1, σ.2.2.2.2.2.1, σ.2.2.2.2.2.2.1, σ.2.2.2.2.2.2.2.1, σ.2.2.2.2.2.2.2.2.1, σ.2.2.2.2.2.2.2.2.2.1, σ.2.2.2.2.2.2.2.2.2.2.1, σ.2.2.2.2.2.2.2.2.2.2.2.1, σ.2.2.2.2.2.2.2.2.2.2.2.2) _ hw hk H locs ls hP hD hS (lv_sub hl [0, 2, 3] rfl)
  have L9 : ∀   (n : Nat) (x1 : Int32) (σ : SM) (k : Int32 → SM → Prop), wl_X4_fills_9   n x1 σ k →
      (∀ (x1 : Int32) (σ : SM), k x1 σ → ∀ (H : Heap) (locs : List Loc) (ls : Array Slot), va_P (dC, dI) vwCl [(h0, .inr (3, [.int σ.1, .int σ.2.1, .int σ.2.2.1, .ref w0, .int σ.2.2.2.2.1, .int σ.2.2.2.2.2.1, .long σ.2.2.2.2.2.2.1, .ref so, .ref be, .int σ.2.2.2.2.2.2.2.2.2.1, .int σ.2.2.2.2.2.2.2.2.2.2.1, .int σ.2.2.2.2.2.2.2.2.2.2.2.1, .int σ.2.2.2.2.2.2.2.2.2.2.2.2])), (w0, .inl (cJ, 511, .inr (.inl (σ.2.2.2.1)))), (so, .inl (cI, 30, .inl (σ.2.2.2.2.2.2.2.1))), (be, .inl (cI, 30, .inl (σ.2.2.2.2.2.2.2.2.1)))] H → va_D A [(h0, .inr (3, [.int σ.1, .int σ.2.1, .int σ.2.2.1, .ref w0, .int σ.2.2.2.2.1, .int σ.2.2.2.2.2.1, .long σ.2.2.2.2.2.2.1, .ref so, .ref be, .int σ.2.2.2.2.2.2.2.2.2.1, .int σ.2.2.2.2.2.2.2.2.2.2.1, .int σ.2.2.2.2.2.2.2.2.2.2.2.1, .int σ.2.2.2.2.2.2.2.2.2.2.2.2])), (w0, .inl (cJ, 511, .inr (.inl (σ.2.2.2.1)))), (so, .inl (cI, 30, .inl (σ.2.2.2.2.2.2.2.1))), (be, .inl (cI, 30, .inl (σ.2.2.2.2.2.2.2.2.1)))] → va_S A s.heap H locs → lv_has ls 7 [(1, .int x1), (0, .ref h0)] → W p l e (headSpec wsX4_fills ({ frames := 1, cells := 0, slots := 0, locals := 22 } : Room)).room s m ([.ref h0] : List Value).toArray below meth c H locs 0 0 (MQ below (va_Qv (fun u => ∃ σ', post σ' ∧ u = (cl4 h0 w0 so be cJ cI (σ'))) (kB (dC, dI) [(cJ, .long), (cI, .int)] A) A) ([.ref h0] : List Value).toArray s 0 0 A) (F0 m 178 ls [])) →
      ∀ (H : Heap) (locs : List Loc) (ls : Array Slot), va_P (dC, dI) vwCl [(h0, .inr (3, [.int σ.1, .int σ.2.1, .int σ.2.2.1, .ref w0, .int σ.2.2.2.2.1, .int σ.2.2.2.2.2.1, .long σ.2.2.2.2.2.2.1, .ref so, .ref be, .int σ.2.2.2.2.2.2.2.2.2.1, .int σ.2.2.2.2.2.2.2.2.2.2.1, .int σ.2.2.2.2.2.2.2.2.2.2.2.1, .int σ.2.2.2.2.2.2.2.2.2.2.2.2])), (w0, .inl (cJ, 511, .inr (.inl (σ.2.2.2.1)))), (so, .inl (cI, 30, .inl (σ.2.2.2.2.2.2.2.1))), (be, .inl (cI, 30, .inl (σ.2.2.2.2.2.2.2.2.1)))] H → va_D A [(h0, .inr (3, [.int σ.1, .int σ.2.1, .int σ.2.2.1, .ref w0, .int σ.2.2.2.2.1, .int σ.2.2.2.2.2.1, .long σ.2.2.2.2.2.2.1, .ref so, .ref be, .int σ.2.2.2.2.2.2.2.2.2.1, .int σ.2.2.2.2.2.2.2.2.2.2.1, .int σ.2.2.2.2.2.2.2.2.2.2.2.1, .int σ.2.2.2.2.2.2.2.2.2.2.2.2])), (w0, .inl (cJ, 511, .inr (.inl (σ.2.2.2.1)))), (so, .inl (cI, 30, .inl (σ.2.2.2.2.2.2.2.1))), (be, .inl (cI, 30, .inl (σ.2.2.2.2.2.2.2.2.1)))] → va_S A s.heap H locs → lv_has ls 7 [(1, .int x1), (0, .ref h0)] → W p l e (headSpec wsX4_fills ({ frames := 1, cells := 0, slots := 0, locals := 22 } : Room)).room s m ([.ref h0] : List Value).toArray below meth c H locs 0 0 (MQ below (va_Qv (fun u => ∃ σ', post σ' ∧ u = (cl4 h0 w0 so be cJ cI (σ'))) (kB (dC, dI) [(cJ, .long), (cI, .int)] A) A) ([.ref h0] : List Value).toArray s 0 0 A) (F0 m 9 ls []) := by
    intro  n
    induction n with
    | zero => intro x1 σ k hw; exact absurd hw id
    | succ n ih =>
      intro x1 σ k hw hk H locs ls hP hD hS hl
      unfold wl_X4_fills_9 at hw
      refine lv_iload_n hx hb dX4_fills_9 rfl (lv_at hl 0 rfl) ?_
      refine lv_bipush (v := (9 : Int32)) hx hb dX4_fills_10 (by decide) ?_
      refine lv_icmp_ge (tgt := 178) hx hb dX4_fills_12 (by decide) (fun c2 => ?_) (fun c2 => ?_)
      · have hw := hw.1 c2
        exact hk x1 σ hw H locs ls hP hD hS (lv_sub hl [0, 1] rfl)
      · have hw := hw.2 c2
        refine lv_iconst (v := (0 : Int32)) hx hb dX4_fills_15 (by decide) ?_
        refine lv_istore_n (lv' := [(2, .int (0 : Int32)), (1, .int x1), (0, .ref h0)]) hx hb dX4_fills_16 rfl hl (by decide) rfl (fun ls hl => ?_)
        refine L17 x1 (20000) (0 : Int32) σ _ hw (fun x2_20 σ21 hw H locs ls hP hD hS hl => ?_) H locs ls hP hD hS (lv_sub hl [0, 1, 2] rfl)
        refine lv_iinc (v := (x1 + (1 : Int32))) (lv' := [(1, .int (x1 + (1 : Int32))), (2, .int x2_20), (0, .ref h0)]) hx hb dX4_fills_172 hl (k := 1) rfl rfl (by decide) rfl (fun ls hl => ?_)
        refine lv_goto (tgt := 9) hx hb dX4_fills_175 (by decide) ?_
        exact ih (x1 + (1 : Int32)) σ21 _ hw hk H locs ls hP hD hS (lv_sub hl [0, 2] rfl)
  have hl := lv_entry ([.ref h0]) (n := 7) (Nat.le_of_ble_eq_true rfl)
  rw [lg_entry_eq]
  generalize (lg_sl ([.ref h0]) ++ List.replicate (7 - (lg_sl ([.ref h0])).length) Slot.unset).toArray = ls at hl ⊢
  have hl : lv_has ls 7 [(0, .ref h0)] := hl
  unfold wp_X4_fills at hw
  skip
  obtain ⟨H, hH⟩ : ∃ H, H = s.heap := ⟨_, rfl⟩
  obtain ⟨locs, hlo⟩ : ∃ q : List Loc, q = [] := ⟨_, rfl⟩
  rw [← hH] at hP
  have hS : va_S A s.heap H locs := by rw [hH, hlo]; exact hS
  suffices hgo : W p l e (headSpec wsX4_fills ({ frames := 1, cells := 0, slots := 0, locals := 22 } : Room)).room s m _ below meth c H locs 0 0 _ (F0 m 0 ls []) by rw [hH, hlo] at hgo; exact hgo
  refine lv_aload_n hx hb dX4_fills_0 rfl (lv_at hl 0 rfl) ?_
  refine va_get (D := (dC, dI)) (ci := 3) (v := .ref w0) (C := RX4) (T := TX4) (N := 13) hx hb hts hin0 hown hK hP 0 rfl rfl 3 (by decide) fl_19 (fun _ h9 => h9) rfl dX4_fills_1 ?_
  refine lv_iconst (v := (0 : Int32)) hx hb dX4_fills_4 (by decide) ?_
  refine lv_lconst (v := (1 : Int64)) hx hb dX4_fills_5 (by decide) ?_
  have z1 := hw.1
  have hw := hw.2
  refine va_last hx hb hK hP hD hS 1 0 rfl rfl z1 dX4_fills_6 (fun H locs hP hD hS => ?_)
  have hP : va_P (dC, dI) vwCl [(h0, .inr (3, [.int σ.1, .int σ.2.1, .int σ.2.2.1, .ref w0, .int σ.2.2.2.2.1, .int σ.2.2.2.2.2.1, .long σ.2.2.2.2.2.2.1, .ref so, .ref be, .int σ.2.2.2.2.2.2.2.2.2.1, .int σ.2.2.2.2.2.2.2.2.2.2.1, .int σ.2.2.2.2.2.2.2.2.2.2.2.1, .int σ.2.2.2.2.2.2.2.2.2.2.2.2])), (w0, .inl (cJ, 511, .inr (.inl ((vp_updL σ.2.2.2.1 (0 : Int32).toNatClampNeg (1 : Int64)))))), (so, .inl (cI, 30, .inl (σ.2.2.2.2.2.2.2.1))), (be, .inl (cI, 30, .inl (σ.2.2.2.2.2.2.2.2.1)))] H := hP
  have hD : va_D A [(h0, .inr (3, [.int σ.1, .int σ.2.1, .int σ.2.2.1, .ref w0, .int σ.2.2.2.2.1, .int σ.2.2.2.2.2.1, .long σ.2.2.2.2.2.2.1, .ref so, .ref be, .int σ.2.2.2.2.2.2.2.2.2.1, .int σ.2.2.2.2.2.2.2.2.2.2.1, .int σ.2.2.2.2.2.2.2.2.2.2.2.1, .int σ.2.2.2.2.2.2.2.2.2.2.2.2])), (w0, .inl (cJ, 511, .inr (.inl ((vp_updL σ.2.2.2.1 (0 : Int32).toNatClampNeg (1 : Int64)))))), (so, .inl (cI, 30, .inl (σ.2.2.2.2.2.2.2.1))), (be, .inl (cI, 30, .inl (σ.2.2.2.2.2.2.2.2.1)))] := hD
  refine lv_iconst (v := (1 : Int32)) hx hb dX4_fills_7 (by decide) ?_
  refine lv_istore_n (lv' := [(1, .int (1 : Int32)), (0, .ref h0)]) hx hb dX4_fills_8 rfl hl (by decide) rfl (fun ls hl => ?_)
  refine L9  (20000) (1 : Int32) (σ.1, σ.2.1, σ.2.2.1, (vp_updL σ.2.2.2.1 (0 : Int32).toNatClampNeg (1 : Int64)), σ.2.2.2.2.1, σ.2.2.2.2.2.1, σ.2.2.2.2.2.2.1, σ.2.2.2.2.2.2.2.1, σ.2.2.2.2.2.2.2.2.1, σ.2.2.2.2.2.2.2.2.2.1, σ.2.2.2.2.2.2.2.2.2.2.1, σ.2.2.2.2.2.2.2.2.2.2.2.1, σ.2.2.2.2.2.2.2.2.2.2.2.2) _ hw (fun x1_22 σ23 hw H locs ls hP hD hS hl => ?_) H locs ls hP hD hS (lv_sub hl [0, 1] rfl)
  exact W.vret hx hb hr (fun t ht hW => ⟨⟨((cl4 h0 w0 so be cJ cI σ23)), rfl, ⟨σ23, hw, rfl⟩, by rw [ht]; exact hP, va_K.moved hW.alike hK, hD⟩, hS.F ht⟩) hS.2.2 dX4_fills_178
set_option maxHeartbeats 4000000 in
set_option maxRecDepth 100000 in
theorem c_X4_row (l : Launch) (dC : Nat → ClassId) (dI : Nat → Nat → Nat) (h0 w0 so be : Nat) (cJ : ClassId) (cI : ClassId) (σ : SM) (p0 : Int32) (p1 : Int32) (p2 : Int32) (post : Int32 → SM → Prop) (hw : wp_X4_row p0 p1 p2 σ post) : KI l yX4_row wsX4_row ({ frames := 2, cells := 0, slots := 0, locals := 48 } : Room) (dC, dI) [(cJ, .long), (cI, .int)] (cl4 h0 w0 so be cJ cI σ) [.ref h0, .int p0, .int p1, .int p2] (fun r u => ∃ σ', post r σ' ∧ u = (cl4 h0 w0 so be cJ cI (σ'))) := by
  intro sz
  refine Met.ofW (cc := cX4_row) (maxL := 4) (ret := (some .int)) (by decide) rfl ?_
  intro p e s m args below meth c s₁ B hml hv
  obtain ⟨rfl, hsz, hP, hK, hD0, hnw⟩ := hv
  have hx := B.exec
  have hb := B.bytes
  have hr := B.returns
  have hts := atoms_spec (ws := wsX4_row) B.pre
  have hown : s.vm.findClass RX4 = some m.cls := findClass_of_methodNamed B.named
  have hlocks := B.notSynchronized
  subst hsz
  have hD := hD0.self (sz := s.heap.size)
  generalize hAe : va_A (cl4 h0 w0 so be cJ cI σ) s.heap.size = A at hD ⊢
  have hA : ∀ q : Nat, s.heap.size ≤ q → A q := fun q h => by rw [← hAe]; exact Or.inr h
  have hS : va_S A s.heap s.heap [] := va_S.rf
  have hP : va_P (dC, dI) vwCl [(h0, .inr (3, [.int σ.1, .int σ.2.1, .int σ.2.2.1, .ref w0, .int σ.2.2.2.2.1, .int σ.2.2.2.2.2.1, .long σ.2.2.2.2.2.2.1, .ref so, .ref be, .int σ.2.2.2.2.2.2.2.2.2.1, .int σ.2.2.2.2.2.2.2.2.2.2.1, .int σ.2.2.2.2.2.2.2.2.2.2.2.1, .int σ.2.2.2.2.2.2.2.2.2.2.2.2])), (w0, .inl (cJ, 511, .inr (.inl (σ.2.2.2.1)))), (so, .inl (cI, 30, .inl (σ.2.2.2.2.2.2.2.1))), (be, .inl (cI, 30, .inl (σ.2.2.2.2.2.2.2.2.1)))] s.heap := hP
  have hD : va_D A [(h0, .inr (3, [.int σ.1, .int σ.2.1, .int σ.2.2.1, .ref w0, .int σ.2.2.2.2.1, .int σ.2.2.2.2.2.1, .long σ.2.2.2.2.2.2.1, .ref so, .ref be, .int σ.2.2.2.2.2.2.2.2.2.1, .int σ.2.2.2.2.2.2.2.2.2.2.1, .int σ.2.2.2.2.2.2.2.2.2.2.2.1, .int σ.2.2.2.2.2.2.2.2.2.2.2.2])), (w0, .inl (cJ, 511, .inr (.inl (σ.2.2.2.1)))), (so, .inl (cI, 30, .inl (σ.2.2.2.2.2.2.2.1))), (be, .inl (cI, 30, .inl (σ.2.2.2.2.2.2.2.2.1)))] := hD
  have fl_7 := hts (.fieldLink RX4 7 "OnePlaceEachModel" "n" "I") (by decide +kernel)
  have fl_13 := hts (.fieldLink RX4 13 "OnePlaceEachModel" "x" "I") (by decide +kernel)
  have fl_16 := hts (.fieldLink RX4 16 "OnePlaceEachModel" "y" "I") (by decide +kernel)
  have hin0 : ∀ w ∈ wsX40, w ∈ wsX4_row := by decide +kernel
  have hl := lv_entry ([.ref h0, .int p0, .int p1, .int p2]) (n := 4) (Nat.le_of_ble_eq_true rfl)
  rw [lg_entry_eq]
  generalize (lg_sl ([.ref h0, .int p0, .int p1, .int p2]) ++ List.replicate (4 - (lg_sl ([.ref h0, .int p0, .int p1, .int p2])).length) Slot.unset).toArray = ls at hl ⊢
  have hl : lv_has ls 4 [(0, .ref h0), (1, .int p0), (2, .int p1), (3, .int p2)] := hl
  unfold wp_X4_row at hw
  skip
  obtain ⟨H, hH⟩ : ∃ H, H = s.heap := ⟨_, rfl⟩
  obtain ⟨locs, hlo⟩ : ∃ q : List Loc, q = [] := ⟨_, rfl⟩
  rw [← hH] at hP
  have hS : va_S A s.heap H locs := by rw [hH, hlo]; exact hS
  suffices hgo : W p l e (headSpec wsX4_row ({ frames := 2, cells := 0, slots := 0, locals := 48 } : Room)).room s m _ below meth c H locs 0 0 _ (F0 m 0 ls []) by rw [hH, hlo] at hgo; exact hgo
  refine lv_iload_n hx hb dX4_row_0 rfl (lv_at hl 1 rfl) ?_
  refine lv_i2l hx hb dX4_row_1 rfl ?_
  refine lv_lconst (v := (1 : Int64)) hx hb dX4_row_2 (by decide) ?_
  refine lv_ldc2 (v := (8 : Int64)) hx hb hown (hts (.constantLong RX4 41 (8 : Int64)) (by decide +kernel)) dX4_row_3 ?_
  have hPc := hP.sub (ws' := ([] : va_W)) [] rfl
  have hDc := hD.sub (ws' := ([] : va_W)) [] (by decide) rfl
  have hKc := hK.sub (tys' := []) [] rfl
  have hFc := va_free (wc := ([] : va_W)) hD hS hA [] rfl
  refine kc_i (wr := [(h0, .inr (3, [.int σ.1, .int σ.2.1, .int σ.2.2.1, .ref w0, .int σ.2.2.2.2.1, .int σ.2.2.2.2.2.1, .long σ.2.2.2.2.2.2.1, .ref so, .ref be, .int σ.2.2.2.2.2.2.2.2.2.1, .int σ.2.2.2.2.2.2.2.2.2.2.1, .int σ.2.2.2.2.2.2.2.2.2.2.2.1, .int σ.2.2.2.2.2.2.2.2.2.2.2.2])), (w0, .inl (cJ, 511, .inr (.inl (σ.2.2.2.1)))), (so, .inl (cI, 30, .inl (σ.2.2.2.2.2.2.2.1))), (be, .inl (cI, 30, .inl (σ.2.2.2.2.2.2.2.2.1)))]) (kr_S (As := [.long (p0.toInt64), .long (1 : Int64), .long (8 : Int64)]) (rest := []) (ws := [(h0, .inr (3, [.int σ.1, .int σ.2.1, .int σ.2.2.1, .ref w0, .int σ.2.2.2.2.1, .int σ.2.2.2.2.2.1, .long σ.2.2.2.2.2.2.1, .ref so, .ref be, .int σ.2.2.2.2.2.2.2.2.2.1, .int σ.2.2.2.2.2.2.2.2.2.2.1, .int σ.2.2.2.2.2.2.2.2.2.2.2.1, .int σ.2.2.2.2.2.2.2.2.2.2.2.2])), (w0, .inl (cJ, 511, .inr (.inl (σ.2.2.2.1)))), (so, .inl (cI, 30, .inl (σ.2.2.2.2.2.2.2.1))), (be, .inl (cI, 30, .inl (σ.2.2.2.2.2.2.2.2.1)))]) ⟨hx, hb, hml, hown, hts⟩ (c_X4_in l dC dI   (p0.toInt64) (1 : Int64) (8 : Int64) _ hw H.size) (va_cwS 3 hts gX4_row_X4_in rfl rfl rfl (by decide +kernel) ⟨Nat.le_of_ble_eq_true rfl, Nat.le_of_ble_eq_true rfl⟩) hKc hnw hP hD hPc hDc rfl hl.1 rfl (Nat.le_of_ble_eq_true rfl) dX4_row_6 ⟨Nat.zero_le _, Nat.zero_le _⟩) hP hD hS hFc [] [0, 1, 2, 3] rfl rfl (by decide) (by decide) (fun r1 u1 H locs hq hP hD hS => ?_)
  obtain ⟨hw, rfl⟩ := hq
  have hP : va_P (dC, dI) vwCl [(h0, .inr (3, [.int σ.1, .int σ.2.1, .int σ.2.2.1, .ref w0, .int σ.2.2.2.2.1, .int σ.2.2.2.2.2.1, .long σ.2.2.2.2.2.2.1, .ref so, .ref be, .int σ.2.2.2.2.2.2.2.2.2.1, .int σ.2.2.2.2.2.2.2.2.2.2.1, .int σ.2.2.2.2.2.2.2.2.2.2.2.1, .int σ.2.2.2.2.2.2.2.2.2.2.2.2])), (w0, .inl (cJ, 511, .inr (.inl (σ.2.2.2.1)))), (so, .inl (cI, 30, .inl (σ.2.2.2.2.2.2.2.1))), (be, .inl (cI, 30, .inl (σ.2.2.2.2.2.2.2.2.1)))] H := hP
  have hD : va_D A [(h0, .inr (3, [.int σ.1, .int σ.2.1, .int σ.2.2.1, .ref w0, .int σ.2.2.2.2.1, .int σ.2.2.2.2.2.1, .long σ.2.2.2.2.2.2.1, .ref so, .ref be, .int σ.2.2.2.2.2.2.2.2.2.1, .int σ.2.2.2.2.2.2.2.2.2.2.1, .int σ.2.2.2.2.2.2.2.2.2.2.2.1, .int σ.2.2.2.2.2.2.2.2.2.2.2.2])), (w0, .inl (cJ, 511, .inr (.inl (σ.2.2.2.1)))), (so, .inl (cI, 30, .inl (σ.2.2.2.2.2.2.2.1))), (be, .inl (cI, 30, .inl (σ.2.2.2.2.2.2.2.2.1)))] := hD
  refine lv_if_eq (tgt := 36) hx hb dX4_row_9 (by decide) (fun c3 => ?_) (fun c3 => ?_)
  · have hw := hw.1 c3
    refine lv_iconst (v := (-1 : Int32)) hx hb dX4_row_36 (by decide) ?_
    exact W.iret (v := (-1 : Int32)) hx hb hr (fun t ht hW => ⟨⟨(-1 : Int32), ((cl4 h0 w0 so be cJ cI σ)), rfl, ⟨σ, hw, rfl⟩, by rw [ht]; exact hP, va_K.moved hW.alike hK, hD⟩, hS.F ht⟩) hS.2.2 dX4_row_37
  · have hw := hw.2 c3
    refine lv_iload_n hx hb dX4_row_12 rfl (lv_at hl 2 rfl) ?_
    refine lv_i2l hx hb dX4_row_13 rfl ?_
    refine lv_lconst (v := (1 : Int64)) hx hb dX4_row_14 (by decide) ?_
    refine lv_ldc2 (v := (9 : Int64)) hx hb hown (hts (.constantLong RX4 47 (9 : Int64)) (by decide +kernel)) dX4_row_15 ?_
    have hPc := hP.sub (ws' := ([] : va_W)) [] rfl
    have hDc := hD.sub (ws' := ([] : va_W)) [] (by decide) rfl
    have hKc := hK.sub (tys' := []) [] rfl
    have hFc := va_free (wc := ([] : va_W)) hD hS hA [] rfl
    refine kc_i (wr := [(h0, .inr (3, [.int σ.1, .int σ.2.1, .int σ.2.2.1, .ref w0, .int σ.2.2.2.2.1, .int σ.2.2.2.2.2.1, .long σ.2.2.2.2.2.2.1, .ref so, .ref be, .int σ.2.2.2.2.2.2.2.2.2.1, .int σ.2.2.2.2.2.2.2.2.2.2.1, .int σ.2.2.2.2.2.2.2.2.2.2.2.1, .int σ.2.2.2.2.2.2.2.2.2.2.2.2])), (w0, .inl (cJ, 511, .inr (.inl (σ.2.2.2.1)))), (so, .inl (cI, 30, .inl (σ.2.2.2.2.2.2.2.1))), (be, .inl (cI, 30, .inl (σ.2.2.2.2.2.2.2.2.1)))]) (kr_S (As := [.long (p1.toInt64), .long (1 : Int64), .long (9 : Int64)]) (rest := []) (ws := [(h0, .inr (3, [.int σ.1, .int σ.2.1, .int σ.2.2.1, .ref w0, .int σ.2.2.2.2.1, .int σ.2.2.2.2.2.1, .long σ.2.2.2.2.2.2.1, .ref so, .ref be, .int σ.2.2.2.2.2.2.2.2.2.1, .int σ.2.2.2.2.2.2.2.2.2.2.1, .int σ.2.2.2.2.2.2.2.2.2.2.2.1, .int σ.2.2.2.2.2.2.2.2.2.2.2.2])), (w0, .inl (cJ, 511, .inr (.inl (σ.2.2.2.1)))), (so, .inl (cI, 30, .inl (σ.2.2.2.2.2.2.2.1))), (be, .inl (cI, 30, .inl (σ.2.2.2.2.2.2.2.2.1)))]) ⟨hx, hb, hml, hown, hts⟩ (c_X4_in l dC dI   (p1.toInt64) (1 : Int64) (9 : Int64) _ hw H.size) (va_cwS 3 hts gX4_row_X4_in rfl rfl rfl (by decide +kernel) ⟨Nat.le_of_ble_eq_true rfl, Nat.le_of_ble_eq_true rfl⟩) hKc hnw hP hD hPc hDc rfl hl.1 rfl (Nat.le_of_ble_eq_true rfl) dX4_row_18 ⟨Nat.zero_le _, Nat.zero_le _⟩) hP hD hS hFc [] [0, 1, 2, 3] rfl rfl (by decide) (by decide) (fun r4 u1 H locs hq hP hD hS => ?_)
    obtain ⟨hw, rfl⟩ := hq
    have hP : va_P (dC, dI) vwCl [(h0, .inr (3, [.int σ.1, .int σ.2.1, .int σ.2.2.1, .ref w0, .int σ.2.2.2.2.1, .int σ.2.2.2.2.2.1, .long σ.2.2.2.2.2.2.1, .ref so, .ref be, .int σ.2.2.2.2.2.2.2.2.2.1, .int σ.2.2.2.2.2.2.2.2.2.2.1, .int σ.2.2.2.2.2.2.2.2.2.2.2.1, .int σ.2.2.2.2.2.2.2.2.2.2.2.2])), (w0, .inl (cJ, 511, .inr (.inl (σ.2.2.2.1)))), (so, .inl (cI, 30, .inl (σ.2.2.2.2.2.2.2.1))), (be, .inl (cI, 30, .inl (σ.2.2.2.2.2.2.2.2.1)))] H := hP
    have hD : va_D A [(h0, .inr (3, [.int σ.1, .int σ.2.1, .int σ.2.2.1, .ref w0, .int σ.2.2.2.2.1, .int σ.2.2.2.2.2.1, .long σ.2.2.2.2.2.2.1, .ref so, .ref be, .int σ.2.2.2.2.2.2.2.2.2.1, .int σ.2.2.2.2.2.2.2.2.2.2.1, .int σ.2.2.2.2.2.2.2.2.2.2.2.1, .int σ.2.2.2.2.2.2.2.2.2.2.2.2])), (w0, .inl (cJ, 511, .inr (.inl (σ.2.2.2.1)))), (so, .inl (cI, 30, .inl (σ.2.2.2.2.2.2.2.1))), (be, .inl (cI, 30, .inl (σ.2.2.2.2.2.2.2.2.1)))] := hD
    refine lv_if_eq (tgt := 36) hx hb dX4_row_21 (by decide) (fun c6 => ?_) (fun c6 => ?_)
    · have hw := hw.1 c6
      refine lv_iconst (v := (-1 : Int32)) hx hb dX4_row_36 (by decide) ?_
      exact W.iret (v := (-1 : Int32)) hx hb hr (fun t ht hW => ⟨⟨(-1 : Int32), ((cl4 h0 w0 so be cJ cI σ)), rfl, ⟨σ, hw, rfl⟩, by rw [ht]; exact hP, va_K.moved hW.alike hK, hD⟩, hS.F ht⟩) hS.2.2 dX4_row_37
    · have hw := hw.2 c6
      refine lv_iload_n hx hb dX4_row_24 rfl (lv_at hl 3 rfl) ?_
      refine lv_i2l hx hb dX4_row_25 rfl ?_
      refine lv_lconst (v := (1 : Int64)) hx hb dX4_row_26 (by decide) ?_
      refine lv_ldc2 (v := (9 : Int64)) hx hb hown (hts (.constantLong RX4 47 (9 : Int64)) (by decide +kernel)) dX4_row_27 ?_
      have hPc := hP.sub (ws' := ([] : va_W)) [] rfl
      have hDc := hD.sub (ws' := ([] : va_W)) [] (by decide) rfl
      have hKc := hK.sub (tys' := []) [] rfl
      have hFc := va_free (wc := ([] : va_W)) hD hS hA [] rfl
      refine kc_i (wr := [(h0, .inr (3, [.int σ.1, .int σ.2.1, .int σ.2.2.1, .ref w0, .int σ.2.2.2.2.1, .int σ.2.2.2.2.2.1, .long σ.2.2.2.2.2.2.1, .ref so, .ref be, .int σ.2.2.2.2.2.2.2.2.2.1, .int σ.2.2.2.2.2.2.2.2.2.2.1, .int σ.2.2.2.2.2.2.2.2.2.2.2.1, .int σ.2.2.2.2.2.2.2.2.2.2.2.2])), (w0, .inl (cJ, 511, .inr (.inl (σ.2.2.2.1)))), (so, .inl (cI, 30, .inl (σ.2.2.2.2.2.2.2.1))), (be, .inl (cI, 30, .inl (σ.2.2.2.2.2.2.2.2.1)))]) (kr_S (As := [.long (p2.toInt64), .long (1 : Int64), .long (9 : Int64)]) (rest := []) (ws := [(h0, .inr (3, [.int σ.1, .int σ.2.1, .int σ.2.2.1, .ref w0, .int σ.2.2.2.2.1, .int σ.2.2.2.2.2.1, .long σ.2.2.2.2.2.2.1, .ref so, .ref be, .int σ.2.2.2.2.2.2.2.2.2.1, .int σ.2.2.2.2.2.2.2.2.2.2.1, .int σ.2.2.2.2.2.2.2.2.2.2.2.1, .int σ.2.2.2.2.2.2.2.2.2.2.2.2])), (w0, .inl (cJ, 511, .inr (.inl (σ.2.2.2.1)))), (so, .inl (cI, 30, .inl (σ.2.2.2.2.2.2.2.1))), (be, .inl (cI, 30, .inl (σ.2.2.2.2.2.2.2.2.1)))]) ⟨hx, hb, hml, hown, hts⟩ (c_X4_in l dC dI   (p2.toInt64) (1 : Int64) (9 : Int64) _ hw H.size) (va_cwS 3 hts gX4_row_X4_in rfl rfl rfl (by decide +kernel) ⟨Nat.le_of_ble_eq_true rfl, Nat.le_of_ble_eq_true rfl⟩) hKc hnw hP hD hPc hDc rfl hl.1 rfl (Nat.le_of_ble_eq_true rfl) dX4_row_30 ⟨Nat.zero_le _, Nat.zero_le _⟩) hP hD hS hFc [] [0, 1, 2, 3] rfl rfl (by decide) (by decide) (fun r7 u1 H locs hq hP hD hS => ?_)
      obtain ⟨hw, rfl⟩ := hq
      have hP : va_P (dC, dI) vwCl [(h0, .inr (3, [.int σ.1, .int σ.2.1, .int σ.2.2.1, .ref w0, .int σ.2.2.2.2.1, .int σ.2.2.2.2.2.1, .long σ.2.2.2.2.2.2.1, .ref so, .ref be, .int σ.2.2.2.2.2.2.2.2.2.1, .int σ.2.2.2.2.2.2.2.2.2.2.1, .int σ.2.2.2.2.2.2.2.2.2.2.2.1, .int σ.2.2.2.2.2.2.2.2.2.2.2.2])), (w0, .inl (cJ, 511, .inr (.inl (σ.2.2.2.1)))), (so, .inl (cI, 30, .inl (σ.2.2.2.2.2.2.2.1))), (be, .inl (cI, 30, .inl (σ.2.2.2.2.2.2.2.2.1)))] H := hP
      have hD : va_D A [(h0, .inr (3, [.int σ.1, .int σ.2.1, .int σ.2.2.1, .ref w0, .int σ.2.2.2.2.1, .int σ.2.2.2.2.2.1, .long σ.2.2.2.2.2.2.1, .ref so, .ref be, .int σ.2.2.2.2.2.2.2.2.2.1, .int σ.2.2.2.2.2.2.2.2.2.2.1, .int σ.2.2.2.2.2.2.2.2.2.2.2.1, .int σ.2.2.2.2.2.2.2.2.2.2.2.2])), (w0, .inl (cJ, 511, .inr (.inl (σ.2.2.2.1)))), (so, .inl (cI, 30, .inl (σ.2.2.2.2.2.2.2.1))), (be, .inl (cI, 30, .inl (σ.2.2.2.2.2.2.2.2.1)))] := hD
      refine lv_if_ne (tgt := 38) hx hb dX4_row_33 (by decide) (fun c9 => ?_) (fun c9 => ?_)
      · have hw := hw.1 c9
        refine lv_aload_n hx hb dX4_row_38 rfl (lv_at hl 0 rfl) ?_
        refine lv_iload_n hx hb dX4_row_39 rfl (lv_at hl 1 rfl) ?_
        refine va_put (D := (dC, dI)) (ci := 3) (v := .int p0) (ty := .int) (C := RX4) (T := TX4) (N := 13) hx hb hts hin0 tyX4 tyX4_ok nmX4 hown hK hP hD hS 0 rfl rfl 0 (by decide) fl_7 (fun _ h9 => h9) rfl (by decide +kernel) rfl rfl (Nat.le_of_ble_eq_true rfl) dX4_row_40 (fun H locs hP hD hS => ?_)
        have hP : va_P (dC, dI) vwCl [(h0, .inr (3, [.int p0, .int σ.2.1, .int σ.2.2.1, .ref w0, .int σ.2.2.2.2.1, .int σ.2.2.2.2.2.1, .long σ.2.2.2.2.2.2.1, .ref so, .ref be, .int σ.2.2.2.2.2.2.2.2.2.1, .int σ.2.2.2.2.2.2.2.2.2.2.1, .int σ.2.2.2.2.2.2.2.2.2.2.2.1, .int σ.2.2.2.2.2.2.2.2.2.2.2.2])), (w0, .inl (cJ, 511, .inr (.inl (σ.2.2.2.1)))), (so, .inl (cI, 30, .inl (σ.2.2.2.2.2.2.2.1))), (be, .inl (cI, 30, .inl (σ.2.2.2.2.2.2.2.2.1)))] H := hP
        have hD : va_D A [(h0, .inr (3, [.int p0, .int σ.2.1, .int σ.2.2.1, .ref w0, .int σ.2.2.2.2.1, .int σ.2.2.2.2.2.1, .long σ.2.2.2.2.2.2.1, .ref so, .ref be, .int σ.2.2.2.2.2.2.2.2.2.1, .int σ.2.2.2.2.2.2.2.2.2.2.1, .int σ.2.2.2.2.2.2.2.2.2.2.2.1, .int σ.2.2.2.2.2.2.2.2.2.2.2.2])), (w0, .inl (cJ, 511, .inr (.inl (σ.2.2.2.1)))), (so, .inl (cI, 30, .inl (σ.2.2.2.2.2.2.2.1))), (be, .inl (cI, 30, .inl (σ.2.2.2.2.2.2.2.2.1)))] := hD
        refine lv_aload_n hx hb dX4_row_43 rfl (lv_at hl 0 rfl) ?_
        refine lv_iload_n hx hb dX4_row_44 rfl (lv_at hl 2 rfl) ?_
        refine va_put (D := (dC, dI)) (ci := 3) (v := .int p1) (ty := .int) (C := RX4) (T := TX4) (N := 13) hx hb hts hin0 tyX4 tyX4_ok nmX4 hown hK hP hD hS 0 rfl rfl 1 (by decide) fl_13 (fun _ h9 => h9) rfl (by decide +kernel) rfl rfl (Nat.le_of_ble_eq_true rfl) dX4_row_45 (fun H locs hP hD hS => ?_)
        have hP : va_P (dC, dI) vwCl [(h0, .inr (3, [.int p0, .int p1, .int σ.2.2.1, .ref w0, .int σ.2.2.2.2.1, .int σ.2.2.2.2.2.1, .long σ.2.2.2.2.2.2.1, .ref so, .ref be, .int σ.2.2.2.2.2.2.2.2.2.1, .int σ.2.2.2.2.2.2.2.2.2.2.1, .int σ.2.2.2.2.2.2.2.2.2.2.2.1, .int σ.2.2.2.2.2.2.2.2.2.2.2.2])), (w0, .inl (cJ, 511, .inr (.inl (σ.2.2.2.1)))), (so, .inl (cI, 30, .inl (σ.2.2.2.2.2.2.2.1))), (be, .inl (cI, 30, .inl (σ.2.2.2.2.2.2.2.2.1)))] H := hP
        have hD : va_D A [(h0, .inr (3, [.int p0, .int p1, .int σ.2.2.1, .ref w0, .int σ.2.2.2.2.1, .int σ.2.2.2.2.2.1, .long σ.2.2.2.2.2.2.1, .ref so, .ref be, .int σ.2.2.2.2.2.2.2.2.2.1, .int σ.2.2.2.2.2.2.2.2.2.2.1, .int σ.2.2.2.2.2.2.2.2.2.2.2.1, .int σ.2.2.2.2.2.2.2.2.2.2.2.2])), (w0, .inl (cJ, 511, .inr (.inl (σ.2.2.2.1)))), (so, .inl (cI, 30, .inl (σ.2.2.2.2.2.2.2.1))), (be, .inl (cI, 30, .inl (σ.2.2.2.2.2.2.2.2.1)))] := hD
        refine lv_aload_n hx hb dX4_row_48 rfl (lv_at hl 0 rfl) ?_
        refine lv_iload_n hx hb dX4_row_49 rfl (lv_at hl 3 rfl) ?_
        refine va_put (D := (dC, dI)) (ci := 3) (v := .int p2) (ty := .int) (C := RX4) (T := TX4) (N := 13) hx hb hts hin0 tyX4 tyX4_ok nmX4 hown hK hP hD hS 0 rfl rfl 2 (by decide) fl_16 (fun _ h9 => h9) rfl (by decide +kernel) rfl rfl (Nat.le_of_ble_eq_true rfl) dX4_row_50 (fun H locs hP hD hS => ?_)
        have hP : va_P (dC, dI) vwCl [(h0, .inr (3, [.int p0, .int p1, .int p2, .ref w0, .int σ.2.2.2.2.1, .int σ.2.2.2.2.2.1, .long σ.2.2.2.2.2.2.1, .ref so, .ref be, .int σ.2.2.2.2.2.2.2.2.2.1, .int σ.2.2.2.2.2.2.2.2.2.2.1, .int σ.2.2.2.2.2.2.2.2.2.2.2.1, .int σ.2.2.2.2.2.2.2.2.2.2.2.2])), (w0, .inl (cJ, 511, .inr (.inl (σ.2.2.2.1)))), (so, .inl (cI, 30, .inl (σ.2.2.2.2.2.2.2.1))), (be, .inl (cI, 30, .inl (σ.2.2.2.2.2.2.2.2.1)))] H := hP
        have hD : va_D A [(h0, .inr (3, [.int p0, .int p1, .int p2, .ref w0, .int σ.2.2.2.2.1, .int σ.2.2.2.2.2.1, .long σ.2.2.2.2.2.2.1, .ref so, .ref be, .int σ.2.2.2.2.2.2.2.2.2.1, .int σ.2.2.2.2.2.2.2.2.2.2.1, .int σ.2.2.2.2.2.2.2.2.2.2.2.1, .int σ.2.2.2.2.2.2.2.2.2.2.2.2])), (w0, .inl (cJ, 511, .inr (.inl (σ.2.2.2.1)))), (so, .inl (cI, 30, .inl (σ.2.2.2.2.2.2.2.1))), (be, .inl (cI, 30, .inl (σ.2.2.2.2.2.2.2.2.1)))] := hD
        refine lv_aload_n hx hb dX4_row_53 rfl (lv_at hl 0 rfl) ?_
        have hPc := hP
        have hDc := hD
        have hKc := hK
        have hFc := va_free (wc := [(h0, .inr (3, [.int p0, .int p1, .int p2, .ref w0, .int σ.2.2.2.2.1, .int σ.2.2.2.2.2.1, .long σ.2.2.2.2.2.2.1, .ref so, .ref be, .int σ.2.2.2.2.2.2.2.2.2.1, .int σ.2.2.2.2.2.2.2.2.2.2.1, .int σ.2.2.2.2.2.2.2.2.2.2.2.1, .int σ.2.2.2.2.2.2.2.2.2.2.2.2])), (w0, .inl (cJ, 511, .inr (.inl (σ.2.2.2.1)))), (so, .inl (cI, 30, .inl (σ.2.2.2.2.2.2.2.1))), (be, .inl (cI, 30, .inl (σ.2.2.2.2.2.2.2.2.1)))]) hD hS hA [0, 1, 2, 3] rfl
        refine kc_v (wr := ([] : va_W)) (kr_V (As := []) (rest := []) (b := h0) (ws := [(h0, .inr (3, [.int p0, .int p1, .int p2, .ref w0, .int σ.2.2.2.2.1, .int σ.2.2.2.2.2.1, .long σ.2.2.2.2.2.2.1, .ref so, .ref be, .int σ.2.2.2.2.2.2.2.2.2.1, .int σ.2.2.2.2.2.2.2.2.2.2.1, .int σ.2.2.2.2.2.2.2.2.2.2.2.1, .int σ.2.2.2.2.2.2.2.2.2.2.2.2])), (w0, .inl (cJ, 511, .inr (.inl (σ.2.2.2.1)))), (so, .inl (cI, 30, .inl (σ.2.2.2.2.2.2.2.1))), (be, .inl (cI, 30, .inl (σ.2.2.2.2.2.2.2.2.1)))]) ⟨hx, hb, hml, hown, hts⟩ (c_X4_fills l dC dI h0 w0 so be cJ cI (p0, p1, p2, σ.2.2.2.1, σ.2.2.2.2.1, σ.2.2.2.2.2.1, σ.2.2.2.2.2.2.1, σ.2.2.2.2.2.2.2.1, σ.2.2.2.2.2.2.2.2.1, σ.2.2.2.2.2.2.2.2.2.1, σ.2.2.2.2.2.2.2.2.2.2.1, σ.2.2.2.2.2.2.2.2.2.2.2.1, σ.2.2.2.2.2.2.2.2.2.2.2.2)  _ hw H.size) (cwV 0 hts gX4_row_X4_fills rfl rfl rfl (by decide +kernel) ⟨Nat.le_of_ble_eq_true rfl, Nat.le_of_ble_eq_true rfl⟩) 3 0 hK rfl rfl rfl hKc hnw hP hD hPc hDc rfl hl.1 rfl (Nat.le_of_ble_eq_true rfl) dX4_row_54 ⟨Nat.zero_le _, Nat.zero_le _⟩) hP hD hS hFc [0, 1, 2, 3] [] rfl rfl (by decide) (by decide) (fun u1 H locs hq hP hD hS => ?_)
        obtain ⟨σ11, hw, rfl⟩ := hq
        have hP : va_P (dC, dI) vwCl [(h0, .inr (3, [.int σ11.1, .int σ11.2.1, .int σ11.2.2.1, .ref w0, .int σ11.2.2.2.2.1, .int σ11.2.2.2.2.2.1, .long σ11.2.2.2.2.2.2.1, .ref so, .ref be, .int σ11.2.2.2.2.2.2.2.2.2.1, .int σ11.2.2.2.2.2.2.2.2.2.2.1, .int σ11.2.2.2.2.2.2.2.2.2.2.2.1, .int σ11.2.2.2.2.2.2.2.2.2.2.2.2])), (w0, .inl (cJ, 511, .inr (.inl (σ11.2.2.2.1)))), (so, .inl (cI, 30, .inl (σ11.2.2.2.2.2.2.2.1))), (be, .inl (cI, 30, .inl (σ11.2.2.2.2.2.2.2.2.1)))] H := hP
        have hD : va_D A [(h0, .inr (3, [.int σ11.1, .int σ11.2.1, .int σ11.2.2.1, .ref w0, .int σ11.2.2.2.2.1, .int σ11.2.2.2.2.2.1, .long σ11.2.2.2.2.2.2.1, .ref so, .ref be, .int σ11.2.2.2.2.2.2.2.2.2.1, .int σ11.2.2.2.2.2.2.2.2.2.2.1, .int σ11.2.2.2.2.2.2.2.2.2.2.2.1, .int σ11.2.2.2.2.2.2.2.2.2.2.2.2])), (w0, .inl (cJ, 511, .inr (.inl (σ11.2.2.2.1)))), (so, .inl (cI, 30, .inl (σ11.2.2.2.2.2.2.2.1))), (be, .inl (cI, 30, .inl (σ11.2.2.2.2.2.2.2.2.1)))] := hD
        refine lv_iconst (v := (1 : Int32)) hx hb dX4_row_57 (by decide) ?_
        refine lv_aload_n hx hb dX4_row_58 rfl (lv_at hl 0 rfl) ?_
        refine va_get (D := (dC, dI)) (ci := 3) (v := .int σ11.1) (C := RX4) (T := TX4) (N := 13) hx hb hts hin0 hown hK hP 0 rfl rfl 0 (by decide) fl_7 (fun _ h9 => h9) rfl dX4_row_59 ?_
        refine lv_ishl hx hb dX4_row_62 ?_
        exact W.iret (v := ((1 : Int32) <<< (σ11.1 &&& (31 : Int32)))) hx hb hr (fun t ht hW => ⟨⟨((1 : Int32) <<< (σ11.1 &&& (31 : Int32))), ((cl4 h0 w0 so be cJ cI σ11)), rfl, ⟨σ11, hw, rfl⟩, by rw [ht]; exact hP, va_K.moved hW.alike hK, hD⟩, hS.F ht⟩) hS.2.2 dX4_row_63
      · have hw := hw.2 c9
        refine lv_iconst (v := (-1 : Int32)) hx hb dX4_row_36 (by decide) ?_
        exact W.iret (v := (-1 : Int32)) hx hb hr (fun t ht hW => ⟨⟨(-1 : Int32), ((cl4 h0 w0 so be cJ cI σ)), rfl, ⟨σ, hw, rfl⟩, by rw [ht]; exact hP, va_K.moved hW.alike hK, hD⟩, hS.F ht⟩) hS.2.2 dX4_row_37
set_option maxHeartbeats 4000000 in
set_option maxRecDepth 100000 in
theorem c_X4_isState (l : Launch) (dC : Nat → ClassId) (dI : Nat → Nat → Nat) (h0 w0 so be : Nat) (cJ : ClassId) (cI : ClassId) (σ : SM) (p0 : Int32) (post : Int32 → Prop) (hw : wp_X4_isState p0 σ post) : KI l yX4_isState wsX4_isState ({ frames := 1, cells := 0, slots := 0, locals := 25 } : Room) (dC, dI) [(cJ, .long), (cI, .int)] (cl4 h0 w0 so be cJ cI σ) [.ref h0, .int p0] (fun r u => post r ∧ u = (cl4 h0 w0 so be cJ cI σ)) := by
  intro sz
  refine Met.ofW (cc := cX4_isState) (maxL := 2) (ret := (some .boolean)) (by decide) rfl ?_
  intro p e s m args below meth c s₁ B hml hv
  obtain ⟨rfl, hsz, hP, hK, hD0, hnw⟩ := hv
  have hx := B.exec
  have hb := B.bytes
  have hr := B.returns
  have hts := atoms_spec (ws := wsX4_isState) B.pre
  have hown : s.vm.findClass RX4 = some m.cls := findClass_of_methodNamed B.named
  have hlocks := B.notSynchronized
  subst hsz
  have hD := hD0.self (sz := s.heap.size)
  generalize hAe : va_A (cl4 h0 w0 so be cJ cI σ) s.heap.size = A at hD ⊢
  have hA : ∀ q : Nat, s.heap.size ≤ q → A q := fun q h => by rw [← hAe]; exact Or.inr h
  have hS : va_S A s.heap s.heap [] := va_S.rf
  have hP : va_P (dC, dI) vwCl [(h0, .inr (3, [.int σ.1, .int σ.2.1, .int σ.2.2.1, .ref w0, .int σ.2.2.2.2.1, .int σ.2.2.2.2.2.1, .long σ.2.2.2.2.2.2.1, .ref so, .ref be, .int σ.2.2.2.2.2.2.2.2.2.1, .int σ.2.2.2.2.2.2.2.2.2.2.1, .int σ.2.2.2.2.2.2.2.2.2.2.2.1, .int σ.2.2.2.2.2.2.2.2.2.2.2.2])), (w0, .inl (cJ, 511, .inr (.inl (σ.2.2.2.1)))), (so, .inl (cI, 30, .inl (σ.2.2.2.2.2.2.2.1))), (be, .inl (cI, 30, .inl (σ.2.2.2.2.2.2.2.2.1)))] s.heap := hP
  have hD : va_D A [(h0, .inr (3, [.int σ.1, .int σ.2.1, .int σ.2.2.1, .ref w0, .int σ.2.2.2.2.1, .int σ.2.2.2.2.2.1, .long σ.2.2.2.2.2.2.1, .ref so, .ref be, .int σ.2.2.2.2.2.2.2.2.2.1, .int σ.2.2.2.2.2.2.2.2.2.2.1, .int σ.2.2.2.2.2.2.2.2.2.2.2.1, .int σ.2.2.2.2.2.2.2.2.2.2.2.2])), (w0, .inl (cJ, 511, .inr (.inl (σ.2.2.2.1)))), (so, .inl (cI, 30, .inl (σ.2.2.2.2.2.2.2.1))), (be, .inl (cI, 30, .inl (σ.2.2.2.2.2.2.2.2.1)))] := hD
  have fl_7 := hts (.fieldLink RX4 7 "OnePlaceEachModel" "n" "I") (by decide +kernel)
  have hin0 : ∀ w ∈ wsX40, w ∈ wsX4_isState := by decide +kernel
  have hl := lv_entry ([.ref h0, .int p0]) (n := 2) (Nat.le_of_ble_eq_true rfl)
  rw [lg_entry_eq]
  generalize (lg_sl ([.ref h0, .int p0]) ++ List.replicate (2 - (lg_sl ([.ref h0, .int p0])).length) Slot.unset).toArray = ls at hl ⊢
  have hl : lv_has ls 2 [(0, .ref h0), (1, .int p0)] := hl
  unfold wp_X4_isState at hw
  skip
  obtain ⟨H, hH⟩ : ∃ H, H = s.heap := ⟨_, rfl⟩
  obtain ⟨locs, hlo⟩ : ∃ q : List Loc, q = [] := ⟨_, rfl⟩
  rw [← hH] at hP
  have hS : va_S A s.heap H locs := by rw [hH, hlo]; exact hS
  suffices hgo : W p l e (headSpec wsX4_isState ({ frames := 1, cells := 0, slots := 0, locals := 25 } : Room)).room s m _ below meth c H locs 0 0 _ (F0 m 0 ls []) by rw [hH, hlo] at hgo; exact hgo
  refine lv_iload_n hx hb dX4_isState_0 rfl (lv_at hl 1 rfl) ?_
  refine lv_i2l hx hb dX4_isState_1 rfl ?_
  refine lv_lconst (v := (0 : Int64)) hx hb dX4_isState_2 (by decide) ?_
  refine lv_iconst (v := (1 : Int32)) hx hb dX4_isState_3 (by decide) ?_
  refine lv_aload_n hx hb dX4_isState_4 rfl (lv_at hl 0 rfl) ?_
  refine va_get (D := (dC, dI)) (ci := 3) (v := .int σ.1) (C := RX4) (T := TX4) (N := 13) hx hb hts hin0 hown hK hP 0 rfl rfl 0 (by decide) fl_7 (fun _ h9 => h9) rfl dX4_isState_5 ?_
  refine lv_ishl hx hb dX4_isState_8 ?_
  refine lv_iconst (v := (1 : Int32)) hx hb dX4_isState_9 (by decide) ?_
  refine lv_isub hx hb dX4_isState_10 ?_
  refine lv_i2l hx hb dX4_isState_11 rfl ?_
  have hPc := hP.sub (ws' := ([] : va_W)) [] rfl
  have hDc := hD.sub (ws' := ([] : va_W)) [] (by decide) rfl
  have hKc := hK.sub (tys' := []) [] rfl
  have hFc := va_free (wc := ([] : va_W)) hD hS hA [] rfl
  refine kc_i (wr := [(h0, .inr (3, [.int σ.1, .int σ.2.1, .int σ.2.2.1, .ref w0, .int σ.2.2.2.2.1, .int σ.2.2.2.2.2.1, .long σ.2.2.2.2.2.2.1, .ref so, .ref be, .int σ.2.2.2.2.2.2.2.2.2.1, .int σ.2.2.2.2.2.2.2.2.2.2.1, .int σ.2.2.2.2.2.2.2.2.2.2.2.1, .int σ.2.2.2.2.2.2.2.2.2.2.2.2])), (w0, .inl (cJ, 511, .inr (.inl (σ.2.2.2.1)))), (so, .inl (cI, 30, .inl (σ.2.2.2.2.2.2.2.1))), (be, .inl (cI, 30, .inl (σ.2.2.2.2.2.2.2.2.1)))]) (kr_S (As := [.long (p0.toInt64), .long (0 : Int64), .long ((((1 : Int32) <<< (σ.1 &&& (31 : Int32))) - (1 : Int32)).toInt64)]) (rest := []) (ws := [(h0, .inr (3, [.int σ.1, .int σ.2.1, .int σ.2.2.1, .ref w0, .int σ.2.2.2.2.1, .int σ.2.2.2.2.2.1, .long σ.2.2.2.2.2.2.1, .ref so, .ref be, .int σ.2.2.2.2.2.2.2.2.2.1, .int σ.2.2.2.2.2.2.2.2.2.2.1, .int σ.2.2.2.2.2.2.2.2.2.2.2.1, .int σ.2.2.2.2.2.2.2.2.2.2.2.2])), (w0, .inl (cJ, 511, .inr (.inl (σ.2.2.2.1)))), (so, .inl (cI, 30, .inl (σ.2.2.2.2.2.2.2.1))), (be, .inl (cI, 30, .inl (σ.2.2.2.2.2.2.2.2.1)))]) ⟨hx, hb, hml, hown, hts⟩ (c_X4_in l dC dI   (p0.toInt64) (0 : Int64) ((((1 : Int32) <<< (σ.1 &&& (31 : Int32))) - (1 : Int32)).toInt64) _ hw H.size) (va_cwS 3 hts gX4_isState_X4_in rfl rfl rfl (by decide +kernel) ⟨Nat.le_of_ble_eq_true rfl, Nat.le_of_ble_eq_true rfl⟩) hKc hnw hP hD hPc hDc rfl hl.1 rfl (Nat.le_of_ble_eq_true rfl) dX4_isState_12 ⟨Nat.zero_le _, Nat.zero_le _⟩) hP hD hS hFc [] [0, 1, 2, 3] rfl rfl (by decide) (by decide) (fun r1 u1 H locs hq hP hD hS => ?_)
  obtain ⟨hw, rfl⟩ := hq
  have hP : va_P (dC, dI) vwCl [(h0, .inr (3, [.int σ.1, .int σ.2.1, .int σ.2.2.1, .ref w0, .int σ.2.2.2.2.1, .int σ.2.2.2.2.2.1, .long σ.2.2.2.2.2.2.1, .ref so, .ref be, .int σ.2.2.2.2.2.2.2.2.2.1, .int σ.2.2.2.2.2.2.2.2.2.2.1, .int σ.2.2.2.2.2.2.2.2.2.2.2.1, .int σ.2.2.2.2.2.2.2.2.2.2.2.2])), (w0, .inl (cJ, 511, .inr (.inl (σ.2.2.2.1)))), (so, .inl (cI, 30, .inl (σ.2.2.2.2.2.2.2.1))), (be, .inl (cI, 30, .inl (σ.2.2.2.2.2.2.2.2.1)))] H := hP
  have hD : va_D A [(h0, .inr (3, [.int σ.1, .int σ.2.1, .int σ.2.2.1, .ref w0, .int σ.2.2.2.2.1, .int σ.2.2.2.2.2.1, .long σ.2.2.2.2.2.2.1, .ref so, .ref be, .int σ.2.2.2.2.2.2.2.2.2.1, .int σ.2.2.2.2.2.2.2.2.2.2.1, .int σ.2.2.2.2.2.2.2.2.2.2.2.1, .int σ.2.2.2.2.2.2.2.2.2.2.2.2])), (w0, .inl (cJ, 511, .inr (.inl (σ.2.2.2.1)))), (so, .inl (cI, 30, .inl (σ.2.2.2.2.2.2.2.1))), (be, .inl (cI, 30, .inl (σ.2.2.2.2.2.2.2.2.1)))] := hD
  have z3 := hw.1
  have hw := hw.2
  exact W.zret (v := r1) hx hb hr (nb_nar z3) (fun t ht hW => ⟨⟨r1, ((cl4 h0 w0 so be cJ cI σ)), rfl, ⟨hw, rfl⟩, by rw [ht]; exact hP, va_K.moved hW.alike hK, hD⟩, hS.F ht⟩) hS.2.2 dX4_isState_15
set_option maxHeartbeats 4000000 in
set_option maxRecDepth 100000 in
theorem c_X4_weight (l : Launch) (dC : Nat → ClassId) (dI : Nat → Nat → Nat) (h0 w0 so be : Nat) (cJ : ClassId) (cI : ClassId) (σ : SM) (p0 : Int32) (post : Int64 → Prop) (hw : wp_X4_weight p0 σ post) : KL l yX4_weight wsX4_weight ({ frames := 2, cells := 0, slots := 0, locals := 46 } : Room) (dC, dI) [(cJ, .long), (cI, .int)] (cl4 h0 w0 so be cJ cI σ) [.ref h0, .int p0] (fun r u => post r ∧ u = (cl4 h0 w0 so be cJ cI σ)) := by
  intro sz
  refine Met.ofW (cc := cX4_weight) (maxL := 2) (ret := (some .long)) (by decide) rfl ?_
  intro p e s m args below meth c s₁ B hml hv
  obtain ⟨rfl, hsz, hP, hK, hD0, hnw⟩ := hv
  have hx := B.exec
  have hb := B.bytes
  have hr := B.returns
  have hts := atoms_spec (ws := wsX4_weight) B.pre
  have hown : s.vm.findClass RX4 = some m.cls := findClass_of_methodNamed B.named
  have hlocks := B.notSynchronized
  subst hsz
  have hD := hD0.self (sz := s.heap.size)
  generalize hAe : va_A (cl4 h0 w0 so be cJ cI σ) s.heap.size = A at hD ⊢
  have hA : ∀ q : Nat, s.heap.size ≤ q → A q := fun q h => by rw [← hAe]; exact Or.inr h
  have hS : va_S A s.heap s.heap [] := va_S.rf
  have hP : va_P (dC, dI) vwCl [(h0, .inr (3, [.int σ.1, .int σ.2.1, .int σ.2.2.1, .ref w0, .int σ.2.2.2.2.1, .int σ.2.2.2.2.2.1, .long σ.2.2.2.2.2.2.1, .ref so, .ref be, .int σ.2.2.2.2.2.2.2.2.2.1, .int σ.2.2.2.2.2.2.2.2.2.2.1, .int σ.2.2.2.2.2.2.2.2.2.2.2.1, .int σ.2.2.2.2.2.2.2.2.2.2.2.2])), (w0, .inl (cJ, 511, .inr (.inl (σ.2.2.2.1)))), (so, .inl (cI, 30, .inl (σ.2.2.2.2.2.2.2.1))), (be, .inl (cI, 30, .inl (σ.2.2.2.2.2.2.2.2.1)))] s.heap := hP
  have hD : va_D A [(h0, .inr (3, [.int σ.1, .int σ.2.1, .int σ.2.2.1, .ref w0, .int σ.2.2.2.2.1, .int σ.2.2.2.2.2.1, .long σ.2.2.2.2.2.2.1, .ref so, .ref be, .int σ.2.2.2.2.2.2.2.2.2.1, .int σ.2.2.2.2.2.2.2.2.2.2.1, .int σ.2.2.2.2.2.2.2.2.2.2.2.1, .int σ.2.2.2.2.2.2.2.2.2.2.2.2])), (w0, .inl (cJ, 511, .inr (.inl (σ.2.2.2.1)))), (so, .inl (cI, 30, .inl (σ.2.2.2.2.2.2.2.1))), (be, .inl (cI, 30, .inl (σ.2.2.2.2.2.2.2.2.1)))] := hD
  have fl_7 := hts (.fieldLink RX4 7 "OnePlaceEachModel" "n" "I") (by decide +kernel)
  have hin0 : ∀ w ∈ wsX40, w ∈ wsX4_weight := by decide +kernel
  have hl := lv_entry ([.ref h0, .int p0]) (n := 2) (Nat.le_of_ble_eq_true rfl)
  rw [lg_entry_eq]
  generalize (lg_sl ([.ref h0, .int p0]) ++ List.replicate (2 - (lg_sl ([.ref h0, .int p0])).length) Slot.unset).toArray = ls at hl ⊢
  have hl : lv_has ls 2 [(0, .ref h0), (1, .int p0)] := hl
  unfold wp_X4_weight at hw
  skip
  obtain ⟨H, hH⟩ : ∃ H, H = s.heap := ⟨_, rfl⟩
  obtain ⟨locs, hlo⟩ : ∃ q : List Loc, q = [] := ⟨_, rfl⟩
  rw [← hH] at hP
  have hS : va_S A s.heap H locs := by rw [hH, hlo]; exact hS
  suffices hgo : W p l e (headSpec wsX4_weight ({ frames := 2, cells := 0, slots := 0, locals := 46 } : Room)).room s m _ below meth c H locs 0 0 _ (F0 m 0 ls []) by rw [hH, hlo] at hgo; exact hgo
  refine lv_aload_n hx hb dX4_weight_0 rfl (lv_at hl 0 rfl) ?_
  refine lv_iload_n hx hb dX4_weight_1 rfl (lv_at hl 1 rfl) ?_
  have hPc := hP
  have hDc := hD
  have hKc := hK
  have hFc := va_free (wc := [(h0, .inr (3, [.int σ.1, .int σ.2.1, .int σ.2.2.1, .ref w0, .int σ.2.2.2.2.1, .int σ.2.2.2.2.2.1, .long σ.2.2.2.2.2.2.1, .ref so, .ref be, .int σ.2.2.2.2.2.2.2.2.2.1, .int σ.2.2.2.2.2.2.2.2.2.2.1, .int σ.2.2.2.2.2.2.2.2.2.2.2.1, .int σ.2.2.2.2.2.2.2.2.2.2.2.2])), (w0, .inl (cJ, 511, .inr (.inl (σ.2.2.2.1)))), (so, .inl (cI, 30, .inl (σ.2.2.2.2.2.2.2.1))), (be, .inl (cI, 30, .inl (σ.2.2.2.2.2.2.2.2.1)))]) hD hS hA [0, 1, 2, 3] rfl
  refine kc_i (wr := ([] : va_W)) (kr_V (As := [.int p0]) (rest := []) (b := h0) (ws := [(h0, .inr (3, [.int σ.1, .int σ.2.1, .int σ.2.2.1, .ref w0, .int σ.2.2.2.2.1, .int σ.2.2.2.2.2.1, .long σ.2.2.2.2.2.2.1, .ref so, .ref be, .int σ.2.2.2.2.2.2.2.2.2.1, .int σ.2.2.2.2.2.2.2.2.2.2.1, .int σ.2.2.2.2.2.2.2.2.2.2.2.1, .int σ.2.2.2.2.2.2.2.2.2.2.2.2])), (w0, .inl (cJ, 511, .inr (.inl (σ.2.2.2.1)))), (so, .inl (cI, 30, .inl (σ.2.2.2.2.2.2.2.1))), (be, .inl (cI, 30, .inl (σ.2.2.2.2.2.2.2.2.1)))]) ⟨hx, hb, hml, hown, hts⟩ (c_X4_isState l dC dI h0 w0 so be cJ cI σ p0 _ hw H.size) (cwV 1 hts gX4_weight_X4_isState rfl rfl rfl (by decide +kernel) ⟨Nat.le_of_ble_eq_true rfl, Nat.le_of_ble_eq_true rfl⟩) 3 0 hK rfl rfl rfl hKc hnw hP hD hPc hDc rfl hl.1 rfl (Nat.le_of_ble_eq_true rfl) dX4_weight_2 ⟨Nat.zero_le _, Nat.zero_le _⟩) hP hD hS hFc [0, 1, 2, 3] [] rfl rfl (by decide) (by decide) (fun r1 u1 H locs hq hP hD hS => ?_)
  obtain ⟨hw, rfl⟩ := hq
  have hP : va_P (dC, dI) vwCl [(h0, .inr (3, [.int σ.1, .int σ.2.1, .int σ.2.2.1, .ref w0, .int σ.2.2.2.2.1, .int σ.2.2.2.2.2.1, .long σ.2.2.2.2.2.2.1, .ref so, .ref be, .int σ.2.2.2.2.2.2.2.2.2.1, .int σ.2.2.2.2.2.2.2.2.2.2.1, .int σ.2.2.2.2.2.2.2.2.2.2.2.1, .int σ.2.2.2.2.2.2.2.2.2.2.2.2])), (w0, .inl (cJ, 511, .inr (.inl (σ.2.2.2.1)))), (so, .inl (cI, 30, .inl (σ.2.2.2.2.2.2.2.1))), (be, .inl (cI, 30, .inl (σ.2.2.2.2.2.2.2.2.1)))] H := hP
  have hD : va_D A [(h0, .inr (3, [.int σ.1, .int σ.2.1, .int σ.2.2.1, .ref w0, .int σ.2.2.2.2.1, .int σ.2.2.2.2.2.1, .long σ.2.2.2.2.2.2.1, .ref so, .ref be, .int σ.2.2.2.2.2.2.2.2.2.1, .int σ.2.2.2.2.2.2.2.2.2.2.1, .int σ.2.2.2.2.2.2.2.2.2.2.2.1, .int σ.2.2.2.2.2.2.2.2.2.2.2.2])), (w0, .inl (cJ, 511, .inr (.inl (σ.2.2.2.1)))), (so, .inl (cI, 30, .inl (σ.2.2.2.2.2.2.2.1))), (be, .inl (cI, 30, .inl (σ.2.2.2.2.2.2.2.2.1)))] := hD
  refine lv_if_eq (tgt := 20) hx hb dX4_weight_5 (by decide) (fun c3 => ?_) (fun c3 => ?_)
  · have hw := hw.1 c3
    refine lv_ldc2 (v := (-1 : Int64)) hx hb hown (hts (.constantLong RX4 53 (-1 : Int64)) (by decide +kernel)) dX4_weight_20 ?_
    exact W.lret (v := (-1 : Int64)) hx hb hr (fun t ht hW => ⟨⟨(-1 : Int64), ((cl4 h0 w0 so be cJ cI σ)), rfl, ⟨hw, rfl⟩, by rw [ht]; exact hP, va_K.moved hW.alike hK, hD⟩, hS.F ht⟩) hS.2.2 dX4_weight_23
  · have hw := hw.2 c3
    refine lv_aload_n hx hb dX4_weight_8 rfl (lv_at hl 0 rfl) ?_
    refine lv_aload_n hx hb dX4_weight_9 rfl (lv_at hl 0 rfl) ?_
    refine va_get (D := (dC, dI)) (ci := 3) (v := .int σ.1) (C := RX4) (T := TX4) (N := 13) hx hb hts hin0 hown hK hP 0 rfl rfl 0 (by decide) fl_7 (fun _ h9 => h9) rfl dX4_weight_10 ?_
    refine lv_iload_n hx hb dX4_weight_13 rfl (lv_at hl 1 rfl) ?_
    have hPc := hP
    have hDc := hD
    have hKc := hK
    have hFc := va_free (wc := [(h0, .inr (3, [.int σ.1, .int σ.2.1, .int σ.2.2.1, .ref w0, .int σ.2.2.2.2.1, .int σ.2.2.2.2.2.1, .long σ.2.2.2.2.2.2.1, .ref so, .ref be, .int σ.2.2.2.2.2.2.2.2.2.1, .int σ.2.2.2.2.2.2.2.2.2.2.1, .int σ.2.2.2.2.2.2.2.2.2.2.2.1, .int σ.2.2.2.2.2.2.2.2.2.2.2.2])), (w0, .inl (cJ, 511, .inr (.inl (σ.2.2.2.1)))), (so, .inl (cI, 30, .inl (σ.2.2.2.2.2.2.2.1))), (be, .inl (cI, 30, .inl (σ.2.2.2.2.2.2.2.2.1)))]) hD hS hA [0, 1, 2, 3] rfl
    refine kc_l (wr := ([] : va_W)) (kr_V (As := [.int σ.1, .int p0]) (rest := []) (b := h0) (ws := [(h0, .inr (3, [.int σ.1, .int σ.2.1, .int σ.2.2.1, .ref w0, .int σ.2.2.2.2.1, .int σ.2.2.2.2.2.1, .long σ.2.2.2.2.2.2.1, .ref so, .ref be, .int σ.2.2.2.2.2.2.2.2.2.1, .int σ.2.2.2.2.2.2.2.2.2.2.1, .int σ.2.2.2.2.2.2.2.2.2.2.2.1, .int σ.2.2.2.2.2.2.2.2.2.2.2.2])), (w0, .inl (cJ, 511, .inr (.inl (σ.2.2.2.1)))), (so, .inl (cI, 30, .inl (σ.2.2.2.2.2.2.2.1))), (be, .inl (cI, 30, .inl (σ.2.2.2.2.2.2.2.2.1)))]) ⟨hx, hb, hml, hown, hts⟩ (c_X4_weigh l dC dI h0 w0 so be cJ cI σ σ.1 p0 _ hw H.size) (cwV 2 hts gX4_weight_X4_weigh rfl rfl rfl (by decide +kernel) ⟨Nat.le_of_ble_eq_true rfl, Nat.le_of_ble_eq_true rfl⟩) 3 0 hK rfl rfl rfl hKc hnw hP hD hPc hDc rfl hl.1 rfl (Nat.le_of_ble_eq_true rfl) dX4_weight_14 ⟨Nat.zero_le _, Nat.zero_le _⟩) hP hD hS hFc [0, 1, 2, 3] [] rfl rfl (by decide) (by decide) (fun r4 u1 H locs hq hP hD hS => ?_)
    obtain ⟨hw, rfl⟩ := hq
    have hP : va_P (dC, dI) vwCl [(h0, .inr (3, [.int σ.1, .int σ.2.1, .int σ.2.2.1, .ref w0, .int σ.2.2.2.2.1, .int σ.2.2.2.2.2.1, .long σ.2.2.2.2.2.2.1, .ref so, .ref be, .int σ.2.2.2.2.2.2.2.2.2.1, .int σ.2.2.2.2.2.2.2.2.2.2.1, .int σ.2.2.2.2.2.2.2.2.2.2.2.1, .int σ.2.2.2.2.2.2.2.2.2.2.2.2])), (w0, .inl (cJ, 511, .inr (.inl (σ.2.2.2.1)))), (so, .inl (cI, 30, .inl (σ.2.2.2.2.2.2.2.1))), (be, .inl (cI, 30, .inl (σ.2.2.2.2.2.2.2.2.1)))] H := hP
    have hD : va_D A [(h0, .inr (3, [.int σ.1, .int σ.2.1, .int σ.2.2.1, .ref w0, .int σ.2.2.2.2.1, .int σ.2.2.2.2.2.1, .long σ.2.2.2.2.2.2.1, .ref so, .ref be, .int σ.2.2.2.2.2.2.2.2.2.1, .int σ.2.2.2.2.2.2.2.2.2.2.1, .int σ.2.2.2.2.2.2.2.2.2.2.2.1, .int σ.2.2.2.2.2.2.2.2.2.2.2.2])), (w0, .inl (cJ, 511, .inr (.inl (σ.2.2.2.1)))), (so, .inl (cI, 30, .inl (σ.2.2.2.2.2.2.2.1))), (be, .inl (cI, 30, .inl (σ.2.2.2.2.2.2.2.2.1)))] := hD
    refine lv_goto (tgt := 23) hx hb dX4_weight_17 (by decide) ?_
    exact W.lret (v := r4) hx hb hr (fun t ht hW => ⟨⟨r4, ((cl4 h0 w0 so be cJ cI σ)), rfl, ⟨hw, rfl⟩, by rw [ht]; exact hP, va_K.moved hW.alike hK, hD⟩, hS.F ht⟩) hS.2.2 dX4_weight_23
set_option maxHeartbeats 4000000 in
set_option maxRecDepth 100000 in
theorem c_X4_sumOf (l : Launch) (dC : Nat → ClassId) (dI : Nat → Nat → Nat) (h0 w0 so be : Nat) (cJ : ClassId) (cI : ClassId) (σ : SM) (p0 : Int32) (post : Int64 → Prop) (hw : wp_X4_sumOf p0 σ post) : KL l yX4_sumOf wsX4_sumOf ({ frames := 1, cells := 0, slots := 0, locals := 22 } : Room) (dC, dI) [(cJ, .long), (cI, .int)] (cl4 h0 w0 so be cJ cI σ) [.ref h0, .int p0] (fun r u => post r ∧ u = (cl4 h0 w0 so be cJ cI σ)) := by
  intro sz
  refine Met.ofW (cc := cX4_sumOf) (maxL := 5) (ret := (some .long)) (by decide) rfl ?_
  intro p e s m args below meth c s₁ B hml hv
  obtain ⟨rfl, hsz, hP, hK, hD0, hnw⟩ := hv
  have hx := B.exec
  have hb := B.bytes
  have hr := B.returns
  have hts := atoms_spec (ws := wsX4_sumOf) B.pre
  have hown : s.vm.findClass RX4 = some m.cls := findClass_of_methodNamed B.named
  have hlocks := B.notSynchronized
  subst hsz
  have hD := hD0.self (sz := s.heap.size)
  generalize hAe : va_A (cl4 h0 w0 so be cJ cI σ) s.heap.size = A at hD ⊢
  have hA : ∀ q : Nat, s.heap.size ≤ q → A q := fun q h => by rw [← hAe]; exact Or.inr h
  have hS : va_S A s.heap s.heap [] := va_S.rf
  have hP : va_P (dC, dI) vwCl [(h0, .inr (3, [.int σ.1, .int σ.2.1, .int σ.2.2.1, .ref w0, .int σ.2.2.2.2.1, .int σ.2.2.2.2.2.1, .long σ.2.2.2.2.2.2.1, .ref so, .ref be, .int σ.2.2.2.2.2.2.2.2.2.1, .int σ.2.2.2.2.2.2.2.2.2.2.1, .int σ.2.2.2.2.2.2.2.2.2.2.2.1, .int σ.2.2.2.2.2.2.2.2.2.2.2.2])), (w0, .inl (cJ, 511, .inr (.inl (σ.2.2.2.1)))), (so, .inl (cI, 30, .inl (σ.2.2.2.2.2.2.2.1))), (be, .inl (cI, 30, .inl (σ.2.2.2.2.2.2.2.2.1)))] s.heap := hP
  have hD : va_D A [(h0, .inr (3, [.int σ.1, .int σ.2.1, .int σ.2.2.1, .ref w0, .int σ.2.2.2.2.1, .int σ.2.2.2.2.2.1, .long σ.2.2.2.2.2.2.1, .ref so, .ref be, .int σ.2.2.2.2.2.2.2.2.2.1, .int σ.2.2.2.2.2.2.2.2.2.2.1, .int σ.2.2.2.2.2.2.2.2.2.2.2.1, .int σ.2.2.2.2.2.2.2.2.2.2.2.2])), (w0, .inl (cJ, 511, .inr (.inl (σ.2.2.2.1)))), (so, .inl (cI, 30, .inl (σ.2.2.2.2.2.2.2.1))), (be, .inl (cI, 30, .inl (σ.2.2.2.2.2.2.2.2.1)))] := hD
  have L5 : ∀ (x1 : Int32)  (n : Nat) (x2 : Int64) (x4 : Int32)  (k : Int64 → Int32 → Prop), wl_X4_sumOf_5 x1 σ n x2 x4 k →
      (∀ (x2 : Int64) (x4 : Int32) , k x2 x4 → ∀ (H : Heap) (locs : List Loc) (ls : Array Slot), va_P (dC, dI) vwCl [(h0, .inr (3, [.int σ.1, .int σ.2.1, .int σ.2.2.1, .ref w0, .int σ.2.2.2.2.1, .int σ.2.2.2.2.2.1, .long σ.2.2.2.2.2.2.1, .ref so, .ref be, .int σ.2.2.2.2.2.2.2.2.2.1, .int σ.2.2.2.2.2.2.2.2.2.2.1, .int σ.2.2.2.2.2.2.2.2.2.2.2.1, .int σ.2.2.2.2.2.2.2.2.2.2.2.2])), (w0, .inl (cJ, 511, .inr (.inl (σ.2.2.2.1)))), (so, .inl (cI, 30, .inl (σ.2.2.2.2.2.2.2.1))), (be, .inl (cI, 30, .inl (σ.2.2.2.2.2.2.2.2.1)))] H → va_D A [(h0, .inr (3, [.int σ.1, .int σ.2.1, .int σ.2.2.1, .ref w0, .int σ.2.2.2.2.1, .int σ.2.2.2.2.2.1, .long σ.2.2.2.2.2.2.1, .ref so, .ref be, .int σ.2.2.2.2.2.2.2.2.2.1, .int σ.2.2.2.2.2.2.2.2.2.2.1, .int σ.2.2.2.2.2.2.2.2.2.2.2.1, .int σ.2.2.2.2.2.2.2.2.2.2.2.2])), (w0, .inl (cJ, 511, .inr (.inl (σ.2.2.2.1)))), (so, .inl (cI, 30, .inl (σ.2.2.2.2.2.2.2.1))), (be, .inl (cI, 30, .inl (σ.2.2.2.2.2.2.2.2.1)))] → va_S A s.heap H locs → lv_has ls 5 [(4, .int x4), (2, .long x2), (0, .ref h0), (1, .int x1)] → W p l e (headSpec wsX4_sumOf ({ frames := 1, cells := 0, slots := 0, locals := 22 } : Room)).room s m ([.ref h0, .int p0] : List Value).toArray below meth c H locs 0 0 (MQ below (va_Ql (fun r u => post r ∧ u = (cl4 h0 w0 so be cJ cI σ)) (kB (dC, dI) [(cJ, .long), (cI, .int)] A) A) ([.ref h0, .int p0] : List Value).toArray s 0 0 A) (F0 m 29 ls [])) →
      ∀ (H : Heap) (locs : List Loc) (ls : Array Slot), va_P (dC, dI) vwCl [(h0, .inr (3, [.int σ.1, .int σ.2.1, .int σ.2.2.1, .ref w0, .int σ.2.2.2.2.1, .int σ.2.2.2.2.2.1, .long σ.2.2.2.2.2.2.1, .ref so, .ref be, .int σ.2.2.2.2.2.2.2.2.2.1, .int σ.2.2.2.2.2.2.2.2.2.2.1, .int σ.2.2.2.2.2.2.2.2.2.2.2.1, .int σ.2.2.2.2.2.2.2.2.2.2.2.2])), (w0, .inl (cJ, 511, .inr (.inl (σ.2.2.2.1)))), (so, .inl (cI, 30, .inl (σ.2.2.2.2.2.2.2.1))), (be, .inl (cI, 30, .inl (σ.2.2.2.2.2.2.2.2.1)))] H → va_D A [(h0, .inr (3, [.int σ.1, .int σ.2.1, .int σ.2.2.1, .ref w0, .int σ.2.2.2.2.1, .int σ.2.2.2.2.2.1, .long σ.2.2.2.2.2.2.1, .ref so, .ref be, .int σ.2.2.2.2.2.2.2.2.2.1, .int σ.2.2.2.2.2.2.2.2.2.2.1, .int σ.2.2.2.2.2.2.2.2.2.2.2.1, .int σ.2.2.2.2.2.2.2.2.2.2.2.2])), (w0, .inl (cJ, 511, .inr (.inl (σ.2.2.2.1)))), (so, .inl (cI, 30, .inl (σ.2.2.2.2.2.2.2.1))), (be, .inl (cI, 30, .inl (σ.2.2.2.2.2.2.2.2.1)))] → va_S A s.heap H locs → lv_has ls 5 [(4, .int x4), (2, .long x2), (0, .ref h0), (1, .int x1)] → W p l e (headSpec wsX4_sumOf ({ frames := 1, cells := 0, slots := 0, locals := 22 } : Room)).room s m ([.ref h0, .int p0] : List Value).toArray below meth c H locs 0 0 (MQ below (va_Ql (fun r u => post r ∧ u = (cl4 h0 w0 so be cJ cI σ)) (kB (dC, dI) [(cJ, .long), (cI, .int)] A) A) ([.ref h0, .int p0] : List Value).toArray s 0 0 A) (F0 m 5 ls []) := by
    intro x1 n
    induction n with
    | zero => intro x2 x4 k hw; exact absurd hw id
    | succ n ih =>
      intro x2 x4 k hw hk H locs ls hP hD hS hl
      unfold wl_X4_sumOf_5 at hw
      refine lv_iload hx hb dX4_sumOf_5 (lv_at hl 0 rfl) ?_
      refine lv_iconst (v := (1 : Int32)) hx hb dX4_sumOf_7 (by decide) ?_
      refine lv_iload_n hx hb dX4_sumOf_8 rfl (lv_at hl 3 rfl) ?_
      refine lv_ishl hx hb dX4_sumOf_9 ?_
      refine lv_icmp_ge (tgt := 29) hx hb dX4_sumOf_10 (by decide) (fun c1 => ?_) (fun c1 => ?_)
      · have hw := hw.1 c1
        exact hk x2 x4 hw H locs ls hP hD hS (lv_sub hl [0, 1, 2, 3] rfl)
      · have hw := hw.2 c1
        refine lv_lload_n hx hb dX4_sumOf_13 rfl (lv_at hl 1 rfl) ?_
        refine lv_aload_n hx hb dX4_sumOf_14 rfl (lv_at hl 2 rfl) ?_
        refine lv_iload_n hx hb dX4_sumOf_15 rfl (lv_at hl 3 rfl) ?_
        refine lv_iload hx hb dX4_sumOf_16 (lv_at hl 0 rfl) ?_
        have hPc := hP
        have hDc := hD
        have hKc := hK
        have hFc := va_free (wc := [(h0, .inr (3, [.int σ.1, .int σ.2.1, .int σ.2.2.1, .ref w0, .int σ.2.2.2.2.1, .int σ.2.2.2.2.2.1, .long σ.2.2.2.2.2.2.1, .ref so, .ref be, .int σ.2.2.2.2.2.2.2.2.2.1, .int σ.2.2.2.2.2.2.2.2.2.2.1, .int σ.2.2.2.2.2.2.2.2.2.2.2.1, .int σ.2.2.2.2.2.2.2.2.2.2.2.2])), (w0, .inl (cJ, 511, .inr (.inl (σ.2.2.2.1)))), (so, .inl (cI, 30, .inl (σ.2.2.2.2.2.2.2.1))), (be, .inl (cI, 30, .inl (σ.2.2.2.2.2.2.2.2.1)))]) hD hS hA [0, 1, 2, 3] rfl
        refine kc_l (wr := ([] : va_W)) (kr_V (As := [.int x1, .int x4]) (rest := [.long x2]) (b := h0) (ws := [(h0, .inr (3, [.int σ.1, .int σ.2.1, .int σ.2.2.1, .ref w0, .int σ.2.2.2.2.1, .int σ.2.2.2.2.2.1, .long σ.2.2.2.2.2.2.1, .ref so, .ref be, .int σ.2.2.2.2.2.2.2.2.2.1, .int σ.2.2.2.2.2.2.2.2.2.2.1, .int σ.2.2.2.2.2.2.2.2.2.2.2.1, .int σ.2.2.2.2.2.2.2.2.2.2.2.2])), (w0, .inl (cJ, 511, .inr (.inl (σ.2.2.2.1)))), (so, .inl (cI, 30, .inl (σ.2.2.2.2.2.2.2.1))), (be, .inl (cI, 30, .inl (σ.2.2.2.2.2.2.2.2.1)))]) ⟨hx, hb, hml, hown, hts⟩ (c_X4_weigh l dC dI h0 w0 so be cJ cI σ x1 x4 _ hw H.size) (cwV 2 hts gX4_sumOf_X4_weigh rfl rfl rfl (by decide +kernel) ⟨Nat.le_of_ble_eq_true rfl, Nat.le_of_ble_eq_true rfl⟩) 3 0 hK rfl rfl rfl hKc hnw hP hD hPc hDc rfl hl.1 rfl (Nat.le_of_ble_eq_true rfl) dX4_sumOf_18 ⟨Nat.zero_le _, Nat.zero_le _⟩) hP hD hS hFc [0, 1, 2, 3] [] rfl rfl (by decide) (by decide) (fun r2 u1 H locs hq hP hD hS => ?_)
        obtain ⟨hw, rfl⟩ := hq
        have hP : va_P (dC, dI) vwCl [(h0, .inr (3, [.int σ.1, .int σ.2.1, .int σ.2.2.1, .ref w0, .int σ.2.2.2.2.1, .int σ.2.2.2.2.2.1, .long σ.2.2.2.2.2.2.1, .ref so, .ref be, .int σ.2.2.2.2.2.2.2.2.2.1, .int σ.2.2.2.2.2.2.2.2.2.2.1, .int σ.2.2.2.2.2.2.2.2.2.2.2.1, .int σ.2.2.2.2.2.2.2.2.2.2.2.2])), (w0, .inl (cJ, 511, .inr (.inl (σ.2.2.2.1)))), (so, .inl (cI, 30, .inl (σ.2.2.2.2.2.2.2.1))), (be, .inl (cI, 30, .inl (σ.2.2.2.2.2.2.2.2.1)))] H := hP
        have hD : va_D A [(h0, .inr (3, [.int σ.1, .int σ.2.1, .int σ.2.2.1, .ref w0, .int σ.2.2.2.2.1, .int σ.2.2.2.2.2.1, .long σ.2.2.2.2.2.2.1, .ref so, .ref be, .int σ.2.2.2.2.2.2.2.2.2.1, .int σ.2.2.2.2.2.2.2.2.2.2.1, .int σ.2.2.2.2.2.2.2.2.2.2.2.1, .int σ.2.2.2.2.2.2.2.2.2.2.2.2])), (w0, .inl (cJ, 511, .inr (.inl (σ.2.2.2.1)))), (so, .inl (cI, 30, .inl (σ.2.2.2.2.2.2.2.1))), (be, .inl (cI, 30, .inl (σ.2.2.2.2.2.2.2.2.1)))] := hD
        refine lv_ladd hx hb dX4_sumOf_21 ?_
        refine lv_lstore_n (lv' := [(2, .long (x2 + r2)), (4, .int x4), (0, .ref h0), (1, .int x1)]) hx hb dX4_sumOf_22 rfl hl (by decide) rfl (fun ls hl => ?_)
        refine lv_iinc (v := (x4 + (1 : Int32))) (lv' := [(4, .int (x4 + (1 : Int32))), (2, .long (x2 + r2)), (0, .ref h0), (1, .int x1)]) hx hb dX4_sumOf_23 hl (k := 1) rfl rfl (by decide) rfl (fun ls hl => ?_)
        refine lv_goto (tgt := 5) hx hb dX4_sumOf_26 (by decide) ?_
        exact ih (x2 + r2) (x4 + (1 : Int32)) _ hw hk H locs ls hP hD hS (lv_sub hl [0, 1, 2, 3] rfl)
  have hl := lv_entry ([.ref h0, .int p0]) (n := 5) (Nat.le_of_ble_eq_true rfl)
  rw [lg_entry_eq]
  generalize (lg_sl ([.ref h0, .int p0]) ++ List.replicate (5 - (lg_sl ([.ref h0, .int p0])).length) Slot.unset).toArray = ls at hl ⊢
  have hl : lv_has ls 5 [(0, .ref h0), (1, .int p0)] := hl
  unfold wp_X4_sumOf at hw
  skip
  obtain ⟨H, hH⟩ : ∃ H, H = s.heap := ⟨_, rfl⟩
  obtain ⟨locs, hlo⟩ : ∃ q : List Loc, q = [] := ⟨_, rfl⟩
  rw [← hH] at hP
  have hS : va_S A s.heap H locs := by rw [hH, hlo]; exact hS
  suffices hgo : W p l e (headSpec wsX4_sumOf ({ frames := 1, cells := 0, slots := 0, locals := 22 } : Room)).room s m _ below meth c H locs 0 0 _ (F0 m 0 ls []) by rw [hH, hlo] at hgo; exact hgo
  refine lv_lconst (v := (0 : Int64)) hx hb dX4_sumOf_0 (by decide) ?_
  refine lv_lstore_n (lv' := [(2, .long (0 : Int64)), (0, .ref h0), (1, .int p0)]) hx hb dX4_sumOf_1 rfl hl (by decide) rfl (fun ls hl => ?_)
  refine lv_iconst (v := (0 : Int32)) hx hb dX4_sumOf_2 (by decide) ?_
  refine lv_istore (lv' := [(4, .int (0 : Int32)), (2, .long (0 : Int64)), (0, .ref h0), (1, .int p0)]) hx hb dX4_sumOf_3 hl (by decide) rfl (fun ls hl => ?_)
  refine L5 p0 (20000) (0 : Int64) (0 : Int32) _ hw (fun x2_4 x4_5 hw H locs ls hP hD hS hl => ?_) H locs ls hP hD hS (lv_sub hl [0, 1, 2, 3] rfl)
  refine lv_lload_n hx hb dX4_sumOf_29 rfl (lv_at hl 1 rfl) ?_
  exact W.lret (v := x2_4) hx hb hr (fun t ht hW => ⟨⟨x2_4, ((cl4 h0 w0 so be cJ cI σ)), rfl, ⟨hw, rfl⟩, by rw [ht]; exact hP, va_K.moved hW.alike hK, hD⟩, hS.F ht⟩) hS.2.2 dX4_sumOf_30
set_option maxHeartbeats 4000000 in
set_option maxRecDepth 100000 in
theorem c_X4_sum (l : Launch) (dC : Nat → ClassId) (dI : Nat → Nat → Nat) (h0 w0 so be : Nat) (cJ : ClassId) (cI : ClassId) (σ : SM) (p0 : Int32) (post : Int64 → Prop) (hw : wp_X4_sum p0 σ post) : KL l yX4_sum wsX4_sum ({ frames := 2, cells := 0, slots := 0, locals := 46 } : Room) (dC, dI) [(cJ, .long), (cI, .int)] (cl4 h0 w0 so be cJ cI σ) [.ref h0, .int p0] (fun r u => post r ∧ u = (cl4 h0 w0 so be cJ cI σ)) := by
  intro sz
  refine Met.ofW (cc := cX4_sum) (maxL := 2) (ret := (some .long)) (by decide) rfl ?_
  intro p e s m args below meth c s₁ B hml hv
  obtain ⟨rfl, hsz, hP, hK, hD0, hnw⟩ := hv
  have hx := B.exec
  have hb := B.bytes
  have hr := B.returns
  have hts := atoms_spec (ws := wsX4_sum) B.pre
  have hown : s.vm.findClass RX4 = some m.cls := findClass_of_methodNamed B.named
  have hlocks := B.notSynchronized
  subst hsz
  have hD := hD0.self (sz := s.heap.size)
  generalize hAe : va_A (cl4 h0 w0 so be cJ cI σ) s.heap.size = A at hD ⊢
  have hA : ∀ q : Nat, s.heap.size ≤ q → A q := fun q h => by rw [← hAe]; exact Or.inr h
  have hS : va_S A s.heap s.heap [] := va_S.rf
  have hP : va_P (dC, dI) vwCl [(h0, .inr (3, [.int σ.1, .int σ.2.1, .int σ.2.2.1, .ref w0, .int σ.2.2.2.2.1, .int σ.2.2.2.2.2.1, .long σ.2.2.2.2.2.2.1, .ref so, .ref be, .int σ.2.2.2.2.2.2.2.2.2.1, .int σ.2.2.2.2.2.2.2.2.2.2.1, .int σ.2.2.2.2.2.2.2.2.2.2.2.1, .int σ.2.2.2.2.2.2.2.2.2.2.2.2])), (w0, .inl (cJ, 511, .inr (.inl (σ.2.2.2.1)))), (so, .inl (cI, 30, .inl (σ.2.2.2.2.2.2.2.1))), (be, .inl (cI, 30, .inl (σ.2.2.2.2.2.2.2.2.1)))] s.heap := hP
  have hD : va_D A [(h0, .inr (3, [.int σ.1, .int σ.2.1, .int σ.2.2.1, .ref w0, .int σ.2.2.2.2.1, .int σ.2.2.2.2.2.1, .long σ.2.2.2.2.2.2.1, .ref so, .ref be, .int σ.2.2.2.2.2.2.2.2.2.1, .int σ.2.2.2.2.2.2.2.2.2.2.1, .int σ.2.2.2.2.2.2.2.2.2.2.2.1, .int σ.2.2.2.2.2.2.2.2.2.2.2.2])), (w0, .inl (cJ, 511, .inr (.inl (σ.2.2.2.1)))), (so, .inl (cI, 30, .inl (σ.2.2.2.2.2.2.2.1))), (be, .inl (cI, 30, .inl (σ.2.2.2.2.2.2.2.2.1)))] := hD
  have hl := lv_entry ([.ref h0, .int p0]) (n := 2) (Nat.le_of_ble_eq_true rfl)
  rw [lg_entry_eq]
  generalize (lg_sl ([.ref h0, .int p0]) ++ List.replicate (2 - (lg_sl ([.ref h0, .int p0])).length) Slot.unset).toArray = ls at hl ⊢
  have hl : lv_has ls 2 [(0, .ref h0), (1, .int p0)] := hl
  unfold wp_X4_sum at hw
  skip
  obtain ⟨H, hH⟩ : ∃ H, H = s.heap := ⟨_, rfl⟩
  obtain ⟨locs, hlo⟩ : ∃ q : List Loc, q = [] := ⟨_, rfl⟩
  rw [← hH] at hP
  have hS : va_S A s.heap H locs := by rw [hH, hlo]; exact hS
  suffices hgo : W p l e (headSpec wsX4_sum ({ frames := 2, cells := 0, slots := 0, locals := 46 } : Room)).room s m _ below meth c H locs 0 0 _ (F0 m 0 ls []) by rw [hH, hlo] at hgo; exact hgo
  refine lv_iload_n hx hb dX4_sum_0 rfl (lv_at hl 1 rfl) ?_
  refine lv_i2l hx hb dX4_sum_1 rfl ?_
  refine lv_lconst (v := (0 : Int64)) hx hb dX4_sum_2 (by decide) ?_
  refine lv_ldc2 (v := (8 : Int64)) hx hb hown (hts (.constantLong RX4 41 (8 : Int64)) (by decide +kernel)) dX4_sum_3 ?_
  have hPc := hP.sub (ws' := ([] : va_W)) [] rfl
  have hDc := hD.sub (ws' := ([] : va_W)) [] (by decide) rfl
  have hKc := hK.sub (tys' := []) [] rfl
  have hFc := va_free (wc := ([] : va_W)) hD hS hA [] rfl
  refine kc_i (wr := [(h0, .inr (3, [.int σ.1, .int σ.2.1, .int σ.2.2.1, .ref w0, .int σ.2.2.2.2.1, .int σ.2.2.2.2.2.1, .long σ.2.2.2.2.2.2.1, .ref so, .ref be, .int σ.2.2.2.2.2.2.2.2.2.1, .int σ.2.2.2.2.2.2.2.2.2.2.1, .int σ.2.2.2.2.2.2.2.2.2.2.2.1, .int σ.2.2.2.2.2.2.2.2.2.2.2.2])), (w0, .inl (cJ, 511, .inr (.inl (σ.2.2.2.1)))), (so, .inl (cI, 30, .inl (σ.2.2.2.2.2.2.2.1))), (be, .inl (cI, 30, .inl (σ.2.2.2.2.2.2.2.2.1)))]) (kr_S (As := [.long (p0.toInt64), .long (0 : Int64), .long (8 : Int64)]) (rest := []) (ws := [(h0, .inr (3, [.int σ.1, .int σ.2.1, .int σ.2.2.1, .ref w0, .int σ.2.2.2.2.1, .int σ.2.2.2.2.2.1, .long σ.2.2.2.2.2.2.1, .ref so, .ref be, .int σ.2.2.2.2.2.2.2.2.2.1, .int σ.2.2.2.2.2.2.2.2.2.2.1, .int σ.2.2.2.2.2.2.2.2.2.2.2.1, .int σ.2.2.2.2.2.2.2.2.2.2.2.2])), (w0, .inl (cJ, 511, .inr (.inl (σ.2.2.2.1)))), (so, .inl (cI, 30, .inl (σ.2.2.2.2.2.2.2.1))), (be, .inl (cI, 30, .inl (σ.2.2.2.2.2.2.2.2.1)))]) ⟨hx, hb, hml, hown, hts⟩ (c_X4_in l dC dI   (p0.toInt64) (0 : Int64) (8 : Int64) _ hw H.size) (va_cwS 3 hts gX4_sum_X4_in rfl rfl rfl (by decide +kernel) ⟨Nat.le_of_ble_eq_true rfl, Nat.le_of_ble_eq_true rfl⟩) hKc hnw hP hD hPc hDc rfl hl.1 rfl (Nat.le_of_ble_eq_true rfl) dX4_sum_6 ⟨Nat.zero_le _, Nat.zero_le _⟩) hP hD hS hFc [] [0, 1, 2, 3] rfl rfl (by decide) (by decide) (fun r1 u1 H locs hq hP hD hS => ?_)
  obtain ⟨hw, rfl⟩ := hq
  have hP : va_P (dC, dI) vwCl [(h0, .inr (3, [.int σ.1, .int σ.2.1, .int σ.2.2.1, .ref w0, .int σ.2.2.2.2.1, .int σ.2.2.2.2.2.1, .long σ.2.2.2.2.2.2.1, .ref so, .ref be, .int σ.2.2.2.2.2.2.2.2.2.1, .int σ.2.2.2.2.2.2.2.2.2.2.1, .int σ.2.2.2.2.2.2.2.2.2.2.2.1, .int σ.2.2.2.2.2.2.2.2.2.2.2.2])), (w0, .inl (cJ, 511, .inr (.inl (σ.2.2.2.1)))), (so, .inl (cI, 30, .inl (σ.2.2.2.2.2.2.2.1))), (be, .inl (cI, 30, .inl (σ.2.2.2.2.2.2.2.2.1)))] H := hP
  have hD : va_D A [(h0, .inr (3, [.int σ.1, .int σ.2.1, .int σ.2.2.1, .ref w0, .int σ.2.2.2.2.1, .int σ.2.2.2.2.2.1, .long σ.2.2.2.2.2.2.1, .ref so, .ref be, .int σ.2.2.2.2.2.2.2.2.2.1, .int σ.2.2.2.2.2.2.2.2.2.2.1, .int σ.2.2.2.2.2.2.2.2.2.2.2.1, .int σ.2.2.2.2.2.2.2.2.2.2.2.2])), (w0, .inl (cJ, 511, .inr (.inl (σ.2.2.2.1)))), (so, .inl (cI, 30, .inl (σ.2.2.2.2.2.2.2.1))), (be, .inl (cI, 30, .inl (σ.2.2.2.2.2.2.2.2.1)))] := hD
  refine lv_if_eq (tgt := 20) hx hb dX4_sum_9 (by decide) (fun c3 => ?_) (fun c3 => ?_)
  · have hw := hw.1 c3
    refine lv_ldc2 (v := (-1 : Int64)) hx hb hown (hts (.constantLong RX4 53 (-1 : Int64)) (by decide +kernel)) dX4_sum_20 ?_
    exact W.lret (v := (-1 : Int64)) hx hb hr (fun t ht hW => ⟨⟨(-1 : Int64), ((cl4 h0 w0 so be cJ cI σ)), rfl, ⟨hw, rfl⟩, by rw [ht]; exact hP, va_K.moved hW.alike hK, hD⟩, hS.F ht⟩) hS.2.2 dX4_sum_23
  · have hw := hw.2 c3
    refine lv_aload_n hx hb dX4_sum_12 rfl (lv_at hl 0 rfl) ?_
    refine lv_iload_n hx hb dX4_sum_13 rfl (lv_at hl 1 rfl) ?_
    have hPc := hP
    have hDc := hD
    have hKc := hK
    have hFc := va_free (wc := [(h0, .inr (3, [.int σ.1, .int σ.2.1, .int σ.2.2.1, .ref w0, .int σ.2.2.2.2.1, .int σ.2.2.2.2.2.1, .long σ.2.2.2.2.2.2.1, .ref so, .ref be, .int σ.2.2.2.2.2.2.2.2.2.1, .int σ.2.2.2.2.2.2.2.2.2.2.1, .int σ.2.2.2.2.2.2.2.2.2.2.2.1, .int σ.2.2.2.2.2.2.2.2.2.2.2.2])), (w0, .inl (cJ, 511, .inr (.inl (σ.2.2.2.1)))), (so, .inl (cI, 30, .inl (σ.2.2.2.2.2.2.2.1))), (be, .inl (cI, 30, .inl (σ.2.2.2.2.2.2.2.2.1)))]) hD hS hA [0, 1, 2, 3] rfl
    refine kc_l (wr := ([] : va_W)) (kr_V (As := [.int p0]) (rest := []) (b := h0) (ws := [(h0, .inr (3, [.int σ.1, .int σ.2.1, .int σ.2.2.1, .ref w0, .int σ.2.2.2.2.1, .int σ.2.2.2.2.2.1, .long σ.2.2.2.2.2.2.1, .ref so, .ref be, .int σ.2.2.2.2.2.2.2.2.2.1, .int σ.2.2.2.2.2.2.2.2.2.2.1, .int σ.2.2.2.2.2.2.2.2.2.2.2.1, .int σ.2.2.2.2.2.2.2.2.2.2.2.2])), (w0, .inl (cJ, 511, .inr (.inl (σ.2.2.2.1)))), (so, .inl (cI, 30, .inl (σ.2.2.2.2.2.2.2.1))), (be, .inl (cI, 30, .inl (σ.2.2.2.2.2.2.2.2.1)))]) ⟨hx, hb, hml, hown, hts⟩ (c_X4_sumOf l dC dI h0 w0 so be cJ cI σ p0 _ hw H.size) (cwV 1 hts gX4_sum_X4_sumOf rfl rfl rfl (by decide +kernel) ⟨Nat.le_of_ble_eq_true rfl, Nat.le_of_ble_eq_true rfl⟩) 3 0 hK rfl rfl rfl hKc hnw hP hD hPc hDc rfl hl.1 rfl (Nat.le_of_ble_eq_true rfl) dX4_sum_14 ⟨Nat.zero_le _, Nat.zero_le _⟩) hP hD hS hFc [0, 1, 2, 3] [] rfl rfl (by decide) (by decide) (fun r4 u1 H locs hq hP hD hS => ?_)
    obtain ⟨hw, rfl⟩ := hq
    have hP : va_P (dC, dI) vwCl [(h0, .inr (3, [.int σ.1, .int σ.2.1, .int σ.2.2.1, .ref w0, .int σ.2.2.2.2.1, .int σ.2.2.2.2.2.1, .long σ.2.2.2.2.2.2.1, .ref so, .ref be, .int σ.2.2.2.2.2.2.2.2.2.1, .int σ.2.2.2.2.2.2.2.2.2.2.1, .int σ.2.2.2.2.2.2.2.2.2.2.2.1, .int σ.2.2.2.2.2.2.2.2.2.2.2.2])), (w0, .inl (cJ, 511, .inr (.inl (σ.2.2.2.1)))), (so, .inl (cI, 30, .inl (σ.2.2.2.2.2.2.2.1))), (be, .inl (cI, 30, .inl (σ.2.2.2.2.2.2.2.2.1)))] H := hP
    have hD : va_D A [(h0, .inr (3, [.int σ.1, .int σ.2.1, .int σ.2.2.1, .ref w0, .int σ.2.2.2.2.1, .int σ.2.2.2.2.2.1, .long σ.2.2.2.2.2.2.1, .ref so, .ref be, .int σ.2.2.2.2.2.2.2.2.2.1, .int σ.2.2.2.2.2.2.2.2.2.2.1, .int σ.2.2.2.2.2.2.2.2.2.2.2.1, .int σ.2.2.2.2.2.2.2.2.2.2.2.2])), (w0, .inl (cJ, 511, .inr (.inl (σ.2.2.2.1)))), (so, .inl (cI, 30, .inl (σ.2.2.2.2.2.2.2.1))), (be, .inl (cI, 30, .inl (σ.2.2.2.2.2.2.2.2.1)))] := hD
    refine lv_goto (tgt := 23) hx hb dX4_sum_17 (by decide) ?_
    exact W.lret (v := r4) hx hb hr (fun t ht hW => ⟨⟨r4, ((cl4 h0 w0 so be cJ cI σ)), rfl, ⟨hw, rfl⟩, by rw [ht]; exact hP, va_K.moved hW.alike hK, hD⟩, hS.F ht⟩) hS.2.2 dX4_sum_23
set_option maxHeartbeats 4000000 in
set_option maxRecDepth 100000 in
theorem c_X4_least (l : Launch) (dC : Nat → ClassId) (dI : Nat → Nat → Nat)   (p0 : Int64) (p1 : Int64) (p2 : Int32) (post : Int64 → Prop) (hw : wp_X4_least p0 p1 p2  post) : KL l yX4_least wsX4_least ({ frames := 0, cells := 0, slots := 0, locals := 0 } : Room) (dC, dI) [] [] [.long p0, .long p1, .int p2] (fun r u => post r ∧ u = []) := by
  intro sz
  refine Met.ofW (cc := cX4_least) (maxL := 11) (ret := (some .long)) (by decide) rfl ?_
  intro p e s m args below meth c s₁ B hml hv
  obtain ⟨rfl, hsz, hP, hK, hD0, hnw⟩ := hv
  have hx := B.exec
  have hb := B.bytes
  have hr := B.returns
  have hts := atoms_spec (ws := wsX4_least) B.pre
  have hown : s.vm.findClass RX4 = some m.cls := findClass_of_methodNamed B.named
  have hlocks := B.notSynchronized
  subst hsz
  have hD := hD0.self (sz := s.heap.size)
  generalize hAe : va_A [] s.heap.size = A at hD ⊢
  have hA : ∀ q : Nat, s.heap.size ≤ q → A q := fun q h => by rw [← hAe]; exact Or.inr h
  have hS : va_S A s.heap s.heap [] := va_S.rf
  have hP : va_P (dC, dI) vwCl [] s.heap := hP
  have hD : va_D A [] := hD
  have L6 : ∀ (x0 : Int64) (x2 : Int64) (x4 : Int32)  (n : Nat) (x5 : Int64) (x7 : Int64)  (k : Int64 → Int64 → Prop), wl_X4_least_6 x0 x2 x4  n x5 x7 k →
      (∀ (x5 : Int64) (x7 : Int64) , k x5 x7 → ∀ (H : Heap) (locs : List Loc) (ls : Array Slot), va_P (dC, dI) vwCl [] H → va_D A [] → va_S A s.heap H locs → lv_has ls 11 [(7, .long x7), (5, .long x5), (0, .long x0), (2, .long x2), (4, .int x4)] → W p l e (headSpec wsX4_least ({ frames := 0, cells := 0, slots := 0, locals := 0 } : Room)).room s m ([.long p0, .long p1, .int p2] : List Value).toArray below meth c H locs 0 0 (MQ below (va_Ql (fun r u => post r ∧ u = []) (kB (dC, dI) [] A) A) ([.long p0, .long p1, .int p2] : List Value).toArray s 0 0 A) (F0 m 31 ls [])) →
      ∀ (H : Heap) (locs : List Loc) (ls : Array Slot), va_P (dC, dI) vwCl [] H → va_D A [] → va_S A s.heap H locs → lv_has ls 11 [(7, .long x7), (5, .long x5), (0, .long x0), (2, .long x2), (4, .int x4)] → W p l e (headSpec wsX4_least ({ frames := 0, cells := 0, slots := 0, locals := 0 } : Room)).room s m ([.long p0, .long p1, .int p2] : List Value).toArray below meth c H locs 0 0 (MQ below (va_Ql (fun r u => post r ∧ u = []) (kB (dC, dI) [] A) A) ([.long p0, .long p1, .int p2] : List Value).toArray s 0 0 A) (F0 m 6 ls []) := by
    intro x0 x2 x4 n
    induction n with
    | zero => intro x5 x7 k hw; exact absurd hw id
    | succ n ih =>
      intro x5 x7 k hw hk H locs ls hP hD hS hl
      unfold wl_X4_least_6 at hw
      refine lv_lload hx hb dX4_least_6 (lv_at hl 0 rfl) ?_
      refine lv_lconst (v := (0 : Int64)) hx hb dX4_least_8 (by decide) ?_
      refine W.lcmp hx hb dX4_least_9 ?_
      refine lv_if_eq (tgt := 31) hx hb dX4_least_10 (by decide) (fun c1 => ?_) (fun c1 => ?_)
      · have hw := hw.1 (lgc_eq.mp c1)
        exact hk x5 x7 hw H locs ls hP hD hS (lv_sub hl [0, 1, 2, 3, 4] rfl)
      · have hw := hw.2 ((not_congr lgc_eq).mp c1)
        refine lv_lload hx hb dX4_least_13 (lv_at hl 1 rfl) ?_
        refine lv_lload hx hb dX4_least_15 (lv_at hl 0 rfl) ?_
        have z2 := hw.1
        have hw := hw.2
        refine lv_lrem hx hb dX4_least_17 z2 ?_
        refine lv_lstore (lv' := [(9, .long (x5 - x5 / x7 * x7)), (7, .long x7), (5, .long x5), (0, .long x0), (2, .long x2), (4, .int x4)]) hx hb dX4_least_18 hl (by decide) rfl (fun ls hl => ?_)
        refine lv_lload hx hb dX4_least_20 (lv_at hl 1 rfl) ?_
        refine lv_lstore (lv' := [(5, .long x7), (9, .long (x5 - x5 / x7 * x7)), (7, .long x7), (0, .long x0), (2, .long x2), (4, .int x4)]) hx hb dX4_least_22 hl (by decide) rfl (fun ls hl => ?_)
        refine lv_lload hx hb dX4_least_24 (lv_at hl 1 rfl) ?_
        refine lv_lstore (lv' := [(7, .long (x5 - x5 / x7 * x7)), (5, .long x7), (9, .long (x5 - x5 / x7 * x7)), (0, .long x0), (2, .long x2), (4, .int x4)]) hx hb dX4_least_26 hl (by decide) rfl (fun ls hl => ?_)
        refine lv_goto (tgt := 6) hx hb dX4_least_28 (by decide) ?_
        exact ih x7 (x5 - x5 / x7 * x7) _ hw hk H locs ls hP hD hS (lv_sub hl [0, 1, 3, 4, 5] rfl)
  have hl := lv_entry ([.long p0, .long p1, .int p2]) (n := 11) (Nat.le_of_ble_eq_true rfl)
  rw [lg_entry_eq]
  generalize (lg_sl ([.long p0, .long p1, .int p2]) ++ List.replicate (11 - (lg_sl ([.long p0, .long p1, .int p2])).length) Slot.unset).toArray = ls at hl ⊢
  have hl : lv_has ls 11 [(0, .long p0), (2, .long p1), (4, .int p2)] := hl
  unfold wp_X4_least at hw
  skip
  obtain ⟨H, hH⟩ : ∃ H, H = s.heap := ⟨_, rfl⟩
  obtain ⟨locs, hlo⟩ : ∃ q : List Loc, q = [] := ⟨_, rfl⟩
  rw [← hH] at hP
  have hS : va_S A s.heap H locs := by rw [hH, hlo]; exact hS
  suffices hgo : W p l e (headSpec wsX4_least ({ frames := 0, cells := 0, slots := 0, locals := 0 } : Room)).room s m _ below meth c H locs 0 0 _ (F0 m 0 ls []) by rw [hH, hlo] at hgo; exact hgo
  refine lv_lload_n hx hb dX4_least_0 rfl (lv_at hl 0 rfl) ?_
  refine lv_lstore (lv' := [(5, .long p0), (0, .long p0), (2, .long p1), (4, .int p2)]) hx hb dX4_least_1 hl (by decide) rfl (fun ls hl => ?_)
  refine lv_lload_n hx hb dX4_least_3 rfl (lv_at hl 2 rfl) ?_
  refine lv_lstore (lv' := [(7, .long p1), (5, .long p0), (0, .long p0), (2, .long p1), (4, .int p2)]) hx hb dX4_least_4 hl (by decide) rfl (fun ls hl => ?_)
  refine L6 p0 p1 p2 (20000) p0 p1 _ hw (fun x5_3 x7_4 hw H locs ls hP hD hS hl => ?_) H locs ls hP hD hS (lv_sub hl [0, 1, 2, 3, 4] rfl)
  refine lv_iload hx hb dX4_least_31 (lv_at hl 4 rfl) ?_
  refine lv_if_ne (tgt := 40) hx hb dX4_least_33 (by decide) (fun c6 => ?_) (fun c6 => ?_)
  · have hw := hw.1 c6
    refine lv_lload_n hx hb dX4_least_40 rfl (lv_at hl 3 rfl) ?_
    refine lv_lload hx hb dX4_least_41 (lv_at hl 1 rfl) ?_
    have z7 := hw.1
    have hw := hw.2
    refine lv_ldiv hx hb dX4_least_43 z7 ?_
    exact W.lret (v := (p1 / x5_3)) hx hb hr (fun t ht hW => ⟨⟨(p1 / x5_3), ([] : va_W), rfl, ⟨hw, rfl⟩, by rw [ht]; exact hP, va_K.moved hW.alike hK, hD⟩, hS.F ht⟩) hS.2.2 dX4_least_44
  · have hw := hw.2 c6
    refine lv_lload_n hx hb dX4_least_36 rfl (lv_at hl 2 rfl) ?_
    refine lv_goto (tgt := 41) hx hb dX4_least_37 (by decide) ?_
    refine lv_lload hx hb dX4_least_41 (lv_at hl 1 rfl) ?_
    have z8 := hw.1
    have hw := hw.2
    refine lv_ldiv hx hb dX4_least_43 z8 ?_
    exact W.lret (v := (p0 / x5_3)) hx hb hr (fun t ht hW => ⟨⟨(p0 / x5_3), ([] : va_W), rfl, ⟨hw, rfl⟩, by rw [ht]; exact hP, va_K.moved hW.alike hK, hD⟩, hS.F ht⟩) hS.2.2 dX4_least_44
