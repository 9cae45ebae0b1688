set_option maxHeartbeats 4000000 in
set_option maxRecDepth 100000 in
theorem c_X3_chance (l : Launch) (dC : Nat → ClassId) (dI : Nat → Nat → Nat) (h0 hc w0 w1 hs : Nat) (cJ : ClassId) (σ : SO) (p0 : Int32) (p1 : Int32) (post : Int64 → Prop) (hw : wp_X3_chance p0 p1 σ post) : KL l yX3_chance wsX3_chance ({ frames := 2, cells := 0, slots := 0, locals := 58 } : Room) (dC, dI) [(cJ, .long)] (cl3 h0 hc w0 w1 hs cJ σ) [.ref h0, .int p0, .int p1] (fun r u => post r ∧ u = (cl3 h0 hc w0 w1 hs cJ σ)) := by
  intro sz
  refine Met.ofW (cc := cX3_chance) (maxL := 3) (ret := (some .long)) (by decide) rfl ?_
  intro p e s m args below meth c s₁ B hml hv
  obtain ⟨rfl, hsz, hP, hK, hD0, hnw⟩ := hv
  have hx := B.exec
  have hb := B.bytes
  have hr := B.returns
  have hts := atoms_spec (ws := wsX3_chance) B.pre
  have hown : s.vm.findClass RX3 = some m.cls := findClass_of_methodNamed B.named
  have hlocks := B.notSynchronized
  subst hsz
  have hD := hD0.self (sz := s.heap.size)
  generalize hAe : va_A (cl3 h0 hc w0 w1 hs cJ σ) s.heap.size = A at hD ⊢
  have hA : ∀ q : Nat, s.heap.size ≤ q → A q := fun q h => by rw [← hAe]; exact Or.inr h
  have hS : va_S A s.heap s.heap [] := va_S.rf
  have hP : va_P (dC, dI) vwCl [(h0, .inr (2, [.ref hc, .ref hs])), (hc, .inr (0, [.ref w0, .ref w1, .int σ.1.1, .int σ.1.2.1, .int σ.1.2.2.1])), (w0, .inl (cJ, 512, .inr (.inl (σ.1.2.2.2.1)))), (w1, .inl (cJ, 9, .inr (.inl (σ.1.2.2.2.2)))), (hs, .inr (1, [.int σ.2.1, .int σ.2.2.1, .int σ.2.2.2.1, .int σ.2.2.2.2.1, .int σ.2.2.2.2.2.1, .int σ.2.2.2.2.2.2.1, .int σ.2.2.2.2.2.2.2.1, .int σ.2.2.2.2.2.2.2.2]))] s.heap := hP
  have hD : va_D A [(h0, .inr (2, [.ref hc, .ref hs])), (hc, .inr (0, [.ref w0, .ref w1, .int σ.1.1, .int σ.1.2.1, .int σ.1.2.2.1])), (w0, .inl (cJ, 512, .inr (.inl (σ.1.2.2.2.1)))), (w1, .inl (cJ, 9, .inr (.inl (σ.1.2.2.2.2)))), (hs, .inr (1, [.int σ.2.1, .int σ.2.2.1, .int σ.2.2.2.1, .int σ.2.2.2.2.1, .int σ.2.2.2.2.2.1, .int σ.2.2.2.2.2.2.1, .int σ.2.2.2.2.2.2.2.1, .int σ.2.2.2.2.2.2.2.2]))] := hD
  have fl_10 := hts (.fieldLink RX3 10 "OnePlaceEach" "chain" "LOnePlaceEach$Chain;") (by decide +kernel)
  have hin0 : ∀ w ∈ wsX30, w ∈ wsX3_chance := by decide +kernel
  have hl := lv_entry ([.ref h0, .int p0, .int p1]) (n := 3) (Nat.le_of_ble_eq_true rfl)
  rw [lg_entry_eq]
  generalize (lg_sl ([.ref h0, .int p0, .int p1]) ++ List.replicate (3 - (lg_sl ([.ref h0, .int p0, .int p1])).length) Slot.unset).toArray = ls at hl ⊢
  have hl : lv_has ls 3 [(0, .ref h0), (1, .int p0), (2, .int p1)] := hl
  unfold wp_X3_chance at hw
  skip
  obtain ⟨H, hH⟩ : ∃ H, H = s.heap := ⟨_, rfl⟩
  obtain ⟨locs, hlo⟩ : ∃ q : List Loc, q = [] := ⟨_, rfl⟩
  rw [← hH] at hP
  have hS : va_S A s.heap H locs := by rw [hH, hlo]; exact hS
  suffices hgo : W p l e (headSpec wsX3_chance ({ frames := 2, cells := 0, slots := 0, locals := 58 } : Room)).room s m _ below meth c H locs 0 0 _ (F0 m 0 ls []) by rw [hH, hlo] at hgo; exact hgo
  refine lv_aload_n hx hb dX3_chance_0 rfl (lv_at hl 0 rfl) ?_
  refine va_get (D := (dC, dI)) (ci := 2) (v := .ref hc) (C := RX3) (T := TX3) (N := 2) hx hb hts hin0 hown hK hP 0 rfl rfl 0 (by decide) fl_10 (fun _ h9 => h9) rfl dX3_chance_1 ?_
  refine lv_iload_n hx hb dX3_chance_4 rfl (lv_at hl 1 rfl) ?_
  have hPc := hP.sub (ws' := [(hc, .inr (0, [.ref w0, .ref w1, .int σ.1.1, .int σ.1.2.1, .int σ.1.2.2.1])), (w0, .inl (cJ, 512, .inr (.inl (σ.1.2.2.2.1)))), (w1, .inl (cJ, 9, .inr (.inl (σ.1.2.2.2.2))))]) [1, 2, 3] rfl
  have hDc := hD.sub (ws' := [(hc, .inr (0, [.ref w0, .ref w1, .int σ.1.1, .int σ.1.2.1, .int σ.1.2.2.1])), (w0, .inl (cJ, 512, .inr (.inl (σ.1.2.2.2.1)))), (w1, .inl (cJ, 9, .inr (.inl (σ.1.2.2.2.2))))]) [1, 2, 3] (by decide) rfl
  have hKc := hK.sub (tys' := [(cJ, .long)]) [0] rfl
  have hFc := va_free (wc := [(hc, .inr (0, [.ref w0, .ref w1, .int σ.1.1, .int σ.1.2.1, .int σ.1.2.2.1])), (w0, .inl (cJ, 512, .inr (.inl (σ.1.2.2.2.1)))), (w1, .inl (cJ, 9, .inr (.inl (σ.1.2.2.2.2))))]) hD hS hA [1, 2, 3] rfl
  refine kc_i (wr := [(h0, .inr (2, [.ref hc, .ref hs])), (hs, .inr (1, [.int σ.2.1, .int σ.2.2.1, .int σ.2.2.2.1, .int σ.2.2.2.2.1, .int σ.2.2.2.2.2.1, .int σ.2.2.2.2.2.2.1, .int σ.2.2.2.2.2.2.2.1, .int σ.2.2.2.2.2.2.2.2]))]) (kr_V (As := [.int p0]) (rest := []) (b := hc) (ws := [(h0, .inr (2, [.ref hc, .ref hs])), (hc, .inr (0, [.ref w0, .ref w1, .int σ.1.1, .int σ.1.2.1, .int σ.1.2.2.1])), (w0, .inl (cJ, 512, .inr (.inl (σ.1.2.2.2.1)))), (w1, .inl (cJ, 9, .inr (.inl (σ.1.2.2.2.2)))), (hs, .inr (1, [.int σ.2.1, .int σ.2.2.1, .int σ.2.2.2.1, .int σ.2.2.2.2.1, .int σ.2.2.2.2.2.1, .int σ.2.2.2.2.2.2.1, .int σ.2.2.2.2.2.2.2.1, .int σ.2.2.2.2.2.2.2.2]))]) ⟨hx, hb, hml, hown, hts⟩ (c_X0_hasState l dC dI hc w0 w1 cJ σ.1 p0 _ hw H.size) (cwV 1 hts gX3_chance_X0_hasState rfl rfl rfl (by decide +kernel) ⟨Nat.le_of_ble_eq_true rfl, Nat.le_of_ble_eq_true rfl⟩) 0 1 hK rfl rfl rfl hKc hnw hP hD hPc hDc rfl hl.1 rfl (Nat.le_of_ble_eq_true rfl) dX3_chance_5 ⟨Nat.zero_le _, Nat.zero_le _⟩) hP hD hS hFc [1, 2, 3] [0, 4] rfl rfl (by decide) (by decide) (fun r1 u1 H locs hq hP hD hS => ?_)
  obtain ⟨hw, rfl⟩ := hq
  have hP : va_P (dC, dI) vwCl [(h0, .inr (2, [.ref hc, .ref hs])), (hc, .inr (0, [.ref w0, .ref w1, .int σ.1.1, .int σ.1.2.1, .int σ.1.2.2.1])), (w0, .inl (cJ, 512, .inr (.inl (σ.1.2.2.2.1)))), (w1, .inl (cJ, 9, .inr (.inl (σ.1.2.2.2.2)))), (hs, .inr (1, [.int σ.2.1, .int σ.2.2.1, .int σ.2.2.2.1, .int σ.2.2.2.2.1, .int σ.2.2.2.2.2.1, .int σ.2.2.2.2.2.2.1, .int σ.2.2.2.2.2.2.2.1, .int σ.2.2.2.2.2.2.2.2]))] H := hP.sub [0, 2, 3, 4, 1] rfl
  have hD : va_D A [(h0, .inr (2, [.ref hc, .ref hs])), (hc, .inr (0, [.ref w0, .ref w1, .int σ.1.1, .int σ.1.2.1, .int σ.1.2.2.1])), (w0, .inl (cJ, 512, .inr (.inl (σ.1.2.2.2.1)))), (w1, .inl (cJ, 9, .inr (.inl (σ.1.2.2.2.2)))), (hs, .inr (1, [.int σ.2.1, .int σ.2.2.1, .int σ.2.2.2.1, .int σ.2.2.2.2.1, .int σ.2.2.2.2.2.1, .int σ.2.2.2.2.2.2.1, .int σ.2.2.2.2.2.2.2.1, .int σ.2.2.2.2.2.2.2.2]))] := hD.sub [0, 2, 3, 4, 1] (by decide) rfl
  refine lv_if_eq (tgt := 20) hx hb dX3_chance_8 (by decide) (fun c3 => ?_) (fun c3 => ?_)
  · have hw := hw.1 c3
    refine lv_ldc2 (v := (-1 : Int64)) hx hb hown (hts (.constantLong RX3 43 (-1 : Int64)) (by decide +kernel)) dX3_chance_20 ?_
    exact W.lret (v := (-1 : Int64)) hx hb hr (fun t ht hW => ⟨⟨(-1 : Int64), ((cl3 h0 hc w0 w1 hs cJ σ)), rfl, ⟨hw, rfl⟩, by rw [ht]; exact hP, va_K.moved hW.alike hK, hD⟩, hS.F ht⟩) hS.2.2 dX3_chance_23
  · have hw := hw.2 c3
    refine lv_iload_n hx hb dX3_chance_11 rfl (lv_at hl 2 rfl) ?_
    refine lv_iconst (v := (0 : Int32)) hx hb dX3_chance_12 (by decide) ?_
    refine lv_iconst (v := (1 : Int32)) hx hb dX3_chance_13 (by decide) ?_
    have hPc := hP.sub (ws' := ([] : va_W)) [] rfl
    have hDc := hD.sub (ws' := ([] : va_W)) [] (by decide) rfl
    have hKc := hK.sub (tys' := []) [] rfl
    have hFc := va_free (wc := ([] : va_W)) hD hS hA [] rfl
    refine kc_i (wr := [(h0, .inr (2, [.ref hc, .ref hs])), (hc, .inr (0, [.ref w0, .ref w1, .int σ.1.1, .int σ.1.2.1, .int σ.1.2.2.1])), (w0, .inl (cJ, 512, .inr (.inl (σ.1.2.2.2.1)))), (w1, .inl (cJ, 9, .inr (.inl (σ.1.2.2.2.2)))), (hs, .inr (1, [.int σ.2.1, .int σ.2.2.1, .int σ.2.2.2.1, .int σ.2.2.2.2.1, .int σ.2.2.2.2.2.1, .int σ.2.2.2.2.2.2.1, .int σ.2.2.2.2.2.2.2.1, .int σ.2.2.2.2.2.2.2.2]))]) (kr_S (As := [.int p1, .int (0 : Int32), .int (1 : Int32)]) (rest := []) (ws := [(h0, .inr (2, [.ref hc, .ref hs])), (hc, .inr (0, [.ref w0, .ref w1, .int σ.1.1, .int σ.1.2.1, .int σ.1.2.2.1])), (w0, .inl (cJ, 512, .inr (.inl (σ.1.2.2.2.1)))), (w1, .inl (cJ, 9, .inr (.inl (σ.1.2.2.2.2)))), (hs, .inr (1, [.int σ.2.1, .int σ.2.2.1, .int σ.2.2.2.1, .int σ.2.2.2.2.1, .int σ.2.2.2.2.2.1, .int σ.2.2.2.2.2.2.1, .int σ.2.2.2.2.2.2.2.1, .int σ.2.2.2.2.2.2.2.2]))]) ⟨hx, hb, hml, hown, hts⟩ (c_X3_isWithin l dC dI   p1 (0 : Int32) (1 : Int32) _ hw H.size) (va_cwS 3 hts gX3_chance_X3_isWithin rfl rfl rfl (by decide +kernel) ⟨Nat.le_of_ble_eq_true rfl, Nat.le_of_ble_eq_true rfl⟩) hKc hnw hP hD hPc hDc rfl hl.1 rfl (Nat.le_of_ble_eq_true rfl) dX3_chance_14 ⟨Nat.zero_le _, Nat.zero_le _⟩) hP hD hS hFc [] [0, 1, 2, 3, 4] rfl rfl (by decide) (by decide) (fun r4 u1 H locs hq hP hD hS => ?_)
    obtain ⟨hw, rfl⟩ := hq
    have hP : va_P (dC, dI) vwCl [(h0, .inr (2, [.ref hc, .ref hs])), (hc, .inr (0, [.ref w0, .ref w1, .int σ.1.1, .int σ.1.2.1, .int σ.1.2.2.1])), (w0, .inl (cJ, 512, .inr (.inl (σ.1.2.2.2.1)))), (w1, .inl (cJ, 9, .inr (.inl (σ.1.2.2.2.2)))), (hs, .inr (1, [.int σ.2.1, .int σ.2.2.1, .int σ.2.2.2.1, .int σ.2.2.2.2.1, .int σ.2.2.2.2.2.1, .int σ.2.2.2.2.2.2.1, .int σ.2.2.2.2.2.2.2.1, .int σ.2.2.2.2.2.2.2.2]))] H := hP
    have hD : va_D A [(h0, .inr (2, [.ref hc, .ref hs])), (hc, .inr (0, [.ref w0, .ref w1, .int σ.1.1, .int σ.1.2.1, .int σ.1.2.2.1])), (w0, .inl (cJ, 512, .inr (.inl (σ.1.2.2.2.1)))), (w1, .inl (cJ, 9, .inr (.inl (σ.1.2.2.2.2)))), (hs, .inr (1, [.int σ.2.1, .int σ.2.2.1, .int σ.2.2.2.1, .int σ.2.2.2.2.1, .int σ.2.2.2.2.2.1, .int σ.2.2.2.2.2.2.1, .int σ.2.2.2.2.2.2.2.1, .int σ.2.2.2.2.2.2.2.2]))] := hD
    refine lv_if_ne (tgt := 24) hx hb dX3_chance_17 (by decide) (fun c6 => ?_) (fun c6 => ?_)
    · have hw := hw.1 c6
      refine lv_aload_n hx hb dX3_chance_24 rfl (lv_at hl 0 rfl) ?_
      refine va_get (D := (dC, dI)) (ci := 2) (v := .ref hc) (C := RX3) (T := TX3) (N := 2) hx hb hts hin0 hown hK hP 0 rfl rfl 0 (by decide) fl_10 (fun _ h9 => h9) rfl dX3_chance_25 ?_
      refine lv_iload_n hx hb dX3_chance_28 rfl (lv_at hl 1 rfl) ?_
      have hPc := hP.sub (ws' := [(hc, .inr (0, [.ref w0, .ref w1, .int σ.1.1, .int σ.1.2.1, .int σ.1.2.2.1])), (w0, .inl (cJ, 512, .inr (.inl (σ.1.2.2.2.1)))), (w1, .inl (cJ, 9, .inr (.inl (σ.1.2.2.2.2))))]) [1, 2, 3] rfl
      have hDc := hD.sub (ws' := [(hc, .inr (0, [.ref w0, .ref w1, .int σ.1.1, .int σ.1.2.1, .int σ.1.2.2.1])), (w0, .inl (cJ, 512, .inr (.inl (σ.1.2.2.2.1)))), (w1, .inl (cJ, 9, .inr (.inl (σ.1.2.2.2.2))))]) [1, 2, 3] (by decide) rfl
      have hKc := hK.sub (tys' := [(cJ, .long)]) [0] rfl
      have hFc := va_free (wc := [(hc, .inr (0, [.ref w0, .ref w1, .int σ.1.1, .int σ.1.2.1, .int σ.1.2.2.1])), (w0, .inl (cJ, 512, .inr (.inl (σ.1.2.2.2.1)))), (w1, .inl (cJ, 9, .inr (.inl (σ.1.2.2.2.2))))]) hD hS hA [1, 2, 3] rfl
      refine kc_l (wr := [(h0, .inr (2, [.ref hc, .ref hs])), (hs, .inr (1, [.int σ.2.1, .int σ.2.2.1, .int σ.2.2.2.1, .int σ.2.2.2.2.1, .int σ.2.2.2.2.2.1, .int σ.2.2.2.2.2.2.1, .int σ.2.2.2.2.2.2.2.1, .int σ.2.2.2.2.2.2.2.2]))]) (kr_V (As := [.int p0]) (rest := []) (b := hc) (ws := [(h0, .inr (2, [.ref hc, .ref hs])), (hc, .inr (0, [.ref w0, .ref w1, .int σ.1.1, .int σ.1.2.1, .int σ.1.2.2.1])), (w0, .inl (cJ, 512, .inr (.inl (σ.1.2.2.2.1)))), (w1, .inl (cJ, 9, .inr (.inl (σ.1.2.2.2.2)))), (hs, .inr (1, [.int σ.2.1, .int σ.2.2.1, .int σ.2.2.2.1, .int σ.2.2.2.2.1, .int σ.2.2.2.2.2.1, .int σ.2.2.2.2.2.2.1, .int σ.2.2.2.2.2.2.2.1, .int σ.2.2.2.2.2.2.2.2]))]) ⟨hx, hb, hml, hown, hts⟩ (c_X0_weightOf l dC dI hc w0 w1 cJ σ.1 p0 _ hw H.size) (cwV 1 hts gX3_chance_X0_weightOf rfl rfl rfl (by decide +kernel) ⟨Nat.le_of_ble_eq_true rfl, Nat.le_of_ble_eq_true rfl⟩) 0 1 hK rfl rfl rfl hKc hnw hP hD hPc hDc rfl hl.1 rfl (Nat.le_of_ble_eq_true rfl) dX3_chance_29 ⟨Nat.zero_le _, Nat.zero_le _⟩) hP hD hS hFc [1, 2, 3] [0, 4] rfl rfl (by decide) (by decide) (fun r7 u1 H locs hq hP hD hS => ?_)
      obtain ⟨hw, rfl⟩ := hq
      have hP : va_P (dC, dI) vwCl [(h0, .inr (2, [.ref hc, .ref hs])), (hc, .inr (0, [.ref w0, .ref w1, .int σ.1.1, .int σ.1.2.1, .int σ.1.2.2.1])), (w0, .inl (cJ, 512, .inr (.inl (σ.1.2.2.2.1)))), (w1, .inl (cJ, 9, .inr (.inl (σ.1.2.2.2.2)))), (hs, .inr (1, [.int σ.2.1, .int σ.2.2.1, .int σ.2.2.2.1, .int σ.2.2.2.2.1, .int σ.2.2.2.2.2.1, .int σ.2.2.2.2.2.2.1, .int σ.2.2.2.2.2.2.2.1, .int σ.2.2.2.2.2.2.2.2]))] H := hP.sub [0, 2, 3, 4, 1] rfl
      have hD : va_D A [(h0, .inr (2, [.ref hc, .ref hs])), (hc, .inr (0, [.ref w0, .ref w1, .int σ.1.1, .int σ.1.2.1, .int σ.1.2.2.1])), (w0, .inl (cJ, 512, .inr (.inl (σ.1.2.2.2.1)))), (w1, .inl (cJ, 9, .inr (.inl (σ.1.2.2.2.2)))), (hs, .inr (1, [.int σ.2.1, .int σ.2.2.1, .int σ.2.2.2.1, .int σ.2.2.2.2.1, .int σ.2.2.2.2.2.1, .int σ.2.2.2.2.2.2.1, .int σ.2.2.2.2.2.2.2.1, .int σ.2.2.2.2.2.2.2.2]))] := hD.sub [0, 2, 3, 4, 1] (by decide) rfl
      refine lv_aload_n hx hb dX3_chance_32 rfl (lv_at hl 0 rfl) ?_
      refine va_get (D := (dC, dI)) (ci := 2) (v := .ref hc) (C := RX3) (T := TX3) (N := 2) hx hb hts hin0 hown hK hP 0 rfl rfl 0 (by decide) fl_10 (fun _ h9 => h9) rfl dX3_chance_33 ?_
      refine lv_aload_n hx hb dX3_chance_36 rfl (lv_at hl 0 rfl) ?_
      refine va_get (D := (dC, dI)) (ci := 2) (v := .ref hc) (C := RX3) (T := TX3) (N := 2) hx hb hts hin0 hown hK hP 0 rfl rfl 0 (by decide) fl_10 (fun _ h9 => h9) rfl dX3_chance_37 ?_
      have hPc := hP.sub (ws' := [(hc, .inr (0, [.ref w0, .ref w1, .int σ.1.1, .int σ.1.2.1, .int σ.1.2.2.1])), (w0, .inl (cJ, 512, .inr (.inl (σ.1.2.2.2.1)))), (w1, .inl (cJ, 9, .inr (.inl (σ.1.2.2.2.2))))]) [1, 2, 3] rfl
      have hDc := hD.sub (ws' := [(hc, .inr (0, [.ref w0, .ref w1, .int σ.1.1, .int σ.1.2.1, .int σ.1.2.2.1])), (w0, .inl (cJ, 512, .inr (.inl (σ.1.2.2.2.1)))), (w1, .inl (cJ, 9, .inr (.inl (σ.1.2.2.2.2))))]) [1, 2, 3] (by decide) rfl
      have hKc := hK.sub (tys' := [(cJ, .long)]) [0] rfl
      have hFc := va_free (wc := [(hc, .inr (0, [.ref w0, .ref w1, .int σ.1.1, .int σ.1.2.1, .int σ.1.2.2.1])), (w0, .inl (cJ, 512, .inr (.inl (σ.1.2.2.2.1)))), (w1, .inl (cJ, 9, .inr (.inl (σ.1.2.2.2.2))))]) hD hS hA [1, 2, 3] rfl
      refine kc_i (wr := [(h0, .inr (2, [.ref hc, .ref hs])), (hs, .inr (1, [.int σ.2.1, .int σ.2.2.1, .int σ.2.2.2.1, .int σ.2.2.2.2.1, .int σ.2.2.2.2.2.1, .int σ.2.2.2.2.2.2.1, .int σ.2.2.2.2.2.2.2.1, .int σ.2.2.2.2.2.2.2.2]))]) (kr_V (As := []) (rest := [.ref hc, .long r7]) (b := hc) (ws := [(h0, .inr (2, [.ref hc, .ref hs])), (hc, .inr (0, [.ref w0, .ref w1, .int σ.1.1, .int σ.1.2.1, .int σ.1.2.2.1])), (w0, .inl (cJ, 512, .inr (.inl (σ.1.2.2.2.1)))), (w1, .inl (cJ, 9, .inr (.inl (σ.1.2.2.2.2)))), (hs, .inr (1, [.int σ.2.1, .int σ.2.2.1, .int σ.2.2.2.1, .int σ.2.2.2.2.1, .int σ.2.2.2.2.2.1, .int σ.2.2.2.2.2.2.1, .int σ.2.2.2.2.2.2.2.1, .int σ.2.2.2.2.2.2.2.2]))]) ⟨hx, hb, hml, hown, hts⟩ (c_X0_countPlaces l dC dI hc w0 w1 cJ σ.1  _ hw H.size) (cwV 0 hts gX3_chance_X0_countPlaces rfl rfl rfl (by decide +kernel) ⟨Nat.le_of_ble_eq_true rfl, Nat.le_of_ble_eq_true rfl⟩) 0 1 hK rfl rfl rfl hKc hnw hP hD hPc hDc rfl hl.1 rfl (Nat.le_of_ble_eq_true rfl) dX3_chance_40 ⟨Nat.zero_le _, Nat.zero_le _⟩) hP hD hS hFc [1, 2, 3] [0, 4] rfl rfl (by decide) (by decide) (fun r9 u1 H locs hq hP hD hS => ?_)
      obtain ⟨hw, rfl⟩ := hq
      have hP : va_P (dC, dI) vwCl [(h0, .inr (2, [.ref hc, .ref hs])), (hc, .inr (0, [.ref w0, .ref w1, .int σ.1.1, .int σ.1.2.1, .int σ.1.2.2.1])), (w0, .inl (cJ, 512, .inr (.inl (σ.1.2.2.2.1)))), (w1, .inl (cJ, 9, .inr (.inl (σ.1.2.2.2.2)))), (hs, .inr (1, [.int σ.2.1, .int σ.2.2.1, .int σ.2.2.2.1, .int σ.2.2.2.2.1, .int σ.2.2.2.2.2.1, .int σ.2.2.2.2.2.2.1, .int σ.2.2.2.2.2.2.2.1, .int σ.2.2.2.2.2.2.2.2]))] H := hP.sub [0, 2, 3, 4, 1] rfl
      have hD : va_D A [(h0, .inr (2, [.ref hc, .ref hs])), (hc, .inr (0, [.ref w0, .ref w1, .int σ.1.1, .int σ.1.2.1, .int σ.1.2.2.1])), (w0, .inl (cJ, 512, .inr (.inl (σ.1.2.2.2.1)))), (w1, .inl (cJ, 9, .inr (.inl (σ.1.2.2.2.2)))), (hs, .inr (1, [.int σ.2.1, .int σ.2.2.1, .int σ.2.2.2.1, .int σ.2.2.2.2.1, .int σ.2.2.2.2.2.1, .int σ.2.2.2.2.2.2.1, .int σ.2.2.2.2.2.2.2.1, .int σ.2.2.2.2.2.2.2.2]))] := hD.sub [0, 2, 3, 4, 1] (by decide) rfl
      have hPc := hP.sub (ws' := [(hc, .inr (0, [.ref w0, .ref w1, .int σ.1.1, .int σ.1.2.1, .int σ.1.2.2.1])), (w0, .inl (cJ, 512, .inr (.inl (σ.1.2.2.2.1)))), (w1, .inl (cJ, 9, .inr (.inl (σ.1.2.2.2.2))))]) [1, 2, 3] rfl
      have hDc := hD.sub (ws' := [(hc, .inr (0, [.ref w0, .ref w1, .int σ.1.1, .int σ.1.2.1, .int σ.1.2.2.1])), (w0, .inl (cJ, 512, .inr (.inl (σ.1.2.2.2.1)))), (w1, .inl (cJ, 9, .inr (.inl (σ.1.2.2.2.2))))]) [1, 2, 3] (by decide) rfl
      have hKc := hK.sub (tys' := [(cJ, .long)]) [0] rfl
      have hFc := va_free (wc := [(hc, .inr (0, [.ref w0, .ref w1, .int σ.1.1, .int σ.1.2.1, .int σ.1.2.2.1])), (w0, .inl (cJ, 512, .inr (.inl (σ.1.2.2.2.1)))), (w1, .inl (cJ, 9, .inr (.inl (σ.1.2.2.2.2))))]) hD hS hA [1, 2, 3] rfl
      refine kc_l (wr := [(h0, .inr (2, [.ref hc, .ref hs])), (hs, .inr (1, [.int σ.2.1, .int σ.2.2.1, .int σ.2.2.2.1, .int σ.2.2.2.2.1, .int σ.2.2.2.2.2.1, .int σ.2.2.2.2.2.2.1, .int σ.2.2.2.2.2.2.2.1, .int σ.2.2.2.2.2.2.2.2]))]) (kr_V (As := [.int r9]) (rest := [.long r7]) (b := hc) (ws := [(h0, .inr (2, [.ref hc, .ref hs])), (hc, .inr (0, [.ref w0, .ref w1, .int σ.1.1, .int σ.1.2.1, .int σ.1.2.2.1])), (w0, .inl (cJ, 512, .inr (.inl (σ.1.2.2.2.1)))), (w1, .inl (cJ, 9, .inr (.inl (σ.1.2.2.2.2)))), (hs, .inr (1, [.int σ.2.1, .int σ.2.2.1, .int σ.2.2.2.1, .int σ.2.2.2.2.1, .int σ.2.2.2.2.2.1, .int σ.2.2.2.2.2.2.1, .int σ.2.2.2.2.2.2.2.1, .int σ.2.2.2.2.2.2.2.2]))]) ⟨hx, hb, hml, hown, hts⟩ (c_X0_sumOf l dC dI hc w0 w1 cJ σ.1 r9 _ hw H.size) (cwV 1 hts gX3_chance_X0_sumOf rfl rfl rfl (by decide +kernel) ⟨Nat.le_of_ble_eq_true rfl, Nat.le_of_ble_eq_true rfl⟩) 0 1 hK rfl rfl rfl hKc hnw hP hD hPc hDc rfl hl.1 rfl (Nat.le_of_ble_eq_true rfl) dX3_chance_43 ⟨Nat.zero_le _, Nat.zero_le _⟩) hP hD hS hFc [1, 2, 3] [0, 4] rfl rfl (by decide) (by decide) (fun r11 u1 H locs hq hP hD hS => ?_)
      obtain ⟨hw, rfl⟩ := hq
      have hP : va_P (dC, dI) vwCl [(h0, .inr (2, [.ref hc, .ref hs])), (hc, .inr (0, [.ref w0, .ref w1, .int σ.1.1, .int σ.1.2.1, .int σ.1.2.2.1])), (w0, .inl (cJ, 512, .inr (.inl (σ.1.2.2.2.1)))), (w1, .inl (cJ, 9, .inr (.inl (σ.1.2.2.2.2)))), (hs, .inr (1, [.int σ.2.1, .int σ.2.2.1, .int σ.2.2.2.1, .int σ.2.2.2.2.1, .int σ.2.2.2.2.2.1, .int σ.2.2.2.2.2.2.1, .int σ.2.2.2.2.2.2.2.1, .int σ.2.2.2.2.2.2.2.2]))] H := hP.sub [0, 2, 3, 4, 1] rfl
      have hD : va_D A [(h0, .inr (2, [.ref hc, .ref hs])), (hc, .inr (0, [.ref w0, .ref w1, .int σ.1.1, .int σ.1.2.1, .int σ.1.2.2.1])), (w0, .inl (cJ, 512, .inr (.inl (σ.1.2.2.2.1)))), (w1, .inl (cJ, 9, .inr (.inl (σ.1.2.2.2.2)))), (hs, .inr (1, [.int σ.2.1, .int σ.2.2.1, .int σ.2.2.2.1, .int σ.2.2.2.2.1, .int σ.2.2.2.2.2.1, .int σ.2.2.2.2.2.2.1, .int σ.2.2.2.2.2.2.2.1, .int σ.2.2.2.2.2.2.2.2]))] := hD.sub [0, 2, 3, 4, 1] (by decide) rfl
      refine lv_iload_n hx hb dX3_chance_46 rfl (lv_at hl 2 rfl) ?_
      have hPc := hP.sub (ws' := ([] : va_W)) [] rfl
      have hDc := hD.sub (ws' := ([] : va_W)) [] (by decide) rfl
      have hKc := hK.sub (tys' := []) [] rfl
      have hFc := va_free (wc := ([] : va_W)) hD hS hA [] rfl
      refine kc_l (wr := [(h0, .inr (2, [.ref hc, .ref hs])), (hc, .inr (0, [.ref w0, .ref w1, .int σ.1.1, .int σ.1.2.1, .int σ.1.2.2.1])), (w0, .inl (cJ, 512, .inr (.inl (σ.1.2.2.2.1)))), (w1, .inl (cJ, 9, .inr (.inl (σ.1.2.2.2.2)))), (hs, .inr (1, [.int σ.2.1, .int σ.2.2.1, .int σ.2.2.2.1, .int σ.2.2.2.2.1, .int σ.2.2.2.2.2.1, .int σ.2.2.2.2.2.2.1, .int σ.2.2.2.2.2.2.2.1, .int σ.2.2.2.2.2.2.2.2]))]) (kr_S (As := [.long r7, .long r11, .int p1]) (rest := []) (ws := [(h0, .inr (2, [.ref hc, .ref hs])), (hc, .inr (0, [.ref w0, .ref w1, .int σ.1.1, .int σ.1.2.1, .int σ.1.2.2.1])), (w0, .inl (cJ, 512, .inr (.inl (σ.1.2.2.2.1)))), (w1, .inl (cJ, 9, .inr (.inl (σ.1.2.2.2.2)))), (hs, .inr (1, [.int σ.2.1, .int σ.2.2.1, .int σ.2.2.2.1, .int σ.2.2.2.2.1, .int σ.2.2.2.2.2.1, .int σ.2.2.2.2.2.2.1, .int σ.2.2.2.2.2.2.2.1, .int σ.2.2.2.2.2.2.2.2]))]) ⟨hx, hb, hml, hown, hts⟩ (c_X3_partOfFraction l dC dI   r7 r11 p1 _ hw H.size) (va_cwS 3 hts gX3_chance_X3_partOfFraction rfl rfl rfl (by decide +kernel) ⟨Nat.le_of_ble_eq_true rfl, Nat.le_of_ble_eq_true rfl⟩) hKc hnw hP hD hPc hDc rfl hl.1 rfl (Nat.le_of_ble_eq_true rfl) dX3_chance_47 ⟨Nat.zero_le _, Nat.zero_le _⟩) hP hD hS hFc [] [0, 1, 2, 3, 4] rfl rfl (by decide) (by decide) (fun r13 u1 H locs hq hP hD hS => ?_)
      obtain ⟨hw, rfl⟩ := hq
      have hP : va_P (dC, dI) vwCl [(h0, .inr (2, [.ref hc, .ref hs])), (hc, .inr (0, [.ref w0, .ref w1, .int σ.1.1, .int σ.1.2.1, .int σ.1.2.2.1])), (w0, .inl (cJ, 512, .inr (.inl (σ.1.2.2.2.1)))), (w1, .inl (cJ, 9, .inr (.inl (σ.1.2.2.2.2)))), (hs, .inr (1, [.int σ.2.1, .int σ.2.2.1, .int σ.2.2.2.1, .int σ.2.2.2.2.1, .int σ.2.2.2.2.2.1, .int σ.2.2.2.2.2.2.1, .int σ.2.2.2.2.2.2.2.1, .int σ.2.2.2.2.2.2.2.2]))] H := hP
      have hD : va_D A [(h0, .inr (2, [.ref hc, .ref hs])), (hc, .inr (0, [.ref w0, .ref w1, .int σ.1.1, .int σ.1.2.1, .int σ.1.2.2.1])), (w0, .inl (cJ, 512, .inr (.inl (σ.1.2.2.2.1)))), (w1, .inl (cJ, 9, .inr (.inl (σ.1.2.2.2.2)))), (hs, .inr (1, [.int σ.2.1, .int σ.2.2.1, .int σ.2.2.2.1, .int σ.2.2.2.2.1, .int σ.2.2.2.2.2.1, .int σ.2.2.2.2.2.2.1, .int σ.2.2.2.2.2.2.2.1, .int σ.2.2.2.2.2.2.2.2]))] := hD
      exact W.lret (v := r13) hx hb hr (fun t ht hW => ⟨⟨r13, ((cl3 h0 hc w0 w1 hs cJ σ)), rfl, ⟨hw, rfl⟩, by rw [ht]; exact hP, va_K.moved hW.alike hK, hD⟩, hS.F ht⟩) hS.2.2 dX3_chance_50
    · have hw := hw.2 c6
      refine lv_ldc2 (v := (-1 : Int64)) hx hb hown (hts (.constantLong RX3 43 (-1 : Int64)) (by decide +kernel)) dX3_chance_20 ?_
      exact W.lret (v := (-1 : Int64)) hx hb hr (fun t ht hW => ⟨⟨(-1 : Int64), ((cl3 h0 hc w0 w1 hs cJ σ)), rfl, ⟨hw, rfl⟩, by rw [ht]; exact hP, va_K.moved hW.alike hK, hD⟩, hS.F ht⟩) hS.2.2 dX3_chance_23
set_option maxHeartbeats 4000000 in
set_option maxRecDepth 100000 in
theorem c_X3_current (l : Launch) (dC : Nat → ClassId) (dI : Nat → Nat → Nat) (h0 hc w0 w1 hs : Nat) (cJ : ClassId) (σ : SO) (p0 : Int32) (post : Int64 → Prop) (hw : wp_X3_current p0 σ post) : KL l yX3_current wsX3_current ({ frames := 2, cells := 0, slots := 0, locals := 58 } : Room) (dC, dI) [(cJ, .long)] (cl3 h0 hc w0 w1 hs cJ σ) [.ref h0, .int p0] (fun r u => post r ∧ u = (cl3 h0 hc w0 w1 hs cJ σ)) := by
  intro sz
  refine Met.ofW (cc := cX3_current) (maxL := 3) (ret := (some .long)) (by decide) rfl ?_
  intro p e s m args below meth c s₁ B hml hv
  obtain ⟨rfl, hsz, hP, hK, hD0, hnw⟩ := hv
  have hx := B.exec
  have hb := B.bytes
  have hr := B.returns
  have hts := atoms_spec (ws := wsX3_current) B.pre
  have hown : s.vm.findClass RX3 = some m.cls := findClass_of_methodNamed B.named
  have hlocks := B.notSynchronized
  subst hsz
  have hD := hD0.self (sz := s.heap.size)
  generalize hAe : va_A (cl3 h0 hc w0 w1 hs cJ σ) s.heap.size = A at hD ⊢
  have hA : ∀ q : Nat, s.heap.size ≤ q → A q := fun q h => by rw [← hAe]; exact Or.inr h
  have hS : va_S A s.heap s.heap [] := va_S.rf
  have hP : va_P (dC, dI) vwCl [(h0, .inr (2, [.ref hc, .ref hs])), (hc, .inr (0, [.ref w0, .ref w1, .int σ.1.1, .int σ.1.2.1, .int σ.1.2.2.1])), (w0, .inl (cJ, 512, .inr (.inl (σ.1.2.2.2.1)))), (w1, .inl (cJ, 9, .inr (.inl (σ.1.2.2.2.2)))), (hs, .inr (1, [.int σ.2.1, .int σ.2.2.1, .int σ.2.2.2.1, .int σ.2.2.2.2.1, .int σ.2.2.2.2.2.1, .int σ.2.2.2.2.2.2.1, .int σ.2.2.2.2.2.2.2.1, .int σ.2.2.2.2.2.2.2.2]))] s.heap := hP
  have hD : va_D A [(h0, .inr (2, [.ref hc, .ref hs])), (hc, .inr (0, [.ref w0, .ref w1, .int σ.1.1, .int σ.1.2.1, .int σ.1.2.2.1])), (w0, .inl (cJ, 512, .inr (.inl (σ.1.2.2.2.1)))), (w1, .inl (cJ, 9, .inr (.inl (σ.1.2.2.2.2)))), (hs, .inr (1, [.int σ.2.1, .int σ.2.2.1, .int σ.2.2.2.1, .int σ.2.2.2.2.1, .int σ.2.2.2.2.2.1, .int σ.2.2.2.2.2.2.1, .int σ.2.2.2.2.2.2.2.1, .int σ.2.2.2.2.2.2.2.2]))] := hD
  have fl_10 := hts (.fieldLink RX3 10 "OnePlaceEach" "chain" "LOnePlaceEach$Chain;") (by decide +kernel)
  have hin0 : ∀ w ∈ wsX30, w ∈ wsX3_current := by decide +kernel
  have hl := lv_entry ([.ref h0, .int p0]) (n := 3) (Nat.le_of_ble_eq_true rfl)
  rw [lg_entry_eq]
  generalize (lg_sl ([.ref h0, .int p0]) ++ List.replicate (3 - (lg_sl ([.ref h0, .int p0])).length) Slot.unset).toArray = ls at hl ⊢
  have hl : lv_has ls 3 [(0, .ref h0), (1, .int p0)] := hl
  unfold wp_X3_current at hw
  skip
  obtain ⟨H, hH⟩ : ∃ H, H = s.heap := ⟨_, rfl⟩
  obtain ⟨locs, hlo⟩ : ∃ q : List Loc, q = [] := ⟨_, rfl⟩
  rw [← hH] at hP
  have hS : va_S A s.heap H locs := by rw [hH, hlo]; exact hS
  suffices hgo : W p l e (headSpec wsX3_current ({ frames := 2, cells := 0, slots := 0, locals := 58 } : Room)).room s m _ below meth c H locs 0 0 _ (F0 m 0 ls []) by rw [hH, hlo] at hgo; exact hgo
  refine lv_iload_n hx hb dX3_current_0 rfl (lv_at hl 1 rfl) ?_
  refine lv_iconst (v := (0 : Int32)) hx hb dX3_current_1 (by decide) ?_
  refine lv_iconst (v := (1 : Int32)) hx hb dX3_current_2 (by decide) ?_
  have hPc := hP.sub (ws' := ([] : va_W)) [] rfl
  have hDc := hD.sub (ws' := ([] : va_W)) [] (by decide) rfl
  have hKc := hK.sub (tys' := []) [] rfl
  have hFc := va_free (wc := ([] : va_W)) hD hS hA [] rfl
  refine kc_i (wr := [(h0, .inr (2, [.ref hc, .ref hs])), (hc, .inr (0, [.ref w0, .ref w1, .int σ.1.1, .int σ.1.2.1, .int σ.1.2.2.1])), (w0, .inl (cJ, 512, .inr (.inl (σ.1.2.2.2.1)))), (w1, .inl (cJ, 9, .inr (.inl (σ.1.2.2.2.2)))), (hs, .inr (1, [.int σ.2.1, .int σ.2.2.1, .int σ.2.2.2.1, .int σ.2.2.2.2.1, .int σ.2.2.2.2.2.1, .int σ.2.2.2.2.2.2.1, .int σ.2.2.2.2.2.2.2.1, .int σ.2.2.2.2.2.2.2.2]))]) (kr_S (As := [.int p0, .int (0 : Int32), .int (1 : Int32)]) (rest := []) (ws := [(h0, .inr (2, [.ref hc, .ref hs])), (hc, .inr (0, [.ref w0, .ref w1, .int σ.1.1, .int σ.1.2.1, .int σ.1.2.2.1])), (w0, .inl (cJ, 512, .inr (.inl (σ.1.2.2.2.1)))), (w1, .inl (cJ, 9, .inr (.inl (σ.1.2.2.2.2)))), (hs, .inr (1, [.int σ.2.1, .int σ.2.2.1, .int σ.2.2.2.1, .int σ.2.2.2.2.1, .int σ.2.2.2.2.2.1, .int σ.2.2.2.2.2.2.1, .int σ.2.2.2.2.2.2.2.1, .int σ.2.2.2.2.2.2.2.2]))]) ⟨hx, hb, hml, hown, hts⟩ (c_X3_isWithin l dC dI   p0 (0 : Int32) (1 : Int32) _ hw H.size) (va_cwS 3 hts gX3_current_X3_isWithin rfl rfl rfl (by decide +kernel) ⟨Nat.le_of_ble_eq_true rfl, Nat.le_of_ble_eq_true rfl⟩) hKc hnw hP hD hPc hDc rfl hl.1 rfl (Nat.le_of_ble_eq_true rfl) dX3_current_3 ⟨Nat.zero_le _, Nat.zero_le _⟩) hP hD hS hFc [] [0, 1, 2, 3, 4] rfl rfl (by decide) (by decide) (fun r1 u1 H locs hq hP hD hS => ?_)
  obtain ⟨hw, rfl⟩ := hq
  have hP : va_P (dC, dI) vwCl [(h0, .inr (2, [.ref hc, .ref hs])), (hc, .inr (0, [.ref w0, .ref w1, .int σ.1.1, .int σ.1.2.1, .int σ.1.2.2.1])), (w0, .inl (cJ, 512, .inr (.inl (σ.1.2.2.2.1)))), (w1, .inl (cJ, 9, .inr (.inl (σ.1.2.2.2.2)))), (hs, .inr (1, [.int σ.2.1, .int σ.2.2.1, .int σ.2.2.2.1, .int σ.2.2.2.2.1, .int σ.2.2.2.2.2.1, .int σ.2.2.2.2.2.2.1, .int σ.2.2.2.2.2.2.2.1, .int σ.2.2.2.2.2.2.2.2]))] H := hP
  have hD : va_D A [(h0, .inr (2, [.ref hc, .ref hs])), (hc, .inr (0, [.ref w0, .ref w1, .int σ.1.1, .int σ.1.2.1, .int σ.1.2.2.1])), (w0, .inl (cJ, 512, .inr (.inl (σ.1.2.2.2.1)))), (w1, .inl (cJ, 9, .inr (.inl (σ.1.2.2.2.2)))), (hs, .inr (1, [.int σ.2.1, .int σ.2.2.1, .int σ.2.2.2.1, .int σ.2.2.2.2.1, .int σ.2.2.2.2.2.1, .int σ.2.2.2.2.2.2.1, .int σ.2.2.2.2.2.2.2.1, .int σ.2.2.2.2.2.2.2.2]))] := hD
  refine lv_if_ne (tgt := 13) hx hb dX3_current_6 (by decide) (fun c3 => ?_) (fun c3 => ?_)
  · have hw := hw.1 c3
    refine lv_aload_n hx hb dX3_current_13 rfl (lv_at hl 0 rfl) ?_
    refine va_get (D := (dC, dI)) (ci := 2) (v := .ref hc) (C := RX3) (T := TX3) (N := 2) hx hb hts hin0 hown hK hP 0 rfl rfl 0 (by decide) fl_10 (fun _ h9 => h9) rfl dX3_current_14 ?_
    have hPc := hP.sub (ws' := [(hc, .inr (0, [.ref w0, .ref w1, .int σ.1.1, .int σ.1.2.1, .int σ.1.2.2.1])), (w0, .inl (cJ, 512, .inr (.inl (σ.1.2.2.2.1)))), (w1, .inl (cJ, 9, .inr (.inl (σ.1.2.2.2.2))))]) [1, 2, 3] rfl
    have hDc := hD.sub (ws' := [(hc, .inr (0, [.ref w0, .ref w1, .int σ.1.1, .int σ.1.2.1, .int σ.1.2.2.1])), (w0, .inl (cJ, 512, .inr (.inl (σ.1.2.2.2.1)))), (w1, .inl (cJ, 9, .inr (.inl (σ.1.2.2.2.2))))]) [1, 2, 3] (by decide) rfl
    have hKc := hK.sub (tys' := [(cJ, .long)]) [0] rfl
    have hFc := va_free (wc := [(hc, .inr (0, [.ref w0, .ref w1, .int σ.1.1, .int σ.1.2.1, .int σ.1.2.2.1])), (w0, .inl (cJ, 512, .inr (.inl (σ.1.2.2.2.1)))), (w1, .inl (cJ, 9, .inr (.inl (σ.1.2.2.2.2))))]) hD hS hA [1, 2, 3] rfl
    refine kc_i (wr := [(h0, .inr (2, [.ref hc, .ref hs])), (hs, .inr (1, [.int σ.2.1, .int σ.2.2.1, .int σ.2.2.2.1, .int σ.2.2.2.2.1, .int σ.2.2.2.2.2.1, .int σ.2.2.2.2.2.2.1, .int σ.2.2.2.2.2.2.2.1, .int σ.2.2.2.2.2.2.2.2]))]) (kr_V (As := []) (rest := []) (b := hc) (ws := [(h0, .inr (2, [.ref hc, .ref hs])), (hc, .inr (0, [.ref w0, .ref w1, .int σ.1.1, .int σ.1.2.1, .int σ.1.2.2.1])), (w0, .inl (cJ, 512, .inr (.inl (σ.1.2.2.2.1)))), (w1, .inl (cJ, 9, .inr (.inl (σ.1.2.2.2.2)))), (hs, .inr (1, [.int σ.2.1, .int σ.2.2.1, .int σ.2.2.2.1, .int σ.2.2.2.2.1, .int σ.2.2.2.2.2.1, .int σ.2.2.2.2.2.2.1, .int σ.2.2.2.2.2.2.2.1, .int σ.2.2.2.2.2.2.2.2]))]) ⟨hx, hb, hml, hown, hts⟩ (c_X0_countPlaces l dC dI hc w0 w1 cJ σ.1  _ hw H.size) (cwV 0 hts gX3_current_X0_countPlaces rfl rfl rfl (by decide +kernel) ⟨Nat.le_of_ble_eq_true rfl, Nat.le_of_ble_eq_true rfl⟩) 0 1 hK rfl rfl rfl hKc hnw hP hD hPc hDc rfl hl.1 rfl (Nat.le_of_ble_eq_true rfl) dX3_current_17 ⟨Nat.zero_le _, Nat.zero_le _⟩) hP hD hS hFc [1, 2, 3] [0, 4] rfl rfl (by decide) (by decide) (fun r4 u1 H locs hq hP hD hS => ?_)
    obtain ⟨hw, rfl⟩ := hq
    have hP : va_P (dC, dI) vwCl [(h0, .inr (2, [.ref hc, .ref hs])), (hc, .inr (0, [.ref w0, .ref w1, .int σ.1.1, .int σ.1.2.1, .int σ.1.2.2.1])), (w0, .inl (cJ, 512, .inr (.inl (σ.1.2.2.2.1)))), (w1, .inl (cJ, 9, .inr (.inl (σ.1.2.2.2.2)))), (hs, .inr (1, [.int σ.2.1, .int σ.2.2.1, .int σ.2.2.2.1, .int σ.2.2.2.2.1, .int σ.2.2.2.2.2.1, .int σ.2.2.2.2.2.2.1, .int σ.2.2.2.2.2.2.2.1, .int σ.2.2.2.2.2.2.2.2]))] H := hP.sub [0, 2, 3, 4, 1] rfl
    have hD : va_D A [(h0, .inr (2, [.ref hc, .ref hs])), (hc, .inr (0, [.ref w0, .ref w1, .int σ.1.1, .int σ.1.2.1, .int σ.1.2.2.1])), (w0, .inl (cJ, 512, .inr (.inl (σ.1.2.2.2.1)))), (w1, .inl (cJ, 9, .inr (.inl (σ.1.2.2.2.2)))), (hs, .inr (1, [.int σ.2.1, .int σ.2.2.1, .int σ.2.2.2.1, .int σ.2.2.2.2.1, .int σ.2.2.2.2.2.1, .int σ.2.2.2.2.2.2.1, .int σ.2.2.2.2.2.2.2.1, .int σ.2.2.2.2.2.2.2.2]))] := hD.sub [0, 2, 3, 4, 1] (by decide) rfl
    refine lv_istore_n (lv' := [(2, .int r4), (0, .ref h0), (1, .int p0)]) hx hb dX3_current_20 rfl hl (by decide) rfl (fun ls hl => ?_)
    refine lv_aload_n hx hb dX3_current_21 rfl (lv_at hl 1 rfl) ?_
    refine va_get (D := (dC, dI)) (ci := 2) (v := .ref hc) (C := RX3) (T := TX3) (N := 2) hx hb hts hin0 hown hK hP 0 rfl rfl 0 (by decide) fl_10 (fun _ h9 => h9) rfl dX3_current_22 ?_
    refine lv_iload_n hx hb dX3_current_25 rfl (lv_at hl 0 rfl) ?_
    refine lv_iconst (v := (1 : Int32)) hx hb dX3_current_26 (by decide) ?_
    refine lv_isub hx hb dX3_current_27 ?_
    have hPc := hP.sub (ws' := [(hc, .inr (0, [.ref w0, .ref w1, .int σ.1.1, .int σ.1.2.1, .int σ.1.2.2.1])), (w0, .inl (cJ, 512, .inr (.inl (σ.1.2.2.2.1)))), (w1, .inl (cJ, 9, .inr (.inl (σ.1.2.2.2.2))))]) [1, 2, 3] rfl
    have hDc := hD.sub (ws' := [(hc, .inr (0, [.ref w0, .ref w1, .int σ.1.1, .int σ.1.2.1, .int σ.1.2.2.1])), (w0, .inl (cJ, 512, .inr (.inl (σ.1.2.2.2.1)))), (w1, .inl (cJ, 9, .inr (.inl (σ.1.2.2.2.2))))]) [1, 2, 3] (by decide) rfl
    have hKc := hK.sub (tys' := [(cJ, .long)]) [0] rfl
    have hFc := va_free (wc := [(hc, .inr (0, [.ref w0, .ref w1, .int σ.1.1, .int σ.1.2.1, .int σ.1.2.2.1])), (w0, .inl (cJ, 512, .inr (.inl (σ.1.2.2.2.1)))), (w1, .inl (cJ, 9, .inr (.inl (σ.1.2.2.2.2))))]) hD hS hA [1, 2, 3] rfl
    refine kc_l (wr := [(h0, .inr (2, [.ref hc, .ref hs])), (hs, .inr (1, [.int σ.2.1, .int σ.2.2.1, .int σ.2.2.2.1, .int σ.2.2.2.2.1, .int σ.2.2.2.2.2.1, .int σ.2.2.2.2.2.2.1, .int σ.2.2.2.2.2.2.2.1, .int σ.2.2.2.2.2.2.2.2]))]) (kr_V (As := [.int (r4 - (1 : Int32))]) (rest := []) (b := hc) (ws := [(h0, .inr (2, [.ref hc, .ref hs])), (hc, .inr (0, [.ref w0, .ref w1, .int σ.1.1, .int σ.1.2.1, .int σ.1.2.2.1])), (w0, .inl (cJ, 512, .inr (.inl (σ.1.2.2.2.1)))), (w1, .inl (cJ, 9, .inr (.inl (σ.1.2.2.2.2)))), (hs, .inr (1, [.int σ.2.1, .int σ.2.2.1, .int σ.2.2.2.1, .int σ.2.2.2.2.1, .int σ.2.2.2.2.2.1, .int σ.2.2.2.2.2.2.1, .int σ.2.2.2.2.2.2.2.1, .int σ.2.2.2.2.2.2.2.2]))]) ⟨hx, hb, hml, hown, hts⟩ (c_X0_sumOf l dC dI hc w0 w1 cJ σ.1 (r4 - (1 : Int32)) _ hw H.size) (cwV 1 hts gX3_current_X0_sumOf rfl rfl rfl (by decide +kernel) ⟨Nat.le_of_ble_eq_true rfl, Nat.le_of_ble_eq_true rfl⟩) 0 1 hK rfl rfl rfl hKc hnw hP hD hPc hDc rfl hl.1 rfl (Nat.le_of_ble_eq_true rfl) dX3_current_28 ⟨Nat.zero_le _, Nat.zero_le _⟩) hP hD hS hFc [1, 2, 3] [0, 4] rfl rfl (by decide) (by decide) (fun r6 u1 H locs hq hP hD hS => ?_)
    obtain ⟨hw, rfl⟩ := hq
    have hP : va_P (dC, dI) vwCl [(h0, .inr (2, [.ref hc, .ref hs])), (hc, .inr (0, [.ref w0, .ref w1, .int σ.1.1, .int σ.1.2.1, .int σ.1.2.2.1])), (w0, .inl (cJ, 512, .inr (.inl (σ.1.2.2.2.1)))), (w1, .inl (cJ, 9, .inr (.inl (σ.1.2.2.2.2)))), (hs, .inr (1, [.int σ.2.1, .int σ.2.2.1, .int σ.2.2.2.1, .int σ.2.2.2.2.1, .int σ.2.2.2.2.2.1, .int σ.2.2.2.2.2.2.1, .int σ.2.2.2.2.2.2.2.1, .int σ.2.2.2.2.2.2.2.2]))] H := hP.sub [0, 2, 3, 4, 1] rfl
    have hD : va_D A [(h0, .inr (2, [.ref hc, .ref hs])), (hc, .inr (0, [.ref w0, .ref w1, .int σ.1.1, .int σ.1.2.1, .int σ.1.2.2.1])), (w0, .inl (cJ, 512, .inr (.inl (σ.1.2.2.2.1)))), (w1, .inl (cJ, 9, .inr (.inl (σ.1.2.2.2.2)))), (hs, .inr (1, [.int σ.2.1, .int σ.2.2.1, .int σ.2.2.2.1, .int σ.2.2.2.2.1, .int σ.2.2.2.2.2.1, .int σ.2.2.2.2.2.2.1, .int σ.2.2.2.2.2.2.2.1, .int σ.2.2.2.2.2.2.2.2]))] := hD.sub [0, 2, 3, 4, 1] (by decide) rfl
    refine lv_aload_n hx hb dX3_current_31 rfl (lv_at hl 1 rfl) ?_
    refine va_get (D := (dC, dI)) (ci := 2) (v := .ref hc) (C := RX3) (T := TX3) (N := 2) hx hb hts hin0 hown hK hP 0 rfl rfl 0 (by decide) fl_10 (fun _ h9 => h9) rfl dX3_current_32 ?_
    refine lv_iload_n hx hb dX3_current_35 rfl (lv_at hl 0 rfl) ?_
    have hPc := hP.sub (ws' := [(hc, .inr (0, [.ref w0, .ref w1, .int σ.1.1, .int σ.1.2.1, .int σ.1.2.2.1])), (w0, .inl (cJ, 512, .inr (.inl (σ.1.2.2.2.1)))), (w1, .inl (cJ, 9, .inr (.inl (σ.1.2.2.2.2))))]) [1, 2, 3] rfl
    have hDc := hD.sub (ws' := [(hc, .inr (0, [.ref w0, .ref w1, .int σ.1.1, .int σ.1.2.1, .int σ.1.2.2.1])), (w0, .inl (cJ, 512, .inr (.inl (σ.1.2.2.2.1)))), (w1, .inl (cJ, 9, .inr (.inl (σ.1.2.2.2.2))))]) [1, 2, 3] (by decide) rfl
    have hKc := hK.sub (tys' := [(cJ, .long)]) [0] rfl
    have hFc := va_free (wc := [(hc, .inr (0, [.ref w0, .ref w1, .int σ.1.1, .int σ.1.2.1, .int σ.1.2.2.1])), (w0, .inl (cJ, 512, .inr (.inl (σ.1.2.2.2.1)))), (w1, .inl (cJ, 9, .inr (.inl (σ.1.2.2.2.2))))]) hD hS hA [1, 2, 3] rfl
    refine kc_l (wr := [(h0, .inr (2, [.ref hc, .ref hs])), (hs, .inr (1, [.int σ.2.1, .int σ.2.2.1, .int σ.2.2.2.1, .int σ.2.2.2.2.1, .int σ.2.2.2.2.2.1, .int σ.2.2.2.2.2.2.1, .int σ.2.2.2.2.2.2.2.1, .int σ.2.2.2.2.2.2.2.2]))]) (kr_V (As := [.int r4]) (rest := [.long r6]) (b := hc) (ws := [(h0, .inr (2, [.ref hc, .ref hs])), (hc, .inr (0, [.ref w0, .ref w1, .int σ.1.1, .int σ.1.2.1, .int σ.1.2.2.1])), (w0, .inl (cJ, 512, .inr (.inl (σ.1.2.2.2.1)))), (w1, .inl (cJ, 9, .inr (.inl (σ.1.2.2.2.2)))), (hs, .inr (1, [.int σ.2.1, .int σ.2.2.1, .int σ.2.2.2.1, .int σ.2.2.2.2.1, .int σ.2.2.2.2.2.1, .int σ.2.2.2.2.2.2.1, .int σ.2.2.2.2.2.2.2.1, .int σ.2.2.2.2.2.2.2.2]))]) ⟨hx, hb, hml, hown, hts⟩ (c_X0_sumOf l dC dI hc w0 w1 cJ σ.1 r4 _ hw H.size) (cwV 1 hts gX3_current_X0_sumOf rfl rfl rfl (by decide +kernel) ⟨Nat.le_of_ble_eq_true rfl, Nat.le_of_ble_eq_true rfl⟩) 0 1 hK rfl rfl rfl hKc hnw hP hD hPc hDc rfl hl.1 rfl (Nat.le_of_ble_eq_true rfl) dX3_current_36 ⟨Nat.zero_le _, Nat.zero_le _⟩) hP hD hS hFc [1, 2, 3] [0, 4] rfl rfl (by decide) (by decide) (fun r8 u1 H locs hq hP hD hS => ?_)
    obtain ⟨hw, rfl⟩ := hq
    have hP : va_P (dC, dI) vwCl [(h0, .inr (2, [.ref hc, .ref hs])), (hc, .inr (0, [.ref w0, .ref w1, .int σ.1.1, .int σ.1.2.1, .int σ.1.2.2.1])), (w0, .inl (cJ, 512, .inr (.inl (σ.1.2.2.2.1)))), (w1, .inl (cJ, 9, .inr (.inl (σ.1.2.2.2.2)))), (hs, .inr (1, [.int σ.2.1, .int σ.2.2.1, .int σ.2.2.2.1, .int σ.2.2.2.2.1, .int σ.2.2.2.2.2.1, .int σ.2.2.2.2.2.2.1, .int σ.2.2.2.2.2.2.2.1, .int σ.2.2.2.2.2.2.2.2]))] H := hP.sub [0, 2, 3, 4, 1] rfl
    have hD : va_D A [(h0, .inr (2, [.ref hc, .ref hs])), (hc, .inr (0, [.ref w0, .ref w1, .int σ.1.1, .int σ.1.2.1, .int σ.1.2.2.1])), (w0, .inl (cJ, 512, .inr (.inl (σ.1.2.2.2.1)))), (w1, .inl (cJ, 9, .inr (.inl (σ.1.2.2.2.2)))), (hs, .inr (1, [.int σ.2.1, .int σ.2.2.1, .int σ.2.2.2.1, .int σ.2.2.2.2.1, .int σ.2.2.2.2.2.1, .int σ.2.2.2.2.2.2.1, .int σ.2.2.2.2.2.2.2.1, .int σ.2.2.2.2.2.2.2.2]))] := hD.sub [0, 2, 3, 4, 1] (by decide) rfl
    refine lv_iload_n hx hb dX3_current_39 rfl (lv_at hl 2 rfl) ?_
    have hPc := hP.sub (ws' := ([] : va_W)) [] rfl
    have hDc := hD.sub (ws' := ([] : va_W)) [] (by decide) rfl
    have hKc := hK.sub (tys' := []) [] rfl
    have hFc := va_free (wc := ([] : va_W)) hD hS hA [] rfl
    refine kc_l (wr := [(h0, .inr (2, [.ref hc, .ref hs])), (hc, .inr (0, [.ref w0, .ref w1, .int σ.1.1, .int σ.1.2.1, .int σ.1.2.2.1])), (w0, .inl (cJ, 512, .inr (.inl (σ.1.2.2.2.1)))), (w1, .inl (cJ, 9, .inr (.inl (σ.1.2.2.2.2)))), (hs, .inr (1, [.int σ.2.1, .int σ.2.2.1, .int σ.2.2.2.1, .int σ.2.2.2.2.1, .int σ.2.2.2.2.2.1, .int σ.2.2.2.2.2.2.1, .int σ.2.2.2.2.2.2.2.1, .int σ.2.2.2.2.2.2.2.2]))]) (kr_S (As := [.long r6, .long r8, .int p0]) (rest := []) (ws := [(h0, .inr (2, [.ref hc, .ref hs])), (hc, .inr (0, [.ref w0, .ref w1, .int σ.1.1, .int σ.1.2.1, .int σ.1.2.2.1])), (w0, .inl (cJ, 512, .inr (.inl (σ.1.2.2.2.1)))), (w1, .inl (cJ, 9, .inr (.inl (σ.1.2.2.2.2)))), (hs, .inr (1, [.int σ.2.1, .int σ.2.2.1, .int σ.2.2.2.1, .int σ.2.2.2.2.1, .int σ.2.2.2.2.2.1, .int σ.2.2.2.2.2.2.1, .int σ.2.2.2.2.2.2.2.1, .int σ.2.2.2.2.2.2.2.2]))]) ⟨hx, hb, hml, hown, hts⟩ (c_X3_partOfFraction l dC dI   r6 r8 p0 _ hw H.size) (va_cwS 3 hts gX3_current_X3_partOfFraction rfl rfl rfl (by decide +kernel) ⟨Nat.le_of_ble_eq_true rfl, Nat.le_of_ble_eq_true rfl⟩) hKc hnw hP hD hPc hDc rfl hl.1 rfl (Nat.le_of_ble_eq_true rfl) dX3_current_40 ⟨Nat.zero_le _, Nat.zero_le _⟩) hP hD hS hFc [] [0, 1, 2, 3, 4] rfl rfl (by decide) (by decide) (fun r10 u1 H locs hq hP hD hS => ?_)
    obtain ⟨hw, rfl⟩ := hq
    have hP : va_P (dC, dI) vwCl [(h0, .inr (2, [.ref hc, .ref hs])), (hc, .inr (0, [.ref w0, .ref w1, .int σ.1.1, .int σ.1.2.1, .int σ.1.2.2.1])), (w0, .inl (cJ, 512, .inr (.inl (σ.1.2.2.2.1)))), (w1, .inl (cJ, 9, .inr (.inl (σ.1.2.2.2.2)))), (hs, .inr (1, [.int σ.2.1, .int σ.2.2.1, .int σ.2.2.2.1, .int σ.2.2.2.2.1, .int σ.2.2.2.2.2.1, .int σ.2.2.2.2.2.2.1, .int σ.2.2.2.2.2.2.2.1, .int σ.2.2.2.2.2.2.2.2]))] H := hP
    have hD : va_D A [(h0, .inr (2, [.ref hc, .ref hs])), (hc, .inr (0, [.ref w0, .ref w1, .int σ.1.1, .int σ.1.2.1, .int σ.1.2.2.1])), (w0, .inl (cJ, 512, .inr (.inl (σ.1.2.2.2.1)))), (w1, .inl (cJ, 9, .inr (.inl (σ.1.2.2.2.2)))), (hs, .inr (1, [.int σ.2.1, .int σ.2.2.1, .int σ.2.2.2.1, .int σ.2.2.2.2.1, .int σ.2.2.2.2.2.1, .int σ.2.2.2.2.2.2.1, .int σ.2.2.2.2.2.2.2.1, .int σ.2.2.2.2.2.2.2.2]))] := hD
    exact W.lret (v := r10) hx hb hr (fun t ht hW => ⟨⟨r10, ((cl3 h0 hc w0 w1 hs cJ σ)), rfl, ⟨hw, rfl⟩, by rw [ht]; exact hP, va_K.moved hW.alike hK, hD⟩, hS.F ht⟩) hS.2.2 dX3_current_43
  · have hw := hw.2 c3
    refine lv_ldc2 (v := (-1 : Int64)) hx hb hown (hts (.constantLong RX3 43 (-1 : Int64)) (by decide +kernel)) dX3_current_9 ?_
    exact W.lret (v := (-1 : Int64)) hx hb hr (fun t ht hW => ⟨⟨(-1 : Int64), ((cl3 h0 hc w0 w1 hs cJ σ)), rfl, ⟨hw, rfl⟩, by rw [ht]; exact hP, va_K.moved hW.alike hK, hD⟩, hS.F ht⟩) hS.2.2 dX3_current_12
set_option maxHeartbeats 4000000 in
set_option maxRecDepth 100000 in
theorem c_X3_taken (l : Launch) (dC : Nat → ClassId) (dI : Nat → Nat → Nat) (h0 hc w0 w1 hs : Nat) (cJ : ClassId) (σ : SO) (p0 : Int32) (p1 : Int32) (post : Int64 → Prop) (hw : wp_X3_taken p0 p1 σ post) : KL l yX3_taken wsX3_taken ({ frames := 3, cells := 0, slots := 0, locals := 68 } : Room) (dC, dI) [(cJ, .long)] (cl3 h0 hc w0 w1 hs cJ σ) [.ref h0, .int p0, .int p1] (fun r u => post r ∧ u = (cl3 h0 hc w0 w1 hs cJ σ)) := by
  intro sz
  refine Met.ofW (cc := cX3_taken) (maxL := 3) (ret := (some .long)) (by decide) rfl ?_
  intro p e s m args below meth c s₁ B hml hv
  obtain ⟨rfl, hsz, hP, hK, hD0, hnw⟩ := hv
  have hx := B.exec
  have hb := B.bytes
  have hr := B.returns
  have hts := atoms_spec (ws := wsX3_taken) B.pre
  have hown : s.vm.findClass RX3 = some m.cls := findClass_of_methodNamed B.named
  have hlocks := B.notSynchronized
  subst hsz
  have hD := hD0.self (sz := s.heap.size)
  generalize hAe : va_A (cl3 h0 hc w0 w1 hs cJ σ) s.heap.size = A at hD ⊢
  have hA : ∀ q : Nat, s.heap.size ≤ q → A q := fun q h => by rw [← hAe]; exact Or.inr h
  have hS : va_S A s.heap s.heap [] := va_S.rf
  have hP : va_P (dC, dI) vwCl [(h0, .inr (2, [.ref hc, .ref hs])), (hc, .inr (0, [.ref w0, .ref w1, .int σ.1.1, .int σ.1.2.1, .int σ.1.2.2.1])), (w0, .inl (cJ, 512, .inr (.inl (σ.1.2.2.2.1)))), (w1, .inl (cJ, 9, .inr (.inl (σ.1.2.2.2.2)))), (hs, .inr (1, [.int σ.2.1, .int σ.2.2.1, .int σ.2.2.2.1, .int σ.2.2.2.2.1, .int σ.2.2.2.2.2.1, .int σ.2.2.2.2.2.2.1, .int σ.2.2.2.2.2.2.2.1, .int σ.2.2.2.2.2.2.2.2]))] s.heap := hP
  have hD : va_D A [(h0, .inr (2, [.ref hc, .ref hs])), (hc, .inr (0, [.ref w0, .ref w1, .int σ.1.1, .int σ.1.2.1, .int σ.1.2.2.1])), (w0, .inl (cJ, 512, .inr (.inl (σ.1.2.2.2.1)))), (w1, .inl (cJ, 9, .inr (.inl (σ.1.2.2.2.2)))), (hs, .inr (1, [.int σ.2.1, .int σ.2.2.1, .int σ.2.2.2.1, .int σ.2.2.2.2.1, .int σ.2.2.2.2.2.1, .int σ.2.2.2.2.2.2.1, .int σ.2.2.2.2.2.2.2.1, .int σ.2.2.2.2.2.2.2.2]))] := hD
  have fl_10 := hts (.fieldLink RX3 10 "OnePlaceEach" "chain" "LOnePlaceEach$Chain;") (by decide +kernel)
  have hin0 : ∀ w ∈ wsX30, w ∈ wsX3_taken := by decide +kernel
  have hl := lv_entry ([.ref h0, .int p0, .int p1]) (n := 3) (Nat.le_of_ble_eq_true rfl)
  rw [lg_entry_eq]
  generalize (lg_sl ([.ref h0, .int p0, .int p1]) ++ List.replicate (3 - (lg_sl ([.ref h0, .int p0, .int p1])).length) Slot.unset).toArray = ls at hl ⊢
  have hl : lv_has ls 3 [(0, .ref h0), (1, .int p0), (2, .int p1)] := hl
  unfold wp_X3_taken at hw
  skip
  obtain ⟨H, hH⟩ : ∃ H, H = s.heap := ⟨_, rfl⟩
  obtain ⟨locs, hlo⟩ : ∃ q : List Loc, q = [] := ⟨_, rfl⟩
  rw [← hH] at hP
  have hS : va_S A s.heap H locs := by rw [hH, hlo]; exact hS
  suffices hgo : W p l e (headSpec wsX3_taken ({ frames := 3, cells := 0, slots := 0, locals := 68 } : Room)).room s m _ below meth c H locs 0 0 _ (F0 m 0 ls []) by rw [hH, hlo] at hgo; exact hgo
  refine lv_aload_n hx hb dX3_taken_0 rfl (lv_at hl 0 rfl) ?_
  refine va_get (D := (dC, dI)) (ci := 2) (v := .ref hc) (C := RX3) (T := TX3) (N := 2) hx hb hts hin0 hown hK hP 0 rfl rfl 0 (by decide) fl_10 (fun _ h9 => h9) rfl dX3_taken_1 ?_
  refine lv_iload_n hx hb dX3_taken_4 rfl (lv_at hl 1 rfl) ?_
  have hPc := hP.sub (ws' := [(hc, .inr (0, [.ref w0, .ref w1, .int σ.1.1, .int σ.1.2.1, .int σ.1.2.2.1])), (w0, .inl (cJ, 512, .inr (.inl (σ.1.2.2.2.1)))), (w1, .inl (cJ, 9, .inr (.inl (σ.1.2.2.2.2))))]) [1, 2, 3] rfl
  have hDc := hD.sub (ws' := [(hc, .inr (0, [.ref w0, .ref w1, .int σ.1.1, .int σ.1.2.1, .int σ.1.2.2.1])), (w0, .inl (cJ, 512, .inr (.inl (σ.1.2.2.2.1)))), (w1, .inl (cJ, 9, .inr (.inl (σ.1.2.2.2.2))))]) [1, 2, 3] (by decide) rfl
  have hKc := hK.sub (tys' := [(cJ, .long)]) [0] rfl
  have hFc := va_free (wc := [(hc, .inr (0, [.ref w0, .ref w1, .int σ.1.1, .int σ.1.2.1, .int σ.1.2.2.1])), (w0, .inl (cJ, 512, .inr (.inl (σ.1.2.2.2.1)))), (w1, .inl (cJ, 9, .inr (.inl (σ.1.2.2.2.2))))]) hD hS hA [1, 2, 3] rfl
  refine kc_i (wr := [(h0, .inr (2, [.ref hc, .ref hs])), (hs, .inr (1, [.int σ.2.1, .int σ.2.2.1, .int σ.2.2.2.1, .int σ.2.2.2.2.1, .int σ.2.2.2.2.2.1, .int σ.2.2.2.2.2.2.1, .int σ.2.2.2.2.2.2.2.1, .int σ.2.2.2.2.2.2.2.2]))]) (kr_V (As := [.int p0]) (rest := []) (b := hc) (ws := [(h0, .inr (2, [.ref hc, .ref hs])), (hc, .inr (0, [.ref w0, .ref w1, .int σ.1.1, .int σ.1.2.1, .int σ.1.2.2.1])), (w0, .inl (cJ, 512, .inr (.inl (σ.1.2.2.2.1)))), (w1, .inl (cJ, 9, .inr (.inl (σ.1.2.2.2.2)))), (hs, .inr (1, [.int σ.2.1, .int σ.2.2.1, .int σ.2.2.2.1, .int σ.2.2.2.2.1, .int σ.2.2.2.2.2.1, .int σ.2.2.2.2.2.2.1, .int σ.2.2.2.2.2.2.2.1, .int σ.2.2.2.2.2.2.2.2]))]) ⟨hx, hb, hml, hown, hts⟩ (c_X0_hasState l dC dI hc w0 w1 cJ σ.1 p0 _ hw H.size) (cwV 1 hts gX3_taken_X0_hasState rfl rfl rfl (by decide +kernel) ⟨Nat.le_of_ble_eq_true rfl, Nat.le_of_ble_eq_true rfl⟩) 0 1 hK rfl rfl rfl hKc hnw hP hD hPc hDc rfl hl.1 rfl (Nat.le_of_ble_eq_true rfl) dX3_taken_5 ⟨Nat.zero_le _, Nat.zero_le _⟩) hP hD hS hFc [1, 2, 3] [0, 4] rfl rfl (by decide) (by decide) (fun r1 u1 H locs hq hP hD hS => ?_)
  obtain ⟨hw, rfl⟩ := hq
  have hP : va_P (dC, dI) vwCl [(h0, .inr (2, [.ref hc, .ref hs])), (hc, .inr (0, [.ref w0, .ref w1, .int σ.1.1, .int σ.1.2.1, .int σ.1.2.2.1])), (w0, .inl (cJ, 512, .inr (.inl (σ.1.2.2.2.1)))), (w1, .inl (cJ, 9, .inr (.inl (σ.1.2.2.2.2)))), (hs, .inr (1, [.int σ.2.1, .int σ.2.2.1, .int σ.2.2.2.1, .int σ.2.2.2.2.1, .int σ.2.2.2.2.2.1, .int σ.2.2.2.2.2.2.1, .int σ.2.2.2.2.2.2.2.1, .int σ.2.2.2.2.2.2.2.2]))] H := hP.sub [0, 2, 3, 4, 1] rfl
  have hD : va_D A [(h0, .inr (2, [.ref hc, .ref hs])), (hc, .inr (0, [.ref w0, .ref w1, .int σ.1.1, .int σ.1.2.1, .int σ.1.2.2.1])), (w0, .inl (cJ, 512, .inr (.inl (σ.1.2.2.2.1)))), (w1, .inl (cJ, 9, .inr (.inl (σ.1.2.2.2.2)))), (hs, .inr (1, [.int σ.2.1, .int σ.2.2.1, .int σ.2.2.2.1, .int σ.2.2.2.2.1, .int σ.2.2.2.2.2.1, .int σ.2.2.2.2.2.2.1, .int σ.2.2.2.2.2.2.2.1, .int σ.2.2.2.2.2.2.2.2]))] := hD.sub [0, 2, 3, 4, 1] (by decide) rfl
  refine lv_if_eq (tgt := 20) hx hb dX3_taken_8 (by decide) (fun c3 => ?_) (fun c3 => ?_)
  · have hw := hw.1 c3
    refine lv_ldc2 (v := (-1 : Int64)) hx hb hown (hts (.constantLong RX3 43 (-1 : Int64)) (by decide +kernel)) dX3_taken_20 ?_
    exact W.lret (v := (-1 : Int64)) hx hb hr (fun t ht hW => ⟨⟨(-1 : Int64), ((cl3 h0 hc w0 w1 hs cJ σ)), rfl, ⟨hw, rfl⟩, by rw [ht]; exact hP, va_K.moved hW.alike hK, hD⟩, hS.F ht⟩) hS.2.2 dX3_taken_23
  · have hw := hw.2 c3
    refine lv_iload_n hx hb dX3_taken_11 rfl (lv_at hl 2 rfl) ?_
    refine lv_iconst (v := (0 : Int32)) hx hb dX3_taken_12 (by decide) ?_
    refine lv_iconst (v := (1 : Int32)) hx hb dX3_taken_13 (by decide) ?_
    have hPc := hP.sub (ws' := ([] : va_W)) [] rfl
    have hDc := hD.sub (ws' := ([] : va_W)) [] (by decide) rfl
    have hKc := hK.sub (tys' := []) [] rfl
    have hFc := va_free (wc := ([] : va_W)) hD hS hA [] rfl
    refine kc_i (wr := [(h0, .inr (2, [.ref hc, .ref hs])), (hc, .inr (0, [.ref w0, .ref w1, .int σ.1.1, .int σ.1.2.1, .int σ.1.2.2.1])), (w0, .inl (cJ, 512, .inr (.inl (σ.1.2.2.2.1)))), (w1, .inl (cJ, 9, .inr (.inl (σ.1.2.2.2.2)))), (hs, .inr (1, [.int σ.2.1, .int σ.2.2.1, .int σ.2.2.2.1, .int σ.2.2.2.2.1, .int σ.2.2.2.2.2.1, .int σ.2.2.2.2.2.2.1, .int σ.2.2.2.2.2.2.2.1, .int σ.2.2.2.2.2.2.2.2]))]) (kr_S (As := [.int p1, .int (0 : Int32), .int (1 : Int32)]) (rest := []) (ws := [(h0, .inr (2, [.ref hc, .ref hs])), (hc, .inr (0, [.ref w0, .ref w1, .int σ.1.1, .int σ.1.2.1, .int σ.1.2.2.1])), (w0, .inl (cJ, 512, .inr (.inl (σ.1.2.2.2.1)))), (w1, .inl (cJ, 9, .inr (.inl (σ.1.2.2.2.2)))), (hs, .inr (1, [.int σ.2.1, .int σ.2.2.1, .int σ.2.2.2.1, .int σ.2.2.2.2.1, .int σ.2.2.2.2.2.1, .int σ.2.2.2.2.2.2.1, .int σ.2.2.2.2.2.2.2.1, .int σ.2.2.2.2.2.2.2.2]))]) ⟨hx, hb, hml, hown, hts⟩ (c_X3_isWithin l dC dI   p1 (0 : Int32) (1 : Int32) _ hw H.size) (va_cwS 3 hts gX3_taken_X3_isWithin rfl rfl rfl (by decide +kernel) ⟨Nat.le_of_ble_eq_true rfl, Nat.le_of_ble_eq_true rfl⟩) hKc hnw hP hD hPc hDc rfl hl.1 rfl (Nat.le_of_ble_eq_true rfl) dX3_taken_14 ⟨Nat.zero_le _, Nat.zero_le _⟩) hP hD hS hFc [] [0, 1, 2, 3, 4] rfl rfl (by decide) (by decide) (fun r4 u1 H locs hq hP hD hS => ?_)
    obtain ⟨hw, rfl⟩ := hq
    have hP : va_P (dC, dI) vwCl [(h0, .inr (2, [.ref hc, .ref hs])), (hc, .inr (0, [.ref w0, .ref w1, .int σ.1.1, .int σ.1.2.1, .int σ.1.2.2.1])), (w0, .inl (cJ, 512, .inr (.inl (σ.1.2.2.2.1)))), (w1, .inl (cJ, 9, .inr (.inl (σ.1.2.2.2.2)))), (hs, .inr (1, [.int σ.2.1, .int σ.2.2.1, .int σ.2.2.2.1, .int σ.2.2.2.2.1, .int σ.2.2.2.2.2.1, .int σ.2.2.2.2.2.2.1, .int σ.2.2.2.2.2.2.2.1, .int σ.2.2.2.2.2.2.2.2]))] H := hP
    have hD : va_D A [(h0, .inr (2, [.ref hc, .ref hs])), (hc, .inr (0, [.ref w0, .ref w1, .int σ.1.1, .int σ.1.2.1, .int σ.1.2.2.1])), (w0, .inl (cJ, 512, .inr (.inl (σ.1.2.2.2.1)))), (w1, .inl (cJ, 9, .inr (.inl (σ.1.2.2.2.2)))), (hs, .inr (1, [.int σ.2.1, .int σ.2.2.1, .int σ.2.2.2.1, .int σ.2.2.2.2.1, .int σ.2.2.2.2.2.1, .int σ.2.2.2.2.2.2.1, .int σ.2.2.2.2.2.2.2.1, .int σ.2.2.2.2.2.2.2.2]))] := hD
    refine lv_if_ne (tgt := 24) hx hb dX3_taken_17 (by decide) (fun c6 => ?_) (fun c6 => ?_)
    · have hw := hw.1 c6
      refine lv_aload_n hx hb dX3_taken_24 rfl (lv_at hl 0 rfl) ?_
      refine va_get (D := (dC, dI)) (ci := 2) (v := .ref hc) (C := RX3) (T := TX3) (N := 2) hx hb hts hin0 hown hK hP 0 rfl rfl 0 (by decide) fl_10 (fun _ h9 => h9) rfl dX3_taken_25 ?_
      refine lv_iload_n hx hb dX3_taken_28 rfl (lv_at hl 1 rfl) ?_
      have hPc := hP.sub (ws' := [(hc, .inr (0, [.ref w0, .ref w1, .int σ.1.1, .int σ.1.2.1, .int σ.1.2.2.1])), (w0, .inl (cJ, 512, .inr (.inl (σ.1.2.2.2.1)))), (w1, .inl (cJ, 9, .inr (.inl (σ.1.2.2.2.2))))]) [1, 2, 3] rfl
      have hDc := hD.sub (ws' := [(hc, .inr (0, [.ref w0, .ref w1, .int σ.1.1, .int σ.1.2.1, .int σ.1.2.2.1])), (w0, .inl (cJ, 512, .inr (.inl (σ.1.2.2.2.1)))), (w1, .inl (cJ, 9, .inr (.inl (σ.1.2.2.2.2))))]) [1, 2, 3] (by decide) rfl
      have hKc := hK.sub (tys' := [(cJ, .long)]) [0] rfl
      have hFc := va_free (wc := [(hc, .inr (0, [.ref w0, .ref w1, .int σ.1.1, .int σ.1.2.1, .int σ.1.2.2.1])), (w0, .inl (cJ, 512, .inr (.inl (σ.1.2.2.2.1)))), (w1, .inl (cJ, 9, .inr (.inl (σ.1.2.2.2.2))))]) hD hS hA [1, 2, 3] rfl
      refine kc_l (wr := [(h0, .inr (2, [.ref hc, .ref hs])), (hs, .inr (1, [.int σ.2.1, .int σ.2.2.1, .int σ.2.2.2.1, .int σ.2.2.2.2.1, .int σ.2.2.2.2.2.1, .int σ.2.2.2.2.2.2.1, .int σ.2.2.2.2.2.2.2.1, .int σ.2.2.2.2.2.2.2.2]))]) (kr_V (As := [.int p0]) (rest := []) (b := hc) (ws := [(h0, .inr (2, [.ref hc, .ref hs])), (hc, .inr (0, [.ref w0, .ref w1, .int σ.1.1, .int σ.1.2.1, .int σ.1.2.2.1])), (w0, .inl (cJ, 512, .inr (.inl (σ.1.2.2.2.1)))), (w1, .inl (cJ, 9, .inr (.inl (σ.1.2.2.2.2)))), (hs, .inr (1, [.int σ.2.1, .int σ.2.2.1, .int σ.2.2.2.1, .int σ.2.2.2.2.1, .int σ.2.2.2.2.2.1, .int σ.2.2.2.2.2.2.1, .int σ.2.2.2.2.2.2.2.1, .int σ.2.2.2.2.2.2.2.2]))]) ⟨hx, hb, hml, hown, hts⟩ (c_X0_sumWithTaken l dC dI hc w0 w1 cJ σ.1 p0 _ hw H.size) (cwV 1 hts gX3_taken_X0_sumWithTaken rfl rfl rfl (by decide +kernel) ⟨Nat.le_of_ble_eq_true rfl, Nat.le_of_ble_eq_true rfl⟩) 0 1 hK rfl rfl rfl hKc hnw hP hD hPc hDc rfl hl.1 rfl (Nat.le_of_ble_eq_true rfl) dX3_taken_29 ⟨Nat.zero_le _, Nat.zero_le _⟩) hP hD hS hFc [1, 2, 3] [0, 4] rfl rfl (by decide) (by decide) (fun r7 u1 H locs hq hP hD hS => ?_)
      obtain ⟨hw, rfl⟩ := hq
      have hP : va_P (dC, dI) vwCl [(h0, .inr (2, [.ref hc, .ref hs])), (hc, .inr (0, [.ref w0, .ref w1, .int σ.1.1, .int σ.1.2.1, .int σ.1.2.2.1])), (w0, .inl (cJ, 512, .inr (.inl (σ.1.2.2.2.1)))), (w1, .inl (cJ, 9, .inr (.inl (σ.1.2.2.2.2)))), (hs, .inr (1, [.int σ.2.1, .int σ.2.2.1, .int σ.2.2.2.1, .int σ.2.2.2.2.1, .int σ.2.2.2.2.2.1, .int σ.2.2.2.2.2.2.1, .int σ.2.2.2.2.2.2.2.1, .int σ.2.2.2.2.2.2.2.2]))] H := hP.sub [0, 2, 3, 4, 1] rfl
      have hD : va_D A [(h0, .inr (2, [.ref hc, .ref hs])), (hc, .inr (0, [.ref w0, .ref w1, .int σ.1.1, .int σ.1.2.1, .int σ.1.2.2.1])), (w0, .inl (cJ, 512, .inr (.inl (σ.1.2.2.2.1)))), (w1, .inl (cJ, 9, .inr (.inl (σ.1.2.2.2.2)))), (hs, .inr (1, [.int σ.2.1, .int σ.2.2.1, .int σ.2.2.2.1, .int σ.2.2.2.2.1, .int σ.2.2.2.2.2.1, .int σ.2.2.2.2.2.2.1, .int σ.2.2.2.2.2.2.2.1, .int σ.2.2.2.2.2.2.2.2]))] := hD.sub [0, 2, 3, 4, 1] (by decide) rfl
      refine lv_aload_n hx hb dX3_taken_32 rfl (lv_at hl 0 rfl) ?_
      refine va_get (D := (dC, dI)) (ci := 2) (v := .ref hc) (C := RX3) (T := TX3) (N := 2) hx hb hts hin0 hown hK hP 0 rfl rfl 0 (by decide) fl_10 (fun _ h9 => h9) rfl dX3_taken_33 ?_
      refine lv_aload_n hx hb dX3_taken_36 rfl (lv_at hl 0 rfl) ?_
      refine va_get (D := (dC, dI)) (ci := 2) (v := .ref hc) (C := RX3) (T := TX3) (N := 2) hx hb hts hin0 hown hK hP 0 rfl rfl 0 (by decide) fl_10 (fun _ h9 => h9) rfl dX3_taken_37 ?_
      have hPc := hP.sub (ws' := [(hc, .inr (0, [.ref w0, .ref w1, .int σ.1.1, .int σ.1.2.1, .int σ.1.2.2.1])), (w0, .inl (cJ, 512, .inr (.inl (σ.1.2.2.2.1)))), (w1, .inl (cJ, 9, .inr (.inl (σ.1.2.2.2.2))))]) [1, 2, 3] rfl
      have hDc := hD.sub (ws' := [(hc, .inr (0, [.ref w0, .ref w1, .int σ.1.1, .int σ.1.2.1, .int σ.1.2.2.1])), (w0, .inl (cJ, 512, .inr (.inl (σ.1.2.2.2.1)))), (w1, .inl (cJ, 9, .inr (.inl (σ.1.2.2.2.2))))]) [1, 2, 3] (by decide) rfl
      have hKc := hK.sub (tys' := [(cJ, .long)]) [0] rfl
      have hFc := va_free (wc := [(hc, .inr (0, [.ref w0, .ref w1, .int σ.1.1, .int σ.1.2.1, .int σ.1.2.2.1])), (w0, .inl (cJ, 512, .inr (.inl (σ.1.2.2.2.1)))), (w1, .inl (cJ, 9, .inr (.inl (σ.1.2.2.2.2))))]) hD hS hA [1, 2, 3] rfl
      refine kc_i (wr := [(h0, .inr (2, [.ref hc, .ref hs])), (hs, .inr (1, [.int σ.2.1, .int σ.2.2.1, .int σ.2.2.2.1, .int σ.2.2.2.2.1, .int σ.2.2.2.2.2.1, .int σ.2.2.2.2.2.2.1, .int σ.2.2.2.2.2.2.2.1, .int σ.2.2.2.2.2.2.2.2]))]) (kr_V (As := []) (rest := [.ref hc, .long r7]) (b := hc) (ws := [(h0, .inr (2, [.ref hc, .ref hs])), (hc, .inr (0, [.ref w0, .ref w1, .int σ.1.1, .int σ.1.2.1, .int σ.1.2.2.1])), (w0, .inl (cJ, 512, .inr (.inl (σ.1.2.2.2.1)))), (w1, .inl (cJ, 9, .inr (.inl (σ.1.2.2.2.2)))), (hs, .inr (1, [.int σ.2.1, .int σ.2.2.1, .int σ.2.2.2.1, .int σ.2.2.2.2.1, .int σ.2.2.2.2.2.1, .int σ.2.2.2.2.2.2.1, .int σ.2.2.2.2.2.2.2.1, .int σ.2.2.2.2.2.2.2.2]))]) ⟨hx, hb, hml, hown, hts⟩ (c_X0_countPlaces l dC dI hc w0 w1 cJ σ.1  _ hw H.size) (cwV 0 hts gX3_taken_X0_countPlaces rfl rfl rfl (by decide +kernel) ⟨Nat.le_of_ble_eq_true rfl, Nat.le_of_ble_eq_true rfl⟩) 0 1 hK rfl rfl rfl hKc hnw hP hD hPc hDc rfl hl.1 rfl (Nat.le_of_ble_eq_true rfl) dX3_taken_40 ⟨Nat.zero_le _, Nat.zero_le _⟩) hP hD hS hFc [1, 2, 3] [0, 4] rfl rfl (by decide) (by decide) (fun r9 u1 H locs hq hP hD hS => ?_)
      obtain ⟨hw, rfl⟩ := hq
      have hP : va_P (dC, dI) vwCl [(h0, .inr (2, [.ref hc, .ref hs])), (hc, .inr (0, [.ref w0, .ref w1, .int σ.1.1, .int σ.1.2.1, .int σ.1.2.2.1])), (w0, .inl (cJ, 512, .inr (.inl (σ.1.2.2.2.1)))), (w1, .inl (cJ, 9, .inr (.inl (σ.1.2.2.2.2)))), (hs, .inr (1, [.int σ.2.1, .int σ.2.2.1, .int σ.2.2.2.1, .int σ.2.2.2.2.1, .int σ.2.2.2.2.2.1, .int σ.2.2.2.2.2.2.1, .int σ.2.2.2.2.2.2.2.1, .int σ.2.2.2.2.2.2.2.2]))] H := hP.sub [0, 2, 3, 4, 1] rfl
      have hD : va_D A [(h0, .inr (2, [.ref hc, .ref hs])), (hc, .inr (0, [.ref w0, .ref w1, .int σ.1.1, .int σ.1.2.1, .int σ.1.2.2.1])), (w0, .inl (cJ, 512, .inr (.inl (σ.1.2.2.2.1)))), (w1, .inl (cJ, 9, .inr (.inl (σ.1.2.2.2.2)))), (hs, .inr (1, [.int σ.2.1, .int σ.2.2.1, .int σ.2.2.2.1, .int σ.2.2.2.2.1, .int σ.2.2.2.2.2.1, .int σ.2.2.2.2.2.2.1, .int σ.2.2.2.2.2.2.2.1, .int σ.2.2.2.2.2.2.2.2]))] := hD.sub [0, 2, 3, 4, 1] (by decide) rfl
      have hPc := hP.sub (ws' := [(hc, .inr (0, [.ref w0, .ref w1, .int σ.1.1, .int σ.1.2.1, .int σ.1.2.2.1])), (w0, .inl (cJ, 512, .inr (.inl (σ.1.2.2.2.1)))), (w1, .inl (cJ, 9, .inr (.inl (σ.1.2.2.2.2))))]) [1, 2, 3] rfl
      have hDc := hD.sub (ws' := [(hc, .inr (0, [.ref w0, .ref w1, .int σ.1.1, .int σ.1.2.1, .int σ.1.2.2.1])), (w0, .inl (cJ, 512, .inr (.inl (σ.1.2.2.2.1)))), (w1, .inl (cJ, 9, .inr (.inl (σ.1.2.2.2.2))))]) [1, 2, 3] (by decide) rfl
      have hKc := hK.sub (tys' := [(cJ, .long)]) [0] rfl
      have hFc := va_free (wc := [(hc, .inr (0, [.ref w0, .ref w1, .int σ.1.1, .int σ.1.2.1, .int σ.1.2.2.1])), (w0, .inl (cJ, 512, .inr (.inl (σ.1.2.2.2.1)))), (w1, .inl (cJ, 9, .inr (.inl (σ.1.2.2.2.2))))]) hD hS hA [1, 2, 3] rfl
      refine kc_l (wr := [(h0, .inr (2, [.ref hc, .ref hs])), (hs, .inr (1, [.int σ.2.1, .int σ.2.2.1, .int σ.2.2.2.1, .int σ.2.2.2.2.1, .int σ.2.2.2.2.2.1, .int σ.2.2.2.2.2.2.1, .int σ.2.2.2.2.2.2.2.1, .int σ.2.2.2.2.2.2.2.2]))]) (kr_V (As := [.int r9]) (rest := [.long r7]) (b := hc) (ws := [(h0, .inr (2, [.ref hc, .ref hs])), (hc, .inr (0, [.ref w0, .ref w1, .int σ.1.1, .int σ.1.2.1, .int σ.1.2.2.1])), (w0, .inl (cJ, 512, .inr (.inl (σ.1.2.2.2.1)))), (w1, .inl (cJ, 9, .inr (.inl (σ.1.2.2.2.2)))), (hs, .inr (1, [.int σ.2.1, .int σ.2.2.1, .int σ.2.2.2.1, .int σ.2.2.2.2.1, .int σ.2.2.2.2.2.1, .int σ.2.2.2.2.2.2.1, .int σ.2.2.2.2.2.2.2.1, .int σ.2.2.2.2.2.2.2.2]))]) ⟨hx, hb, hml, hown, hts⟩ (c_X0_sumOf l dC dI hc w0 w1 cJ σ.1 r9 _ hw H.size) (cwV 1 hts gX3_taken_X0_sumOf rfl rfl rfl (by decide +kernel) ⟨Nat.le_of_ble_eq_true rfl, Nat.le_of_ble_eq_true rfl⟩) 0 1 hK rfl rfl rfl hKc hnw hP hD hPc hDc rfl hl.1 rfl (Nat.le_of_ble_eq_true rfl) dX3_taken_43 ⟨Nat.zero_le _, Nat.zero_le _⟩) hP hD hS hFc [1, 2, 3] [0, 4] rfl rfl (by decide) (by decide) (fun r11 u1 H locs hq hP hD hS => ?_)
      obtain ⟨hw, rfl⟩ := hq
      have hP : va_P (dC, dI) vwCl [(h0, .inr (2, [.ref hc, .ref hs])), (hc, .inr (0, [.ref w0, .ref w1, .int σ.1.1, .int σ.1.2.1, .int σ.1.2.2.1])), (w0, .inl (cJ, 512, .inr (.inl (σ.1.2.2.2.1)))), (w1, .inl (cJ, 9, .inr (.inl (σ.1.2.2.2.2)))), (hs, .inr (1, [.int σ.2.1, .int σ.2.2.1, .int σ.2.2.2.1, .int σ.2.2.2.2.1, .int σ.2.2.2.2.2.1, .int σ.2.2.2.2.2.2.1, .int σ.2.2.2.2.2.2.2.1, .int σ.2.2.2.2.2.2.2.2]))] H := hP.sub [0, 2, 3, 4, 1] rfl
      have hD : va_D A [(h0, .inr (2, [.ref hc, .ref hs])), (hc, .inr (0, [.ref w0, .ref w1, .int σ.1.1, .int σ.1.2.1, .int σ.1.2.2.1])), (w0, .inl (cJ, 512, .inr (.inl (σ.1.2.2.2.1)))), (w1, .inl (cJ, 9, .inr (.inl (σ.1.2.2.2.2)))), (hs, .inr (1, [.int σ.2.1, .int σ.2.2.1, .int σ.2.2.2.1, .int σ.2.2.2.2.1, .int σ.2.2.2.2.2.1, .int σ.2.2.2.2.2.2.1, .int σ.2.2.2.2.2.2.2.1, .int σ.2.2.2.2.2.2.2.2]))] := hD.sub [0, 2, 3, 4, 1] (by decide) rfl
      refine lv_iload_n hx hb dX3_taken_46 rfl (lv_at hl 2 rfl) ?_
      have hPc := hP.sub (ws' := ([] : va_W)) [] rfl
      have hDc := hD.sub (ws' := ([] : va_W)) [] (by decide) rfl
      have hKc := hK.sub (tys' := []) [] rfl
      have hFc := va_free (wc := ([] : va_W)) hD hS hA [] rfl
      refine kc_l (wr := [(h0, .inr (2, [.ref hc, .ref hs])), (hc, .inr (0, [.ref w0, .ref w1, .int σ.1.1, .int σ.1.2.1, .int σ.1.2.2.1])), (w0, .inl (cJ, 512, .inr (.inl (σ.1.2.2.2.1)))), (w1, .inl (cJ, 9, .inr (.inl (σ.1.2.2.2.2)))), (hs, .inr (1, [.int σ.2.1, .int σ.2.2.1, .int σ.2.2.2.1, .int σ.2.2.2.2.1, .int σ.2.2.2.2.2.1, .int σ.2.2.2.2.2.2.1, .int σ.2.2.2.2.2.2.2.1, .int σ.2.2.2.2.2.2.2.2]))]) (kr_S (As := [.long r7, .long r11, .int p1]) (rest := []) (ws := [(h0, .inr (2, [.ref hc, .ref hs])), (hc, .inr (0, [.ref w0, .ref w1, .int σ.1.1, .int σ.1.2.1, .int σ.1.2.2.1])), (w0, .inl (cJ, 512, .inr (.inl (σ.1.2.2.2.1)))), (w1, .inl (cJ, 9, .inr (.inl (σ.1.2.2.2.2)))), (hs, .inr (1, [.int σ.2.1, .int σ.2.2.1, .int σ.2.2.2.1, .int σ.2.2.2.2.1, .int σ.2.2.2.2.2.1, .int σ.2.2.2.2.2.2.1, .int σ.2.2.2.2.2.2.2.1, .int σ.2.2.2.2.2.2.2.2]))]) ⟨hx, hb, hml, hown, hts⟩ (c_X3_partOfFraction l dC dI   r7 r11 p1 _ hw H.size) (va_cwS 3 hts gX3_taken_X3_partOfFraction rfl rfl rfl (by decide +kernel) ⟨Nat.le_of_ble_eq_true rfl, Nat.le_of_ble_eq_true rfl⟩) hKc hnw hP hD hPc hDc rfl hl.1 rfl (Nat.le_of_ble_eq_true rfl) dX3_taken_47 ⟨Nat.zero_le _, Nat.zero_le _⟩) hP hD hS hFc [] [0, 1, 2, 3, 4] rfl rfl (by decide) (by decide) (fun r13 u1 H locs hq hP hD hS => ?_)
      obtain ⟨hw, rfl⟩ := hq
      have hP : va_P (dC, dI) vwCl [(h0, .inr (2, [.ref hc, .ref hs])), (hc, .inr (0, [.ref w0, .ref w1, .int σ.1.1, .int σ.1.2.1, .int σ.1.2.2.1])), (w0, .inl (cJ, 512, .inr (.inl (σ.1.2.2.2.1)))), (w1, .inl (cJ, 9, .inr (.inl (σ.1.2.2.2.2)))), (hs, .inr (1, [.int σ.2.1, .int σ.2.2.1, .int σ.2.2.2.1, .int σ.2.2.2.2.1, .int σ.2.2.2.2.2.1, .int σ.2.2.2.2.2.2.1, .int σ.2.2.2.2.2.2.2.1, .int σ.2.2.2.2.2.2.2.2]))] H := hP
      have hD : va_D A [(h0, .inr (2, [.ref hc, .ref hs])), (hc, .inr (0, [.ref w0, .ref w1, .int σ.1.1, .int σ.1.2.1, .int σ.1.2.2.1])), (w0, .inl (cJ, 512, .inr (.inl (σ.1.2.2.2.1)))), (w1, .inl (cJ, 9, .inr (.inl (σ.1.2.2.2.2)))), (hs, .inr (1, [.int σ.2.1, .int σ.2.2.1, .int σ.2.2.2.1, .int σ.2.2.2.2.1, .int σ.2.2.2.2.2.1, .int σ.2.2.2.2.2.2.1, .int σ.2.2.2.2.2.2.2.1, .int σ.2.2.2.2.2.2.2.2]))] := hD
      exact W.lret (v := r13) hx hb hr (fun t ht hW => ⟨⟨r13, ((cl3 h0 hc w0 w1 hs cJ σ)), rfl, ⟨hw, rfl⟩, by rw [ht]; exact hP, va_K.moved hW.alike hK, hD⟩, hS.F ht⟩) hS.2.2 dX3_taken_50
    · have hw := hw.2 c6
      refine lv_ldc2 (v := (-1 : Int64)) hx hb hown (hts (.constantLong RX3 43 (-1 : Int64)) (by decide +kernel)) dX3_taken_20 ?_
      exact W.lret (v := (-1 : Int64)) hx hb hr (fun t ht hW => ⟨⟨(-1 : Int64), ((cl3 h0 hc w0 w1 hs cJ σ)), rfl, ⟨hw, rfl⟩, by rw [ht]; exact hP, va_K.moved hW.alike hK, hD⟩, hS.F ht⟩) hS.2.2 dX3_taken_23
set_option maxHeartbeats 4000000 in
set_option maxRecDepth 100000 in
theorem c_X3_flow (l : Launch) (dC : Nat → ClassId) (dI : Nat → Nat → Nat) (h0 hc w0 w1 hs : Nat) (cJ : ClassId) (σ : SO) (p0 : Int32) (p1 : Int32) (post : Int64 → Prop) (hw : wp_X3_flow p0 p1 σ post) : KL l yX3_flow wsX3_flow ({ frames := 3, cells := 0, slots := 0, locals := 68 } : Room) (dC, dI) [(cJ, .long)] (cl3 h0 hc w0 w1 hs cJ σ) [.ref h0, .int p0, .int p1] (fun r u => post r ∧ u = (cl3 h0 hc w0 w1 hs cJ σ)) := by
  intro sz
  refine Met.ofW (cc := cX3_flow) (maxL := 3) (ret := (some .long)) (by decide) rfl ?_
  intro p e s m args below meth c s₁ B hml hv
  obtain ⟨rfl, hsz, hP, hK, hD0, hnw⟩ := hv
  have hx := B.exec
  have hb := B.bytes
  have hr := B.returns
  have hts := atoms_spec (ws := wsX3_flow) B.pre
  have hown : s.vm.findClass RX3 = some m.cls := findClass_of_methodNamed B.named
  have hlocks := B.notSynchronized
  subst hsz
  have hD := hD0.self (sz := s.heap.size)
  generalize hAe : va_A (cl3 h0 hc w0 w1 hs cJ σ) s.heap.size = A at hD ⊢
  have hA : ∀ q : Nat, s.heap.size ≤ q → A q := fun q h => by rw [← hAe]; exact Or.inr h
  have hS : va_S A s.heap s.heap [] := va_S.rf
  have hP : va_P (dC, dI) vwCl [(h0, .inr (2, [.ref hc, .ref hs])), (hc, .inr (0, [.ref w0, .ref w1, .int σ.1.1, .int σ.1.2.1, .int σ.1.2.2.1])), (w0, .inl (cJ, 512, .inr (.inl (σ.1.2.2.2.1)))), (w1, .inl (cJ, 9, .inr (.inl (σ.1.2.2.2.2)))), (hs, .inr (1, [.int σ.2.1, .int σ.2.2.1, .int σ.2.2.2.1, .int σ.2.2.2.2.1, .int σ.2.2.2.2.2.1, .int σ.2.2.2.2.2.2.1, .int σ.2.2.2.2.2.2.2.1, .int σ.2.2.2.2.2.2.2.2]))] s.heap := hP
  have hD : va_D A [(h0, .inr (2, [.ref hc, .ref hs])), (hc, .inr (0, [.ref w0, .ref w1, .int σ.1.1, .int σ.1.2.1, .int σ.1.2.2.1])), (w0, .inl (cJ, 512, .inr (.inl (σ.1.2.2.2.1)))), (w1, .inl (cJ, 9, .inr (.inl (σ.1.2.2.2.2)))), (hs, .inr (1, [.int σ.2.1, .int σ.2.2.1, .int σ.2.2.2.1, .int σ.2.2.2.2.1, .int σ.2.2.2.2.2.1, .int σ.2.2.2.2.2.2.1, .int σ.2.2.2.2.2.2.2.1, .int σ.2.2.2.2.2.2.2.2]))] := hD
  have fl_10 := hts (.fieldLink RX3 10 "OnePlaceEach" "chain" "LOnePlaceEach$Chain;") (by decide +kernel)
  have hin0 : ∀ w ∈ wsX30, w ∈ wsX3_flow := by decide +kernel
  have hl := lv_entry ([.ref h0, .int p0, .int p1]) (n := 3) (Nat.le_of_ble_eq_true rfl)
  rw [lg_entry_eq]
  generalize (lg_sl ([.ref h0, .int p0, .int p1]) ++ List.replicate (3 - (lg_sl ([.ref h0, .int p0, .int p1])).length) Slot.unset).toArray = ls at hl ⊢
  have hl : lv_has ls 3 [(0, .ref h0), (1, .int p0), (2, .int p1)] := hl
  unfold wp_X3_flow at hw
  skip
  obtain ⟨H, hH⟩ : ∃ H, H = s.heap := ⟨_, rfl⟩
  obtain ⟨locs, hlo⟩ : ∃ q : List Loc, q = [] := ⟨_, rfl⟩
  rw [← hH] at hP
  have hS : va_S A s.heap H locs := by rw [hH, hlo]; exact hS
  suffices hgo : W p l e (headSpec wsX3_flow ({ frames := 3, cells := 0, slots := 0, locals := 68 } : Room)).room s m _ below meth c H locs 0 0 _ (F0 m 0 ls []) by rw [hH, hlo] at hgo; exact hgo
  refine lv_aload_n hx hb dX3_flow_0 rfl (lv_at hl 0 rfl) ?_
  refine va_get (D := (dC, dI)) (ci := 2) (v := .ref hc) (C := RX3) (T := TX3) (N := 2) hx hb hts hin0 hown hK hP 0 rfl rfl 0 (by decide) fl_10 (fun _ h9 => h9) rfl dX3_flow_1 ?_
  refine lv_iload_n hx hb dX3_flow_4 rfl (lv_at hl 1 rfl) ?_
  have hPc := hP.sub (ws' := [(hc, .inr (0, [.ref w0, .ref w1, .int σ.1.1, .int σ.1.2.1, .int σ.1.2.2.1])), (w0, .inl (cJ, 512, .inr (.inl (σ.1.2.2.2.1)))), (w1, .inl (cJ, 9, .inr (.inl (σ.1.2.2.2.2))))]) [1, 2, 3] rfl
  have hDc := hD.sub (ws' := [(hc, .inr (0, [.ref w0, .ref w1, .int σ.1.1, .int σ.1.2.1, .int σ.1.2.2.1])), (w0, .inl (cJ, 512, .inr (.inl (σ.1.2.2.2.1)))), (w1, .inl (cJ, 9, .inr (.inl (σ.1.2.2.2.2))))]) [1, 2, 3] (by decide) rfl
  have hKc := hK.sub (tys' := [(cJ, .long)]) [0] rfl
  have hFc := va_free (wc := [(hc, .inr (0, [.ref w0, .ref w1, .int σ.1.1, .int σ.1.2.1, .int σ.1.2.2.1])), (w0, .inl (cJ, 512, .inr (.inl (σ.1.2.2.2.1)))), (w1, .inl (cJ, 9, .inr (.inl (σ.1.2.2.2.2))))]) hD hS hA [1, 2, 3] rfl
  refine kc_i (wr := [(h0, .inr (2, [.ref hc, .ref hs])), (hs, .inr (1, [.int σ.2.1, .int σ.2.2.1, .int σ.2.2.2.1, .int σ.2.2.2.2.1, .int σ.2.2.2.2.2.1, .int σ.2.2.2.2.2.2.1, .int σ.2.2.2.2.2.2.2.1, .int σ.2.2.2.2.2.2.2.2]))]) (kr_V (As := [.int p0]) (rest := []) (b := hc) (ws := [(h0, .inr (2, [.ref hc, .ref hs])), (hc, .inr (0, [.ref w0, .ref w1, .int σ.1.1, .int σ.1.2.1, .int σ.1.2.2.1])), (w0, .inl (cJ, 512, .inr (.inl (σ.1.2.2.2.1)))), (w1, .inl (cJ, 9, .inr (.inl (σ.1.2.2.2.2)))), (hs, .inr (1, [.int σ.2.1, .int σ.2.2.1, .int σ.2.2.2.1, .int σ.2.2.2.2.1, .int σ.2.2.2.2.2.1, .int σ.2.2.2.2.2.2.1, .int σ.2.2.2.2.2.2.2.1, .int σ.2.2.2.2.2.2.2.2]))]) ⟨hx, hb, hml, hown, hts⟩ (c_X0_hasState l dC dI hc w0 w1 cJ σ.1 p0 _ hw H.size) (cwV 1 hts gX3_flow_X0_hasState rfl rfl rfl (by decide +kernel) ⟨Nat.le_of_ble_eq_true rfl, Nat.le_of_ble_eq_true rfl⟩) 0 1 hK rfl rfl rfl hKc hnw hP hD hPc hDc rfl hl.1 rfl (Nat.le_of_ble_eq_true rfl) dX3_flow_5 ⟨Nat.zero_le _, Nat.zero_le _⟩) hP hD hS hFc [1, 2, 3] [0, 4] rfl rfl (by decide) (by decide) (fun r1 u1 H locs hq hP hD hS => ?_)
  obtain ⟨hw, rfl⟩ := hq
  have hP : va_P (dC, dI) vwCl [(h0, .inr (2, [.ref hc, .ref hs])), (hc, .inr (0, [.ref w0, .ref w1, .int σ.1.1, .int σ.1.2.1, .int σ.1.2.2.1])), (w0, .inl (cJ, 512, .inr (.inl (σ.1.2.2.2.1)))), (w1, .inl (cJ, 9, .inr (.inl (σ.1.2.2.2.2)))), (hs, .inr (1, [.int σ.2.1, .int σ.2.2.1, .int σ.2.2.2.1, .int σ.2.2.2.2.1, .int σ.2.2.2.2.2.1, .int σ.2.2.2.2.2.2.1, .int σ.2.2.2.2.2.2.2.1, .int σ.2.2.2.2.2.2.2.2]))] H := hP.sub [0, 2, 3, 4, 1] rfl
  have hD : va_D A [(h0, .inr (2, [.ref hc, .ref hs])), (hc, .inr (0, [.ref w0, .ref w1, .int σ.1.1, .int σ.1.2.1, .int σ.1.2.2.1])), (w0, .inl (cJ, 512, .inr (.inl (σ.1.2.2.2.1)))), (w1, .inl (cJ, 9, .inr (.inl (σ.1.2.2.2.2)))), (hs, .inr (1, [.int σ.2.1, .int σ.2.2.1, .int σ.2.2.2.1, .int σ.2.2.2.2.1, .int σ.2.2.2.2.2.1, .int σ.2.2.2.2.2.2.1, .int σ.2.2.2.2.2.2.2.1, .int σ.2.2.2.2.2.2.2.2]))] := hD.sub [0, 2, 3, 4, 1] (by decide) rfl
  refine lv_if_eq (tgt := 20) hx hb dX3_flow_8 (by decide) (fun c3 => ?_) (fun c3 => ?_)
  · have hw := hw.1 c3
    refine lv_ldc2 (v := (-1 : Int64)) hx hb hown (hts (.constantLong RX3 43 (-1 : Int64)) (by decide +kernel)) dX3_flow_20 ?_
    exact W.lret (v := (-1 : Int64)) hx hb hr (fun t ht hW => ⟨⟨(-1 : Int64), ((cl3 h0 hc w0 w1 hs cJ σ)), rfl, ⟨hw, rfl⟩, by rw [ht]; exact hP, va_K.moved hW.alike hK, hD⟩, hS.F ht⟩) hS.2.2 dX3_flow_23
  · have hw := hw.2 c3
    refine lv_iload_n hx hb dX3_flow_11 rfl (lv_at hl 2 rfl) ?_
    refine lv_iconst (v := (0 : Int32)) hx hb dX3_flow_12 (by decide) ?_
    refine lv_iconst (v := (1 : Int32)) hx hb dX3_flow_13 (by decide) ?_
    have hPc := hP.sub (ws' := ([] : va_W)) [] rfl
    have hDc := hD.sub (ws' := ([] : va_W)) [] (by decide) rfl
    have hKc := hK.sub (tys' := []) [] rfl
    have hFc := va_free (wc := ([] : va_W)) hD hS hA [] rfl
    refine kc_i (wr := [(h0, .inr (2, [.ref hc, .ref hs])), (hc, .inr (0, [.ref w0, .ref w1, .int σ.1.1, .int σ.1.2.1, .int σ.1.2.2.1])), (w0, .inl (cJ, 512, .inr (.inl (σ.1.2.2.2.1)))), (w1, .inl (cJ, 9, .inr (.inl (σ.1.2.2.2.2)))), (hs, .inr (1, [.int σ.2.1, .int σ.2.2.1, .int σ.2.2.2.1, .int σ.2.2.2.2.1, .int σ.2.2.2.2.2.1, .int σ.2.2.2.2.2.2.1, .int σ.2.2.2.2.2.2.2.1, .int σ.2.2.2.2.2.2.2.2]))]) (kr_S (As := [.int p1, .int (0 : Int32), .int (1 : Int32)]) (rest := []) (ws := [(h0, .inr (2, [.ref hc, .ref hs])), (hc, .inr (0, [.ref w0, .ref w1, .int σ.1.1, .int σ.1.2.1, .int σ.1.2.2.1])), (w0, .inl (cJ, 512, .inr (.inl (σ.1.2.2.2.1)))), (w1, .inl (cJ, 9, .inr (.inl (σ.1.2.2.2.2)))), (hs, .inr (1, [.int σ.2.1, .int σ.2.2.1, .int σ.2.2.2.1, .int σ.2.2.2.2.1, .int σ.2.2.2.2.2.1, .int σ.2.2.2.2.2.2.1, .int σ.2.2.2.2.2.2.2.1, .int σ.2.2.2.2.2.2.2.2]))]) ⟨hx, hb, hml, hown, hts⟩ (c_X3_isWithin l dC dI   p1 (0 : Int32) (1 : Int32) _ hw H.size) (va_cwS 3 hts gX3_flow_X3_isWithin rfl rfl rfl (by decide +kernel) ⟨Nat.le_of_ble_eq_true rfl, Nat.le_of_ble_eq_true rfl⟩) hKc hnw hP hD hPc hDc rfl hl.1 rfl (Nat.le_of_ble_eq_true rfl) dX3_flow_14 ⟨Nat.zero_le _, Nat.zero_le _⟩) hP hD hS hFc [] [0, 1, 2, 3, 4] rfl rfl (by decide) (by decide) (fun r4 u1 H locs hq hP hD hS => ?_)
    obtain ⟨hw, rfl⟩ := hq
    have hP : va_P (dC, dI) vwCl [(h0, .inr (2, [.ref hc, .ref hs])), (hc, .inr (0, [.ref w0, .ref w1, .int σ.1.1, .int σ.1.2.1, .int σ.1.2.2.1])), (w0, .inl (cJ, 512, .inr (.inl (σ.1.2.2.2.1)))), (w1, .inl (cJ, 9, .inr (.inl (σ.1.2.2.2.2)))), (hs, .inr (1, [.int σ.2.1, .int σ.2.2.1, .int σ.2.2.2.1, .int σ.2.2.2.2.1, .int σ.2.2.2.2.2.1, .int σ.2.2.2.2.2.2.1, .int σ.2.2.2.2.2.2.2.1, .int σ.2.2.2.2.2.2.2.2]))] H := hP
    have hD : va_D A [(h0, .inr (2, [.ref hc, .ref hs])), (hc, .inr (0, [.ref w0, .ref w1, .int σ.1.1, .int σ.1.2.1, .int σ.1.2.2.1])), (w0, .inl (cJ, 512, .inr (.inl (σ.1.2.2.2.1)))), (w1, .inl (cJ, 9, .inr (.inl (σ.1.2.2.2.2)))), (hs, .inr (1, [.int σ.2.1, .int σ.2.2.1, .int σ.2.2.2.1, .int σ.2.2.2.2.1, .int σ.2.2.2.2.2.1, .int σ.2.2.2.2.2.2.1, .int σ.2.2.2.2.2.2.2.1, .int σ.2.2.2.2.2.2.2.2]))] := hD
    refine lv_if_ne (tgt := 24) hx hb dX3_flow_17 (by decide) (fun c6 => ?_) (fun c6 => ?_)
    · have hw := hw.1 c6
      refine lv_iload_n hx hb dX3_flow_24 rfl (lv_at hl 2 rfl) ?_
      refine lv_if_ne (tgt := 39) hx hb dX3_flow_25 (by decide) (fun c7 => ?_) (fun c7 => ?_)
      · have hw := hw.1 c7
        refine lv_aload_n hx hb dX3_flow_39 rfl (lv_at hl 0 rfl) ?_
        refine va_get (D := (dC, dI)) (ci := 2) (v := .ref hc) (C := RX3) (T := TX3) (N := 2) hx hb hts hin0 hown hK hP 0 rfl rfl 0 (by decide) fl_10 (fun _ h9 => h9) rfl dX3_flow_40 ?_
        refine lv_iload_n hx hb dX3_flow_43 rfl (lv_at hl 1 rfl) ?_
        have hPc := hP.sub (ws' := [(hc, .inr (0, [.ref w0, .ref w1, .int σ.1.1, .int σ.1.2.1, .int σ.1.2.2.1])), (w0, .inl (cJ, 512, .inr (.inl (σ.1.2.2.2.1)))), (w1, .inl (cJ, 9, .inr (.inl (σ.1.2.2.2.2))))]) [1, 2, 3] rfl
        have hDc := hD.sub (ws' := [(hc, .inr (0, [.ref w0, .ref w1, .int σ.1.1, .int σ.1.2.1, .int σ.1.2.2.1])), (w0, .inl (cJ, 512, .inr (.inl (σ.1.2.2.2.1)))), (w1, .inl (cJ, 9, .inr (.inl (σ.1.2.2.2.2))))]) [1, 2, 3] (by decide) rfl
        have hKc := hK.sub (tys' := [(cJ, .long)]) [0] rfl
        have hFc := va_free (wc := [(hc, .inr (0, [.ref w0, .ref w1, .int σ.1.1, .int σ.1.2.1, .int σ.1.2.2.1])), (w0, .inl (cJ, 512, .inr (.inl (σ.1.2.2.2.1)))), (w1, .inl (cJ, 9, .inr (.inl (σ.1.2.2.2.2))))]) hD hS hA [1, 2, 3] rfl
        refine kc_l (wr := [(h0, .inr (2, [.ref hc, .ref hs])), (hs, .inr (1, [.int σ.2.1, .int σ.2.2.1, .int σ.2.2.2.1, .int σ.2.2.2.2.1, .int σ.2.2.2.2.2.1, .int σ.2.2.2.2.2.2.1, .int σ.2.2.2.2.2.2.2.1, .int σ.2.2.2.2.2.2.2.2]))]) (kr_V (As := [.int p0]) (rest := []) (b := hc) (ws := [(h0, .inr (2, [.ref hc, .ref hs])), (hc, .inr (0, [.ref w0, .ref w1, .int σ.1.1, .int σ.1.2.1, .int σ.1.2.2.1])), (w0, .inl (cJ, 512, .inr (.inl (σ.1.2.2.2.1)))), (w1, .inl (cJ, 9, .inr (.inl (σ.1.2.2.2.2)))), (hs, .inr (1, [.int σ.2.1, .int σ.2.2.1, .int σ.2.2.2.1, .int σ.2.2.2.2.1, .int σ.2.2.2.2.2.1, .int σ.2.2.2.2.2.2.1, .int σ.2.2.2.2.2.2.2.1, .int σ.2.2.2.2.2.2.2.2]))]) ⟨hx, hb, hml, hown, hts⟩ (c_X0_flowOutOf l dC dI hc w0 w1 cJ σ.1 p0 _ hw H.size) (cwV 1 hts gX3_flow_X0_flowOutOf rfl rfl rfl (by decide +kernel) ⟨Nat.le_of_ble_eq_true rfl, Nat.le_of_ble_eq_true rfl⟩) 0 1 hK rfl rfl rfl hKc hnw hP hD hPc hDc rfl hl.1 rfl (Nat.le_of_ble_eq_true rfl) dX3_flow_44 ⟨Nat.zero_le _, Nat.zero_le _⟩) hP hD hS hFc [1, 2, 3] [0, 4] rfl rfl (by decide) (by decide) (fun r8 u1 H locs hq hP hD hS => ?_)
        obtain ⟨hw, rfl⟩ := hq
        have hP : va_P (dC, dI) vwCl [(h0, .inr (2, [.ref hc, .ref hs])), (hc, .inr (0, [.ref w0, .ref w1, .int σ.1.1, .int σ.1.2.1, .int σ.1.2.2.1])), (w0, .inl (cJ, 512, .inr (.inl (σ.1.2.2.2.1)))), (w1, .inl (cJ, 9, .inr (.inl (σ.1.2.2.2.2)))), (hs, .inr (1, [.int σ.2.1, .int σ.2.2.1, .int σ.2.2.2.1, .int σ.2.2.2.2.1, .int σ.2.2.2.2.2.1, .int σ.2.2.2.2.2.2.1, .int σ.2.2.2.2.2.2.2.1, .int σ.2.2.2.2.2.2.2.2]))] H := hP.sub [0, 2, 3, 4, 1] rfl
        have hD : va_D A [(h0, .inr (2, [.ref hc, .ref hs])), (hc, .inr (0, [.ref w0, .ref w1, .int σ.1.1, .int σ.1.2.1, .int σ.1.2.2.1])), (w0, .inl (cJ, 512, .inr (.inl (σ.1.2.2.2.1)))), (w1, .inl (cJ, 9, .inr (.inl (σ.1.2.2.2.2)))), (hs, .inr (1, [.int σ.2.1, .int σ.2.2.1, .int σ.2.2.2.1, .int σ.2.2.2.2.1, .int σ.2.2.2.2.2.1, .int σ.2.2.2.2.2.2.1, .int σ.2.2.2.2.2.2.2.1, .int σ.2.2.2.2.2.2.2.2]))] := hD.sub [0, 2, 3, 4, 1] (by decide) rfl
        exact W.lret (v := r8) hx hb hr (fun t ht hW => ⟨⟨r8, ((cl3 h0 hc w0 w1 hs cJ σ)), rfl, ⟨hw, rfl⟩, by rw [ht]; exact hP, va_K.moved hW.alike hK, hD⟩, hS.F ht⟩) hS.2.2 dX3_flow_47
      · have hw := hw.2 c7
        refine lv_aload_n hx hb dX3_flow_28 rfl (lv_at hl 0 rfl) ?_
        refine va_get (D := (dC, dI)) (ci := 2) (v := .ref hc) (C := RX3) (T := TX3) (N := 2) hx hb hts hin0 hown hK hP 0 rfl rfl 0 (by decide) fl_10 (fun _ h9 => h9) rfl dX3_flow_29 ?_
        refine lv_iload_n hx hb dX3_flow_32 rfl (lv_at hl 1 rfl) ?_
        have hPc := hP.sub (ws' := [(hc, .inr (0, [.ref w0, .ref w1, .int σ.1.1, .int σ.1.2.1, .int σ.1.2.2.1])), (w0, .inl (cJ, 512, .inr (.inl (σ.1.2.2.2.1)))), (w1, .inl (cJ, 9, .inr (.inl (σ.1.2.2.2.2))))]) [1, 2, 3] rfl
        have hDc := hD.sub (ws' := [(hc, .inr (0, [.ref w0, .ref w1, .int σ.1.1, .int σ.1.2.1, .int σ.1.2.2.1])), (w0, .inl (cJ, 512, .inr (.inl (σ.1.2.2.2.1)))), (w1, .inl (cJ, 9, .inr (.inl (σ.1.2.2.2.2))))]) [1, 2, 3] (by decide) rfl
        have hKc := hK.sub (tys' := [(cJ, .long)]) [0] rfl
        have hFc := va_free (wc := [(hc, .inr (0, [.ref w0, .ref w1, .int σ.1.1, .int σ.1.2.1, .int σ.1.2.2.1])), (w0, .inl (cJ, 512, .inr (.inl (σ.1.2.2.2.1)))), (w1, .inl (cJ, 9, .inr (.inl (σ.1.2.2.2.2))))]) hD hS hA [1, 2, 3] rfl
        refine kc_l (wr := [(h0, .inr (2, [.ref hc, .ref hs])), (hs, .inr (1, [.int σ.2.1, .int σ.2.2.1, .int σ.2.2.2.1, .int σ.2.2.2.2.1, .int σ.2.2.2.2.2.1, .int σ.2.2.2.2.2.2.1, .int σ.2.2.2.2.2.2.2.1, .int σ.2.2.2.2.2.2.2.2]))]) (kr_V (As := [.int p0]) (rest := []) (b := hc) (ws := [(h0, .inr (2, [.ref hc, .ref hs])), (hc, .inr (0, [.ref w0, .ref w1, .int σ.1.1, .int σ.1.2.1, .int σ.1.2.2.1])), (w0, .inl (cJ, 512, .inr (.inl (σ.1.2.2.2.1)))), (w1, .inl (cJ, 9, .inr (.inl (σ.1.2.2.2.2)))), (hs, .inr (1, [.int σ.2.1, .int σ.2.2.1, .int σ.2.2.2.1, .int σ.2.2.2.2.1, .int σ.2.2.2.2.2.1, .int σ.2.2.2.2.2.2.1, .int σ.2.2.2.2.2.2.2.1, .int σ.2.2.2.2.2.2.2.2]))]) ⟨hx, hb, hml, hown, hts⟩ (c_X0_flowInto l dC dI hc w0 w1 cJ σ.1 p0 _ hw H.size) (cwV 1 hts gX3_flow_X0_flowInto rfl rfl rfl (by decide +kernel) ⟨Nat.le_of_ble_eq_true rfl, Nat.le_of_ble_eq_true rfl⟩) 0 1 hK rfl rfl rfl hKc hnw hP hD hPc hDc rfl hl.1 rfl (Nat.le_of_ble_eq_true rfl) dX3_flow_33 ⟨Nat.zero_le _, Nat.zero_le _⟩) hP hD hS hFc [1, 2, 3] [0, 4] rfl rfl (by decide) (by decide) (fun r10 u1 H locs hq hP hD hS => ?_)
        obtain ⟨hw, rfl⟩ := hq
        have hP : va_P (dC, dI) vwCl [(h0, .inr (2, [.ref hc, .ref hs])), (hc, .inr (0, [.ref w0, .ref w1, .int σ.1.1, .int σ.1.2.1, .int σ.1.2.2.1])), (w0, .inl (cJ, 512, .inr (.inl (σ.1.2.2.2.1)))), (w1, .inl (cJ, 9, .inr (.inl (σ.1.2.2.2.2)))), (hs, .inr (1, [.int σ.2.1, .int σ.2.2.1, .int σ.2.2.2.1, .int σ.2.2.2.2.1, .int σ.2.2.2.2.2.1, .int σ.2.2.2.2.2.2.1, .int σ.2.2.2.2.2.2.2.1, .int σ.2.2.2.2.2.2.2.2]))] H := hP.sub [0, 2, 3, 4, 1] rfl
        have hD : va_D A [(h0, .inr (2, [.ref hc, .ref hs])), (hc, .inr (0, [.ref w0, .ref w1, .int σ.1.1, .int σ.1.2.1, .int σ.1.2.2.1])), (w0, .inl (cJ, 512, .inr (.inl (σ.1.2.2.2.1)))), (w1, .inl (cJ, 9, .inr (.inl (σ.1.2.2.2.2)))), (hs, .inr (1, [.int σ.2.1, .int σ.2.2.1, .int σ.2.2.2.1, .int σ.2.2.2.2.1, .int σ.2.2.2.2.2.1, .int σ.2.2.2.2.2.2.1, .int σ.2.2.2.2.2.2.2.1, .int σ.2.2.2.2.2.2.2.2]))] := hD.sub [0, 2, 3, 4, 1] (by decide) rfl
        refine lv_goto (tgt := 47) hx hb dX3_flow_36 (by decide) ?_
        exact W.lret (v := r10) hx hb hr (fun t ht hW => ⟨⟨r10, ((cl3 h0 hc w0 w1 hs cJ σ)), rfl, ⟨hw, rfl⟩, by rw [ht]; exact hP, va_K.moved hW.alike hK, hD⟩, hS.F ht⟩) hS.2.2 dX3_flow_47
    · have hw := hw.2 c6
      refine lv_ldc2 (v := (-1 : Int64)) hx hb hown (hts (.constantLong RX3 43 (-1 : Int64)) (by decide +kernel)) dX3_flow_20 ?_
      exact W.lret (v := (-1 : Int64)) hx hb hr (fun t ht hW => ⟨⟨(-1 : Int64), ((cl3 h0 hc w0 w1 hs cJ σ)), rfl, ⟨hw, rfl⟩, by rw [ht]; exact hP, va_K.moved hW.alike hK, hD⟩, hS.F ht⟩) hS.2.2 dX3_flow_23
set_option maxHeartbeats 4000000 in
set_option maxRecDepth 100000 in
theorem c_X3_extreme (l : Launch) (dC : Nat → ClassId) (dI : Nat → Nat → Nat) (h0 hc w0 w1 hs : Nat) (cJ : ClassId) (σ : SO) (p0 : Int32) (post : Int32 → Prop) (hw : wp_X3_extreme p0 σ post) : KI l yX3_extreme wsX3_extreme ({ frames := 3, cells := 0, slots := 0, locals := 66 } : Room) (dC, dI) [(cJ, .long)] (cl3 h0 hc w0 w1 hs cJ σ) [.ref h0, .int p0] (fun r u => post r ∧ u = (cl3 h0 hc w0 w1 hs cJ σ)) := by
  intro sz
  refine Met.ofW (cc := cX3_extreme) (maxL := 2) (ret := (some .int)) (by decide) rfl ?_
  intro p e s m args below meth c s₁ B hml hv
  obtain ⟨rfl, hsz, hP, hK, hD0, hnw⟩ := hv
  have hx := B.exec
  have hb := B.bytes
  have hr := B.returns
  have hts := atoms_spec (ws := wsX3_extreme) B.pre
  have hown : s.vm.findClass RX3 = some m.cls := findClass_of_methodNamed B.named
  have hlocks := B.notSynchronized
  subst hsz
  have hD := hD0.self (sz := s.heap.size)
  generalize hAe : va_A (cl3 h0 hc w0 w1 hs cJ σ) s.heap.size = A at hD ⊢
  have hA : ∀ q : Nat, s.heap.size ≤ q → A q := fun q h => by rw [← hAe]; exact Or.inr h
  have hS : va_S A s.heap s.heap [] := va_S.rf
  have hP : va_P (dC, dI) vwCl [(h0, .inr (2, [.ref hc, .ref hs])), (hc, .inr (0, [.ref w0, .ref w1, .int σ.1.1, .int σ.1.2.1, .int σ.1.2.2.1])), (w0, .inl (cJ, 512, .inr (.inl (σ.1.2.2.2.1)))), (w1, .inl (cJ, 9, .inr (.inl (σ.1.2.2.2.2)))), (hs, .inr (1, [.int σ.2.1, .int σ.2.2.1, .int σ.2.2.2.1, .int σ.2.2.2.2.1, .int σ.2.2.2.2.2.1, .int σ.2.2.2.2.2.2.1, .int σ.2.2.2.2.2.2.2.1, .int σ.2.2.2.2.2.2.2.2]))] s.heap := hP
  have hD : va_D A [(h0, .inr (2, [.ref hc, .ref hs])), (hc, .inr (0, [.ref w0, .ref w1, .int σ.1.1, .int σ.1.2.1, .int σ.1.2.2.1])), (w0, .inl (cJ, 512, .inr (.inl (σ.1.2.2.2.1)))), (w1, .inl (cJ, 9, .inr (.inl (σ.1.2.2.2.2)))), (hs, .inr (1, [.int σ.2.1, .int σ.2.2.1, .int σ.2.2.2.1, .int σ.2.2.2.2.1, .int σ.2.2.2.2.2.1, .int σ.2.2.2.2.2.2.1, .int σ.2.2.2.2.2.2.2.1, .int σ.2.2.2.2.2.2.2.2]))] := hD
  have fl_10 := hts (.fieldLink RX3 10 "OnePlaceEach" "chain" "LOnePlaceEach$Chain;") (by decide +kernel)
  have hin0 : ∀ w ∈ wsX30, w ∈ wsX3_extreme := by decide +kernel
  have hl := lv_entry ([.ref h0, .int p0]) (n := 2) (Nat.le_of_ble_eq_true rfl)
  rw [lg_entry_eq]
  generalize (lg_sl ([.ref h0, .int p0]) ++ List.replicate (2 - (lg_sl ([.ref h0, .int p0])).length) Slot.unset).toArray = ls at hl ⊢
  have hl : lv_has ls 2 [(0, .ref h0), (1, .int p0)] := hl
  unfold wp_X3_extreme at hw
  skip
  obtain ⟨H, hH⟩ : ∃ H, H = s.heap := ⟨_, rfl⟩
  obtain ⟨locs, hlo⟩ : ∃ q : List Loc, q = [] := ⟨_, rfl⟩
  rw [← hH] at hP
  have hS : va_S A s.heap H locs := by rw [hH, hlo]; exact hS
  suffices hgo : W p l e (headSpec wsX3_extreme ({ frames := 3, cells := 0, slots := 0, locals := 66 } : Room)).room s m _ below meth c H locs 0 0 _ (F0 m 0 ls []) by rw [hH, hlo] at hgo; exact hgo
  refine lv_iload_n hx hb dX3_extreme_0 rfl (lv_at hl 1 rfl) ?_
  refine lv_iconst (v := (0 : Int32)) hx hb dX3_extreme_1 (by decide) ?_
  refine lv_iconst (v := (1 : Int32)) hx hb dX3_extreme_2 (by decide) ?_
  have hPc := hP.sub (ws' := ([] : va_W)) [] rfl
  have hDc := hD.sub (ws' := ([] : va_W)) [] (by decide) rfl
  have hKc := hK.sub (tys' := []) [] rfl
  have hFc := va_free (wc := ([] : va_W)) hD hS hA [] rfl
  refine kc_i (wr := [(h0, .inr (2, [.ref hc, .ref hs])), (hc, .inr (0, [.ref w0, .ref w1, .int σ.1.1, .int σ.1.2.1, .int σ.1.2.2.1])), (w0, .inl (cJ, 512, .inr (.inl (σ.1.2.2.2.1)))), (w1, .inl (cJ, 9, .inr (.inl (σ.1.2.2.2.2)))), (hs, .inr (1, [.int σ.2.1, .int σ.2.2.1, .int σ.2.2.2.1, .int σ.2.2.2.2.1, .int σ.2.2.2.2.2.1, .int σ.2.2.2.2.2.2.1, .int σ.2.2.2.2.2.2.2.1, .int σ.2.2.2.2.2.2.2.2]))]) (kr_S (As := [.int p0, .int (0 : Int32), .int (1 : Int32)]) (rest := []) (ws := [(h0, .inr (2, [.ref hc, .ref hs])), (hc, .inr (0, [.ref w0, .ref w1, .int σ.1.1, .int σ.1.2.1, .int σ.1.2.2.1])), (w0, .inl (cJ, 512, .inr (.inl (σ.1.2.2.2.1)))), (w1, .inl (cJ, 9, .inr (.inl (σ.1.2.2.2.2)))), (hs, .inr (1, [.int σ.2.1, .int σ.2.2.1, .int σ.2.2.2.1, .int σ.2.2.2.2.1, .int σ.2.2.2.2.2.1, .int σ.2.2.2.2.2.2.1, .int σ.2.2.2.2.2.2.2.1, .int σ.2.2.2.2.2.2.2.2]))]) ⟨hx, hb, hml, hown, hts⟩ (c_X3_isWithin l dC dI   p0 (0 : Int32) (1 : Int32) _ hw H.size) (va_cwS 3 hts gX3_extreme_X3_isWithin rfl rfl rfl (by decide +kernel) ⟨Nat.le_of_ble_eq_true rfl, Nat.le_of_ble_eq_true rfl⟩) hKc hnw hP hD hPc hDc rfl hl.1 rfl (Nat.le_of_ble_eq_true rfl) dX3_extreme_3 ⟨Nat.zero_le _, Nat.zero_le _⟩) hP hD hS hFc [] [0, 1, 2, 3, 4] rfl rfl (by decide) (by decide) (fun r1 u1 H locs hq hP hD hS => ?_)
  obtain ⟨hw, rfl⟩ := hq
  have hP : va_P (dC, dI) vwCl [(h0, .inr (2, [.ref hc, .ref hs])), (hc, .inr (0, [.ref w0, .ref w1, .int σ.1.1, .int σ.1.2.1, .int σ.1.2.2.1])), (w0, .inl (cJ, 512, .inr (.inl (σ.1.2.2.2.1)))), (w1, .inl (cJ, 9, .inr (.inl (σ.1.2.2.2.2)))), (hs, .inr (1, [.int σ.2.1, .int σ.2.2.1, .int σ.2.2.2.1, .int σ.2.2.2.2.1, .int σ.2.2.2.2.2.1, .int σ.2.2.2.2.2.2.1, .int σ.2.2.2.2.2.2.2.1, .int σ.2.2.2.2.2.2.2.2]))] H := hP
  have hD : va_D A [(h0, .inr (2, [.ref hc, .ref hs])), (hc, .inr (0, [.ref w0, .ref w1, .int σ.1.1, .int σ.1.2.1, .int σ.1.2.2.1])), (w0, .inl (cJ, 512, .inr (.inl (σ.1.2.2.2.1)))), (w1, .inl (cJ, 9, .inr (.inl (σ.1.2.2.2.2)))), (hs, .inr (1, [.int σ.2.1, .int σ.2.2.1, .int σ.2.2.2.1, .int σ.2.2.2.2.1, .int σ.2.2.2.2.2.1, .int σ.2.2.2.2.2.2.1, .int σ.2.2.2.2.2.2.2.1, .int σ.2.2.2.2.2.2.2.2]))] := hD
  refine lv_if_ne (tgt := 11) hx hb dX3_extreme_6 (by decide) (fun c3 => ?_) (fun c3 => ?_)
  · have hw := hw.1 c3
    refine lv_iload_n hx hb dX3_extreme_11 rfl (lv_at hl 1 rfl) ?_
    refine lv_if_ne (tgt := 25) hx hb dX3_extreme_12 (by decide) (fun c4 => ?_) (fun c4 => ?_)
    · have hw := hw.1 c4
      refine lv_aload_n hx hb dX3_extreme_25 rfl (lv_at hl 0 rfl) ?_
      refine va_get (D := (dC, dI)) (ci := 2) (v := .ref hc) (C := RX3) (T := TX3) (N := 2) hx hb hts hin0 hown hK hP 0 rfl rfl 0 (by decide) fl_10 (fun _ h9 => h9) rfl dX3_extreme_26 ?_
      have hPc := hP.sub (ws' := [(hc, .inr (0, [.ref w0, .ref w1, .int σ.1.1, .int σ.1.2.1, .int σ.1.2.2.1])), (w0, .inl (cJ, 512, .inr (.inl (σ.1.2.2.2.1)))), (w1, .inl (cJ, 9, .inr (.inl (σ.1.2.2.2.2))))]) [1, 2, 3] rfl
      have hDc := hD.sub (ws' := [(hc, .inr (0, [.ref w0, .ref w1, .int σ.1.1, .int σ.1.2.1, .int σ.1.2.2.1])), (w0, .inl (cJ, 512, .inr (.inl (σ.1.2.2.2.1)))), (w1, .inl (cJ, 9, .inr (.inl (σ.1.2.2.2.2))))]) [1, 2, 3] (by decide) rfl
      have hKc := hK.sub (tys' := [(cJ, .long)]) [0] rfl
      have hFc := va_free (wc := [(hc, .inr (0, [.ref w0, .ref w1, .int σ.1.1, .int σ.1.2.1, .int σ.1.2.2.1])), (w0, .inl (cJ, 512, .inr (.inl (σ.1.2.2.2.1)))), (w1, .inl (cJ, 9, .inr (.inl (σ.1.2.2.2.2))))]) hD hS hA [1, 2, 3] rfl
      refine kc_i (wr := [(h0, .inr (2, [.ref hc, .ref hs])), (hs, .inr (1, [.int σ.2.1, .int σ.2.2.1, .int σ.2.2.2.1, .int σ.2.2.2.2.1, .int σ.2.2.2.2.2.1, .int σ.2.2.2.2.2.2.1, .int σ.2.2.2.2.2.2.2.1, .int σ.2.2.2.2.2.2.2.2]))]) (kr_V (As := []) (rest := []) (b := hc) (ws := [(h0, .inr (2, [.ref hc, .ref hs])), (hc, .inr (0, [.ref w0, .ref w1, .int σ.1.1, .int σ.1.2.1, .int σ.1.2.2.1])), (w0, .inl (cJ, 512, .inr (.inl (σ.1.2.2.2.1)))), (w1, .inl (cJ, 9, .inr (.inl (σ.1.2.2.2.2)))), (hs, .inr (1, [.int σ.2.1, .int σ.2.2.1, .int σ.2.2.2.1, .int σ.2.2.2.2.1, .int σ.2.2.2.2.2.1, .int σ.2.2.2.2.2.2.1, .int σ.2.2.2.2.2.2.2.1, .int σ.2.2.2.2.2.2.2.2]))]) ⟨hx, hb, hml, hown, hts⟩ (c_X0_lightestState l dC dI hc w0 w1 cJ σ.1  _ hw H.size) (cwV 0 hts gX3_extreme_X0_lightestState rfl rfl rfl (by decide +kernel) ⟨Nat.le_of_ble_eq_true rfl, Nat.le_of_ble_eq_true rfl⟩) 0 1 hK rfl rfl rfl hKc hnw hP hD hPc hDc rfl hl.1 rfl (Nat.le_of_ble_eq_true rfl) dX3_extreme_29 ⟨Nat.zero_le _, Nat.zero_le _⟩) hP hD hS hFc [1, 2, 3] [0, 4] rfl rfl (by decide) (by decide) (fun r5 u1 H locs hq hP hD hS => ?_)
      obtain ⟨hw, rfl⟩ := hq
      have hP : va_P (dC, dI) vwCl [(h0, .inr (2, [.ref hc, .ref hs])), (hc, .inr (0, [.ref w0, .ref w1, .int σ.1.1, .int σ.1.2.1, .int σ.1.2.2.1])), (w0, .inl (cJ, 512, .inr (.inl (σ.1.2.2.2.1)))), (w1, .inl (cJ, 9, .inr (.inl (σ.1.2.2.2.2)))), (hs, .inr (1, [.int σ.2.1, .int σ.2.2.1, .int σ.2.2.2.1, .int σ.2.2.2.2.1, .int σ.2.2.2.2.2.1, .int σ.2.2.2.2.2.2.1, .int σ.2.2.2.2.2.2.2.1, .int σ.2.2.2.2.2.2.2.2]))] H := hP.sub [0, 2, 3, 4, 1] rfl
      have hD : va_D A [(h0, .inr (2, [.ref hc, .ref hs])), (hc, .inr (0, [.ref w0, .ref w1, .int σ.1.1, .int σ.1.2.1, .int σ.1.2.2.1])), (w0, .inl (cJ, 512, .inr (.inl (σ.1.2.2.2.1)))), (w1, .inl (cJ, 9, .inr (.inl (σ.1.2.2.2.2)))), (hs, .inr (1, [.int σ.2.1, .int σ.2.2.1, .int σ.2.2.2.1, .int σ.2.2.2.2.1, .int σ.2.2.2.2.2.1, .int σ.2.2.2.2.2.2.1, .int σ.2.2.2.2.2.2.2.1, .int σ.2.2.2.2.2.2.2.2]))] := hD.sub [0, 2, 3, 4, 1] (by decide) rfl
      exact W.iret (v := r5) hx hb hr (fun t ht hW => ⟨⟨r5, ((cl3 h0 hc w0 w1 hs cJ σ)), rfl, ⟨hw, rfl⟩, by rw [ht]; exact hP, va_K.moved hW.alike hK, hD⟩, hS.F ht⟩) hS.2.2 dX3_extreme_32
    · have hw := hw.2 c4
      refine lv_aload_n hx hb dX3_extreme_15 rfl (lv_at hl 0 rfl) ?_
      refine va_get (D := (dC, dI)) (ci := 2) (v := .ref hc) (C := RX3) (T := TX3) (N := 2) hx hb hts hin0 hown hK hP 0 rfl rfl 0 (by decide) fl_10 (fun _ h9 => h9) rfl dX3_extreme_16 ?_
      have hPc := hP.sub (ws' := [(hc, .inr (0, [.ref w0, .ref w1, .int σ.1.1, .int σ.1.2.1, .int σ.1.2.2.1])), (w0, .inl (cJ, 512, .inr (.inl (σ.1.2.2.2.1)))), (w1, .inl (cJ, 9, .inr (.inl (σ.1.2.2.2.2))))]) [1, 2, 3] rfl
      have hDc := hD.sub (ws' := [(hc, .inr (0, [.ref w0, .ref w1, .int σ.1.1, .int σ.1.2.1, .int σ.1.2.2.1])), (w0, .inl (cJ, 512, .inr (.inl (σ.1.2.2.2.1)))), (w1, .inl (cJ, 9, .inr (.inl (σ.1.2.2.2.2))))]) [1, 2, 3] (by decide) rfl
      have hKc := hK.sub (tys' := [(cJ, .long)]) [0] rfl
      have hFc := va_free (wc := [(hc, .inr (0, [.ref w0, .ref w1, .int σ.1.1, .int σ.1.2.1, .int σ.1.2.2.1])), (w0, .inl (cJ, 512, .inr (.inl (σ.1.2.2.2.1)))), (w1, .inl (cJ, 9, .inr (.inl (σ.1.2.2.2.2))))]) hD hS hA [1, 2, 3] rfl
      refine kc_i (wr := [(h0, .inr (2, [.ref hc, .ref hs])), (hs, .inr (1, [.int σ.2.1, .int σ.2.2.1, .int σ.2.2.2.1, .int σ.2.2.2.2.1, .int σ.2.2.2.2.2.1, .int σ.2.2.2.2.2.2.1, .int σ.2.2.2.2.2.2.2.1, .int σ.2.2.2.2.2.2.2.2]))]) (kr_V (As := []) (rest := []) (b := hc) (ws := [(h0, .inr (2, [.ref hc, .ref hs])), (hc, .inr (0, [.ref w0, .ref w1, .int σ.1.1, .int σ.1.2.1, .int σ.1.2.2.1])), (w0, .inl (cJ, 512, .inr (.inl (σ.1.2.2.2.1)))), (w1, .inl (cJ, 9, .inr (.inl (σ.1.2.2.2.2)))), (hs, .inr (1, [.int σ.2.1, .int σ.2.2.1, .int σ.2.2.2.1, .int σ.2.2.2.2.1, .int σ.2.2.2.2.2.1, .int σ.2.2.2.2.2.2.1, .int σ.2.2.2.2.2.2.2.1, .int σ.2.2.2.2.2.2.2.2]))]) ⟨hx, hb, hml, hown, hts⟩ (c_X0_heaviestState l dC dI hc w0 w1 cJ σ.1  _ hw H.size) (cwV 0 hts gX3_extreme_X0_heaviestState rfl rfl rfl (by decide +kernel) ⟨Nat.le_of_ble_eq_true rfl, Nat.le_of_ble_eq_true rfl⟩) 0 1 hK rfl rfl rfl hKc hnw hP hD hPc hDc rfl hl.1 rfl (Nat.le_of_ble_eq_true rfl) dX3_extreme_19 ⟨Nat.zero_le _, Nat.zero_le _⟩) hP hD hS hFc [1, 2, 3] [0, 4] rfl rfl (by decide) (by decide) (fun r7 u1 H locs hq hP hD hS => ?_)
      obtain ⟨hw, rfl⟩ := hq
      have hP : va_P (dC, dI) vwCl [(h0, .inr (2, [.ref hc, .ref hs])), (hc, .inr (0, [.ref w0, .ref w1, .int σ.1.1, .int σ.1.2.1, .int σ.1.2.2.1])), (w0, .inl (cJ, 512, .inr (.inl (σ.1.2.2.2.1)))), (w1, .inl (cJ, 9, .inr (.inl (σ.1.2.2.2.2)))), (hs, .inr (1, [.int σ.2.1, .int σ.2.2.1, .int σ.2.2.2.1, .int σ.2.2.2.2.1, .int σ.2.2.2.2.2.1, .int σ.2.2.2.2.2.2.1, .int σ.2.2.2.2.2.2.2.1, .int σ.2.2.2.2.2.2.2.2]))] H := hP.sub [0, 2, 3, 4, 1] rfl
      have hD : va_D A [(h0, .inr (2, [.ref hc, .ref hs])), (hc, .inr (0, [.ref w0, .ref w1, .int σ.1.1, .int σ.1.2.1, .int σ.1.2.2.1])), (w0, .inl (cJ, 512, .inr (.inl (σ.1.2.2.2.1)))), (w1, .inl (cJ, 9, .inr (.inl (σ.1.2.2.2.2)))), (hs, .inr (1, [.int σ.2.1, .int σ.2.2.1, .int σ.2.2.2.1, .int σ.2.2.2.2.1, .int σ.2.2.2.2.2.1, .int σ.2.2.2.2.2.2.1, .int σ.2.2.2.2.2.2.2.1, .int σ.2.2.2.2.2.2.2.2]))] := hD.sub [0, 2, 3, 4, 1] (by decide) rfl
      refine lv_goto (tgt := 32) hx hb dX3_extreme_22 (by decide) ?_
      exact W.iret (v := r7) hx hb hr (fun t ht hW => ⟨⟨r7, ((cl3 h0 hc w0 w1 hs cJ σ)), rfl, ⟨hw, rfl⟩, by rw [ht]; exact hP, va_K.moved hW.alike hK, hD⟩, hS.F ht⟩) hS.2.2 dX3_extreme_32
  · have hw := hw.2 c3
    refine lv_iconst (v := (-1 : Int32)) hx hb dX3_extreme_9 (by decide) ?_
    exact W.iret (v := (-1 : Int32)) hx hb hr (fun t ht hW => ⟨⟨(-1 : Int32), ((cl3 h0 hc w0 w1 hs cJ σ)), rfl, ⟨hw, rfl⟩, by rw [ht]; exact hP, va_K.moved hW.alike hK, hD⟩, hS.F ht⟩) hS.2.2 dX3_extreme_10
set_option maxHeartbeats 4000000 in
set_option maxRecDepth 100000 in
theorem c_X3_queue (l : Launch) (dC : Nat → ClassId) (dI : Nat → Nat → Nat) (h0 hc w0 w1 hs : Nat) (cJ : ClassId) (σ : SO) (p0 : Int32) (p1 : Int32) (p2 : Int32) (post : Int32 → Prop) (hw : wp_X3_queue p0 p1 p2 σ post) : KI l yX3_queue wsX3_queue ({ frames := 3, cells := 0, slots := 0, locals := 69 } : Room) (dC, dI) [(cJ, .long)] (cl3 h0 hc w0 w1 hs cJ σ) [.ref h0, .int p0, .int p1, .int p2] (fun r u => post r ∧ u = (cl3 h0 hc w0 w1 hs cJ σ)) := by
  intro sz
  refine Met.ofW (cc := cX3_queue) (maxL := 4) (ret := (some .int)) (by decide) rfl ?_
  intro p e s m args below meth c s₁ B hml hv
  obtain ⟨rfl, hsz, hP, hK, hD0, hnw⟩ := hv
  have hx := B.exec
  have hb := B.bytes
  have hr := B.returns
  have hts := atoms_spec (ws := wsX3_queue) B.pre
  have hown : s.vm.findClass RX3 = some m.cls := findClass_of_methodNamed B.named
  have hlocks := B.notSynchronized
  subst hsz
  have hD := hD0.self (sz := s.heap.size)
  generalize hAe : va_A (cl3 h0 hc w0 w1 hs cJ σ) s.heap.size = A at hD ⊢
  have hA : ∀ q : Nat, s.heap.size ≤ q → A q := fun q h => by rw [← hAe]; exact Or.inr h
  have hS : va_S A s.heap s.heap [] := va_S.rf
  have hP : va_P (dC, dI) vwCl [(h0, .inr (2, [.ref hc, .ref hs])), (hc, .inr (0, [.ref w0, .ref w1, .int σ.1.1, .int σ.1.2.1, .int σ.1.2.2.1])), (w0, .inl (cJ, 512, .inr (.inl (σ.1.2.2.2.1)))), (w1, .inl (cJ, 9, .inr (.inl (σ.1.2.2.2.2)))), (hs, .inr (1, [.int σ.2.1, .int σ.2.2.1, .int σ.2.2.2.1, .int σ.2.2.2.2.1, .int σ.2.2.2.2.2.1, .int σ.2.2.2.2.2.2.1, .int σ.2.2.2.2.2.2.2.1, .int σ.2.2.2.2.2.2.2.2]))] s.heap := hP
  have hD : va_D A [(h0, .inr (2, [.ref hc, .ref hs])), (hc, .inr (0, [.ref w0, .ref w1, .int σ.1.1, .int σ.1.2.1, .int σ.1.2.2.1])), (w0, .inl (cJ, 512, .inr (.inl (σ.1.2.2.2.1)))), (w1, .inl (cJ, 9, .inr (.inl (σ.1.2.2.2.2)))), (hs, .inr (1, [.int σ.2.1, .int σ.2.2.1, .int σ.2.2.2.1, .int σ.2.2.2.2.1, .int σ.2.2.2.2.2.1, .int σ.2.2.2.2.2.2.1, .int σ.2.2.2.2.2.2.2.1, .int σ.2.2.2.2.2.2.2.2]))] := hD
  have hl := lv_entry ([.ref h0, .int p0, .int p1, .int p2]) (n := 4) (Nat.le_of_ble_eq_true rfl)
  rw [lg_entry_eq]
  generalize (lg_sl ([.ref h0, .int p0, .int p1, .int p2]) ++ List.replicate (4 - (lg_sl ([.ref h0, .int p0, .int p1, .int p2])).length) Slot.unset).toArray = ls at hl ⊢
  have hl : lv_has ls 4 [(0, .ref h0), (1, .int p0), (2, .int p1), (3, .int p2)] := hl
  unfold wp_X3_queue at hw
  skip
  obtain ⟨H, hH⟩ : ∃ H, H = s.heap := ⟨_, rfl⟩
  obtain ⟨locs, hlo⟩ : ∃ q : List Loc, q = [] := ⟨_, rfl⟩
  rw [← hH] at hP
  have hS : va_S A s.heap H locs := by rw [hH, hlo]; exact hS
  suffices hgo : W p l e (headSpec wsX3_queue ({ frames := 3, cells := 0, slots := 0, locals := 69 } : Room)).room s m _ below meth c H locs 0 0 _ (F0 m 0 ls []) by rw [hH, hlo] at hgo; exact hgo
  refine lv_iload_n hx hb dX3_queue_0 rfl (lv_at hl 1 rfl) ?_
  refine lv_iconst (v := (3 : Int32)) hx hb dX3_queue_1 (by decide) ?_
  refine lv_bipush (v := (8 : Int32)) hx hb dX3_queue_2 (by decide) ?_
  have hPc := hP.sub (ws' := ([] : va_W)) [] rfl
  have hDc := hD.sub (ws' := ([] : va_W)) [] (by decide) rfl
  have hKc := hK.sub (tys' := []) [] rfl
  have hFc := va_free (wc := ([] : va_W)) hD hS hA [] rfl
  refine kc_i (wr := [(h0, .inr (2, [.ref hc, .ref hs])), (hc, .inr (0, [.ref w0, .ref w1, .int σ.1.1, .int σ.1.2.1, .int σ.1.2.2.1])), (w0, .inl (cJ, 512, .inr (.inl (σ.1.2.2.2.1)))), (w1, .inl (cJ, 9, .inr (.inl (σ.1.2.2.2.2)))), (hs, .inr (1, [.int σ.2.1, .int σ.2.2.1, .int σ.2.2.2.1, .int σ.2.2.2.2.1, .int σ.2.2.2.2.2.1, .int σ.2.2.2.2.2.2.1, .int σ.2.2.2.2.2.2.2.1, .int σ.2.2.2.2.2.2.2.2]))]) (kr_S (As := [.int p0, .int (3 : Int32), .int (8 : Int32)]) (rest := []) (ws := [(h0, .inr (2, [.ref hc, .ref hs])), (hc, .inr (0, [.ref w0, .ref w1, .int σ.1.1, .int σ.1.2.1, .int σ.1.2.2.1])), (w0, .inl (cJ, 512, .inr (.inl (σ.1.2.2.2.1)))), (w1, .inl (cJ, 9, .inr (.inl (σ.1.2.2.2.2)))), (hs, .inr (1, [.int σ.2.1, .int σ.2.2.1, .int σ.2.2.2.1, .int σ.2.2.2.2.1, .int σ.2.2.2.2.2.1, .int σ.2.2.2.2.2.2.1, .int σ.2.2.2.2.2.2.2.1, .int σ.2.2.2.2.2.2.2.2]))]) ⟨hx, hb, hml, hown, hts⟩ (c_X3_isWithin l dC dI   p0 (3 : Int32) (8 : Int32) _ hw H.size) (va_cwS 3 hts gX3_queue_X3_isWithin rfl rfl rfl (by decide +kernel) ⟨Nat.le_of_ble_eq_true rfl, Nat.le_of_ble_eq_true rfl⟩) hKc hnw hP hD hPc hDc rfl hl.1 rfl (Nat.le_of_ble_eq_true rfl) dX3_queue_4 ⟨Nat.zero_le _, Nat.zero_le _⟩) hP hD hS hFc [] [0, 1, 2, 3, 4] rfl rfl (by decide) (by decide) (fun r1 u1 H locs hq hP hD hS => ?_)
  obtain ⟨hw, rfl⟩ := hq
  have hP : va_P (dC, dI) vwCl [(h0, .inr (2, [.ref hc, .ref hs])), (hc, .inr (0, [.ref w0, .ref w1, .int σ.1.1, .int σ.1.2.1, .int σ.1.2.2.1])), (w0, .inl (cJ, 512, .inr (.inl (σ.1.2.2.2.1)))), (w1, .inl (cJ, 9, .inr (.inl (σ.1.2.2.2.2)))), (hs, .inr (1, [.int σ.2.1, .int σ.2.2.1, .int σ.2.2.2.1, .int σ.2.2.2.2.1, .int σ.2.2.2.2.2.1, .int σ.2.2.2.2.2.2.1, .int σ.2.2.2.2.2.2.2.1, .int σ.2.2.2.2.2.2.2.2]))] H := hP
  have hD : va_D A [(h0, .inr (2, [.ref hc, .ref hs])), (hc, .inr (0, [.ref w0, .ref w1, .int σ.1.1, .int σ.1.2.1, .int σ.1.2.2.1])), (w0, .inl (cJ, 512, .inr (.inl (σ.1.2.2.2.1)))), (w1, .inl (cJ, 9, .inr (.inl (σ.1.2.2.2.2)))), (hs, .inr (1, [.int σ.2.1, .int σ.2.2.1, .int σ.2.2.2.1, .int σ.2.2.2.2.1, .int σ.2.2.2.2.2.1, .int σ.2.2.2.2.2.2.1, .int σ.2.2.2.2.2.2.2.1, .int σ.2.2.2.2.2.2.2.2]))] := hD
  refine lv_if_eq (tgt := 19) hx hb dX3_queue_7 (by decide) (fun c3 => ?_) (fun c3 => ?_)
  · have hw := hw.1 c3
    refine lv_iconst (v := (-1 : Int32)) hx hb dX3_queue_19 (by decide) ?_
    exact W.iret (v := (-1 : Int32)) hx hb hr (fun t ht hW => ⟨⟨(-1 : Int32), ((cl3 h0 hc w0 w1 hs cJ σ)), rfl, ⟨hw, rfl⟩, by rw [ht]; exact hP, va_K.moved hW.alike hK, hD⟩, hS.F ht⟩) hS.2.2 dX3_queue_20
  · have hw := hw.2 c3
    refine lv_iload_n hx hb dX3_queue_10 rfl (lv_at hl 1 rfl) ?_
    refine lv_iload_n hx hb dX3_queue_11 rfl (lv_at hl 2 rfl) ?_
    refine lv_iload_n hx hb dX3_queue_12 rfl (lv_at hl 3 rfl) ?_
    have hPc := hP.sub (ws' := ([] : va_W)) [] rfl
    have hDc := hD.sub (ws' := ([] : va_W)) [] (by decide) rfl
    have hKc := hK.sub (tys' := []) [] rfl
    have hFc := va_free (wc := ([] : va_W)) hD hS hA [] rfl
    refine kc_i (wr := [(h0, .inr (2, [.ref hc, .ref hs])), (hc, .inr (0, [.ref w0, .ref w1, .int σ.1.1, .int σ.1.2.1, .int σ.1.2.2.1])), (w0, .inl (cJ, 512, .inr (.inl (σ.1.2.2.2.1)))), (w1, .inl (cJ, 9, .inr (.inl (σ.1.2.2.2.2)))), (hs, .inr (1, [.int σ.2.1, .int σ.2.2.1, .int σ.2.2.2.1, .int σ.2.2.2.2.1, .int σ.2.2.2.2.2.1, .int σ.2.2.2.2.2.2.1, .int σ.2.2.2.2.2.2.2.1, .int σ.2.2.2.2.2.2.2.2]))]) (kr_S (As := [.int p0, .int p1, .int p2]) (rest := []) (ws := [(h0, .inr (2, [.ref hc, .ref hs])), (hc, .inr (0, [.ref w0, .ref w1, .int σ.1.1, .int σ.1.2.1, .int σ.1.2.2.1])), (w0, .inl (cJ, 512, .inr (.inl (σ.1.2.2.2.1)))), (w1, .inl (cJ, 9, .inr (.inl (σ.1.2.2.2.2)))), (hs, .inr (1, [.int σ.2.1, .int σ.2.2.1, .int σ.2.2.2.1, .int σ.2.2.2.2.1, .int σ.2.2.2.2.2.1, .int σ.2.2.2.2.2.2.1, .int σ.2.2.2.2.2.2.2.1, .int σ.2.2.2.2.2.2.2.2]))]) ⟨hx, hb, hml, hown, hts⟩ (c_X1_areRows l dC dI   p0 p1 p2 _ hw H.size) (va_cwS 3 hts gX3_queue_X1_areRows rfl rfl rfl (by decide +kernel) ⟨Nat.le_of_ble_eq_true rfl, Nat.le_of_ble_eq_true rfl⟩) hKc hnw hP hD hPc hDc rfl hl.1 rfl (Nat.le_of_ble_eq_true rfl) dX3_queue_13 ⟨Nat.zero_le _, Nat.zero_le _⟩) hP hD hS hFc [] [0, 1, 2, 3, 4] rfl rfl (by decide) (by decide) (fun r4 u1 H locs hq hP hD hS => ?_)
    obtain ⟨hw, rfl⟩ := hq
    have hP : va_P (dC, dI) vwCl [(h0, .inr (2, [.ref hc, .ref hs])), (hc, .inr (0, [.ref w0, .ref w1, .int σ.1.1, .int σ.1.2.1, .int σ.1.2.2.1])), (w0, .inl (cJ, 512, .inr (.inl (σ.1.2.2.2.1)))), (w1, .inl (cJ, 9, .inr (.inl (σ.1.2.2.2.2)))), (hs, .inr (1, [.int σ.2.1, .int σ.2.2.1, .int σ.2.2.2.1, .int σ.2.2.2.2.1, .int σ.2.2.2.2.2.1, .int σ.2.2.2.2.2.2.1, .int σ.2.2.2.2.2.2.2.1, .int σ.2.2.2.2.2.2.2.2]))] H := hP
    have hD : va_D A [(h0, .inr (2, [.ref hc, .ref hs])), (hc, .inr (0, [.ref w0, .ref w1, .int σ.1.1, .int σ.1.2.1, .int σ.1.2.2.1])), (w0, .inl (cJ, 512, .inr (.inl (σ.1.2.2.2.1)))), (w1, .inl (cJ, 9, .inr (.inl (σ.1.2.2.2.2)))), (hs, .inr (1, [.int σ.2.1, .int σ.2.2.1, .int σ.2.2.2.1, .int σ.2.2.2.2.1, .int σ.2.2.2.2.2.1, .int σ.2.2.2.2.2.2.1, .int σ.2.2.2.2.2.2.2.1, .int σ.2.2.2.2.2.2.2.2]))] := hD
    refine lv_if_ne (tgt := 21) hx hb dX3_queue_16 (by decide) (fun c6 => ?_) (fun c6 => ?_)
    · have hw := hw.1 c6
      refine lv_iload_n hx hb dX3_queue_21 rfl (lv_at hl 1 rfl) ?_
      refine lv_iload_n hx hb dX3_queue_22 rfl (lv_at hl 1 rfl) ?_
      refine lv_iload_n hx hb dX3_queue_23 rfl (lv_at hl 2 rfl) ?_
      refine lv_iload_n hx hb dX3_queue_24 rfl (lv_at hl 3 rfl) ?_
      have hPc := hP.sub (ws' := ([] : va_W)) [] rfl
      have hDc := hD.sub (ws' := ([] : va_W)) [] (by decide) rfl
      have hKc := hK.sub (tys' := []) [] rfl
      have hFc := va_free (wc := ([] : va_W)) hD hS hA [] rfl
      refine kc_i (wr := [(h0, .inr (2, [.ref hc, .ref hs])), (hc, .inr (0, [.ref w0, .ref w1, .int σ.1.1, .int σ.1.2.1, .int σ.1.2.2.1])), (w0, .inl (cJ, 512, .inr (.inl (σ.1.2.2.2.1)))), (w1, .inl (cJ, 9, .inr (.inl (σ.1.2.2.2.2)))), (hs, .inr (1, [.int σ.2.1, .int σ.2.2.1, .int σ.2.2.2.1, .int σ.2.2.2.2.1, .int σ.2.2.2.2.2.1, .int σ.2.2.2.2.2.2.1, .int σ.2.2.2.2.2.2.2.1, .int σ.2.2.2.2.2.2.2.2]))]) (kr_S (As := [.int p0, .int p1, .int p2]) (rest := [.int p0]) (ws := [(h0, .inr (2, [.ref hc, .ref hs])), (hc, .inr (0, [.ref w0, .ref w1, .int σ.1.1, .int σ.1.2.1, .int σ.1.2.2.1])), (w0, .inl (cJ, 512, .inr (.inl (σ.1.2.2.2.1)))), (w1, .inl (cJ, 9, .inr (.inl (σ.1.2.2.2.2)))), (hs, .inr (1, [.int σ.2.1, .int σ.2.2.1, .int σ.2.2.2.1, .int σ.2.2.2.2.1, .int σ.2.2.2.2.2.1, .int σ.2.2.2.2.2.2.1, .int σ.2.2.2.2.2.2.2.1, .int σ.2.2.2.2.2.2.2.2]))]) ⟨hx, hb, hml, hown, hts⟩ (c_X1_servedPlaces l dC dI   p0 p1 p2 _ hw H.size) (va_cwS 3 hts gX3_queue_X1_servedPlaces rfl rfl rfl (by decide +kernel) ⟨Nat.le_of_ble_eq_true rfl, Nat.le_of_ble_eq_true rfl⟩) hKc hnw hP hD hPc hDc rfl hl.1 rfl (Nat.le_of_ble_eq_true rfl) dX3_queue_25 ⟨Nat.zero_le _, Nat.zero_le _⟩) hP hD hS hFc [] [0, 1, 2, 3, 4] rfl rfl (by decide) (by decide) (fun r7 u1 H locs hq hP hD hS => ?_)
      obtain ⟨hw, rfl⟩ := hq
      have hP : va_P (dC, dI) vwCl [(h0, .inr (2, [.ref hc, .ref hs])), (hc, .inr (0, [.ref w0, .ref w1, .int σ.1.1, .int σ.1.2.1, .int σ.1.2.2.1])), (w0, .inl (cJ, 512, .inr (.inl (σ.1.2.2.2.1)))), (w1, .inl (cJ, 9, .inr (.inl (σ.1.2.2.2.2)))), (hs, .inr (1, [.int σ.2.1, .int σ.2.2.1, .int σ.2.2.2.1, .int σ.2.2.2.2.1, .int σ.2.2.2.2.2.1, .int σ.2.2.2.2.2.2.1, .int σ.2.2.2.2.2.2.2.1, .int σ.2.2.2.2.2.2.2.2]))] H := hP
      have hD : va_D A [(h0, .inr (2, [.ref hc, .ref hs])), (hc, .inr (0, [.ref w0, .ref w1, .int σ.1.1, .int σ.1.2.1, .int σ.1.2.2.1])), (w0, .inl (cJ, 512, .inr (.inl (σ.1.2.2.2.1)))), (w1, .inl (cJ, 9, .inr (.inl (σ.1.2.2.2.2)))), (hs, .inr (1, [.int σ.2.1, .int σ.2.2.1, .int σ.2.2.2.1, .int σ.2.2.2.2.1, .int σ.2.2.2.2.2.1, .int σ.2.2.2.2.2.2.1, .int σ.2.2.2.2.2.2.2.1, .int σ.2.2.2.2.2.2.2.2]))] := hD
      refine lv_iload_n hx hb dX3_queue_28 rfl (lv_at hl 3 rfl) ?_
      have hPc := hP.sub (ws' := ([] : va_W)) [] rfl
      have hDc := hD.sub (ws' := ([] : va_W)) [] (by decide) rfl
      have hKc := hK.sub (tys' := []) [] rfl
      have hFc := va_free (wc := ([] : va_W)) hD hS hA [] rfl
      refine kc_i (wr := [(h0, .inr (2, [.ref hc, .ref hs])), (hc, .inr (0, [.ref w0, .ref w1, .int σ.1.1, .int σ.1.2.1, .int σ.1.2.2.1])), (w0, .inl (cJ, 512, .inr (.inl (σ.1.2.2.2.1)))), (w1, .inl (cJ, 9, .inr (.inl (σ.1.2.2.2.2)))), (hs, .inr (1, [.int σ.2.1, .int σ.2.2.1, .int σ.2.2.2.1, .int σ.2.2.2.2.1, .int σ.2.2.2.2.2.1, .int σ.2.2.2.2.2.2.1, .int σ.2.2.2.2.2.2.2.1, .int σ.2.2.2.2.2.2.2.2]))]) (kr_S (As := [.int p0, .int r7, .int p2]) (rest := []) (ws := [(h0, .inr (2, [.ref hc, .ref hs])), (hc, .inr (0, [.ref w0, .ref w1, .int σ.1.1, .int σ.1.2.1, .int σ.1.2.2.1])), (w0, .inl (cJ, 512, .inr (.inl (σ.1.2.2.2.1)))), (w1, .inl (cJ, 9, .inr (.inl (σ.1.2.2.2.2)))), (hs, .inr (1, [.int σ.2.1, .int σ.2.2.1, .int σ.2.2.2.1, .int σ.2.2.2.2.1, .int σ.2.2.2.2.2.1, .int σ.2.2.2.2.2.2.1, .int σ.2.2.2.2.2.2.2.1, .int σ.2.2.2.2.2.2.2.2]))]) ⟨hx, hb, hml, hown, hts⟩ (c_X1_numberOf l dC dI   p0 r7 p2 _ hw H.size) (va_cwS 3 hts gX3_queue_X1_numberOf rfl rfl rfl (by decide +kernel) ⟨Nat.le_of_ble_eq_true rfl, Nat.le_of_ble_eq_true rfl⟩) hKc hnw hP hD hPc hDc rfl hl.1 rfl (Nat.le_of_ble_eq_true rfl) dX3_queue_29 ⟨Nat.zero_le _, Nat.zero_le _⟩) hP hD hS hFc [] [0, 1, 2, 3, 4] rfl rfl (by decide) (by decide) (fun r9 u1 H locs hq hP hD hS => ?_)
      obtain ⟨hw, rfl⟩ := hq
      have hP : va_P (dC, dI) vwCl [(h0, .inr (2, [.ref hc, .ref hs])), (hc, .inr (0, [.ref w0, .ref w1, .int σ.1.1, .int σ.1.2.1, .int σ.1.2.2.1])), (w0, .inl (cJ, 512, .inr (.inl (σ.1.2.2.2.1)))), (w1, .inl (cJ, 9, .inr (.inl (σ.1.2.2.2.2)))), (hs, .inr (1, [.int σ.2.1, .int σ.2.2.1, .int σ.2.2.2.1, .int σ.2.2.2.2.1, .int σ.2.2.2.2.2.1, .int σ.2.2.2.2.2.2.1, .int σ.2.2.2.2.2.2.2.1, .int σ.2.2.2.2.2.2.2.2]))] H := hP
      have hD : va_D A [(h0, .inr (2, [.ref hc, .ref hs])), (hc, .inr (0, [.ref w0, .ref w1, .int σ.1.1, .int σ.1.2.1, .int σ.1.2.2.1])), (w0, .inl (cJ, 512, .inr (.inl (σ.1.2.2.2.1)))), (w1, .inl (cJ, 9, .inr (.inl (σ.1.2.2.2.2)))), (hs, .inr (1, [.int σ.2.1, .int σ.2.2.1, .int σ.2.2.2.1, .int σ.2.2.2.2.1, .int σ.2.2.2.2.2.1, .int σ.2.2.2.2.2.2.1, .int σ.2.2.2.2.2.2.2.1, .int σ.2.2.2.2.2.2.2.2]))] := hD
      exact W.iret (v := r9) hx hb hr (fun t ht hW => ⟨⟨r9, ((cl3 h0 hc w0 w1 hs cJ σ)), rfl, ⟨hw, rfl⟩, by rw [ht]; exact hP, va_K.moved hW.alike hK, hD⟩, hS.F ht⟩) hS.2.2 dX3_queue_32
    · have hw := hw.2 c6
      refine lv_iconst (v := (-1 : Int32)) hx hb dX3_queue_19 (by decide) ?_
      exact W.iret (v := (-1 : Int32)) hx hb hr (fun t ht hW => ⟨⟨(-1 : Int32), ((cl3 h0 hc w0 w1 hs cJ σ)), rfl, ⟨hw, rfl⟩, by rw [ht]; exact hP, va_K.moved hW.alike hK, hD⟩, hS.F ht⟩) hS.2.2 dX3_queue_20
set_option maxHeartbeats 4000000 in
set_option maxRecDepth 100000 in
theorem c_X3_ways (l : Launch) (dC : Nat → ClassId) (dI : Nat → Nat → Nat) (h0 hc w0 w1 hs : Nat) (cJ : ClassId) (σ : SO) (p0 : Int32) (p1 : Int32) (post : Int32 → Prop) (hw : wp_X3_ways p0 p1 σ post) : KI l yX3_ways wsX3_ways ({ frames := 4, cells := 0, slots := 0, locals := 93 } : Room) (dC, dI) [(cJ, .long)] (cl3 h0 hc w0 w1 hs cJ σ) [.ref h0, .int p0, .int p1] (fun r u => post r ∧ u = (cl3 h0 hc w0 w1 hs cJ σ)) := by
  intro sz
  refine Met.ofW (cc := cX3_ways) (maxL := 6) (ret := (some .int)) (by decide) rfl ?_
  intro p e s m args below meth c s₁ B hml hv
  obtain ⟨rfl, hsz, hP, hK, hD0, hnw⟩ := hv
  have hx := B.exec
  have hb := B.bytes
  have hr := B.returns
  have hts := atoms_spec (ws := wsX3_ways) B.pre
  have hown : s.vm.findClass RX3 = some m.cls := findClass_of_methodNamed B.named
  have hlocks := B.notSynchronized
  subst hsz
  have hD := hD0.self (sz := s.heap.size)
  generalize hAe : va_A (cl3 h0 hc w0 w1 hs cJ σ) s.heap.size = A at hD ⊢
  have hA : ∀ q : Nat, s.heap.size ≤ q → A q := fun q h => by rw [← hAe]; exact Or.inr h
  have hS : va_S A s.heap s.heap [] := va_S.rf
  have hP : va_P (dC, dI) vwCl [(h0, .inr (2, [.ref hc, .ref hs])), (hc, .inr (0, [.ref w0, .ref w1, .int σ.1.1, .int σ.1.2.1, .int σ.1.2.2.1])), (w0, .inl (cJ, 512, .inr (.inl (σ.1.2.2.2.1)))), (w1, .inl (cJ, 9, .inr (.inl (σ.1.2.2.2.2)))), (hs, .inr (1, [.int σ.2.1, .int σ.2.2.1, .int σ.2.2.2.1, .int σ.2.2.2.2.1, .int σ.2.2.2.2.2.1, .int σ.2.2.2.2.2.2.1, .int σ.2.2.2.2.2.2.2.1, .int σ.2.2.2.2.2.2.2.2]))] s.heap := hP
  have hD : va_D A [(h0, .inr (2, [.ref hc, .ref hs])), (hc, .inr (0, [.ref w0, .ref w1, .int σ.1.1, .int σ.1.2.1, .int σ.1.2.2.1])), (w0, .inl (cJ, 512, .inr (.inl (σ.1.2.2.2.1)))), (w1, .inl (cJ, 9, .inr (.inl (σ.1.2.2.2.2)))), (hs, .inr (1, [.int σ.2.1, .int σ.2.2.1, .int σ.2.2.2.1, .int σ.2.2.2.2.1, .int σ.2.2.2.2.2.1, .int σ.2.2.2.2.2.2.1, .int σ.2.2.2.2.2.2.2.1, .int σ.2.2.2.2.2.2.2.2]))] := hD
  have hl := lv_entry ([.ref h0, .int p0, .int p1]) (n := 6) (Nat.le_of_ble_eq_true rfl)
  rw [lg_entry_eq]
  generalize (lg_sl ([.ref h0, .int p0, .int p1]) ++ List.replicate (6 - (lg_sl ([.ref h0, .int p0, .int p1])).length) Slot.unset).toArray = ls at hl ⊢
  have hl : lv_has ls 6 [(0, .ref h0), (1, .int p0), (2, .int p1)] := hl
  unfold wp_X3_ways at hw
  skip
  obtain ⟨H, hH⟩ : ∃ H, H = s.heap := ⟨_, rfl⟩
  obtain ⟨locs, hlo⟩ : ∃ q : List Loc, q = [] := ⟨_, rfl⟩
  rw [← hH] at hP
  have hS : va_S A s.heap H locs := by rw [hH, hlo]; exact hS
  suffices hgo : W p l e (headSpec wsX3_ways ({ frames := 4, cells := 0, slots := 0, locals := 93 } : Room)).room s m _ below meth c H locs 0 0 _ (F0 m 0 ls []) by rw [hH, hlo] at hgo; exact hgo
  refine lv_iload_n hx hb dX3_ways_0 rfl (lv_at hl 1 rfl) ?_
  refine lv_iconst (v := (3 : Int32)) hx hb dX3_ways_1 (by decide) ?_
  refine lv_bipush (v := (8 : Int32)) hx hb dX3_ways_2 (by decide) ?_
  have hPc := hP.sub (ws' := ([] : va_W)) [] rfl
  have hDc := hD.sub (ws' := ([] : va_W)) [] (by decide) rfl
  have hKc := hK.sub (tys' := []) [] rfl
  have hFc := va_free (wc := ([] : va_W)) hD hS hA [] rfl
  refine kc_i (wr := [(h0, .inr (2, [.ref hc, .ref hs])), (hc, .inr (0, [.ref w0, .ref w1, .int σ.1.1, .int σ.1.2.1, .int σ.1.2.2.1])), (w0, .inl (cJ, 512, .inr (.inl (σ.1.2.2.2.1)))), (w1, .inl (cJ, 9, .inr (.inl (σ.1.2.2.2.2)))), (hs, .inr (1, [.int σ.2.1, .int σ.2.2.1, .int σ.2.2.2.1, .int σ.2.2.2.2.1, .int σ.2.2.2.2.2.1, .int σ.2.2.2.2.2.2.1, .int σ.2.2.2.2.2.2.2.1, .int σ.2.2.2.2.2.2.2.2]))]) (kr_S (As := [.int p0, .int (3 : Int32), .int (8 : Int32)]) (rest := []) (ws := [(h0, .inr (2, [.ref hc, .ref hs])), (hc, .inr (0, [.ref w0, .ref w1, .int σ.1.1, .int σ.1.2.1, .int σ.1.2.2.1])), (w0, .inl (cJ, 512, .inr (.inl (σ.1.2.2.2.1)))), (w1, .inl (cJ, 9, .inr (.inl (σ.1.2.2.2.2)))), (hs, .inr (1, [.int σ.2.1, .int σ.2.2.1, .int σ.2.2.2.1, .int σ.2.2.2.2.1, .int σ.2.2.2.2.2.1, .int σ.2.2.2.2.2.2.1, .int σ.2.2.2.2.2.2.2.1, .int σ.2.2.2.2.2.2.2.2]))]) ⟨hx, hb, hml, hown, hts⟩ (c_X3_isWithin l dC dI   p0 (3 : Int32) (8 : Int32) _ hw H.size) (va_cwS 3 hts gX3_ways_X3_isWithin rfl rfl rfl (by decide +kernel) ⟨Nat.le_of_ble_eq_true rfl, Nat.le_of_ble_eq_true rfl⟩) hKc hnw hP hD hPc hDc rfl hl.1 rfl (Nat.le_of_ble_eq_true rfl) dX3_ways_4 ⟨Nat.zero_le _, Nat.zero_le _⟩) hP hD hS hFc [] [0, 1, 2, 3, 4] rfl rfl (by decide) (by decide) (fun r1 u1 H locs hq hP hD hS => ?_)
  obtain ⟨hw, rfl⟩ := hq
  have hP : va_P (dC, dI) vwCl [(h0, .inr (2, [.ref hc, .ref hs])), (hc, .inr (0, [.ref w0, .ref w1, .int σ.1.1, .int σ.1.2.1, .int σ.1.2.2.1])), (w0, .inl (cJ, 512, .inr (.inl (σ.1.2.2.2.1)))), (w1, .inl (cJ, 9, .inr (.inl (σ.1.2.2.2.2)))), (hs, .inr (1, [.int σ.2.1, .int σ.2.2.1, .int σ.2.2.2.1, .int σ.2.2.2.2.1, .int σ.2.2.2.2.2.1, .int σ.2.2.2.2.2.2.1, .int σ.2.2.2.2.2.2.2.1, .int σ.2.2.2.2.2.2.2.2]))] H := hP
  have hD : va_D A [(h0, .inr (2, [.ref hc, .ref hs])), (hc, .inr (0, [.ref w0, .ref w1, .int σ.1.1, .int σ.1.2.1, .int σ.1.2.2.1])), (w0, .inl (cJ, 512, .inr (.inl (σ.1.2.2.2.1)))), (w1, .inl (cJ, 9, .inr (.inl (σ.1.2.2.2.2)))), (hs, .inr (1, [.int σ.2.1, .int σ.2.2.1, .int σ.2.2.2.1, .int σ.2.2.2.2.1, .int σ.2.2.2.2.2.1, .int σ.2.2.2.2.2.2.1, .int σ.2.2.2.2.2.2.2.1, .int σ.2.2.2.2.2.2.2.2]))] := hD
  refine lv_if_eq (tgt := 22) hx hb dX3_ways_7 (by decide) (fun c3 => ?_) (fun c3 => ?_)
  · have hw := hw.1 c3
    refine lv_iconst (v := (-1 : Int32)) hx hb dX3_ways_22 (by decide) ?_
    exact W.iret (v := (-1 : Int32)) hx hb hr (fun t ht hW => ⟨⟨(-1 : Int32), ((cl3 h0 hc w0 w1 hs cJ σ)), rfl, ⟨hw, rfl⟩, by rw [ht]; exact hP, va_K.moved hW.alike hK, hD⟩, hS.F ht⟩) hS.2.2 dX3_ways_23
  · have hw := hw.2 c3
    refine lv_iload_n hx hb dX3_ways_10 rfl (lv_at hl 2 rfl) ?_
    refine lv_iconst (v := (0 : Int32)) hx hb dX3_ways_11 (by decide) ?_
    refine lv_iload_n hx hb dX3_ways_12 rfl (lv_at hl 1 rfl) ?_
    have hPc := hP.sub (ws' := ([] : va_W)) [] rfl
    have hDc := hD.sub (ws' := ([] : va_W)) [] (by decide) rfl
    have hKc := hK.sub (tys' := []) [] rfl
    have hFc := va_free (wc := ([] : va_W)) hD hS hA [] rfl
    refine kc_i (wr := [(h0, .inr (2, [.ref hc, .ref hs])), (hc, .inr (0, [.ref w0, .ref w1, .int σ.1.1, .int σ.1.2.1, .int σ.1.2.2.1])), (w0, .inl (cJ, 512, .inr (.inl (σ.1.2.2.2.1)))), (w1, .inl (cJ, 9, .inr (.inl (σ.1.2.2.2.2)))), (hs, .inr (1, [.int σ.2.1, .int σ.2.2.1, .int σ.2.2.2.1, .int σ.2.2.2.2.1, .int σ.2.2.2.2.2.1, .int σ.2.2.2.2.2.2.1, .int σ.2.2.2.2.2.2.2.1, .int σ.2.2.2.2.2.2.2.2]))]) (kr_S (As := [.int p0]) (rest := [.int (0 : Int32), .int p1]) (ws := [(h0, .inr (2, [.ref hc, .ref hs])), (hc, .inr (0, [.ref w0, .ref w1, .int σ.1.1, .int σ.1.2.1, .int σ.1.2.2.1])), (w0, .inl (cJ, 512, .inr (.inl (σ.1.2.2.2.1)))), (w1, .inl (cJ, 9, .inr (.inl (σ.1.2.2.2.2)))), (hs, .inr (1, [.int σ.2.1, .int σ.2.2.1, .int σ.2.2.2.1, .int σ.2.2.2.2.1, .int σ.2.2.2.2.2.1, .int σ.2.2.2.2.2.2.1, .int σ.2.2.2.2.2.2.2.1, .int σ.2.2.2.2.2.2.2.2]))]) ⟨hx, hb, hml, hown, hts⟩ (c_X1_greatestNumber l dC dI   p0 _ hw H.size) (va_cwS 1 hts gX3_ways_X1_greatestNumber rfl rfl rfl (by decide +kernel) ⟨Nat.le_of_ble_eq_true rfl, Nat.le_of_ble_eq_true rfl⟩) hKc hnw hP hD hPc hDc rfl hl.1 rfl (Nat.le_of_ble_eq_true rfl) dX3_ways_13 ⟨Nat.zero_le _, Nat.zero_le _⟩) hP hD hS hFc [] [0, 1, 2, 3, 4] rfl rfl (by decide) (by decide) (fun r4 u1 H locs hq hP hD hS => ?_)
    obtain ⟨hw, rfl⟩ := hq
    have hP : va_P (dC, dI) vwCl [(h0, .inr (2, [.ref hc, .ref hs])), (hc, .inr (0, [.ref w0, .ref w1, .int σ.1.1, .int σ.1.2.1, .int σ.1.2.2.1])), (w0, .inl (cJ, 512, .inr (.inl (σ.1.2.2.2.1)))), (w1, .inl (cJ, 9, .inr (.inl (σ.1.2.2.2.2)))), (hs, .inr (1, [.int σ.2.1, .int σ.2.2.1, .int σ.2.2.2.1, .int σ.2.2.2.2.1, .int σ.2.2.2.2.2.1, .int σ.2.2.2.2.2.2.1, .int σ.2.2.2.2.2.2.2.1, .int σ.2.2.2.2.2.2.2.2]))] H := hP
    have hD : va_D A [(h0, .inr (2, [.ref hc, .ref hs])), (hc, .inr (0, [.ref w0, .ref w1, .int σ.1.1, .int σ.1.2.1, .int σ.1.2.2.1])), (w0, .inl (cJ, 512, .inr (.inl (σ.1.2.2.2.1)))), (w1, .inl (cJ, 9, .inr (.inl (σ.1.2.2.2.2)))), (hs, .inr (1, [.int σ.2.1, .int σ.2.2.1, .int σ.2.2.2.1, .int σ.2.2.2.2.1, .int σ.2.2.2.2.2.1, .int σ.2.2.2.2.2.2.1, .int σ.2.2.2.2.2.2.2.1, .int σ.2.2.2.2.2.2.2.2]))] := hD
    have hPc := hP.sub (ws' := ([] : va_W)) [] rfl
    have hDc := hD.sub (ws' := ([] : va_W)) [] (by decide) rfl
    have hKc := hK.sub (tys' := []) [] rfl
    have hFc := va_free (wc := ([] : va_W)) hD hS hA [] rfl
    refine kc_i (wr := [(h0, .inr (2, [.ref hc, .ref hs])), (hc, .inr (0, [.ref w0, .ref w1, .int σ.1.1, .int σ.1.2.1, .int σ.1.2.2.1])), (w0, .inl (cJ, 512, .inr (.inl (σ.1.2.2.2.1)))), (w1, .inl (cJ, 9, .inr (.inl (σ.1.2.2.2.2)))), (hs, .inr (1, [.int σ.2.1, .int σ.2.2.1, .int σ.2.2.2.1, .int σ.2.2.2.2.1, .int σ.2.2.2.2.2.1, .int σ.2.2.2.2.2.2.1, .int σ.2.2.2.2.2.2.2.1, .int σ.2.2.2.2.2.2.2.2]))]) (kr_S (As := [.int p1, .int (0 : Int32), .int r4]) (rest := []) (ws := [(h0, .inr (2, [.ref hc, .ref hs])), (hc, .inr (0, [.ref w0, .ref w1, .int σ.1.1, .int σ.1.2.1, .int σ.1.2.2.1])), (w0, .inl (cJ, 512, .inr (.inl (σ.1.2.2.2.1)))), (w1, .inl (cJ, 9, .inr (.inl (σ.1.2.2.2.2)))), (hs, .inr (1, [.int σ.2.1, .int σ.2.2.1, .int σ.2.2.2.1, .int σ.2.2.2.2.1, .int σ.2.2.2.2.2.1, .int σ.2.2.2.2.2.2.1, .int σ.2.2.2.2.2.2.2.1, .int σ.2.2.2.2.2.2.2.2]))]) ⟨hx, hb, hml, hown, hts⟩ (c_X3_isWithin l dC dI   p1 (0 : Int32) r4 _ hw H.size) (va_cwS 3 hts gX3_ways_X3_isWithin rfl rfl rfl (by decide +kernel) ⟨Nat.le_of_ble_eq_true rfl, Nat.le_of_ble_eq_true rfl⟩) hKc hnw hP hD hPc hDc rfl hl.1 rfl (Nat.le_of_ble_eq_true rfl) dX3_ways_16 ⟨Nat.zero_le _, Nat.zero_le _⟩) hP hD hS hFc [] [0, 1, 2, 3, 4] rfl rfl (by decide) (by decide) (fun r6 u1 H locs hq hP hD hS => ?_)
    obtain ⟨hw, rfl⟩ := hq
    have hP : va_P (dC, dI) vwCl [(h0, .inr (2, [.ref hc, .ref hs])), (hc, .inr (0, [.ref w0, .ref w1, .int σ.1.1, .int σ.1.2.1, .int σ.1.2.2.1])), (w0, .inl (cJ, 512, .inr (.inl (σ.1.2.2.2.1)))), (w1, .inl (cJ, 9, .inr (.inl (σ.1.2.2.2.2)))), (hs, .inr (1, [.int σ.2.1, .int σ.2.2.1, .int σ.2.2.2.1, .int σ.2.2.2.2.1, .int σ.2.2.2.2.2.1, .int σ.2.2.2.2.2.2.1, .int σ.2.2.2.2.2.2.2.1, .int σ.2.2.2.2.2.2.2.2]))] H := hP
    have hD : va_D A [(h0, .inr (2, [.ref hc, .ref hs])), (hc, .inr (0, [.ref w0, .ref w1, .int σ.1.1, .int σ.1.2.1, .int σ.1.2.2.1])), (w0, .inl (cJ, 512, .inr (.inl (σ.1.2.2.2.1)))), (w1, .inl (cJ, 9, .inr (.inl (σ.1.2.2.2.2)))), (hs, .inr (1, [.int σ.2.1, .int σ.2.2.1, .int σ.2.2.2.1, .int σ.2.2.2.2.1, .int σ.2.2.2.2.2.1, .int σ.2.2.2.2.2.2.1, .int σ.2.2.2.2.2.2.2.1, .int σ.2.2.2.2.2.2.2.2]))] := hD
    refine lv_if_ne (tgt := 24) hx hb dX3_ways_19 (by decide) (fun c8 => ?_) (fun c8 => ?_)
    · have hw := hw.1 c8
      refine lv_iload_n hx hb dX3_ways_24 rfl (lv_at hl 1 rfl) ?_
      refine lv_iload_n hx hb dX3_ways_25 rfl (lv_at hl 2 rfl) ?_
      refine lv_iconst (v := (1 : Int32)) hx hb dX3_ways_26 (by decide) ?_
      have hPc := hP.sub (ws' := ([] : va_W)) [] rfl
      have hDc := hD.sub (ws' := ([] : va_W)) [] (by decide) rfl
      have hKc := hK.sub (tys' := []) [] rfl
      have hFc := va_free (wc := ([] : va_W)) hD hS hA [] rfl
      refine kc_i (wr := [(h0, .inr (2, [.ref hc, .ref hs])), (hc, .inr (0, [.ref w0, .ref w1, .int σ.1.1, .int σ.1.2.1, .int σ.1.2.2.1])), (w0, .inl (cJ, 512, .inr (.inl (σ.1.2.2.2.1)))), (w1, .inl (cJ, 9, .inr (.inl (σ.1.2.2.2.2)))), (hs, .inr (1, [.int σ.2.1, .int σ.2.2.1, .int σ.2.2.2.1, .int σ.2.2.2.2.1, .int σ.2.2.2.2.2.1, .int σ.2.2.2.2.2.2.1, .int σ.2.2.2.2.2.2.2.1, .int σ.2.2.2.2.2.2.2.2]))]) (kr_S (As := [.int p0, .int p1, .int (1 : Int32)]) (rest := []) (ws := [(h0, .inr (2, [.ref hc, .ref hs])), (hc, .inr (0, [.ref w0, .ref w1, .int σ.1.1, .int σ.1.2.1, .int σ.1.2.2.1])), (w0, .inl (cJ, 512, .inr (.inl (σ.1.2.2.2.1)))), (w1, .inl (cJ, 9, .inr (.inl (σ.1.2.2.2.2)))), (hs, .inr (1, [.int σ.2.1, .int σ.2.2.1, .int σ.2.2.2.1, .int σ.2.2.2.2.1, .int σ.2.2.2.2.2.1, .int σ.2.2.2.2.2.2.1, .int σ.2.2.2.2.2.2.2.1, .int σ.2.2.2.2.2.2.2.2]))]) ⟨hx, hb, hml, hown, hts⟩ (c_X1_placesOfSort l dC dI   p0 p1 (1 : Int32) _ hw H.size) (va_cwS 3 hts gX3_ways_X1_placesOfSort rfl rfl rfl (by decide +kernel) ⟨Nat.le_of_ble_eq_true rfl, Nat.le_of_ble_eq_true rfl⟩) hKc hnw hP hD hPc hDc rfl hl.1 rfl (Nat.le_of_ble_eq_true rfl) dX3_ways_27 ⟨Nat.zero_le _, Nat.zero_le _⟩) hP hD hS hFc [] [0, 1, 2, 3, 4] rfl rfl (by decide) (by decide) (fun r9 u1 H locs hq hP hD hS => ?_)
      obtain ⟨hw, rfl⟩ := hq
      have hP : va_P (dC, dI) vwCl [(h0, .inr (2, [.ref hc, .ref hs])), (hc, .inr (0, [.ref w0, .ref w1, .int σ.1.1, .int σ.1.2.1, .int σ.1.2.2.1])), (w0, .inl (cJ, 512, .inr (.inl (σ.1.2.2.2.1)))), (w1, .inl (cJ, 9, .inr (.inl (σ.1.2.2.2.2)))), (hs, .inr (1, [.int σ.2.1, .int σ.2.2.1, .int σ.2.2.2.1, .int σ.2.2.2.2.1, .int σ.2.2.2.2.2.1, .int σ.2.2.2.2.2.2.1, .int σ.2.2.2.2.2.2.2.1, .int σ.2.2.2.2.2.2.2.2]))] H := hP
      have hD : va_D A [(h0, .inr (2, [.ref hc, .ref hs])), (hc, .inr (0, [.ref w0, .ref w1, .int σ.1.1, .int σ.1.2.1, .int σ.1.2.2.1])), (w0, .inl (cJ, 512, .inr (.inl (σ.1.2.2.2.1)))), (w1, .inl (cJ, 9, .inr (.inl (σ.1.2.2.2.2)))), (hs, .inr (1, [.int σ.2.1, .int σ.2.2.1, .int σ.2.2.2.1, .int σ.2.2.2.2.1, .int σ.2.2.2.2.2.1, .int σ.2.2.2.2.2.2.1, .int σ.2.2.2.2.2.2.2.1, .int σ.2.2.2.2.2.2.2.2]))] := hD
      refine lv_istore_n (lv' := [(3, .int r9), (0, .ref h0), (1, .int p0), (2, .int p1)]) hx hb dX3_ways_30 rfl hl (by decide) rfl (fun ls hl => ?_)
      refine lv_iload_n hx hb dX3_ways_31 rfl (lv_at hl 2 rfl) ?_
      refine lv_iload_n hx hb dX3_ways_32 rfl (lv_at hl 3 rfl) ?_
      refine lv_iconst (v := (2 : Int32)) hx hb dX3_ways_33 (by decide) ?_
      have hPc := hP.sub (ws' := ([] : va_W)) [] rfl
      have hDc := hD.sub (ws' := ([] : va_W)) [] (by decide) rfl
      have hKc := hK.sub (tys' := []) [] rfl
      have hFc := va_free (wc := ([] : va_W)) hD hS hA [] rfl
      refine kc_i (wr := [(h0, .inr (2, [.ref hc, .ref hs])), (hc, .inr (0, [.ref w0, .ref w1, .int σ.1.1, .int σ.1.2.1, .int σ.1.2.2.1])), (w0, .inl (cJ, 512, .inr (.inl (σ.1.2.2.2.1)))), (w1, .inl (cJ, 9, .inr (.inl (σ.1.2.2.2.2)))), (hs, .inr (1, [.int σ.2.1, .int σ.2.2.1, .int σ.2.2.2.1, .int σ.2.2.2.2.1, .int σ.2.2.2.2.2.1, .int σ.2.2.2.2.2.2.1, .int σ.2.2.2.2.2.2.2.1, .int σ.2.2.2.2.2.2.2.2]))]) (kr_S (As := [.int p0, .int p1, .int (2 : Int32)]) (rest := []) (ws := [(h0, .inr (2, [.ref hc, .ref hs])), (hc, .inr (0, [.ref w0, .ref w1, .int σ.1.1, .int σ.1.2.1, .int σ.1.2.2.1])), (w0, .inl (cJ, 512, .inr (.inl (σ.1.2.2.2.1)))), (w1, .inl (cJ, 9, .inr (.inl (σ.1.2.2.2.2)))), (hs, .inr (1, [.int σ.2.1, .int σ.2.2.1, .int σ.2.2.2.1, .int σ.2.2.2.2.1, .int σ.2.2.2.2.2.1, .int σ.2.2.2.2.2.2.1, .int σ.2.2.2.2.2.2.2.1, .int σ.2.2.2.2.2.2.2.2]))]) ⟨hx, hb, hml, hown, hts⟩ (c_X1_placesOfSort l dC dI   p0 p1 (2 : Int32) _ hw H.size) (va_cwS 3 hts gX3_ways_X1_placesOfSort rfl rfl rfl (by decide +kernel) ⟨Nat.le_of_ble_eq_true rfl, Nat.le_of_ble_eq_true rfl⟩) hKc hnw hP hD hPc hDc rfl hl.1 rfl (Nat.le_of_ble_eq_true rfl) dX3_ways_34 ⟨Nat.zero_le _, Nat.zero_le _⟩) hP hD hS hFc [] [0, 1, 2, 3, 4] rfl rfl (by decide) (by decide) (fun r11 u1 H locs hq hP hD hS => ?_)
      obtain ⟨hw, rfl⟩ := hq
      have hP : va_P (dC, dI) vwCl [(h0, .inr (2, [.ref hc, .ref hs])), (hc, .inr (0, [.ref w0, .ref w1, .int σ.1.1, .int σ.1.2.1, .int σ.1.2.2.1])), (w0, .inl (cJ, 512, .inr (.inl (σ.1.2.2.2.1)))), (w1, .inl (cJ, 9, .inr (.inl (σ.1.2.2.2.2)))), (hs, .inr (1, [.int σ.2.1, .int σ.2.2.1, .int σ.2.2.2.1, .int σ.2.2.2.2.1, .int σ.2.2.2.2.2.1, .int σ.2.2.2.2.2.2.1, .int σ.2.2.2.2.2.2.2.1, .int σ.2.2.2.2.2.2.2.2]))] H := hP
      have hD : va_D A [(h0, .inr (2, [.ref hc, .ref hs])), (hc, .inr (0, [.ref w0, .ref w1, .int σ.1.1, .int σ.1.2.1, .int σ.1.2.2.1])), (w0, .inl (cJ, 512, .inr (.inl (σ.1.2.2.2.1)))), (w1, .inl (cJ, 9, .inr (.inl (σ.1.2.2.2.2)))), (hs, .inr (1, [.int σ.2.1, .int σ.2.2.1, .int σ.2.2.2.1, .int σ.2.2.2.2.1, .int σ.2.2.2.2.2.1, .int σ.2.2.2.2.2.2.1, .int σ.2.2.2.2.2.2.2.1, .int σ.2.2.2.2.2.2.2.2]))] := hD
      refine lv_istore (lv' := [(4, .int r11), (3, .int r9), (0, .ref h0), (1, .int p0), (2, .int p1)]) hx hb dX3_ways_37 hl (by decide) rfl (fun ls hl => ?_)
      refine lv_iload_n hx hb dX3_ways_39 rfl (lv_at hl 3 rfl) ?_
      refine lv_iload_n hx hb dX3_ways_40 rfl (lv_at hl 4 rfl) ?_
      refine lv_iconst (v := (0 : Int32)) hx hb dX3_ways_41 (by decide) ?_
      have hPc := hP.sub (ws' := ([] : va_W)) [] rfl
      have hDc := hD.sub (ws' := ([] : va_W)) [] (by decide) rfl
      have hKc := hK.sub (tys' := []) [] rfl
      have hFc := va_free (wc := ([] : va_W)) hD hS hA [] rfl
      refine kc_i (wr := [(h0, .inr (2, [.ref hc, .ref hs])), (hc, .inr (0, [.ref w0, .ref w1, .int σ.1.1, .int σ.1.2.1, .int σ.1.2.2.1])), (w0, .inl (cJ, 512, .inr (.inl (σ.1.2.2.2.1)))), (w1, .inl (cJ, 9, .inr (.inl (σ.1.2.2.2.2)))), (hs, .inr (1, [.int σ.2.1, .int σ.2.2.1, .int σ.2.2.2.1, .int σ.2.2.2.2.1, .int σ.2.2.2.2.2.1, .int σ.2.2.2.2.2.2.1, .int σ.2.2.2.2.2.2.2.1, .int σ.2.2.2.2.2.2.2.2]))]) (kr_S (As := [.int p0, .int p1, .int (0 : Int32)]) (rest := []) (ws := [(h0, .inr (2, [.ref hc, .ref hs])), (hc, .inr (0, [.ref w0, .ref w1, .int σ.1.1, .int σ.1.2.1, .int σ.1.2.2.1])), (w0, .inl (cJ, 512, .inr (.inl (σ.1.2.2.2.1)))), (w1, .inl (cJ, 9, .inr (.inl (σ.1.2.2.2.2)))), (hs, .inr (1, [.int σ.2.1, .int σ.2.2.1, .int σ.2.2.2.1, .int σ.2.2.2.2.1, .int σ.2.2.2.2.2.1, .int σ.2.2.2.2.2.2.1, .int σ.2.2.2.2.2.2.2.1, .int σ.2.2.2.2.2.2.2.2]))]) ⟨hx, hb, hml, hown, hts⟩ (c_X1_placesOfSort l dC dI   p0 p1 (0 : Int32) _ hw H.size) (va_cwS 3 hts gX3_ways_X1_placesOfSort rfl rfl rfl (by decide +kernel) ⟨Nat.le_of_ble_eq_true rfl, Nat.le_of_ble_eq_true rfl⟩) hKc hnw hP hD hPc hDc rfl hl.1 rfl (Nat.le_of_ble_eq_true rfl) dX3_ways_42 ⟨Nat.zero_le _, Nat.zero_le _⟩) hP hD hS hFc [] [0, 1, 2, 3, 4] rfl rfl (by decide) (by decide) (fun r13 u1 H locs hq hP hD hS => ?_)
      obtain ⟨hw, rfl⟩ := hq
      have hP : va_P (dC, dI) vwCl [(h0, .inr (2, [.ref hc, .ref hs])), (hc, .inr (0, [.ref w0, .ref w1, .int σ.1.1, .int σ.1.2.1, .int σ.1.2.2.1])), (w0, .inl (cJ, 512, .inr (.inl (σ.1.2.2.2.1)))), (w1, .inl (cJ, 9, .inr (.inl (σ.1.2.2.2.2)))), (hs, .inr (1, [.int σ.2.1, .int σ.2.2.1, .int σ.2.2.2.1, .int σ.2.2.2.2.1, .int σ.2.2.2.2.2.1, .int σ.2.2.2.2.2.2.1, .int σ.2.2.2.2.2.2.2.1, .int σ.2.2.2.2.2.2.2.2]))] H := hP
      have hD : va_D A [(h0, .inr (2, [.ref hc, .ref hs])), (hc, .inr (0, [.ref w0, .ref w1, .int σ.1.1, .int σ.1.2.1, .int σ.1.2.2.1])), (w0, .inl (cJ, 512, .inr (.inl (σ.1.2.2.2.1)))), (w1, .inl (cJ, 9, .inr (.inl (σ.1.2.2.2.2)))), (hs, .inr (1, [.int σ.2.1, .int σ.2.2.1, .int σ.2.2.2.1, .int σ.2.2.2.2.1, .int σ.2.2.2.2.2.1, .int σ.2.2.2.2.2.2.1, .int σ.2.2.2.2.2.2.2.1, .int σ.2.2.2.2.2.2.2.2]))] := hD
      refine lv_istore (lv' := [(5, .int r13), (4, .int r11), (3, .int r9), (0, .ref h0), (1, .int p0), (2, .int p1)]) hx hb dX3_ways_45 hl (by decide) rfl (fun ls hl => ?_)
      refine lv_iload_n hx hb dX3_ways_47 rfl (lv_at hl 2 rfl) ?_
      refine lv_if_eq (tgt := 61) hx hb dX3_ways_48 (by decide) (fun c15 => ?_) (fun c15 => ?_)
      · have hw := hw.1 c15
        refine lv_iconst (v := (-1 : Int32)) hx hb dX3_ways_61 (by decide) ?_
        exact W.iret (v := (-1 : Int32)) hx hb hr (fun t ht hW => ⟨⟨(-1 : Int32), ((cl3 h0 hc w0 w1 hs cJ σ)), rfl, ⟨hw, rfl⟩, by rw [ht]; exact hP, va_K.moved hW.alike hK, hD⟩, hS.F ht⟩) hS.2.2 dX3_ways_62
      · have hw := hw.2 c15
        refine lv_iload hx hb dX3_ways_51 (lv_at hl 1 rfl) ?_
        refine lv_if_eq (tgt := 61) hx hb dX3_ways_53 (by decide) (fun c16 => ?_) (fun c16 => ?_)
        · have hw := hw.1 c16
          refine lv_iconst (v := (-1 : Int32)) hx hb dX3_ways_61 (by decide) ?_
          exact W.iret (v := (-1 : Int32)) hx hb hr (fun t ht hW => ⟨⟨(-1 : Int32), ((cl3 h0 hc w0 w1 hs cJ σ)), rfl, ⟨hw, rfl⟩, by rw [ht]; exact hP, va_K.moved hW.alike hK, hD⟩, hS.F ht⟩) hS.2.2 dX3_ways_62
        · have hw := hw.2 c16
          refine lv_iload hx hb dX3_ways_56 (lv_at hl 0 rfl) ?_
          refine lv_if_ne (tgt := 63) hx hb dX3_ways_58 (by decide) (fun c17 => ?_) (fun c17 => ?_)
          · have hw := hw.1 c17
            refine lv_iload_n hx hb dX3_ways_63 rfl (lv_at hl 4 rfl) ?_
            refine lv_iload_n hx hb dX3_ways_64 rfl (lv_at hl 2 rfl) ?_
            refine lv_iload_n hx hb dX3_ways_65 rfl (lv_at hl 2 rfl) ?_
            refine lv_iload hx hb dX3_ways_66 (lv_at hl 1 rfl) ?_
            refine lv_ior hx hb dX3_ways_68 ?_
            have hPc := hP.sub (ws' := ([] : va_W)) [] rfl
            have hDc := hD.sub (ws' := ([] : va_W)) [] (by decide) rfl
            have hKc := hK.sub (tys' := []) [] rfl
            have hFc := va_free (wc := ([] : va_W)) hD hS hA [] rfl
            refine kc_i (wr := [(h0, .inr (2, [.ref hc, .ref hs])), (hc, .inr (0, [.ref w0, .ref w1, .int σ.1.1, .int σ.1.2.1, .int σ.1.2.2.1])), (w0, .inl (cJ, 512, .inr (.inl (σ.1.2.2.2.1)))), (w1, .inl (cJ, 9, .inr (.inl (σ.1.2.2.2.2)))), (hs, .inr (1, [.int σ.2.1, .int σ.2.2.1, .int σ.2.2.2.1, .int σ.2.2.2.2.1, .int σ.2.2.2.2.2.1, .int σ.2.2.2.2.2.2.1, .int σ.2.2.2.2.2.2.2.1, .int σ.2.2.2.2.2.2.2.2]))]) (kr_S (As := [.int p0, .int r9, .int (r9 ||| r11)]) (rest := []) (ws := [(h0, .inr (2, [.ref hc, .ref hs])), (hc, .inr (0, [.ref w0, .ref w1, .int σ.1.1, .int σ.1.2.1, .int σ.1.2.2.1])), (w0, .inl (cJ, 512, .inr (.inl (σ.1.2.2.2.1)))), (w1, .inl (cJ, 9, .inr (.inl (σ.1.2.2.2.2)))), (hs, .inr (1, [.int σ.2.1, .int σ.2.2.1, .int σ.2.2.2.1, .int σ.2.2.2.2.1, .int σ.2.2.2.2.2.1, .int σ.2.2.2.2.2.2.1, .int σ.2.2.2.2.2.2.2.1, .int σ.2.2.2.2.2.2.2.2]))]) ⟨hx, hb, hml, hown, hts⟩ (c_X1_countUpperRows l dC dI   p0 r9 (r9 ||| r11) _ hw H.size) (va_cwS 3 hts gX3_ways_X1_countUpperRows rfl rfl rfl (by decide +kernel) ⟨Nat.le_of_ble_eq_true rfl, Nat.le_of_ble_eq_true rfl⟩) hKc hnw hP hD hPc hDc rfl hl.1 rfl (Nat.le_of_ble_eq_true rfl) dX3_ways_69 ⟨Nat.zero_le _, Nat.zero_le _⟩) hP hD hS hFc [] [0, 1, 2, 3, 4] rfl rfl (by decide) (by decide) (fun r18 u1 H locs hq hP hD hS => ?_)
            obtain ⟨hw, rfl⟩ := hq
            have hP : va_P (dC, dI) vwCl [(h0, .inr (2, [.ref hc, .ref hs])), (hc, .inr (0, [.ref w0, .ref w1, .int σ.1.1, .int σ.1.2.1, .int σ.1.2.2.1])), (w0, .inl (cJ, 512, .inr (.inl (σ.1.2.2.2.1)))), (w1, .inl (cJ, 9, .inr (.inl (σ.1.2.2.2.2)))), (hs, .inr (1, [.int σ.2.1, .int σ.2.2.1, .int σ.2.2.2.1, .int σ.2.2.2.2.1, .int σ.2.2.2.2.2.1, .int σ.2.2.2.2.2.2.1, .int σ.2.2.2.2.2.2.2.1, .int σ.2.2.2.2.2.2.2.2]))] H := hP
            have hD : va_D A [(h0, .inr (2, [.ref hc, .ref hs])), (hc, .inr (0, [.ref w0, .ref w1, .int σ.1.1, .int σ.1.2.1, .int σ.1.2.2.1])), (w0, .inl (cJ, 512, .inr (.inl (σ.1.2.2.2.1)))), (w1, .inl (cJ, 9, .inr (.inl (σ.1.2.2.2.2)))), (hs, .inr (1, [.int σ.2.1, .int σ.2.2.1, .int σ.2.2.2.1, .int σ.2.2.2.2.1, .int σ.2.2.2.2.2.1, .int σ.2.2.2.2.2.2.1, .int σ.2.2.2.2.2.2.2.1, .int σ.2.2.2.2.2.2.2.2]))] := hD
            exact W.iret (v := r18) hx hb hr (fun t ht hW => ⟨⟨r18, ((cl3 h0 hc w0 w1 hs cJ σ)), rfl, ⟨hw, rfl⟩, by rw [ht]; exact hP, va_K.moved hW.alike hK, hD⟩, hS.F ht⟩) hS.2.2 dX3_ways_72
          · have hw := hw.2 c17
            refine lv_iconst (v := (-1 : Int32)) hx hb dX3_ways_61 (by decide) ?_
            exact W.iret (v := (-1 : Int32)) hx hb hr (fun t ht hW => ⟨⟨(-1 : Int32), ((cl3 h0 hc w0 w1 hs cJ σ)), rfl, ⟨hw, rfl⟩, by rw [ht]; exact hP, va_K.moved hW.alike hK, hD⟩, hS.F ht⟩) hS.2.2 dX3_ways_62
    · have hw := hw.2 c8
      refine lv_iconst (v := (-1 : Int32)) hx hb dX3_ways_22 (by decide) ?_
      exact W.iret (v := (-1 : Int32)) hx hb hr (fun t ht hW => ⟨⟨(-1 : Int32), ((cl3 h0 hc w0 w1 hs cJ σ)), rfl, ⟨hw, rfl⟩, by rw [ht]; exact hP, va_K.moved hW.alike hK, hD⟩, hS.F ht⟩) hS.2.2 dX3_ways_23
set_option maxHeartbeats 4000000 in
set_option maxRecDepth 100000 in
theorem c_X3_step (l : Launch) (dC : Nat → ClassId) (dI : Nat → Nat → Nat) (h0 hc w0 w1 hs : Nat) (cJ : ClassId) (σ : SO) (p0 : Int32) (p1 : Int32) (post : Int32 → SO → Prop) (hw : wp_X3_step p0 p1 σ post) : KI l yX3_step wsX3_step ({ frames := 1, cells := 0, slots := 0, locals := 22 } : Room) (dC, dI) [(cJ, .long)] (cl3 h0 hc w0 w1 hs cJ σ) [.ref h0, .int p0, .int p1] (fun r u => ∃ σ', post r σ' ∧ u = (cl3 h0 hc w0 w1 hs cJ (σ'))) := by
  intro sz
  refine Met.ofW (cc := cX3_step) (maxL := 3) (ret := (some .int)) (by decide) rfl ?_
  intro p e s m args below meth c s₁ B hml hv
  obtain ⟨rfl, hsz, hP, hK, hD0, hnw⟩ := hv
  have hx := B.exec
  have hb := B.bytes
  have hr := B.returns
  have hts := atoms_spec (ws := wsX3_step) B.pre
  have hown : s.vm.findClass RX3 = some m.cls := findClass_of_methodNamed B.named
  have hlocks := B.notSynchronized
  subst hsz
  have hD := hD0.self (sz := s.heap.size)
  generalize hAe : va_A (cl3 h0 hc w0 w1 hs cJ σ) s.heap.size = A at hD ⊢
  have hA : ∀ q : Nat, s.heap.size ≤ q → A q := fun q h => by rw [← hAe]; exact Or.inr h
  have hS : va_S A s.heap s.heap [] := va_S.rf
  have hP : va_P (dC, dI) vwCl [(h0, .inr (2, [.ref hc, .ref hs])), (hc, .inr (0, [.ref w0, .ref w1, .int σ.1.1, .int σ.1.2.1, .int σ.1.2.2.1])), (w0, .inl (cJ, 512, .inr (.inl (σ.1.2.2.2.1)))), (w1, .inl (cJ, 9, .inr (.inl (σ.1.2.2.2.2)))), (hs, .inr (1, [.int σ.2.1, .int σ.2.2.1, .int σ.2.2.2.1, .int σ.2.2.2.2.1, .int σ.2.2.2.2.2.1, .int σ.2.2.2.2.2.2.1, .int σ.2.2.2.2.2.2.2.1, .int σ.2.2.2.2.2.2.2.2]))] s.heap := hP
  have hD : va_D A [(h0, .inr (2, [.ref hc, .ref hs])), (hc, .inr (0, [.ref w0, .ref w1, .int σ.1.1, .int σ.1.2.1, .int σ.1.2.2.1])), (w0, .inl (cJ, 512, .inr (.inl (σ.1.2.2.2.1)))), (w1, .inl (cJ, 9, .inr (.inl (σ.1.2.2.2.2)))), (hs, .inr (1, [.int σ.2.1, .int σ.2.2.1, .int σ.2.2.2.1, .int σ.2.2.2.2.1, .int σ.2.2.2.2.2.1, .int σ.2.2.2.2.2.2.1, .int σ.2.2.2.2.2.2.2.1, .int σ.2.2.2.2.2.2.2.2]))] := hD
  have fl_19 := hts (.fieldLink RX3 19 "OnePlaceEach" "stepped" "LOnePlaceEach$Stepped;") (by decide +kernel)
  have hin0 : ∀ w ∈ wsX30, w ∈ wsX3_step := by decide +kernel
  have hl := lv_entry ([.ref h0, .int p0, .int p1]) (n := 3) (Nat.le_of_ble_eq_true rfl)
  rw [lg_entry_eq]
  generalize (lg_sl ([.ref h0, .int p0, .int p1]) ++ List.replicate (3 - (lg_sl ([.ref h0, .int p0, .int p1])).length) Slot.unset).toArray = ls at hl ⊢
  have hl : lv_has ls 3 [(0, .ref h0), (1, .int p0), (2, .int p1)] := hl
  unfold wp_X3_step at hw
  skip
  obtain ⟨H, hH⟩ : ∃ H, H = s.heap := ⟨_, rfl⟩
  obtain ⟨locs, hlo⟩ : ∃ q : List Loc, q = [] := ⟨_, rfl⟩
  rw [← hH] at hP
  have hS : va_S A s.heap H locs := by rw [hH, hlo]; exact hS
  suffices hgo : W p l e (headSpec wsX3_step ({ frames := 1, cells := 0, slots := 0, locals := 22 } : Room)).room s m _ below meth c H locs 0 0 _ (F0 m 0 ls []) by rw [hH, hlo] at hgo; exact hgo
  refine lv_iload_n hx hb dX3_step_0 rfl (lv_at hl 1 rfl) ?_
  refine lv_iconst (v := (2 : Int32)) hx hb dX3_step_1 (by decide) ?_
  refine lv_bipush (v := (30 : Int32)) hx hb dX3_step_2 (by decide) ?_
  have hPc := hP.sub (ws' := ([] : va_W)) [] rfl
  have hDc := hD.sub (ws' := ([] : va_W)) [] (by decide) rfl
  have hKc := hK.sub (tys' := []) [] rfl
  have hFc := va_free (wc := ([] : va_W)) hD hS hA [] rfl
  refine kc_i (wr := [(h0, .inr (2, [.ref hc, .ref hs])), (hc, .inr (0, [.ref w0, .ref w1, .int σ.1.1, .int σ.1.2.1, .int σ.1.2.2.1])), (w0, .inl (cJ, 512, .inr (.inl (σ.1.2.2.2.1)))), (w1, .inl (cJ, 9, .inr (.inl (σ.1.2.2.2.2)))), (hs, .inr (1, [.int σ.2.1, .int σ.2.2.1, .int σ.2.2.2.1, .int σ.2.2.2.2.1, .int σ.2.2.2.2.2.1, .int σ.2.2.2.2.2.2.1, .int σ.2.2.2.2.2.2.2.1, .int σ.2.2.2.2.2.2.2.2]))]) (kr_S (As := [.int p0, .int (2 : Int32), .int (30 : Int32)]) (rest := []) (ws := [(h0, .inr (2, [.ref hc, .ref hs])), (hc, .inr (0, [.ref w0, .ref w1, .int σ.1.1, .int σ.1.2.1, .int σ.1.2.2.1])), (w0, .inl (cJ, 512, .inr (.inl (σ.1.2.2.2.1)))), (w1, .inl (cJ, 9, .inr (.inl (σ.1.2.2.2.2)))), (hs, .inr (1, [.int σ.2.1, .int σ.2.2.1, .int σ.2.2.2.1, .int σ.2.2.2.2.1, .int σ.2.2.2.2.2.1, .int σ.2.2.2.2.2.2.1, .int σ.2.2.2.2.2.2.2.1, .int σ.2.2.2.2.2.2.2.2]))]) ⟨hx, hb, hml, hown, hts⟩ (c_X3_isWithin l dC dI   p0 (2 : Int32) (30 : Int32) _ hw H.size) (va_cwS 3 hts gX3_step_X3_isWithin rfl rfl rfl (by decide +kernel) ⟨Nat.le_of_ble_eq_true rfl, Nat.le_of_ble_eq_true rfl⟩) hKc hnw hP hD hPc hDc rfl hl.1 rfl (Nat.le_of_ble_eq_true rfl) dX3_step_4 ⟨Nat.zero_le _, Nat.zero_le _⟩) hP hD hS hFc [] [0, 1, 2, 3, 4] rfl rfl (by decide) (by decide) (fun r1 u1 H locs hq hP hD hS => ?_)
  obtain ⟨hw, rfl⟩ := hq
  have hP : va_P (dC, dI) vwCl [(h0, .inr (2, [.ref hc, .ref hs])), (hc, .inr (0, [.ref w0, .ref w1, .int σ.1.1, .int σ.1.2.1, .int σ.1.2.2.1])), (w0, .inl (cJ, 512, .inr (.inl (σ.1.2.2.2.1)))), (w1, .inl (cJ, 9, .inr (.inl (σ.1.2.2.2.2)))), (hs, .inr (1, [.int σ.2.1, .int σ.2.2.1, .int σ.2.2.2.1, .int σ.2.2.2.2.1, .int σ.2.2.2.2.2.1, .int σ.2.2.2.2.2.2.1, .int σ.2.2.2.2.2.2.2.1, .int σ.2.2.2.2.2.2.2.2]))] H := hP
  have hD : va_D A [(h0, .inr (2, [.ref hc, .ref hs])), (hc, .inr (0, [.ref w0, .ref w1, .int σ.1.1, .int σ.1.2.1, .int σ.1.2.2.1])), (w0, .inl (cJ, 512, .inr (.inl (σ.1.2.2.2.1)))), (w1, .inl (cJ, 9, .inr (.inl (σ.1.2.2.2.2)))), (hs, .inr (1, [.int σ.2.1, .int σ.2.2.1, .int σ.2.2.2.1, .int σ.2.2.2.2.1, .int σ.2.2.2.2.2.1, .int σ.2.2.2.2.2.2.1, .int σ.2.2.2.2.2.2.2.1, .int σ.2.2.2.2.2.2.2.2]))] := hD
  refine lv_if_ne (tgt := 12) hx hb dX3_step_7 (by decide) (fun c3 => ?_) (fun c3 => ?_)
  · have hw := hw.1 c3
    refine lv_aload_n hx hb dX3_step_12 rfl (lv_at hl 0 rfl) ?_
    refine va_get (D := (dC, dI)) (ci := 2) (v := .ref hs) (C := RX3) (T := TX3) (N := 2) hx hb hts hin0 hown hK hP 0 rfl rfl 1 (by decide) fl_19 (fun _ h9 => h9) rfl dX3_step_13 ?_
    refine lv_iload_n hx hb dX3_step_16 rfl (lv_at hl 1 rfl) ?_
    refine lv_iload_n hx hb dX3_step_17 rfl (lv_at hl 2 rfl) ?_
    have hPc := hP.sub (ws' := [(hs, .inr (1, [.int σ.2.1, .int σ.2.2.1, .int σ.2.2.2.1, .int σ.2.2.2.2.1, .int σ.2.2.2.2.2.1, .int σ.2.2.2.2.2.2.1, .int σ.2.2.2.2.2.2.2.1, .int σ.2.2.2.2.2.2.2.2]))]) [4] rfl
    have hDc := hD.sub (ws' := [(hs, .inr (1, [.int σ.2.1, .int σ.2.2.1, .int σ.2.2.2.1, .int σ.2.2.2.2.1, .int σ.2.2.2.2.2.1, .int σ.2.2.2.2.2.2.1, .int σ.2.2.2.2.2.2.2.1, .int σ.2.2.2.2.2.2.2.2]))]) [4] (by decide) rfl
    have hKc := hK.sub (tys' := []) [] rfl
    have hFc := va_free (wc := [(hs, .inr (1, [.int σ.2.1, .int σ.2.2.1, .int σ.2.2.2.1, .int σ.2.2.2.2.1, .int σ.2.2.2.2.2.1, .int σ.2.2.2.2.2.2.1, .int σ.2.2.2.2.2.2.2.1, .int σ.2.2.2.2.2.2.2.2]))]) hD hS hA [4] rfl
    refine kc_v (wr := [(h0, .inr (2, [.ref hc, .ref hs])), (hc, .inr (0, [.ref w0, .ref w1, .int σ.1.1, .int σ.1.2.1, .int σ.1.2.2.1])), (w0, .inl (cJ, 512, .inr (.inl (σ.1.2.2.2.1)))), (w1, .inl (cJ, 9, .inr (.inl (σ.1.2.2.2.2))))]) (kr_V (As := [.int p0, .int p1]) (rest := []) (b := hs) (ws := [(h0, .inr (2, [.ref hc, .ref hs])), (hc, .inr (0, [.ref w0, .ref w1, .int σ.1.1, .int σ.1.2.1, .int σ.1.2.2.1])), (w0, .inl (cJ, 512, .inr (.inl (σ.1.2.2.2.1)))), (w1, .inl (cJ, 9, .inr (.inl (σ.1.2.2.2.2)))), (hs, .inr (1, [.int σ.2.1, .int σ.2.2.1, .int σ.2.2.2.1, .int σ.2.2.2.2.1, .int σ.2.2.2.2.2.1, .int σ.2.2.2.2.2.2.1, .int σ.2.2.2.2.2.2.2.1, .int σ.2.2.2.2.2.2.2.2]))]) ⟨hx, hb, hml, hown, hts⟩ (c_X2_begin l dC dI hs σ.2 p0 p1 _ hw H.size) (cwV 2 hts gX3_step_X2_begin rfl rfl rfl (by decide +kernel) ⟨Nat.le_of_ble_eq_true rfl, Nat.le_of_ble_eq_true rfl⟩) 1 4 hK rfl rfl rfl hKc hnw hP hD hPc hDc rfl hl.1 rfl (Nat.le_of_ble_eq_true rfl) dX3_step_18 ⟨Nat.zero_le _, Nat.zero_le _⟩) hP hD hS hFc [4] [0, 1, 2, 3] rfl rfl (by decide) (by decide) (fun u1 H locs hq hP hD hS => ?_)
    obtain ⟨σ5, hw, rfl⟩ := hq
    have hP : va_P (dC, dI) vwCl [(h0, .inr (2, [.ref hc, .ref hs])), (hc, .inr (0, [.ref w0, .ref w1, .int σ.1.1, .int σ.1.2.1, .int σ.1.2.2.1])), (w0, .inl (cJ, 512, .inr (.inl (σ.1.2.2.2.1)))), (w1, .inl (cJ, 9, .inr (.inl (σ.1.2.2.2.2)))), (hs, .inr (1, [.int σ5.1, .int σ5.2.1, .int σ5.2.2.1, .int σ5.2.2.2.1, .int σ5.2.2.2.2.1, .int σ5.2.2.2.2.2.1, .int σ5.2.2.2.2.2.2.1, .int σ5.2.2.2.2.2.2.2]))] H := hP
    have hD : va_D A [(h0, .inr (2, [.ref hc, .ref hs])), (hc, .inr (0, [.ref w0, .ref w1, .int σ.1.1, .int σ.1.2.1, .int σ.1.2.2.1])), (w0, .inl (cJ, 512, .inr (.inl (σ.1.2.2.2.1)))), (w1, .inl (cJ, 9, .inr (.inl (σ.1.2.2.2.2)))), (hs, .inr (1, [.int σ5.1, .int σ5.2.1, .int σ5.2.2.1, .int σ5.2.2.2.1, .int σ5.2.2.2.2.1, .int σ5.2.2.2.2.2.1, .int σ5.2.2.2.2.2.2.1, .int σ5.2.2.2.2.2.2.2]))] := hD
    refine lv_iconst (v := (0 : Int32)) hx hb dX3_step_21 (by decide) ?_
    exact W.iret (v := (0 : Int32)) hx hb hr (fun t ht hW => ⟨⟨(0 : Int32), ((cl3 h0 hc w0 w1 hs cJ (σ.1, σ5))), rfl, ⟨(σ.1, σ5), hw, rfl⟩, by rw [ht]; exact hP, va_K.moved hW.alike hK, hD⟩, hS.F ht⟩) hS.2.2 dX3_step_22
  · have hw := hw.2 c3
    refine lv_iconst (v := (-1 : Int32)) hx hb dX3_step_10 (by decide) ?_
    exact W.iret (v := (-1 : Int32)) hx hb hr (fun t ht hW => ⟨⟨(-1 : Int32), ((cl3 h0 hc w0 w1 hs cJ σ)), rfl, ⟨σ, hw, rfl⟩, by rw [ht]; exact hP, va_K.moved hW.alike hK, hD⟩, hS.F ht⟩) hS.2.2 dX3_step_11
set_option maxHeartbeats 4000000 in
set_option maxRecDepth 100000 in
theorem c_X3_set (l : Launch) (dC : Nat → ClassId) (dI : Nat → Nat → Nat) (h0 hc w0 w1 hs : Nat) (cJ : ClassId) (σ : SO) (p0 : Int32) (p1 : Int32) (post : Int32 → SO → Prop) (hw : wp_X3_set p0 p1 σ post) : KI l yX3_set wsX3_set ({ frames := 2, cells := 0, slots := 0, locals := 42 } : Room) (dC, dI) [(cJ, .long)] (cl3 h0 hc w0 w1 hs cJ σ) [.ref h0, .int p0, .int p1] (fun r u => ∃ σ', post r σ' ∧ u = (cl3 h0 hc w0 w1 hs cJ (σ'))) := by
  intro sz
  refine Met.ofW (cc := cX3_set) (maxL := 4) (ret := (some .int)) (by decide) rfl ?_
  intro p e s m args below meth c s₁ B hml hv
  obtain ⟨rfl, hsz, hP, hK, hD0, hnw⟩ := hv
  have hx := B.exec
  have hb := B.bytes
  have hr := B.returns
  have hts := atoms_spec (ws := wsX3_set) B.pre
  have hown : s.vm.findClass RX3 = some m.cls := findClass_of_methodNamed B.named
  have hlocks := B.notSynchronized
  subst hsz
  have hD := hD0.self (sz := s.heap.size)
  generalize hAe : va_A (cl3 h0 hc w0 w1 hs cJ σ) s.heap.size = A at hD ⊢
  have hA : ∀ q : Nat, s.heap.size ≤ q → A q := fun q h => by rw [← hAe]; exact Or.inr h
  have hS : va_S A s.heap s.heap [] := va_S.rf
  have hP : va_P (dC, dI) vwCl [(h0, .inr (2, [.ref hc, .ref hs])), (hc, .inr (0, [.ref w0, .ref w1, .int σ.1.1, .int σ.1.2.1, .int σ.1.2.2.1])), (w0, .inl (cJ, 512, .inr (.inl (σ.1.2.2.2.1)))), (w1, .inl (cJ, 9, .inr (.inl (σ.1.2.2.2.2)))), (hs, .inr (1, [.int σ.2.1, .int σ.2.2.1, .int σ.2.2.2.1, .int σ.2.2.2.2.1, .int σ.2.2.2.2.2.1, .int σ.2.2.2.2.2.2.1, .int σ.2.2.2.2.2.2.2.1, .int σ.2.2.2.2.2.2.2.2]))] s.heap := hP
  have hD : va_D A [(h0, .inr (2, [.ref hc, .ref hs])), (hc, .inr (0, [.ref w0, .ref w1, .int σ.1.1, .int σ.1.2.1, .int σ.1.2.2.1])), (w0, .inl (cJ, 512, .inr (.inl (σ.1.2.2.2.1)))), (w1, .inl (cJ, 9, .inr (.inl (σ.1.2.2.2.2)))), (hs, .inr (1, [.int σ.2.1, .int σ.2.2.1, .int σ.2.2.2.1, .int σ.2.2.2.2.1, .int σ.2.2.2.2.2.1, .int σ.2.2.2.2.2.2.1, .int σ.2.2.2.2.2.2.2.1, .int σ.2.2.2.2.2.2.2.2]))] := hD
  have fl_19 := hts (.fieldLink RX3 19 "OnePlaceEach" "stepped" "LOnePlaceEach$Stepped;") (by decide +kernel)
  have hin0 : ∀ w ∈ wsX30, w ∈ wsX3_set := by decide +kernel
  have hl := lv_entry ([.ref h0, .int p0, .int p1]) (n := 4) (Nat.le_of_ble_eq_true rfl)
  rw [lg_entry_eq]
  generalize (lg_sl ([.ref h0, .int p0, .int p1]) ++ List.replicate (4 - (lg_sl ([.ref h0, .int p0, .int p1])).length) Slot.unset).toArray = ls at hl ⊢
  have hl : lv_has ls 4 [(0, .ref h0), (1, .int p0), (2, .int p1)] := hl
  unfold wp_X3_set at hw
  skip
  obtain ⟨H, hH⟩ : ∃ H, H = s.heap := ⟨_, rfl⟩
  obtain ⟨locs, hlo⟩ : ∃ q : List Loc, q = [] := ⟨_, rfl⟩
  rw [← hH] at hP
  have hS : va_S A s.heap H locs := by rw [hH, hlo]; exact hS
  suffices hgo : W p l e (headSpec wsX3_set ({ frames := 2, cells := 0, slots := 0, locals := 42 } : Room)).room s m _ below meth c H locs 0 0 _ (F0 m 0 ls []) by rw [hH, hlo] at hgo; exact hgo
  refine lv_aload_n hx hb dX3_set_0 rfl (lv_at hl 0 rfl) ?_
  refine va_get (D := (dC, dI)) (ci := 2) (v := .ref hs) (C := RX3) (T := TX3) (N := 2) hx hb hts hin0 hown hK hP 0 rfl rfl 1 (by decide) fl_19 (fun _ h9 => h9) rfl dX3_set_1 ?_
  refine lv_iload_n hx hb dX3_set_4 rfl (lv_at hl 1 rfl) ?_
  have hPc := hP.sub (ws' := [(hs, .inr (1, [.int σ.2.1, .int σ.2.2.1, .int σ.2.2.2.1, .int σ.2.2.2.2.1, .int σ.2.2.2.2.2.1, .int σ.2.2.2.2.2.2.1, .int σ.2.2.2.2.2.2.2.1, .int σ.2.2.2.2.2.2.2.2]))]) [4] rfl
  have hDc := hD.sub (ws' := [(hs, .inr (1, [.int σ.2.1, .int σ.2.2.1, .int σ.2.2.2.1, .int σ.2.2.2.2.1, .int σ.2.2.2.2.2.1, .int σ.2.2.2.2.2.2.1, .int σ.2.2.2.2.2.2.2.1, .int σ.2.2.2.2.2.2.2.2]))]) [4] (by decide) rfl
  have hKc := hK.sub (tys' := []) [] rfl
  have hFc := va_free (wc := [(hs, .inr (1, [.int σ.2.1, .int σ.2.2.1, .int σ.2.2.2.1, .int σ.2.2.2.2.1, .int σ.2.2.2.2.2.1, .int σ.2.2.2.2.2.2.1, .int σ.2.2.2.2.2.2.2.1, .int σ.2.2.2.2.2.2.2.2]))]) hD hS hA [4] rfl
  refine kc_i (wr := [(h0, .inr (2, [.ref hc, .ref hs])), (hc, .inr (0, [.ref w0, .ref w1, .int σ.1.1, .int σ.1.2.1, .int σ.1.2.2.1])), (w0, .inl (cJ, 512, .inr (.inl (σ.1.2.2.2.1)))), (w1, .inl (cJ, 9, .inr (.inl (σ.1.2.2.2.2))))]) (kr_V (As := [.int p0]) (rest := []) (b := hs) (ws := [(h0, .inr (2, [.ref hc, .ref hs])), (hc, .inr (0, [.ref w0, .ref w1, .int σ.1.1, .int σ.1.2.1, .int σ.1.2.2.1])), (w0, .inl (cJ, 512, .inr (.inl (σ.1.2.2.2.1)))), (w1, .inl (cJ, 9, .inr (.inl (σ.1.2.2.2.2)))), (hs, .inr (1, [.int σ.2.1, .int σ.2.2.1, .int σ.2.2.2.1, .int σ.2.2.2.2.1, .int σ.2.2.2.2.2.1, .int σ.2.2.2.2.2.2.1, .int σ.2.2.2.2.2.2.2.1, .int σ.2.2.2.2.2.2.2.2]))]) ⟨hx, hb, hml, hown, hts⟩ (c_X2_mayHavePlace l dC dI hs σ.2 p0 _ hw H.size) (cwV 1 hts gX3_set_X2_mayHavePlace rfl rfl rfl (by decide +kernel) ⟨Nat.le_of_ble_eq_true rfl, Nat.le_of_ble_eq_true rfl⟩) 1 4 hK rfl rfl rfl hKc hnw hP hD hPc hDc rfl hl.1 rfl (Nat.le_of_ble_eq_true rfl) dX3_set_5 ⟨Nat.zero_le _, Nat.zero_le _⟩) hP hD hS hFc [4] [0, 1, 2, 3] rfl rfl (by decide) (by decide) (fun r1 u1 H locs hq hP hD hS => ?_)
  obtain ⟨hw, rfl⟩ := hq
  have hP : va_P (dC, dI) vwCl [(h0, .inr (2, [.ref hc, .ref hs])), (hc, .inr (0, [.ref w0, .ref w1, .int σ.1.1, .int σ.1.2.1, .int σ.1.2.2.1])), (w0, .inl (cJ, 512, .inr (.inl (σ.1.2.2.2.1)))), (w1, .inl (cJ, 9, .inr (.inl (σ.1.2.2.2.2)))), (hs, .inr (1, [.int σ.2.1, .int σ.2.2.1, .int σ.2.2.2.1, .int σ.2.2.2.2.1, .int σ.2.2.2.2.2.1, .int σ.2.2.2.2.2.2.1, .int σ.2.2.2.2.2.2.2.1, .int σ.2.2.2.2.2.2.2.2]))] H := hP
  have hD : va_D A [(h0, .inr (2, [.ref hc, .ref hs])), (hc, .inr (0, [.ref w0, .ref w1, .int σ.1.1, .int σ.1.2.1, .int σ.1.2.2.1])), (w0, .inl (cJ, 512, .inr (.inl (σ.1.2.2.2.1)))), (w1, .inl (cJ, 9, .inr (.inl (σ.1.2.2.2.2)))), (hs, .inr (1, [.int σ.2.1, .int σ.2.2.1, .int σ.2.2.2.1, .int σ.2.2.2.2.1, .int σ.2.2.2.2.2.1, .int σ.2.2.2.2.2.2.1, .int σ.2.2.2.2.2.2.2.1, .int σ.2.2.2.2.2.2.2.2]))] := hD
  refine lv_if_eq (tgt := 20) hx hb dX3_set_8 (by decide) (fun c3 => ?_) (fun c3 => ?_)
  · have hw := hw.1 c3
    refine lv_iconst (v := (-1 : Int32)) hx hb dX3_set_20 (by decide) ?_
    exact W.iret (v := (-1 : Int32)) hx hb hr (fun t ht hW => ⟨⟨(-1 : Int32), ((cl3 h0 hc w0 w1 hs cJ σ)), rfl, ⟨σ, hw, rfl⟩, by rw [ht]; exact hP, va_K.moved hW.alike hK, hD⟩, hS.F ht⟩) hS.2.2 dX3_set_21
  · have hw := hw.2 c3
    refine lv_iload_n hx hb dX3_set_11 rfl (lv_at hl 2 rfl) ?_
    refine lv_iconst (v := (0 : Int32)) hx hb dX3_set_12 (by decide) ?_
    refine lv_iconst (v := (2 : Int32)) hx hb dX3_set_13 (by decide) ?_
    have hPc := hP.sub (ws' := ([] : va_W)) [] rfl
    have hDc := hD.sub (ws' := ([] : va_W)) [] (by decide) rfl
    have hKc := hK.sub (tys' := []) [] rfl
    have hFc := va_free (wc := ([] : va_W)) hD hS hA [] rfl
    refine kc_i (wr := [(h0, .inr (2, [.ref hc, .ref hs])), (hc, .inr (0, [.ref w0, .ref w1, .int σ.1.1, .int σ.1.2.1, .int σ.1.2.2.1])), (w0, .inl (cJ, 512, .inr (.inl (σ.1.2.2.2.1)))), (w1, .inl (cJ, 9, .inr (.inl (σ.1.2.2.2.2)))), (hs, .inr (1, [.int σ.2.1, .int σ.2.2.1, .int σ.2.2.2.1, .int σ.2.2.2.2.1, .int σ.2.2.2.2.2.1, .int σ.2.2.2.2.2.2.1, .int σ.2.2.2.2.2.2.2.1, .int σ.2.2.2.2.2.2.2.2]))]) (kr_S (As := [.int p1, .int (0 : Int32), .int (2 : Int32)]) (rest := []) (ws := [(h0, .inr (2, [.ref hc, .ref hs])), (hc, .inr (0, [.ref w0, .ref w1, .int σ.1.1, .int σ.1.2.1, .int σ.1.2.2.1])), (w0, .inl (cJ, 512, .inr (.inl (σ.1.2.2.2.1)))), (w1, .inl (cJ, 9, .inr (.inl (σ.1.2.2.2.2)))), (hs, .inr (1, [.int σ.2.1, .int σ.2.2.1, .int σ.2.2.2.1, .int σ.2.2.2.2.1, .int σ.2.2.2.2.2.1, .int σ.2.2.2.2.2.2.1, .int σ.2.2.2.2.2.2.2.1, .int σ.2.2.2.2.2.2.2.2]))]) ⟨hx, hb, hml, hown, hts⟩ (c_X3_isWithin l dC dI   p1 (0 : Int32) (2 : Int32) _ hw H.size) (va_cwS 3 hts gX3_set_X3_isWithin rfl rfl rfl (by decide +kernel) ⟨Nat.le_of_ble_eq_true rfl, Nat.le_of_ble_eq_true rfl⟩) hKc hnw hP hD hPc hDc rfl hl.1 rfl (Nat.le_of_ble_eq_true rfl) dX3_set_14 ⟨Nat.zero_le _, Nat.zero_le _⟩) hP hD hS hFc [] [0, 1, 2, 3, 4] rfl rfl (by decide) (by decide) (fun r4 u1 H locs hq hP hD hS => ?_)
    obtain ⟨hw, rfl⟩ := hq
    have hP : va_P (dC, dI) vwCl [(h0, .inr (2, [.ref hc, .ref hs])), (hc, .inr (0, [.ref w0, .ref w1, .int σ.1.1, .int σ.1.2.1, .int σ.1.2.2.1])), (w0, .inl (cJ, 512, .inr (.inl (σ.1.2.2.2.1)))), (w1, .inl (cJ, 9, .inr (.inl (σ.1.2.2.2.2)))), (hs, .inr (1, [.int σ.2.1, .int σ.2.2.1, .int σ.2.2.2.1, .int σ.2.2.2.2.1, .int σ.2.2.2.2.2.1, .int σ.2.2.2.2.2.2.1, .int σ.2.2.2.2.2.2.2.1, .int σ.2.2.2.2.2.2.2.2]))] H := hP
    have hD : va_D A [(h0, .inr (2, [.ref hc, .ref hs])), (hc, .inr (0, [.ref w0, .ref w1, .int σ.1.1, .int σ.1.2.1, .int σ.1.2.2.1])), (w0, .inl (cJ, 512, .inr (.inl (σ.1.2.2.2.1)))), (w1, .inl (cJ, 9, .inr (.inl (σ.1.2.2.2.2)))), (hs, .inr (1, [.int σ.2.1, .int σ.2.2.1, .int σ.2.2.2.1, .int σ.2.2.2.2.1, .int σ.2.2.2.2.2.1, .int σ.2.2.2.2.2.2.1, .int σ.2.2.2.2.2.2.2.1, .int σ.2.2.2.2.2.2.2.2]))] := hD
    refine lv_if_ne (tgt := 22) hx hb dX3_set_17 (by decide) (fun c6 => ?_) (fun c6 => ?_)
    · have hw := hw.1 c6
      refine lv_aload_n hx hb dX3_set_22 rfl (lv_at hl 0 rfl) ?_
      refine va_get (D := (dC, dI)) (ci := 2) (v := .ref hs) (C := RX3) (T := TX3) (N := 2) hx hb hts hin0 hown hK hP 0 rfl rfl 1 (by decide) fl_19 (fun _ h9 => h9) rfl dX3_set_23 ?_
      have hPc := hP.sub (ws' := [(hs, .inr (1, [.int σ.2.1, .int σ.2.2.1, .int σ.2.2.2.1, .int σ.2.2.2.2.1, .int σ.2.2.2.2.2.1, .int σ.2.2.2.2.2.2.1, .int σ.2.2.2.2.2.2.2.1, .int σ.2.2.2.2.2.2.2.2]))]) [4] rfl
      have hDc := hD.sub (ws' := [(hs, .inr (1, [.int σ.2.1, .int σ.2.2.1, .int σ.2.2.2.1, .int σ.2.2.2.2.1, .int σ.2.2.2.2.2.1, .int σ.2.2.2.2.2.2.1, .int σ.2.2.2.2.2.2.2.1, .int σ.2.2.2.2.2.2.2.2]))]) [4] (by decide) rfl
      have hKc := hK.sub (tys' := []) [] rfl
      have hFc := va_free (wc := [(hs, .inr (1, [.int σ.2.1, .int σ.2.2.1, .int σ.2.2.2.1, .int σ.2.2.2.2.1, .int σ.2.2.2.2.2.1, .int σ.2.2.2.2.2.2.1, .int σ.2.2.2.2.2.2.2.1, .int σ.2.2.2.2.2.2.2.2]))]) hD hS hA [4] rfl
      refine kc_i (wr := [(h0, .inr (2, [.ref hc, .ref hs])), (hc, .inr (0, [.ref w0, .ref w1, .int σ.1.1, .int σ.1.2.1, .int σ.1.2.2.1])), (w0, .inl (cJ, 512, .inr (.inl (σ.1.2.2.2.1)))), (w1, .inl (cJ, 9, .inr (.inl (σ.1.2.2.2.2))))]) (kr_V (As := []) (rest := []) (b := hs) (ws := [(h0, .inr (2, [.ref hc, .ref hs])), (hc, .inr (0, [.ref w0, .ref w1, .int σ.1.1, .int σ.1.2.1, .int σ.1.2.2.1])), (w0, .inl (cJ, 512, .inr (.inl (σ.1.2.2.2.1)))), (w1, .inl (cJ, 9, .inr (.inl (σ.1.2.2.2.2)))), (hs, .inr (1, [.int σ.2.1, .int σ.2.2.1, .int σ.2.2.2.1, .int σ.2.2.2.2.1, .int σ.2.2.2.2.2.1, .int σ.2.2.2.2.2.2.1, .int σ.2.2.2.2.2.2.2.1, .int σ.2.2.2.2.2.2.2.2]))]) ⟨hx, hb, hml, hown, hts⟩ (c_X2_isThere l dC dI hs σ.2  _ hw H.size) (cwV 0 hts gX3_set_X2_isThere rfl rfl rfl (by decide +kernel) ⟨Nat.le_of_ble_eq_true rfl, Nat.le_of_ble_eq_true rfl⟩) 1 4 hK rfl rfl rfl hKc hnw hP hD hPc hDc rfl hl.1 rfl (Nat.le_of_ble_eq_true rfl) dX3_set_26 ⟨Nat.zero_le _, Nat.zero_le _⟩) hP hD hS hFc [4] [0, 1, 2, 3] rfl rfl (by decide) (by decide) (fun r7 u1 H locs hq hP hD hS => ?_)
      obtain ⟨hw, rfl⟩ := hq
      have hP : va_P (dC, dI) vwCl [(h0, .inr (2, [.ref hc, .ref hs])), (hc, .inr (0, [.ref w0, .ref w1, .int σ.1.1, .int σ.1.2.1, .int σ.1.2.2.1])), (w0, .inl (cJ, 512, .inr (.inl (σ.1.2.2.2.1)))), (w1, .inl (cJ, 9, .inr (.inl (σ.1.2.2.2.2)))), (hs, .inr (1, [.int σ.2.1, .int σ.2.2.1, .int σ.2.2.2.1, .int σ.2.2.2.2.1, .int σ.2.2.2.2.2.1, .int σ.2.2.2.2.2.2.1, .int σ.2.2.2.2.2.2.2.1, .int σ.2.2.2.2.2.2.2.2]))] H := hP
      have hD : va_D A [(h0, .inr (2, [.ref hc, .ref hs])), (hc, .inr (0, [.ref w0, .ref w1, .int σ.1.1, .int σ.1.2.1, .int σ.1.2.2.1])), (w0, .inl (cJ, 512, .inr (.inl (σ.1.2.2.2.1)))), (w1, .inl (cJ, 9, .inr (.inl (σ.1.2.2.2.2)))), (hs, .inr (1, [.int σ.2.1, .int σ.2.2.1, .int σ.2.2.2.1, .int σ.2.2.2.2.1, .int σ.2.2.2.2.2.1, .int σ.2.2.2.2.2.2.1, .int σ.2.2.2.2.2.2.2.1, .int σ.2.2.2.2.2.2.2.2]))] := hD
      refine lv_if_ne (tgt := 35) hx hb dX3_set_29 (by decide) (fun c9 => ?_) (fun c9 => ?_)
      · have hw := hw.1 c9
        refine lv_aload_n hx hb dX3_set_35 rfl (lv_at hl 0 rfl) ?_
        refine va_get (D := (dC, dI)) (ci := 2) (v := .ref hs) (C := RX3) (T := TX3) (N := 2) hx hb hts hin0 hown hK hP 0 rfl rfl 1 (by decide) fl_19 (fun _ h9 => h9) rfl dX3_set_36 ?_
        refine lv_iload_n hx hb dX3_set_39 rfl (lv_at hl 1 rfl) ?_
        have hPc := hP.sub (ws' := [(hs, .inr (1, [.int σ.2.1, .int σ.2.2.1, .int σ.2.2.2.1, .int σ.2.2.2.2.1, .int σ.2.2.2.2.2.1, .int σ.2.2.2.2.2.2.1, .int σ.2.2.2.2.2.2.2.1, .int σ.2.2.2.2.2.2.2.2]))]) [4] rfl
        have hDc := hD.sub (ws' := [(hs, .inr (1, [.int σ.2.1, .int σ.2.2.1, .int σ.2.2.2.1, .int σ.2.2.2.2.1, .int σ.2.2.2.2.2.1, .int σ.2.2.2.2.2.2.1, .int σ.2.2.2.2.2.2.2.1, .int σ.2.2.2.2.2.2.2.2]))]) [4] (by decide) rfl
        have hKc := hK.sub (tys' := []) [] rfl
        have hFc := va_free (wc := [(hs, .inr (1, [.int σ.2.1, .int σ.2.2.1, .int σ.2.2.2.1, .int σ.2.2.2.2.1, .int σ.2.2.2.2.2.1, .int σ.2.2.2.2.2.2.1, .int σ.2.2.2.2.2.2.2.1, .int σ.2.2.2.2.2.2.2.2]))]) hD hS hA [4] rfl
        refine kc_i (wr := [(h0, .inr (2, [.ref hc, .ref hs])), (hc, .inr (0, [.ref w0, .ref w1, .int σ.1.1, .int σ.1.2.1, .int σ.1.2.2.1])), (w0, .inl (cJ, 512, .inr (.inl (σ.1.2.2.2.1)))), (w1, .inl (cJ, 9, .inr (.inl (σ.1.2.2.2.2))))]) (kr_V (As := [.int p0]) (rest := []) (b := hs) (ws := [(h0, .inr (2, [.ref hc, .ref hs])), (hc, .inr (0, [.ref w0, .ref w1, .int σ.1.1, .int σ.1.2.1, .int σ.1.2.2.1])), (w0, .inl (cJ, 512, .inr (.inl (σ.1.2.2.2.1)))), (w1, .inl (cJ, 9, .inr (.inl (σ.1.2.2.2.2)))), (hs, .inr (1, [.int σ.2.1, .int σ.2.2.1, .int σ.2.2.2.1, .int σ.2.2.2.2.1, .int σ.2.2.2.2.2.1, .int σ.2.2.2.2.2.2.1, .int σ.2.2.2.2.2.2.2.1, .int σ.2.2.2.2.2.2.2.2]))]) ⟨hx, hb, hml, hown, hts⟩ (c_X2_sortAt l dC dI hs σ.2 p0 _ hw H.size) (cwV 1 hts gX3_set_X2_sortAt rfl rfl rfl (by decide +kernel) ⟨Nat.le_of_ble_eq_true rfl, Nat.le_of_ble_eq_true rfl⟩) 1 4 hK rfl rfl rfl hKc hnw hP hD hPc hDc rfl hl.1 rfl (Nat.le_of_ble_eq_true rfl) dX3_set_40 ⟨Nat.zero_le _, Nat.zero_le _⟩) hP hD hS hFc [4] [0, 1, 2, 3] rfl rfl (by decide) (by decide) (fun r10 u1 H locs hq hP hD hS => ?_)
        obtain ⟨hw, rfl⟩ := hq
        have hP : va_P (dC, dI) vwCl [(h0, .inr (2, [.ref hc, .ref hs])), (hc, .inr (0, [.ref w0, .ref w1, .int σ.1.1, .int σ.1.2.1, .int σ.1.2.2.1])), (w0, .inl (cJ, 512, .inr (.inl (σ.1.2.2.2.1)))), (w1, .inl (cJ, 9, .inr (.inl (σ.1.2.2.2.2)))), (hs, .inr (1, [.int σ.2.1, .int σ.2.2.1, .int σ.2.2.2.1, .int σ.2.2.2.2.1, .int σ.2.2.2.2.2.1, .int σ.2.2.2.2.2.2.1, .int σ.2.2.2.2.2.2.2.1, .int σ.2.2.2.2.2.2.2.2]))] H := hP
        have hD : va_D A [(h0, .inr (2, [.ref hc, .ref hs])), (hc, .inr (0, [.ref w0, .ref w1, .int σ.1.1, .int σ.1.2.1, .int σ.1.2.2.1])), (w0, .inl (cJ, 512, .inr (.inl (σ.1.2.2.2.1)))), (w1, .inl (cJ, 9, .inr (.inl (σ.1.2.2.2.2)))), (hs, .inr (1, [.int σ.2.1, .int σ.2.2.1, .int σ.2.2.2.1, .int σ.2.2.2.2.1, .int σ.2.2.2.2.2.1, .int σ.2.2.2.2.2.2.1, .int σ.2.2.2.2.2.2.2.1, .int σ.2.2.2.2.2.2.2.2]))] := hD
        refine lv_istore_n (lv' := [(3, .int r10), (0, .ref h0), (1, .int p0), (2, .int p1)]) hx hb dX3_set_43 rfl hl (by decide) rfl (fun ls hl => ?_)
        refine lv_aload_n hx hb dX3_set_44 rfl (lv_at hl 1 rfl) ?_
        refine va_get (D := (dC, dI)) (ci := 2) (v := .ref hs) (C := RX3) (T := TX3) (N := 2) hx hb hts hin0 hown hK hP 0 rfl rfl 1 (by decide) fl_19 (fun _ h9 => h9) rfl dX3_set_45 ?_
        refine lv_iload_n hx hb dX3_set_48 rfl (lv_at hl 2 rfl) ?_
        refine lv_iload_n hx hb dX3_set_49 rfl (lv_at hl 3 rfl) ?_
        have hPc := hP.sub (ws' := [(hs, .inr (1, [.int σ.2.1, .int σ.2.2.1, .int σ.2.2.2.1, .int σ.2.2.2.2.1, .int σ.2.2.2.2.2.1, .int σ.2.2.2.2.2.2.1, .int σ.2.2.2.2.2.2.2.1, .int σ.2.2.2.2.2.2.2.2]))]) [4] rfl
        have hDc := hD.sub (ws' := [(hs, .inr (1, [.int σ.2.1, .int σ.2.2.1, .int σ.2.2.2.1, .int σ.2.2.2.2.1, .int σ.2.2.2.2.2.1, .int σ.2.2.2.2.2.2.1, .int σ.2.2.2.2.2.2.2.1, .int σ.2.2.2.2.2.2.2.2]))]) [4] (by decide) rfl
        have hKc := hK.sub (tys' := []) [] rfl
        have hFc := va_free (wc := [(hs, .inr (1, [.int σ.2.1, .int σ.2.2.1, .int σ.2.2.2.1, .int σ.2.2.2.2.1, .int σ.2.2.2.2.2.1, .int σ.2.2.2.2.2.2.1, .int σ.2.2.2.2.2.2.2.1, .int σ.2.2.2.2.2.2.2.2]))]) hD hS hA [4] rfl
        refine kc_v (wr := [(h0, .inr (2, [.ref hc, .ref hs])), (hc, .inr (0, [.ref w0, .ref w1, .int σ.1.1, .int σ.1.2.1, .int σ.1.2.2.1])), (w0, .inl (cJ, 512, .inr (.inl (σ.1.2.2.2.1)))), (w1, .inl (cJ, 9, .inr (.inl (σ.1.2.2.2.2))))]) (kr_V (As := [.int p0, .int p1]) (rest := []) (b := hs) (ws := [(h0, .inr (2, [.ref hc, .ref hs])), (hc, .inr (0, [.ref w0, .ref w1, .int σ.1.1, .int σ.1.2.1, .int σ.1.2.2.1])), (w0, .inl (cJ, 512, .inr (.inl (σ.1.2.2.2.1)))), (w1, .inl (cJ, 9, .inr (.inl (σ.1.2.2.2.2)))), (hs, .inr (1, [.int σ.2.1, .int σ.2.2.1, .int σ.2.2.2.1, .int σ.2.2.2.2.1, .int σ.2.2.2.2.2.1, .int σ.2.2.2.2.2.2.1, .int σ.2.2.2.2.2.2.2.1, .int σ.2.2.2.2.2.2.2.2]))]) ⟨hx, hb, hml, hown, hts⟩ (c_X2_put l dC dI hs σ.2 p0 p1 _ hw H.size) (cwV 2 hts gX3_set_X2_put rfl rfl rfl (by decide +kernel) ⟨Nat.le_of_ble_eq_true rfl, Nat.le_of_ble_eq_true rfl⟩) 1 4 hK rfl rfl rfl hKc hnw hP hD hPc hDc rfl hl.1 rfl (Nat.le_of_ble_eq_true rfl) dX3_set_50 ⟨Nat.zero_le _, Nat.zero_le _⟩) hP hD hS hFc [4] [0, 1, 2, 3] rfl rfl (by decide) (by decide) (fun u1 H locs hq hP hD hS => ?_)
        obtain ⟨σ13, hw, rfl⟩ := hq
        have hP : va_P (dC, dI) vwCl [(h0, .inr (2, [.ref hc, .ref hs])), (hc, .inr (0, [.ref w0, .ref w1, .int σ.1.1, .int σ.1.2.1, .int σ.1.2.2.1])), (w0, .inl (cJ, 512, .inr (.inl (σ.1.2.2.2.1)))), (w1, .inl (cJ, 9, .inr (.inl (σ.1.2.2.2.2)))), (hs, .inr (1, [.int σ13.1, .int σ13.2.1, .int σ13.2.2.1, .int σ13.2.2.2.1, .int σ13.2.2.2.2.1, .int σ13.2.2.2.2.2.1, .int σ13.2.2.2.2.2.2.1, .int σ13.2.2.2.2.2.2.2]))] H := hP
        have hD : va_D A [(h0, .inr (2, [.ref hc, .ref hs])), (hc, .inr (0, [.ref w0, .ref w1, .int σ.1.1, .int σ.1.2.1, .int σ.1.2.2.1])), (w0, .inl (cJ, 512, .inr (.inl (σ.1.2.2.2.1)))), (w1, .inl (cJ, 9, .inr (.inl (σ.1.2.2.2.2)))), (hs, .inr (1, [.int σ13.1, .int σ13.2.1, .int σ13.2.2.1, .int σ13.2.2.2.1, .int σ13.2.2.2.2.1, .int σ13.2.2.2.2.2.1, .int σ13.2.2.2.2.2.2.1, .int σ13.2.2.2.2.2.2.2]))] := hD
        refine lv_iload_n hx hb dX3_set_53 rfl (lv_at hl 0 rfl) ?_
        exact W.iret (v := r10) hx hb hr (fun t ht hW => ⟨⟨r10, ((cl3 h0 hc w0 w1 hs cJ (σ.1, σ13))), rfl, ⟨(σ.1, σ13), hw, rfl⟩, by rw [ht]; exact hP, va_K.moved hW.alike hK, hD⟩, hS.F ht⟩) hS.2.2 dX3_set_54
      · have hw := hw.2 c9
        refine lv_bipush (v := (-2 : Int32)) hx hb dX3_set_32 (by decide) ?_
        exact W.iret (v := (-2 : Int32)) hx hb hr (fun t ht hW => ⟨⟨(-2 : Int32), ((cl3 h0 hc w0 w1 hs cJ σ)), rfl, ⟨σ, hw, rfl⟩, by rw [ht]; exact hP, va_K.moved hW.alike hK, hD⟩, hS.F ht⟩) hS.2.2 dX3_set_34
    · have hw := hw.2 c6
      refine lv_iconst (v := (-1 : Int32)) hx hb dX3_set_20 (by decide) ?_
      exact W.iret (v := (-1 : Int32)) hx hb hr (fun t ht hW => ⟨⟨(-1 : Int32), ((cl3 h0 hc w0 w1 hs cJ σ)), rfl, ⟨σ, hw, rfl⟩, by rw [ht]; exact hP, va_K.moved hW.alike hK, hD⟩, hS.F ht⟩) hS.2.2 dX3_set_21
set_option maxHeartbeats 4000000 in
set_option maxRecDepth 100000 in
theorem c_X3_seed (l : Launch) (dC : Nat → ClassId) (dI : Nat → Nat → Nat) (h0 hc w0 w1 hs : Nat) (cJ : ClassId) (σ : SO) (p0 : Int32) (post : Int32 → SO → Prop) (hw : wp_X3_seed p0 σ post) : KI l yX3_seed wsX3_seed ({ frames := 1, cells := 0, slots := 0, locals := 21 } : Room) (dC, dI) [(cJ, .long)] (cl3 h0 hc w0 w1 hs cJ σ) [.ref h0, .int p0] (fun r u => ∃ σ', post r σ' ∧ u = (cl3 h0 hc w0 w1 hs cJ (σ'))) := by
  intro sz
  refine Met.ofW (cc := cX3_seed) (maxL := 2) (ret := (some .int)) (by decide) rfl ?_
  intro p e s m args below meth c s₁ B hml hv
  obtain ⟨rfl, hsz, hP, hK, hD0, hnw⟩ := hv
  have hx := B.exec
  have hb := B.bytes
  have hr := B.returns
  have hts := atoms_spec (ws := wsX3_seed) B.pre
  have hown : s.vm.findClass RX3 = some m.cls := findClass_of_methodNamed B.named
  have hlocks := B.notSynchronized
  subst hsz
  have hD := hD0.self (sz := s.heap.size)
  generalize hAe : va_A (cl3 h0 hc w0 w1 hs cJ σ) s.heap.size = A at hD ⊢
  have hA : ∀ q : Nat, s.heap.size ≤ q → A q := fun q h => by rw [← hAe]; exact Or.inr h
  have hS : va_S A s.heap s.heap [] := va_S.rf
  have hP : va_P (dC, dI) vwCl [(h0, .inr (2, [.ref hc, .ref hs])), (hc, .inr (0, [.ref w0, .ref w1, .int σ.1.1, .int σ.1.2.1, .int σ.1.2.2.1])), (w0, .inl (cJ, 512, .inr (.inl (σ.1.2.2.2.1)))), (w1, .inl (cJ, 9, .inr (.inl (σ.1.2.2.2.2)))), (hs, .inr (1, [.int σ.2.1, .int σ.2.2.1, .int σ.2.2.2.1, .int σ.2.2.2.2.1, .int σ.2.2.2.2.2.1, .int σ.2.2.2.2.2.2.1, .int σ.2.2.2.2.2.2.2.1, .int σ.2.2.2.2.2.2.2.2]))] s.heap := hP
  have hD : va_D A [(h0, .inr (2, [.ref hc, .ref hs])), (hc, .inr (0, [.ref w0, .ref w1, .int σ.1.1, .int σ.1.2.1, .int σ.1.2.2.1])), (w0, .inl (cJ, 512, .inr (.inl (σ.1.2.2.2.1)))), (w1, .inl (cJ, 9, .inr (.inl (σ.1.2.2.2.2)))), (hs, .inr (1, [.int σ.2.1, .int σ.2.2.1, .int σ.2.2.2.1, .int σ.2.2.2.2.1, .int σ.2.2.2.2.2.1, .int σ.2.2.2.2.2.2.1, .int σ.2.2.2.2.2.2.2.1, .int σ.2.2.2.2.2.2.2.2]))] := hD
  have fl_19 := hts (.fieldLink RX3 19 "OnePlaceEach" "stepped" "LOnePlaceEach$Stepped;") (by decide +kernel)
  have hin0 : ∀ w ∈ wsX30, w ∈ wsX3_seed := by decide +kernel
  have hl := lv_entry ([.ref h0, .int p0]) (n := 2) (Nat.le_of_ble_eq_true rfl)
  rw [lg_entry_eq]
  generalize (lg_sl ([.ref h0, .int p0]) ++ List.replicate (2 - (lg_sl ([.ref h0, .int p0])).length) Slot.unset).toArray = ls at hl ⊢
  have hl : lv_has ls 2 [(0, .ref h0), (1, .int p0)] := hl
  unfold wp_X3_seed at hw
  skip
  obtain ⟨H, hH⟩ : ∃ H, H = s.heap := ⟨_, rfl⟩
  obtain ⟨locs, hlo⟩ : ∃ q : List Loc, q = [] := ⟨_, rfl⟩
  rw [← hH] at hP
  have hS : va_S A s.heap H locs := by rw [hH, hlo]; exact hS
  suffices hgo : W p l e (headSpec wsX3_seed ({ frames := 1, cells := 0, slots := 0, locals := 21 } : Room)).room s m _ below meth c H locs 0 0 _ (F0 m 0 ls []) by rw [hH, hlo] at hgo; exact hgo
  refine lv_iload_n hx hb dX3_seed_0 rfl (lv_at hl 1 rfl) ?_
  refine lv_if_ge (tgt := 6) hx hb dX3_seed_1 (by decide) (fun c1 => ?_) (fun c1 => ?_)
  · have hw := hw.1 c1
    refine lv_aload_n hx hb dX3_seed_6 rfl (lv_at hl 0 rfl) ?_
    refine va_get (D := (dC, dI)) (ci := 2) (v := .ref hs) (C := RX3) (T := TX3) (N := 2) hx hb hts hin0 hown hK hP 0 rfl rfl 1 (by decide) fl_19 (fun _ h9 => h9) rfl dX3_seed_7 ?_
    have hPc := hP.sub (ws' := [(hs, .inr (1, [.int σ.2.1, .int σ.2.2.1, .int σ.2.2.2.1, .int σ.2.2.2.2.1, .int σ.2.2.2.2.2.1, .int σ.2.2.2.2.2.2.1, .int σ.2.2.2.2.2.2.2.1, .int σ.2.2.2.2.2.2.2.2]))]) [4] rfl
    have hDc := hD.sub (ws' := [(hs, .inr (1, [.int σ.2.1, .int σ.2.2.1, .int σ.2.2.2.1, .int σ.2.2.2.2.1, .int σ.2.2.2.2.2.1, .int σ.2.2.2.2.2.2.1, .int σ.2.2.2.2.2.2.2.1, .int σ.2.2.2.2.2.2.2.2]))]) [4] (by decide) rfl
    have hKc := hK.sub (tys' := []) [] rfl
    have hFc := va_free (wc := [(hs, .inr (1, [.int σ.2.1, .int σ.2.2.1, .int σ.2.2.2.1, .int σ.2.2.2.2.1, .int σ.2.2.2.2.2.1, .int σ.2.2.2.2.2.2.1, .int σ.2.2.2.2.2.2.2.1, .int σ.2.2.2.2.2.2.2.2]))]) hD hS hA [4] rfl
    refine kc_i (wr := [(h0, .inr (2, [.ref hc, .ref hs])), (hc, .inr (0, [.ref w0, .ref w1, .int σ.1.1, .int σ.1.2.1, .int σ.1.2.2.1])), (w0, .inl (cJ, 512, .inr (.inl (σ.1.2.2.2.1)))), (w1, .inl (cJ, 9, .inr (.inl (σ.1.2.2.2.2))))]) (kr_V (As := []) (rest := []) (b := hs) (ws := [(h0, .inr (2, [.ref hc, .ref hs])), (hc, .inr (0, [.ref w0, .ref w1, .int σ.1.1, .int σ.1.2.1, .int σ.1.2.2.1])), (w0, .inl (cJ, 512, .inr (.inl (σ.1.2.2.2.1)))), (w1, .inl (cJ, 9, .inr (.inl (σ.1.2.2.2.2)))), (hs, .inr (1, [.int σ.2.1, .int σ.2.2.1, .int σ.2.2.2.1, .int σ.2.2.2.2.1, .int σ.2.2.2.2.2.1, .int σ.2.2.2.2.2.2.1, .int σ.2.2.2.2.2.2.2.1, .int σ.2.2.2.2.2.2.2.2]))]) ⟨hx, hb, hml, hown, hts⟩ (c_X2_isThere l dC dI hs σ.2  _ hw H.size) (cwV 0 hts gX3_seed_X2_isThere rfl rfl rfl (by decide +kernel) ⟨Nat.le_of_ble_eq_true rfl, Nat.le_of_ble_eq_true rfl⟩) 1 4 hK rfl rfl rfl hKc hnw hP hD hPc hDc rfl hl.1 rfl (Nat.le_of_ble_eq_true rfl) dX3_seed_10 ⟨Nat.zero_le _, Nat.zero_le _⟩) hP hD hS hFc [4] [0, 1, 2, 3] rfl rfl (by decide) (by decide) (fun r2 u1 H locs hq hP hD hS => ?_)
    obtain ⟨hw, rfl⟩ := hq
    have hP : va_P (dC, dI) vwCl [(h0, .inr (2, [.ref hc, .ref hs])), (hc, .inr (0, [.ref w0, .ref w1, .int σ.1.1, .int σ.1.2.1, .int σ.1.2.2.1])), (w0, .inl (cJ, 512, .inr (.inl (σ.1.2.2.2.1)))), (w1, .inl (cJ, 9, .inr (.inl (σ.1.2.2.2.2)))), (hs, .inr (1, [.int σ.2.1, .int σ.2.2.1, .int σ.2.2.2.1, .int σ.2.2.2.2.1, .int σ.2.2.2.2.2.1, .int σ.2.2.2.2.2.2.1, .int σ.2.2.2.2.2.2.2.1, .int σ.2.2.2.2.2.2.2.2]))] H := hP
    have hD : va_D A [(h0, .inr (2, [.ref hc, .ref hs])), (hc, .inr (0, [.ref w0, .ref w1, .int σ.1.1, .int σ.1.2.1, .int σ.1.2.2.1])), (w0, .inl (cJ, 512, .inr (.inl (σ.1.2.2.2.1)))), (w1, .inl (cJ, 9, .inr (.inl (σ.1.2.2.2.2)))), (hs, .inr (1, [.int σ.2.1, .int σ.2.2.1, .int σ.2.2.2.1, .int σ.2.2.2.2.1, .int σ.2.2.2.2.2.1, .int σ.2.2.2.2.2.2.1, .int σ.2.2.2.2.2.2.2.1, .int σ.2.2.2.2.2.2.2.2]))] := hD
    refine lv_if_ne (tgt := 19) hx hb dX3_seed_13 (by decide) (fun c4 => ?_) (fun c4 => ?_)
    · have hw := hw.1 c4
      refine lv_aload_n hx hb dX3_seed_19 rfl (lv_at hl 0 rfl) ?_
      refine va_get (D := (dC, dI)) (ci := 2) (v := .ref hs) (C := RX3) (T := TX3) (N := 2) hx hb hts hin0 hown hK hP 0 rfl rfl 1 (by decide) fl_19 (fun _ h9 => h9) rfl dX3_seed_20 ?_
      refine lv_iload_n hx hb dX3_seed_23 rfl (lv_at hl 1 rfl) ?_
      have hPc := hP.sub (ws' := [(hs, .inr (1, [.int σ.2.1, .int σ.2.2.1, .int σ.2.2.2.1, .int σ.2.2.2.2.1, .int σ.2.2.2.2.2.1, .int σ.2.2.2.2.2.2.1, .int σ.2.2.2.2.2.2.2.1, .int σ.2.2.2.2.2.2.2.2]))]) [4] rfl
      have hDc := hD.sub (ws' := [(hs, .inr (1, [.int σ.2.1, .int σ.2.2.1, .int σ.2.2.2.1, .int σ.2.2.2.2.1, .int σ.2.2.2.2.2.1, .int σ.2.2.2.2.2.2.1, .int σ.2.2.2.2.2.2.2.1, .int σ.2.2.2.2.2.2.2.2]))]) [4] (by decide) rfl
      have hKc := hK.sub (tys' := []) [] rfl
      have hFc := va_free (wc := [(hs, .inr (1, [.int σ.2.1, .int σ.2.2.1, .int σ.2.2.2.1, .int σ.2.2.2.2.1, .int σ.2.2.2.2.2.1, .int σ.2.2.2.2.2.2.1, .int σ.2.2.2.2.2.2.2.1, .int σ.2.2.2.2.2.2.2.2]))]) hD hS hA [4] rfl
      refine kc_v (wr := [(h0, .inr (2, [.ref hc, .ref hs])), (hc, .inr (0, [.ref w0, .ref w1, .int σ.1.1, .int σ.1.2.1, .int σ.1.2.2.1])), (w0, .inl (cJ, 512, .inr (.inl (σ.1.2.2.2.1)))), (w1, .inl (cJ, 9, .inr (.inl (σ.1.2.2.2.2))))]) (kr_V (As := [.int p0]) (rest := []) (b := hs) (ws := [(h0, .inr (2, [.ref hc, .ref hs])), (hc, .inr (0, [.ref w0, .ref w1, .int σ.1.1, .int σ.1.2.1, .int σ.1.2.2.1])), (w0, .inl (cJ, 512, .inr (.inl (σ.1.2.2.2.1)))), (w1, .inl (cJ, 9, .inr (.inl (σ.1.2.2.2.2)))), (hs, .inr (1, [.int σ.2.1, .int σ.2.2.1, .int σ.2.2.2.1, .int σ.2.2.2.2.1, .int σ.2.2.2.2.2.1, .int σ.2.2.2.2.2.2.1, .int σ.2.2.2.2.2.2.2.1, .int σ.2.2.2.2.2.2.2.2]))]) ⟨hx, hb, hml, hown, hts⟩ (c_X2_sow l dC dI hs σ.2 p0 _ hw H.size) (cwV 1 hts gX3_seed_X2_sow rfl rfl rfl (by decide +kernel) ⟨Nat.le_of_ble_eq_true rfl, Nat.le_of_ble_eq_true rfl⟩) 1 4 hK rfl rfl rfl hKc hnw hP hD hPc hDc rfl hl.1 rfl (Nat.le_of_ble_eq_true rfl) dX3_seed_24 ⟨Nat.zero_le _, Nat.zero_le _⟩) hP hD hS hFc [4] [0, 1, 2, 3] rfl rfl (by decide) (by decide) (fun u1 H locs hq hP hD hS => ?_)
      obtain ⟨σ6, hw, rfl⟩ := hq
      have hP : va_P (dC, dI) vwCl [(h0, .inr (2, [.ref hc, .ref hs])), (hc, .inr (0, [.ref w0, .ref w1, .int σ.1.1, .int σ.1.2.1, .int σ.1.2.2.1])), (w0, .inl (cJ, 512, .inr (.inl (σ.1.2.2.2.1)))), (w1, .inl (cJ, 9, .inr (.inl (σ.1.2.2.2.2)))), (hs, .inr (1, [.int σ6.1, .int σ6.2.1, .int σ6.2.2.1, .int σ6.2.2.2.1, .int σ6.2.2.2.2.1, .int σ6.2.2.2.2.2.1, .int σ6.2.2.2.2.2.2.1, .int σ6.2.2.2.2.2.2.2]))] H := hP
      have hD : va_D A [(h0, .inr (2, [.ref hc, .ref hs])), (hc, .inr (0, [.ref w0, .ref w1, .int σ.1.1, .int σ.1.2.1, .int σ.1.2.2.1])), (w0, .inl (cJ, 512, .inr (.inl (σ.1.2.2.2.1)))), (w1, .inl (cJ, 9, .inr (.inl (σ.1.2.2.2.2)))), (hs, .inr (1, [.int σ6.1, .int σ6.2.1, .int σ6.2.2.1, .int σ6.2.2.2.1, .int σ6.2.2.2.2.1, .int σ6.2.2.2.2.2.1, .int σ6.2.2.2.2.2.2.1, .int σ6.2.2.2.2.2.2.2]))] := hD
      refine lv_iconst (v := (0 : Int32)) hx hb dX3_seed_27 (by decide) ?_
      exact W.iret (v := (0 : Int32)) hx hb hr (fun t ht hW => ⟨⟨(0 : Int32), ((cl3 h0 hc w0 w1 hs cJ (σ.1, σ6))), rfl, ⟨(σ.1, σ6), hw, rfl⟩, by rw [ht]; exact hP, va_K.moved hW.alike hK, hD⟩, hS.F ht⟩) hS.2.2 dX3_seed_28
    · have hw := hw.2 c4
      refine lv_bipush (v := (-2 : Int32)) hx hb dX3_seed_16 (by decide) ?_
      exact W.iret (v := (-2 : Int32)) hx hb hr (fun t ht hW => ⟨⟨(-2 : Int32), ((cl3 h0 hc w0 w1 hs cJ σ)), rfl, ⟨σ, hw, rfl⟩, by rw [ht]; exact hP, va_K.moved hW.alike hK, hD⟩, hS.F ht⟩) hS.2.2 dX3_seed_18
  · have hw := hw.2 c1
    refine lv_iconst (v := (-1 : Int32)) hx hb dX3_seed_4 (by decide) ?_
    exact W.iret (v := (-1 : Int32)) hx hb hr (fun t ht hW => ⟨⟨(-1 : Int32), ((cl3 h0 hc w0 w1 hs cJ σ)), rfl, ⟨σ, hw, rfl⟩, by rw [ht]; exact hP, va_K.moved hW.alike hK, hD⟩, hS.F ht⟩) hS.2.2 dX3_seed_5
set_option maxHeartbeats 4000000 in
set_option maxRecDepth 100000 in
theorem c_X3_go (l : Launch) (dC : Nat → ClassId) (dI : Nat → Nat → Nat) (h0 hc w0 w1 hs : Nat) (cJ : ClassId) (σ : SO) (p0 : Int32) (post : Int32 → SO → Prop) (hw : wp_X3_go p0 σ post) : KI l yX3_go wsX3_go ({ frames := 5, cells := 0, slots := 0, locals := 112 } : Room) (dC, dI) [(cJ, .long)] (cl3 h0 hc w0 w1 hs cJ σ) [.ref h0, .int p0] (fun r u => ∃ σ', post r σ' ∧ u = (cl3 h0 hc w0 w1 hs cJ (σ'))) := by
  intro sz
  refine Met.ofW (cc := cX3_go) (maxL := 2) (ret := (some .int)) (by decide) rfl ?_
  intro p e s m args below meth c s₁ B hml hv
  obtain ⟨rfl, hsz, hP, hK, hD0, hnw⟩ := hv
  have hx := B.exec
  have hb := B.bytes
  have hr := B.returns
  have hts := atoms_spec (ws := wsX3_go) B.pre
  have hown : s.vm.findClass RX3 = some m.cls := findClass_of_methodNamed B.named
  have hlocks := B.notSynchronized
  subst hsz
  have hD := hD0.self (sz := s.heap.size)
  generalize hAe : va_A (cl3 h0 hc w0 w1 hs cJ σ) s.heap.size = A at hD ⊢
  have hA : ∀ q : Nat, s.heap.size ≤ q → A q := fun q h => by rw [← hAe]; exact Or.inr h
  have hS : va_S A s.heap s.heap [] := va_S.rf
  have hP : va_P (dC, dI) vwCl [(h0, .inr (2, [.ref hc, .ref hs])), (hc, .inr (0, [.ref w0, .ref w1, .int σ.1.1, .int σ.1.2.1, .int σ.1.2.2.1])), (w0, .inl (cJ, 512, .inr (.inl (σ.1.2.2.2.1)))), (w1, .inl (cJ, 9, .inr (.inl (σ.1.2.2.2.2)))), (hs, .inr (1, [.int σ.2.1, .int σ.2.2.1, .int σ.2.2.2.1, .int σ.2.2.2.2.1, .int σ.2.2.2.2.2.1, .int σ.2.2.2.2.2.2.1, .int σ.2.2.2.2.2.2.2.1, .int σ.2.2.2.2.2.2.2.2]))] s.heap := hP
  have hD : va_D A [(h0, .inr (2, [.ref hc, .ref hs])), (hc, .inr (0, [.ref w0, .ref w1, .int σ.1.1, .int σ.1.2.1, .int σ.1.2.2.1])), (w0, .inl (cJ, 512, .inr (.inl (σ.1.2.2.2.1)))), (w1, .inl (cJ, 9, .inr (.inl (σ.1.2.2.2.2)))), (hs, .inr (1, [.int σ.2.1, .int σ.2.2.1, .int σ.2.2.2.1, .int σ.2.2.2.2.1, .int σ.2.2.2.2.2.1, .int σ.2.2.2.2.2.2.1, .int σ.2.2.2.2.2.2.2.1, .int σ.2.2.2.2.2.2.2.2]))] := hD
  have fl_19 := hts (.fieldLink RX3 19 "OnePlaceEach" "stepped" "LOnePlaceEach$Stepped;") (by decide +kernel)
  have hin0 : ∀ w ∈ wsX30, w ∈ wsX3_go := by decide +kernel
  have hl := lv_entry ([.ref h0, .int p0]) (n := 2) (Nat.le_of_ble_eq_true rfl)
  rw [lg_entry_eq]
  generalize (lg_sl ([.ref h0, .int p0]) ++ List.replicate (2 - (lg_sl ([.ref h0, .int p0])).length) Slot.unset).toArray = ls at hl ⊢
  have hl : lv_has ls 2 [(0, .ref h0), (1, .int p0)] := hl
  unfold wp_X3_go at hw
  skip
  obtain ⟨H, hH⟩ : ∃ H, H = s.heap := ⟨_, rfl⟩
  obtain ⟨locs, hlo⟩ : ∃ q : List Loc, q = [] := ⟨_, rfl⟩
  rw [← hH] at hP
  have hS : va_S A s.heap H locs := by rw [hH, hlo]; exact hS
  suffices hgo : W p l e (headSpec wsX3_go ({ frames := 5, cells := 0, slots := 0, locals := 112 } : Room)).room s m _ below meth c H locs 0 0 _ (F0 m 0 ls []) by rw [hH, hlo] at hgo; exact hgo
  refine lv_iload_n hx hb dX3_go_0 rfl (lv_at hl 1 rfl) ?_
  refine lv_iconst (v := (1 : Int32)) hx hb dX3_go_1 (by decide) ?_
  refine lv_sipush (v := (10000 : Int32)) hx hb dX3_go_2 (by decide) ?_
  have hPc := hP.sub (ws' := ([] : va_W)) [] rfl
  have hDc := hD.sub (ws' := ([] : va_W)) [] (by decide) rfl
  have hKc := hK.sub (tys' := []) [] rfl
  have hFc := va_free (wc := ([] : va_W)) hD hS hA [] rfl
  refine kc_i (wr := [(h0, .inr (2, [.ref hc, .ref hs])), (hc, .inr (0, [.ref w0, .ref w1, .int σ.1.1, .int σ.1.2.1, .int σ.1.2.2.1])), (w0, .inl (cJ, 512, .inr (.inl (σ.1.2.2.2.1)))), (w1, .inl (cJ, 9, .inr (.inl (σ.1.2.2.2.2)))), (hs, .inr (1, [.int σ.2.1, .int σ.2.2.1, .int σ.2.2.2.1, .int σ.2.2.2.2.1, .int σ.2.2.2.2.2.1, .int σ.2.2.2.2.2.2.1, .int σ.2.2.2.2.2.2.2.1, .int σ.2.2.2.2.2.2.2.2]))]) (kr_S (As := [.int p0, .int (1 : Int32), .int (10000 : Int32)]) (rest := []) (ws := [(h0, .inr (2, [.ref hc, .ref hs])), (hc, .inr (0, [.ref w0, .ref w1, .int σ.1.1, .int σ.1.2.1, .int σ.1.2.2.1])), (w0, .inl (cJ, 512, .inr (.inl (σ.1.2.2.2.1)))), (w1, .inl (cJ, 9, .inr (.inl (σ.1.2.2.2.2)))), (hs, .inr (1, [.int σ.2.1, .int σ.2.2.1, .int σ.2.2.2.1, .int σ.2.2.2.2.1, .int σ.2.2.2.2.2.1, .int σ.2.2.2.2.2.2.1, .int σ.2.2.2.2.2.2.2.1, .int σ.2.2.2.2.2.2.2.2]))]) ⟨hx, hb, hml, hown, hts⟩ (c_X3_isWithin l dC dI   p0 (1 : Int32) (10000 : Int32) _ hw H.size) (va_cwS 3 hts gX3_go_X3_isWithin rfl rfl rfl (by decide +kernel) ⟨Nat.le_of_ble_eq_true rfl, Nat.le_of_ble_eq_true rfl⟩) hKc hnw hP hD hPc hDc rfl hl.1 rfl (Nat.le_of_ble_eq_true rfl) dX3_go_5 ⟨Nat.zero_le _, Nat.zero_le _⟩) hP hD hS hFc [] [0, 1, 2, 3, 4] rfl rfl (by decide) (by decide) (fun r1 u1 H locs hq hP hD hS => ?_)
  obtain ⟨hw, rfl⟩ := hq
  have hP : va_P (dC, dI) vwCl [(h0, .inr (2, [.ref hc, .ref hs])), (hc, .inr (0, [.ref w0, .ref w1, .int σ.1.1, .int σ.1.2.1, .int σ.1.2.2.1])), (w0, .inl (cJ, 512, .inr (.inl (σ.1.2.2.2.1)))), (w1, .inl (cJ, 9, .inr (.inl (σ.1.2.2.2.2)))), (hs, .inr (1, [.int σ.2.1, .int σ.2.2.1, .int σ.2.2.2.1, .int σ.2.2.2.2.1, .int σ.2.2.2.2.2.1, .int σ.2.2.2.2.2.2.1, .int σ.2.2.2.2.2.2.2.1, .int σ.2.2.2.2.2.2.2.2]))] H := hP
  have hD : va_D A [(h0, .inr (2, [.ref hc, .ref hs])), (hc, .inr (0, [.ref w0, .ref w1, .int σ.1.1, .int σ.1.2.1, .int σ.1.2.2.1])), (w0, .inl (cJ, 512, .inr (.inl (σ.1.2.2.2.1)))), (w1, .inl (cJ, 9, .inr (.inl (σ.1.2.2.2.2)))), (hs, .inr (1, [.int σ.2.1, .int σ.2.2.1, .int σ.2.2.2.1, .int σ.2.2.2.2.1, .int σ.2.2.2.2.2.1, .int σ.2.2.2.2.2.2.1, .int σ.2.2.2.2.2.2.2.1, .int σ.2.2.2.2.2.2.2.2]))] := hD
  refine lv_if_ne (tgt := 13) hx hb dX3_go_8 (by decide) (fun c3 => ?_) (fun c3 => ?_)
  · have hw := hw.1 c3
    refine lv_aload_n hx hb dX3_go_13 rfl (lv_at hl 0 rfl) ?_
    refine va_get (D := (dC, dI)) (ci := 2) (v := .ref hs) (C := RX3) (T := TX3) (N := 2) hx hb hts hin0 hown hK hP 0 rfl rfl 1 (by decide) fl_19 (fun _ h9 => h9) rfl dX3_go_14 ?_
    have hPc := hP.sub (ws' := [(hs, .inr (1, [.int σ.2.1, .int σ.2.2.1, .int σ.2.2.2.1, .int σ.2.2.2.2.1, .int σ.2.2.2.2.2.1, .int σ.2.2.2.2.2.2.1, .int σ.2.2.2.2.2.2.2.1, .int σ.2.2.2.2.2.2.2.2]))]) [4] rfl
    have hDc := hD.sub (ws' := [(hs, .inr (1, [.int σ.2.1, .int σ.2.2.1, .int σ.2.2.2.1, .int σ.2.2.2.2.1, .int σ.2.2.2.2.2.1, .int σ.2.2.2.2.2.2.1, .int σ.2.2.2.2.2.2.2.1, .int σ.2.2.2.2.2.2.2.2]))]) [4] (by decide) rfl
    have hKc := hK.sub (tys' := []) [] rfl
    have hFc := va_free (wc := [(hs, .inr (1, [.int σ.2.1, .int σ.2.2.1, .int σ.2.2.2.1, .int σ.2.2.2.2.1, .int σ.2.2.2.2.2.1, .int σ.2.2.2.2.2.2.1, .int σ.2.2.2.2.2.2.2.1, .int σ.2.2.2.2.2.2.2.2]))]) hD hS hA [4] rfl
    refine kc_i (wr := [(h0, .inr (2, [.ref hc, .ref hs])), (hc, .inr (0, [.ref w0, .ref w1, .int σ.1.1, .int σ.1.2.1, .int σ.1.2.2.1])), (w0, .inl (cJ, 512, .inr (.inl (σ.1.2.2.2.1)))), (w1, .inl (cJ, 9, .inr (.inl (σ.1.2.2.2.2))))]) (kr_V (As := []) (rest := []) (b := hs) (ws := [(h0, .inr (2, [.ref hc, .ref hs])), (hc, .inr (0, [.ref w0, .ref w1, .int σ.1.1, .int σ.1.2.1, .int σ.1.2.2.1])), (w0, .inl (cJ, 512, .inr (.inl (σ.1.2.2.2.1)))), (w1, .inl (cJ, 9, .inr (.inl (σ.1.2.2.2.2)))), (hs, .inr (1, [.int σ.2.1, .int σ.2.2.1, .int σ.2.2.2.1, .int σ.2.2.2.2.1, .int σ.2.2.2.2.2.1, .int σ.2.2.2.2.2.2.1, .int σ.2.2.2.2.2.2.2.1, .int σ.2.2.2.2.2.2.2.2]))]) ⟨hx, hb, hml, hown, hts⟩ (c_X2_isThere l dC dI hs σ.2  _ hw H.size) (cwV 0 hts gX3_go_X2_isThere rfl rfl rfl (by decide +kernel) ⟨Nat.le_of_ble_eq_true rfl, Nat.le_of_ble_eq_true rfl⟩) 1 4 hK rfl rfl rfl hKc hnw hP hD hPc hDc rfl hl.1 rfl (Nat.le_of_ble_eq_true rfl) dX3_go_17 ⟨Nat.zero_le _, Nat.zero_le _⟩) hP hD hS hFc [4] [0, 1, 2, 3] rfl rfl (by decide) (by decide) (fun r4 u1 H locs hq hP hD hS => ?_)
    obtain ⟨hw, rfl⟩ := hq
    have hP : va_P (dC, dI) vwCl [(h0, .inr (2, [.ref hc, .ref hs])), (hc, .inr (0, [.ref w0, .ref w1, .int σ.1.1, .int σ.1.2.1, .int σ.1.2.2.1])), (w0, .inl (cJ, 512, .inr (.inl (σ.1.2.2.2.1)))), (w1, .inl (cJ, 9, .inr (.inl (σ.1.2.2.2.2)))), (hs, .inr (1, [.int σ.2.1, .int σ.2.2.1, .int σ.2.2.2.1, .int σ.2.2.2.2.1, .int σ.2.2.2.2.2.1, .int σ.2.2.2.2.2.2.1, .int σ.2.2.2.2.2.2.2.1, .int σ.2.2.2.2.2.2.2.2]))] H := hP
    have hD : va_D A [(h0, .inr (2, [.ref hc, .ref hs])), (hc, .inr (0, [.ref w0, .ref w1, .int σ.1.1, .int σ.1.2.1, .int σ.1.2.2.1])), (w0, .inl (cJ, 512, .inr (.inl (σ.1.2.2.2.1)))), (w1, .inl (cJ, 9, .inr (.inl (σ.1.2.2.2.2)))), (hs, .inr (1, [.int σ.2.1, .int σ.2.2.1, .int σ.2.2.2.1, .int σ.2.2.2.2.1, .int σ.2.2.2.2.2.1, .int σ.2.2.2.2.2.2.1, .int σ.2.2.2.2.2.2.2.1, .int σ.2.2.2.2.2.2.2.2]))] := hD
    refine lv_if_eq (tgt := 34) hx hb dX3_go_20 (by decide) (fun c6 => ?_) (fun c6 => ?_)
    · have hw := hw.1 c6
      refine lv_bipush (v := (-2 : Int32)) hx hb dX3_go_34 (by decide) ?_
      exact W.iret (v := (-2 : Int32)) hx hb hr (fun t ht hW => ⟨⟨(-2 : Int32), ((cl3 h0 hc w0 w1 hs cJ σ)), rfl, ⟨σ, hw, rfl⟩, by rw [ht]; exact hP, va_K.moved hW.alike hK, hD⟩, hS.F ht⟩) hS.2.2 dX3_go_36
    · have hw := hw.2 c6
      refine lv_aload_n hx hb dX3_go_23 rfl (lv_at hl 0 rfl) ?_
      refine va_get (D := (dC, dI)) (ci := 2) (v := .ref hs) (C := RX3) (T := TX3) (N := 2) hx hb hts hin0 hown hK hP 0 rfl rfl 1 (by decide) fl_19 (fun _ h9 => h9) rfl dX3_go_24 ?_
      refine lv_iload_n hx hb dX3_go_27 rfl (lv_at hl 1 rfl) ?_
      have hPc := hP.sub (ws' := [(hs, .inr (1, [.int σ.2.1, .int σ.2.2.1, .int σ.2.2.2.1, .int σ.2.2.2.2.1, .int σ.2.2.2.2.2.1, .int σ.2.2.2.2.2.2.1, .int σ.2.2.2.2.2.2.2.1, .int σ.2.2.2.2.2.2.2.2]))]) [4] rfl
      have hDc := hD.sub (ws' := [(hs, .inr (1, [.int σ.2.1, .int σ.2.2.1, .int σ.2.2.2.1, .int σ.2.2.2.2.1, .int σ.2.2.2.2.2.1, .int σ.2.2.2.2.2.2.1, .int σ.2.2.2.2.2.2.2.1, .int σ.2.2.2.2.2.2.2.2]))]) [4] (by decide) rfl
      have hKc := hK.sub (tys' := []) [] rfl
      have hFc := va_free (wc := [(hs, .inr (1, [.int σ.2.1, .int σ.2.2.1, .int σ.2.2.2.1, .int σ.2.2.2.2.1, .int σ.2.2.2.2.2.1, .int σ.2.2.2.2.2.2.1, .int σ.2.2.2.2.2.2.2.1, .int σ.2.2.2.2.2.2.2.2]))]) hD hS hA [4] rfl
      refine kc_i (wr := [(h0, .inr (2, [.ref hc, .ref hs])), (hc, .inr (0, [.ref w0, .ref w1, .int σ.1.1, .int σ.1.2.1, .int σ.1.2.2.1])), (w0, .inl (cJ, 512, .inr (.inl (σ.1.2.2.2.1)))), (w1, .inl (cJ, 9, .inr (.inl (σ.1.2.2.2.2))))]) (kr_V (As := [.int p0]) (rest := []) (b := hs) (ws := [(h0, .inr (2, [.ref hc, .ref hs])), (hc, .inr (0, [.ref w0, .ref w1, .int σ.1.1, .int σ.1.2.1, .int σ.1.2.2.1])), (w0, .inl (cJ, 512, .inr (.inl (σ.1.2.2.2.1)))), (w1, .inl (cJ, 9, .inr (.inl (σ.1.2.2.2.2)))), (hs, .inr (1, [.int σ.2.1, .int σ.2.2.1, .int σ.2.2.2.1, .int σ.2.2.2.2.1, .int σ.2.2.2.2.2.1, .int σ.2.2.2.2.2.2.1, .int σ.2.2.2.2.2.2.2.1, .int σ.2.2.2.2.2.2.2.2]))]) ⟨hx, hb, hml, hown, hts⟩ (c_X2_stepSingly l dC dI hs σ.2 p0 _ hw H.size) (cwV 1 hts gX3_go_X2_stepSingly rfl rfl rfl (by decide +kernel) ⟨Nat.le_of_ble_eq_true rfl, Nat.le_of_ble_eq_true rfl⟩) 1 4 hK rfl rfl rfl hKc hnw hP hD hPc hDc rfl hl.1 rfl (Nat.le_of_ble_eq_true rfl) dX3_go_28 ⟨Nat.zero_le _, Nat.zero_le _⟩) hP hD hS hFc [4] [0, 1, 2, 3] rfl rfl (by decide) (by decide) (fun r7 u1 H locs hq hP hD hS => ?_)
      obtain ⟨σ8, hw, rfl⟩ := hq
      have hP : va_P (dC, dI) vwCl [(h0, .inr (2, [.ref hc, .ref hs])), (hc, .inr (0, [.ref w0, .ref w1, .int σ.1.1, .int σ.1.2.1, .int σ.1.2.2.1])), (w0, .inl (cJ, 512, .inr (.inl (σ.1.2.2.2.1)))), (w1, .inl (cJ, 9, .inr (.inl (σ.1.2.2.2.2)))), (hs, .inr (1, [.int σ8.1, .int σ8.2.1, .int σ8.2.2.1, .int σ8.2.2.2.1, .int σ8.2.2.2.2.1, .int σ8.2.2.2.2.2.1, .int σ8.2.2.2.2.2.2.1, .int σ8.2.2.2.2.2.2.2]))] H := hP
      have hD : va_D A [(h0, .inr (2, [.ref hc, .ref hs])), (hc, .inr (0, [.ref w0, .ref w1, .int σ.1.1, .int σ.1.2.1, .int σ.1.2.2.1])), (w0, .inl (cJ, 512, .inr (.inl (σ.1.2.2.2.1)))), (w1, .inl (cJ, 9, .inr (.inl (σ.1.2.2.2.2)))), (hs, .inr (1, [.int σ8.1, .int σ8.2.1, .int σ8.2.2.1, .int σ8.2.2.2.1, .int σ8.2.2.2.2.1, .int σ8.2.2.2.2.2.1, .int σ8.2.2.2.2.2.2.1, .int σ8.2.2.2.2.2.2.2]))] := hD
      refine lv_goto (tgt := 36) hx hb dX3_go_31 (by decide) ?_
      exact W.iret (v := r7) hx hb hr (fun t ht hW => ⟨⟨r7, ((cl3 h0 hc w0 w1 hs cJ (σ.1, σ8))), rfl, ⟨(σ.1, σ8), hw, rfl⟩, by rw [ht]; exact hP, va_K.moved hW.alike hK, hD⟩, hS.F ht⟩) hS.2.2 dX3_go_36
  · have hw := hw.2 c3
    refine lv_iconst (v := (-1 : Int32)) hx hb dX3_go_11 (by decide) ?_
    exact W.iret (v := (-1 : Int32)) hx hb hr (fun t ht hW => ⟨⟨(-1 : Int32), ((cl3 h0 hc w0 w1 hs cJ σ)), rfl, ⟨σ, hw, rfl⟩, by rw [ht]; exact hP, va_K.moved hW.alike hK, hD⟩, hS.F ht⟩) hS.2.2 dX3_go_12
