set_option maxHeartbeats 4000000 in
set_option maxRecDepth 100000 in
theorem c_X4_chance (l : Launch) (dC : Nat → ClassId) (dI : Nat → Nat → Nat) (h0 w0 so be : Nat) (cJ : ClassId) (cI : ClassId) (σ : SM) (p0 : Int32) (p1 : Int32) (post : Int64 → Prop) (hw : wp_X4_chance p0 p1 σ post) : KL l yX4_chance wsX4_chance ({ frames := 2, cells := 0, slots := 0, locals := 46 } : Room) (dC, dI) [(cJ, .long), (cI, .int)] (cl4 h0 w0 so be cJ cI σ) [.ref h0, .int p0, .int p1] (fun r u => post r ∧ u = (cl4 h0 w0 so be cJ cI σ)) := by
  intro sz
  refine Met.ofW (cc := cX4_chance) (maxL := 3) (ret := (some .long)) (by decide) rfl ?_
  intro p e s m args below meth c s₁ B hml hv
  obtain ⟨rfl, hsz, hP, hK, hD0, hnw⟩ := hv
  have hx := B.exec
  have hb := B.bytes
  have hr := B.returns
  have hts := atoms_spec (ws := wsX4_chance) B.pre
  have hown : s.vm.findClass RX4 = some m.cls := findClass_of_methodNamed B.named
  have hlocks := B.notSynchronized
  subst hsz
  have hD := hD0.self (sz := s.heap.size)
  generalize hAe : va_A (cl4 h0 w0 so be cJ cI σ) s.heap.size = A at hD ⊢
  have hA : ∀ q : Nat, s.heap.size ≤ q → A q := fun q h => by rw [← hAe]; exact Or.inr h
  have hS : va_S A s.heap s.heap [] := va_S.rf
  have hP : va_P (dC, dI) vwCl [(h0, .inr (3, [.int σ.1, .int σ.2.1, .int σ.2.2.1, .ref w0, .int σ.2.2.2.2.1, .int σ.2.2.2.2.2.1, .long σ.2.2.2.2.2.2.1, .ref so, .ref be, .int σ.2.2.2.2.2.2.2.2.2.1, .int σ.2.2.2.2.2.2.2.2.2.2.1, .int σ.2.2.2.2.2.2.2.2.2.2.2.1, .int σ.2.2.2.2.2.2.2.2.2.2.2.2])), (w0, .inl (cJ, 511, .inr (.inl (σ.2.2.2.1)))), (so, .inl (cI, 30, .inl (σ.2.2.2.2.2.2.2.1))), (be, .inl (cI, 30, .inl (σ.2.2.2.2.2.2.2.2.1)))] s.heap := hP
  have hD : va_D A [(h0, .inr (3, [.int σ.1, .int σ.2.1, .int σ.2.2.1, .ref w0, .int σ.2.2.2.2.1, .int σ.2.2.2.2.2.1, .long σ.2.2.2.2.2.2.1, .ref so, .ref be, .int σ.2.2.2.2.2.2.2.2.2.1, .int σ.2.2.2.2.2.2.2.2.2.2.1, .int σ.2.2.2.2.2.2.2.2.2.2.2.1, .int σ.2.2.2.2.2.2.2.2.2.2.2.2])), (w0, .inl (cJ, 511, .inr (.inl (σ.2.2.2.1)))), (so, .inl (cI, 30, .inl (σ.2.2.2.2.2.2.2.1))), (be, .inl (cI, 30, .inl (σ.2.2.2.2.2.2.2.2.1)))] := hD
  have fl_7 := hts (.fieldLink RX4 7 "OnePlaceEachModel" "n" "I") (by decide +kernel)
  have hin0 : ∀ w ∈ wsX40, w ∈ wsX4_chance := by decide +kernel
  have hl := lv_entry ([.ref h0, .int p0, .int p1]) (n := 3) (Nat.le_of_ble_eq_true rfl)
  rw [lg_entry_eq]
  generalize (lg_sl ([.ref h0, .int p0, .int p1]) ++ List.replicate (3 - (lg_sl ([.ref h0, .int p0, .int p1])).length) Slot.unset).toArray = ls at hl ⊢
  have hl : lv_has ls 3 [(0, .ref h0), (1, .int p0), (2, .int p1)] := hl
  unfold wp_X4_chance at hw
  skip
  obtain ⟨H, hH⟩ : ∃ H, H = s.heap := ⟨_, rfl⟩
  obtain ⟨locs, hlo⟩ : ∃ q : List Loc, q = [] := ⟨_, rfl⟩
  rw [← hH] at hP
  have hS : va_S A s.heap H locs := by rw [hH, hlo]; exact hS
  suffices hgo : W p l e (headSpec wsX4_chance ({ frames := 2, cells := 0, slots := 0, locals := 46 } : Room)).room s m _ below meth c H locs 0 0 _ (F0 m 0 ls []) by rw [hH, hlo] at hgo; exact hgo
  refine lv_aload_n hx hb dX4_chance_0 rfl (lv_at hl 0 rfl) ?_
  refine lv_iload_n hx hb dX4_chance_1 rfl (lv_at hl 1 rfl) ?_
  have hPc := hP
  have hDc := hD
  have hKc := hK
  have hFc := va_free (wc := [(h0, .inr (3, [.int σ.1, .int σ.2.1, .int σ.2.2.1, .ref w0, .int σ.2.2.2.2.1, .int σ.2.2.2.2.2.1, .long σ.2.2.2.2.2.2.1, .ref so, .ref be, .int σ.2.2.2.2.2.2.2.2.2.1, .int σ.2.2.2.2.2.2.2.2.2.2.1, .int σ.2.2.2.2.2.2.2.2.2.2.2.1, .int σ.2.2.2.2.2.2.2.2.2.2.2.2])), (w0, .inl (cJ, 511, .inr (.inl (σ.2.2.2.1)))), (so, .inl (cI, 30, .inl (σ.2.2.2.2.2.2.2.1))), (be, .inl (cI, 30, .inl (σ.2.2.2.2.2.2.2.2.1)))]) hD hS hA [0, 1, 2, 3] rfl
  refine kc_i (wr := ([] : va_W)) (kr_V (As := [.int p0]) (rest := []) (b := h0) (ws := [(h0, .inr (3, [.int σ.1, .int σ.2.1, .int σ.2.2.1, .ref w0, .int σ.2.2.2.2.1, .int σ.2.2.2.2.2.1, .long σ.2.2.2.2.2.2.1, .ref so, .ref be, .int σ.2.2.2.2.2.2.2.2.2.1, .int σ.2.2.2.2.2.2.2.2.2.2.1, .int σ.2.2.2.2.2.2.2.2.2.2.2.1, .int σ.2.2.2.2.2.2.2.2.2.2.2.2])), (w0, .inl (cJ, 511, .inr (.inl (σ.2.2.2.1)))), (so, .inl (cI, 30, .inl (σ.2.2.2.2.2.2.2.1))), (be, .inl (cI, 30, .inl (σ.2.2.2.2.2.2.2.2.1)))]) ⟨hx, hb, hml, hown, hts⟩ (c_X4_isState l dC dI h0 w0 so be cJ cI σ p0 _ hw H.size) (cwV 1 hts gX4_chance_X4_isState rfl rfl rfl (by decide +kernel) ⟨Nat.le_of_ble_eq_true rfl, Nat.le_of_ble_eq_true rfl⟩) 3 0 hK rfl rfl rfl hKc hnw hP hD hPc hDc rfl hl.1 rfl (Nat.le_of_ble_eq_true rfl) dX4_chance_2 ⟨Nat.zero_le _, Nat.zero_le _⟩) hP hD hS hFc [0, 1, 2, 3] [] rfl rfl (by decide) (by decide) (fun r1 u1 H locs hq hP hD hS => ?_)
  obtain ⟨hw, rfl⟩ := hq
  have hP : va_P (dC, dI) vwCl [(h0, .inr (3, [.int σ.1, .int σ.2.1, .int σ.2.2.1, .ref w0, .int σ.2.2.2.2.1, .int σ.2.2.2.2.2.1, .long σ.2.2.2.2.2.2.1, .ref so, .ref be, .int σ.2.2.2.2.2.2.2.2.2.1, .int σ.2.2.2.2.2.2.2.2.2.2.1, .int σ.2.2.2.2.2.2.2.2.2.2.2.1, .int σ.2.2.2.2.2.2.2.2.2.2.2.2])), (w0, .inl (cJ, 511, .inr (.inl (σ.2.2.2.1)))), (so, .inl (cI, 30, .inl (σ.2.2.2.2.2.2.2.1))), (be, .inl (cI, 30, .inl (σ.2.2.2.2.2.2.2.2.1)))] H := hP
  have hD : va_D A [(h0, .inr (3, [.int σ.1, .int σ.2.1, .int σ.2.2.1, .ref w0, .int σ.2.2.2.2.1, .int σ.2.2.2.2.2.1, .long σ.2.2.2.2.2.2.1, .ref so, .ref be, .int σ.2.2.2.2.2.2.2.2.2.1, .int σ.2.2.2.2.2.2.2.2.2.2.1, .int σ.2.2.2.2.2.2.2.2.2.2.2.1, .int σ.2.2.2.2.2.2.2.2.2.2.2.2])), (w0, .inl (cJ, 511, .inr (.inl (σ.2.2.2.1)))), (so, .inl (cI, 30, .inl (σ.2.2.2.2.2.2.2.1))), (be, .inl (cI, 30, .inl (σ.2.2.2.2.2.2.2.2.1)))] := hD
  refine lv_if_eq (tgt := 42) hx hb dX4_chance_5 (by decide) (fun c3 => ?_) (fun c3 => ?_)
  · have hw := hw.1 c3
    refine lv_ldc2 (v := (-1 : Int64)) hx hb hown (hts (.constantLong RX4 53 (-1 : Int64)) (by decide +kernel)) dX4_chance_42 ?_
    exact W.lret (v := (-1 : Int64)) hx hb hr (fun t ht hW => ⟨⟨(-1 : Int64), ((cl4 h0 w0 so be cJ cI σ)), rfl, ⟨hw, rfl⟩, by rw [ht]; exact hP, va_K.moved hW.alike hK, hD⟩, hS.F ht⟩) hS.2.2 dX4_chance_45
  · have hw := hw.2 c3
    refine lv_iload_n hx hb dX4_chance_8 rfl (lv_at hl 2 rfl) ?_
    refine lv_i2l hx hb dX4_chance_9 rfl ?_
    refine lv_lconst (v := (0 : Int64)) hx hb dX4_chance_10 (by decide) ?_
    refine lv_lconst (v := (1 : Int64)) hx hb dX4_chance_11 (by decide) ?_
    have hPc := hP.sub (ws' := ([] : va_W)) [] rfl
    have hDc := hD.sub (ws' := ([] : va_W)) [] (by decide) rfl
    have hKc := hK.sub (tys' := []) [] rfl
    have hFc := va_free (wc := ([] : va_W)) hD hS hA [] rfl
    refine kc_i (wr := [(h0, .inr (3, [.int σ.1, .int σ.2.1, .int σ.2.2.1, .ref w0, .int σ.2.2.2.2.1, .int σ.2.2.2.2.2.1, .long σ.2.2.2.2.2.2.1, .ref so, .ref be, .int σ.2.2.2.2.2.2.2.2.2.1, .int σ.2.2.2.2.2.2.2.2.2.2.1, .int σ.2.2.2.2.2.2.2.2.2.2.2.1, .int σ.2.2.2.2.2.2.2.2.2.2.2.2])), (w0, .inl (cJ, 511, .inr (.inl (σ.2.2.2.1)))), (so, .inl (cI, 30, .inl (σ.2.2.2.2.2.2.2.1))), (be, .inl (cI, 30, .inl (σ.2.2.2.2.2.2.2.2.1)))]) (kr_S (As := [.long (p1.toInt64), .long (0 : Int64), .long (1 : Int64)]) (rest := []) (ws := [(h0, .inr (3, [.int σ.1, .int σ.2.1, .int σ.2.2.1, .ref w0, .int σ.2.2.2.2.1, .int σ.2.2.2.2.2.1, .long σ.2.2.2.2.2.2.1, .ref so, .ref be, .int σ.2.2.2.2.2.2.2.2.2.1, .int σ.2.2.2.2.2.2.2.2.2.2.1, .int σ.2.2.2.2.2.2.2.2.2.2.2.1, .int σ.2.2.2.2.2.2.2.2.2.2.2.2])), (w0, .inl (cJ, 511, .inr (.inl (σ.2.2.2.1)))), (so, .inl (cI, 30, .inl (σ.2.2.2.2.2.2.2.1))), (be, .inl (cI, 30, .inl (σ.2.2.2.2.2.2.2.2.1)))]) ⟨hx, hb, hml, hown, hts⟩ (c_X4_in l dC dI   (p1.toInt64) (0 : Int64) (1 : Int64) _ hw H.size) (va_cwS 3 hts gX4_chance_X4_in rfl rfl rfl (by decide +kernel) ⟨Nat.le_of_ble_eq_true rfl, Nat.le_of_ble_eq_true rfl⟩) hKc hnw hP hD hPc hDc rfl hl.1 rfl (Nat.le_of_ble_eq_true rfl) dX4_chance_12 ⟨Nat.zero_le _, Nat.zero_le _⟩) hP hD hS hFc [] [0, 1, 2, 3] rfl rfl (by decide) (by decide) (fun r4 u1 H locs hq hP hD hS => ?_)
    obtain ⟨hw, rfl⟩ := hq
    have hP : va_P (dC, dI) vwCl [(h0, .inr (3, [.int σ.1, .int σ.2.1, .int σ.2.2.1, .ref w0, .int σ.2.2.2.2.1, .int σ.2.2.2.2.2.1, .long σ.2.2.2.2.2.2.1, .ref so, .ref be, .int σ.2.2.2.2.2.2.2.2.2.1, .int σ.2.2.2.2.2.2.2.2.2.2.1, .int σ.2.2.2.2.2.2.2.2.2.2.2.1, .int σ.2.2.2.2.2.2.2.2.2.2.2.2])), (w0, .inl (cJ, 511, .inr (.inl (σ.2.2.2.1)))), (so, .inl (cI, 30, .inl (σ.2.2.2.2.2.2.2.1))), (be, .inl (cI, 30, .inl (σ.2.2.2.2.2.2.2.2.1)))] H := hP
    have hD : va_D A [(h0, .inr (3, [.int σ.1, .int σ.2.1, .int σ.2.2.1, .ref w0, .int σ.2.2.2.2.1, .int σ.2.2.2.2.2.1, .long σ.2.2.2.2.2.2.1, .ref so, .ref be, .int σ.2.2.2.2.2.2.2.2.2.1, .int σ.2.2.2.2.2.2.2.2.2.2.1, .int σ.2.2.2.2.2.2.2.2.2.2.2.1, .int σ.2.2.2.2.2.2.2.2.2.2.2.2])), (w0, .inl (cJ, 511, .inr (.inl (σ.2.2.2.1)))), (so, .inl (cI, 30, .inl (σ.2.2.2.2.2.2.2.1))), (be, .inl (cI, 30, .inl (σ.2.2.2.2.2.2.2.2.1)))] := hD
    refine lv_if_eq (tgt := 42) hx hb dX4_chance_15 (by decide) (fun c6 => ?_) (fun c6 => ?_)
    · have hw := hw.1 c6
      refine lv_ldc2 (v := (-1 : Int64)) hx hb hown (hts (.constantLong RX4 53 (-1 : Int64)) (by decide +kernel)) dX4_chance_42 ?_
      exact W.lret (v := (-1 : Int64)) hx hb hr (fun t ht hW => ⟨⟨(-1 : Int64), ((cl4 h0 w0 so be cJ cI σ)), rfl, ⟨hw, rfl⟩, by rw [ht]; exact hP, va_K.moved hW.alike hK, hD⟩, hS.F ht⟩) hS.2.2 dX4_chance_45
    · have hw := hw.2 c6
      refine lv_aload_n hx hb dX4_chance_18 rfl (lv_at hl 0 rfl) ?_
      refine lv_aload_n hx hb dX4_chance_19 rfl (lv_at hl 0 rfl) ?_
      refine va_get (D := (dC, dI)) (ci := 3) (v := .int σ.1) (C := RX4) (T := TX4) (N := 13) hx hb hts hin0 hown hK hP 0 rfl rfl 0 (by decide) fl_7 (fun _ h9 => h9) rfl dX4_chance_20 ?_
      refine lv_iload_n hx hb dX4_chance_23 rfl (lv_at hl 1 rfl) ?_
      have hPc := hP
      have hDc := hD
      have hKc := hK
      have hFc := va_free (wc := [(h0, .inr (3, [.int σ.1, .int σ.2.1, .int σ.2.2.1, .ref w0, .int σ.2.2.2.2.1, .int σ.2.2.2.2.2.1, .long σ.2.2.2.2.2.2.1, .ref so, .ref be, .int σ.2.2.2.2.2.2.2.2.2.1, .int σ.2.2.2.2.2.2.2.2.2.2.1, .int σ.2.2.2.2.2.2.2.2.2.2.2.1, .int σ.2.2.2.2.2.2.2.2.2.2.2.2])), (w0, .inl (cJ, 511, .inr (.inl (σ.2.2.2.1)))), (so, .inl (cI, 30, .inl (σ.2.2.2.2.2.2.2.1))), (be, .inl (cI, 30, .inl (σ.2.2.2.2.2.2.2.2.1)))]) hD hS hA [0, 1, 2, 3] rfl
      refine kc_l (wr := ([] : va_W)) (kr_V (As := [.int σ.1, .int p0]) (rest := []) (b := h0) (ws := [(h0, .inr (3, [.int σ.1, .int σ.2.1, .int σ.2.2.1, .ref w0, .int σ.2.2.2.2.1, .int σ.2.2.2.2.2.1, .long σ.2.2.2.2.2.2.1, .ref so, .ref be, .int σ.2.2.2.2.2.2.2.2.2.1, .int σ.2.2.2.2.2.2.2.2.2.2.1, .int σ.2.2.2.2.2.2.2.2.2.2.2.1, .int σ.2.2.2.2.2.2.2.2.2.2.2.2])), (w0, .inl (cJ, 511, .inr (.inl (σ.2.2.2.1)))), (so, .inl (cI, 30, .inl (σ.2.2.2.2.2.2.2.1))), (be, .inl (cI, 30, .inl (σ.2.2.2.2.2.2.2.2.1)))]) ⟨hx, hb, hml, hown, hts⟩ (c_X4_weigh l dC dI h0 w0 so be cJ cI σ σ.1 p0 _ hw H.size) (cwV 2 hts gX4_chance_X4_weigh rfl rfl rfl (by decide +kernel) ⟨Nat.le_of_ble_eq_true rfl, Nat.le_of_ble_eq_true rfl⟩) 3 0 hK rfl rfl rfl hKc hnw hP hD hPc hDc rfl hl.1 rfl (Nat.le_of_ble_eq_true rfl) dX4_chance_24 ⟨Nat.zero_le _, Nat.zero_le _⟩) hP hD hS hFc [0, 1, 2, 3] [] rfl rfl (by decide) (by decide) (fun r7 u1 H locs hq hP hD hS => ?_)
      obtain ⟨hw, rfl⟩ := hq
      have hP : va_P (dC, dI) vwCl [(h0, .inr (3, [.int σ.1, .int σ.2.1, .int σ.2.2.1, .ref w0, .int σ.2.2.2.2.1, .int σ.2.2.2.2.2.1, .long σ.2.2.2.2.2.2.1, .ref so, .ref be, .int σ.2.2.2.2.2.2.2.2.2.1, .int σ.2.2.2.2.2.2.2.2.2.2.1, .int σ.2.2.2.2.2.2.2.2.2.2.2.1, .int σ.2.2.2.2.2.2.2.2.2.2.2.2])), (w0, .inl (cJ, 511, .inr (.inl (σ.2.2.2.1)))), (so, .inl (cI, 30, .inl (σ.2.2.2.2.2.2.2.1))), (be, .inl (cI, 30, .inl (σ.2.2.2.2.2.2.2.2.1)))] H := hP
      have hD : va_D A [(h0, .inr (3, [.int σ.1, .int σ.2.1, .int σ.2.2.1, .ref w0, .int σ.2.2.2.2.1, .int σ.2.2.2.2.2.1, .long σ.2.2.2.2.2.2.1, .ref so, .ref be, .int σ.2.2.2.2.2.2.2.2.2.1, .int σ.2.2.2.2.2.2.2.2.2.2.1, .int σ.2.2.2.2.2.2.2.2.2.2.2.1, .int σ.2.2.2.2.2.2.2.2.2.2.2.2])), (w0, .inl (cJ, 511, .inr (.inl (σ.2.2.2.1)))), (so, .inl (cI, 30, .inl (σ.2.2.2.2.2.2.2.1))), (be, .inl (cI, 30, .inl (σ.2.2.2.2.2.2.2.2.1)))] := hD
      refine lv_aload_n hx hb dX4_chance_27 rfl (lv_at hl 0 rfl) ?_
      refine lv_aload_n hx hb dX4_chance_28 rfl (lv_at hl 0 rfl) ?_
      refine va_get (D := (dC, dI)) (ci := 3) (v := .int σ.1) (C := RX4) (T := TX4) (N := 13) hx hb hts hin0 hown hK hP 0 rfl rfl 0 (by decide) fl_7 (fun _ h9 => h9) rfl dX4_chance_29 ?_
      have hPc := hP
      have hDc := hD
      have hKc := hK
      have hFc := va_free (wc := [(h0, .inr (3, [.int σ.1, .int σ.2.1, .int σ.2.2.1, .ref w0, .int σ.2.2.2.2.1, .int σ.2.2.2.2.2.1, .long σ.2.2.2.2.2.2.1, .ref so, .ref be, .int σ.2.2.2.2.2.2.2.2.2.1, .int σ.2.2.2.2.2.2.2.2.2.2.1, .int σ.2.2.2.2.2.2.2.2.2.2.2.1, .int σ.2.2.2.2.2.2.2.2.2.2.2.2])), (w0, .inl (cJ, 511, .inr (.inl (σ.2.2.2.1)))), (so, .inl (cI, 30, .inl (σ.2.2.2.2.2.2.2.1))), (be, .inl (cI, 30, .inl (σ.2.2.2.2.2.2.2.2.1)))]) hD hS hA [0, 1, 2, 3] rfl
      refine kc_l (wr := ([] : va_W)) (kr_V (As := [.int σ.1]) (rest := [.long r7]) (b := h0) (ws := [(h0, .inr (3, [.int σ.1, .int σ.2.1, .int σ.2.2.1, .ref w0, .int σ.2.2.2.2.1, .int σ.2.2.2.2.2.1, .long σ.2.2.2.2.2.2.1, .ref so, .ref be, .int σ.2.2.2.2.2.2.2.2.2.1, .int σ.2.2.2.2.2.2.2.2.2.2.1, .int σ.2.2.2.2.2.2.2.2.2.2.2.1, .int σ.2.2.2.2.2.2.2.2.2.2.2.2])), (w0, .inl (cJ, 511, .inr (.inl (σ.2.2.2.1)))), (so, .inl (cI, 30, .inl (σ.2.2.2.2.2.2.2.1))), (be, .inl (cI, 30, .inl (σ.2.2.2.2.2.2.2.2.1)))]) ⟨hx, hb, hml, hown, hts⟩ (c_X4_sumOf l dC dI h0 w0 so be cJ cI σ σ.1 _ hw H.size) (cwV 1 hts gX4_chance_X4_sumOf rfl rfl rfl (by decide +kernel) ⟨Nat.le_of_ble_eq_true rfl, Nat.le_of_ble_eq_true rfl⟩) 3 0 hK rfl rfl rfl hKc hnw hP hD hPc hDc rfl hl.1 rfl (Nat.le_of_ble_eq_true rfl) dX4_chance_32 ⟨Nat.zero_le _, Nat.zero_le _⟩) hP hD hS hFc [0, 1, 2, 3] [] rfl rfl (by decide) (by decide) (fun r9 u1 H locs hq hP hD hS => ?_)
      obtain ⟨hw, rfl⟩ := hq
      have hP : va_P (dC, dI) vwCl [(h0, .inr (3, [.int σ.1, .int σ.2.1, .int σ.2.2.1, .ref w0, .int σ.2.2.2.2.1, .int σ.2.2.2.2.2.1, .long σ.2.2.2.2.2.2.1, .ref so, .ref be, .int σ.2.2.2.2.2.2.2.2.2.1, .int σ.2.2.2.2.2.2.2.2.2.2.1, .int σ.2.2.2.2.2.2.2.2.2.2.2.1, .int σ.2.2.2.2.2.2.2.2.2.2.2.2])), (w0, .inl (cJ, 511, .inr (.inl (σ.2.2.2.1)))), (so, .inl (cI, 30, .inl (σ.2.2.2.2.2.2.2.1))), (be, .inl (cI, 30, .inl (σ.2.2.2.2.2.2.2.2.1)))] H := hP
      have hD : va_D A [(h0, .inr (3, [.int σ.1, .int σ.2.1, .int σ.2.2.1, .ref w0, .int σ.2.2.2.2.1, .int σ.2.2.2.2.2.1, .long σ.2.2.2.2.2.2.1, .ref so, .ref be, .int σ.2.2.2.2.2.2.2.2.2.1, .int σ.2.2.2.2.2.2.2.2.2.2.1, .int σ.2.2.2.2.2.2.2.2.2.2.2.1, .int σ.2.2.2.2.2.2.2.2.2.2.2.2])), (w0, .inl (cJ, 511, .inr (.inl (σ.2.2.2.1)))), (so, .inl (cI, 30, .inl (σ.2.2.2.2.2.2.2.1))), (be, .inl (cI, 30, .inl (σ.2.2.2.2.2.2.2.2.1)))] := hD
      refine lv_iload_n hx hb dX4_chance_35 rfl (lv_at hl 2 rfl) ?_
      have hPc := hP.sub (ws' := ([] : va_W)) [] rfl
      have hDc := hD.sub (ws' := ([] : va_W)) [] (by decide) rfl
      have hKc := hK.sub (tys' := []) [] rfl
      have hFc := va_free (wc := ([] : va_W)) hD hS hA [] rfl
      refine kc_l (wr := [(h0, .inr (3, [.int σ.1, .int σ.2.1, .int σ.2.2.1, .ref w0, .int σ.2.2.2.2.1, .int σ.2.2.2.2.2.1, .long σ.2.2.2.2.2.2.1, .ref so, .ref be, .int σ.2.2.2.2.2.2.2.2.2.1, .int σ.2.2.2.2.2.2.2.2.2.2.1, .int σ.2.2.2.2.2.2.2.2.2.2.2.1, .int σ.2.2.2.2.2.2.2.2.2.2.2.2])), (w0, .inl (cJ, 511, .inr (.inl (σ.2.2.2.1)))), (so, .inl (cI, 30, .inl (σ.2.2.2.2.2.2.2.1))), (be, .inl (cI, 30, .inl (σ.2.2.2.2.2.2.2.2.1)))]) (kr_S (As := [.long r7, .long r9, .int p1]) (rest := []) (ws := [(h0, .inr (3, [.int σ.1, .int σ.2.1, .int σ.2.2.1, .ref w0, .int σ.2.2.2.2.1, .int σ.2.2.2.2.2.1, .long σ.2.2.2.2.2.2.1, .ref so, .ref be, .int σ.2.2.2.2.2.2.2.2.2.1, .int σ.2.2.2.2.2.2.2.2.2.2.1, .int σ.2.2.2.2.2.2.2.2.2.2.2.1, .int σ.2.2.2.2.2.2.2.2.2.2.2.2])), (w0, .inl (cJ, 511, .inr (.inl (σ.2.2.2.1)))), (so, .inl (cI, 30, .inl (σ.2.2.2.2.2.2.2.1))), (be, .inl (cI, 30, .inl (σ.2.2.2.2.2.2.2.2.1)))]) ⟨hx, hb, hml, hown, hts⟩ (c_X4_least l dC dI   r7 r9 p1 _ hw H.size) (va_cwS 3 hts gX4_chance_X4_least rfl rfl rfl (by decide +kernel) ⟨Nat.le_of_ble_eq_true rfl, Nat.le_of_ble_eq_true rfl⟩) hKc hnw hP hD hPc hDc rfl hl.1 rfl (Nat.le_of_ble_eq_true rfl) dX4_chance_36 ⟨Nat.zero_le _, Nat.zero_le _⟩) hP hD hS hFc [] [0, 1, 2, 3] rfl rfl (by decide) (by decide) (fun r11 u1 H locs hq hP hD hS => ?_)
      obtain ⟨hw, rfl⟩ := hq
      have hP : va_P (dC, dI) vwCl [(h0, .inr (3, [.int σ.1, .int σ.2.1, .int σ.2.2.1, .ref w0, .int σ.2.2.2.2.1, .int σ.2.2.2.2.2.1, .long σ.2.2.2.2.2.2.1, .ref so, .ref be, .int σ.2.2.2.2.2.2.2.2.2.1, .int σ.2.2.2.2.2.2.2.2.2.2.1, .int σ.2.2.2.2.2.2.2.2.2.2.2.1, .int σ.2.2.2.2.2.2.2.2.2.2.2.2])), (w0, .inl (cJ, 511, .inr (.inl (σ.2.2.2.1)))), (so, .inl (cI, 30, .inl (σ.2.2.2.2.2.2.2.1))), (be, .inl (cI, 30, .inl (σ.2.2.2.2.2.2.2.2.1)))] H := hP
      have hD : va_D A [(h0, .inr (3, [.int σ.1, .int σ.2.1, .int σ.2.2.1, .ref w0, .int σ.2.2.2.2.1, .int σ.2.2.2.2.2.1, .long σ.2.2.2.2.2.2.1, .ref so, .ref be, .int σ.2.2.2.2.2.2.2.2.2.1, .int σ.2.2.2.2.2.2.2.2.2.2.1, .int σ.2.2.2.2.2.2.2.2.2.2.2.1, .int σ.2.2.2.2.2.2.2.2.2.2.2.2])), (w0, .inl (cJ, 511, .inr (.inl (σ.2.2.2.1)))), (so, .inl (cI, 30, .inl (σ.2.2.2.2.2.2.2.1))), (be, .inl (cI, 30, .inl (σ.2.2.2.2.2.2.2.2.1)))] := hD
      refine lv_goto (tgt := 45) hx hb dX4_chance_39 (by decide) ?_
      exact W.lret (v := r11) hx hb hr (fun t ht hW => ⟨⟨r11, ((cl4 h0 w0 so be cJ cI σ)), rfl, ⟨hw, rfl⟩, by rw [ht]; exact hP, va_K.moved hW.alike hK, hD⟩, hS.F ht⟩) hS.2.2 dX4_chance_45
set_option maxHeartbeats 4000000 in
set_option maxRecDepth 100000 in
theorem c_X4_current (l : Launch) (dC : Nat → ClassId) (dI : Nat → Nat → Nat) (h0 w0 so be : Nat) (cJ : ClassId) (cI : ClassId) (σ : SM) (p0 : Int32) (post : Int64 → Prop) (hw : wp_X4_current p0 σ post) : KL l yX4_current wsX4_current ({ frames := 2, cells := 0, slots := 0, locals := 46 } : Room) (dC, dI) [(cJ, .long), (cI, .int)] (cl4 h0 w0 so be cJ cI σ) [.ref h0, .int p0] (fun r u => post r ∧ u = (cl4 h0 w0 so be cJ cI σ)) := by
  intro sz
  refine Met.ofW (cc := cX4_current) (maxL := 2) (ret := (some .long)) (by decide) rfl ?_
  intro p e s m args below meth c s₁ B hml hv
  obtain ⟨rfl, hsz, hP, hK, hD0, hnw⟩ := hv
  have hx := B.exec
  have hb := B.bytes
  have hr := B.returns
  have hts := atoms_spec (ws := wsX4_current) B.pre
  have hown : s.vm.findClass RX4 = some m.cls := findClass_of_methodNamed B.named
  have hlocks := B.notSynchronized
  subst hsz
  have hD := hD0.self (sz := s.heap.size)
  generalize hAe : va_A (cl4 h0 w0 so be cJ cI σ) s.heap.size = A at hD ⊢
  have hA : ∀ q : Nat, s.heap.size ≤ q → A q := fun q h => by rw [← hAe]; exact Or.inr h
  have hS : va_S A s.heap s.heap [] := va_S.rf
  have hP : va_P (dC, dI) vwCl [(h0, .inr (3, [.int σ.1, .int σ.2.1, .int σ.2.2.1, .ref w0, .int σ.2.2.2.2.1, .int σ.2.2.2.2.2.1, .long σ.2.2.2.2.2.2.1, .ref so, .ref be, .int σ.2.2.2.2.2.2.2.2.2.1, .int σ.2.2.2.2.2.2.2.2.2.2.1, .int σ.2.2.2.2.2.2.2.2.2.2.2.1, .int σ.2.2.2.2.2.2.2.2.2.2.2.2])), (w0, .inl (cJ, 511, .inr (.inl (σ.2.2.2.1)))), (so, .inl (cI, 30, .inl (σ.2.2.2.2.2.2.2.1))), (be, .inl (cI, 30, .inl (σ.2.2.2.2.2.2.2.2.1)))] s.heap := hP
  have hD : va_D A [(h0, .inr (3, [.int σ.1, .int σ.2.1, .int σ.2.2.1, .ref w0, .int σ.2.2.2.2.1, .int σ.2.2.2.2.2.1, .long σ.2.2.2.2.2.2.1, .ref so, .ref be, .int σ.2.2.2.2.2.2.2.2.2.1, .int σ.2.2.2.2.2.2.2.2.2.2.1, .int σ.2.2.2.2.2.2.2.2.2.2.2.1, .int σ.2.2.2.2.2.2.2.2.2.2.2.2])), (w0, .inl (cJ, 511, .inr (.inl (σ.2.2.2.1)))), (so, .inl (cI, 30, .inl (σ.2.2.2.2.2.2.2.1))), (be, .inl (cI, 30, .inl (σ.2.2.2.2.2.2.2.2.1)))] := hD
  have fl_7 := hts (.fieldLink RX4 7 "OnePlaceEachModel" "n" "I") (by decide +kernel)
  have hin0 : ∀ w ∈ wsX40, w ∈ wsX4_current := by decide +kernel
  have hl := lv_entry ([.ref h0, .int p0]) (n := 2) (Nat.le_of_ble_eq_true rfl)
  rw [lg_entry_eq]
  generalize (lg_sl ([.ref h0, .int p0]) ++ List.replicate (2 - (lg_sl ([.ref h0, .int p0])).length) Slot.unset).toArray = ls at hl ⊢
  have hl : lv_has ls 2 [(0, .ref h0), (1, .int p0)] := hl
  unfold wp_X4_current at hw
  skip
  obtain ⟨H, hH⟩ : ∃ H, H = s.heap := ⟨_, rfl⟩
  obtain ⟨locs, hlo⟩ : ∃ q : List Loc, q = [] := ⟨_, rfl⟩
  rw [← hH] at hP
  have hS : va_S A s.heap H locs := by rw [hH, hlo]; exact hS
  suffices hgo : W p l e (headSpec wsX4_current ({ frames := 2, cells := 0, slots := 0, locals := 46 } : Room)).room s m _ below meth c H locs 0 0 _ (F0 m 0 ls []) by rw [hH, hlo] at hgo; exact hgo
  refine lv_iload_n hx hb dX4_current_0 rfl (lv_at hl 1 rfl) ?_
  refine lv_i2l hx hb dX4_current_1 rfl ?_
  refine lv_lconst (v := (0 : Int64)) hx hb dX4_current_2 (by decide) ?_
  refine lv_lconst (v := (1 : Int64)) hx hb dX4_current_3 (by decide) ?_
  have hPc := hP.sub (ws' := ([] : va_W)) [] rfl
  have hDc := hD.sub (ws' := ([] : va_W)) [] (by decide) rfl
  have hKc := hK.sub (tys' := []) [] rfl
  have hFc := va_free (wc := ([] : va_W)) hD hS hA [] rfl
  refine kc_i (wr := [(h0, .inr (3, [.int σ.1, .int σ.2.1, .int σ.2.2.1, .ref w0, .int σ.2.2.2.2.1, .int σ.2.2.2.2.2.1, .long σ.2.2.2.2.2.2.1, .ref so, .ref be, .int σ.2.2.2.2.2.2.2.2.2.1, .int σ.2.2.2.2.2.2.2.2.2.2.1, .int σ.2.2.2.2.2.2.2.2.2.2.2.1, .int σ.2.2.2.2.2.2.2.2.2.2.2.2])), (w0, .inl (cJ, 511, .inr (.inl (σ.2.2.2.1)))), (so, .inl (cI, 30, .inl (σ.2.2.2.2.2.2.2.1))), (be, .inl (cI, 30, .inl (σ.2.2.2.2.2.2.2.2.1)))]) (kr_S (As := [.long (p0.toInt64), .long (0 : Int64), .long (1 : Int64)]) (rest := []) (ws := [(h0, .inr (3, [.int σ.1, .int σ.2.1, .int σ.2.2.1, .ref w0, .int σ.2.2.2.2.1, .int σ.2.2.2.2.2.1, .long σ.2.2.2.2.2.2.1, .ref so, .ref be, .int σ.2.2.2.2.2.2.2.2.2.1, .int σ.2.2.2.2.2.2.2.2.2.2.1, .int σ.2.2.2.2.2.2.2.2.2.2.2.1, .int σ.2.2.2.2.2.2.2.2.2.2.2.2])), (w0, .inl (cJ, 511, .inr (.inl (σ.2.2.2.1)))), (so, .inl (cI, 30, .inl (σ.2.2.2.2.2.2.2.1))), (be, .inl (cI, 30, .inl (σ.2.2.2.2.2.2.2.2.1)))]) ⟨hx, hb, hml, hown, hts⟩ (c_X4_in l dC dI   (p0.toInt64) (0 : Int64) (1 : Int64) _ hw H.size) (va_cwS 3 hts gX4_current_X4_in rfl rfl rfl (by decide +kernel) ⟨Nat.le_of_ble_eq_true rfl, Nat.le_of_ble_eq_true rfl⟩) hKc hnw hP hD hPc hDc rfl hl.1 rfl (Nat.le_of_ble_eq_true rfl) dX4_current_4 ⟨Nat.zero_le _, Nat.zero_le _⟩) hP hD hS hFc [] [0, 1, 2, 3] rfl rfl (by decide) (by decide) (fun r1 u1 H locs hq hP hD hS => ?_)
  obtain ⟨hw, rfl⟩ := hq
  have hP : va_P (dC, dI) vwCl [(h0, .inr (3, [.int σ.1, .int σ.2.1, .int σ.2.2.1, .ref w0, .int σ.2.2.2.2.1, .int σ.2.2.2.2.2.1, .long σ.2.2.2.2.2.2.1, .ref so, .ref be, .int σ.2.2.2.2.2.2.2.2.2.1, .int σ.2.2.2.2.2.2.2.2.2.2.1, .int σ.2.2.2.2.2.2.2.2.2.2.2.1, .int σ.2.2.2.2.2.2.2.2.2.2.2.2])), (w0, .inl (cJ, 511, .inr (.inl (σ.2.2.2.1)))), (so, .inl (cI, 30, .inl (σ.2.2.2.2.2.2.2.1))), (be, .inl (cI, 30, .inl (σ.2.2.2.2.2.2.2.2.1)))] H := hP
  have hD : va_D A [(h0, .inr (3, [.int σ.1, .int σ.2.1, .int σ.2.2.1, .ref w0, .int σ.2.2.2.2.1, .int σ.2.2.2.2.2.1, .long σ.2.2.2.2.2.2.1, .ref so, .ref be, .int σ.2.2.2.2.2.2.2.2.2.1, .int σ.2.2.2.2.2.2.2.2.2.2.1, .int σ.2.2.2.2.2.2.2.2.2.2.2.1, .int σ.2.2.2.2.2.2.2.2.2.2.2.2])), (w0, .inl (cJ, 511, .inr (.inl (σ.2.2.2.1)))), (so, .inl (cI, 30, .inl (σ.2.2.2.2.2.2.2.1))), (be, .inl (cI, 30, .inl (σ.2.2.2.2.2.2.2.2.1)))] := hD
  refine lv_if_eq (tgt := 35) hx hb dX4_current_7 (by decide) (fun c3 => ?_) (fun c3 => ?_)
  · have hw := hw.1 c3
    refine lv_ldc2 (v := (-1 : Int64)) hx hb hown (hts (.constantLong RX4 53 (-1 : Int64)) (by decide +kernel)) dX4_current_35 ?_
    exact W.lret (v := (-1 : Int64)) hx hb hr (fun t ht hW => ⟨⟨(-1 : Int64), ((cl4 h0 w0 so be cJ cI σ)), rfl, ⟨hw, rfl⟩, by rw [ht]; exact hP, va_K.moved hW.alike hK, hD⟩, hS.F ht⟩) hS.2.2 dX4_current_38
  · have hw := hw.2 c3
    refine lv_aload_n hx hb dX4_current_10 rfl (lv_at hl 0 rfl) ?_
    refine lv_aload_n hx hb dX4_current_11 rfl (lv_at hl 0 rfl) ?_
    refine va_get (D := (dC, dI)) (ci := 3) (v := .int σ.1) (C := RX4) (T := TX4) (N := 13) hx hb hts hin0 hown hK hP 0 rfl rfl 0 (by decide) fl_7 (fun _ h9 => h9) rfl dX4_current_12 ?_
    refine lv_iconst (v := (1 : Int32)) hx hb dX4_current_15 (by decide) ?_
    refine lv_isub hx hb dX4_current_16 ?_
    have hPc := hP
    have hDc := hD
    have hKc := hK
    have hFc := va_free (wc := [(h0, .inr (3, [.int σ.1, .int σ.2.1, .int σ.2.2.1, .ref w0, .int σ.2.2.2.2.1, .int σ.2.2.2.2.2.1, .long σ.2.2.2.2.2.2.1, .ref so, .ref be, .int σ.2.2.2.2.2.2.2.2.2.1, .int σ.2.2.2.2.2.2.2.2.2.2.1, .int σ.2.2.2.2.2.2.2.2.2.2.2.1, .int σ.2.2.2.2.2.2.2.2.2.2.2.2])), (w0, .inl (cJ, 511, .inr (.inl (σ.2.2.2.1)))), (so, .inl (cI, 30, .inl (σ.2.2.2.2.2.2.2.1))), (be, .inl (cI, 30, .inl (σ.2.2.2.2.2.2.2.2.1)))]) hD hS hA [0, 1, 2, 3] rfl
    refine kc_l (wr := ([] : va_W)) (kr_V (As := [.int (σ.1 - (1 : Int32))]) (rest := []) (b := h0) (ws := [(h0, .inr (3, [.int σ.1, .int σ.2.1, .int σ.2.2.1, .ref w0, .int σ.2.2.2.2.1, .int σ.2.2.2.2.2.1, .long σ.2.2.2.2.2.2.1, .ref so, .ref be, .int σ.2.2.2.2.2.2.2.2.2.1, .int σ.2.2.2.2.2.2.2.2.2.2.1, .int σ.2.2.2.2.2.2.2.2.2.2.2.1, .int σ.2.2.2.2.2.2.2.2.2.2.2.2])), (w0, .inl (cJ, 511, .inr (.inl (σ.2.2.2.1)))), (so, .inl (cI, 30, .inl (σ.2.2.2.2.2.2.2.1))), (be, .inl (cI, 30, .inl (σ.2.2.2.2.2.2.2.2.1)))]) ⟨hx, hb, hml, hown, hts⟩ (c_X4_sumOf l dC dI h0 w0 so be cJ cI σ (σ.1 - (1 : Int32)) _ hw H.size) (cwV 1 hts gX4_current_X4_sumOf rfl rfl rfl (by decide +kernel) ⟨Nat.le_of_ble_eq_true rfl, Nat.le_of_ble_eq_true rfl⟩) 3 0 hK rfl rfl rfl hKc hnw hP hD hPc hDc rfl hl.1 rfl (Nat.le_of_ble_eq_true rfl) dX4_current_17 ⟨Nat.zero_le _, Nat.zero_le _⟩) hP hD hS hFc [0, 1, 2, 3] [] rfl rfl (by decide) (by decide) (fun r4 u1 H locs hq hP hD hS => ?_)
    obtain ⟨hw, rfl⟩ := hq
    have hP : va_P (dC, dI) vwCl [(h0, .inr (3, [.int σ.1, .int σ.2.1, .int σ.2.2.1, .ref w0, .int σ.2.2.2.2.1, .int σ.2.2.2.2.2.1, .long σ.2.2.2.2.2.2.1, .ref so, .ref be, .int σ.2.2.2.2.2.2.2.2.2.1, .int σ.2.2.2.2.2.2.2.2.2.2.1, .int σ.2.2.2.2.2.2.2.2.2.2.2.1, .int σ.2.2.2.2.2.2.2.2.2.2.2.2])), (w0, .inl (cJ, 511, .inr (.inl (σ.2.2.2.1)))), (so, .inl (cI, 30, .inl (σ.2.2.2.2.2.2.2.1))), (be, .inl (cI, 30, .inl (σ.2.2.2.2.2.2.2.2.1)))] H := hP
    have hD : va_D A [(h0, .inr (3, [.int σ.1, .int σ.2.1, .int σ.2.2.1, .ref w0, .int σ.2.2.2.2.1, .int σ.2.2.2.2.2.1, .long σ.2.2.2.2.2.2.1, .ref so, .ref be, .int σ.2.2.2.2.2.2.2.2.2.1, .int σ.2.2.2.2.2.2.2.2.2.2.1, .int σ.2.2.2.2.2.2.2.2.2.2.2.1, .int σ.2.2.2.2.2.2.2.2.2.2.2.2])), (w0, .inl (cJ, 511, .inr (.inl (σ.2.2.2.1)))), (so, .inl (cI, 30, .inl (σ.2.2.2.2.2.2.2.1))), (be, .inl (cI, 30, .inl (σ.2.2.2.2.2.2.2.2.1)))] := hD
    refine lv_aload_n hx hb dX4_current_20 rfl (lv_at hl 0 rfl) ?_
    refine lv_aload_n hx hb dX4_current_21 rfl (lv_at hl 0 rfl) ?_
    refine va_get (D := (dC, dI)) (ci := 3) (v := .int σ.1) (C := RX4) (T := TX4) (N := 13) hx hb hts hin0 hown hK hP 0 rfl rfl 0 (by decide) fl_7 (fun _ h9 => h9) rfl dX4_current_22 ?_
    have hPc := hP
    have hDc := hD
    have hKc := hK
    have hFc := va_free (wc := [(h0, .inr (3, [.int σ.1, .int σ.2.1, .int σ.2.2.1, .ref w0, .int σ.2.2.2.2.1, .int σ.2.2.2.2.2.1, .long σ.2.2.2.2.2.2.1, .ref so, .ref be, .int σ.2.2.2.2.2.2.2.2.2.1, .int σ.2.2.2.2.2.2.2.2.2.2.1, .int σ.2.2.2.2.2.2.2.2.2.2.2.1, .int σ.2.2.2.2.2.2.2.2.2.2.2.2])), (w0, .inl (cJ, 511, .inr (.inl (σ.2.2.2.1)))), (so, .inl (cI, 30, .inl (σ.2.2.2.2.2.2.2.1))), (be, .inl (cI, 30, .inl (σ.2.2.2.2.2.2.2.2.1)))]) hD hS hA [0, 1, 2, 3] rfl
    refine kc_l (wr := ([] : va_W)) (kr_V (As := [.int σ.1]) (rest := [.long r4]) (b := h0) (ws := [(h0, .inr (3, [.int σ.1, .int σ.2.1, .int σ.2.2.1, .ref w0, .int σ.2.2.2.2.1, .int σ.2.2.2.2.2.1, .long σ.2.2.2.2.2.2.1, .ref so, .ref be, .int σ.2.2.2.2.2.2.2.2.2.1, .int σ.2.2.2.2.2.2.2.2.2.2.1, .int σ.2.2.2.2.2.2.2.2.2.2.2.1, .int σ.2.2.2.2.2.2.2.2.2.2.2.2])), (w0, .inl (cJ, 511, .inr (.inl (σ.2.2.2.1)))), (so, .inl (cI, 30, .inl (σ.2.2.2.2.2.2.2.1))), (be, .inl (cI, 30, .inl (σ.2.2.2.2.2.2.2.2.1)))]) ⟨hx, hb, hml, hown, hts⟩ (c_X4_sumOf l dC dI h0 w0 so be cJ cI σ σ.1 _ hw H.size) (cwV 1 hts gX4_current_X4_sumOf rfl rfl rfl (by decide +kernel) ⟨Nat.le_of_ble_eq_true rfl, Nat.le_of_ble_eq_true rfl⟩) 3 0 hK rfl rfl rfl hKc hnw hP hD hPc hDc rfl hl.1 rfl (Nat.le_of_ble_eq_true rfl) dX4_current_25 ⟨Nat.zero_le _, Nat.zero_le _⟩) hP hD hS hFc [0, 1, 2, 3] [] rfl rfl (by decide) (by decide) (fun r6 u1 H locs hq hP hD hS => ?_)
    obtain ⟨hw, rfl⟩ := hq
    have hP : va_P (dC, dI) vwCl [(h0, .inr (3, [.int σ.1, .int σ.2.1, .int σ.2.2.1, .ref w0, .int σ.2.2.2.2.1, .int σ.2.2.2.2.2.1, .long σ.2.2.2.2.2.2.1, .ref so, .ref be, .int σ.2.2.2.2.2.2.2.2.2.1, .int σ.2.2.2.2.2.2.2.2.2.2.1, .int σ.2.2.2.2.2.2.2.2.2.2.2.1, .int σ.2.2.2.2.2.2.2.2.2.2.2.2])), (w0, .inl (cJ, 511, .inr (.inl (σ.2.2.2.1)))), (so, .inl (cI, 30, .inl (σ.2.2.2.2.2.2.2.1))), (be, .inl (cI, 30, .inl (σ.2.2.2.2.2.2.2.2.1)))] H := hP
    have hD : va_D A [(h0, .inr (3, [.int σ.1, .int σ.2.1, .int σ.2.2.1, .ref w0, .int σ.2.2.2.2.1, .int σ.2.2.2.2.2.1, .long σ.2.2.2.2.2.2.1, .ref so, .ref be, .int σ.2.2.2.2.2.2.2.2.2.1, .int σ.2.2.2.2.2.2.2.2.2.2.1, .int σ.2.2.2.2.2.2.2.2.2.2.2.1, .int σ.2.2.2.2.2.2.2.2.2.2.2.2])), (w0, .inl (cJ, 511, .inr (.inl (σ.2.2.2.1)))), (so, .inl (cI, 30, .inl (σ.2.2.2.2.2.2.2.1))), (be, .inl (cI, 30, .inl (σ.2.2.2.2.2.2.2.2.1)))] := hD
    refine lv_iload_n hx hb dX4_current_28 rfl (lv_at hl 1 rfl) ?_
    have hPc := hP.sub (ws' := ([] : va_W)) [] rfl
    have hDc := hD.sub (ws' := ([] : va_W)) [] (by decide) rfl
    have hKc := hK.sub (tys' := []) [] rfl
    have hFc := va_free (wc := ([] : va_W)) hD hS hA [] rfl
    refine kc_l (wr := [(h0, .inr (3, [.int σ.1, .int σ.2.1, .int σ.2.2.1, .ref w0, .int σ.2.2.2.2.1, .int σ.2.2.2.2.2.1, .long σ.2.2.2.2.2.2.1, .ref so, .ref be, .int σ.2.2.2.2.2.2.2.2.2.1, .int σ.2.2.2.2.2.2.2.2.2.2.1, .int σ.2.2.2.2.2.2.2.2.2.2.2.1, .int σ.2.2.2.2.2.2.2.2.2.2.2.2])), (w0, .inl (cJ, 511, .inr (.inl (σ.2.2.2.1)))), (so, .inl (cI, 30, .inl (σ.2.2.2.2.2.2.2.1))), (be, .inl (cI, 30, .inl (σ.2.2.2.2.2.2.2.2.1)))]) (kr_S (As := [.long r4, .long r6, .int p0]) (rest := []) (ws := [(h0, .inr (3, [.int σ.1, .int σ.2.1, .int σ.2.2.1, .ref w0, .int σ.2.2.2.2.1, .int σ.2.2.2.2.2.1, .long σ.2.2.2.2.2.2.1, .ref so, .ref be, .int σ.2.2.2.2.2.2.2.2.2.1, .int σ.2.2.2.2.2.2.2.2.2.2.1, .int σ.2.2.2.2.2.2.2.2.2.2.2.1, .int σ.2.2.2.2.2.2.2.2.2.2.2.2])), (w0, .inl (cJ, 511, .inr (.inl (σ.2.2.2.1)))), (so, .inl (cI, 30, .inl (σ.2.2.2.2.2.2.2.1))), (be, .inl (cI, 30, .inl (σ.2.2.2.2.2.2.2.2.1)))]) ⟨hx, hb, hml, hown, hts⟩ (c_X4_least l dC dI   r4 r6 p0 _ hw H.size) (va_cwS 3 hts gX4_current_X4_least rfl rfl rfl (by decide +kernel) ⟨Nat.le_of_ble_eq_true rfl, Nat.le_of_ble_eq_true rfl⟩) hKc hnw hP hD hPc hDc rfl hl.1 rfl (Nat.le_of_ble_eq_true rfl) dX4_current_29 ⟨Nat.zero_le _, Nat.zero_le _⟩) hP hD hS hFc [] [0, 1, 2, 3] rfl rfl (by decide) (by decide) (fun r8 u1 H locs hq hP hD hS => ?_)
    obtain ⟨hw, rfl⟩ := hq
    have hP : va_P (dC, dI) vwCl [(h0, .inr (3, [.int σ.1, .int σ.2.1, .int σ.2.2.1, .ref w0, .int σ.2.2.2.2.1, .int σ.2.2.2.2.2.1, .long σ.2.2.2.2.2.2.1, .ref so, .ref be, .int σ.2.2.2.2.2.2.2.2.2.1, .int σ.2.2.2.2.2.2.2.2.2.2.1, .int σ.2.2.2.2.2.2.2.2.2.2.2.1, .int σ.2.2.2.2.2.2.2.2.2.2.2.2])), (w0, .inl (cJ, 511, .inr (.inl (σ.2.2.2.1)))), (so, .inl (cI, 30, .inl (σ.2.2.2.2.2.2.2.1))), (be, .inl (cI, 30, .inl (σ.2.2.2.2.2.2.2.2.1)))] H := hP
    have hD : va_D A [(h0, .inr (3, [.int σ.1, .int σ.2.1, .int σ.2.2.1, .ref w0, .int σ.2.2.2.2.1, .int σ.2.2.2.2.2.1, .long σ.2.2.2.2.2.2.1, .ref so, .ref be, .int σ.2.2.2.2.2.2.2.2.2.1, .int σ.2.2.2.2.2.2.2.2.2.2.1, .int σ.2.2.2.2.2.2.2.2.2.2.2.1, .int σ.2.2.2.2.2.2.2.2.2.2.2.2])), (w0, .inl (cJ, 511, .inr (.inl (σ.2.2.2.1)))), (so, .inl (cI, 30, .inl (σ.2.2.2.2.2.2.2.1))), (be, .inl (cI, 30, .inl (σ.2.2.2.2.2.2.2.2.1)))] := hD
    refine lv_goto (tgt := 38) hx hb dX4_current_32 (by decide) ?_
    exact W.lret (v := r8) hx hb hr (fun t ht hW => ⟨⟨r8, ((cl4 h0 w0 so be cJ cI σ)), rfl, ⟨hw, rfl⟩, by rw [ht]; exact hP, va_K.moved hW.alike hK, hD⟩, hS.F ht⟩) hS.2.2 dX4_current_38
set_option maxHeartbeats 4000000 in
set_option maxRecDepth 100000 in
theorem c_X4_taken (l : Launch) (dC : Nat → ClassId) (dI : Nat → Nat → Nat) (h0 w0 so be : Nat) (cJ : ClassId) (cI : ClassId) (σ : SM) (p0 : Int32) (p1 : Int32) (post : Int64 → Prop) (hw : wp_X4_taken p0 p1 σ post) : KL l yX4_taken wsX4_taken ({ frames := 2, cells := 0, slots := 0, locals := 46 } : Room) (dC, dI) [(cJ, .long), (cI, .int)] (cl4 h0 w0 so be cJ cI σ) [.ref h0, .int p0, .int p1] (fun r u => post r ∧ u = (cl4 h0 w0 so be cJ cI σ)) := by
  intro sz
  refine Met.ofW (cc := cX4_taken) (maxL := 6) (ret := (some .long)) (by decide) rfl ?_
  intro p e s m args below meth c s₁ B hml hv
  obtain ⟨rfl, hsz, hP, hK, hD0, hnw⟩ := hv
  have hx := B.exec
  have hb := B.bytes
  have hr := B.returns
  have hts := atoms_spec (ws := wsX4_taken) B.pre
  have hown : s.vm.findClass RX4 = some m.cls := findClass_of_methodNamed B.named
  have hlocks := B.notSynchronized
  subst hsz
  have hD := hD0.self (sz := s.heap.size)
  generalize hAe : va_A (cl4 h0 w0 so be cJ cI σ) s.heap.size = A at hD ⊢
  have hA : ∀ q : Nat, s.heap.size ≤ q → A q := fun q h => by rw [← hAe]; exact Or.inr h
  have hS : va_S A s.heap s.heap [] := va_S.rf
  have hP : va_P (dC, dI) vwCl [(h0, .inr (3, [.int σ.1, .int σ.2.1, .int σ.2.2.1, .ref w0, .int σ.2.2.2.2.1, .int σ.2.2.2.2.2.1, .long σ.2.2.2.2.2.2.1, .ref so, .ref be, .int σ.2.2.2.2.2.2.2.2.2.1, .int σ.2.2.2.2.2.2.2.2.2.2.1, .int σ.2.2.2.2.2.2.2.2.2.2.2.1, .int σ.2.2.2.2.2.2.2.2.2.2.2.2])), (w0, .inl (cJ, 511, .inr (.inl (σ.2.2.2.1)))), (so, .inl (cI, 30, .inl (σ.2.2.2.2.2.2.2.1))), (be, .inl (cI, 30, .inl (σ.2.2.2.2.2.2.2.2.1)))] s.heap := hP
  have hD : va_D A [(h0, .inr (3, [.int σ.1, .int σ.2.1, .int σ.2.2.1, .ref w0, .int σ.2.2.2.2.1, .int σ.2.2.2.2.2.1, .long σ.2.2.2.2.2.2.1, .ref so, .ref be, .int σ.2.2.2.2.2.2.2.2.2.1, .int σ.2.2.2.2.2.2.2.2.2.2.1, .int σ.2.2.2.2.2.2.2.2.2.2.2.1, .int σ.2.2.2.2.2.2.2.2.2.2.2.2])), (w0, .inl (cJ, 511, .inr (.inl (σ.2.2.2.1)))), (so, .inl (cI, 30, .inl (σ.2.2.2.2.2.2.2.1))), (be, .inl (cI, 30, .inl (σ.2.2.2.2.2.2.2.2.1)))] := hD
  have fl_7 := hts (.fieldLink RX4 7 "OnePlaceEachModel" "n" "I") (by decide +kernel)
  have hin0 : ∀ w ∈ wsX40, w ∈ wsX4_taken := by decide +kernel
  have L27 : ∀ (x1 : Int32) (x2 : Int32)  (n : Nat) (x3 : Int64) (x5 : Int32)  (k : Int64 → Int32 → Prop), wl_X4_taken_27 x1 x2 σ n x3 x5 k →
      (∀ (x3 : Int64) (x5 : Int32) , k x3 x5 → ∀ (H : Heap) (locs : List Loc) (ls : Array Slot), va_P (dC, dI) vwCl [(h0, .inr (3, [.int σ.1, .int σ.2.1, .int σ.2.2.1, .ref w0, .int σ.2.2.2.2.1, .int σ.2.2.2.2.2.1, .long σ.2.2.2.2.2.2.1, .ref so, .ref be, .int σ.2.2.2.2.2.2.2.2.2.1, .int σ.2.2.2.2.2.2.2.2.2.2.1, .int σ.2.2.2.2.2.2.2.2.2.2.2.1, .int σ.2.2.2.2.2.2.2.2.2.2.2.2])), (w0, .inl (cJ, 511, .inr (.inl (σ.2.2.2.1)))), (so, .inl (cI, 30, .inl (σ.2.2.2.2.2.2.2.1))), (be, .inl (cI, 30, .inl (σ.2.2.2.2.2.2.2.2.1)))] H → va_D A [(h0, .inr (3, [.int σ.1, .int σ.2.1, .int σ.2.2.1, .ref w0, .int σ.2.2.2.2.1, .int σ.2.2.2.2.2.1, .long σ.2.2.2.2.2.2.1, .ref so, .ref be, .int σ.2.2.2.2.2.2.2.2.2.1, .int σ.2.2.2.2.2.2.2.2.2.2.1, .int σ.2.2.2.2.2.2.2.2.2.2.2.1, .int σ.2.2.2.2.2.2.2.2.2.2.2.2])), (w0, .inl (cJ, 511, .inr (.inl (σ.2.2.2.1)))), (so, .inl (cI, 30, .inl (σ.2.2.2.2.2.2.2.1))), (be, .inl (cI, 30, .inl (σ.2.2.2.2.2.2.2.2.1)))] → va_S A s.heap H locs → lv_has ls 6 [(5, .int x5), (3, .long x3), (0, .ref h0), (1, .int x1), (2, .int x2)] → W p l e (headSpec wsX4_taken ({ frames := 2, cells := 0, slots := 0, locals := 46 } : Room)).room s m ([.ref h0, .int p0, .int p1] : List Value).toArray below meth c H locs 0 0 (MQ below (va_Ql (fun r u => post r ∧ u = (cl4 h0 w0 so be cJ cI σ)) (kB (dC, dI) [(cJ, .long), (cI, .int)] A) A) ([.ref h0, .int p0, .int p1] : List Value).toArray s 0 0 A) (F0 m 69 ls [])) →
      ∀ (H : Heap) (locs : List Loc) (ls : Array Slot), va_P (dC, dI) vwCl [(h0, .inr (3, [.int σ.1, .int σ.2.1, .int σ.2.2.1, .ref w0, .int σ.2.2.2.2.1, .int σ.2.2.2.2.2.1, .long σ.2.2.2.2.2.2.1, .ref so, .ref be, .int σ.2.2.2.2.2.2.2.2.2.1, .int σ.2.2.2.2.2.2.2.2.2.2.1, .int σ.2.2.2.2.2.2.2.2.2.2.2.1, .int σ.2.2.2.2.2.2.2.2.2.2.2.2])), (w0, .inl (cJ, 511, .inr (.inl (σ.2.2.2.1)))), (so, .inl (cI, 30, .inl (σ.2.2.2.2.2.2.2.1))), (be, .inl (cI, 30, .inl (σ.2.2.2.2.2.2.2.2.1)))] H → va_D A [(h0, .inr (3, [.int σ.1, .int σ.2.1, .int σ.2.2.1, .ref w0, .int σ.2.2.2.2.1, .int σ.2.2.2.2.2.1, .long σ.2.2.2.2.2.2.1, .ref so, .ref be, .int σ.2.2.2.2.2.2.2.2.2.1, .int σ.2.2.2.2.2.2.2.2.2.2.1, .int σ.2.2.2.2.2.2.2.2.2.2.2.1, .int σ.2.2.2.2.2.2.2.2.2.2.2.2])), (w0, .inl (cJ, 511, .inr (.inl (σ.2.2.2.1)))), (so, .inl (cI, 30, .inl (σ.2.2.2.2.2.2.2.1))), (be, .inl (cI, 30, .inl (σ.2.2.2.2.2.2.2.2.1)))] → va_S A s.heap H locs → lv_has ls 6 [(5, .int x5), (3, .long x3), (0, .ref h0), (1, .int x1), (2, .int x2)] → W p l e (headSpec wsX4_taken ({ frames := 2, cells := 0, slots := 0, locals := 46 } : Room)).room s m ([.ref h0, .int p0, .int p1] : List Value).toArray below meth c H locs 0 0 (MQ below (va_Ql (fun r u => post r ∧ u = (cl4 h0 w0 so be cJ cI σ)) (kB (dC, dI) [(cJ, .long), (cI, .int)] A) A) ([.ref h0, .int p0, .int p1] : List Value).toArray s 0 0 A) (F0 m 27 ls []) := by
    intro x1 x2 n
    induction n with
    | zero => intro x3 x5 k hw; exact absurd hw id
    | succ n ih =>
      intro x3 x5 k hw hk H locs ls hP hD hS hl
      unfold wl_X4_taken_27 at hw
      refine lv_iload hx hb dX4_taken_27 (lv_at hl 0 rfl) ?_
      refine lv_iconst (v := (1 : Int32)) hx hb dX4_taken_29 (by decide) ?_
      refine lv_aload_n hx hb dX4_taken_30 rfl (lv_at hl 2 rfl) ?_
      refine va_get (D := (dC, dI)) (ci := 3) (v := .int σ.1) (C := RX4) (T := TX4) (N := 13) hx hb hts hin0 hown hK hP 0 rfl rfl 0 (by decide) fl_7 (fun _ h9 => h9) rfl dX4_taken_31 ?_
      refine lv_ishl hx hb dX4_taken_34 ?_
      refine lv_icmp_ge (tgt := 69) hx hb dX4_taken_35 (by decide) (fun c7 => ?_) (fun c7 => ?_)
      · have hw := hw.1 c7
        exact hk x3 x5 hw H locs ls hP hD hS (lv_sub hl [0, 1, 2, 3, 4] rfl)
      · have hw := hw.2 c7
        refine lv_lload_n hx hb dX4_taken_38 rfl (lv_at hl 1 rfl) ?_
        refine lv_iload hx hb dX4_taken_39 (lv_at hl 0 rfl) ?_
        refine lv_iload_n hx hb dX4_taken_41 rfl (lv_at hl 3 rfl) ?_
        refine lv_iand hx hb dX4_taken_42 ?_
        refine lv_iload_n hx hb dX4_taken_43 rfl (lv_at hl 3 rfl) ?_
        refine lv_icmp_ne (tgt := 60) hx hb dX4_taken_44 (by decide) (fun c8 => ?_) (fun c8 => ?_)
        · have hw := hw.1 c8
          refine lv_lconst (v := (0 : Int64)) hx hb dX4_taken_60 (by decide) ?_
          refine lv_ladd hx hb dX4_taken_61 ?_
          refine lv_lstore_n (lv' := [(3, .long (x3 + (0 : Int64))), (5, .int x5), (0, .ref h0), (1, .int x1), (2, .int x2)]) hx hb dX4_taken_62 rfl hl (by decide) rfl (fun ls hl => ?_)
          refine lv_iinc (v := (x5 + (1 : Int32))) (lv' := [(5, .int (x5 + (1 : Int32))), (3, .long (x3 + (0 : Int64))), (0, .ref h0), (1, .int x1), (2, .int x2)]) hx hb dX4_taken_63 hl (k := 1) rfl rfl (by decide) rfl (fun ls hl => ?_)
          refine lv_goto (tgt := 27) hx hb dX4_taken_66 (by decide) ?_
          exact ih (x3 + (0 : Int64)) (x5 + (1 : Int32)) _ hw hk H locs ls hP hD hS (lv_sub hl [0, 1, 2, 3, 4] rfl)
        · have hw := hw.2 c8
          refine lv_aload_n hx hb dX4_taken_47 rfl (lv_at hl 2 rfl) ?_
          refine lv_aload_n hx hb dX4_taken_48 rfl (lv_at hl 2 rfl) ?_
          refine va_get (D := (dC, dI)) (ci := 3) (v := .int σ.1) (C := RX4) (T := TX4) (N := 13) hx hb hts hin0 hown hK hP 0 rfl rfl 0 (by decide) fl_7 (fun _ h9 => h9) rfl dX4_taken_49 ?_
          refine lv_iload hx hb dX4_taken_52 (lv_at hl 0 rfl) ?_
          have hPc := hP
          have hDc := hD
          have hKc := hK
          have hFc := va_free (wc := [(h0, .inr (3, [.int σ.1, .int σ.2.1, .int σ.2.2.1, .ref w0, .int σ.2.2.2.2.1, .int σ.2.2.2.2.2.1, .long σ.2.2.2.2.2.2.1, .ref so, .ref be, .int σ.2.2.2.2.2.2.2.2.2.1, .int σ.2.2.2.2.2.2.2.2.2.2.1, .int σ.2.2.2.2.2.2.2.2.2.2.2.1, .int σ.2.2.2.2.2.2.2.2.2.2.2.2])), (w0, .inl (cJ, 511, .inr (.inl (σ.2.2.2.1)))), (so, .inl (cI, 30, .inl (σ.2.2.2.2.2.2.2.1))), (be, .inl (cI, 30, .inl (σ.2.2.2.2.2.2.2.2.1)))]) hD hS hA [0, 1, 2, 3] rfl
          refine kc_l (wr := ([] : va_W)) (kr_V (As := [.int σ.1, .int x5]) (rest := [.long x3]) (b := h0) (ws := [(h0, .inr (3, [.int σ.1, .int σ.2.1, .int σ.2.2.1, .ref w0, .int σ.2.2.2.2.1, .int σ.2.2.2.2.2.1, .long σ.2.2.2.2.2.2.1, .ref so, .ref be, .int σ.2.2.2.2.2.2.2.2.2.1, .int σ.2.2.2.2.2.2.2.2.2.2.1, .int σ.2.2.2.2.2.2.2.2.2.2.2.1, .int σ.2.2.2.2.2.2.2.2.2.2.2.2])), (w0, .inl (cJ, 511, .inr (.inl (σ.2.2.2.1)))), (so, .inl (cI, 30, .inl (σ.2.2.2.2.2.2.2.1))), (be, .inl (cI, 30, .inl (σ.2.2.2.2.2.2.2.2.1)))]) ⟨hx, hb, hml, hown, hts⟩ (c_X4_weigh l dC dI h0 w0 so be cJ cI σ σ.1 x5 _ hw H.size) (cwV 2 hts gX4_taken_X4_weigh rfl rfl rfl (by decide +kernel) ⟨Nat.le_of_ble_eq_true rfl, Nat.le_of_ble_eq_true rfl⟩) 3 0 hK rfl rfl rfl hKc hnw hP hD hPc hDc rfl hl.1 rfl (Nat.le_of_ble_eq_true rfl) dX4_taken_54 ⟨Nat.zero_le _, Nat.zero_le _⟩) hP hD hS hFc [0, 1, 2, 3] [] rfl rfl (by decide) (by decide) (fun r9 u1 H locs hq hP hD hS => ?_)
          obtain ⟨hw, rfl⟩ := hq
          have hP : va_P (dC, dI) vwCl [(h0, .inr (3, [.int σ.1, .int σ.2.1, .int σ.2.2.1, .ref w0, .int σ.2.2.2.2.1, .int σ.2.2.2.2.2.1, .long σ.2.2.2.2.2.2.1, .ref so, .ref be, .int σ.2.2.2.2.2.2.2.2.2.1, .int σ.2.2.2.2.2.2.2.2.2.2.1, .int σ.2.2.2.2.2.2.2.2.2.2.2.1, .int σ.2.2.2.2.2.2.2.2.2.2.2.2])), (w0, .inl (cJ, 511, .inr (.inl (σ.2.2.2.1)))), (so, .inl (cI, 30, .inl (σ.2.2.2.2.2.2.2.1))), (be, .inl (cI, 30, .inl (σ.2.2.2.2.2.2.2.2.1)))] H := hP
          have hD : va_D A [(h0, .inr (3, [.int σ.1, .int σ.2.1, .int σ.2.2.1, .ref w0, .int σ.2.2.2.2.1, .int σ.2.2.2.2.2.1, .long σ.2.2.2.2.2.2.1, .ref so, .ref be, .int σ.2.2.2.2.2.2.2.2.2.1, .int σ.2.2.2.2.2.2.2.2.2.2.1, .int σ.2.2.2.2.2.2.2.2.2.2.2.1, .int σ.2.2.2.2.2.2.2.2.2.2.2.2])), (w0, .inl (cJ, 511, .inr (.inl (σ.2.2.2.1)))), (so, .inl (cI, 30, .inl (σ.2.2.2.2.2.2.2.1))), (be, .inl (cI, 30, .inl (σ.2.2.2.2.2.2.2.2.1)))] := hD
          refine lv_goto (tgt := 61) hx hb dX4_taken_57 (by decide) ?_
          refine lv_ladd hx hb dX4_taken_61 ?_
          refine lv_lstore_n (lv' := [(3, .long (x3 + r9)), (5, .int x5), (0, .ref h0), (1, .int x1), (2, .int x2)]) hx hb dX4_taken_62 rfl hl (by decide) rfl (fun ls hl => ?_)
          refine lv_iinc (v := (x5 + (1 : Int32))) (lv' := [(5, .int (x5 + (1 : Int32))), (3, .long (x3 + r9)), (0, .ref h0), (1, .int x1), (2, .int x2)]) hx hb dX4_taken_63 hl (k := 1) rfl rfl (by decide) rfl (fun ls hl => ?_)
          refine lv_goto (tgt := 27) hx hb dX4_taken_66 (by decide) ?_
          exact ih (x3 + r9) (x5 + (1 : Int32)) _ hw hk H locs ls hP hD hS (lv_sub hl [0, 1, 2, 3, 4] rfl)
  have hl := lv_entry ([.ref h0, .int p0, .int p1]) (n := 6) (Nat.le_of_ble_eq_true rfl)
  rw [lg_entry_eq]
  generalize (lg_sl ([.ref h0, .int p0, .int p1]) ++ List.replicate (6 - (lg_sl ([.ref h0, .int p0, .int p1])).length) Slot.unset).toArray = ls at hl ⊢
  have hl : lv_has ls 6 [(0, .ref h0), (1, .int p0), (2, .int p1)] := hl
  unfold wp_X4_taken at hw
  skip
  obtain ⟨H, hH⟩ : ∃ H, H = s.heap := ⟨_, rfl⟩
  obtain ⟨locs, hlo⟩ : ∃ q : List Loc, q = [] := ⟨_, rfl⟩
  rw [← hH] at hP
  have hS : va_S A s.heap H locs := by rw [hH, hlo]; exact hS
  suffices hgo : W p l e (headSpec wsX4_taken ({ frames := 2, cells := 0, slots := 0, locals := 46 } : Room)).room s m _ below meth c H locs 0 0 _ (F0 m 0 ls []) by rw [hH, hlo] at hgo; exact hgo
  refine lv_aload_n hx hb dX4_taken_0 rfl (lv_at hl 0 rfl) ?_
  refine lv_iload_n hx hb dX4_taken_1 rfl (lv_at hl 1 rfl) ?_
  have hPc := hP
  have hDc := hD
  have hKc := hK
  have hFc := va_free (wc := [(h0, .inr (3, [.int σ.1, .int σ.2.1, .int σ.2.2.1, .ref w0, .int σ.2.2.2.2.1, .int σ.2.2.2.2.2.1, .long σ.2.2.2.2.2.2.1, .ref so, .ref be, .int σ.2.2.2.2.2.2.2.2.2.1, .int σ.2.2.2.2.2.2.2.2.2.2.1, .int σ.2.2.2.2.2.2.2.2.2.2.2.1, .int σ.2.2.2.2.2.2.2.2.2.2.2.2])), (w0, .inl (cJ, 511, .inr (.inl (σ.2.2.2.1)))), (so, .inl (cI, 30, .inl (σ.2.2.2.2.2.2.2.1))), (be, .inl (cI, 30, .inl (σ.2.2.2.2.2.2.2.2.1)))]) hD hS hA [0, 1, 2, 3] rfl
  refine kc_i (wr := ([] : va_W)) (kr_V (As := [.int p0]) (rest := []) (b := h0) (ws := [(h0, .inr (3, [.int σ.1, .int σ.2.1, .int σ.2.2.1, .ref w0, .int σ.2.2.2.2.1, .int σ.2.2.2.2.2.1, .long σ.2.2.2.2.2.2.1, .ref so, .ref be, .int σ.2.2.2.2.2.2.2.2.2.1, .int σ.2.2.2.2.2.2.2.2.2.2.1, .int σ.2.2.2.2.2.2.2.2.2.2.2.1, .int σ.2.2.2.2.2.2.2.2.2.2.2.2])), (w0, .inl (cJ, 511, .inr (.inl (σ.2.2.2.1)))), (so, .inl (cI, 30, .inl (σ.2.2.2.2.2.2.2.1))), (be, .inl (cI, 30, .inl (σ.2.2.2.2.2.2.2.2.1)))]) ⟨hx, hb, hml, hown, hts⟩ (c_X4_isState l dC dI h0 w0 so be cJ cI σ p0 _ hw H.size) (cwV 1 hts gX4_taken_X4_isState rfl rfl rfl (by decide +kernel) ⟨Nat.le_of_ble_eq_true rfl, Nat.le_of_ble_eq_true rfl⟩) 3 0 hK rfl rfl rfl hKc hnw hP hD hPc hDc rfl hl.1 rfl (Nat.le_of_ble_eq_true rfl) dX4_taken_2 ⟨Nat.zero_le _, Nat.zero_le _⟩) hP hD hS hFc [0, 1, 2, 3] [] rfl rfl (by decide) (by decide) (fun r1 u1 H locs hq hP hD hS => ?_)
  obtain ⟨hw, rfl⟩ := hq
  have hP : va_P (dC, dI) vwCl [(h0, .inr (3, [.int σ.1, .int σ.2.1, .int σ.2.2.1, .ref w0, .int σ.2.2.2.2.1, .int σ.2.2.2.2.2.1, .long σ.2.2.2.2.2.2.1, .ref so, .ref be, .int σ.2.2.2.2.2.2.2.2.2.1, .int σ.2.2.2.2.2.2.2.2.2.2.1, .int σ.2.2.2.2.2.2.2.2.2.2.2.1, .int σ.2.2.2.2.2.2.2.2.2.2.2.2])), (w0, .inl (cJ, 511, .inr (.inl (σ.2.2.2.1)))), (so, .inl (cI, 30, .inl (σ.2.2.2.2.2.2.2.1))), (be, .inl (cI, 30, .inl (σ.2.2.2.2.2.2.2.2.1)))] H := hP
  have hD : va_D A [(h0, .inr (3, [.int σ.1, .int σ.2.1, .int σ.2.2.1, .ref w0, .int σ.2.2.2.2.1, .int σ.2.2.2.2.2.1, .long σ.2.2.2.2.2.2.1, .ref so, .ref be, .int σ.2.2.2.2.2.2.2.2.2.1, .int σ.2.2.2.2.2.2.2.2.2.2.1, .int σ.2.2.2.2.2.2.2.2.2.2.2.1, .int σ.2.2.2.2.2.2.2.2.2.2.2.2])), (w0, .inl (cJ, 511, .inr (.inl (σ.2.2.2.1)))), (so, .inl (cI, 30, .inl (σ.2.2.2.2.2.2.2.1))), (be, .inl (cI, 30, .inl (σ.2.2.2.2.2.2.2.2.1)))] := hD
  refine lv_if_eq (tgt := 18) hx hb dX4_taken_5 (by decide) (fun c3 => ?_) (fun c3 => ?_)
  · have hw := hw.1 c3
    refine lv_ldc2 (v := (-1 : Int64)) hx hb hown (hts (.constantLong RX4 53 (-1 : Int64)) (by decide +kernel)) dX4_taken_18 ?_
    exact W.lret (v := (-1 : Int64)) hx hb hr (fun t ht hW => ⟨⟨(-1 : Int64), ((cl4 h0 w0 so be cJ cI σ)), rfl, ⟨hw, rfl⟩, by rw [ht]; exact hP, va_K.moved hW.alike hK, hD⟩, hS.F ht⟩) hS.2.2 dX4_taken_21
  · have hw := hw.2 c3
    refine lv_iload_n hx hb dX4_taken_8 rfl (lv_at hl 2 rfl) ?_
    refine lv_i2l hx hb dX4_taken_9 rfl ?_
    refine lv_lconst (v := (0 : Int64)) hx hb dX4_taken_10 (by decide) ?_
    refine lv_lconst (v := (1 : Int64)) hx hb dX4_taken_11 (by decide) ?_
    have hPc := hP.sub (ws' := ([] : va_W)) [] rfl
    have hDc := hD.sub (ws' := ([] : va_W)) [] (by decide) rfl
    have hKc := hK.sub (tys' := []) [] rfl
    have hFc := va_free (wc := ([] : va_W)) hD hS hA [] rfl
    refine kc_i (wr := [(h0, .inr (3, [.int σ.1, .int σ.2.1, .int σ.2.2.1, .ref w0, .int σ.2.2.2.2.1, .int σ.2.2.2.2.2.1, .long σ.2.2.2.2.2.2.1, .ref so, .ref be, .int σ.2.2.2.2.2.2.2.2.2.1, .int σ.2.2.2.2.2.2.2.2.2.2.1, .int σ.2.2.2.2.2.2.2.2.2.2.2.1, .int σ.2.2.2.2.2.2.2.2.2.2.2.2])), (w0, .inl (cJ, 511, .inr (.inl (σ.2.2.2.1)))), (so, .inl (cI, 30, .inl (σ.2.2.2.2.2.2.2.1))), (be, .inl (cI, 30, .inl (σ.2.2.2.2.2.2.2.2.1)))]) (kr_S (As := [.long (p1.toInt64), .long (0 : Int64), .long (1 : Int64)]) (rest := []) (ws := [(h0, .inr (3, [.int σ.1, .int σ.2.1, .int σ.2.2.1, .ref w0, .int σ.2.2.2.2.1, .int σ.2.2.2.2.2.1, .long σ.2.2.2.2.2.2.1, .ref so, .ref be, .int σ.2.2.2.2.2.2.2.2.2.1, .int σ.2.2.2.2.2.2.2.2.2.2.1, .int σ.2.2.2.2.2.2.2.2.2.2.2.1, .int σ.2.2.2.2.2.2.2.2.2.2.2.2])), (w0, .inl (cJ, 511, .inr (.inl (σ.2.2.2.1)))), (so, .inl (cI, 30, .inl (σ.2.2.2.2.2.2.2.1))), (be, .inl (cI, 30, .inl (σ.2.2.2.2.2.2.2.2.1)))]) ⟨hx, hb, hml, hown, hts⟩ (c_X4_in l dC dI   (p1.toInt64) (0 : Int64) (1 : Int64) _ hw H.size) (va_cwS 3 hts gX4_taken_X4_in rfl rfl rfl (by decide +kernel) ⟨Nat.le_of_ble_eq_true rfl, Nat.le_of_ble_eq_true rfl⟩) hKc hnw hP hD hPc hDc rfl hl.1 rfl (Nat.le_of_ble_eq_true rfl) dX4_taken_12 ⟨Nat.zero_le _, Nat.zero_le _⟩) hP hD hS hFc [] [0, 1, 2, 3] rfl rfl (by decide) (by decide) (fun r4 u1 H locs hq hP hD hS => ?_)
    obtain ⟨hw, rfl⟩ := hq
    have hP : va_P (dC, dI) vwCl [(h0, .inr (3, [.int σ.1, .int σ.2.1, .int σ.2.2.1, .ref w0, .int σ.2.2.2.2.1, .int σ.2.2.2.2.2.1, .long σ.2.2.2.2.2.2.1, .ref so, .ref be, .int σ.2.2.2.2.2.2.2.2.2.1, .int σ.2.2.2.2.2.2.2.2.2.2.1, .int σ.2.2.2.2.2.2.2.2.2.2.2.1, .int σ.2.2.2.2.2.2.2.2.2.2.2.2])), (w0, .inl (cJ, 511, .inr (.inl (σ.2.2.2.1)))), (so, .inl (cI, 30, .inl (σ.2.2.2.2.2.2.2.1))), (be, .inl (cI, 30, .inl (σ.2.2.2.2.2.2.2.2.1)))] H := hP
    have hD : va_D A [(h0, .inr (3, [.int σ.1, .int σ.2.1, .int σ.2.2.1, .ref w0, .int σ.2.2.2.2.1, .int σ.2.2.2.2.2.1, .long σ.2.2.2.2.2.2.1, .ref so, .ref be, .int σ.2.2.2.2.2.2.2.2.2.1, .int σ.2.2.2.2.2.2.2.2.2.2.1, .int σ.2.2.2.2.2.2.2.2.2.2.2.1, .int σ.2.2.2.2.2.2.2.2.2.2.2.2])), (w0, .inl (cJ, 511, .inr (.inl (σ.2.2.2.1)))), (so, .inl (cI, 30, .inl (σ.2.2.2.2.2.2.2.1))), (be, .inl (cI, 30, .inl (σ.2.2.2.2.2.2.2.2.1)))] := hD
    refine lv_if_ne (tgt := 22) hx hb dX4_taken_15 (by decide) (fun c6 => ?_) (fun c6 => ?_)
    · have hw := hw.1 c6
      refine lv_lconst (v := (0 : Int64)) hx hb dX4_taken_22 (by decide) ?_
      refine lv_lstore_n (lv' := [(3, .long (0 : Int64)), (0, .ref h0), (1, .int p0), (2, .int p1)]) hx hb dX4_taken_23 rfl hl (by decide) rfl (fun ls hl => ?_)
      refine lv_iconst (v := (0 : Int32)) hx hb dX4_taken_24 (by decide) ?_
      refine lv_istore (lv' := [(5, .int (0 : Int32)), (3, .long (0 : Int64)), (0, .ref h0), (1, .int p0), (2, .int p1)]) hx hb dX4_taken_25 hl (by decide) rfl (fun ls hl => ?_)
      refine L27 p0 p1 (20000) (0 : Int64) (0 : Int32) _ hw (fun x3_11 x5_12 hw H locs ls hP hD hS hl => ?_) H locs ls hP hD hS (lv_sub hl [0, 1, 2, 3, 4] rfl)
      refine lv_lload_n hx hb dX4_taken_69 rfl (lv_at hl 1 rfl) ?_
      refine lv_aload_n hx hb dX4_taken_70 rfl (lv_at hl 2 rfl) ?_
      refine lv_aload_n hx hb dX4_taken_71 rfl (lv_at hl 2 rfl) ?_
      refine va_get (D := (dC, dI)) (ci := 3) (v := .int σ.1) (C := RX4) (T := TX4) (N := 13) hx hb hts hin0 hown hK hP 0 rfl rfl 0 (by decide) fl_7 (fun _ h9 => h9) rfl dX4_taken_72 ?_
      have hPc := hP
      have hDc := hD
      have hKc := hK
      have hFc := va_free (wc := [(h0, .inr (3, [.int σ.1, .int σ.2.1, .int σ.2.2.1, .ref w0, .int σ.2.2.2.2.1, .int σ.2.2.2.2.2.1, .long σ.2.2.2.2.2.2.1, .ref so, .ref be, .int σ.2.2.2.2.2.2.2.2.2.1, .int σ.2.2.2.2.2.2.2.2.2.2.1, .int σ.2.2.2.2.2.2.2.2.2.2.2.1, .int σ.2.2.2.2.2.2.2.2.2.2.2.2])), (w0, .inl (cJ, 511, .inr (.inl (σ.2.2.2.1)))), (so, .inl (cI, 30, .inl (σ.2.2.2.2.2.2.2.1))), (be, .inl (cI, 30, .inl (σ.2.2.2.2.2.2.2.2.1)))]) hD hS hA [0, 1, 2, 3] rfl
      refine kc_l (wr := ([] : va_W)) (kr_V (As := [.int σ.1]) (rest := [.long x3_11]) (b := h0) (ws := [(h0, .inr (3, [.int σ.1, .int σ.2.1, .int σ.2.2.1, .ref w0, .int σ.2.2.2.2.1, .int σ.2.2.2.2.2.1, .long σ.2.2.2.2.2.2.1, .ref so, .ref be, .int σ.2.2.2.2.2.2.2.2.2.1, .int σ.2.2.2.2.2.2.2.2.2.2.1, .int σ.2.2.2.2.2.2.2.2.2.2.2.1, .int σ.2.2.2.2.2.2.2.2.2.2.2.2])), (w0, .inl (cJ, 511, .inr (.inl (σ.2.2.2.1)))), (so, .inl (cI, 30, .inl (σ.2.2.2.2.2.2.2.1))), (be, .inl (cI, 30, .inl (σ.2.2.2.2.2.2.2.2.1)))]) ⟨hx, hb, hml, hown, hts⟩ (c_X4_sumOf l dC dI h0 w0 so be cJ cI σ σ.1 _ hw H.size) (cwV 1 hts gX4_taken_X4_sumOf rfl rfl rfl (by decide +kernel) ⟨Nat.le_of_ble_eq_true rfl, Nat.le_of_ble_eq_true rfl⟩) 3 0 hK rfl rfl rfl hKc hnw hP hD hPc hDc rfl hl.1 rfl (Nat.le_of_ble_eq_true rfl) dX4_taken_75 ⟨Nat.zero_le _, Nat.zero_le _⟩) hP hD hS hFc [0, 1, 2, 3] [] rfl rfl (by decide) (by decide) (fun r14 u1 H locs hq hP hD hS => ?_)
      obtain ⟨hw, rfl⟩ := hq
      have hP : va_P (dC, dI) vwCl [(h0, .inr (3, [.int σ.1, .int σ.2.1, .int σ.2.2.1, .ref w0, .int σ.2.2.2.2.1, .int σ.2.2.2.2.2.1, .long σ.2.2.2.2.2.2.1, .ref so, .ref be, .int σ.2.2.2.2.2.2.2.2.2.1, .int σ.2.2.2.2.2.2.2.2.2.2.1, .int σ.2.2.2.2.2.2.2.2.2.2.2.1, .int σ.2.2.2.2.2.2.2.2.2.2.2.2])), (w0, .inl (cJ, 511, .inr (.inl (σ.2.2.2.1)))), (so, .inl (cI, 30, .inl (σ.2.2.2.2.2.2.2.1))), (be, .inl (cI, 30, .inl (σ.2.2.2.2.2.2.2.2.1)))] H := hP
      have hD : va_D A [(h0, .inr (3, [.int σ.1, .int σ.2.1, .int σ.2.2.1, .ref w0, .int σ.2.2.2.2.1, .int σ.2.2.2.2.2.1, .long σ.2.2.2.2.2.2.1, .ref so, .ref be, .int σ.2.2.2.2.2.2.2.2.2.1, .int σ.2.2.2.2.2.2.2.2.2.2.1, .int σ.2.2.2.2.2.2.2.2.2.2.2.1, .int σ.2.2.2.2.2.2.2.2.2.2.2.2])), (w0, .inl (cJ, 511, .inr (.inl (σ.2.2.2.1)))), (so, .inl (cI, 30, .inl (σ.2.2.2.2.2.2.2.1))), (be, .inl (cI, 30, .inl (σ.2.2.2.2.2.2.2.2.1)))] := hD
      refine lv_iload_n hx hb dX4_taken_78 rfl (lv_at hl 4 rfl) ?_
      have hPc := hP.sub (ws' := ([] : va_W)) [] rfl
      have hDc := hD.sub (ws' := ([] : va_W)) [] (by decide) rfl
      have hKc := hK.sub (tys' := []) [] rfl
      have hFc := va_free (wc := ([] : va_W)) hD hS hA [] rfl
      refine kc_l (wr := [(h0, .inr (3, [.int σ.1, .int σ.2.1, .int σ.2.2.1, .ref w0, .int σ.2.2.2.2.1, .int σ.2.2.2.2.2.1, .long σ.2.2.2.2.2.2.1, .ref so, .ref be, .int σ.2.2.2.2.2.2.2.2.2.1, .int σ.2.2.2.2.2.2.2.2.2.2.1, .int σ.2.2.2.2.2.2.2.2.2.2.2.1, .int σ.2.2.2.2.2.2.2.2.2.2.2.2])), (w0, .inl (cJ, 511, .inr (.inl (σ.2.2.2.1)))), (so, .inl (cI, 30, .inl (σ.2.2.2.2.2.2.2.1))), (be, .inl (cI, 30, .inl (σ.2.2.2.2.2.2.2.2.1)))]) (kr_S (As := [.long x3_11, .long r14, .int p1]) (rest := []) (ws := [(h0, .inr (3, [.int σ.1, .int σ.2.1, .int σ.2.2.1, .ref w0, .int σ.2.2.2.2.1, .int σ.2.2.2.2.2.1, .long σ.2.2.2.2.2.2.1, .ref so, .ref be, .int σ.2.2.2.2.2.2.2.2.2.1, .int σ.2.2.2.2.2.2.2.2.2.2.1, .int σ.2.2.2.2.2.2.2.2.2.2.2.1, .int σ.2.2.2.2.2.2.2.2.2.2.2.2])), (w0, .inl (cJ, 511, .inr (.inl (σ.2.2.2.1)))), (so, .inl (cI, 30, .inl (σ.2.2.2.2.2.2.2.1))), (be, .inl (cI, 30, .inl (σ.2.2.2.2.2.2.2.2.1)))]) ⟨hx, hb, hml, hown, hts⟩ (c_X4_least l dC dI   x3_11 r14 p1 _ hw H.size) (va_cwS 3 hts gX4_taken_X4_least rfl rfl rfl (by decide +kernel) ⟨Nat.le_of_ble_eq_true rfl, Nat.le_of_ble_eq_true rfl⟩) hKc hnw hP hD hPc hDc rfl hl.1 rfl (Nat.le_of_ble_eq_true rfl) dX4_taken_79 ⟨Nat.zero_le _, Nat.zero_le _⟩) hP hD hS hFc [] [0, 1, 2, 3] rfl rfl (by decide) (by decide) (fun r16 u1 H locs hq hP hD hS => ?_)
      obtain ⟨hw, rfl⟩ := hq
      have hP : va_P (dC, dI) vwCl [(h0, .inr (3, [.int σ.1, .int σ.2.1, .int σ.2.2.1, .ref w0, .int σ.2.2.2.2.1, .int σ.2.2.2.2.2.1, .long σ.2.2.2.2.2.2.1, .ref so, .ref be, .int σ.2.2.2.2.2.2.2.2.2.1, .int σ.2.2.2.2.2.2.2.2.2.2.1, .int σ.2.2.2.2.2.2.2.2.2.2.2.1, .int σ.2.2.2.2.2.2.2.2.2.2.2.2])), (w0, .inl (cJ, 511, .inr (.inl (σ.2.2.2.1)))), (so, .inl (cI, 30, .inl (σ.2.2.2.2.2.2.2.1))), (be, .inl (cI, 30, .inl (σ.2.2.2.2.2.2.2.2.1)))] H := hP
      have hD : va_D A [(h0, .inr (3, [.int σ.1, .int σ.2.1, .int σ.2.2.1, .ref w0, .int σ.2.2.2.2.1, .int σ.2.2.2.2.2.1, .long σ.2.2.2.2.2.2.1, .ref so, .ref be, .int σ.2.2.2.2.2.2.2.2.2.1, .int σ.2.2.2.2.2.2.2.2.2.2.1, .int σ.2.2.2.2.2.2.2.2.2.2.2.1, .int σ.2.2.2.2.2.2.2.2.2.2.2.2])), (w0, .inl (cJ, 511, .inr (.inl (σ.2.2.2.1)))), (so, .inl (cI, 30, .inl (σ.2.2.2.2.2.2.2.1))), (be, .inl (cI, 30, .inl (σ.2.2.2.2.2.2.2.2.1)))] := hD
      exact W.lret (v := r16) hx hb hr (fun t ht hW => ⟨⟨r16, ((cl4 h0 w0 so be cJ cI σ)), rfl, ⟨hw, rfl⟩, by rw [ht]; exact hP, va_K.moved hW.alike hK, hD⟩, hS.F ht⟩) hS.2.2 dX4_taken_82
    · have hw := hw.2 c6
      refine lv_ldc2 (v := (-1 : Int64)) hx hb hown (hts (.constantLong RX4 53 (-1 : Int64)) (by decide +kernel)) dX4_taken_18 ?_
      exact W.lret (v := (-1 : Int64)) hx hb hr (fun t ht hW => ⟨⟨(-1 : Int64), ((cl4 h0 w0 so be cJ cI σ)), rfl, ⟨hw, rfl⟩, by rw [ht]; exact hP, va_K.moved hW.alike hK, hD⟩, hS.F ht⟩) hS.2.2 dX4_taken_21
set_option maxHeartbeats 4000000 in
set_option maxRecDepth 100000 in
theorem c_X4_happens (l : Launch) (dC : Nat → ClassId) (dI : Nat → Nat → Nat) (h0 w0 so be : Nat) (cJ : ClassId) (cI : ClassId) (σ : SM) (p0 : Int32) (p1 : Int32) (post : Int64 → SM → Prop) (hw : wp_X4_happens p0 p1 σ post) : KL l yX4_happens wsX4_happens ({ frames := 0, cells := 0, slots := 0, locals := 0 } : Room) (dC, dI) [(cJ, .long), (cI, .int)] (cl4 h0 w0 so be cJ cI σ) [.ref h0, .int p0, .int p1] (fun r u => ∃ σ', post r σ' ∧ u = (cl4 h0 w0 so be cJ cI (σ'))) := by
  intro sz
  refine Met.ofW (cc := cX4_happens) (maxL := 3) (ret := (some .long)) (by decide) rfl ?_
  intro p e s m args below meth c s₁ B hml hv
  obtain ⟨rfl, hsz, hP, hK, hD0, hnw⟩ := hv
  have hx := B.exec
  have hb := B.bytes
  have hr := B.returns
  have hts := atoms_spec (ws := wsX4_happens) B.pre
  have hown : s.vm.findClass RX4 = some m.cls := findClass_of_methodNamed B.named
  have hlocks := B.notSynchronized
  subst hsz
  have hD := hD0.self (sz := s.heap.size)
  generalize hAe : va_A (cl4 h0 w0 so be cJ cI σ) s.heap.size = A at hD ⊢
  have hA : ∀ q : Nat, s.heap.size ≤ q → A q := fun q h => by rw [← hAe]; exact Or.inr h
  have hS : va_S A s.heap s.heap [] := va_S.rf
  have hP : va_P (dC, dI) vwCl [(h0, .inr (3, [.int σ.1, .int σ.2.1, .int σ.2.2.1, .ref w0, .int σ.2.2.2.2.1, .int σ.2.2.2.2.2.1, .long σ.2.2.2.2.2.2.1, .ref so, .ref be, .int σ.2.2.2.2.2.2.2.2.2.1, .int σ.2.2.2.2.2.2.2.2.2.2.1, .int σ.2.2.2.2.2.2.2.2.2.2.2.1, .int σ.2.2.2.2.2.2.2.2.2.2.2.2])), (w0, .inl (cJ, 511, .inr (.inl (σ.2.2.2.1)))), (so, .inl (cI, 30, .inl (σ.2.2.2.2.2.2.2.1))), (be, .inl (cI, 30, .inl (σ.2.2.2.2.2.2.2.2.1)))] s.heap := hP
  have hD : va_D A [(h0, .inr (3, [.int σ.1, .int σ.2.1, .int σ.2.2.1, .ref w0, .int σ.2.2.2.2.1, .int σ.2.2.2.2.2.1, .long σ.2.2.2.2.2.2.1, .ref so, .ref be, .int σ.2.2.2.2.2.2.2.2.2.1, .int σ.2.2.2.2.2.2.2.2.2.2.1, .int σ.2.2.2.2.2.2.2.2.2.2.2.1, .int σ.2.2.2.2.2.2.2.2.2.2.2.2])), (w0, .inl (cJ, 511, .inr (.inl (σ.2.2.2.1)))), (so, .inl (cI, 30, .inl (σ.2.2.2.2.2.2.2.1))), (be, .inl (cI, 30, .inl (σ.2.2.2.2.2.2.2.2.1)))] := hD
  have fl_7 := hts (.fieldLink RX4 7 "OnePlaceEachModel" "n" "I") (by decide +kernel)
  have fl_13 := hts (.fieldLink RX4 13 "OnePlaceEachModel" "x" "I") (by decide +kernel)
  have fl_16 := hts (.fieldLink RX4 16 "OnePlaceEachModel" "y" "I") (by decide +kernel)
  have fl_63 := hts (.fieldLink RX4 63 "OnePlaceEachModel" "leadsTo" "I") (by decide +kernel)
  have hin0 : ∀ w ∈ wsX40, w ∈ wsX4_happens := by decide +kernel
  have hl := lv_entry ([.ref h0, .int p0, .int p1]) (n := 3) (Nat.le_of_ble_eq_true rfl)
  rw [lg_entry_eq]
  generalize (lg_sl ([.ref h0, .int p0, .int p1]) ++ List.replicate (3 - (lg_sl ([.ref h0, .int p0, .int p1])).length) Slot.unset).toArray = ls at hl ⊢
  have hl : lv_has ls 3 [(0, .ref h0), (1, .int p0), (2, .int p1)] := hl
  unfold wp_X4_happens at hw
  skip
  obtain ⟨H, hH⟩ : ∃ H, H = s.heap := ⟨_, rfl⟩
  obtain ⟨locs, hlo⟩ : ∃ q : List Loc, q = [] := ⟨_, rfl⟩
  rw [← hH] at hP
  have hS : va_S A s.heap H locs := by rw [hH, hlo]; exact hS
  suffices hgo : W p l e (headSpec wsX4_happens ({ frames := 0, cells := 0, slots := 0, locals := 0 } : Room)).room s m _ below meth c H locs 0 0 _ (F0 m 0 ls []) by rw [hH, hlo] at hgo; exact hgo
  refine lv_iload_n hx hb dX4_happens_0 rfl (lv_at hl 2 rfl) ?_
  refine lv_aload_n hx hb dX4_happens_1 rfl (lv_at hl 0 rfl) ?_
  refine va_get (D := (dC, dI)) (ci := 3) (v := .int σ.1) (C := RX4) (T := TX4) (N := 13) hx hb hts hin0 hown hK hP 0 rfl rfl 0 (by decide) fl_7 (fun _ h9 => h9) rfl dX4_happens_2 ?_
  refine lv_icmp_ne (tgt := 31) hx hb dX4_happens_5 (by decide) (fun c1 => ?_) (fun c1 => ?_)
  · have hw := hw.1 c1
    refine lv_iload_n hx hb dX4_happens_31 rfl (lv_at hl 2 rfl) ?_
    refine lv_aload_n hx hb dX4_happens_32 rfl (lv_at hl 0 rfl) ?_
    refine va_get (D := (dC, dI)) (ci := 3) (v := .int σ.1) (C := RX4) (T := TX4) (N := 13) hx hb hts hin0 hown hK hP 0 rfl rfl 0 (by decide) fl_7 (fun _ h9 => h9) rfl dX4_happens_33 ?_
    refine lv_iconst (v := (1 : Int32)) hx hb dX4_happens_36 (by decide) ?_
    refine lv_isub hx hb dX4_happens_37 ?_
    refine lv_icmp_ne (tgt := 81) hx hb dX4_happens_38 (by decide) (fun c2 => ?_) (fun c2 => ?_)
    · have hw := hw.1 c2
      refine lv_aload_n hx hb dX4_happens_81 rfl (lv_at hl 0 rfl) ?_
      refine lv_iload_n hx hb dX4_happens_82 rfl (lv_at hl 1 rfl) ?_
      refine lv_iconst (v := (1 : Int32)) hx hb dX4_happens_83 (by decide) ?_
      refine lv_iload_n hx hb dX4_happens_84 rfl (lv_at hl 2 rfl) ?_
      refine lv_ishl hx hb dX4_happens_85 ?_
      refine lv_iconst (v := (-1 : Int32)) hx hb dX4_happens_86 (by decide) ?_
      refine lv_ixor hx hb dX4_happens_87 ?_
      refine lv_iand hx hb dX4_happens_88 ?_
      refine lv_iconst (v := (1 : Int32)) hx hb dX4_happens_89 (by decide) ?_
      refine lv_iload_n hx hb dX4_happens_90 rfl (lv_at hl 2 rfl) ?_
      refine lv_iconst (v := (1 : Int32)) hx hb dX4_happens_91 (by decide) ?_
      refine lv_iadd hx hb dX4_happens_92 ?_
      refine lv_ishl hx hb dX4_happens_93 ?_
      refine lv_ior hx hb dX4_happens_94 ?_
      refine va_put (D := (dC, dI)) (ci := 3) (v := .int ((p0 &&& (((1 : Int32) <<< (p1 &&& (31 : Int32))) ^^^ (-1 : Int32))) ||| ((1 : Int32) <<< ((p1 + (1 : Int32)) &&& (31 : Int32))))) (ty := .int) (C := RX4) (T := TX4) (N := 13) hx hb hts hin0 tyX4 tyX4_ok nmX4 hown hK hP hD hS 0 rfl rfl 12 (by decide) fl_63 (fun _ h9 => h9) rfl (by decide +kernel) rfl rfl (Nat.le_of_ble_eq_true rfl) dX4_happens_95 (fun H locs hP hD hS => ?_)
      have hP : va_P (dC, dI) vwCl [(h0, .inr (3, [.int σ.1, .int σ.2.1, .int σ.2.2.1, .ref w0, .int σ.2.2.2.2.1, .int σ.2.2.2.2.2.1, .long σ.2.2.2.2.2.2.1, .ref so, .ref be, .int σ.2.2.2.2.2.2.2.2.2.1, .int σ.2.2.2.2.2.2.2.2.2.2.1, .int σ.2.2.2.2.2.2.2.2.2.2.2.1, .int ((p0 &&& (((1 : Int32) <<< (p1 &&& (31 : Int32))) ^^^ (-1 : Int32))) ||| ((1 : Int32) <<< ((p1 + (1 : Int32)) &&& (31 : Int32))))])), (w0, .inl (cJ, 511, .inr (.inl (σ.2.2.2.1)))), (so, .inl (cI, 30, .inl (σ.2.2.2.2.2.2.2.1))), (be, .inl (cI, 30, .inl (σ.2.2.2.2.2.2.2.2.1)))] H := hP
      have hD : va_D A [(h0, .inr (3, [.int σ.1, .int σ.2.1, .int σ.2.2.1, .ref w0, .int σ.2.2.2.2.1, .int σ.2.2.2.2.2.1, .long σ.2.2.2.2.2.2.1, .ref so, .ref be, .int σ.2.2.2.2.2.2.2.2.2.1, .int σ.2.2.2.2.2.2.2.2.2.2.1, .int σ.2.2.2.2.2.2.2.2.2.2.2.1, .int ((p0 &&& (((1 : Int32) <<< (p1 &&& (31 : Int32))) ^^^ (-1 : Int32))) ||| ((1 : Int32) <<< ((p1 + (1 : Int32)) &&& (31 : Int32))))])), (w0, .inl (cJ, 511, .inr (.inl (σ.2.2.2.1)))), (so, .inl (cI, 30, .inl (σ.2.2.2.2.2.2.2.1))), (be, .inl (cI, 30, .inl (σ.2.2.2.2.2.2.2.2.1)))] := hD
      refine lv_iload_n hx hb dX4_happens_98 rfl (lv_at hl 1 rfl) ?_
      refine lv_iload_n hx hb dX4_happens_99 rfl (lv_at hl 2 rfl) ?_
      refine lv_ishr hx hb dX4_happens_100 ?_
      refine lv_iconst (v := (3 : Int32)) hx hb dX4_happens_101 (by decide) ?_
      refine lv_iand hx hb dX4_happens_102 ?_
      refine lv_iconst (v := (1 : Int32)) hx hb dX4_happens_103 (by decide) ?_
      refine lv_icmp_ne (tgt := 121) hx hb dX4_happens_104 (by decide) (fun c3 => ?_) (fun c3 => ?_)
      · have hw := hw.1 c3
        refine lv_lconst (v := (0 : Int64)) hx hb dX4_happens_121 (by decide) ?_
        exact W.lret (v := (0 : Int64)) hx hb hr (fun t ht hW => ⟨⟨(0 : Int64), ((cl4 h0 w0 so be cJ cI (σ.1, σ.2.1, σ.2.2.1, σ.2.2.2.1, σ.2.2.2.2.1, σ.2.2.2.2.2.1, σ.2.2.2.2.2.2.1, σ.2.2.2.2.2.2.2.1, σ.2.2.2.2.2.2.2.2.1, σ.2.2.2.2.2.2.2.2.2.1, σ.2.2.2.2.2.2.2.2.2.2.1, σ.2.2.2.2.2.2.2.2.2.2.2.1, ((p0 &&& (((1 : Int32) <<< (p1 &&& (31 : Int32))) ^^^ (-1 : Int32))) ||| ((1 : Int32) <<< ((p1 + (1 : Int32)) &&& (31 : Int32))))))), rfl, ⟨(σ.1, σ.2.1, σ.2.2.1, σ.2.2.2.1, σ.2.2.2.2.1, σ.2.2.2.2.2.1, σ.2.2.2.2.2.2.1, σ.2.2.2.2.2.2.2.1, σ.2.2.2.2.2.2.2.2.1, σ.2.2.2.2.2.2.2.2.2.1, σ.2.2.2.2.2.2.2.2.2.2.1, σ.2.2.2.2.2.2.2.2.2.2.2.1, ((p0 &&& (((1 : Int32) <<< (p1 &&& (31 : Int32))) ^^^ (-1 : Int32))) ||| ((1 : Int32) <<< ((p1 + (1 : Int32)) &&& (31 : Int32))))), hw, rfl⟩, by rw [ht]; exact hP, va_K.moved hW.alike hK, hD⟩, hS.F ht⟩) hS.2.2 dX4_happens_122
      · have hw := hw.2 c3
        refine lv_aload_n hx hb dX4_happens_107 rfl (lv_at hl 0 rfl) ?_
        refine va_get (D := (dC, dI)) (ci := 3) (v := .int σ.2.1) (C := RX4) (T := TX4) (N := 13) hx hb hts hin0 hown hK hP 0 rfl rfl 1 (by decide) fl_13 (fun _ h9 => h9) rfl dX4_happens_108 ?_
        refine lv_i2l hx hb dX4_happens_111 rfl ?_
        refine lv_aload_n hx hb dX4_happens_112 rfl (lv_at hl 0 rfl) ?_
        refine va_get (D := (dC, dI)) (ci := 3) (v := .int σ.2.2.1) (C := RX4) (T := TX4) (N := 13) hx hb hts hin0 hown hK hP 0 rfl rfl 2 (by decide) fl_16 (fun _ h9 => h9) rfl dX4_happens_113 ?_
        refine lv_i2l hx hb dX4_happens_116 rfl ?_
        refine lv_lmul hx hb dX4_happens_117 ?_
        refine lv_goto (tgt := 122) hx hb dX4_happens_118 (by decide) ?_
        exact W.lret (v := ((σ.2.1.toInt64) * (σ.2.2.1.toInt64))) hx hb hr (fun t ht hW => ⟨⟨((σ.2.1.toInt64) * (σ.2.2.1.toInt64)), ((cl4 h0 w0 so be cJ cI (σ.1, σ.2.1, σ.2.2.1, σ.2.2.2.1, σ.2.2.2.2.1, σ.2.2.2.2.2.1, σ.2.2.2.2.2.2.1, σ.2.2.2.2.2.2.2.1, σ.2.2.2.2.2.2.2.2.1, σ.2.2.2.2.2.2.2.2.2.1, σ.2.2.2.2.2.2.2.2.2.2.1, σ.2.2.2.2.2.2.2.2.2.2.2.1, ((p0 &&& (((1 : Int32) <<< (p1 &&& (31 : Int32))) ^^^ (-1 : Int32))) ||| ((1 : Int32) <<< ((p1 + (1 : Int32)) &&& (31 : Int32))))))), rfl, ⟨(σ.1, σ.2.1, σ.2.2.1, σ.2.2.2.1, σ.2.2.2.2.1, σ.2.2.2.2.2.1, σ.2.2.2.2.2.2.1, σ.2.2.2.2.2.2.2.1, σ.2.2.2.2.2.2.2.2.1, σ.2.2.2.2.2.2.2.2.2.1, σ.2.2.2.2.2.2.2.2.2.2.1, σ.2.2.2.2.2.2.2.2.2.2.2.1, ((p0 &&& (((1 : Int32) <<< (p1 &&& (31 : Int32))) ^^^ (-1 : Int32))) ||| ((1 : Int32) <<< ((p1 + (1 : Int32)) &&& (31 : Int32))))), hw, rfl⟩, by rw [ht]; exact hP, va_K.moved hW.alike hK, hD⟩, hS.F ht⟩) hS.2.2 dX4_happens_122
    · have hw := hw.2 c2
      refine lv_aload_n hx hb dX4_happens_41 rfl (lv_at hl 0 rfl) ?_
      refine lv_iload_n hx hb dX4_happens_42 rfl (lv_at hl 1 rfl) ?_
      refine lv_iconst (v := (1 : Int32)) hx hb dX4_happens_43 (by decide) ?_
      refine lv_aload_n hx hb dX4_happens_44 rfl (lv_at hl 0 rfl) ?_
      refine va_get (D := (dC, dI)) (ci := 3) (v := .int σ.1) (C := RX4) (T := TX4) (N := 13) hx hb hts hin0 hown hK hP 0 rfl rfl 0 (by decide) fl_7 (fun _ h9 => h9) rfl dX4_happens_45 ?_
      refine lv_iconst (v := (1 : Int32)) hx hb dX4_happens_48 (by decide) ?_
      refine lv_isub hx hb dX4_happens_49 ?_
      refine lv_ishl hx hb dX4_happens_50 ?_
      refine lv_iconst (v := (-1 : Int32)) hx hb dX4_happens_51 (by decide) ?_
      refine lv_ixor hx hb dX4_happens_52 ?_
      refine lv_iand hx hb dX4_happens_53 ?_
      refine va_put (D := (dC, dI)) (ci := 3) (v := .int (p0 &&& (((1 : Int32) <<< ((σ.1 - (1 : Int32)) &&& (31 : Int32))) ^^^ (-1 : Int32)))) (ty := .int) (C := RX4) (T := TX4) (N := 13) hx hb hts hin0 tyX4 tyX4_ok nmX4 hown hK hP hD hS 0 rfl rfl 12 (by decide) fl_63 (fun _ h9 => h9) rfl (by decide +kernel) rfl rfl (Nat.le_of_ble_eq_true rfl) dX4_happens_54 (fun H locs hP hD hS => ?_)
      have hP : va_P (dC, dI) vwCl [(h0, .inr (3, [.int σ.1, .int σ.2.1, .int σ.2.2.1, .ref w0, .int σ.2.2.2.2.1, .int σ.2.2.2.2.2.1, .long σ.2.2.2.2.2.2.1, .ref so, .ref be, .int σ.2.2.2.2.2.2.2.2.2.1, .int σ.2.2.2.2.2.2.2.2.2.2.1, .int σ.2.2.2.2.2.2.2.2.2.2.2.1, .int (p0 &&& (((1 : Int32) <<< ((σ.1 - (1 : Int32)) &&& (31 : Int32))) ^^^ (-1 : Int32)))])), (w0, .inl (cJ, 511, .inr (.inl (σ.2.2.2.1)))), (so, .inl (cI, 30, .inl (σ.2.2.2.2.2.2.2.1))), (be, .inl (cI, 30, .inl (σ.2.2.2.2.2.2.2.2.1)))] H := hP
      have hD : va_D A [(h0, .inr (3, [.int σ.1, .int σ.2.1, .int σ.2.2.1, .ref w0, .int σ.2.2.2.2.1, .int σ.2.2.2.2.2.1, .long σ.2.2.2.2.2.2.1, .ref so, .ref be, .int σ.2.2.2.2.2.2.2.2.2.1, .int σ.2.2.2.2.2.2.2.2.2.2.1, .int σ.2.2.2.2.2.2.2.2.2.2.2.1, .int (p0 &&& (((1 : Int32) <<< ((σ.1 - (1 : Int32)) &&& (31 : Int32))) ^^^ (-1 : Int32)))])), (w0, .inl (cJ, 511, .inr (.inl (σ.2.2.2.1)))), (so, .inl (cI, 30, .inl (σ.2.2.2.2.2.2.2.1))), (be, .inl (cI, 30, .inl (σ.2.2.2.2.2.2.2.2.1)))] := hD
      refine lv_iload_n hx hb dX4_happens_57 rfl (lv_at hl 1 rfl) ?_
      refine lv_aload_n hx hb dX4_happens_58 rfl (lv_at hl 0 rfl) ?_
      refine va_get (D := (dC, dI)) (ci := 3) (v := .int σ.1) (C := RX4) (T := TX4) (N := 13) hx hb hts hin0 hown hK hP 0 rfl rfl 0 (by decide) fl_7 (fun _ h9 => h9) rfl dX4_happens_59 ?_
      refine lv_iconst (v := (1 : Int32)) hx hb dX4_happens_62 (by decide) ?_
      refine lv_isub hx hb dX4_happens_63 ?_
      refine lv_ishr hx hb dX4_happens_64 ?_
      refine lv_iconst (v := (1 : Int32)) hx hb dX4_happens_65 (by decide) ?_
      refine lv_iand hx hb dX4_happens_66 ?_
      refine lv_iconst (v := (1 : Int32)) hx hb dX4_happens_67 (by decide) ?_
      refine lv_icmp_ne (tgt := 79) hx hb dX4_happens_68 (by decide) (fun c4 => ?_) (fun c4 => ?_)
      · have hw := hw.1 c4
        refine lv_lconst (v := (0 : Int64)) hx hb dX4_happens_79 (by decide) ?_
        exact W.lret (v := (0 : Int64)) hx hb hr (fun t ht hW => ⟨⟨(0 : Int64), ((cl4 h0 w0 so be cJ cI (σ.1, σ.2.1, σ.2.2.1, σ.2.2.2.1, σ.2.2.2.2.1, σ.2.2.2.2.2.1, σ.2.2.2.2.2.2.1, σ.2.2.2.2.2.2.2.1, σ.2.2.2.2.2.2.2.2.1, σ.2.2.2.2.2.2.2.2.2.1, σ.2.2.2.2.2.2.2.2.2.2.1, σ.2.2.2.2.2.2.2.2.2.2.2.1, (p0 &&& (((1 : Int32) <<< ((σ.1 - (1 : Int32)) &&& (31 : Int32))) ^^^ (-1 : Int32)))))), rfl, ⟨(σ.1, σ.2.1, σ.2.2.1, σ.2.2.2.1, σ.2.2.2.2.1, σ.2.2.2.2.2.1, σ.2.2.2.2.2.2.1, σ.2.2.2.2.2.2.2.1, σ.2.2.2.2.2.2.2.2.1, σ.2.2.2.2.2.2.2.2.2.1, σ.2.2.2.2.2.2.2.2.2.2.1, σ.2.2.2.2.2.2.2.2.2.2.2.1, (p0 &&& (((1 : Int32) <<< ((σ.1 - (1 : Int32)) &&& (31 : Int32))) ^^^ (-1 : Int32)))), hw, rfl⟩, by rw [ht]; exact hP, va_K.moved hW.alike hK, hD⟩, hS.F ht⟩) hS.2.2 dX4_happens_80
      · have hw := hw.2 c4
        refine lv_aload_n hx hb dX4_happens_71 rfl (lv_at hl 0 rfl) ?_
        refine va_get (D := (dC, dI)) (ci := 3) (v := .int σ.2.1) (C := RX4) (T := TX4) (N := 13) hx hb hts hin0 hown hK hP 0 rfl rfl 1 (by decide) fl_13 (fun _ h9 => h9) rfl dX4_happens_72 ?_
        refine lv_i2l hx hb dX4_happens_75 rfl ?_
        refine lv_goto (tgt := 80) hx hb dX4_happens_76 (by decide) ?_
        exact W.lret (v := (σ.2.1.toInt64)) hx hb hr (fun t ht hW => ⟨⟨(σ.2.1.toInt64), ((cl4 h0 w0 so be cJ cI (σ.1, σ.2.1, σ.2.2.1, σ.2.2.2.1, σ.2.2.2.2.1, σ.2.2.2.2.2.1, σ.2.2.2.2.2.2.1, σ.2.2.2.2.2.2.2.1, σ.2.2.2.2.2.2.2.2.1, σ.2.2.2.2.2.2.2.2.2.1, σ.2.2.2.2.2.2.2.2.2.2.1, σ.2.2.2.2.2.2.2.2.2.2.2.1, (p0 &&& (((1 : Int32) <<< ((σ.1 - (1 : Int32)) &&& (31 : Int32))) ^^^ (-1 : Int32)))))), rfl, ⟨(σ.1, σ.2.1, σ.2.2.1, σ.2.2.2.1, σ.2.2.2.2.1, σ.2.2.2.2.2.1, σ.2.2.2.2.2.2.1, σ.2.2.2.2.2.2.2.1, σ.2.2.2.2.2.2.2.2.1, σ.2.2.2.2.2.2.2.2.2.1, σ.2.2.2.2.2.2.2.2.2.2.1, σ.2.2.2.2.2.2.2.2.2.2.2.1, (p0 &&& (((1 : Int32) <<< ((σ.1 - (1 : Int32)) &&& (31 : Int32))) ^^^ (-1 : Int32)))), hw, rfl⟩, by rw [ht]; exact hP, va_K.moved hW.alike hK, hD⟩, hS.F ht⟩) hS.2.2 dX4_happens_80
  · have hw := hw.2 c1
    refine lv_aload_n hx hb dX4_happens_8 rfl (lv_at hl 0 rfl) ?_
    refine lv_iload_n hx hb dX4_happens_9 rfl (lv_at hl 1 rfl) ?_
    refine lv_iconst (v := (1 : Int32)) hx hb dX4_happens_10 (by decide) ?_
    refine lv_ior hx hb dX4_happens_11 ?_
    refine va_put (D := (dC, dI)) (ci := 3) (v := .int (p0 ||| (1 : Int32))) (ty := .int) (C := RX4) (T := TX4) (N := 13) hx hb hts hin0 tyX4 tyX4_ok nmX4 hown hK hP hD hS 0 rfl rfl 12 (by decide) fl_63 (fun _ h9 => h9) rfl (by decide +kernel) rfl rfl (Nat.le_of_ble_eq_true rfl) dX4_happens_12 (fun H locs hP hD hS => ?_)
    have hP : va_P (dC, dI) vwCl [(h0, .inr (3, [.int σ.1, .int σ.2.1, .int σ.2.2.1, .ref w0, .int σ.2.2.2.2.1, .int σ.2.2.2.2.2.1, .long σ.2.2.2.2.2.2.1, .ref so, .ref be, .int σ.2.2.2.2.2.2.2.2.2.1, .int σ.2.2.2.2.2.2.2.2.2.2.1, .int σ.2.2.2.2.2.2.2.2.2.2.2.1, .int (p0 ||| (1 : Int32))])), (w0, .inl (cJ, 511, .inr (.inl (σ.2.2.2.1)))), (so, .inl (cI, 30, .inl (σ.2.2.2.2.2.2.2.1))), (be, .inl (cI, 30, .inl (σ.2.2.2.2.2.2.2.2.1)))] H := hP
    have hD : va_D A [(h0, .inr (3, [.int σ.1, .int σ.2.1, .int σ.2.2.1, .ref w0, .int σ.2.2.2.2.1, .int σ.2.2.2.2.2.1, .long σ.2.2.2.2.2.2.1, .ref so, .ref be, .int σ.2.2.2.2.2.2.2.2.2.1, .int σ.2.2.2.2.2.2.2.2.2.2.1, .int σ.2.2.2.2.2.2.2.2.2.2.2.1, .int (p0 ||| (1 : Int32))])), (w0, .inl (cJ, 511, .inr (.inl (σ.2.2.2.1)))), (so, .inl (cI, 30, .inl (σ.2.2.2.2.2.2.2.1))), (be, .inl (cI, 30, .inl (σ.2.2.2.2.2.2.2.2.1)))] := hD
    refine lv_iload_n hx hb dX4_happens_15 rfl (lv_at hl 1 rfl) ?_
    refine lv_iconst (v := (1 : Int32)) hx hb dX4_happens_16 (by decide) ?_
    refine lv_iand hx hb dX4_happens_17 ?_
    refine lv_if_ne (tgt := 29) hx hb dX4_happens_18 (by decide) (fun c5 => ?_) (fun c5 => ?_)
    · have hw := hw.1 c5
      refine lv_lconst (v := (0 : Int64)) hx hb dX4_happens_29 (by decide) ?_
      exact W.lret (v := (0 : Int64)) hx hb hr (fun t ht hW => ⟨⟨(0 : Int64), ((cl4 h0 w0 so be cJ cI (σ.1, σ.2.1, σ.2.2.1, σ.2.2.2.1, σ.2.2.2.2.1, σ.2.2.2.2.2.1, σ.2.2.2.2.2.2.1, σ.2.2.2.2.2.2.2.1, σ.2.2.2.2.2.2.2.2.1, σ.2.2.2.2.2.2.2.2.2.1, σ.2.2.2.2.2.2.2.2.2.2.1, σ.2.2.2.2.2.2.2.2.2.2.2.1, (p0 ||| (1 : Int32))))), rfl, ⟨(σ.1, σ.2.1, σ.2.2.1, σ.2.2.2.1, σ.2.2.2.2.1, σ.2.2.2.2.2.1, σ.2.2.2.2.2.2.1, σ.2.2.2.2.2.2.2.1, σ.2.2.2.2.2.2.2.2.1, σ.2.2.2.2.2.2.2.2.2.1, σ.2.2.2.2.2.2.2.2.2.2.1, σ.2.2.2.2.2.2.2.2.2.2.2.1, (p0 ||| (1 : Int32))), hw, rfl⟩, by rw [ht]; exact hP, va_K.moved hW.alike hK, hD⟩, hS.F ht⟩) hS.2.2 dX4_happens_30
    · have hw := hw.2 c5
      refine lv_aload_n hx hb dX4_happens_21 rfl (lv_at hl 0 rfl) ?_
      refine va_get (D := (dC, dI)) (ci := 3) (v := .int σ.2.2.1) (C := RX4) (T := TX4) (N := 13) hx hb hts hin0 hown hK hP 0 rfl rfl 2 (by decide) fl_16 (fun _ h9 => h9) rfl dX4_happens_22 ?_
      refine lv_i2l hx hb dX4_happens_25 rfl ?_
      refine lv_goto (tgt := 30) hx hb dX4_happens_26 (by decide) ?_
      exact W.lret (v := (σ.2.2.1.toInt64)) hx hb hr (fun t ht hW => ⟨⟨(σ.2.2.1.toInt64), ((cl4 h0 w0 so be cJ cI (σ.1, σ.2.1, σ.2.2.1, σ.2.2.2.1, σ.2.2.2.2.1, σ.2.2.2.2.2.1, σ.2.2.2.2.2.2.1, σ.2.2.2.2.2.2.2.1, σ.2.2.2.2.2.2.2.2.1, σ.2.2.2.2.2.2.2.2.2.1, σ.2.2.2.2.2.2.2.2.2.2.1, σ.2.2.2.2.2.2.2.2.2.2.2.1, (p0 ||| (1 : Int32))))), rfl, ⟨(σ.1, σ.2.1, σ.2.2.1, σ.2.2.2.1, σ.2.2.2.2.1, σ.2.2.2.2.2.1, σ.2.2.2.2.2.2.1, σ.2.2.2.2.2.2.2.1, σ.2.2.2.2.2.2.2.2.1, σ.2.2.2.2.2.2.2.2.2.1, σ.2.2.2.2.2.2.2.2.2.2.1, σ.2.2.2.2.2.2.2.2.2.2.2.1, (p0 ||| (1 : Int32))), hw, rfl⟩, by rw [ht]; exact hP, va_K.moved hW.alike hK, hD⟩, hS.F ht⟩) hS.2.2 dX4_happens_30
set_option maxHeartbeats 4000000 in
set_option maxRecDepth 100000 in
theorem c_X4_flow (l : Launch) (dC : Nat → ClassId) (dI : Nat → Nat → Nat) (h0 w0 so be : Nat) (cJ : ClassId) (cI : ClassId) (σ : SM) (p0 : Int32) (p1 : Int32) (post : Int64 → SM → Prop) (hw : wp_X4_flow p0 p1 σ post) : KL l yX4_flow wsX4_flow ({ frames := 2, cells := 0, slots := 0, locals := 46 } : Room) (dC, dI) [(cJ, .long), (cI, .int)] (cl4 h0 w0 so be cJ cI σ) [.ref h0, .int p0, .int p1] (fun r u => ∃ σ', post r σ' ∧ u = (cl4 h0 w0 so be cJ cI (σ'))) := by
  intro sz
  refine Met.ofW (cc := cX4_flow) (maxL := 9) (ret := (some .long)) (by decide) rfl ?_
  intro p e s m args below meth c s₁ B hml hv
  obtain ⟨rfl, hsz, hP, hK, hD0, hnw⟩ := hv
  have hx := B.exec
  have hb := B.bytes
  have hr := B.returns
  have hts := atoms_spec (ws := wsX4_flow) B.pre
  have hown : s.vm.findClass RX4 = some m.cls := findClass_of_methodNamed B.named
  have hlocks := B.notSynchronized
  subst hsz
  have hD := hD0.self (sz := s.heap.size)
  generalize hAe : va_A (cl4 h0 w0 so be cJ cI σ) s.heap.size = A at hD ⊢
  have hA : ∀ q : Nat, s.heap.size ≤ q → A q := fun q h => by rw [← hAe]; exact Or.inr h
  have hS : va_S A s.heap s.heap [] := va_S.rf
  have hP : va_P (dC, dI) vwCl [(h0, .inr (3, [.int σ.1, .int σ.2.1, .int σ.2.2.1, .ref w0, .int σ.2.2.2.2.1, .int σ.2.2.2.2.2.1, .long σ.2.2.2.2.2.2.1, .ref so, .ref be, .int σ.2.2.2.2.2.2.2.2.2.1, .int σ.2.2.2.2.2.2.2.2.2.2.1, .int σ.2.2.2.2.2.2.2.2.2.2.2.1, .int σ.2.2.2.2.2.2.2.2.2.2.2.2])), (w0, .inl (cJ, 511, .inr (.inl (σ.2.2.2.1)))), (so, .inl (cI, 30, .inl (σ.2.2.2.2.2.2.2.1))), (be, .inl (cI, 30, .inl (σ.2.2.2.2.2.2.2.2.1)))] s.heap := hP
  have hD : va_D A [(h0, .inr (3, [.int σ.1, .int σ.2.1, .int σ.2.2.1, .ref w0, .int σ.2.2.2.2.1, .int σ.2.2.2.2.2.1, .long σ.2.2.2.2.2.2.1, .ref so, .ref be, .int σ.2.2.2.2.2.2.2.2.2.1, .int σ.2.2.2.2.2.2.2.2.2.2.1, .int σ.2.2.2.2.2.2.2.2.2.2.2.1, .int σ.2.2.2.2.2.2.2.2.2.2.2.2])), (w0, .inl (cJ, 511, .inr (.inl (σ.2.2.2.1)))), (so, .inl (cI, 30, .inl (σ.2.2.2.2.2.2.2.1))), (be, .inl (cI, 30, .inl (σ.2.2.2.2.2.2.2.2.1)))] := hD
  have fl_7 := hts (.fieldLink RX4 7 "OnePlaceEachModel" "n" "I") (by decide +kernel)
  have fl_63 := hts (.fieldLink RX4 63 "OnePlaceEachModel" "leadsTo" "I") (by decide +kernel)
  have hin0 : ∀ w ∈ wsX40, w ∈ wsX4_flow := by decide +kernel
  have L67 : ∀ (x1 : Int32) (x2 : Int32) (x5 : Int32)  (n : Nat) (x3 : Int64) (x6 : Int32) (σ : SM) (k : Int64 → Int32 → SM → Prop), wl_X4_flow_67 x1 x2 x5  n x3 x6 σ k →
      (∀ (x3 : Int64) (x6 : Int32) (σ : SM), k x3 x6 σ → ∀ (H : Heap) (locs : List Loc) (ls : Array Slot), va_P (dC, dI) vwCl [(h0, .inr (3, [.int σ.1, .int σ.2.1, .int σ.2.2.1, .ref w0, .int σ.2.2.2.2.1, .int σ.2.2.2.2.2.1, .long σ.2.2.2.2.2.2.1, .ref so, .ref be, .int σ.2.2.2.2.2.2.2.2.2.1, .int σ.2.2.2.2.2.2.2.2.2.2.1, .int σ.2.2.2.2.2.2.2.2.2.2.2.1, .int σ.2.2.2.2.2.2.2.2.2.2.2.2])), (w0, .inl (cJ, 511, .inr (.inl (σ.2.2.2.1)))), (so, .inl (cI, 30, .inl (σ.2.2.2.2.2.2.2.1))), (be, .inl (cI, 30, .inl (σ.2.2.2.2.2.2.2.2.1)))] H → va_D A [(h0, .inr (3, [.int σ.1, .int σ.2.1, .int σ.2.2.1, .ref w0, .int σ.2.2.2.2.1, .int σ.2.2.2.2.2.1, .long σ.2.2.2.2.2.2.1, .ref so, .ref be, .int σ.2.2.2.2.2.2.2.2.2.1, .int σ.2.2.2.2.2.2.2.2.2.2.1, .int σ.2.2.2.2.2.2.2.2.2.2.2.1, .int σ.2.2.2.2.2.2.2.2.2.2.2.2])), (w0, .inl (cJ, 511, .inr (.inl (σ.2.2.2.1)))), (so, .inl (cI, 30, .inl (σ.2.2.2.2.2.2.2.1))), (be, .inl (cI, 30, .inl (σ.2.2.2.2.2.2.2.2.1)))] → va_S A s.heap H locs → lv_has ls 9 [(6, .int x6), (5, .int x5), (3, .long x3), (0, .ref h0), (1, .int x1), (2, .int x2)] → W p l e (headSpec wsX4_flow ({ frames := 2, cells := 0, slots := 0, locals := 46 } : Room)).room s m ([.ref h0, .int p0, .int p1] : List Value).toArray below meth c H locs 0 0 (MQ below (va_Ql (fun r u => ∃ σ', post r σ' ∧ u = (cl4 h0 w0 so be cJ cI (σ'))) (kB (dC, dI) [(cJ, .long), (cI, .int)] A) A) ([.ref h0, .int p0, .int p1] : List Value).toArray s 0 0 A) (F0 m 129 ls [])) →
      ∀ (H : Heap) (locs : List Loc) (ls : Array Slot), va_P (dC, dI) vwCl [(h0, .inr (3, [.int σ.1, .int σ.2.1, .int σ.2.2.1, .ref w0, .int σ.2.2.2.2.1, .int σ.2.2.2.2.2.1, .long σ.2.2.2.2.2.2.1, .ref so, .ref be, .int σ.2.2.2.2.2.2.2.2.2.1, .int σ.2.2.2.2.2.2.2.2.2.2.1, .int σ.2.2.2.2.2.2.2.2.2.2.2.1, .int σ.2.2.2.2.2.2.2.2.2.2.2.2])), (w0, .inl (cJ, 511, .inr (.inl (σ.2.2.2.1)))), (so, .inl (cI, 30, .inl (σ.2.2.2.2.2.2.2.1))), (be, .inl (cI, 30, .inl (σ.2.2.2.2.2.2.2.2.1)))] H → va_D A [(h0, .inr (3, [.int σ.1, .int σ.2.1, .int σ.2.2.1, .ref w0, .int σ.2.2.2.2.1, .int σ.2.2.2.2.2.1, .long σ.2.2.2.2.2.2.1, .ref so, .ref be, .int σ.2.2.2.2.2.2.2.2.2.1, .int σ.2.2.2.2.2.2.2.2.2.2.1, .int σ.2.2.2.2.2.2.2.2.2.2.2.1, .int σ.2.2.2.2.2.2.2.2.2.2.2.2])), (w0, .inl (cJ, 511, .inr (.inl (σ.2.2.2.1)))), (so, .inl (cI, 30, .inl (σ.2.2.2.2.2.2.2.1))), (be, .inl (cI, 30, .inl (σ.2.2.2.2.2.2.2.2.1)))] → va_S A s.heap H locs → lv_has ls 9 [(6, .int x6), (5, .int x5), (3, .long x3), (0, .ref h0), (1, .int x1), (2, .int x2)] → W p l e (headSpec wsX4_flow ({ frames := 2, cells := 0, slots := 0, locals := 46 } : Room)).room s m ([.ref h0, .int p0, .int p1] : List Value).toArray below meth c H locs 0 0 (MQ below (va_Ql (fun r u => ∃ σ', post r σ' ∧ u = (cl4 h0 w0 so be cJ cI (σ'))) (kB (dC, dI) [(cJ, .long), (cI, .int)] A) A) ([.ref h0, .int p0, .int p1] : List Value).toArray s 0 0 A) (F0 m 67 ls []) := by
    intro x1 x2 x5 n
    induction n with
    | zero => intro x3 x6 σ k hw; exact absurd hw id
    | succ n ih =>
      intro x3 x6 σ k hw hk H locs ls hP hD hS hl
      unfold wl_X4_flow_67 at hw
      refine lv_iload hx hb dX4_flow_67 (lv_at hl 0 rfl) ?_
      refine lv_iconst (v := (1 : Int32)) hx hb dX4_flow_69 (by decide) ?_
      refine lv_aload_n hx hb dX4_flow_70 rfl (lv_at hl 3 rfl) ?_
      refine va_get (D := (dC, dI)) (ci := 3) (v := .int σ.1) (C := RX4) (T := TX4) (N := 13) hx hb hts hin0 hown hK hP 0 rfl rfl 0 (by decide) fl_7 (fun _ h9 => h9) rfl dX4_flow_71 ?_
      refine lv_ishl hx hb dX4_flow_74 ?_
      refine lv_icmp_ge (tgt := 129) hx hb dX4_flow_75 (by decide) (fun c9 => ?_) (fun c9 => ?_)
      · have hw := hw.1 c9
        exact hk x3 x6 σ hw H locs ls hP hD hS (lv_sub hl [0, 1, 2, 3, 4, 5] rfl)
      · have hw := hw.2 c9
        refine lv_aload_n hx hb dX4_flow_78 rfl (lv_at hl 3 rfl) ?_
        refine lv_iload hx hb dX4_flow_79 (lv_at hl 0 rfl) ?_
        refine lv_iload hx hb dX4_flow_81 (lv_at hl 1 rfl) ?_
        have hPc := hP
        have hDc := hD
        have hKc := hK
        have hFc := va_free (wc := [(h0, .inr (3, [.int σ.1, .int σ.2.1, .int σ.2.2.1, .ref w0, .int σ.2.2.2.2.1, .int σ.2.2.2.2.2.1, .long σ.2.2.2.2.2.2.1, .ref so, .ref be, .int σ.2.2.2.2.2.2.2.2.2.1, .int σ.2.2.2.2.2.2.2.2.2.2.1, .int σ.2.2.2.2.2.2.2.2.2.2.2.1, .int σ.2.2.2.2.2.2.2.2.2.2.2.2])), (w0, .inl (cJ, 511, .inr (.inl (σ.2.2.2.1)))), (so, .inl (cI, 30, .inl (σ.2.2.2.2.2.2.2.1))), (be, .inl (cI, 30, .inl (σ.2.2.2.2.2.2.2.2.1)))]) hD hS hA [0, 1, 2, 3] rfl
        refine kc_l (wr := ([] : va_W)) (kr_V (As := [.int x6, .int x5]) (rest := []) (b := h0) (ws := [(h0, .inr (3, [.int σ.1, .int σ.2.1, .int σ.2.2.1, .ref w0, .int σ.2.2.2.2.1, .int σ.2.2.2.2.2.1, .long σ.2.2.2.2.2.2.1, .ref so, .ref be, .int σ.2.2.2.2.2.2.2.2.2.1, .int σ.2.2.2.2.2.2.2.2.2.2.1, .int σ.2.2.2.2.2.2.2.2.2.2.2.1, .int σ.2.2.2.2.2.2.2.2.2.2.2.2])), (w0, .inl (cJ, 511, .inr (.inl (σ.2.2.2.1)))), (so, .inl (cI, 30, .inl (σ.2.2.2.2.2.2.2.1))), (be, .inl (cI, 30, .inl (σ.2.2.2.2.2.2.2.2.1)))]) ⟨hx, hb, hml, hown, hts⟩ (c_X4_happens l dC dI h0 w0 so be cJ cI σ x6 x5 _ hw H.size) (cwV 2 hts gX4_flow_X4_happens rfl rfl rfl (by decide +kernel) ⟨Nat.le_of_ble_eq_true rfl, Nat.le_of_ble_eq_true rfl⟩) 3 0 hK rfl rfl rfl hKc hnw hP hD hPc hDc rfl hl.1 rfl (Nat.le_of_ble_eq_true rfl) dX4_flow_83 ⟨Nat.zero_le _, Nat.zero_le _⟩) hP hD hS hFc [0, 1, 2, 3] [] rfl rfl (by decide) (by decide) (fun r10 u1 H locs hq hP hD hS => ?_)
        obtain ⟨σ11, hw, rfl⟩ := hq
        have hP : va_P (dC, dI) vwCl [(h0, .inr (3, [.int σ11.1, .int σ11.2.1, .int σ11.2.2.1, .ref w0, .int σ11.2.2.2.2.1, .int σ11.2.2.2.2.2.1, .long σ11.2.2.2.2.2.2.1, .ref so, .ref be, .int σ11.2.2.2.2.2.2.2.2.2.1, .int σ11.2.2.2.2.2.2.2.2.2.2.1, .int σ11.2.2.2.2.2.2.2.2.2.2.2.1, .int σ11.2.2.2.2.2.2.2.2.2.2.2.2])), (w0, .inl (cJ, 511, .inr (.inl (σ11.2.2.2.1)))), (so, .inl (cI, 30, .inl (σ11.2.2.2.2.2.2.2.1))), (be, .inl (cI, 30, .inl (σ11.2.2.2.2.2.2.2.2.1)))] H := hP
        have hD : va_D A [(h0, .inr (3, [.int σ11.1, .int σ11.2.1, .int σ11.2.2.1, .ref w0, .int σ11.2.2.2.2.1, .int σ11.2.2.2.2.2.1, .long σ11.2.2.2.2.2.2.1, .ref so, .ref be, .int σ11.2.2.2.2.2.2.2.2.2.1, .int σ11.2.2.2.2.2.2.2.2.2.2.1, .int σ11.2.2.2.2.2.2.2.2.2.2.2.1, .int σ11.2.2.2.2.2.2.2.2.2.2.2.2])), (w0, .inl (cJ, 511, .inr (.inl (σ11.2.2.2.1)))), (so, .inl (cI, 30, .inl (σ11.2.2.2.2.2.2.2.1))), (be, .inl (cI, 30, .inl (σ11.2.2.2.2.2.2.2.2.1)))] := hD
        refine lv_lstore (lv' := [(7, .long r10), (6, .int x6), (5, .int x5), (3, .long x3), (0, .ref h0), (1, .int x1), (2, .int x2)]) hx hb dX4_flow_86 hl (by decide) rfl (fun ls hl => ?_)
        refine lv_lload_n hx hb dX4_flow_88 rfl (lv_at hl 3 rfl) ?_
        refine lv_lload hx hb dX4_flow_89 (lv_at hl 0 rfl) ?_
        refine lv_lconst (v := (0 : Int64)) hx hb dX4_flow_91 (by decide) ?_
        refine W.lcmp hx hb dX4_flow_92 ?_
        refine lv_if_le (tgt := 120) hx hb dX4_flow_93 (by decide) (fun c12 => ?_) (fun c12 => ?_)
        · have hw := hw.1 (lgc_le.mp c12)
          refine lv_lconst (v := (0 : Int64)) hx hb dX4_flow_120 (by decide) ?_
          refine lv_ladd hx hb dX4_flow_121 ?_
          refine lv_lstore_n (lv' := [(3, .long (x3 + (0 : Int64))), (7, .long r10), (6, .int x6), (5, .int x5), (0, .ref h0), (1, .int x1), (2, .int x2)]) hx hb dX4_flow_122 rfl hl (by decide) rfl (fun ls hl => ?_)
          refine lv_iinc (v := (x6 + (1 : Int32))) (lv' := [(6, .int (x6 + (1 : Int32))), (3, .long (x3 + (0 : Int64))), (7, .long r10), (5, .int x5), (0, .ref h0), (1, .int x1), (2, .int x2)]) hx hb dX4_flow_123 hl (k := 2) rfl rfl (by decide) rfl (fun ls hl => ?_)
          refine lv_goto (tgt := 67) hx hb dX4_flow_126 (by decide) ?_
          exact ih (x3 + (0 : Int64)) (x6 + (1 : Int32)) σ11 _ hw hk H locs ls hP hD hS (lv_sub hl [0, 3, 1, 4, 5, 6] rfl)
        · have hw := hw.2 ((not_congr lgc_le).mp c12)
          refine lv_aload_n hx hb dX4_flow_96 rfl (lv_at hl 4 rfl) ?_
          refine va_get (D := (dC, dI)) (ci := 3) (v := .int σ11.2.2.2.2.2.2.2.2.2.2.2.2) (C := RX4) (T := TX4) (N := 13) hx hb hts hin0 hown hK hP 0 rfl rfl 12 (by decide) fl_63 (fun _ h9 => h9) rfl dX4_flow_97 ?_
          refine lv_iload_n hx hb dX4_flow_100 rfl (lv_at hl 5 rfl) ?_
          refine lv_icmp_ne (tgt := 120) hx hb dX4_flow_101 (by decide) (fun c13 => ?_) (fun c13 => ?_)
          · have hw := hw.1 c13
            refine lv_lconst (v := (0 : Int64)) hx hb dX4_flow_120 (by decide) ?_
            refine lv_ladd hx hb dX4_flow_121 ?_
            refine lv_lstore_n (lv' := [(3, .long (x3 + (0 : Int64))), (7, .long r10), (6, .int x6), (5, .int x5), (0, .ref h0), (1, .int x1), (2, .int x2)]) hx hb dX4_flow_122 rfl hl (by decide) rfl (fun ls hl => ?_)
            refine lv_iinc (v := (x6 + (1 : Int32))) (lv' := [(6, .int (x6 + (1 : Int32))), (3, .long (x3 + (0 : Int64))), (7, .long r10), (5, .int x5), (0, .ref h0), (1, .int x1), (2, .int x2)]) hx hb dX4_flow_123 hl (k := 2) rfl rfl (by decide) rfl (fun ls hl => ?_)
            refine lv_goto (tgt := 67) hx hb dX4_flow_126 (by decide) ?_
            exact ih (x3 + (0 : Int64)) (x6 + (1 : Int32)) σ11 _ hw hk H locs ls hP hD hS (lv_sub hl [0, 3, 1, 4, 5, 6] rfl)
          · have hw := hw.2 c13
            refine lv_aload_n hx hb dX4_flow_104 rfl (lv_at hl 4 rfl) ?_
            refine lv_aload_n hx hb dX4_flow_105 rfl (lv_at hl 4 rfl) ?_
            refine va_get (D := (dC, dI)) (ci := 3) (v := .int σ11.1) (C := RX4) (T := TX4) (N := 13) hx hb hts hin0 hown hK hP 0 rfl rfl 0 (by decide) fl_7 (fun _ h9 => h9) rfl dX4_flow_106 ?_
            refine lv_iload hx hb dX4_flow_109 (lv_at hl 1 rfl) ?_
            have hPc := hP
            have hDc := hD
            have hKc := hK
            have hFc := va_free (wc := [(h0, .inr (3, [.int σ11.1, .int σ11.2.1, .int σ11.2.2.1, .ref w0, .int σ11.2.2.2.2.1, .int σ11.2.2.2.2.2.1, .long σ11.2.2.2.2.2.2.1, .ref so, .ref be, .int σ11.2.2.2.2.2.2.2.2.2.1, .int σ11.2.2.2.2.2.2.2.2.2.2.1, .int σ11.2.2.2.2.2.2.2.2.2.2.2.1, .int σ11.2.2.2.2.2.2.2.2.2.2.2.2])), (w0, .inl (cJ, 511, .inr (.inl (σ11.2.2.2.1)))), (so, .inl (cI, 30, .inl (σ11.2.2.2.2.2.2.2.1))), (be, .inl (cI, 30, .inl (σ11.2.2.2.2.2.2.2.2.1)))]) hD hS hA [0, 1, 2, 3] rfl
            refine kc_l (wr := ([] : va_W)) (kr_V (As := [.int σ11.1, .int x6]) (rest := [.long x3]) (b := h0) (ws := [(h0, .inr (3, [.int σ11.1, .int σ11.2.1, .int σ11.2.2.1, .ref w0, .int σ11.2.2.2.2.1, .int σ11.2.2.2.2.2.1, .long σ11.2.2.2.2.2.2.1, .ref so, .ref be, .int σ11.2.2.2.2.2.2.2.2.2.1, .int σ11.2.2.2.2.2.2.2.2.2.2.1, .int σ11.2.2.2.2.2.2.2.2.2.2.2.1, .int σ11.2.2.2.2.2.2.2.2.2.2.2.2])), (w0, .inl (cJ, 511, .inr (.inl (σ11.2.2.2.1)))), (so, .inl (cI, 30, .inl (σ11.2.2.2.2.2.2.2.1))), (be, .inl (cI, 30, .inl (σ11.2.2.2.2.2.2.2.2.1)))]) ⟨hx, hb, hml, hown, hts⟩ (c_X4_weigh l dC dI h0 w0 so be cJ cI σ11 σ11.1 x6 _ hw H.size) (cwV 2 hts gX4_flow_X4_weigh rfl rfl rfl (by decide +kernel) ⟨Nat.le_of_ble_eq_true rfl, Nat.le_of_ble_eq_true rfl⟩) 3 0 hK rfl rfl rfl hKc hnw hP hD hPc hDc rfl hl.1 rfl (Nat.le_of_ble_eq_true rfl) dX4_flow_111 ⟨Nat.zero_le _, Nat.zero_le _⟩) hP hD hS hFc [0, 1, 2, 3] [] rfl rfl (by decide) (by decide) (fun r14 u1 H locs hq hP hD hS => ?_)
            obtain ⟨hw, rfl⟩ := hq
            have hP : va_P (dC, dI) vwCl [(h0, .inr (3, [.int σ11.1, .int σ11.2.1, .int σ11.2.2.1, .ref w0, .int σ11.2.2.2.2.1, .int σ11.2.2.2.2.2.1, .long σ11.2.2.2.2.2.2.1, .ref so, .ref be, .int σ11.2.2.2.2.2.2.2.2.2.1, .int σ11.2.2.2.2.2.2.2.2.2.2.1, .int σ11.2.2.2.2.2.2.2.2.2.2.2.1, .int σ11.2.2.2.2.2.2.2.2.2.2.2.2])), (w0, .inl (cJ, 511, .inr (.inl (σ11.2.2.2.1)))), (so, .inl (cI, 30, .inl (σ11.2.2.2.2.2.2.2.1))), (be, .inl (cI, 30, .inl (σ11.2.2.2.2.2.2.2.2.1)))] H := hP
            have hD : va_D A [(h0, .inr (3, [.int σ11.1, .int σ11.2.1, .int σ11.2.2.1, .ref w0, .int σ11.2.2.2.2.1, .int σ11.2.2.2.2.2.1, .long σ11.2.2.2.2.2.2.1, .ref so, .ref be, .int σ11.2.2.2.2.2.2.2.2.2.1, .int σ11.2.2.2.2.2.2.2.2.2.2.1, .int σ11.2.2.2.2.2.2.2.2.2.2.2.1, .int σ11.2.2.2.2.2.2.2.2.2.2.2.2])), (w0, .inl (cJ, 511, .inr (.inl (σ11.2.2.2.1)))), (so, .inl (cI, 30, .inl (σ11.2.2.2.2.2.2.2.1))), (be, .inl (cI, 30, .inl (σ11.2.2.2.2.2.2.2.2.1)))] := hD
            refine lv_lload hx hb dX4_flow_114 (lv_at hl 0 rfl) ?_
            refine lv_lmul hx hb dX4_flow_116 ?_
            refine lv_goto (tgt := 121) hx hb dX4_flow_117 (by decide) ?_
            refine lv_ladd hx hb dX4_flow_121 ?_
            refine lv_lstore_n (lv' := [(3, .long (x3 + (r14 * r10))), (7, .long r10), (6, .int x6), (5, .int x5), (0, .ref h0), (1, .int x1), (2, .int x2)]) hx hb dX4_flow_122 rfl hl (by decide) rfl (fun ls hl => ?_)
            refine lv_iinc (v := (x6 + (1 : Int32))) (lv' := [(6, .int (x6 + (1 : Int32))), (3, .long (x3 + (r14 * r10))), (7, .long r10), (5, .int x5), (0, .ref h0), (1, .int x1), (2, .int x2)]) hx hb dX4_flow_123 hl (k := 2) rfl rfl (by decide) rfl (fun ls hl => ?_)
            refine lv_goto (tgt := 67) hx hb dX4_flow_126 (by decide) ?_
            exact ih (x3 + (r14 * r10)) (x6 + (1 : Int32)) σ11 _ hw hk H locs ls hP hD hS (lv_sub hl [0, 3, 1, 4, 5, 6] rfl)
  have L27 : ∀ (x1 : Int32) (x2 : Int32)  (n : Nat) (x3 : Int64) (x5 : Int32) (σ : SM) (k : Int64 → Int32 → SM → Prop), wl_X4_flow_27 x1 x2  n x3 x5 σ k →
      (∀ (x3 : Int64) (x5 : Int32) (σ : SM), k x3 x5 σ → ∀ (H : Heap) (locs : List Loc) (ls : Array Slot), va_P (dC, dI) vwCl [(h0, .inr (3, [.int σ.1, .int σ.2.1, .int σ.2.2.1, .ref w0, .int σ.2.2.2.2.1, .int σ.2.2.2.2.2.1, .long σ.2.2.2.2.2.2.1, .ref so, .ref be, .int σ.2.2.2.2.2.2.2.2.2.1, .int σ.2.2.2.2.2.2.2.2.2.2.1, .int σ.2.2.2.2.2.2.2.2.2.2.2.1, .int σ.2.2.2.2.2.2.2.2.2.2.2.2])), (w0, .inl (cJ, 511, .inr (.inl (σ.2.2.2.1)))), (so, .inl (cI, 30, .inl (σ.2.2.2.2.2.2.2.1))), (be, .inl (cI, 30, .inl (σ.2.2.2.2.2.2.2.2.1)))] H → va_D A [(h0, .inr (3, [.int σ.1, .int σ.2.1, .int σ.2.2.1, .ref w0, .int σ.2.2.2.2.1, .int σ.2.2.2.2.2.1, .long σ.2.2.2.2.2.2.1, .ref so, .ref be, .int σ.2.2.2.2.2.2.2.2.2.1, .int σ.2.2.2.2.2.2.2.2.2.2.1, .int σ.2.2.2.2.2.2.2.2.2.2.2.1, .int σ.2.2.2.2.2.2.2.2.2.2.2.2])), (w0, .inl (cJ, 511, .inr (.inl (σ.2.2.2.1)))), (so, .inl (cI, 30, .inl (σ.2.2.2.2.2.2.2.1))), (be, .inl (cI, 30, .inl (σ.2.2.2.2.2.2.2.2.1)))] → va_S A s.heap H locs → lv_has ls 9 [(5, .int x5), (3, .long x3), (0, .ref h0), (1, .int x1), (2, .int x2)] → W p l e (headSpec wsX4_flow ({ frames := 2, cells := 0, slots := 0, locals := 46 } : Room)).room s m ([.ref h0, .int p0, .int p1] : List Value).toArray below meth c H locs 0 0 (MQ below (va_Ql (fun r u => ∃ σ', post r σ' ∧ u = (cl4 h0 w0 so be cJ cI (σ'))) (kB (dC, dI) [(cJ, .long), (cI, .int)] A) A) ([.ref h0, .int p0, .int p1] : List Value).toArray s 0 0 A) (F0 m 135 ls [])) →
      ∀ (H : Heap) (locs : List Loc) (ls : Array Slot), va_P (dC, dI) vwCl [(h0, .inr (3, [.int σ.1, .int σ.2.1, .int σ.2.2.1, .ref w0, .int σ.2.2.2.2.1, .int σ.2.2.2.2.2.1, .long σ.2.2.2.2.2.2.1, .ref so, .ref be, .int σ.2.2.2.2.2.2.2.2.2.1, .int σ.2.2.2.2.2.2.2.2.2.2.1, .int σ.2.2.2.2.2.2.2.2.2.2.2.1, .int σ.2.2.2.2.2.2.2.2.2.2.2.2])), (w0, .inl (cJ, 511, .inr (.inl (σ.2.2.2.1)))), (so, .inl (cI, 30, .inl (σ.2.2.2.2.2.2.2.1))), (be, .inl (cI, 30, .inl (σ.2.2.2.2.2.2.2.2.1)))] H → va_D A [(h0, .inr (3, [.int σ.1, .int σ.2.1, .int σ.2.2.1, .ref w0, .int σ.2.2.2.2.1, .int σ.2.2.2.2.2.1, .long σ.2.2.2.2.2.2.1, .ref so, .ref be, .int σ.2.2.2.2.2.2.2.2.2.1, .int σ.2.2.2.2.2.2.2.2.2.2.1, .int σ.2.2.2.2.2.2.2.2.2.2.2.1, .int σ.2.2.2.2.2.2.2.2.2.2.2.2])), (w0, .inl (cJ, 511, .inr (.inl (σ.2.2.2.1)))), (so, .inl (cI, 30, .inl (σ.2.2.2.2.2.2.2.1))), (be, .inl (cI, 30, .inl (σ.2.2.2.2.2.2.2.2.1)))] → va_S A s.heap H locs → lv_has ls 9 [(5, .int x5), (3, .long x3), (0, .ref h0), (1, .int x1), (2, .int x2)] → W p l e (headSpec wsX4_flow ({ frames := 2, cells := 0, slots := 0, locals := 46 } : Room)).room s m ([.ref h0, .int p0, .int p1] : List Value).toArray below meth c H locs 0 0 (MQ below (va_Ql (fun r u => ∃ σ', post r σ' ∧ u = (cl4 h0 w0 so be cJ cI (σ'))) (kB (dC, dI) [(cJ, .long), (cI, .int)] A) A) ([.ref h0, .int p0, .int p1] : List Value).toArray s 0 0 A) (F0 m 27 ls []) := by
    intro x1 x2 n
    induction n with
    | zero => intro x3 x5 σ k hw; exact absurd hw id
    | succ n ih =>
      intro x3 x5 σ k hw hk H locs ls hP hD hS hl
      unfold wl_X4_flow_27 at hw
      refine lv_iload hx hb dX4_flow_27 (lv_at hl 0 rfl) ?_
      refine lv_aload_n hx hb dX4_flow_29 rfl (lv_at hl 2 rfl) ?_
      refine va_get (D := (dC, dI)) (ci := 3) (v := .int σ.1) (C := RX4) (T := TX4) (N := 13) hx hb hts hin0 hown hK hP 0 rfl rfl 0 (by decide) fl_7 (fun _ h9 => h9) rfl dX4_flow_30 ?_
      refine lv_icmp_gt (tgt := 135) hx hb dX4_flow_33 (by decide) (fun c7 => ?_) (fun c7 => ?_)
      · have hw := hw.1 c7
        exact hk x3 x5 σ hw H locs ls hP hD hS (lv_sub hl [0, 1, 2, 3, 4] rfl)
      · have hw := hw.2 c7
        refine lv_iload_n hx hb dX4_flow_36 rfl (lv_at hl 4 rfl) ?_
        refine lv_iconst (v := (1 : Int32)) hx hb dX4_flow_37 (by decide) ?_
        refine lv_icmp_ne (tgt := 64) hx hb dX4_flow_38 (by decide) (fun c8 => ?_) (fun c8 => ?_)
        · have hw := hw.1 c8
          refine lv_iconst (v := (0 : Int32)) hx hb dX4_flow_64 (by decide) ?_
          refine lv_istore (lv' := [(6, .int (0 : Int32)), (5, .int x5), (3, .long x3), (0, .ref h0), (1, .int x1), (2, .int x2)]) hx hb dX4_flow_65 hl (by decide) rfl (fun ls hl => ?_)
          refine L67 x1 x2 x5 (20000) x3 (0 : Int32) σ _ hw (fun x3_16 x6_17 σ18 hw H locs ls hP hD hS hl => ?_) H locs ls hP hD hS (lv_sub hl [0, 1, 2, 3, 4, 5] rfl)
          refine lv_iinc (v := (x5 + (1 : Int32))) (lv' := [(5, .int (x5 + (1 : Int32))), (6, .int x6_17), (3, .long x3_16), (0, .ref h0), (1, .int x1), (2, .int x2)]) hx hb dX4_flow_129 hl (k := 1) rfl rfl (by decide) rfl (fun ls hl => ?_)
          refine lv_goto (tgt := 27) hx hb dX4_flow_132 (by decide) ?_
          exact ih x3_16 (x5 + (1 : Int32)) σ18 _ hw hk H locs ls hP hD hS (lv_sub hl [0, 2, 3, 4, 5] rfl)
        · have hw := hw.2 c8
          refine lv_lload_n hx hb dX4_flow_41 rfl (lv_at hl 1 rfl) ?_
          refine lv_aload_n hx hb dX4_flow_42 rfl (lv_at hl 2 rfl) ?_
          refine lv_aload_n hx hb dX4_flow_43 rfl (lv_at hl 2 rfl) ?_
          refine va_get (D := (dC, dI)) (ci := 3) (v := .int σ.1) (C := RX4) (T := TX4) (N := 13) hx hb hts hin0 hown hK hP 0 rfl rfl 0 (by decide) fl_7 (fun _ h9 => h9) rfl dX4_flow_44 ?_
          refine lv_iload_n hx hb dX4_flow_47 rfl (lv_at hl 3 rfl) ?_
          have hPc := hP
          have hDc := hD
          have hKc := hK
          have hFc := va_free (wc := [(h0, .inr (3, [.int σ.1, .int σ.2.1, .int σ.2.2.1, .ref w0, .int σ.2.2.2.2.1, .int σ.2.2.2.2.2.1, .long σ.2.2.2.2.2.2.1, .ref so, .ref be, .int σ.2.2.2.2.2.2.2.2.2.1, .int σ.2.2.2.2.2.2.2.2.2.2.1, .int σ.2.2.2.2.2.2.2.2.2.2.2.1, .int σ.2.2.2.2.2.2.2.2.2.2.2.2])), (w0, .inl (cJ, 511, .inr (.inl (σ.2.2.2.1)))), (so, .inl (cI, 30, .inl (σ.2.2.2.2.2.2.2.1))), (be, .inl (cI, 30, .inl (σ.2.2.2.2.2.2.2.2.1)))]) hD hS hA [0, 1, 2, 3] rfl
          refine kc_l (wr := ([] : va_W)) (kr_V (As := [.int σ.1, .int x1]) (rest := [.long x3]) (b := h0) (ws := [(h0, .inr (3, [.int σ.1, .int σ.2.1, .int σ.2.2.1, .ref w0, .int σ.2.2.2.2.1, .int σ.2.2.2.2.2.1, .long σ.2.2.2.2.2.2.1, .ref so, .ref be, .int σ.2.2.2.2.2.2.2.2.2.1, .int σ.2.2.2.2.2.2.2.2.2.2.1, .int σ.2.2.2.2.2.2.2.2.2.2.2.1, .int σ.2.2.2.2.2.2.2.2.2.2.2.2])), (w0, .inl (cJ, 511, .inr (.inl (σ.2.2.2.1)))), (so, .inl (cI, 30, .inl (σ.2.2.2.2.2.2.2.1))), (be, .inl (cI, 30, .inl (σ.2.2.2.2.2.2.2.2.1)))]) ⟨hx, hb, hml, hown, hts⟩ (c_X4_weigh l dC dI h0 w0 so be cJ cI σ σ.1 x1 _ hw H.size) (cwV 2 hts gX4_flow_X4_weigh rfl rfl rfl (by decide +kernel) ⟨Nat.le_of_ble_eq_true rfl, Nat.le_of_ble_eq_true rfl⟩) 3 0 hK rfl rfl rfl hKc hnw hP hD hPc hDc rfl hl.1 rfl (Nat.le_of_ble_eq_true rfl) dX4_flow_48 ⟨Nat.zero_le _, Nat.zero_le _⟩) hP hD hS hFc [0, 1, 2, 3] [] rfl rfl (by decide) (by decide) (fun r19 u1 H locs hq hP hD hS => ?_)
          obtain ⟨hw, rfl⟩ := hq
          have hP : va_P (dC, dI) vwCl [(h0, .inr (3, [.int σ.1, .int σ.2.1, .int σ.2.2.1, .ref w0, .int σ.2.2.2.2.1, .int σ.2.2.2.2.2.1, .long σ.2.2.2.2.2.2.1, .ref so, .ref be, .int σ.2.2.2.2.2.2.2.2.2.1, .int σ.2.2.2.2.2.2.2.2.2.2.1, .int σ.2.2.2.2.2.2.2.2.2.2.2.1, .int σ.2.2.2.2.2.2.2.2.2.2.2.2])), (w0, .inl (cJ, 511, .inr (.inl (σ.2.2.2.1)))), (so, .inl (cI, 30, .inl (σ.2.2.2.2.2.2.2.1))), (be, .inl (cI, 30, .inl (σ.2.2.2.2.2.2.2.2.1)))] H := hP
          have hD : va_D A [(h0, .inr (3, [.int σ.1, .int σ.2.1, .int σ.2.2.1, .ref w0, .int σ.2.2.2.2.1, .int σ.2.2.2.2.2.1, .long σ.2.2.2.2.2.2.1, .ref so, .ref be, .int σ.2.2.2.2.2.2.2.2.2.1, .int σ.2.2.2.2.2.2.2.2.2.2.1, .int σ.2.2.2.2.2.2.2.2.2.2.2.1, .int σ.2.2.2.2.2.2.2.2.2.2.2.2])), (w0, .inl (cJ, 511, .inr (.inl (σ.2.2.2.1)))), (so, .inl (cI, 30, .inl (σ.2.2.2.2.2.2.2.1))), (be, .inl (cI, 30, .inl (σ.2.2.2.2.2.2.2.2.1)))] := hD
          refine lv_aload_n hx hb dX4_flow_51 rfl (lv_at hl 2 rfl) ?_
          refine lv_iload_n hx hb dX4_flow_52 rfl (lv_at hl 3 rfl) ?_
          refine lv_iload hx hb dX4_flow_53 (lv_at hl 0 rfl) ?_
          have hPc := hP
          have hDc := hD
          have hKc := hK
          have hFc := va_free (wc := [(h0, .inr (3, [.int σ.1, .int σ.2.1, .int σ.2.2.1, .ref w0, .int σ.2.2.2.2.1, .int σ.2.2.2.2.2.1, .long σ.2.2.2.2.2.2.1, .ref so, .ref be, .int σ.2.2.2.2.2.2.2.2.2.1, .int σ.2.2.2.2.2.2.2.2.2.2.1, .int σ.2.2.2.2.2.2.2.2.2.2.2.1, .int σ.2.2.2.2.2.2.2.2.2.2.2.2])), (w0, .inl (cJ, 511, .inr (.inl (σ.2.2.2.1)))), (so, .inl (cI, 30, .inl (σ.2.2.2.2.2.2.2.1))), (be, .inl (cI, 30, .inl (σ.2.2.2.2.2.2.2.2.1)))]) hD hS hA [0, 1, 2, 3] rfl
          refine kc_l (wr := ([] : va_W)) (kr_V (As := [.int x1, .int x5]) (rest := [.long r19, .long x3]) (b := h0) (ws := [(h0, .inr (3, [.int σ.1, .int σ.2.1, .int σ.2.2.1, .ref w0, .int σ.2.2.2.2.1, .int σ.2.2.2.2.2.1, .long σ.2.2.2.2.2.2.1, .ref so, .ref be, .int σ.2.2.2.2.2.2.2.2.2.1, .int σ.2.2.2.2.2.2.2.2.2.2.1, .int σ.2.2.2.2.2.2.2.2.2.2.2.1, .int σ.2.2.2.2.2.2.2.2.2.2.2.2])), (w0, .inl (cJ, 511, .inr (.inl (σ.2.2.2.1)))), (so, .inl (cI, 30, .inl (σ.2.2.2.2.2.2.2.1))), (be, .inl (cI, 30, .inl (σ.2.2.2.2.2.2.2.2.1)))]) ⟨hx, hb, hml, hown, hts⟩ (c_X4_happens l dC dI h0 w0 so be cJ cI σ x1 x5 _ hw H.size) (cwV 2 hts gX4_flow_X4_happens rfl rfl rfl (by decide +kernel) ⟨Nat.le_of_ble_eq_true rfl, Nat.le_of_ble_eq_true rfl⟩) 3 0 hK rfl rfl rfl hKc hnw hP hD hPc hDc rfl hl.1 rfl (Nat.le_of_ble_eq_true rfl) dX4_flow_55 ⟨Nat.zero_le _, Nat.zero_le _⟩) hP hD hS hFc [0, 1, 2, 3] [] rfl rfl (by decide) (by decide) (fun r21 u1 H locs hq hP hD hS => ?_)
          obtain ⟨σ22, hw, rfl⟩ := hq
          have hP : va_P (dC, dI) vwCl [(h0, .inr (3, [.int σ22.1, .int σ22.2.1, .int σ22.2.2.1, .ref w0, .int σ22.2.2.2.2.1, .int σ22.2.2.2.2.2.1, .long σ22.2.2.2.2.2.2.1, .ref so, .ref be, .int σ22.2.2.2.2.2.2.2.2.2.1, .int σ22.2.2.2.2.2.2.2.2.2.2.1, .int σ22.2.2.2.2.2.2.2.2.2.2.2.1, .int σ22.2.2.2.2.2.2.2.2.2.2.2.2])), (w0, .inl (cJ, 511, .inr (.inl (σ22.2.2.2.1)))), (so, .inl (cI, 30, .inl (σ22.2.2.2.2.2.2.2.1))), (be, .inl (cI, 30, .inl (σ22.2.2.2.2.2.2.2.2.1)))] H := hP
          have hD : va_D A [(h0, .inr (3, [.int σ22.1, .int σ22.2.1, .int σ22.2.2.1, .ref w0, .int σ22.2.2.2.2.1, .int σ22.2.2.2.2.2.1, .long σ22.2.2.2.2.2.2.1, .ref so, .ref be, .int σ22.2.2.2.2.2.2.2.2.2.1, .int σ22.2.2.2.2.2.2.2.2.2.2.1, .int σ22.2.2.2.2.2.2.2.2.2.2.2.1, .int σ22.2.2.2.2.2.2.2.2.2.2.2.2])), (w0, .inl (cJ, 511, .inr (.inl (σ22.2.2.2.1)))), (so, .inl (cI, 30, .inl (σ22.2.2.2.2.2.2.2.1))), (be, .inl (cI, 30, .inl (σ22.2.2.2.2.2.2.2.2.1)))] := hD
          refine lv_lmul hx hb dX4_flow_58 ?_
          refine lv_ladd hx hb dX4_flow_59 ?_
          refine lv_lstore_n (lv' := [(3, .long (x3 + (r19 * r21))), (5, .int x5), (0, .ref h0), (1, .int x1), (2, .int x2)]) hx hb dX4_flow_60 rfl hl (by decide) rfl (fun ls hl => ?_)
          refine lv_goto (tgt := 129) hx hb dX4_flow_61 (by decide) ?_
          refine lv_iinc (v := (x5 + (1 : Int32))) (lv' := [(5, .int (x5 + (1 : Int32))), (3, .long (x3 + (r19 * r21))), (0, .ref h0), (1, .int x1), (2, .int x2)]) hx hb dX4_flow_129 hl (k := 1) rfl rfl (by decide) rfl (fun ls hl => ?_)
          refine lv_goto (tgt := 27) hx hb dX4_flow_132 (by decide) ?_
          exact ih (x3 + (r19 * r21)) (x5 + (1 : Int32)) σ22 _ hw hk H locs ls hP hD hS (lv_sub hl [0, 1, 2, 3, 4] rfl)
  have hl := lv_entry ([.ref h0, .int p0, .int p1]) (n := 9) (Nat.le_of_ble_eq_true rfl)
  rw [lg_entry_eq]
  generalize (lg_sl ([.ref h0, .int p0, .int p1]) ++ List.replicate (9 - (lg_sl ([.ref h0, .int p0, .int p1])).length) Slot.unset).toArray = ls at hl ⊢
  have hl : lv_has ls 9 [(0, .ref h0), (1, .int p0), (2, .int p1)] := hl
  unfold wp_X4_flow at hw
  skip
  obtain ⟨H, hH⟩ : ∃ H, H = s.heap := ⟨_, rfl⟩
  obtain ⟨locs, hlo⟩ : ∃ q : List Loc, q = [] := ⟨_, rfl⟩
  rw [← hH] at hP
  have hS : va_S A s.heap H locs := by rw [hH, hlo]; exact hS
  suffices hgo : W p l e (headSpec wsX4_flow ({ frames := 2, cells := 0, slots := 0, locals := 46 } : Room)).room s m _ below meth c H locs 0 0 _ (F0 m 0 ls []) by rw [hH, hlo] at hgo; exact hgo
  refine lv_aload_n hx hb dX4_flow_0 rfl (lv_at hl 0 rfl) ?_
  refine lv_iload_n hx hb dX4_flow_1 rfl (lv_at hl 1 rfl) ?_
  have hPc := hP
  have hDc := hD
  have hKc := hK
  have hFc := va_free (wc := [(h0, .inr (3, [.int σ.1, .int σ.2.1, .int σ.2.2.1, .ref w0, .int σ.2.2.2.2.1, .int σ.2.2.2.2.2.1, .long σ.2.2.2.2.2.2.1, .ref so, .ref be, .int σ.2.2.2.2.2.2.2.2.2.1, .int σ.2.2.2.2.2.2.2.2.2.2.1, .int σ.2.2.2.2.2.2.2.2.2.2.2.1, .int σ.2.2.2.2.2.2.2.2.2.2.2.2])), (w0, .inl (cJ, 511, .inr (.inl (σ.2.2.2.1)))), (so, .inl (cI, 30, .inl (σ.2.2.2.2.2.2.2.1))), (be, .inl (cI, 30, .inl (σ.2.2.2.2.2.2.2.2.1)))]) hD hS hA [0, 1, 2, 3] rfl
  refine kc_i (wr := ([] : va_W)) (kr_V (As := [.int p0]) (rest := []) (b := h0) (ws := [(h0, .inr (3, [.int σ.1, .int σ.2.1, .int σ.2.2.1, .ref w0, .int σ.2.2.2.2.1, .int σ.2.2.2.2.2.1, .long σ.2.2.2.2.2.2.1, .ref so, .ref be, .int σ.2.2.2.2.2.2.2.2.2.1, .int σ.2.2.2.2.2.2.2.2.2.2.1, .int σ.2.2.2.2.2.2.2.2.2.2.2.1, .int σ.2.2.2.2.2.2.2.2.2.2.2.2])), (w0, .inl (cJ, 511, .inr (.inl (σ.2.2.2.1)))), (so, .inl (cI, 30, .inl (σ.2.2.2.2.2.2.2.1))), (be, .inl (cI, 30, .inl (σ.2.2.2.2.2.2.2.2.1)))]) ⟨hx, hb, hml, hown, hts⟩ (c_X4_isState l dC dI h0 w0 so be cJ cI σ p0 _ hw H.size) (cwV 1 hts gX4_flow_X4_isState rfl rfl rfl (by decide +kernel) ⟨Nat.le_of_ble_eq_true rfl, Nat.le_of_ble_eq_true rfl⟩) 3 0 hK rfl rfl rfl hKc hnw hP hD hPc hDc rfl hl.1 rfl (Nat.le_of_ble_eq_true rfl) dX4_flow_2 ⟨Nat.zero_le _, Nat.zero_le _⟩) hP hD hS hFc [0, 1, 2, 3] [] rfl rfl (by decide) (by decide) (fun r1 u1 H locs hq hP hD hS => ?_)
  obtain ⟨hw, rfl⟩ := hq
  have hP : va_P (dC, dI) vwCl [(h0, .inr (3, [.int σ.1, .int σ.2.1, .int σ.2.2.1, .ref w0, .int σ.2.2.2.2.1, .int σ.2.2.2.2.2.1, .long σ.2.2.2.2.2.2.1, .ref so, .ref be, .int σ.2.2.2.2.2.2.2.2.2.1, .int σ.2.2.2.2.2.2.2.2.2.2.1, .int σ.2.2.2.2.2.2.2.2.2.2.2.1, .int σ.2.2.2.2.2.2.2.2.2.2.2.2])), (w0, .inl (cJ, 511, .inr (.inl (σ.2.2.2.1)))), (so, .inl (cI, 30, .inl (σ.2.2.2.2.2.2.2.1))), (be, .inl (cI, 30, .inl (σ.2.2.2.2.2.2.2.2.1)))] H := hP
  have hD : va_D A [(h0, .inr (3, [.int σ.1, .int σ.2.1, .int σ.2.2.1, .ref w0, .int σ.2.2.2.2.1, .int σ.2.2.2.2.2.1, .long σ.2.2.2.2.2.2.1, .ref so, .ref be, .int σ.2.2.2.2.2.2.2.2.2.1, .int σ.2.2.2.2.2.2.2.2.2.2.1, .int σ.2.2.2.2.2.2.2.2.2.2.2.1, .int σ.2.2.2.2.2.2.2.2.2.2.2.2])), (w0, .inl (cJ, 511, .inr (.inl (σ.2.2.2.1)))), (so, .inl (cI, 30, .inl (σ.2.2.2.2.2.2.2.1))), (be, .inl (cI, 30, .inl (σ.2.2.2.2.2.2.2.2.1)))] := hD
  refine lv_if_eq (tgt := 18) hx hb dX4_flow_5 (by decide) (fun c3 => ?_) (fun c3 => ?_)
  · have hw := hw.1 c3
    refine lv_ldc2 (v := (-1 : Int64)) hx hb hown (hts (.constantLong RX4 53 (-1 : Int64)) (by decide +kernel)) dX4_flow_18 ?_
    exact W.lret (v := (-1 : Int64)) hx hb hr (fun t ht hW => ⟨⟨(-1 : Int64), ((cl4 h0 w0 so be cJ cI σ)), rfl, ⟨σ, hw, rfl⟩, by rw [ht]; exact hP, va_K.moved hW.alike hK, hD⟩, hS.F ht⟩) hS.2.2 dX4_flow_21
  · have hw := hw.2 c3
    refine lv_iload_n hx hb dX4_flow_8 rfl (lv_at hl 2 rfl) ?_
    refine lv_i2l hx hb dX4_flow_9 rfl ?_
    refine lv_lconst (v := (0 : Int64)) hx hb dX4_flow_10 (by decide) ?_
    refine lv_lconst (v := (1 : Int64)) hx hb dX4_flow_11 (by decide) ?_
    have hPc := hP.sub (ws' := ([] : va_W)) [] rfl
    have hDc := hD.sub (ws' := ([] : va_W)) [] (by decide) rfl
    have hKc := hK.sub (tys' := []) [] rfl
    have hFc := va_free (wc := ([] : va_W)) hD hS hA [] rfl
    refine kc_i (wr := [(h0, .inr (3, [.int σ.1, .int σ.2.1, .int σ.2.2.1, .ref w0, .int σ.2.2.2.2.1, .int σ.2.2.2.2.2.1, .long σ.2.2.2.2.2.2.1, .ref so, .ref be, .int σ.2.2.2.2.2.2.2.2.2.1, .int σ.2.2.2.2.2.2.2.2.2.2.1, .int σ.2.2.2.2.2.2.2.2.2.2.2.1, .int σ.2.2.2.2.2.2.2.2.2.2.2.2])), (w0, .inl (cJ, 511, .inr (.inl (σ.2.2.2.1)))), (so, .inl (cI, 30, .inl (σ.2.2.2.2.2.2.2.1))), (be, .inl (cI, 30, .inl (σ.2.2.2.2.2.2.2.2.1)))]) (kr_S (As := [.long (p1.toInt64), .long (0 : Int64), .long (1 : Int64)]) (rest := []) (ws := [(h0, .inr (3, [.int σ.1, .int σ.2.1, .int σ.2.2.1, .ref w0, .int σ.2.2.2.2.1, .int σ.2.2.2.2.2.1, .long σ.2.2.2.2.2.2.1, .ref so, .ref be, .int σ.2.2.2.2.2.2.2.2.2.1, .int σ.2.2.2.2.2.2.2.2.2.2.1, .int σ.2.2.2.2.2.2.2.2.2.2.2.1, .int σ.2.2.2.2.2.2.2.2.2.2.2.2])), (w0, .inl (cJ, 511, .inr (.inl (σ.2.2.2.1)))), (so, .inl (cI, 30, .inl (σ.2.2.2.2.2.2.2.1))), (be, .inl (cI, 30, .inl (σ.2.2.2.2.2.2.2.2.1)))]) ⟨hx, hb, hml, hown, hts⟩ (c_X4_in l dC dI   (p1.toInt64) (0 : Int64) (1 : Int64) _ hw H.size) (va_cwS 3 hts gX4_flow_X4_in rfl rfl rfl (by decide +kernel) ⟨Nat.le_of_ble_eq_true rfl, Nat.le_of_ble_eq_true rfl⟩) hKc hnw hP hD hPc hDc rfl hl.1 rfl (Nat.le_of_ble_eq_true rfl) dX4_flow_12 ⟨Nat.zero_le _, Nat.zero_le _⟩) hP hD hS hFc [] [0, 1, 2, 3] rfl rfl (by decide) (by decide) (fun r4 u1 H locs hq hP hD hS => ?_)
    obtain ⟨hw, rfl⟩ := hq
    have hP : va_P (dC, dI) vwCl [(h0, .inr (3, [.int σ.1, .int σ.2.1, .int σ.2.2.1, .ref w0, .int σ.2.2.2.2.1, .int σ.2.2.2.2.2.1, .long σ.2.2.2.2.2.2.1, .ref so, .ref be, .int σ.2.2.2.2.2.2.2.2.2.1, .int σ.2.2.2.2.2.2.2.2.2.2.1, .int σ.2.2.2.2.2.2.2.2.2.2.2.1, .int σ.2.2.2.2.2.2.2.2.2.2.2.2])), (w0, .inl (cJ, 511, .inr (.inl (σ.2.2.2.1)))), (so, .inl (cI, 30, .inl (σ.2.2.2.2.2.2.2.1))), (be, .inl (cI, 30, .inl (σ.2.2.2.2.2.2.2.2.1)))] H := hP
    have hD : va_D A [(h0, .inr (3, [.int σ.1, .int σ.2.1, .int σ.2.2.1, .ref w0, .int σ.2.2.2.2.1, .int σ.2.2.2.2.2.1, .long σ.2.2.2.2.2.2.1, .ref so, .ref be, .int σ.2.2.2.2.2.2.2.2.2.1, .int σ.2.2.2.2.2.2.2.2.2.2.1, .int σ.2.2.2.2.2.2.2.2.2.2.2.1, .int σ.2.2.2.2.2.2.2.2.2.2.2.2])), (w0, .inl (cJ, 511, .inr (.inl (σ.2.2.2.1)))), (so, .inl (cI, 30, .inl (σ.2.2.2.2.2.2.2.1))), (be, .inl (cI, 30, .inl (σ.2.2.2.2.2.2.2.2.1)))] := hD
    refine lv_if_ne (tgt := 22) hx hb dX4_flow_15 (by decide) (fun c6 => ?_) (fun c6 => ?_)
    · have hw := hw.1 c6
      refine lv_lconst (v := (0 : Int64)) hx hb dX4_flow_22 (by decide) ?_
      refine lv_lstore_n (lv' := [(3, .long (0 : Int64)), (0, .ref h0), (1, .int p0), (2, .int p1)]) hx hb dX4_flow_23 rfl hl (by decide) rfl (fun ls hl => ?_)
      refine lv_iconst (v := (0 : Int32)) hx hb dX4_flow_24 (by decide) ?_
      refine lv_istore (lv' := [(5, .int (0 : Int32)), (3, .long (0 : Int64)), (0, .ref h0), (1, .int p0), (2, .int p1)]) hx hb dX4_flow_25 hl (by decide) rfl (fun ls hl => ?_)
      refine L27 p0 p1 (20000) (0 : Int64) (0 : Int32) σ _ hw (fun x3_23 x5_24 σ25 hw H locs ls hP hD hS hl => ?_) H locs ls hP hD hS (lv_sub hl [0, 1, 2, 3, 4] rfl)
      refine lv_lload_n hx hb dX4_flow_135 rfl (lv_at hl 1 rfl) ?_
      exact W.lret (v := x3_23) hx hb hr (fun t ht hW => ⟨⟨x3_23, ((cl4 h0 w0 so be cJ cI σ25)), rfl, ⟨σ25, hw, rfl⟩, by rw [ht]; exact hP, va_K.moved hW.alike hK, hD⟩, hS.F ht⟩) hS.2.2 dX4_flow_136
    · have hw := hw.2 c6
      refine lv_ldc2 (v := (-1 : Int64)) hx hb hown (hts (.constantLong RX4 53 (-1 : Int64)) (by decide +kernel)) dX4_flow_18 ?_
      exact W.lret (v := (-1 : Int64)) hx hb hr (fun t ht hW => ⟨⟨(-1 : Int64), ((cl4 h0 w0 so be cJ cI σ)), rfl, ⟨σ, hw, rfl⟩, by rw [ht]; exact hP, va_K.moved hW.alike hK, hD⟩, hS.F ht⟩) hS.2.2 dX4_flow_21
set_option maxHeartbeats 4000000 in
set_option maxRecDepth 100000 in
theorem c_X4_extreme (l : Launch) (dC : Nat → ClassId) (dI : Nat → Nat → Nat) (h0 w0 so be : Nat) (cJ : ClassId) (cI : ClassId) (σ : SM) (p0 : Int32) (post : Int32 → Prop) (hw : wp_X4_extreme p0 σ post) : KI l yX4_extreme wsX4_extreme ({ frames := 1, cells := 0, slots := 0, locals := 25 } : Room) (dC, dI) [(cJ, .long), (cI, .int)] (cl4 h0 w0 so be cJ cI σ) [.ref h0, .int p0] (fun r u => post r ∧ u = (cl4 h0 w0 so be cJ cI σ)) := by
  intro sz
  refine Met.ofW (cc := cX4_extreme) (maxL := 5) (ret := (some .int)) (by decide) rfl ?_
  intro p e s m args below meth c s₁ B hml hv
  obtain ⟨rfl, hsz, hP, hK, hD0, hnw⟩ := hv
  have hx := B.exec
  have hb := B.bytes
  have hr := B.returns
  have hts := atoms_spec (ws := wsX4_extreme) B.pre
  have hown : s.vm.findClass RX4 = some m.cls := findClass_of_methodNamed B.named
  have hlocks := B.notSynchronized
  subst hsz
  have hD := hD0.self (sz := s.heap.size)
  generalize hAe : va_A (cl4 h0 w0 so be cJ cI σ) s.heap.size = A at hD ⊢
  have hA : ∀ q : Nat, s.heap.size ≤ q → A q := fun q h => by rw [← hAe]; exact Or.inr h
  have hS : va_S A s.heap s.heap [] := va_S.rf
  have hP : va_P (dC, dI) vwCl [(h0, .inr (3, [.int σ.1, .int σ.2.1, .int σ.2.2.1, .ref w0, .int σ.2.2.2.2.1, .int σ.2.2.2.2.2.1, .long σ.2.2.2.2.2.2.1, .ref so, .ref be, .int σ.2.2.2.2.2.2.2.2.2.1, .int σ.2.2.2.2.2.2.2.2.2.2.1, .int σ.2.2.2.2.2.2.2.2.2.2.2.1, .int σ.2.2.2.2.2.2.2.2.2.2.2.2])), (w0, .inl (cJ, 511, .inr (.inl (σ.2.2.2.1)))), (so, .inl (cI, 30, .inl (σ.2.2.2.2.2.2.2.1))), (be, .inl (cI, 30, .inl (σ.2.2.2.2.2.2.2.2.1)))] s.heap := hP
  have hD : va_D A [(h0, .inr (3, [.int σ.1, .int σ.2.1, .int σ.2.2.1, .ref w0, .int σ.2.2.2.2.1, .int σ.2.2.2.2.2.1, .long σ.2.2.2.2.2.2.1, .ref so, .ref be, .int σ.2.2.2.2.2.2.2.2.2.1, .int σ.2.2.2.2.2.2.2.2.2.2.1, .int σ.2.2.2.2.2.2.2.2.2.2.2.1, .int σ.2.2.2.2.2.2.2.2.2.2.2.2])), (w0, .inl (cJ, 511, .inr (.inl (σ.2.2.2.1)))), (so, .inl (cI, 30, .inl (σ.2.2.2.2.2.2.2.1))), (be, .inl (cI, 30, .inl (σ.2.2.2.2.2.2.2.2.1)))] := hD
  have fl_7 := hts (.fieldLink RX4 7 "OnePlaceEachModel" "n" "I") (by decide +kernel)
  have hin0 : ∀ w ∈ wsX40, w ∈ wsX4_extreme := by decide +kernel
  have L16 : ∀ (x1 : Int32)  (n : Nat) (x2 : Int32) (x3 : Int32)  (k : Int32 → Int32 → Prop), wl_X4_extreme_16 x1 σ n x2 x3 k →
      (∀ (x2 : Int32) (x3 : Int32) , k x2 x3 → ∀ (H : Heap) (locs : List Loc) (ls : Array Slot), va_P (dC, dI) vwCl [(h0, .inr (3, [.int σ.1, .int σ.2.1, .int σ.2.2.1, .ref w0, .int σ.2.2.2.2.1, .int σ.2.2.2.2.2.1, .long σ.2.2.2.2.2.2.1, .ref so, .ref be, .int σ.2.2.2.2.2.2.2.2.2.1, .int σ.2.2.2.2.2.2.2.2.2.2.1, .int σ.2.2.2.2.2.2.2.2.2.2.2.1, .int σ.2.2.2.2.2.2.2.2.2.2.2.2])), (w0, .inl (cJ, 511, .inr (.inl (σ.2.2.2.1)))), (so, .inl (cI, 30, .inl (σ.2.2.2.2.2.2.2.1))), (be, .inl (cI, 30, .inl (σ.2.2.2.2.2.2.2.2.1)))] H → va_D A [(h0, .inr (3, [.int σ.1, .int σ.2.1, .int σ.2.2.1, .ref w0, .int σ.2.2.2.2.1, .int σ.2.2.2.2.2.1, .long σ.2.2.2.2.2.2.1, .ref so, .ref be, .int σ.2.2.2.2.2.2.2.2.2.1, .int σ.2.2.2.2.2.2.2.2.2.2.1, .int σ.2.2.2.2.2.2.2.2.2.2.2.1, .int σ.2.2.2.2.2.2.2.2.2.2.2.2])), (w0, .inl (cJ, 511, .inr (.inl (σ.2.2.2.1)))), (so, .inl (cI, 30, .inl (σ.2.2.2.2.2.2.2.1))), (be, .inl (cI, 30, .inl (σ.2.2.2.2.2.2.2.2.1)))] → va_S A s.heap H locs → lv_has ls 5 [(3, .int x3), (2, .int x2), (0, .ref h0), (1, .int x1)] → W p l e (headSpec wsX4_extreme ({ frames := 1, cells := 0, slots := 0, locals := 25 } : Room)).room s m ([.ref h0, .int p0] : List Value).toArray below meth c H locs 0 0 (MQ below (va_Qi (fun r u => post r ∧ u = (cl4 h0 w0 so be cJ cI σ)) (kB (dC, dI) [(cJ, .long), (cI, .int)] A) A) ([.ref h0, .int p0] : List Value).toArray s 0 0 A) (F0 m 106 ls [])) →
      ∀ (H : Heap) (locs : List Loc) (ls : Array Slot), va_P (dC, dI) vwCl [(h0, .inr (3, [.int σ.1, .int σ.2.1, .int σ.2.2.1, .ref w0, .int σ.2.2.2.2.1, .int σ.2.2.2.2.2.1, .long σ.2.2.2.2.2.2.1, .ref so, .ref be, .int σ.2.2.2.2.2.2.2.2.2.1, .int σ.2.2.2.2.2.2.2.2.2.2.1, .int σ.2.2.2.2.2.2.2.2.2.2.2.1, .int σ.2.2.2.2.2.2.2.2.2.2.2.2])), (w0, .inl (cJ, 511, .inr (.inl (σ.2.2.2.1)))), (so, .inl (cI, 30, .inl (σ.2.2.2.2.2.2.2.1))), (be, .inl (cI, 30, .inl (σ.2.2.2.2.2.2.2.2.1)))] H → va_D A [(h0, .inr (3, [.int σ.1, .int σ.2.1, .int σ.2.2.1, .ref w0, .int σ.2.2.2.2.1, .int σ.2.2.2.2.2.1, .long σ.2.2.2.2.2.2.1, .ref so, .ref be, .int σ.2.2.2.2.2.2.2.2.2.1, .int σ.2.2.2.2.2.2.2.2.2.2.1, .int σ.2.2.2.2.2.2.2.2.2.2.2.1, .int σ.2.2.2.2.2.2.2.2.2.2.2.2])), (w0, .inl (cJ, 511, .inr (.inl (σ.2.2.2.1)))), (so, .inl (cI, 30, .inl (σ.2.2.2.2.2.2.2.1))), (be, .inl (cI, 30, .inl (σ.2.2.2.2.2.2.2.2.1)))] → va_S A s.heap H locs → lv_has ls 5 [(3, .int x3), (2, .int x2), (0, .ref h0), (1, .int x1)] → W p l e (headSpec wsX4_extreme ({ frames := 1, cells := 0, slots := 0, locals := 25 } : Room)).room s m ([.ref h0, .int p0] : List Value).toArray below meth c H locs 0 0 (MQ below (va_Qi (fun r u => post r ∧ u = (cl4 h0 w0 so be cJ cI σ)) (kB (dC, dI) [(cJ, .long), (cI, .int)] A) A) ([.ref h0, .int p0] : List Value).toArray s 0 0 A) (F0 m 16 ls []) := by
    intro x1 n
    induction n with
    | zero => intro x2 x3 k hw; exact absurd hw id
    | succ n ih =>
      intro x2 x3 k hw hk H locs ls hP hD hS hl
      unfold wl_X4_extreme_16 at hw
      refine lv_iload_n hx hb dX4_extreme_16 rfl (lv_at hl 0 rfl) ?_
      refine lv_iconst (v := (1 : Int32)) hx hb dX4_extreme_17 (by decide) ?_
      refine lv_aload_n hx hb dX4_extreme_18 rfl (lv_at hl 2 rfl) ?_
      refine va_get (D := (dC, dI)) (ci := 3) (v := .int σ.1) (C := RX4) (T := TX4) (N := 13) hx hb hts hin0 hown hK hP 0 rfl rfl 0 (by decide) fl_7 (fun _ h9 => h9) rfl dX4_extreme_19 ?_
      refine lv_ishl hx hb dX4_extreme_22 ?_
      refine lv_icmp_ge (tgt := 106) hx hb dX4_extreme_23 (by decide) (fun c4 => ?_) (fun c4 => ?_)
      · have hw := hw.1 c4
        exact hk x2 x3 hw H locs ls hP hD hS (lv_sub hl [0, 1, 2, 3] rfl)
      · have hw := hw.2 c4
        refine lv_iload_n hx hb dX4_extreme_26 rfl (lv_at hl 3 rfl) ?_
        refine lv_if_ne (tgt := 60) hx hb dX4_extreme_27 (by decide) (fun c5 => ?_) (fun c5 => ?_)
        · have hw := hw.1 c5
          refine lv_aload_n hx hb dX4_extreme_60 rfl (lv_at hl 2 rfl) ?_
          refine lv_aload_n hx hb dX4_extreme_61 rfl (lv_at hl 2 rfl) ?_
          refine va_get (D := (dC, dI)) (ci := 3) (v := .int σ.1) (C := RX4) (T := TX4) (N := 13) hx hb hts hin0 hown hK hP 0 rfl rfl 0 (by decide) fl_7 (fun _ h9 => h9) rfl dX4_extreme_62 ?_
          refine lv_iload_n hx hb dX4_extreme_65 rfl (lv_at hl 0 rfl) ?_
          have hPc := hP
          have hDc := hD
          have hKc := hK
          have hFc := va_free (wc := [(h0, .inr (3, [.int σ.1, .int σ.2.1, .int σ.2.2.1, .ref w0, .int σ.2.2.2.2.1, .int σ.2.2.2.2.2.1, .long σ.2.2.2.2.2.2.1, .ref so, .ref be, .int σ.2.2.2.2.2.2.2.2.2.1, .int σ.2.2.2.2.2.2.2.2.2.2.1, .int σ.2.2.2.2.2.2.2.2.2.2.2.1, .int σ.2.2.2.2.2.2.2.2.2.2.2.2])), (w0, .inl (cJ, 511, .inr (.inl (σ.2.2.2.1)))), (so, .inl (cI, 30, .inl (σ.2.2.2.2.2.2.2.1))), (be, .inl (cI, 30, .inl (σ.2.2.2.2.2.2.2.2.1)))]) hD hS hA [0, 1, 2, 3] rfl
          refine kc_l (wr := ([] : va_W)) (kr_V (As := [.int σ.1, .int x3]) (rest := []) (b := h0) (ws := [(h0, .inr (3, [.int σ.1, .int σ.2.1, .int σ.2.2.1, .ref w0, .int σ.2.2.2.2.1, .int σ.2.2.2.2.2.1, .long σ.2.2.2.2.2.2.1, .ref so, .ref be, .int σ.2.2.2.2.2.2.2.2.2.1, .int σ.2.2.2.2.2.2.2.2.2.2.1, .int σ.2.2.2.2.2.2.2.2.2.2.2.1, .int σ.2.2.2.2.2.2.2.2.2.2.2.2])), (w0, .inl (cJ, 511, .inr (.inl (σ.2.2.2.1)))), (so, .inl (cI, 30, .inl (σ.2.2.2.2.2.2.2.1))), (be, .inl (cI, 30, .inl (σ.2.2.2.2.2.2.2.2.1)))]) ⟨hx, hb, hml, hown, hts⟩ (c_X4_weigh l dC dI h0 w0 so be cJ cI σ σ.1 x3 _ hw H.size) (cwV 2 hts gX4_extreme_X4_weigh rfl rfl rfl (by decide +kernel) ⟨Nat.le_of_ble_eq_true rfl, Nat.le_of_ble_eq_true rfl⟩) 3 0 hK rfl rfl rfl hKc hnw hP hD hPc hDc rfl hl.1 rfl (Nat.le_of_ble_eq_true rfl) dX4_extreme_66 ⟨Nat.zero_le _, Nat.zero_le _⟩) hP hD hS hFc [0, 1, 2, 3] [] rfl rfl (by decide) (by decide) (fun r6 u1 H locs hq hP hD hS => ?_)
          obtain ⟨hw, rfl⟩ := hq
          have hP : va_P (dC, dI) vwCl [(h0, .inr (3, [.int σ.1, .int σ.2.1, .int σ.2.2.1, .ref w0, .int σ.2.2.2.2.1, .int σ.2.2.2.2.2.1, .long σ.2.2.2.2.2.2.1, .ref so, .ref be, .int σ.2.2.2.2.2.2.2.2.2.1, .int σ.2.2.2.2.2.2.2.2.2.2.1, .int σ.2.2.2.2.2.2.2.2.2.2.2.1, .int σ.2.2.2.2.2.2.2.2.2.2.2.2])), (w0, .inl (cJ, 511, .inr (.inl (σ.2.2.2.1)))), (so, .inl (cI, 30, .inl (σ.2.2.2.2.2.2.2.1))), (be, .inl (cI, 30, .inl (σ.2.2.2.2.2.2.2.2.1)))] H := hP
          have hD : va_D A [(h0, .inr (3, [.int σ.1, .int σ.2.1, .int σ.2.2.1, .ref w0, .int σ.2.2.2.2.1, .int σ.2.2.2.2.2.1, .long σ.2.2.2.2.2.2.1, .ref so, .ref be, .int σ.2.2.2.2.2.2.2.2.2.1, .int σ.2.2.2.2.2.2.2.2.2.2.1, .int σ.2.2.2.2.2.2.2.2.2.2.2.1, .int σ.2.2.2.2.2.2.2.2.2.2.2.2])), (w0, .inl (cJ, 511, .inr (.inl (σ.2.2.2.1)))), (so, .inl (cI, 30, .inl (σ.2.2.2.2.2.2.2.1))), (be, .inl (cI, 30, .inl (σ.2.2.2.2.2.2.2.2.1)))] := hD
          refine lv_aload_n hx hb dX4_extreme_69 rfl (lv_at hl 2 rfl) ?_
          refine lv_aload_n hx hb dX4_extreme_70 rfl (lv_at hl 2 rfl) ?_
          refine va_get (D := (dC, dI)) (ci := 3) (v := .int σ.1) (C := RX4) (T := TX4) (N := 13) hx hb hts hin0 hown hK hP 0 rfl rfl 0 (by decide) fl_7 (fun _ h9 => h9) rfl dX4_extreme_71 ?_
          refine lv_iload_n hx hb dX4_extreme_74 rfl (lv_at hl 1 rfl) ?_
          have hPc := hP
          have hDc := hD
          have hKc := hK
          have hFc := va_free (wc := [(h0, .inr (3, [.int σ.1, .int σ.2.1, .int σ.2.2.1, .ref w0, .int σ.2.2.2.2.1, .int σ.2.2.2.2.2.1, .long σ.2.2.2.2.2.2.1, .ref so, .ref be, .int σ.2.2.2.2.2.2.2.2.2.1, .int σ.2.2.2.2.2.2.2.2.2.2.1, .int σ.2.2.2.2.2.2.2.2.2.2.2.1, .int σ.2.2.2.2.2.2.2.2.2.2.2.2])), (w0, .inl (cJ, 511, .inr (.inl (σ.2.2.2.1)))), (so, .inl (cI, 30, .inl (σ.2.2.2.2.2.2.2.1))), (be, .inl (cI, 30, .inl (σ.2.2.2.2.2.2.2.2.1)))]) hD hS hA [0, 1, 2, 3] rfl
          refine kc_l (wr := ([] : va_W)) (kr_V (As := [.int σ.1, .int x2]) (rest := [.long r6]) (b := h0) (ws := [(h0, .inr (3, [.int σ.1, .int σ.2.1, .int σ.2.2.1, .ref w0, .int σ.2.2.2.2.1, .int σ.2.2.2.2.2.1, .long σ.2.2.2.2.2.2.1, .ref so, .ref be, .int σ.2.2.2.2.2.2.2.2.2.1, .int σ.2.2.2.2.2.2.2.2.2.2.1, .int σ.2.2.2.2.2.2.2.2.2.2.2.1, .int σ.2.2.2.2.2.2.2.2.2.2.2.2])), (w0, .inl (cJ, 511, .inr (.inl (σ.2.2.2.1)))), (so, .inl (cI, 30, .inl (σ.2.2.2.2.2.2.2.1))), (be, .inl (cI, 30, .inl (σ.2.2.2.2.2.2.2.2.1)))]) ⟨hx, hb, hml, hown, hts⟩ (c_X4_weigh l dC dI h0 w0 so be cJ cI σ σ.1 x2 _ hw H.size) (cwV 2 hts gX4_extreme_X4_weigh rfl rfl rfl (by decide +kernel) ⟨Nat.le_of_ble_eq_true rfl, Nat.le_of_ble_eq_true rfl⟩) 3 0 hK rfl rfl rfl hKc hnw hP hD hPc hDc rfl hl.1 rfl (Nat.le_of_ble_eq_true rfl) dX4_extreme_75 ⟨Nat.zero_le _, Nat.zero_le _⟩) hP hD hS hFc [0, 1, 2, 3] [] rfl rfl (by decide) (by decide) (fun r8 u1 H locs hq hP hD hS => ?_)
          obtain ⟨hw, rfl⟩ := hq
          have hP : va_P (dC, dI) vwCl [(h0, .inr (3, [.int σ.1, .int σ.2.1, .int σ.2.2.1, .ref w0, .int σ.2.2.2.2.1, .int σ.2.2.2.2.2.1, .long σ.2.2.2.2.2.2.1, .ref so, .ref be, .int σ.2.2.2.2.2.2.2.2.2.1, .int σ.2.2.2.2.2.2.2.2.2.2.1, .int σ.2.2.2.2.2.2.2.2.2.2.2.1, .int σ.2.2.2.2.2.2.2.2.2.2.2.2])), (w0, .inl (cJ, 511, .inr (.inl (σ.2.2.2.1)))), (so, .inl (cI, 30, .inl (σ.2.2.2.2.2.2.2.1))), (be, .inl (cI, 30, .inl (σ.2.2.2.2.2.2.2.2.1)))] H := hP
          have hD : va_D A [(h0, .inr (3, [.int σ.1, .int σ.2.1, .int σ.2.2.1, .ref w0, .int σ.2.2.2.2.1, .int σ.2.2.2.2.2.1, .long σ.2.2.2.2.2.2.1, .ref so, .ref be, .int σ.2.2.2.2.2.2.2.2.2.1, .int σ.2.2.2.2.2.2.2.2.2.2.1, .int σ.2.2.2.2.2.2.2.2.2.2.2.1, .int σ.2.2.2.2.2.2.2.2.2.2.2.2])), (w0, .inl (cJ, 511, .inr (.inl (σ.2.2.2.1)))), (so, .inl (cI, 30, .inl (σ.2.2.2.2.2.2.2.1))), (be, .inl (cI, 30, .inl (σ.2.2.2.2.2.2.2.2.1)))] := hD
          refine W.lcmp hx hb dX4_extreme_78 ?_
          refine lv_if_ge (tgt := 86) hx hb dX4_extreme_79 (by decide) (fun c10 => ?_) (fun c10 => ?_)
          · have hw := hw.1 (lgc_ge.mp c10)
            refine lv_iconst (v := (0 : Int32)) hx hb dX4_extreme_86 (by decide) ?_
            refine lv_istore (lv' := [(4, .int (0 : Int32)), (3, .int x3), (2, .int x2), (0, .ref h0), (1, .int x1)]) hx hb dX4_extreme_87 hl (by decide) rfl (fun ls hl => ?_)
            refine lv_iload hx hb dX4_extreme_89 (lv_at hl 0 rfl) ?_
            refine lv_if_eq (tgt := 98) hx hb dX4_extreme_91 (by decide) (fun _ => ?_) (fun cz => absurd cz (by decide))
            refine lv_iload_n hx hb dX4_extreme_98 rfl (lv_at hl 2 rfl) ?_
            refine lv_istore_n (lv' := [(2, .int x2), (4, .int (0 : Int32)), (3, .int x3), (0, .ref h0), (1, .int x1)]) hx hb dX4_extreme_99 rfl hl (by decide) rfl (fun ls hl => ?_)
            refine lv_iinc (v := (x3 + (1 : Int32))) (lv' := [(3, .int (x3 + (1 : Int32))), (2, .int x2), (4, .int (0 : Int32)), (0, .ref h0), (1, .int x1)]) hx hb dX4_extreme_100 hl (k := 2) rfl rfl (by decide) rfl (fun ls hl => ?_)
            refine lv_goto (tgt := 16) hx hb dX4_extreme_103 (by decide) ?_
            exact ih x2 (x3 + (1 : Int32)) _ hw hk H locs ls hP hD hS (lv_sub hl [0, 1, 3, 4] rfl)
          · have hw := hw.2 ((not_congr lgc_ge).mp c10)
            refine lv_iconst (v := (1 : Int32)) hx hb dX4_extreme_82 (by decide) ?_
            refine lv_goto (tgt := 87) hx hb dX4_extreme_83 (by decide) ?_
            refine lv_istore (lv' := [(4, .int (1 : Int32)), (3, .int x3), (2, .int x2), (0, .ref h0), (1, .int x1)]) hx hb dX4_extreme_87 hl (by decide) rfl (fun ls hl => ?_)
            refine lv_iload hx hb dX4_extreme_89 (lv_at hl 0 rfl) ?_
            refine lv_if_eq (tgt := 98) hx hb dX4_extreme_91 (by decide) (fun cz => absurd cz (by decide)) (fun _ => ?_)
            refine lv_iload_n hx hb dX4_extreme_94 rfl (lv_at hl 1 rfl) ?_
            refine lv_goto (tgt := 99) hx hb dX4_extreme_95 (by decide) ?_
            refine lv_istore_n (lv' := [(2, .int x3), (4, .int (1 : Int32)), (3, .int x3), (0, .ref h0), (1, .int x1)]) hx hb dX4_extreme_99 rfl hl (by decide) rfl (fun ls hl => ?_)
            refine lv_iinc (v := (x3 + (1 : Int32))) (lv' := [(3, .int (x3 + (1 : Int32))), (2, .int x3), (4, .int (1 : Int32)), (0, .ref h0), (1, .int x1)]) hx hb dX4_extreme_100 hl (k := 2) rfl rfl (by decide) rfl (fun ls hl => ?_)
            refine lv_goto (tgt := 16) hx hb dX4_extreme_103 (by decide) ?_
            exact ih x3 (x3 + (1 : Int32)) _ hw hk H locs ls hP hD hS (lv_sub hl [0, 1, 3, 4] rfl)
        · have hw := hw.2 c5
          refine lv_aload_n hx hb dX4_extreme_30 rfl (lv_at hl 2 rfl) ?_
          refine lv_aload_n hx hb dX4_extreme_31 rfl (lv_at hl 2 rfl) ?_
          refine va_get (D := (dC, dI)) (ci := 3) (v := .int σ.1) (C := RX4) (T := TX4) (N := 13) hx hb hts hin0 hown hK hP 0 rfl rfl 0 (by decide) fl_7 (fun _ h9 => h9) rfl dX4_extreme_32 ?_
          refine lv_iload_n hx hb dX4_extreme_35 rfl (lv_at hl 0 rfl) ?_
          have hPc := hP
          have hDc := hD
          have hKc := hK
          have hFc := va_free (wc := [(h0, .inr (3, [.int σ.1, .int σ.2.1, .int σ.2.2.1, .ref w0, .int σ.2.2.2.2.1, .int σ.2.2.2.2.2.1, .long σ.2.2.2.2.2.2.1, .ref so, .ref be, .int σ.2.2.2.2.2.2.2.2.2.1, .int σ.2.2.2.2.2.2.2.2.2.2.1, .int σ.2.2.2.2.2.2.2.2.2.2.2.1, .int σ.2.2.2.2.2.2.2.2.2.2.2.2])), (w0, .inl (cJ, 511, .inr (.inl (σ.2.2.2.1)))), (so, .inl (cI, 30, .inl (σ.2.2.2.2.2.2.2.1))), (be, .inl (cI, 30, .inl (σ.2.2.2.2.2.2.2.2.1)))]) hD hS hA [0, 1, 2, 3] rfl
          refine kc_l (wr := ([] : va_W)) (kr_V (As := [.int σ.1, .int x3]) (rest := []) (b := h0) (ws := [(h0, .inr (3, [.int σ.1, .int σ.2.1, .int σ.2.2.1, .ref w0, .int σ.2.2.2.2.1, .int σ.2.2.2.2.2.1, .long σ.2.2.2.2.2.2.1, .ref so, .ref be, .int σ.2.2.2.2.2.2.2.2.2.1, .int σ.2.2.2.2.2.2.2.2.2.2.1, .int σ.2.2.2.2.2.2.2.2.2.2.2.1, .int σ.2.2.2.2.2.2.2.2.2.2.2.2])), (w0, .inl (cJ, 511, .inr (.inl (σ.2.2.2.1)))), (so, .inl (cI, 30, .inl (σ.2.2.2.2.2.2.2.1))), (be, .inl (cI, 30, .inl (σ.2.2.2.2.2.2.2.2.1)))]) ⟨hx, hb, hml, hown, hts⟩ (c_X4_weigh l dC dI h0 w0 so be cJ cI σ σ.1 x3 _ hw H.size) (cwV 2 hts gX4_extreme_X4_weigh rfl rfl rfl (by decide +kernel) ⟨Nat.le_of_ble_eq_true rfl, Nat.le_of_ble_eq_true rfl⟩) 3 0 hK rfl rfl rfl hKc hnw hP hD hPc hDc rfl hl.1 rfl (Nat.le_of_ble_eq_true rfl) dX4_extreme_36 ⟨Nat.zero_le _, Nat.zero_le _⟩) hP hD hS hFc [0, 1, 2, 3] [] rfl rfl (by decide) (by decide) (fun r11 u1 H locs hq hP hD hS => ?_)
          obtain ⟨hw, rfl⟩ := hq
          have hP : va_P (dC, dI) vwCl [(h0, .inr (3, [.int σ.1, .int σ.2.1, .int σ.2.2.1, .ref w0, .int σ.2.2.2.2.1, .int σ.2.2.2.2.2.1, .long σ.2.2.2.2.2.2.1, .ref so, .ref be, .int σ.2.2.2.2.2.2.2.2.2.1, .int σ.2.2.2.2.2.2.2.2.2.2.1, .int σ.2.2.2.2.2.2.2.2.2.2.2.1, .int σ.2.2.2.2.2.2.2.2.2.2.2.2])), (w0, .inl (cJ, 511, .inr (.inl (σ.2.2.2.1)))), (so, .inl (cI, 30, .inl (σ.2.2.2.2.2.2.2.1))), (be, .inl (cI, 30, .inl (σ.2.2.2.2.2.2.2.2.1)))] H := hP
          have hD : va_D A [(h0, .inr (3, [.int σ.1, .int σ.2.1, .int σ.2.2.1, .ref w0, .int σ.2.2.2.2.1, .int σ.2.2.2.2.2.1, .long σ.2.2.2.2.2.2.1, .ref so, .ref be, .int σ.2.2.2.2.2.2.2.2.2.1, .int σ.2.2.2.2.2.2.2.2.2.2.1, .int σ.2.2.2.2.2.2.2.2.2.2.2.1, .int σ.2.2.2.2.2.2.2.2.2.2.2.2])), (w0, .inl (cJ, 511, .inr (.inl (σ.2.2.2.1)))), (so, .inl (cI, 30, .inl (σ.2.2.2.2.2.2.2.1))), (be, .inl (cI, 30, .inl (σ.2.2.2.2.2.2.2.2.1)))] := hD
          refine lv_aload_n hx hb dX4_extreme_39 rfl (lv_at hl 2 rfl) ?_
          refine lv_aload_n hx hb dX4_extreme_40 rfl (lv_at hl 2 rfl) ?_
          refine va_get (D := (dC, dI)) (ci := 3) (v := .int σ.1) (C := RX4) (T := TX4) (N := 13) hx hb hts hin0 hown hK hP 0 rfl rfl 0 (by decide) fl_7 (fun _ h9 => h9) rfl dX4_extreme_41 ?_
          refine lv_iload_n hx hb dX4_extreme_44 rfl (lv_at hl 1 rfl) ?_
          have hPc := hP
          have hDc := hD
          have hKc := hK
          have hFc := va_free (wc := [(h0, .inr (3, [.int σ.1, .int σ.2.1, .int σ.2.2.1, .ref w0, .int σ.2.2.2.2.1, .int σ.2.2.2.2.2.1, .long σ.2.2.2.2.2.2.1, .ref so, .ref be, .int σ.2.2.2.2.2.2.2.2.2.1, .int σ.2.2.2.2.2.2.2.2.2.2.1, .int σ.2.2.2.2.2.2.2.2.2.2.2.1, .int σ.2.2.2.2.2.2.2.2.2.2.2.2])), (w0, .inl (cJ, 511, .inr (.inl (σ.2.2.2.1)))), (so, .inl (cI, 30, .inl (σ.2.2.2.2.2.2.2.1))), (be, .inl (cI, 30, .inl (σ.2.2.2.2.2.2.2.2.1)))]) hD hS hA [0, 1, 2, 3] rfl
          refine kc_l (wr := ([] : va_W)) (kr_V (As := [.int σ.1, .int x2]) (rest := [.long r11]) (b := h0) (ws := [(h0, .inr (3, [.int σ.1, .int σ.2.1, .int σ.2.2.1, .ref w0, .int σ.2.2.2.2.1, .int σ.2.2.2.2.2.1, .long σ.2.2.2.2.2.2.1, .ref so, .ref be, .int σ.2.2.2.2.2.2.2.2.2.1, .int σ.2.2.2.2.2.2.2.2.2.2.1, .int σ.2.2.2.2.2.2.2.2.2.2.2.1, .int σ.2.2.2.2.2.2.2.2.2.2.2.2])), (w0, .inl (cJ, 511, .inr (.inl (σ.2.2.2.1)))), (so, .inl (cI, 30, .inl (σ.2.2.2.2.2.2.2.1))), (be, .inl (cI, 30, .inl (σ.2.2.2.2.2.2.2.2.1)))]) ⟨hx, hb, hml, hown, hts⟩ (c_X4_weigh l dC dI h0 w0 so be cJ cI σ σ.1 x2 _ hw H.size) (cwV 2 hts gX4_extreme_X4_weigh rfl rfl rfl (by decide +kernel) ⟨Nat.le_of_ble_eq_true rfl, Nat.le_of_ble_eq_true rfl⟩) 3 0 hK rfl rfl rfl hKc hnw hP hD hPc hDc rfl hl.1 rfl (Nat.le_of_ble_eq_true rfl) dX4_extreme_45 ⟨Nat.zero_le _, Nat.zero_le _⟩) hP hD hS hFc [0, 1, 2, 3] [] rfl rfl (by decide) (by decide) (fun r13 u1 H locs hq hP hD hS => ?_)
          obtain ⟨hw, rfl⟩ := hq
          have hP : va_P (dC, dI) vwCl [(h0, .inr (3, [.int σ.1, .int σ.2.1, .int σ.2.2.1, .ref w0, .int σ.2.2.2.2.1, .int σ.2.2.2.2.2.1, .long σ.2.2.2.2.2.2.1, .ref so, .ref be, .int σ.2.2.2.2.2.2.2.2.2.1, .int σ.2.2.2.2.2.2.2.2.2.2.1, .int σ.2.2.2.2.2.2.2.2.2.2.2.1, .int σ.2.2.2.2.2.2.2.2.2.2.2.2])), (w0, .inl (cJ, 511, .inr (.inl (σ.2.2.2.1)))), (so, .inl (cI, 30, .inl (σ.2.2.2.2.2.2.2.1))), (be, .inl (cI, 30, .inl (σ.2.2.2.2.2.2.2.2.1)))] H := hP
          have hD : va_D A [(h0, .inr (3, [.int σ.1, .int σ.2.1, .int σ.2.2.1, .ref w0, .int σ.2.2.2.2.1, .int σ.2.2.2.2.2.1, .long σ.2.2.2.2.2.2.1, .ref so, .ref be, .int σ.2.2.2.2.2.2.2.2.2.1, .int σ.2.2.2.2.2.2.2.2.2.2.1, .int σ.2.2.2.2.2.2.2.2.2.2.2.1, .int σ.2.2.2.2.2.2.2.2.2.2.2.2])), (w0, .inl (cJ, 511, .inr (.inl (σ.2.2.2.1)))), (so, .inl (cI, 30, .inl (σ.2.2.2.2.2.2.2.1))), (be, .inl (cI, 30, .inl (σ.2.2.2.2.2.2.2.2.1)))] := hD
          refine W.lcmp hx hb dX4_extreme_48 ?_
          refine lv_if_le (tgt := 56) hx hb dX4_extreme_49 (by decide) (fun c15 => ?_) (fun c15 => ?_)
          · have hw := hw.1 (lgc_le.mp c15)
            refine lv_iconst (v := (0 : Int32)) hx hb dX4_extreme_56 (by decide) ?_
            refine lv_goto (tgt := 87) hx hb dX4_extreme_57 (by decide) ?_
            refine lv_istore (lv' := [(4, .int (0 : Int32)), (3, .int x3), (2, .int x2), (0, .ref h0), (1, .int x1)]) hx hb dX4_extreme_87 hl (by decide) rfl (fun ls hl => ?_)
            refine lv_iload hx hb dX4_extreme_89 (lv_at hl 0 rfl) ?_
            refine lv_if_eq (tgt := 98) hx hb dX4_extreme_91 (by decide) (fun _ => ?_) (fun cz => absurd cz (by decide))
            refine lv_iload_n hx hb dX4_extreme_98 rfl (lv_at hl 2 rfl) ?_
            refine lv_istore_n (lv' := [(2, .int x2), (4, .int (0 : Int32)), (3, .int x3), (0, .ref h0), (1, .int x1)]) hx hb dX4_extreme_99 rfl hl (by decide) rfl (fun ls hl => ?_)
            refine lv_iinc (v := (x3 + (1 : Int32))) (lv' := [(3, .int (x3 + (1 : Int32))), (2, .int x2), (4, .int (0 : Int32)), (0, .ref h0), (1, .int x1)]) hx hb dX4_extreme_100 hl (k := 2) rfl rfl (by decide) rfl (fun ls hl => ?_)
            refine lv_goto (tgt := 16) hx hb dX4_extreme_103 (by decide) ?_
            exact ih x2 (x3 + (1 : Int32)) _ hw hk H locs ls hP hD hS (lv_sub hl [0, 1, 3, 4] rfl)
          · have hw := hw.2 ((not_congr lgc_le).mp c15)
            refine lv_iconst (v := (1 : Int32)) hx hb dX4_extreme_52 (by decide) ?_
            refine lv_goto (tgt := 87) hx hb dX4_extreme_53 (by decide) ?_
            refine lv_istore (lv' := [(4, .int (1 : Int32)), (3, .int x3), (2, .int x2), (0, .ref h0), (1, .int x1)]) hx hb dX4_extreme_87 hl (by decide) rfl (fun ls hl => ?_)
            refine lv_iload hx hb dX4_extreme_89 (lv_at hl 0 rfl) ?_
            refine lv_if_eq (tgt := 98) hx hb dX4_extreme_91 (by decide) (fun cz => absurd cz (by decide)) (fun _ => ?_)
            refine lv_iload_n hx hb dX4_extreme_94 rfl (lv_at hl 1 rfl) ?_
            refine lv_goto (tgt := 99) hx hb dX4_extreme_95 (by decide) ?_
            refine lv_istore_n (lv' := [(2, .int x3), (4, .int (1 : Int32)), (3, .int x3), (0, .ref h0), (1, .int x1)]) hx hb dX4_extreme_99 rfl hl (by decide) rfl (fun ls hl => ?_)
            refine lv_iinc (v := (x3 + (1 : Int32))) (lv' := [(3, .int (x3 + (1 : Int32))), (2, .int x3), (4, .int (1 : Int32)), (0, .ref h0), (1, .int x1)]) hx hb dX4_extreme_100 hl (k := 2) rfl rfl (by decide) rfl (fun ls hl => ?_)
            refine lv_goto (tgt := 16) hx hb dX4_extreme_103 (by decide) ?_
            exact ih x3 (x3 + (1 : Int32)) _ hw hk H locs ls hP hD hS (lv_sub hl [0, 1, 3, 4] rfl)
  have hl := lv_entry ([.ref h0, .int p0]) (n := 5) (Nat.le_of_ble_eq_true rfl)
  rw [lg_entry_eq]
  generalize (lg_sl ([.ref h0, .int p0]) ++ List.replicate (5 - (lg_sl ([.ref h0, .int p0])).length) Slot.unset).toArray = ls at hl ⊢
  have hl : lv_has ls 5 [(0, .ref h0), (1, .int p0)] := hl
  unfold wp_X4_extreme at hw
  skip
  obtain ⟨H, hH⟩ : ∃ H, H = s.heap := ⟨_, rfl⟩
  obtain ⟨locs, hlo⟩ : ∃ q : List Loc, q = [] := ⟨_, rfl⟩
  rw [← hH] at hP
  have hS : va_S A s.heap H locs := by rw [hH, hlo]; exact hS
  suffices hgo : W p l e (headSpec wsX4_extreme ({ frames := 1, cells := 0, slots := 0, locals := 25 } : Room)).room s m _ below meth c H locs 0 0 _ (F0 m 0 ls []) by rw [hH, hlo] at hgo; exact hgo
  refine lv_iload_n hx hb dX4_extreme_0 rfl (lv_at hl 1 rfl) ?_
  refine lv_i2l hx hb dX4_extreme_1 rfl ?_
  refine lv_lconst (v := (0 : Int64)) hx hb dX4_extreme_2 (by decide) ?_
  refine lv_lconst (v := (1 : Int64)) hx hb dX4_extreme_3 (by decide) ?_
  have hPc := hP.sub (ws' := ([] : va_W)) [] rfl
  have hDc := hD.sub (ws' := ([] : va_W)) [] (by decide) rfl
  have hKc := hK.sub (tys' := []) [] rfl
  have hFc := va_free (wc := ([] : va_W)) hD hS hA [] rfl
  refine kc_i (wr := [(h0, .inr (3, [.int σ.1, .int σ.2.1, .int σ.2.2.1, .ref w0, .int σ.2.2.2.2.1, .int σ.2.2.2.2.2.1, .long σ.2.2.2.2.2.2.1, .ref so, .ref be, .int σ.2.2.2.2.2.2.2.2.2.1, .int σ.2.2.2.2.2.2.2.2.2.2.1, .int σ.2.2.2.2.2.2.2.2.2.2.2.1, .int σ.2.2.2.2.2.2.2.2.2.2.2.2])), (w0, .inl (cJ, 511, .inr (.inl (σ.2.2.2.1)))), (so, .inl (cI, 30, .inl (σ.2.2.2.2.2.2.2.1))), (be, .inl (cI, 30, .inl (σ.2.2.2.2.2.2.2.2.1)))]) (kr_S (As := [.long (p0.toInt64), .long (0 : Int64), .long (1 : Int64)]) (rest := []) (ws := [(h0, .inr (3, [.int σ.1, .int σ.2.1, .int σ.2.2.1, .ref w0, .int σ.2.2.2.2.1, .int σ.2.2.2.2.2.1, .long σ.2.2.2.2.2.2.1, .ref so, .ref be, .int σ.2.2.2.2.2.2.2.2.2.1, .int σ.2.2.2.2.2.2.2.2.2.2.1, .int σ.2.2.2.2.2.2.2.2.2.2.2.1, .int σ.2.2.2.2.2.2.2.2.2.2.2.2])), (w0, .inl (cJ, 511, .inr (.inl (σ.2.2.2.1)))), (so, .inl (cI, 30, .inl (σ.2.2.2.2.2.2.2.1))), (be, .inl (cI, 30, .inl (σ.2.2.2.2.2.2.2.2.1)))]) ⟨hx, hb, hml, hown, hts⟩ (c_X4_in l dC dI   (p0.toInt64) (0 : Int64) (1 : Int64) _ hw H.size) (va_cwS 3 hts gX4_extreme_X4_in rfl rfl rfl (by decide +kernel) ⟨Nat.le_of_ble_eq_true rfl, Nat.le_of_ble_eq_true rfl⟩) hKc hnw hP hD hPc hDc rfl hl.1 rfl (Nat.le_of_ble_eq_true rfl) dX4_extreme_4 ⟨Nat.zero_le _, Nat.zero_le _⟩) hP hD hS hFc [] [0, 1, 2, 3] rfl rfl (by decide) (by decide) (fun r1 u1 H locs hq hP hD hS => ?_)
  obtain ⟨hw, rfl⟩ := hq
  have hP : va_P (dC, dI) vwCl [(h0, .inr (3, [.int σ.1, .int σ.2.1, .int σ.2.2.1, .ref w0, .int σ.2.2.2.2.1, .int σ.2.2.2.2.2.1, .long σ.2.2.2.2.2.2.1, .ref so, .ref be, .int σ.2.2.2.2.2.2.2.2.2.1, .int σ.2.2.2.2.2.2.2.2.2.2.1, .int σ.2.2.2.2.2.2.2.2.2.2.2.1, .int σ.2.2.2.2.2.2.2.2.2.2.2.2])), (w0, .inl (cJ, 511, .inr (.inl (σ.2.2.2.1)))), (so, .inl (cI, 30, .inl (σ.2.2.2.2.2.2.2.1))), (be, .inl (cI, 30, .inl (σ.2.2.2.2.2.2.2.2.1)))] H := hP
  have hD : va_D A [(h0, .inr (3, [.int σ.1, .int σ.2.1, .int σ.2.2.1, .ref w0, .int σ.2.2.2.2.1, .int σ.2.2.2.2.2.1, .long σ.2.2.2.2.2.2.1, .ref so, .ref be, .int σ.2.2.2.2.2.2.2.2.2.1, .int σ.2.2.2.2.2.2.2.2.2.2.1, .int σ.2.2.2.2.2.2.2.2.2.2.2.1, .int σ.2.2.2.2.2.2.2.2.2.2.2.2])), (w0, .inl (cJ, 511, .inr (.inl (σ.2.2.2.1)))), (so, .inl (cI, 30, .inl (σ.2.2.2.2.2.2.2.1))), (be, .inl (cI, 30, .inl (σ.2.2.2.2.2.2.2.2.1)))] := hD
  refine lv_if_ne (tgt := 12) hx hb dX4_extreme_7 (by decide) (fun c3 => ?_) (fun c3 => ?_)
  · have hw := hw.1 c3
    refine lv_iconst (v := (0 : Int32)) hx hb dX4_extreme_12 (by decide) ?_
    refine lv_istore_n (lv' := [(2, .int (0 : Int32)), (0, .ref h0), (1, .int p0)]) hx hb dX4_extreme_13 rfl hl (by decide) rfl (fun ls hl => ?_)
    refine lv_iconst (v := (1 : Int32)) hx hb dX4_extreme_14 (by decide) ?_
    refine lv_istore_n (lv' := [(3, .int (1 : Int32)), (2, .int (0 : Int32)), (0, .ref h0), (1, .int p0)]) hx hb dX4_extreme_15 rfl hl (by decide) rfl (fun ls hl => ?_)
    refine L16 p0 (20000) (0 : Int32) (1 : Int32) _ hw (fun x2_16 x3_17 hw H locs ls hP hD hS hl => ?_) H locs ls hP hD hS (lv_sub hl [0, 1, 2, 3] rfl)
    refine lv_iload_n hx hb dX4_extreme_106 rfl (lv_at hl 1 rfl) ?_
    exact W.iret (v := x2_16) hx hb hr (fun t ht hW => ⟨⟨x2_16, ((cl4 h0 w0 so be cJ cI σ)), rfl, ⟨hw, rfl⟩, by rw [ht]; exact hP, va_K.moved hW.alike hK, hD⟩, hS.F ht⟩) hS.2.2 dX4_extreme_107
  · have hw := hw.2 c3
    refine lv_iconst (v := (-1 : Int32)) hx hb dX4_extreme_10 (by decide) ?_
    exact W.iret (v := (-1 : Int32)) hx hb hr (fun t ht hW => ⟨⟨(-1 : Int32), ((cl4 h0 w0 so be cJ cI σ)), rfl, ⟨hw, rfl⟩, by rw [ht]; exact hP, va_K.moved hW.alike hK, hD⟩, hS.F ht⟩) hS.2.2 dX4_extreme_11
set_option maxHeartbeats 4000000 in
set_option maxRecDepth 100000 in
theorem c_X4_bits (l : Launch) (dC : Nat → ClassId) (dI : Nat → Nat → Nat)   (p0 : Int32) (post : Int32 → Prop) (hw : wp_X4_bits p0  post) : KI l yX4_bits wsX4_bits ({ frames := 0, cells := 0, slots := 0, locals := 0 } : Room) (dC, dI) [] [] [.int p0] (fun r u => post r ∧ u = []) := by
  intro sz
  refine Met.ofW (cc := cX4_bits) (maxL := 3) (ret := (some .int)) (by decide) rfl ?_
  intro p e s m args below meth c s₁ B hml hv
  obtain ⟨rfl, hsz, hP, hK, hD0, hnw⟩ := hv
  have hx := B.exec
  have hb := B.bytes
  have hr := B.returns
  have hts := atoms_spec (ws := wsX4_bits) B.pre
  have hown : s.vm.findClass RX4 = some m.cls := findClass_of_methodNamed B.named
  have hlocks := B.notSynchronized
  subst hsz
  have hD := hD0.self (sz := s.heap.size)
  generalize hAe : va_A [] s.heap.size = A at hD ⊢
  have hA : ∀ q : Nat, s.heap.size ≤ q → A q := fun q h => by rw [← hAe]; exact Or.inr h
  have hS : va_S A s.heap s.heap [] := va_S.rf
  have hP : va_P (dC, dI) vwCl [] s.heap := hP
  have hD : va_D A [] := hD
  have L4 : ∀ (x0 : Int32)  (n : Nat) (x1 : Int32) (x2 : Int32)  (k : Int32 → Int32 → Prop), wl_X4_bits_4 x0  n x1 x2 k →
      (∀ (x1 : Int32) (x2 : Int32) , k x1 x2 → ∀ (H : Heap) (locs : List Loc) (ls : Array Slot), va_P (dC, dI) vwCl [] H → va_D A [] → va_S A s.heap H locs → lv_has ls 3 [(2, .int x2), (1, .int x1), (0, .int x0)] → W p l e (headSpec wsX4_bits ({ frames := 0, cells := 0, slots := 0, locals := 0 } : Room)).room s m ([.int p0] : List Value).toArray below meth c H locs 0 0 (MQ below (va_Qi (fun r u => post r ∧ u = []) (kB (dC, dI) [] A) A) ([.int p0] : List Value).toArray s 0 0 A) (F0 m 24 ls [])) →
      ∀ (H : Heap) (locs : List Loc) (ls : Array Slot), va_P (dC, dI) vwCl [] H → va_D A [] → va_S A s.heap H locs → lv_has ls 3 [(2, .int x2), (1, .int x1), (0, .int x0)] → W p l e (headSpec wsX4_bits ({ frames := 0, cells := 0, slots := 0, locals := 0 } : Room)).room s m ([.int p0] : List Value).toArray below meth c H locs 0 0 (MQ below (va_Qi (fun r u => post r ∧ u = []) (kB (dC, dI) [] A) A) ([.int p0] : List Value).toArray s 0 0 A) (F0 m 4 ls []) := by
    intro x0 n
    induction n with
    | zero => intro x1 x2 k hw; exact absurd hw id
    | succ n ih =>
      intro x1 x2 k hw hk H locs ls hP hD hS hl
      unfold wl_X4_bits_4 at hw
      refine lv_iload_n hx hb dX4_bits_4 rfl (lv_at hl 0 rfl) ?_
      refine lv_bipush (v := (8 : Int32)) hx hb dX4_bits_5 (by decide) ?_
      refine lv_icmp_ge (tgt := 24) hx hb dX4_bits_7 (by decide) (fun c1 => ?_) (fun c1 => ?_)
      · have hw := hw.1 c1
        exact hk x1 x2 hw H locs ls hP hD hS (lv_sub hl [0, 1, 2] rfl)
      · have hw := hw.2 c1
        refine lv_iload_n hx hb dX4_bits_10 rfl (lv_at hl 1 rfl) ?_
        refine lv_iload_n hx hb dX4_bits_11 rfl (lv_at hl 2 rfl) ?_
        refine lv_iload_n hx hb dX4_bits_12 rfl (lv_at hl 0 rfl) ?_
        refine lv_ishr hx hb dX4_bits_13 ?_
        refine lv_iconst (v := (1 : Int32)) hx hb dX4_bits_14 (by decide) ?_
        refine lv_iand hx hb dX4_bits_15 ?_
        refine lv_iadd hx hb dX4_bits_16 ?_
        refine lv_istore_n (lv' := [(1, .int (x1 + ((x0 >>> (x2 &&& (31 : Int32))) &&& (1 : Int32)))), (2, .int x2), (0, .int x0)]) hx hb dX4_bits_17 rfl hl (by decide) rfl (fun ls hl => ?_)
        refine lv_iinc (v := (x2 + (1 : Int32))) (lv' := [(2, .int (x2 + (1 : Int32))), (1, .int (x1 + ((x0 >>> (x2 &&& (31 : Int32))) &&& (1 : Int32)))), (0, .int x0)]) hx hb dX4_bits_18 hl (k := 1) rfl rfl (by decide) rfl (fun ls hl => ?_)
        refine lv_goto (tgt := 4) hx hb dX4_bits_21 (by decide) ?_
        exact ih (x1 + ((x0 >>> (x2 &&& (31 : Int32))) &&& (1 : Int32))) (x2 + (1 : Int32)) _ hw hk H locs ls hP hD hS (lv_sub hl [0, 1, 2] rfl)
  have hl := lv_entry ([.int p0]) (n := 3) (Nat.le_of_ble_eq_true rfl)
  rw [lg_entry_eq]
  generalize (lg_sl ([.int p0]) ++ List.replicate (3 - (lg_sl ([.int p0])).length) Slot.unset).toArray = ls at hl ⊢
  have hl : lv_has ls 3 [(0, .int p0)] := hl
  unfold wp_X4_bits at hw
  skip
  obtain ⟨H, hH⟩ : ∃ H, H = s.heap := ⟨_, rfl⟩
  obtain ⟨locs, hlo⟩ : ∃ q : List Loc, q = [] := ⟨_, rfl⟩
  rw [← hH] at hP
  have hS : va_S A s.heap H locs := by rw [hH, hlo]; exact hS
  suffices hgo : W p l e (headSpec wsX4_bits ({ frames := 0, cells := 0, slots := 0, locals := 0 } : Room)).room s m _ below meth c H locs 0 0 _ (F0 m 0 ls []) by rw [hH, hlo] at hgo; exact hgo
  refine lv_iconst (v := (0 : Int32)) hx hb dX4_bits_0 (by decide) ?_
  refine lv_istore_n (lv' := [(1, .int (0 : Int32)), (0, .int p0)]) hx hb dX4_bits_1 rfl hl (by decide) rfl (fun ls hl => ?_)
  refine lv_iconst (v := (0 : Int32)) hx hb dX4_bits_2 (by decide) ?_
  refine lv_istore_n (lv' := [(2, .int (0 : Int32)), (1, .int (0 : Int32)), (0, .int p0)]) hx hb dX4_bits_3 rfl hl (by decide) rfl (fun ls hl => ?_)
  refine L4 p0 (20000) (0 : Int32) (0 : Int32) _ hw (fun x1_2 x2_3 hw H locs ls hP hD hS hl => ?_) H locs ls hP hD hS (lv_sub hl [0, 1, 2] rfl)
  refine lv_iload_n hx hb dX4_bits_24 rfl (lv_at hl 1 rfl) ?_
  exact W.iret (v := x1_2) hx hb hr (fun t ht hW => ⟨⟨x1_2, ([] : va_W), rfl, ⟨hw, rfl⟩, by rw [ht]; exact hP, va_K.moved hW.alike hK, hD⟩, hS.F ht⟩) hS.2.2 dX4_bits_25
set_option maxHeartbeats 4000000 in
set_option maxRecDepth 100000 in
theorem c_X4_queued (l : Launch) (dC : Nat → ClassId) (dI : Nat → Nat → Nat)   (p0 : Int32) (p1 : Int32) (p2 : Int32) (post : Int32 → Prop) (hw : wp_X4_queued p0 p1 p2  post) : KI l yX4_queued wsX4_queued ({ frames := 0, cells := 0, slots := 0, locals := 0 } : Room) (dC, dI) [] [] [.int p0, .int p1, .int p2] (fun r u => post r ∧ u = []) := by
  intro sz
  refine Met.ofW (cc := cX4_queued) (maxL := 7) (ret := (some .int)) (by decide) rfl ?_
  intro p e s m args below meth c s₁ B hml hv
  obtain ⟨rfl, hsz, hP, hK, hD0, hnw⟩ := hv
  have hx := B.exec
  have hb := B.bytes
  have hr := B.returns
  have hts := atoms_spec (ws := wsX4_queued) B.pre
  have hown : s.vm.findClass RX4 = some m.cls := findClass_of_methodNamed B.named
  have hlocks := B.notSynchronized
  subst hsz
  have hD := hD0.self (sz := s.heap.size)
  generalize hAe : va_A [] s.heap.size = A at hD ⊢
  have hA : ∀ q : Nat, s.heap.size ≤ q → A q := fun q h => by rw [← hAe]; exact Or.inr h
  have hS : va_S A s.heap s.heap [] := va_S.rf
  have hP : va_P (dC, dI) vwCl [] s.heap := hP
  have hD : va_D A [] := hD
  have L25 : ∀ (x0 : Int32) (x1 : Int32) (x2 : Int32) (x3 : Int32) (x4 : Int32)  (n : Nat) (x5 : Int32)  (k : Int32 → Prop), wl_X4_queued_25 x0 x1 x2 x3 x4  n x5 k →
      (∀ (x5 : Int32) , k x5 → ∀ (H : Heap) (locs : List Loc) (ls : Array Slot), va_P (dC, dI) vwCl [] H → va_D A [] → va_S A s.heap H locs → lv_has ls 7 [(5, .int x5), (4, .int x4), (3, .int x3), (0, .int x0), (1, .int x1), (2, .int x2)] → W p l e (headSpec wsX4_queued ({ frames := 0, cells := 0, slots := 0, locals := 0 } : Room)).room s m ([.int p0, .int p1, .int p2] : List Value).toArray below meth c H locs 0 0 (MQ below (va_Qi (fun r u => post r ∧ u = []) (kB (dC, dI) [] A) A) ([.int p0, .int p1, .int p2] : List Value).toArray s 0 0 A) (F0 m 58 ls [])) →
      ∀ (H : Heap) (locs : List Loc) (ls : Array Slot), va_P (dC, dI) vwCl [] H → va_D A [] → va_S A s.heap H locs → lv_has ls 7 [(5, .int x5), (4, .int x4), (3, .int x3), (0, .int x0), (1, .int x1), (2, .int x2)] → W p l e (headSpec wsX4_queued ({ frames := 0, cells := 0, slots := 0, locals := 0 } : Room)).room s m ([.int p0, .int p1, .int p2] : List Value).toArray below meth c H locs 0 0 (MQ below (va_Qi (fun r u => post r ∧ u = []) (kB (dC, dI) [] A) A) ([.int p0, .int p1, .int p2] : List Value).toArray s 0 0 A) (F0 m 25 ls []) := by
    intro x0 x1 x2 x3 x4 n
    induction n with
    | zero => intro x5 k hw; exact absurd hw id
    | succ n ih =>
      intro x5 k hw hk H locs ls hP hD hS hl
      unfold wl_X4_queued_25 at hw
      refine lv_iload_n hx hb dX4_queued_25 rfl (lv_at hl 5 rfl) ?_
      refine lv_iload_n hx hb dX4_queued_26 rfl (lv_at hl 2 rfl) ?_
      refine lv_iconst (v := (-1 : Int32)) hx hb dX4_queued_27 (by decide) ?_
      refine lv_ixor hx hb dX4_queued_28 ?_
      refine lv_iand hx hb dX4_queued_29 ?_
      refine lv_iload hx hb dX4_queued_30 (lv_at hl 0 rfl) ?_
      refine lv_ishr hx hb dX4_queued_32 ?_
      refine lv_iconst (v := (1 : Int32)) hx hb dX4_queued_33 (by decide) ?_
      refine lv_iand hx hb dX4_queued_34 ?_
      refine lv_if_ne (tgt := 58) hx hb dX4_queued_35 (by decide) (fun c3 => ?_) (fun c3 => ?_)
      · have hw := hw.1 c3
        exact hk x5 hw H locs ls hP hD hS (lv_sub hl [0, 1, 2, 3, 4, 5] rfl)
      · have hw := hw.2 c3
        refine lv_iload hx hb dX4_queued_38 (lv_at hl 0 rfl) ?_
        refine lv_if_ne (tgt := 49) hx hb dX4_queued_40 (by decide) (fun c4 => ?_) (fun c4 => ?_)
        · have hw := hw.1 c4
          refine lv_iload hx hb dX4_queued_49 (lv_at hl 0 rfl) ?_
          refine lv_iconst (v := (1 : Int32)) hx hb dX4_queued_51 (by decide) ?_
          refine lv_isub hx hb dX4_queued_52 ?_
          refine lv_istore (lv' := [(5, .int (x5 - (1 : Int32))), (4, .int x4), (3, .int x3), (0, .int x0), (1, .int x1), (2, .int x2)]) hx hb dX4_queued_53 hl (by decide) rfl (fun ls hl => ?_)
          refine lv_goto (tgt := 25) hx hb dX4_queued_55 (by decide) ?_
          exact ih (x5 - (1 : Int32)) _ hw hk H locs ls hP hD hS (lv_sub hl [0, 1, 2, 3, 4, 5] rfl)
        · have hw := hw.2 c4
          refine lv_iload_n hx hb dX4_queued_43 rfl (lv_at hl 3 rfl) ?_
          refine lv_iconst (v := (1 : Int32)) hx hb dX4_queued_44 (by decide) ?_
          refine lv_isub hx hb dX4_queued_45 ?_
          refine lv_goto (tgt := 53) hx hb dX4_queued_46 (by decide) ?_
          refine lv_istore (lv' := [(5, .int (x0 - (1 : Int32))), (4, .int x4), (3, .int x3), (0, .int x0), (1, .int x1), (2, .int x2)]) hx hb dX4_queued_53 hl (by decide) rfl (fun ls hl => ?_)
          refine lv_goto (tgt := 25) hx hb dX4_queued_55 (by decide) ?_
          exact ih (x0 - (1 : Int32)) _ hw hk H locs ls hP hD hS (lv_sub hl [0, 1, 2, 3, 4, 5] rfl)
  have L5 : ∀ (x0 : Int32) (x1 : Int32) (x2 : Int32)  (n : Nat) (x3 : Int32) (x4 : Int32)  (k : Int32 → Int32 → Prop), wl_X4_queued_5 x0 x1 x2  n x3 x4 k →
      (∀ (x3 : Int32) (x4 : Int32) , k x3 x4 → ∀ (H : Heap) (locs : List Loc) (ls : Array Slot), va_P (dC, dI) vwCl [] H → va_D A [] → va_S A s.heap H locs → lv_has ls 7 [(4, .int x4), (3, .int x3), (0, .int x0), (1, .int x1), (2, .int x2)] → W p l e (headSpec wsX4_queued ({ frames := 0, cells := 0, slots := 0, locals := 0 } : Room)).room s m ([.int p0, .int p1, .int p2] : List Value).toArray below meth c H locs 0 0 (MQ below (va_Qi (fun r u => post r ∧ u = []) (kB (dC, dI) [] A) A) ([.int p0, .int p1, .int p2] : List Value).toArray s 0 0 A) (F0 m 71 ls [])) →
      ∀ (H : Heap) (locs : List Loc) (ls : Array Slot), va_P (dC, dI) vwCl [] H → va_D A [] → va_S A s.heap H locs → lv_has ls 7 [(4, .int x4), (3, .int x3), (0, .int x0), (1, .int x1), (2, .int x2)] → W p l e (headSpec wsX4_queued ({ frames := 0, cells := 0, slots := 0, locals := 0 } : Room)).room s m ([.int p0, .int p1, .int p2] : List Value).toArray below meth c H locs 0 0 (MQ below (va_Qi (fun r u => post r ∧ u = []) (kB (dC, dI) [] A) A) ([.int p0, .int p1, .int p2] : List Value).toArray s 0 0 A) (F0 m 5 ls []) := by
    intro x0 x1 x2 n
    induction n with
    | zero => intro x3 x4 k hw; exact absurd hw id
    | succ n ih =>
      intro x3 x4 k hw hk H locs ls hP hD hS hl
      unfold wl_X4_queued_5 at hw
      refine lv_iload hx hb dX4_queued_5 (lv_at hl 0 rfl) ?_
      refine lv_iload_n hx hb dX4_queued_7 rfl (lv_at hl 2 rfl) ?_
      refine lv_icmp_ge (tgt := 71) hx hb dX4_queued_8 (by decide) (fun c1 => ?_) (fun c1 => ?_)
      · have hw := hw.1 c1
        exact hk x3 x4 hw H locs ls hP hD hS (lv_sub hl [0, 1, 2, 3, 4] rfl)
      · have hw := hw.2 c1
        refine lv_iload_n hx hb dX4_queued_11 rfl (lv_at hl 3 rfl) ?_
        refine lv_iload hx hb dX4_queued_12 (lv_at hl 0 rfl) ?_
        refine lv_ishr hx hb dX4_queued_14 ?_
        refine lv_iconst (v := (1 : Int32)) hx hb dX4_queued_15 (by decide) ?_
        refine lv_iand hx hb dX4_queued_16 ?_
        refine lv_iconst (v := (1 : Int32)) hx hb dX4_queued_17 (by decide) ?_
        refine lv_icmp_ne (tgt := 65) hx hb dX4_queued_18 (by decide) (fun c2 => ?_) (fun c2 => ?_)
        · have hw := hw.1 c2
          refine lv_iinc (v := (x4 + (1 : Int32))) (lv' := [(4, .int (x4 + (1 : Int32))), (3, .int x3), (0, .int x0), (1, .int x1), (2, .int x2)]) hx hb dX4_queued_65 hl (k := 0) rfl rfl (by decide) rfl (fun ls hl => ?_)
          refine lv_goto (tgt := 5) hx hb dX4_queued_68 (by decide) ?_
          exact ih x3 (x4 + (1 : Int32)) _ hw hk H locs ls hP hD hS (lv_sub hl [0, 1, 2, 3, 4] rfl)
        · have hw := hw.2 c2
          refine lv_iload hx hb dX4_queued_21 (lv_at hl 0 rfl) ?_
          refine lv_istore (lv' := [(5, .int x4), (4, .int x4), (3, .int x3), (0, .int x0), (1, .int x1), (2, .int x2)]) hx hb dX4_queued_23 hl (by decide) rfl (fun ls hl => ?_)
          refine L25 x0 x1 x2 x3 x4 (20000) x4 _ hw (fun x5_5 hw H locs ls hP hD hS hl => ?_) H locs ls hP hD hS (lv_sub hl [0, 1, 2, 3, 4, 5] rfl)
          refine lv_iload_n hx hb dX4_queued_58 rfl (lv_at hl 2 rfl) ?_
          refine lv_iconst (v := (1 : Int32)) hx hb dX4_queued_59 (by decide) ?_
          refine lv_iload hx hb dX4_queued_60 (lv_at hl 0 rfl) ?_
          refine lv_ishl hx hb dX4_queued_62 ?_
          refine lv_ior hx hb dX4_queued_63 ?_
          refine lv_istore_n (lv' := [(3, .int (x3 ||| ((1 : Int32) <<< (x5_5 &&& (31 : Int32))))), (5, .int x5_5), (4, .int x4), (0, .int x0), (1, .int x1), (2, .int x2)]) hx hb dX4_queued_64 rfl hl (by decide) rfl (fun ls hl => ?_)
          refine lv_iinc (v := (x4 + (1 : Int32))) (lv' := [(4, .int (x4 + (1 : Int32))), (3, .int (x3 ||| ((1 : Int32) <<< (x5_5 &&& (31 : Int32))))), (5, .int x5_5), (0, .int x0), (1, .int x1), (2, .int x2)]) hx hb dX4_queued_65 hl (k := 2) rfl rfl (by decide) rfl (fun ls hl => ?_)
          refine lv_goto (tgt := 5) hx hb dX4_queued_68 (by decide) ?_
          exact ih (x3 ||| ((1 : Int32) <<< (x5_5 &&& (31 : Int32)))) (x4 + (1 : Int32)) _ hw hk H locs ls hP hD hS (lv_sub hl [0, 1, 3, 4, 5] rfl)
  have L80 : ∀ (x0 : Int32) (x1 : Int32) (x2 : Int32) (x3 : Int32)  (n : Nat) (x4 : Int32) (x5 : Int32) (x6 : Int32)  (k : Int32 → Int32 → Int32 → Prop), wl_X4_queued_80 x0 x1 x2 x3  n x4 x5 x6 k →
      (∀ (x4 : Int32) (x5 : Int32) (x6 : Int32) , k x4 x5 x6 → ∀ (H : Heap) (locs : List Loc) (ls : Array Slot), va_P (dC, dI) vwCl [] H → va_D A [] → va_S A s.heap H locs → lv_has ls 7 [(6, .int x6), (5, .int x5), (4, .int x4), (3, .int x3), (0, .int x0), (1, .int x1), (2, .int x2)] → W p l e (headSpec wsX4_queued ({ frames := 0, cells := 0, slots := 0, locals := 0 } : Room)).room s m ([.int p0, .int p1, .int p2] : List Value).toArray below meth c H locs 0 0 (MQ below (va_Qi (fun r u => post r ∧ u = []) (kB (dC, dI) [] A) A) ([.int p0, .int p1, .int p2] : List Value).toArray s 0 0 A) (F0 m 135 ls [])) →
      ∀ (H : Heap) (locs : List Loc) (ls : Array Slot), va_P (dC, dI) vwCl [] H → va_D A [] → va_S A s.heap H locs → lv_has ls 7 [(6, .int x6), (5, .int x5), (4, .int x4), (3, .int x3), (0, .int x0), (1, .int x1), (2, .int x2)] → W p l e (headSpec wsX4_queued ({ frames := 0, cells := 0, slots := 0, locals := 0 } : Room)).room s m ([.int p0, .int p1, .int p2] : List Value).toArray below meth c H locs 0 0 (MQ below (va_Qi (fun r u => post r ∧ u = []) (kB (dC, dI) [] A) A) ([.int p0, .int p1, .int p2] : List Value).toArray s 0 0 A) (F0 m 80 ls []) := by
    intro x0 x1 x2 x3 n
    induction n with
    | zero => intro x4 x5 x6 k hw; exact absurd hw id
    | succ n ih =>
      intro x4 x5 x6 k hw hk H locs ls hP hD hS hl
      unfold wl_X4_queued_80 at hw
      refine lv_iload hx hb dX4_queued_80 (lv_at hl 0 rfl) ?_
      refine lv_iload_n hx hb dX4_queued_82 rfl (lv_at hl 4 rfl) ?_
      refine lv_icmp_ge (tgt := 135) hx hb dX4_queued_83 (by decide) (fun c10 => ?_) (fun c10 => ?_)
      · have hw := hw.1 c10
        exact hk x4 x5 x6 hw H locs ls hP hD hS (lv_sub hl [0, 1, 2, 3, 4, 5, 6] rfl)
      · have hw := hw.2 c10
        refine lv_iload hx hb dX4_queued_86 (lv_at hl 2 rfl) ?_
        refine lv_iload hx hb dX4_queued_88 (lv_at hl 1 rfl) ?_
        refine lv_iload_n hx hb dX4_queued_90 rfl (lv_at hl 3 rfl) ?_
        refine lv_iload hx hb dX4_queued_91 (lv_at hl 0 rfl) ?_
        refine lv_ishr hx hb dX4_queued_93 ?_
        refine lv_iconst (v := (1 : Int32)) hx hb dX4_queued_94 (by decide) ?_
        refine lv_iand hx hb dX4_queued_95 ?_
        refine lv_iconst (v := (1 : Int32)) hx hb dX4_queued_96 (by decide) ?_
        refine lv_icmp_ne (tgt := 104) hx hb dX4_queued_97 (by decide) (fun c11 => ?_) (fun c11 => ?_)
        · have hw := hw.1 c11
          refine lv_iload_n hx hb dX4_queued_104 rfl (lv_at hl 6 rfl) ?_
          refine lv_iload hx hb dX4_queued_105 (lv_at hl 0 rfl) ?_
          refine lv_ishr hx hb dX4_queued_107 ?_
          refine lv_iconst (v := (1 : Int32)) hx hb dX4_queued_108 (by decide) ?_
          refine lv_iand hx hb dX4_queued_109 ?_
          refine lv_iconst (v := (1 : Int32)) hx hb dX4_queued_110 (by decide) ?_
          refine lv_icmp_ne (tgt := 118) hx hb dX4_queued_111 (by decide) (fun c12 => ?_) (fun c12 => ?_)
          · have hw := hw.1 c12
            refine lv_iconst (v := (0 : Int32)) hx hb dX4_queued_118 (by decide) ?_
            refine lv_imul hx hb dX4_queued_119 ?_
            refine lv_iadd hx hb dX4_queued_120 ?_
            refine lv_istore (lv' := [(4, .int (x4 + (x5 * (0 : Int32)))), (6, .int x6), (5, .int x5), (3, .int x3), (0, .int x0), (1, .int x1), (2, .int x2)]) hx hb dX4_queued_121 hl (by decide) rfl (fun ls hl => ?_)
            refine lv_iload hx hb dX4_queued_123 (lv_at hl 2 rfl) ?_
            refine lv_iconst (v := (3 : Int32)) hx hb dX4_queued_125 (by decide) ?_
            refine lv_imul hx hb dX4_queued_126 ?_
            refine lv_istore (lv' := [(5, .int (x5 * (3 : Int32))), (4, .int (x4 + (x5 * (0 : Int32)))), (6, .int x6), (3, .int x3), (0, .int x0), (1, .int x1), (2, .int x2)]) hx hb dX4_queued_127 hl (by decide) rfl (fun ls hl => ?_)
            refine lv_iinc (v := (x6 + (1 : Int32))) (lv' := [(6, .int (x6 + (1 : Int32))), (5, .int (x5 * (3 : Int32))), (4, .int (x4 + (x5 * (0 : Int32)))), (3, .int x3), (0, .int x0), (1, .int x1), (2, .int x2)]) hx hb dX4_queued_129 hl (k := 2) rfl rfl (by decide) rfl (fun ls hl => ?_)
            refine lv_goto (tgt := 80) hx hb dX4_queued_132 (by decide) ?_
            exact ih (x4 + (x5 * (0 : Int32))) (x5 * (3 : Int32)) (x6 + (1 : Int32)) _ hw hk H locs ls hP hD hS (lv_sub hl [0, 1, 2, 3, 4, 5, 6] rfl)
          · have hw := hw.2 c12
            refine lv_iconst (v := (2 : Int32)) hx hb dX4_queued_114 (by decide) ?_
            refine lv_goto (tgt := 119) hx hb dX4_queued_115 (by decide) ?_
            refine lv_imul hx hb dX4_queued_119 ?_
            refine lv_iadd hx hb dX4_queued_120 ?_
            refine lv_istore (lv' := [(4, .int (x4 + (x5 * (2 : Int32)))), (6, .int x6), (5, .int x5), (3, .int x3), (0, .int x0), (1, .int x1), (2, .int x2)]) hx hb dX4_queued_121 hl (by decide) rfl (fun ls hl => ?_)
            refine lv_iload hx hb dX4_queued_123 (lv_at hl 2 rfl) ?_
            refine lv_iconst (v := (3 : Int32)) hx hb dX4_queued_125 (by decide) ?_
            refine lv_imul hx hb dX4_queued_126 ?_
            refine lv_istore (lv' := [(5, .int (x5 * (3 : Int32))), (4, .int (x4 + (x5 * (2 : Int32)))), (6, .int x6), (3, .int x3), (0, .int x0), (1, .int x1), (2, .int x2)]) hx hb dX4_queued_127 hl (by decide) rfl (fun ls hl => ?_)
            refine lv_iinc (v := (x6 + (1 : Int32))) (lv' := [(6, .int (x6 + (1 : Int32))), (5, .int (x5 * (3 : Int32))), (4, .int (x4 + (x5 * (2 : Int32)))), (3, .int x3), (0, .int x0), (1, .int x1), (2, .int x2)]) hx hb dX4_queued_129 hl (k := 2) rfl rfl (by decide) rfl (fun ls hl => ?_)
            refine lv_goto (tgt := 80) hx hb dX4_queued_132 (by decide) ?_
            exact ih (x4 + (x5 * (2 : Int32))) (x5 * (3 : Int32)) (x6 + (1 : Int32)) _ hw hk H locs ls hP hD hS (lv_sub hl [0, 1, 2, 3, 4, 5, 6] rfl)
        · have hw := hw.2 c11
          refine lv_iconst (v := (1 : Int32)) hx hb dX4_queued_100 (by decide) ?_
          refine lv_goto (tgt := 119) hx hb dX4_queued_101 (by decide) ?_
          refine lv_imul hx hb dX4_queued_119 ?_
          refine lv_iadd hx hb dX4_queued_120 ?_
          refine lv_istore (lv' := [(4, .int (x4 + (x5 * (1 : Int32)))), (6, .int x6), (5, .int x5), (3, .int x3), (0, .int x0), (1, .int x1), (2, .int x2)]) hx hb dX4_queued_121 hl (by decide) rfl (fun ls hl => ?_)
          refine lv_iload hx hb dX4_queued_123 (lv_at hl 2 rfl) ?_
          refine lv_iconst (v := (3 : Int32)) hx hb dX4_queued_125 (by decide) ?_
          refine lv_imul hx hb dX4_queued_126 ?_
          refine lv_istore (lv' := [(5, .int (x5 * (3 : Int32))), (4, .int (x4 + (x5 * (1 : Int32)))), (6, .int x6), (3, .int x3), (0, .int x0), (1, .int x1), (2, .int x2)]) hx hb dX4_queued_127 hl (by decide) rfl (fun ls hl => ?_)
          refine lv_iinc (v := (x6 + (1 : Int32))) (lv' := [(6, .int (x6 + (1 : Int32))), (5, .int (x5 * (3 : Int32))), (4, .int (x4 + (x5 * (1 : Int32)))), (3, .int x3), (0, .int x0), (1, .int x1), (2, .int x2)]) hx hb dX4_queued_129 hl (k := 2) rfl rfl (by decide) rfl (fun ls hl => ?_)
          refine lv_goto (tgt := 80) hx hb dX4_queued_132 (by decide) ?_
          exact ih (x4 + (x5 * (1 : Int32))) (x5 * (3 : Int32)) (x6 + (1 : Int32)) _ hw hk H locs ls hP hD hS (lv_sub hl [0, 1, 2, 3, 4, 5, 6] rfl)
  have hl := lv_entry ([.int p0, .int p1, .int p2]) (n := 7) (Nat.le_of_ble_eq_true rfl)
  rw [lg_entry_eq]
  generalize (lg_sl ([.int p0, .int p1, .int p2]) ++ List.replicate (7 - (lg_sl ([.int p0, .int p1, .int p2])).length) Slot.unset).toArray = ls at hl ⊢
  have hl : lv_has ls 7 [(0, .int p0), (1, .int p1), (2, .int p2)] := hl
  unfold wp_X4_queued at hw
  skip
  obtain ⟨H, hH⟩ : ∃ H, H = s.heap := ⟨_, rfl⟩
  obtain ⟨locs, hlo⟩ : ∃ q : List Loc, q = [] := ⟨_, rfl⟩
  rw [← hH] at hP
  have hS : va_S A s.heap H locs := by rw [hH, hlo]; exact hS
  suffices hgo : W p l e (headSpec wsX4_queued ({ frames := 0, cells := 0, slots := 0, locals := 0 } : Room)).room s m _ below meth c H locs 0 0 _ (F0 m 0 ls []) by rw [hH, hlo] at hgo; exact hgo
  refine lv_iconst (v := (0 : Int32)) hx hb dX4_queued_0 (by decide) ?_
  refine lv_istore_n (lv' := [(3, .int (0 : Int32)), (0, .int p0), (1, .int p1), (2, .int p2)]) hx hb dX4_queued_1 rfl hl (by decide) rfl (fun ls hl => ?_)
  refine lv_iconst (v := (0 : Int32)) hx hb dX4_queued_2 (by decide) ?_
  refine lv_istore (lv' := [(4, .int (0 : Int32)), (3, .int (0 : Int32)), (0, .int p0), (1, .int p1), (2, .int p2)]) hx hb dX4_queued_3 hl (by decide) rfl (fun ls hl => ?_)
  refine L5 p0 p1 p2 (20000) (0 : Int32) (0 : Int32) _ hw (fun x3_7 x4_8 hw H locs ls hP hD hS hl => ?_) H locs ls hP hD hS (lv_sub hl [0, 1, 2, 3, 4] rfl)
  refine lv_iconst (v := (0 : Int32)) hx hb dX4_queued_71 (by decide) ?_
  refine lv_istore (lv' := [(4, .int (0 : Int32)), (3, .int x3_7), (0, .int p0), (1, .int p1), (2, .int p2)]) hx hb dX4_queued_72 hl (by decide) rfl (fun ls hl => ?_)
  refine lv_iconst (v := (1 : Int32)) hx hb dX4_queued_74 (by decide) ?_
  refine lv_istore (lv' := [(5, .int (1 : Int32)), (4, .int (0 : Int32)), (3, .int x3_7), (0, .int p0), (1, .int p1), (2, .int p2)]) hx hb dX4_queued_75 hl (by decide) rfl (fun ls hl => ?_)
  refine lv_iconst (v := (0 : Int32)) hx hb dX4_queued_77 (by decide) ?_
  refine lv_istore (lv' := [(6, .int (0 : Int32)), (5, .int (1 : Int32)), (4, .int (0 : Int32)), (3, .int x3_7), (0, .int p0), (1, .int p1), (2, .int p2)]) hx hb dX4_queued_78 hl (by decide) rfl (fun ls hl => ?_)
  refine L80 p0 p1 p2 x3_7 (20000) (0 : Int32) (1 : Int32) (0 : Int32) _ hw (fun x4_13 x5_14 x6_15 hw H locs ls hP hD hS hl => ?_) H locs ls hP hD hS (lv_sub hl [0, 1, 2, 3, 4, 5, 6] rfl)
  refine lv_iload hx hb dX4_queued_135 (lv_at hl 2 rfl) ?_
  exact W.iret (v := x4_13) hx hb hr (fun t ht hW => ⟨⟨x4_13, ([] : va_W), rfl, ⟨hw, rfl⟩, by rw [ht]; exact hP, va_K.moved hW.alike hK, hD⟩, hS.F ht⟩) hS.2.2 dX4_queued_137
