set_option maxHeartbeats 4000000 in
set_option maxRecDepth 100000 in
theorem c_X2_comeToFirstPlace (l : Launch) (dC : Nat → ClassId) (dI : Nat → Nat → Nat) (h0 : Nat)  (σ : SS)  (post : Int32 → SS → Prop) (hw : wp_X2_comeToFirstPlace  σ post) : KI l yX2_comeToFirstPlace wsX2_comeToFirstPlace ({ frames := 2, cells := 0, slots := 0, locals := 42 } : Room) (dC, dI) [] (cl2 h0 σ) [.ref h0] (fun r u => ∃ σ', post r σ' ∧ u = (cl2 h0 (σ'))) := by
  intro sz
  refine Met.ofW (cc := cX2_comeToFirstPlace) (maxL := 2) (ret := (some .boolean)) (by decide) rfl ?_
  intro p e s m args below meth c s₁ B hml hv
  obtain ⟨rfl, hsz, hP, hK, hD0, hnw⟩ := hv
  have hx := B.exec
  have hb := B.bytes
  have hr := B.returns
  have hts := atoms_spec (ws := wsX2_comeToFirstPlace) B.pre
  have hown : s.vm.findClass RX2 = some m.cls := findClass_of_methodNamed B.named
  have hlocks := B.notSynchronized
  subst hsz
  have hD := hD0.self (sz := s.heap.size)
  generalize hAe : va_A (cl2 h0 σ) s.heap.size = A at hD ⊢
  have hA : ∀ q : Nat, s.heap.size ≤ q → A q := fun q h => by rw [← hAe]; exact Or.inr h
  have hS : va_S A s.heap s.heap [] := va_S.rf
  have hP : va_P (dC, dI) vwCl [(h0, .inr (1, [.int σ.1, .int σ.2.1, .int σ.2.2.1, .int σ.2.2.2.1, .int σ.2.2.2.2.1, .int σ.2.2.2.2.2.1, .int σ.2.2.2.2.2.2.1, .int σ.2.2.2.2.2.2.2]))] s.heap := hP
  have hD : va_D A [(h0, .inr (1, [.int σ.1, .int σ.2.1, .int σ.2.2.1, .int σ.2.2.2.1, .int σ.2.2.2.2.1, .int σ.2.2.2.2.2.1, .int σ.2.2.2.2.2.2.1, .int σ.2.2.2.2.2.2.2]))] := hD
  have fl_28 := hts (.fieldLink RX2 28 "OnePlaceEach$Stepped" "comeIn" "I") (by decide +kernel)
  have fl_31 := hts (.fieldLink RX2 31 "OnePlaceEach$Stepped" "goneOut" "I") (by decide +kernel)
  have hin0 : ∀ w ∈ wsX20, w ∈ wsX2_comeToFirstPlace := by decide +kernel
  have hl := lv_entry ([.ref h0]) (n := 2) (Nat.le_of_ble_eq_true rfl)
  rw [lg_entry_eq]
  generalize (lg_sl ([.ref h0]) ++ List.replicate (2 - (lg_sl ([.ref h0])).length) Slot.unset).toArray = ls at hl ⊢
  have hl : lv_has ls 2 [(0, .ref h0)] := hl
  unfold wp_X2_comeToFirstPlace at hw
  skip
  obtain ⟨H, hH⟩ : ∃ H, H = s.heap := ⟨_, rfl⟩
  obtain ⟨locs, hlo⟩ : ∃ q : List Loc, q = [] := ⟨_, rfl⟩
  rw [← hH] at hP
  have hS : va_S A s.heap H locs := by rw [hH, hlo]; exact hS
  suffices hgo : W p l e (headSpec wsX2_comeToFirstPlace ({ frames := 2, cells := 0, slots := 0, locals := 42 } : Room)).room s m _ below meth c H locs 0 0 _ (F0 m 0 ls []) by rw [hH, hlo] at hgo; exact hgo
  refine lv_aload_n hx hb dX2_comeToFirstPlace_0 rfl (lv_at hl 0 rfl) ?_
  refine lv_iconst (v := (0 : Int32)) hx hb dX2_comeToFirstPlace_1 (by decide) ?_
  have hPc := hP
  have hDc := hD
  have hKc := hK
  have hFc := va_free (wc := [(h0, .inr (1, [.int σ.1, .int σ.2.1, .int σ.2.2.1, .int σ.2.2.2.1, .int σ.2.2.2.2.1, .int σ.2.2.2.2.2.1, .int σ.2.2.2.2.2.2.1, .int σ.2.2.2.2.2.2.2]))]) hD hS hA [0] rfl
  refine kc_i (wr := ([] : va_W)) (kr_V (As := [.int (0 : Int32)]) (rest := []) (b := h0) (ws := [(h0, .inr (1, [.int σ.1, .int σ.2.1, .int σ.2.2.1, .int σ.2.2.2.1, .int σ.2.2.2.2.1, .int σ.2.2.2.2.2.1, .int σ.2.2.2.2.2.2.1, .int σ.2.2.2.2.2.2.2]))]) ⟨hx, hb, hml, hown, hts⟩ (c_X2_sortAt l dC dI h0 σ (0 : Int32) _ hw H.size) (cwV 1 hts gX2_comeToFirstPlace_X2_sortAt rfl rfl rfl (by decide +kernel) ⟨Nat.le_of_ble_eq_true rfl, Nat.le_of_ble_eq_true rfl⟩) 1 0 hK rfl rfl rfl hKc hnw hP hD hPc hDc rfl hl.1 rfl (Nat.le_of_ble_eq_true rfl) dX2_comeToFirstPlace_2 ⟨Nat.zero_le _, Nat.zero_le _⟩) hP hD hS hFc [0] [] rfl rfl (by decide) (by decide) (fun r1 u1 H locs hq hP hD hS => ?_)
  obtain ⟨hw, rfl⟩ := hq
  have hP : va_P (dC, dI) vwCl [(h0, .inr (1, [.int σ.1, .int σ.2.1, .int σ.2.2.1, .int σ.2.2.2.1, .int σ.2.2.2.2.1, .int σ.2.2.2.2.2.1, .int σ.2.2.2.2.2.2.1, .int σ.2.2.2.2.2.2.2]))] H := hP
  have hD : va_D A [(h0, .inr (1, [.int σ.1, .int σ.2.1, .int σ.2.2.1, .int σ.2.2.2.1, .int σ.2.2.2.2.1, .int σ.2.2.2.2.2.1, .int σ.2.2.2.2.2.2.1, .int σ.2.2.2.2.2.2.2]))] := hD
  refine lv_istore_n (lv' := [(1, .int r1), (0, .ref h0)]) hx hb dX2_comeToFirstPlace_5 rfl hl (by decide) rfl (fun ls hl => ?_)
  refine lv_iload_n hx hb dX2_comeToFirstPlace_6 rfl (lv_at hl 0 rfl) ?_
  refine lv_iconst (v := (1 : Int32)) hx hb dX2_comeToFirstPlace_7 (by decide) ?_
  refine lv_icmp_ne (tgt := 13) hx hb dX2_comeToFirstPlace_8 (by decide) (fun c3 => ?_) (fun c3 => ?_)
  · have hw := hw.1 c3
    refine lv_iload_n hx hb dX2_comeToFirstPlace_13 rfl (lv_at hl 0 rfl) ?_
    refine lv_iconst (v := (2 : Int32)) hx hb dX2_comeToFirstPlace_14 (by decide) ?_
    refine lv_icmp_ne (tgt := 28) hx hb dX2_comeToFirstPlace_15 (by decide) (fun c4 => ?_) (fun c4 => ?_)
    · have hw := hw.1 c4
      refine lv_aload_n hx hb dX2_comeToFirstPlace_28 rfl (lv_at hl 1 rfl) ?_
      refine lv_iconst (v := (0 : Int32)) hx hb dX2_comeToFirstPlace_29 (by decide) ?_
      refine lv_iconst (v := (1 : Int32)) hx hb dX2_comeToFirstPlace_30 (by decide) ?_
      have hPc := hP
      have hDc := hD
      have hKc := hK
      have hFc := va_free (wc := [(h0, .inr (1, [.int σ.1, .int σ.2.1, .int σ.2.2.1, .int σ.2.2.2.1, .int σ.2.2.2.2.1, .int σ.2.2.2.2.2.1, .int σ.2.2.2.2.2.2.1, .int σ.2.2.2.2.2.2.2]))]) hD hS hA [0] rfl
      refine kc_v (wr := ([] : va_W)) (kr_V (As := [.int (0 : Int32), .int (1 : Int32)]) (rest := []) (b := h0) (ws := [(h0, .inr (1, [.int σ.1, .int σ.2.1, .int σ.2.2.1, .int σ.2.2.2.1, .int σ.2.2.2.2.1, .int σ.2.2.2.2.2.1, .int σ.2.2.2.2.2.2.1, .int σ.2.2.2.2.2.2.2]))]) ⟨hx, hb, hml, hown, hts⟩ (c_X2_put l dC dI h0 σ (0 : Int32) (1 : Int32) _ hw H.size) (cwV 2 hts gX2_comeToFirstPlace_X2_put rfl rfl rfl (by decide +kernel) ⟨Nat.le_of_ble_eq_true rfl, Nat.le_of_ble_eq_true rfl⟩) 1 0 hK rfl rfl rfl hKc hnw hP hD hPc hDc rfl hl.1 rfl (Nat.le_of_ble_eq_true rfl) dX2_comeToFirstPlace_31 ⟨Nat.zero_le _, Nat.zero_le _⟩) hP hD hS hFc [0] [] rfl rfl (by decide) (by decide) (fun u1 H locs hq hP hD hS => ?_)
      obtain ⟨σ6, hw, rfl⟩ := hq
      have hP : va_P (dC, dI) vwCl [(h0, .inr (1, [.int σ6.1, .int σ6.2.1, .int σ6.2.2.1, .int σ6.2.2.2.1, .int σ6.2.2.2.2.1, .int σ6.2.2.2.2.2.1, .int σ6.2.2.2.2.2.2.1, .int σ6.2.2.2.2.2.2.2]))] H := hP
      have hD : va_D A [(h0, .inr (1, [.int σ6.1, .int σ6.2.1, .int σ6.2.2.1, .int σ6.2.2.2.1, .int σ6.2.2.2.2.1, .int σ6.2.2.2.2.2.1, .int σ6.2.2.2.2.2.2.1, .int σ6.2.2.2.2.2.2.2]))] := hD
      refine lv_aload_n hx hb dX2_comeToFirstPlace_34 rfl (lv_at hl 1 rfl) ?_
      refine lv_dup hx hb dX2_comeToFirstPlace_35 rfl ?_
      refine va_get (D := (dC, dI)) (ci := 1) (v := .int σ6.2.2.2.2.2.1) (C := RX2) (T := TX2) (N := 8) hx hb hts hin0 hown hK hP 0 rfl rfl 5 (by decide) fl_28 (fun _ h9 => h9) rfl dX2_comeToFirstPlace_36 ?_
      refine lv_iconst (v := (1 : Int32)) hx hb dX2_comeToFirstPlace_39 (by decide) ?_
      refine lv_iadd hx hb dX2_comeToFirstPlace_40 ?_
      refine va_put (D := (dC, dI)) (ci := 1) (v := .int (σ6.2.2.2.2.2.1 + (1 : Int32))) (ty := .int) (C := RX2) (T := TX2) (N := 8) hx hb hts hin0 tyX2 tyX2_ok nmX2 hown hK hP hD hS 0 rfl rfl 5 (by decide) fl_28 (fun _ h9 => h9) rfl (by decide +kernel) rfl rfl (Nat.le_of_ble_eq_true rfl) dX2_comeToFirstPlace_41 (fun H locs hP hD hS => ?_)
      have hP : va_P (dC, dI) vwCl [(h0, .inr (1, [.int σ6.1, .int σ6.2.1, .int σ6.2.2.1, .int σ6.2.2.2.1, .int σ6.2.2.2.2.1, .int (σ6.2.2.2.2.2.1 + (1 : Int32)), .int σ6.2.2.2.2.2.2.1, .int σ6.2.2.2.2.2.2.2]))] H := hP
      have hD : va_D A [(h0, .inr (1, [.int σ6.1, .int σ6.2.1, .int σ6.2.2.1, .int σ6.2.2.2.1, .int σ6.2.2.2.2.1, .int (σ6.2.2.2.2.2.1 + (1 : Int32)), .int σ6.2.2.2.2.2.2.1, .int σ6.2.2.2.2.2.2.2]))] := hD
      refine lv_iconst (v := (1 : Int32)) hx hb dX2_comeToFirstPlace_44 (by decide) ?_
      exact W.zret (v := (1 : Int32)) hx hb hr (nb_nar nb_1) (fun t ht hW => ⟨⟨(1 : Int32), ((cl2 h0 (σ6.1, σ6.2.1, σ6.2.2.1, σ6.2.2.2.1, σ6.2.2.2.2.1, (σ6.2.2.2.2.2.1 + (1 : Int32)), σ6.2.2.2.2.2.2.1, σ6.2.2.2.2.2.2.2))), rfl, ⟨(σ6.1, σ6.2.1, σ6.2.2.1, σ6.2.2.2.1, σ6.2.2.2.2.1, (σ6.2.2.2.2.2.1 + (1 : Int32)), σ6.2.2.2.2.2.2.1, σ6.2.2.2.2.2.2.2), hw, rfl⟩, by rw [ht]; exact hP, va_K.moved hW.alike hK, hD⟩, hS.F ht⟩) hS.2.2 dX2_comeToFirstPlace_45
    · have hw := hw.2 c4
      refine lv_aload_n hx hb dX2_comeToFirstPlace_18 rfl (lv_at hl 1 rfl) ?_
      refine lv_dup hx hb dX2_comeToFirstPlace_19 rfl ?_
      refine va_get (D := (dC, dI)) (ci := 1) (v := .int σ.2.2.2.2.2.2.1) (C := RX2) (T := TX2) (N := 8) hx hb hts hin0 hown hK hP 0 rfl rfl 6 (by decide) fl_31 (fun _ h9 => h9) rfl dX2_comeToFirstPlace_20 ?_
      refine lv_iconst (v := (1 : Int32)) hx hb dX2_comeToFirstPlace_23 (by decide) ?_
      refine lv_iadd hx hb dX2_comeToFirstPlace_24 ?_
      refine va_put (D := (dC, dI)) (ci := 1) (v := .int (σ.2.2.2.2.2.2.1 + (1 : Int32))) (ty := .int) (C := RX2) (T := TX2) (N := 8) hx hb hts hin0 tyX2 tyX2_ok nmX2 hown hK hP hD hS 0 rfl rfl 6 (by decide) fl_31 (fun _ h9 => h9) rfl (by decide +kernel) rfl rfl (Nat.le_of_ble_eq_true rfl) dX2_comeToFirstPlace_25 (fun H locs hP hD hS => ?_)
      have hP : va_P (dC, dI) vwCl [(h0, .inr (1, [.int σ.1, .int σ.2.1, .int σ.2.2.1, .int σ.2.2.2.1, .int σ.2.2.2.2.1, .int σ.2.2.2.2.2.1, .int (σ.2.2.2.2.2.2.1 + (1 : Int32)), .int σ.2.2.2.2.2.2.2]))] H := hP
      have hD : va_D A [(h0, .inr (1, [.int σ.1, .int σ.2.1, .int σ.2.2.1, .int σ.2.2.2.1, .int σ.2.2.2.2.1, .int σ.2.2.2.2.2.1, .int (σ.2.2.2.2.2.2.1 + (1 : Int32)), .int σ.2.2.2.2.2.2.2]))] := hD
      refine lv_aload_n hx hb dX2_comeToFirstPlace_28 rfl (lv_at hl 1 rfl) ?_
      refine lv_iconst (v := (0 : Int32)) hx hb dX2_comeToFirstPlace_29 (by decide) ?_
      refine lv_iconst (v := (1 : Int32)) hx hb dX2_comeToFirstPlace_30 (by decide) ?_
      have hPc := hP
      have hDc := hD
      have hKc := hK
      have hFc := va_free (wc := [(h0, .inr (1, [.int σ.1, .int σ.2.1, .int σ.2.2.1, .int σ.2.2.2.1, .int σ.2.2.2.2.1, .int σ.2.2.2.2.2.1, .int (σ.2.2.2.2.2.2.1 + (1 : Int32)), .int σ.2.2.2.2.2.2.2]))]) hD hS hA [0] rfl
      refine kc_v (wr := ([] : va_W)) (kr_V (As := [.int (0 : Int32), .int (1 : Int32)]) (rest := []) (b := h0) (ws := [(h0, .inr (1, [.int σ.1, .int σ.2.1, .int σ.2.2.1, .int σ.2.2.2.1, .int σ.2.2.2.2.1, .int σ.2.2.2.2.2.1, .int (σ.2.2.2.2.2.2.1 + (1 : Int32)), .int σ.2.2.2.2.2.2.2]))]) ⟨hx, hb, hml, hown, hts⟩ (c_X2_put l dC dI h0 (σ.1, σ.2.1, σ.2.2.1, σ.2.2.2.1, σ.2.2.2.2.1, σ.2.2.2.2.2.1, (σ.2.2.2.2.2.2.1 + (1 : Int32)), σ.2.2.2.2.2.2.2) (0 : Int32) (1 : Int32) _ hw H.size) (cwV 2 hts gX2_comeToFirstPlace_X2_put rfl rfl rfl (by decide +kernel) ⟨Nat.le_of_ble_eq_true rfl, Nat.le_of_ble_eq_true rfl⟩) 1 0 hK rfl rfl rfl hKc hnw hP hD hPc hDc rfl hl.1 rfl (Nat.le_of_ble_eq_true rfl) dX2_comeToFirstPlace_31 ⟨Nat.zero_le _, Nat.zero_le _⟩) hP hD hS hFc [0] [] rfl rfl (by decide) (by decide) (fun u1 H locs hq hP hD hS => ?_)
      obtain ⟨σ8, hw, rfl⟩ := hq
      have hP : va_P (dC, dI) vwCl [(h0, .inr (1, [.int σ8.1, .int σ8.2.1, .int σ8.2.2.1, .int σ8.2.2.2.1, .int σ8.2.2.2.2.1, .int σ8.2.2.2.2.2.1, .int σ8.2.2.2.2.2.2.1, .int σ8.2.2.2.2.2.2.2]))] H := hP
      have hD : va_D A [(h0, .inr (1, [.int σ8.1, .int σ8.2.1, .int σ8.2.2.1, .int σ8.2.2.2.1, .int σ8.2.2.2.2.1, .int σ8.2.2.2.2.2.1, .int σ8.2.2.2.2.2.2.1, .int σ8.2.2.2.2.2.2.2]))] := hD
      refine lv_aload_n hx hb dX2_comeToFirstPlace_34 rfl (lv_at hl 1 rfl) ?_
      refine lv_dup hx hb dX2_comeToFirstPlace_35 rfl ?_
      refine va_get (D := (dC, dI)) (ci := 1) (v := .int σ8.2.2.2.2.2.1) (C := RX2) (T := TX2) (N := 8) hx hb hts hin0 hown hK hP 0 rfl rfl 5 (by decide) fl_28 (fun _ h9 => h9) rfl dX2_comeToFirstPlace_36 ?_
      refine lv_iconst (v := (1 : Int32)) hx hb dX2_comeToFirstPlace_39 (by decide) ?_
      refine lv_iadd hx hb dX2_comeToFirstPlace_40 ?_
      refine va_put (D := (dC, dI)) (ci := 1) (v := .int (σ8.2.2.2.2.2.1 + (1 : Int32))) (ty := .int) (C := RX2) (T := TX2) (N := 8) hx hb hts hin0 tyX2 tyX2_ok nmX2 hown hK hP hD hS 0 rfl rfl 5 (by decide) fl_28 (fun _ h9 => h9) rfl (by decide +kernel) rfl rfl (Nat.le_of_ble_eq_true rfl) dX2_comeToFirstPlace_41 (fun H locs hP hD hS => ?_)
      have hP : va_P (dC, dI) vwCl [(h0, .inr (1, [.int σ8.1, .int σ8.2.1, .int σ8.2.2.1, .int σ8.2.2.2.1, .int σ8.2.2.2.2.1, .int (σ8.2.2.2.2.2.1 + (1 : Int32)), .int σ8.2.2.2.2.2.2.1, .int σ8.2.2.2.2.2.2.2]))] H := hP
      have hD : va_D A [(h0, .inr (1, [.int σ8.1, .int σ8.2.1, .int σ8.2.2.1, .int σ8.2.2.2.1, .int σ8.2.2.2.2.1, .int (σ8.2.2.2.2.2.1 + (1 : Int32)), .int σ8.2.2.2.2.2.2.1, .int σ8.2.2.2.2.2.2.2]))] := hD
      refine lv_iconst (v := (1 : Int32)) hx hb dX2_comeToFirstPlace_44 (by decide) ?_
      exact W.zret (v := (1 : Int32)) hx hb hr (nb_nar nb_1) (fun t ht hW => ⟨⟨(1 : Int32), ((cl2 h0 (σ8.1, σ8.2.1, σ8.2.2.1, σ8.2.2.2.1, σ8.2.2.2.2.1, (σ8.2.2.2.2.2.1 + (1 : Int32)), σ8.2.2.2.2.2.2.1, σ8.2.2.2.2.2.2.2))), rfl, ⟨(σ8.1, σ8.2.1, σ8.2.2.1, σ8.2.2.2.1, σ8.2.2.2.2.1, (σ8.2.2.2.2.2.1 + (1 : Int32)), σ8.2.2.2.2.2.2.1, σ8.2.2.2.2.2.2.2), hw, rfl⟩, by rw [ht]; exact hP, va_K.moved hW.alike hK, hD⟩, hS.F ht⟩) hS.2.2 dX2_comeToFirstPlace_45
  · have hw := hw.2 c3
    refine lv_iconst (v := (0 : Int32)) hx hb dX2_comeToFirstPlace_11 (by decide) ?_
    exact W.zret (v := (0 : Int32)) hx hb hr (nb_nar nb_0) (fun t ht hW => ⟨⟨(0 : Int32), ((cl2 h0 σ)), rfl, ⟨σ, hw, rfl⟩, by rw [ht]; exact hP, va_K.moved hW.alike hK, hD⟩, hS.F ht⟩) hS.2.2 dX2_comeToFirstPlace_12
set_option maxHeartbeats 4000000 in
set_option maxRecDepth 100000 in
theorem c_X2_goFromLastPlace (l : Launch) (dC : Nat → ClassId) (dI : Nat → Nat → Nat) (h0 : Nat)  (σ : SS)  (post : Int32 → SS → Prop) (hw : wp_X2_goFromLastPlace  σ post) : KI l yX2_goFromLastPlace wsX2_goFromLastPlace ({ frames := 2, cells := 0, slots := 0, locals := 42 } : Room) (dC, dI) [] (cl2 h0 σ) [.ref h0] (fun r u => ∃ σ', post r σ' ∧ u = (cl2 h0 (σ'))) := by
  intro sz
  refine Met.ofW (cc := cX2_goFromLastPlace) (maxL := 1) (ret := (some .boolean)) (by decide) rfl ?_
  intro p e s m args below meth c s₁ B hml hv
  obtain ⟨rfl, hsz, hP, hK, hD0, hnw⟩ := hv
  have hx := B.exec
  have hb := B.bytes
  have hr := B.returns
  have hts := atoms_spec (ws := wsX2_goFromLastPlace) B.pre
  have hown : s.vm.findClass RX2 = some m.cls := findClass_of_methodNamed B.named
  have hlocks := B.notSynchronized
  subst hsz
  have hD := hD0.self (sz := s.heap.size)
  generalize hAe : va_A (cl2 h0 σ) s.heap.size = A at hD ⊢
  have hA : ∀ q : Nat, s.heap.size ≤ q → A q := fun q h => by rw [← hAe]; exact Or.inr h
  have hS : va_S A s.heap s.heap [] := va_S.rf
  have hP : va_P (dC, dI) vwCl [(h0, .inr (1, [.int σ.1, .int σ.2.1, .int σ.2.2.1, .int σ.2.2.2.1, .int σ.2.2.2.2.1, .int σ.2.2.2.2.2.1, .int σ.2.2.2.2.2.2.1, .int σ.2.2.2.2.2.2.2]))] s.heap := hP
  have hD : va_D A [(h0, .inr (1, [.int σ.1, .int σ.2.1, .int σ.2.2.1, .int σ.2.2.2.1, .int σ.2.2.2.2.1, .int σ.2.2.2.2.2.1, .int σ.2.2.2.2.2.2.1, .int σ.2.2.2.2.2.2.2]))] := hD
  have fl_9 := hts (.fieldLink RX2 9 "OnePlaceEach$Stepped" "places" "I") (by decide +kernel)
  have fl_31 := hts (.fieldLink RX2 31 "OnePlaceEach$Stepped" "goneOut" "I") (by decide +kernel)
  have hin0 : ∀ w ∈ wsX20, w ∈ wsX2_goFromLastPlace := by decide +kernel
  have hl := lv_entry ([.ref h0]) (n := 1) (Nat.le_of_ble_eq_true rfl)
  rw [lg_entry_eq]
  generalize (lg_sl ([.ref h0]) ++ List.replicate (1 - (lg_sl ([.ref h0])).length) Slot.unset).toArray = ls at hl ⊢
  have hl : lv_has ls 1 [(0, .ref h0)] := hl
  unfold wp_X2_goFromLastPlace at hw
  skip
  obtain ⟨H, hH⟩ : ∃ H, H = s.heap := ⟨_, rfl⟩
  obtain ⟨locs, hlo⟩ : ∃ q : List Loc, q = [] := ⟨_, rfl⟩
  rw [← hH] at hP
  have hS : va_S A s.heap H locs := by rw [hH, hlo]; exact hS
  suffices hgo : W p l e (headSpec wsX2_goFromLastPlace ({ frames := 2, cells := 0, slots := 0, locals := 42 } : Room)).room s m _ below meth c H locs 0 0 _ (F0 m 0 ls []) by rw [hH, hlo] at hgo; exact hgo
  refine lv_aload_n hx hb dX2_goFromLastPlace_0 rfl (lv_at hl 0 rfl) ?_
  refine lv_aload_n hx hb dX2_goFromLastPlace_1 rfl (lv_at hl 0 rfl) ?_
  refine va_get (D := (dC, dI)) (ci := 1) (v := .int σ.1) (C := RX2) (T := TX2) (N := 8) hx hb hts hin0 hown hK hP 0 rfl rfl 0 (by decide) fl_9 (fun _ h9 => h9) rfl dX2_goFromLastPlace_2 ?_
  refine lv_iconst (v := (1 : Int32)) hx hb dX2_goFromLastPlace_5 (by decide) ?_
  refine lv_isub hx hb dX2_goFromLastPlace_6 ?_
  have hPc := hP
  have hDc := hD
  have hKc := hK
  have hFc := va_free (wc := [(h0, .inr (1, [.int σ.1, .int σ.2.1, .int σ.2.2.1, .int σ.2.2.2.1, .int σ.2.2.2.2.1, .int σ.2.2.2.2.2.1, .int σ.2.2.2.2.2.2.1, .int σ.2.2.2.2.2.2.2]))]) hD hS hA [0] rfl
  refine kc_i (wr := ([] : va_W)) (kr_V (As := [.int (σ.1 - (1 : Int32))]) (rest := []) (b := h0) (ws := [(h0, .inr (1, [.int σ.1, .int σ.2.1, .int σ.2.2.1, .int σ.2.2.2.1, .int σ.2.2.2.2.1, .int σ.2.2.2.2.2.1, .int σ.2.2.2.2.2.2.1, .int σ.2.2.2.2.2.2.2]))]) ⟨hx, hb, hml, hown, hts⟩ (c_X2_sortAt l dC dI h0 σ (σ.1 - (1 : Int32)) _ hw H.size) (cwV 1 hts gX2_goFromLastPlace_X2_sortAt rfl rfl rfl (by decide +kernel) ⟨Nat.le_of_ble_eq_true rfl, Nat.le_of_ble_eq_true rfl⟩) 1 0 hK rfl rfl rfl hKc hnw hP hD hPc hDc rfl hl.1 rfl (Nat.le_of_ble_eq_true rfl) dX2_goFromLastPlace_7 ⟨Nat.zero_le _, Nat.zero_le _⟩) hP hD hS hFc [0] [] rfl rfl (by decide) (by decide) (fun r1 u1 H locs hq hP hD hS => ?_)
  obtain ⟨hw, rfl⟩ := hq
  have hP : va_P (dC, dI) vwCl [(h0, .inr (1, [.int σ.1, .int σ.2.1, .int σ.2.2.1, .int σ.2.2.2.1, .int σ.2.2.2.2.1, .int σ.2.2.2.2.2.1, .int σ.2.2.2.2.2.2.1, .int σ.2.2.2.2.2.2.2]))] H := hP
  have hD : va_D A [(h0, .inr (1, [.int σ.1, .int σ.2.1, .int σ.2.2.1, .int σ.2.2.2.1, .int σ.2.2.2.2.1, .int σ.2.2.2.2.2.1, .int σ.2.2.2.2.2.2.1, .int σ.2.2.2.2.2.2.2]))] := hD
  refine lv_iconst (v := (1 : Int32)) hx hb dX2_goFromLastPlace_10 (by decide) ?_
  refine lv_icmp_eq (tgt := 16) hx hb dX2_goFromLastPlace_11 (by decide) (fun c3 => ?_) (fun c3 => ?_)
  · have hw := hw.1 c3
    refine lv_aload_n hx hb dX2_goFromLastPlace_16 rfl (lv_at hl 0 rfl) ?_
    refine lv_aload_n hx hb dX2_goFromLastPlace_17 rfl (lv_at hl 0 rfl) ?_
    refine va_get (D := (dC, dI)) (ci := 1) (v := .int σ.1) (C := RX2) (T := TX2) (N := 8) hx hb hts hin0 hown hK hP 0 rfl rfl 0 (by decide) fl_9 (fun _ h9 => h9) rfl dX2_goFromLastPlace_18 ?_
    refine lv_iconst (v := (1 : Int32)) hx hb dX2_goFromLastPlace_21 (by decide) ?_
    refine lv_isub hx hb dX2_goFromLastPlace_22 ?_
    refine lv_iconst (v := (0 : Int32)) hx hb dX2_goFromLastPlace_23 (by decide) ?_
    have hPc := hP
    have hDc := hD
    have hKc := hK
    have hFc := va_free (wc := [(h0, .inr (1, [.int σ.1, .int σ.2.1, .int σ.2.2.1, .int σ.2.2.2.1, .int σ.2.2.2.2.1, .int σ.2.2.2.2.2.1, .int σ.2.2.2.2.2.2.1, .int σ.2.2.2.2.2.2.2]))]) hD hS hA [0] rfl
    refine kc_v (wr := ([] : va_W)) (kr_V (As := [.int (σ.1 - (1 : Int32)), .int (0 : Int32)]) (rest := []) (b := h0) (ws := [(h0, .inr (1, [.int σ.1, .int σ.2.1, .int σ.2.2.1, .int σ.2.2.2.1, .int σ.2.2.2.2.1, .int σ.2.2.2.2.2.1, .int σ.2.2.2.2.2.2.1, .int σ.2.2.2.2.2.2.2]))]) ⟨hx, hb, hml, hown, hts⟩ (c_X2_put l dC dI h0 σ (σ.1 - (1 : Int32)) (0 : Int32) _ hw H.size) (cwV 2 hts gX2_goFromLastPlace_X2_put rfl rfl rfl (by decide +kernel) ⟨Nat.le_of_ble_eq_true rfl, Nat.le_of_ble_eq_true rfl⟩) 1 0 hK rfl rfl rfl hKc hnw hP hD hPc hDc rfl hl.1 rfl (Nat.le_of_ble_eq_true rfl) dX2_goFromLastPlace_24 ⟨Nat.zero_le _, Nat.zero_le _⟩) hP hD hS hFc [0] [] rfl rfl (by decide) (by decide) (fun u1 H locs hq hP hD hS => ?_)
    obtain ⟨σ5, hw, rfl⟩ := hq
    have hP : va_P (dC, dI) vwCl [(h0, .inr (1, [.int σ5.1, .int σ5.2.1, .int σ5.2.2.1, .int σ5.2.2.2.1, .int σ5.2.2.2.2.1, .int σ5.2.2.2.2.2.1, .int σ5.2.2.2.2.2.2.1, .int σ5.2.2.2.2.2.2.2]))] H := hP
    have hD : va_D A [(h0, .inr (1, [.int σ5.1, .int σ5.2.1, .int σ5.2.2.1, .int σ5.2.2.2.1, .int σ5.2.2.2.2.1, .int σ5.2.2.2.2.2.1, .int σ5.2.2.2.2.2.2.1, .int σ5.2.2.2.2.2.2.2]))] := hD
    refine lv_aload_n hx hb dX2_goFromLastPlace_27 rfl (lv_at hl 0 rfl) ?_
    refine lv_dup hx hb dX2_goFromLastPlace_28 rfl ?_
    refine va_get (D := (dC, dI)) (ci := 1) (v := .int σ5.2.2.2.2.2.2.1) (C := RX2) (T := TX2) (N := 8) hx hb hts hin0 hown hK hP 0 rfl rfl 6 (by decide) fl_31 (fun _ h9 => h9) rfl dX2_goFromLastPlace_29 ?_
    refine lv_iconst (v := (1 : Int32)) hx hb dX2_goFromLastPlace_32 (by decide) ?_
    refine lv_iadd hx hb dX2_goFromLastPlace_33 ?_
    refine va_put (D := (dC, dI)) (ci := 1) (v := .int (σ5.2.2.2.2.2.2.1 + (1 : Int32))) (ty := .int) (C := RX2) (T := TX2) (N := 8) hx hb hts hin0 tyX2 tyX2_ok nmX2 hown hK hP hD hS 0 rfl rfl 6 (by decide) fl_31 (fun _ h9 => h9) rfl (by decide +kernel) rfl rfl (Nat.le_of_ble_eq_true rfl) dX2_goFromLastPlace_34 (fun H locs hP hD hS => ?_)
    have hP : va_P (dC, dI) vwCl [(h0, .inr (1, [.int σ5.1, .int σ5.2.1, .int σ5.2.2.1, .int σ5.2.2.2.1, .int σ5.2.2.2.2.1, .int σ5.2.2.2.2.2.1, .int (σ5.2.2.2.2.2.2.1 + (1 : Int32)), .int σ5.2.2.2.2.2.2.2]))] H := hP
    have hD : va_D A [(h0, .inr (1, [.int σ5.1, .int σ5.2.1, .int σ5.2.2.1, .int σ5.2.2.2.1, .int σ5.2.2.2.2.1, .int σ5.2.2.2.2.2.1, .int (σ5.2.2.2.2.2.2.1 + (1 : Int32)), .int σ5.2.2.2.2.2.2.2]))] := hD
    refine lv_iconst (v := (1 : Int32)) hx hb dX2_goFromLastPlace_37 (by decide) ?_
    exact W.zret (v := (1 : Int32)) hx hb hr (nb_nar nb_1) (fun t ht hW => ⟨⟨(1 : Int32), ((cl2 h0 (σ5.1, σ5.2.1, σ5.2.2.1, σ5.2.2.2.1, σ5.2.2.2.2.1, σ5.2.2.2.2.2.1, (σ5.2.2.2.2.2.2.1 + (1 : Int32)), σ5.2.2.2.2.2.2.2))), rfl, ⟨(σ5.1, σ5.2.1, σ5.2.2.1, σ5.2.2.2.1, σ5.2.2.2.2.1, σ5.2.2.2.2.2.1, (σ5.2.2.2.2.2.2.1 + (1 : Int32)), σ5.2.2.2.2.2.2.2), hw, rfl⟩, by rw [ht]; exact hP, va_K.moved hW.alike hK, hD⟩, hS.F ht⟩) hS.2.2 dX2_goFromLastPlace_38
  · have hw := hw.2 c3
    refine lv_iconst (v := (0 : Int32)) hx hb dX2_goFromLastPlace_14 (by decide) ?_
    exact W.zret (v := (0 : Int32)) hx hb hr (nb_nar nb_0) (fun t ht hW => ⟨⟨(0 : Int32), ((cl2 h0 σ)), rfl, ⟨σ, hw, rfl⟩, by rw [ht]; exact hP, va_K.moved hW.alike hK, hD⟩, hS.F ht⟩) hS.2.2 dX2_goFromLastPlace_15
set_option maxHeartbeats 4000000 in
set_option maxRecDepth 100000 in
theorem c_X2_stepOnce (l : Launch) (dC : Nat → ClassId) (dI : Nat → Nat → Nat) (h0 : Nat)  (σ : SS) (p0 : Int32) (post : Int32 → SS → Prop) (hw : wp_X2_stepOnce p0 σ post) : KI l yX2_stepOnce wsX2_stepOnce ({ frames := 3, cells := 0, slots := 0, locals := 67 } : Room) (dC, dI) [] (cl2 h0 σ) [.ref h0, .int p0] (fun r u => ∃ σ', post r σ' ∧ u = (cl2 h0 (σ'))) := by
  intro sz
  refine Met.ofW (cc := cX2_stepOnce) (maxL := 3) (ret := (some .boolean)) (by decide) rfl ?_
  intro p e s m args below meth c s₁ B hml hv
  obtain ⟨rfl, hsz, hP, hK, hD0, hnw⟩ := hv
  have hx := B.exec
  have hb := B.bytes
  have hr := B.returns
  have hts := atoms_spec (ws := wsX2_stepOnce) B.pre
  have hown : s.vm.findClass RX2 = some m.cls := findClass_of_methodNamed B.named
  have hlocks := B.notSynchronized
  subst hsz
  have hD := hD0.self (sz := s.heap.size)
  generalize hAe : va_A (cl2 h0 σ) s.heap.size = A at hD ⊢
  have hA : ∀ q : Nat, s.heap.size ≤ q → A q := fun q h => by rw [← hAe]; exact Or.inr h
  have hS : va_S A s.heap s.heap [] := va_S.rf
  have hP : va_P (dC, dI) vwCl [(h0, .inr (1, [.int σ.1, .int σ.2.1, .int σ.2.2.1, .int σ.2.2.2.1, .int σ.2.2.2.2.1, .int σ.2.2.2.2.2.1, .int σ.2.2.2.2.2.2.1, .int σ.2.2.2.2.2.2.2]))] s.heap := hP
  have hD : va_D A [(h0, .inr (1, [.int σ.1, .int σ.2.1, .int σ.2.2.1, .int σ.2.2.2.1, .int σ.2.2.2.2.1, .int σ.2.2.2.2.2.1, .int σ.2.2.2.2.2.2.1, .int σ.2.2.2.2.2.2.2]))] := hD
  have fl_9 := hts (.fieldLink RX2 9 "OnePlaceEach$Stepped" "places" "I") (by decide +kernel)
  have fl_15 := hts (.fieldLink RX2 15 "OnePlaceEach$Stepped" "open" "Z") (by decide +kernel)
  have hin0 : ∀ w ∈ wsX20, w ∈ wsX2_stepOnce := by decide +kernel
  have hl := lv_entry ([.ref h0, .int p0]) (n := 3) (Nat.le_of_ble_eq_true rfl)
  rw [lg_entry_eq]
  generalize (lg_sl ([.ref h0, .int p0]) ++ List.replicate (3 - (lg_sl ([.ref h0, .int p0])).length) Slot.unset).toArray = ls at hl ⊢
  have hl : lv_has ls 3 [(0, .ref h0), (1, .int p0)] := hl
  unfold wp_X2_stepOnce at hw
  skip
  obtain ⟨H, hH⟩ : ∃ H, H = s.heap := ⟨_, rfl⟩
  obtain ⟨locs, hlo⟩ : ∃ q : List Loc, q = [] := ⟨_, rfl⟩
  rw [← hH] at hP
  have hS : va_S A s.heap H locs := by rw [hH, hlo]; exact hS
  suffices hgo : W p l e (headSpec wsX2_stepOnce ({ frames := 3, cells := 0, slots := 0, locals := 67 } : Room)).room s m _ below meth c H locs 0 0 _ (F0 m 0 ls []) by rw [hH, hlo] at hgo; exact hgo
  refine lv_aload_n hx hb dX2_stepOnce_0 rfl (lv_at hl 0 rfl) ?_
  refine va_get (D := (dC, dI)) (ci := 1) (v := .int σ.1) (C := RX2) (T := TX2) (N := 8) hx hb hts hin0 hown hK hP 0 rfl rfl 0 (by decide) fl_9 (fun _ h9 => h9) rfl dX2_stepOnce_1 ?_
  refine lv_iconst (v := (1 : Int32)) hx hb dX2_stepOnce_4 (by decide) ?_
  refine lv_isub hx hb dX2_stepOnce_5 ?_
  refine lv_istore_n (lv' := [(2, .int (σ.1 - (1 : Int32))), (0, .ref h0), (1, .int p0)]) hx hb dX2_stepOnce_6 rfl hl (by decide) rfl (fun ls hl => ?_)
  refine lv_iload_n hx hb dX2_stepOnce_7 rfl (lv_at hl 2 rfl) ?_
  refine lv_iload_n hx hb dX2_stepOnce_8 rfl (lv_at hl 0 rfl) ?_
  refine lv_icmp_ge (tgt := 21) hx hb dX2_stepOnce_9 (by decide) (fun c1 => ?_) (fun c1 => ?_)
  · have hw := hw.1 c1
    refine lv_iload_n hx hb dX2_stepOnce_21 rfl (lv_at hl 2 rfl) ?_
    refine lv_iload_n hx hb dX2_stepOnce_22 rfl (lv_at hl 0 rfl) ?_
    refine lv_icmp_ne (tgt := 47) hx hb dX2_stepOnce_23 (by decide) (fun c2 => ?_) (fun c2 => ?_)
    · have hw := hw.1 c2
      refine lv_aload_n hx hb dX2_stepOnce_47 rfl (lv_at hl 1 rfl) ?_
      refine va_get (D := (dC, dI)) (ci := 1) (v := .int σ.2.1) (C := RX2) (T := TX2) (N := 8) hx hb hts hin0 hown hK hP 0 rfl rfl 1 (by decide) fl_15 (fun _ h9 => h9) rfl dX2_stepOnce_48 ?_
      refine lv_if_eq (tgt := 65) hx hb dX2_stepOnce_51 (by decide) (fun c3 => ?_) (fun c3 => ?_)
      · have hw := hw.1 c3
        refine lv_iconst (v := (0 : Int32)) hx hb dX2_stepOnce_65 (by decide) ?_
        exact W.zret (v := (0 : Int32)) hx hb hr (nb_nar nb_0) (fun t ht hW => ⟨⟨(0 : Int32), ((cl2 h0 σ)), rfl, ⟨σ, hw, rfl⟩, by rw [ht]; exact hP, va_K.moved hW.alike hK, hD⟩, hS.F ht⟩) hS.2.2 dX2_stepOnce_66
      · have hw := hw.2 c3
        refine lv_aload_n hx hb dX2_stepOnce_54 rfl (lv_at hl 1 rfl) ?_
        have hPc := hP
        have hDc := hD
        have hKc := hK
        have hFc := va_free (wc := [(h0, .inr (1, [.int σ.1, .int σ.2.1, .int σ.2.2.1, .int σ.2.2.2.1, .int σ.2.2.2.2.1, .int σ.2.2.2.2.2.1, .int σ.2.2.2.2.2.2.1, .int σ.2.2.2.2.2.2.2]))]) hD hS hA [0] rfl
        refine kc_i (wr := ([] : va_W)) (kr_V (As := []) (rest := []) (b := h0) (ws := [(h0, .inr (1, [.int σ.1, .int σ.2.1, .int σ.2.2.1, .int σ.2.2.2.1, .int σ.2.2.2.2.1, .int σ.2.2.2.2.2.1, .int σ.2.2.2.2.2.2.1, .int σ.2.2.2.2.2.2.2]))]) ⟨hx, hb, hml, hown, hts⟩ (c_X2_goFromLastPlace l dC dI h0 σ  _ hw H.size) (cwV 0 hts gX2_stepOnce_X2_goFromLastPlace rfl rfl rfl (by decide +kernel) ⟨Nat.le_of_ble_eq_true rfl, Nat.le_of_ble_eq_true rfl⟩) 1 0 hK rfl rfl rfl hKc hnw hP hD hPc hDc rfl hl.1 rfl (Nat.le_of_ble_eq_true rfl) dX2_stepOnce_55 ⟨Nat.zero_le _, Nat.zero_le _⟩) hP hD hS hFc [0] [] rfl rfl (by decide) (by decide) (fun r4 u1 H locs hq hP hD hS => ?_)
        obtain ⟨σ5, hw, rfl⟩ := hq
        have hP : va_P (dC, dI) vwCl [(h0, .inr (1, [.int σ5.1, .int σ5.2.1, .int σ5.2.2.1, .int σ5.2.2.2.1, .int σ5.2.2.2.2.1, .int σ5.2.2.2.2.2.1, .int σ5.2.2.2.2.2.2.1, .int σ5.2.2.2.2.2.2.2]))] H := hP
        have hD : va_D A [(h0, .inr (1, [.int σ5.1, .int σ5.2.1, .int σ5.2.2.1, .int σ5.2.2.2.1, .int σ5.2.2.2.2.1, .int σ5.2.2.2.2.2.1, .int σ5.2.2.2.2.2.2.1, .int σ5.2.2.2.2.2.2.2]))] := hD
        refine lv_if_eq (tgt := 65) hx hb dX2_stepOnce_58 (by decide) (fun c6 => ?_) (fun c6 => ?_)
        · have hw := hw.1 c6
          refine lv_iconst (v := (0 : Int32)) hx hb dX2_stepOnce_65 (by decide) ?_
          exact W.zret (v := (0 : Int32)) hx hb hr (nb_nar nb_0) (fun t ht hW => ⟨⟨(0 : Int32), ((cl2 h0 σ5)), rfl, ⟨σ5, hw, rfl⟩, by rw [ht]; exact hP, va_K.moved hW.alike hK, hD⟩, hS.F ht⟩) hS.2.2 dX2_stepOnce_66
        · have hw := hw.2 c6
          refine lv_iconst (v := (1 : Int32)) hx hb dX2_stepOnce_61 (by decide) ?_
          refine lv_goto (tgt := 66) hx hb dX2_stepOnce_62 (by decide) ?_
          exact W.zret (v := (1 : Int32)) hx hb hr (nb_nar nb_1) (fun t ht hW => ⟨⟨(1 : Int32), ((cl2 h0 σ5)), rfl, ⟨σ5, hw, rfl⟩, by rw [ht]; exact hP, va_K.moved hW.alike hK, hD⟩, hS.F ht⟩) hS.2.2 dX2_stepOnce_66
    · have hw := hw.2 c2
      refine lv_aload_n hx hb dX2_stepOnce_26 rfl (lv_at hl 1 rfl) ?_
      refine va_get (D := (dC, dI)) (ci := 1) (v := .int σ.2.1) (C := RX2) (T := TX2) (N := 8) hx hb hts hin0 hown hK hP 0 rfl rfl 1 (by decide) fl_15 (fun _ h9 => h9) rfl dX2_stepOnce_27 ?_
      refine lv_if_eq (tgt := 40) hx hb dX2_stepOnce_30 (by decide) (fun c7 => ?_) (fun c7 => ?_)
      · have hw := hw.1 c7
        refine lv_aload_n hx hb dX2_stepOnce_40 rfl (lv_at hl 1 rfl) ?_
        refine lv_iload_n hx hb dX2_stepOnce_41 rfl (lv_at hl 0 rfl) ?_
        refine lv_iconst (v := (0 : Int32)) hx hb dX2_stepOnce_42 (by decide) ?_
        have hPc := hP
        have hDc := hD
        have hKc := hK
        have hFc := va_free (wc := [(h0, .inr (1, [.int σ.1, .int σ.2.1, .int σ.2.2.1, .int σ.2.2.2.1, .int σ.2.2.2.2.1, .int σ.2.2.2.2.2.1, .int σ.2.2.2.2.2.2.1, .int σ.2.2.2.2.2.2.2]))]) hD hS hA [0] rfl
        refine kc_i (wr := ([] : va_W)) (kr_V (As := [.int (σ.1 - (1 : Int32)), .int (0 : Int32)]) (rest := []) (b := h0) (ws := [(h0, .inr (1, [.int σ.1, .int σ.2.1, .int σ.2.2.1, .int σ.2.2.2.1, .int σ.2.2.2.2.1, .int σ.2.2.2.2.2.1, .int σ.2.2.2.2.2.2.1, .int σ.2.2.2.2.2.2.2]))]) ⟨hx, hb, hml, hown, hts⟩ (c_X2_exchange l dC dI h0 σ (σ.1 - (1 : Int32)) (0 : Int32) _ hw H.size) (cwV 2 hts gX2_stepOnce_X2_exchange rfl rfl rfl (by decide +kernel) ⟨Nat.le_of_ble_eq_true rfl, Nat.le_of_ble_eq_true rfl⟩) 1 0 hK rfl rfl rfl hKc hnw hP hD hPc hDc rfl hl.1 rfl (Nat.le_of_ble_eq_true rfl) dX2_stepOnce_43 ⟨Nat.zero_le _, Nat.zero_le _⟩) hP hD hS hFc [0] [] rfl rfl (by decide) (by decide) (fun r8 u1 H locs hq hP hD hS => ?_)
        obtain ⟨σ9, hw, rfl⟩ := hq
        have hP : va_P (dC, dI) vwCl [(h0, .inr (1, [.int σ9.1, .int σ9.2.1, .int σ9.2.2.1, .int σ9.2.2.2.1, .int σ9.2.2.2.2.1, .int σ9.2.2.2.2.2.1, .int σ9.2.2.2.2.2.2.1, .int σ9.2.2.2.2.2.2.2]))] H := hP
        have hD : va_D A [(h0, .inr (1, [.int σ9.1, .int σ9.2.1, .int σ9.2.2.1, .int σ9.2.2.2.1, .int σ9.2.2.2.2.1, .int σ9.2.2.2.2.2.1, .int σ9.2.2.2.2.2.2.1, .int σ9.2.2.2.2.2.2.2]))] := hD
        have z10 := hw.1
        have hw := hw.2
        exact W.zret (v := r8) hx hb hr (nb_nar z10) (fun t ht hW => ⟨⟨r8, ((cl2 h0 σ9)), rfl, ⟨σ9, hw, rfl⟩, by rw [ht]; exact hP, va_K.moved hW.alike hK, hD⟩, hS.F ht⟩) hS.2.2 dX2_stepOnce_46
      · have hw := hw.2 c7
        refine lv_aload_n hx hb dX2_stepOnce_33 rfl (lv_at hl 1 rfl) ?_
        have hPc := hP
        have hDc := hD
        have hKc := hK
        have hFc := va_free (wc := [(h0, .inr (1, [.int σ.1, .int σ.2.1, .int σ.2.2.1, .int σ.2.2.2.1, .int σ.2.2.2.2.1, .int σ.2.2.2.2.2.1, .int σ.2.2.2.2.2.2.1, .int σ.2.2.2.2.2.2.2]))]) hD hS hA [0] rfl
        refine kc_i (wr := ([] : va_W)) (kr_V (As := []) (rest := []) (b := h0) (ws := [(h0, .inr (1, [.int σ.1, .int σ.2.1, .int σ.2.2.1, .int σ.2.2.2.1, .int σ.2.2.2.2.1, .int σ.2.2.2.2.2.1, .int σ.2.2.2.2.2.2.1, .int σ.2.2.2.2.2.2.2]))]) ⟨hx, hb, hml, hown, hts⟩ (c_X2_comeToFirstPlace l dC dI h0 σ  _ hw H.size) (cwV 0 hts gX2_stepOnce_X2_comeToFirstPlace rfl rfl rfl (by decide +kernel) ⟨Nat.le_of_ble_eq_true rfl, Nat.le_of_ble_eq_true rfl⟩) 1 0 hK rfl rfl rfl hKc hnw hP hD hPc hDc rfl hl.1 rfl (Nat.le_of_ble_eq_true rfl) dX2_stepOnce_34 ⟨Nat.zero_le _, Nat.zero_le _⟩) hP hD hS hFc [0] [] rfl rfl (by decide) (by decide) (fun r11 u1 H locs hq hP hD hS => ?_)
        obtain ⟨σ12, hw, rfl⟩ := hq
        have hP : va_P (dC, dI) vwCl [(h0, .inr (1, [.int σ12.1, .int σ12.2.1, .int σ12.2.2.1, .int σ12.2.2.2.1, .int σ12.2.2.2.2.1, .int σ12.2.2.2.2.2.1, .int σ12.2.2.2.2.2.2.1, .int σ12.2.2.2.2.2.2.2]))] H := hP
        have hD : va_D A [(h0, .inr (1, [.int σ12.1, .int σ12.2.1, .int σ12.2.2.1, .int σ12.2.2.2.1, .int σ12.2.2.2.2.1, .int σ12.2.2.2.2.2.1, .int σ12.2.2.2.2.2.2.1, .int σ12.2.2.2.2.2.2.2]))] := hD
        refine lv_goto (tgt := 46) hx hb dX2_stepOnce_37 (by decide) ?_
        have z13 := hw.1
        have hw := hw.2
        exact W.zret (v := r11) hx hb hr (nb_nar z13) (fun t ht hW => ⟨⟨r11, ((cl2 h0 σ12)), rfl, ⟨σ12, hw, rfl⟩, by rw [ht]; exact hP, va_K.moved hW.alike hK, hD⟩, hS.F ht⟩) hS.2.2 dX2_stepOnce_46
  · have hw := hw.2 c1
    refine lv_aload_n hx hb dX2_stepOnce_12 rfl (lv_at hl 1 rfl) ?_
    refine lv_iload_n hx hb dX2_stepOnce_13 rfl (lv_at hl 2 rfl) ?_
    refine lv_iload_n hx hb dX2_stepOnce_14 rfl (lv_at hl 2 rfl) ?_
    refine lv_iconst (v := (1 : Int32)) hx hb dX2_stepOnce_15 (by decide) ?_
    refine lv_iadd hx hb dX2_stepOnce_16 ?_
    have hPc := hP
    have hDc := hD
    have hKc := hK
    have hFc := va_free (wc := [(h0, .inr (1, [.int σ.1, .int σ.2.1, .int σ.2.2.1, .int σ.2.2.2.1, .int σ.2.2.2.2.1, .int σ.2.2.2.2.2.1, .int σ.2.2.2.2.2.2.1, .int σ.2.2.2.2.2.2.2]))]) hD hS hA [0] rfl
    refine kc_i (wr := ([] : va_W)) (kr_V (As := [.int p0, .int (p0 + (1 : Int32))]) (rest := []) (b := h0) (ws := [(h0, .inr (1, [.int σ.1, .int σ.2.1, .int σ.2.2.1, .int σ.2.2.2.1, .int σ.2.2.2.2.1, .int σ.2.2.2.2.2.1, .int σ.2.2.2.2.2.2.1, .int σ.2.2.2.2.2.2.2]))]) ⟨hx, hb, hml, hown, hts⟩ (c_X2_exchange l dC dI h0 σ p0 (p0 + (1 : Int32)) _ hw H.size) (cwV 2 hts gX2_stepOnce_X2_exchange rfl rfl rfl (by decide +kernel) ⟨Nat.le_of_ble_eq_true rfl, Nat.le_of_ble_eq_true rfl⟩) 1 0 hK rfl rfl rfl hKc hnw hP hD hPc hDc rfl hl.1 rfl (Nat.le_of_ble_eq_true rfl) dX2_stepOnce_17 ⟨Nat.zero_le _, Nat.zero_le _⟩) hP hD hS hFc [0] [] rfl rfl (by decide) (by decide) (fun r14 u1 H locs hq hP hD hS => ?_)
    obtain ⟨σ15, hw, rfl⟩ := hq
    have hP : va_P (dC, dI) vwCl [(h0, .inr (1, [.int σ15.1, .int σ15.2.1, .int σ15.2.2.1, .int σ15.2.2.2.1, .int σ15.2.2.2.2.1, .int σ15.2.2.2.2.2.1, .int σ15.2.2.2.2.2.2.1, .int σ15.2.2.2.2.2.2.2]))] H := hP
    have hD : va_D A [(h0, .inr (1, [.int σ15.1, .int σ15.2.1, .int σ15.2.2.1, .int σ15.2.2.2.1, .int σ15.2.2.2.2.1, .int σ15.2.2.2.2.2.1, .int σ15.2.2.2.2.2.2.1, .int σ15.2.2.2.2.2.2.2]))] := hD
    have z16 := hw.1
    have hw := hw.2
    exact W.zret (v := r14) hx hb hr (nb_nar z16) (fun t ht hW => ⟨⟨r14, ((cl2 h0 σ15)), rfl, ⟨σ15, hw, rfl⟩, by rw [ht]; exact hP, va_K.moved hW.alike hK, hD⟩, hS.F ht⟩) hS.2.2 dX2_stepOnce_20
set_option maxHeartbeats 4000000 in
set_option maxRecDepth 100000 in
theorem c_X2_stepSingly (l : Launch) (dC : Nat → ClassId) (dI : Nat → Nat → Nat) (h0 : Nat)  (σ : SS) (p0 : Int32) (post : Int32 → SS → Prop) (hw : wp_X2_stepSingly p0 σ post) : KI l yX2_stepSingly wsX2_stepSingly ({ frames := 4, cells := 0, slots := 0, locals := 89 } : Room) (dC, dI) [] (cl2 h0 σ) [.ref h0, .int p0] (fun r u => ∃ σ', post r σ' ∧ u = (cl2 h0 (σ'))) := by
  intro sz
  refine Met.ofW (cc := cX2_stepSingly) (maxL := 4) (ret := (some .int)) (by decide) rfl ?_
  intro p e s m args below meth c s₁ B hml hv
  obtain ⟨rfl, hsz, hP, hK, hD0, hnw⟩ := hv
  have hx := B.exec
  have hb := B.bytes
  have hr := B.returns
  have hts := atoms_spec (ws := wsX2_stepSingly) B.pre
  have hown : s.vm.findClass RX2 = some m.cls := findClass_of_methodNamed B.named
  have hlocks := B.notSynchronized
  subst hsz
  have hD := hD0.self (sz := s.heap.size)
  generalize hAe : va_A (cl2 h0 σ) s.heap.size = A at hD ⊢
  have hA : ∀ q : Nat, s.heap.size ≤ q → A q := fun q h => by rw [← hAe]; exact Or.inr h
  have hS : va_S A s.heap s.heap [] := va_S.rf
  have hP : va_P (dC, dI) vwCl [(h0, .inr (1, [.int σ.1, .int σ.2.1, .int σ.2.2.1, .int σ.2.2.2.1, .int σ.2.2.2.2.1, .int σ.2.2.2.2.2.1, .int σ.2.2.2.2.2.2.1, .int σ.2.2.2.2.2.2.2]))] s.heap := hP
  have hD : va_D A [(h0, .inr (1, [.int σ.1, .int σ.2.1, .int σ.2.2.1, .int σ.2.2.2.1, .int σ.2.2.2.2.1, .int σ.2.2.2.2.2.1, .int σ.2.2.2.2.2.2.1, .int σ.2.2.2.2.2.2.2]))] := hD
  have L4 : ∀ (x1 : Int32)  (n : Nat) (x2 : Int32) (x3 : Int32) (σ : SS) (k : Int32 → Int32 → SS → Prop), wl_X2_stepSingly_4 x1  n x2 x3 σ k →
      (∀ (x2 : Int32) (x3 : Int32) (σ : SS), k x2 x3 σ → ∀ (H : Heap) (locs : List Loc) (ls : Array Slot), va_P (dC, dI) vwCl [(h0, .inr (1, [.int σ.1, .int σ.2.1, .int σ.2.2.1, .int σ.2.2.2.1, .int σ.2.2.2.2.1, .int σ.2.2.2.2.2.1, .int σ.2.2.2.2.2.2.1, .int σ.2.2.2.2.2.2.2]))] H → va_D A [(h0, .inr (1, [.int σ.1, .int σ.2.1, .int σ.2.2.1, .int σ.2.2.2.1, .int σ.2.2.2.2.1, .int σ.2.2.2.2.2.1, .int σ.2.2.2.2.2.2.1, .int σ.2.2.2.2.2.2.2]))] → va_S A s.heap H locs → lv_has ls 4 [(3, .int x3), (2, .int x2), (0, .ref h0), (1, .int x1)] → W p l e (headSpec wsX2_stepSingly ({ frames := 4, cells := 0, slots := 0, locals := 89 } : Room)).room s m ([.ref h0, .int p0] : List Value).toArray below meth c H locs 0 0 (MQ below (va_Qi (fun r u => ∃ σ', post r σ' ∧ u = (cl2 h0 (σ'))) (kB (dC, dI) [] A) A) ([.ref h0, .int p0] : List Value).toArray s 0 0 A) (F0 m 29 ls [])) →
      ∀ (H : Heap) (locs : List Loc) (ls : Array Slot), va_P (dC, dI) vwCl [(h0, .inr (1, [.int σ.1, .int σ.2.1, .int σ.2.2.1, .int σ.2.2.2.1, .int σ.2.2.2.2.1, .int σ.2.2.2.2.2.1, .int σ.2.2.2.2.2.2.1, .int σ.2.2.2.2.2.2.2]))] H → va_D A [(h0, .inr (1, [.int σ.1, .int σ.2.1, .int σ.2.2.1, .int σ.2.2.2.1, .int σ.2.2.2.2.1, .int σ.2.2.2.2.2.1, .int σ.2.2.2.2.2.2.1, .int σ.2.2.2.2.2.2.2]))] → va_S A s.heap H locs → lv_has ls 4 [(3, .int x3), (2, .int x2), (0, .ref h0), (1, .int x1)] → W p l e (headSpec wsX2_stepSingly ({ frames := 4, cells := 0, slots := 0, locals := 89 } : Room)).room s m ([.ref h0, .int p0] : List Value).toArray below meth c H locs 0 0 (MQ below (va_Qi (fun r u => ∃ σ', post r σ' ∧ u = (cl2 h0 (σ'))) (kB (dC, dI) [] A) A) ([.ref h0, .int p0] : List Value).toArray s 0 0 A) (F0 m 4 ls []) := by
    intro x1 n
    induction n with
    | zero => intro x2 x3 σ k hw; exact absurd hw id
    | succ n ih =>
      intro x2 x3 σ k hw hk H locs ls hP hD hS hl
      unfold wl_X2_stepSingly_4 at hw
      refine lv_iload_n hx hb dX2_stepSingly_4 rfl (lv_at hl 0 rfl) ?_
      refine lv_iload_n hx hb dX2_stepSingly_5 rfl (lv_at hl 3 rfl) ?_
      refine lv_icmp_ge (tgt := 29) hx hb dX2_stepSingly_6 (by decide) (fun c1 => ?_) (fun c1 => ?_)
      · have hw := hw.1 c1
        exact hk x2 x3 σ hw H locs ls hP hD hS (lv_sub hl [0, 1, 2, 3] rfl)
      · have hw := hw.2 c1
        refine lv_aload_n hx hb dX2_stepSingly_9 rfl (lv_at hl 2 rfl) ?_
        refine lv_aload_n hx hb dX2_stepSingly_10 rfl (lv_at hl 2 rfl) ?_
        have hPc := hP
        have hDc := hD
        have hKc := hK
        have hFc := va_free (wc := [(h0, .inr (1, [.int σ.1, .int σ.2.1, .int σ.2.2.1, .int σ.2.2.2.1, .int σ.2.2.2.2.1, .int σ.2.2.2.2.2.1, .int σ.2.2.2.2.2.2.1, .int σ.2.2.2.2.2.2.2]))]) hD hS hA [0] rfl
        refine kc_i (wr := ([] : va_W)) (kr_V (As := []) (rest := [.ref h0]) (b := h0) (ws := [(h0, .inr (1, [.int σ.1, .int σ.2.1, .int σ.2.2.1, .int σ.2.2.2.1, .int σ.2.2.2.2.1, .int σ.2.2.2.2.2.1, .int σ.2.2.2.2.2.2.1, .int σ.2.2.2.2.2.2.2]))]) ⟨hx, hb, hml, hown, hts⟩ (c_X2_draw l dC dI h0 σ  _ hw H.size) (cwV 0 hts gX2_stepSingly_X2_draw rfl rfl rfl (by decide +kernel) ⟨Nat.le_of_ble_eq_true rfl, Nat.le_of_ble_eq_true rfl⟩) 1 0 hK rfl rfl rfl hKc hnw hP hD hPc hDc rfl hl.1 rfl (Nat.le_of_ble_eq_true rfl) dX2_stepSingly_11 ⟨Nat.zero_le _, Nat.zero_le _⟩) hP hD hS hFc [0] [] rfl rfl (by decide) (by decide) (fun r2 u1 H locs hq hP hD hS => ?_)
        obtain ⟨σ3, hw, rfl⟩ := hq
        have hP : va_P (dC, dI) vwCl [(h0, .inr (1, [.int σ3.1, .int σ3.2.1, .int σ3.2.2.1, .int σ3.2.2.2.1, .int σ3.2.2.2.2.1, .int σ3.2.2.2.2.2.1, .int σ3.2.2.2.2.2.2.1, .int σ3.2.2.2.2.2.2.2]))] H := hP
        have hD : va_D A [(h0, .inr (1, [.int σ3.1, .int σ3.2.1, .int σ3.2.2.1, .int σ3.2.2.2.1, .int σ3.2.2.2.2.1, .int σ3.2.2.2.2.2.1, .int σ3.2.2.2.2.2.2.1, .int σ3.2.2.2.2.2.2.2]))] := hD
        have hPc := hP
        have hDc := hD
        have hKc := hK
        have hFc := va_free (wc := [(h0, .inr (1, [.int σ3.1, .int σ3.2.1, .int σ3.2.2.1, .int σ3.2.2.2.1, .int σ3.2.2.2.2.1, .int σ3.2.2.2.2.2.1, .int σ3.2.2.2.2.2.2.1, .int σ3.2.2.2.2.2.2.2]))]) hD hS hA [0] rfl
        refine kc_i (wr := ([] : va_W)) (kr_V (As := [.int r2]) (rest := []) (b := h0) (ws := [(h0, .inr (1, [.int σ3.1, .int σ3.2.1, .int σ3.2.2.1, .int σ3.2.2.2.1, .int σ3.2.2.2.2.1, .int σ3.2.2.2.2.2.1, .int σ3.2.2.2.2.2.2.1, .int σ3.2.2.2.2.2.2.2]))]) ⟨hx, hb, hml, hown, hts⟩ (c_X2_stepOnce l dC dI h0 σ3 r2 _ hw H.size) (cwV 1 hts gX2_stepSingly_X2_stepOnce rfl rfl rfl (by decide +kernel) ⟨Nat.le_of_ble_eq_true rfl, Nat.le_of_ble_eq_true rfl⟩) 1 0 hK rfl rfl rfl hKc hnw hP hD hPc hDc rfl hl.1 rfl (Nat.le_of_ble_eq_true rfl) dX2_stepSingly_14 ⟨Nat.zero_le _, Nat.zero_le _⟩) hP hD hS hFc [0] [] rfl rfl (by decide) (by decide) (fun r4 u1 H locs hq hP hD hS => ?_)
        obtain ⟨σ5, hw, rfl⟩ := hq
        have hP : va_P (dC, dI) vwCl [(h0, .inr (1, [.int σ5.1, .int σ5.2.1, .int σ5.2.2.1, .int σ5.2.2.2.1, .int σ5.2.2.2.2.1, .int σ5.2.2.2.2.2.1, .int σ5.2.2.2.2.2.2.1, .int σ5.2.2.2.2.2.2.2]))] H := hP
        have hD : va_D A [(h0, .inr (1, [.int σ5.1, .int σ5.2.1, .int σ5.2.2.1, .int σ5.2.2.2.1, .int σ5.2.2.2.2.1, .int σ5.2.2.2.2.2.1, .int σ5.2.2.2.2.2.2.1, .int σ5.2.2.2.2.2.2.2]))] := hD
        refine lv_if_eq (tgt := 23) hx hb dX2_stepSingly_17 (by decide) (fun c6 => ?_) (fun c6 => ?_)
        · have hw := hw.1 c6
          refine lv_iinc (v := (x3 + (1 : Int32))) (lv' := [(3, .int (x3 + (1 : Int32))), (2, .int x2), (0, .ref h0), (1, .int x1)]) hx hb dX2_stepSingly_23 hl (k := 0) rfl rfl (by decide) rfl (fun ls hl => ?_)
          refine lv_goto (tgt := 4) hx hb dX2_stepSingly_26 (by decide) ?_
          exact ih x2 (x3 + (1 : Int32)) σ5 _ hw hk H locs ls hP hD hS (lv_sub hl [0, 1, 2, 3] rfl)
        · have hw := hw.2 c6
          refine lv_iinc (v := (x2 + (1 : Int32))) (lv' := [(2, .int (x2 + (1 : Int32))), (3, .int x3), (0, .ref h0), (1, .int x1)]) hx hb dX2_stepSingly_20 hl (k := 1) rfl rfl (by decide) rfl (fun ls hl => ?_)
          refine lv_iinc (v := (x3 + (1 : Int32))) (lv' := [(3, .int (x3 + (1 : Int32))), (2, .int (x2 + (1 : Int32))), (0, .ref h0), (1, .int x1)]) hx hb dX2_stepSingly_23 hl (k := 1) rfl rfl (by decide) rfl (fun ls hl => ?_)
          refine lv_goto (tgt := 4) hx hb dX2_stepSingly_26 (by decide) ?_
          exact ih (x2 + (1 : Int32)) (x3 + (1 : Int32)) σ5 _ hw hk H locs ls hP hD hS (lv_sub hl [0, 1, 2, 3] rfl)
  have hl := lv_entry ([.ref h0, .int p0]) (n := 4) (Nat.le_of_ble_eq_true rfl)
  rw [lg_entry_eq]
  generalize (lg_sl ([.ref h0, .int p0]) ++ List.replicate (4 - (lg_sl ([.ref h0, .int p0])).length) Slot.unset).toArray = ls at hl ⊢
  have hl : lv_has ls 4 [(0, .ref h0), (1, .int p0)] := hl
  unfold wp_X2_stepSingly at hw
  skip
  obtain ⟨H, hH⟩ : ∃ H, H = s.heap := ⟨_, rfl⟩
  obtain ⟨locs, hlo⟩ : ∃ q : List Loc, q = [] := ⟨_, rfl⟩
  rw [← hH] at hP
  have hS : va_S A s.heap H locs := by rw [hH, hlo]; exact hS
  suffices hgo : W p l e (headSpec wsX2_stepSingly ({ frames := 4, cells := 0, slots := 0, locals := 89 } : Room)).room s m _ below meth c H locs 0 0 _ (F0 m 0 ls []) by rw [hH, hlo] at hgo; exact hgo
  refine lv_iconst (v := (0 : Int32)) hx hb dX2_stepSingly_0 (by decide) ?_
  refine lv_istore_n (lv' := [(2, .int (0 : Int32)), (0, .ref h0), (1, .int p0)]) hx hb dX2_stepSingly_1 rfl hl (by decide) rfl (fun ls hl => ?_)
  refine lv_iconst (v := (0 : Int32)) hx hb dX2_stepSingly_2 (by decide) ?_
  refine lv_istore_n (lv' := [(3, .int (0 : Int32)), (2, .int (0 : Int32)), (0, .ref h0), (1, .int p0)]) hx hb dX2_stepSingly_3 rfl hl (by decide) rfl (fun ls hl => ?_)
  refine L4 p0 (20000) (0 : Int32) (0 : Int32) σ _ hw (fun x2_7 x3_8 σ9 hw H locs ls hP hD hS hl => ?_) H locs ls hP hD hS (lv_sub hl [0, 1, 2, 3] rfl)
  refine lv_iload_n hx hb dX2_stepSingly_29 rfl (lv_at hl 1 rfl) ?_
  exact W.iret (v := x2_7) hx hb hr (fun t ht hW => ⟨⟨x2_7, ((cl2 h0 σ9)), rfl, ⟨σ9, hw, rfl⟩, by rw [ht]; exact hP, va_K.moved hW.alike hK, hD⟩, hS.F ht⟩) hS.2.2 dX2_stepSingly_30
set_option maxHeartbeats 4000000 in
set_option maxRecDepth 100000 in
theorem c_X2_stepOpenRow (l : Launch) (dC : Nat → ClassId) (dI : Nat → Nat → Nat) (h0 : Nat)  (σ : SS)  (post : SS → Prop) (hw : wp_X2_stepOpenRow  σ post) : KV l yX2_stepOpenRow wsX2_stepOpenRow ({ frames := 2, cells := 0, slots := 0, locals := 42 } : Room) (dC, dI) [] (cl2 h0 σ) [.ref h0] (fun u => ∃ σ', post σ' ∧ u = (cl2 h0 (σ'))) := by
  intro sz
  refine Met.ofW (cc := cX2_stepOpenRow) (maxL := 4) (ret := none) (by decide) rfl ?_
  intro p e s m args below meth c s₁ B hml hv
  obtain ⟨rfl, hsz, hP, hK, hD0, hnw⟩ := hv
  have hx := B.exec
  have hb := B.bytes
  have hr := B.returns
  have hts := atoms_spec (ws := wsX2_stepOpenRow) B.pre
  have hown : s.vm.findClass RX2 = some m.cls := findClass_of_methodNamed B.named
  have hlocks := B.notSynchronized
  subst hsz
  have hD := hD0.self (sz := s.heap.size)
  generalize hAe : va_A (cl2 h0 σ) s.heap.size = A at hD ⊢
  have hA : ∀ q : Nat, s.heap.size ≤ q → A q := fun q h => by rw [← hAe]; exact Or.inr h
  have hS : va_S A s.heap s.heap [] := va_S.rf
  have hP : va_P (dC, dI) vwCl [(h0, .inr (1, [.int σ.1, .int σ.2.1, .int σ.2.2.1, .int σ.2.2.2.1, .int σ.2.2.2.2.1, .int σ.2.2.2.2.2.1, .int σ.2.2.2.2.2.2.1, .int σ.2.2.2.2.2.2.2]))] s.heap := hP
  have hD : va_D A [(h0, .inr (1, [.int σ.1, .int σ.2.1, .int σ.2.2.1, .int σ.2.2.2.1, .int σ.2.2.2.2.1, .int σ.2.2.2.2.2.1, .int σ.2.2.2.2.2.2.1, .int σ.2.2.2.2.2.2.2]))] := hD
  have fl_9 := hts (.fieldLink RX2 9 "OnePlaceEach$Stepped" "places" "I") (by decide +kernel)
  have fl_19 := hts (.fieldLink RX2 19 "OnePlaceEach$Stepped" "firsts" "I") (by decide +kernel)
  have fl_28 := hts (.fieldLink RX2 28 "OnePlaceEach$Stepped" "comeIn" "I") (by decide +kernel)
  have fl_31 := hts (.fieldLink RX2 31 "OnePlaceEach$Stepped" "goneOut" "I") (by decide +kernel)
  have fl_34 := hts (.fieldLink RX2 34 "OnePlaceEach$Stepped" "moved" "I") (by decide +kernel)
  have hin0 : ∀ w ∈ wsX20, w ∈ wsX2_stepOpenRow := by decide +kernel
  have hl := lv_entry ([.ref h0]) (n := 4) (Nat.le_of_ble_eq_true rfl)
  rw [lg_entry_eq]
  generalize (lg_sl ([.ref h0]) ++ List.replicate (4 - (lg_sl ([.ref h0])).length) Slot.unset).toArray = ls at hl ⊢
  have hl : lv_has ls 4 [(0, .ref h0)] := hl
  unfold wp_X2_stepOpenRow at hw
  skip
  obtain ⟨H, hH⟩ : ∃ H, H = s.heap := ⟨_, rfl⟩
  obtain ⟨locs, hlo⟩ : ∃ q : List Loc, q = [] := ⟨_, rfl⟩
  rw [← hH] at hP
  have hS : va_S A s.heap H locs := by rw [hH, hlo]; exact hS
  suffices hgo : W p l e (headSpec wsX2_stepOpenRow ({ frames := 2, cells := 0, slots := 0, locals := 42 } : Room)).room s m _ below meth c H locs 0 0 _ (F0 m 0 ls []) by rw [hH, hlo] at hgo; exact hgo
  refine lv_aload_n hx hb dX2_stepOpenRow_0 rfl (lv_at hl 0 rfl) ?_
  have hPc := hP
  have hDc := hD
  have hKc := hK
  have hFc := va_free (wc := [(h0, .inr (1, [.int σ.1, .int σ.2.1, .int σ.2.2.1, .int σ.2.2.2.1, .int σ.2.2.2.2.1, .int σ.2.2.2.2.2.1, .int σ.2.2.2.2.2.2.1, .int σ.2.2.2.2.2.2.2]))]) hD hS hA [0] rfl
  refine kc_i (wr := ([] : va_W)) (kr_V (As := []) (rest := []) (b := h0) (ws := [(h0, .inr (1, [.int σ.1, .int σ.2.1, .int σ.2.2.1, .int σ.2.2.2.1, .int σ.2.2.2.2.1, .int σ.2.2.2.2.2.1, .int σ.2.2.2.2.2.2.1, .int σ.2.2.2.2.2.2.2]))]) ⟨hx, hb, hml, hown, hts⟩ (c_X2_firstsWithFreeBehind l dC dI h0 σ  _ hw H.size) (cwV 0 hts gX2_stepOpenRow_X2_firstsWithFreeBehind rfl rfl rfl (by decide +kernel) ⟨Nat.le_of_ble_eq_true rfl, Nat.le_of_ble_eq_true rfl⟩) 1 0 hK rfl rfl rfl hKc hnw hP hD hPc hDc rfl hl.1 rfl (Nat.le_of_ble_eq_true rfl) dX2_stepOpenRow_1 ⟨Nat.zero_le _, Nat.zero_le _⟩) hP hD hS hFc [0] [] rfl rfl (by decide) (by decide) (fun r1 u1 H locs hq hP hD hS => ?_)
  obtain ⟨hw, rfl⟩ := hq
  have hP : va_P (dC, dI) vwCl [(h0, .inr (1, [.int σ.1, .int σ.2.1, .int σ.2.2.1, .int σ.2.2.2.1, .int σ.2.2.2.2.1, .int σ.2.2.2.2.2.1, .int σ.2.2.2.2.2.2.1, .int σ.2.2.2.2.2.2.2]))] H := hP
  have hD : va_D A [(h0, .inr (1, [.int σ.1, .int σ.2.1, .int σ.2.2.1, .int σ.2.2.2.1, .int σ.2.2.2.2.1, .int σ.2.2.2.2.2.1, .int σ.2.2.2.2.2.2.1, .int σ.2.2.2.2.2.2.2]))] := hD
  refine lv_istore_n (lv' := [(1, .int r1), (0, .ref h0)]) hx hb dX2_stepOpenRow_4 rfl hl (by decide) rfl (fun ls hl => ?_)
  refine lv_aload_n hx hb dX2_stepOpenRow_5 rfl (lv_at hl 1 rfl) ?_
  refine va_get (D := (dC, dI)) (ci := 1) (v := .int σ.2.2.1) (C := RX2) (T := TX2) (N := 8) hx hb hts hin0 hown hK hP 0 rfl rfl 2 (by decide) fl_19 (fun _ h9 => h9) rfl dX2_stepOpenRow_6 ?_
  refine lv_iconst (v := (-1 : Int32)) hx hb dX2_stepOpenRow_9 (by decide) ?_
  refine lv_ixor hx hb dX2_stepOpenRow_10 ?_
  refine lv_iconst (v := (1 : Int32)) hx hb dX2_stepOpenRow_11 (by decide) ?_
  refine lv_iand hx hb dX2_stepOpenRow_12 ?_
  refine lv_istore_n (lv' := [(2, .int ((σ.2.2.1 ^^^ (-1 : Int32)) &&& (1 : Int32))), (1, .int r1), (0, .ref h0)]) hx hb dX2_stepOpenRow_13 rfl hl (by decide) rfl (fun ls hl => ?_)
  refine lv_aload_n hx hb dX2_stepOpenRow_14 rfl (lv_at hl 2 rfl) ?_
  refine va_get (D := (dC, dI)) (ci := 1) (v := .int σ.2.2.1) (C := RX2) (T := TX2) (N := 8) hx hb hts hin0 hown hK hP 0 rfl rfl 2 (by decide) fl_19 (fun _ h9 => h9) rfl dX2_stepOpenRow_15 ?_
  refine lv_iconst (v := (1 : Int32)) hx hb dX2_stepOpenRow_18 (by decide) ?_
  refine lv_aload_n hx hb dX2_stepOpenRow_19 rfl (lv_at hl 2 rfl) ?_
  refine va_get (D := (dC, dI)) (ci := 1) (v := .int σ.1) (C := RX2) (T := TX2) (N := 8) hx hb hts hin0 hown hK hP 0 rfl rfl 0 (by decide) fl_9 (fun _ h9 => h9) rfl dX2_stepOpenRow_20 ?_
  refine lv_iconst (v := (1 : Int32)) hx hb dX2_stepOpenRow_23 (by decide) ?_
  refine lv_isub hx hb dX2_stepOpenRow_24 ?_
  refine lv_ishl hx hb dX2_stepOpenRow_25 ?_
  refine lv_iand hx hb dX2_stepOpenRow_26 ?_
  refine lv_istore_n (lv' := [(3, .int (σ.2.2.1 &&& ((1 : Int32) <<< ((σ.1 - (1 : Int32)) &&& (31 : Int32))))), (2, .int ((σ.2.2.1 ^^^ (-1 : Int32)) &&& (1 : Int32))), (1, .int r1), (0, .ref h0)]) hx hb dX2_stepOpenRow_27 rfl hl (by decide) rfl (fun ls hl => ?_)
  refine lv_aload_n hx hb dX2_stepOpenRow_28 rfl (lv_at hl 3 rfl) ?_
  refine lv_aload_n hx hb dX2_stepOpenRow_29 rfl (lv_at hl 3 rfl) ?_
  refine va_get (D := (dC, dI)) (ci := 1) (v := .int σ.2.2.1) (C := RX2) (T := TX2) (N := 8) hx hb hts hin0 hown hK hP 0 rfl rfl 2 (by decide) fl_19 (fun _ h9 => h9) rfl dX2_stepOpenRow_30 ?_
  refine lv_iload_n hx hb dX2_stepOpenRow_33 rfl (lv_at hl 2 rfl) ?_
  refine lv_iconst (v := (-1 : Int32)) hx hb dX2_stepOpenRow_34 (by decide) ?_
  refine lv_ixor hx hb dX2_stepOpenRow_35 ?_
  refine lv_iand hx hb dX2_stepOpenRow_36 ?_
  refine lv_iload_n hx hb dX2_stepOpenRow_37 rfl (lv_at hl 0 rfl) ?_
  refine lv_iconst (v := (-1 : Int32)) hx hb dX2_stepOpenRow_38 (by decide) ?_
  refine lv_ixor hx hb dX2_stepOpenRow_39 ?_
  refine lv_iand hx hb dX2_stepOpenRow_40 ?_
  refine lv_iload_n hx hb dX2_stepOpenRow_41 rfl (lv_at hl 2 rfl) ?_
  refine lv_iconst (v := (1 : Int32)) hx hb dX2_stepOpenRow_42 (by decide) ?_
  refine lv_ishl hx hb dX2_stepOpenRow_43 ?_
  refine lv_ior hx hb dX2_stepOpenRow_44 ?_
  refine lv_iload_n hx hb dX2_stepOpenRow_45 rfl (lv_at hl 1 rfl) ?_
  refine lv_ior hx hb dX2_stepOpenRow_46 ?_
  refine va_put (D := (dC, dI)) (ci := 1) (v := .int ((((σ.2.2.1 &&& (r1 ^^^ (-1 : Int32))) &&& ((σ.2.2.1 &&& ((1 : Int32) <<< ((σ.1 - (1 : Int32)) &&& (31 : Int32)))) ^^^ (-1 : Int32))) ||| (r1 <<< ((1 : Int32) &&& (31 : Int32)))) ||| ((σ.2.2.1 ^^^ (-1 : Int32)) &&& (1 : Int32)))) (ty := .int) (C := RX2) (T := TX2) (N := 8) hx hb hts hin0 tyX2 tyX2_ok nmX2 hown hK hP hD hS 0 rfl rfl 2 (by decide) fl_19 (fun _ h9 => h9) rfl (by decide +kernel) rfl rfl (Nat.le_of_ble_eq_true rfl) dX2_stepOpenRow_47 (fun H locs hP hD hS => ?_)
  have hP : va_P (dC, dI) vwCl [(h0, .inr (1, [.int σ.1, .int σ.2.1, .int ((((σ.2.2.1 &&& (r1 ^^^ (-1 : Int32))) &&& ((σ.2.2.1 &&& ((1 : Int32) <<< ((σ.1 - (1 : Int32)) &&& (31 : Int32)))) ^^^ (-1 : Int32))) ||| (r1 <<< ((1 : Int32) &&& (31 : Int32)))) ||| ((σ.2.2.1 ^^^ (-1 : Int32)) &&& (1 : Int32))), .int σ.2.2.2.1, .int σ.2.2.2.2.1, .int σ.2.2.2.2.2.1, .int σ.2.2.2.2.2.2.1, .int σ.2.2.2.2.2.2.2]))] H := hP
  have hD : va_D A [(h0, .inr (1, [.int σ.1, .int σ.2.1, .int ((((σ.2.2.1 &&& (r1 ^^^ (-1 : Int32))) &&& ((σ.2.2.1 &&& ((1 : Int32) <<< ((σ.1 - (1 : Int32)) &&& (31 : Int32)))) ^^^ (-1 : Int32))) ||| (r1 <<< ((1 : Int32) &&& (31 : Int32)))) ||| ((σ.2.2.1 ^^^ (-1 : Int32)) &&& (1 : Int32))), .int σ.2.2.2.1, .int σ.2.2.2.2.1, .int σ.2.2.2.2.2.1, .int σ.2.2.2.2.2.2.1, .int σ.2.2.2.2.2.2.2]))] := hD
  refine lv_aload_n hx hb dX2_stepOpenRow_50 rfl (lv_at hl 3 rfl) ?_
  refine lv_dup hx hb dX2_stepOpenRow_51 rfl ?_
  refine va_get (D := (dC, dI)) (ci := 1) (v := .int σ.2.2.2.2.2.2.2) (C := RX2) (T := TX2) (N := 8) hx hb hts hin0 hown hK hP 0 rfl rfl 7 (by decide) fl_34 (fun _ h9 => h9) rfl dX2_stepOpenRow_52 ?_
  refine lv_iload_n hx hb dX2_stepOpenRow_55 rfl (lv_at hl 2 rfl) ?_
  have hPc := hP.sub (ws' := ([] : va_W)) [] rfl
  have hDc := hD.sub (ws' := ([] : va_W)) [] (by decide) rfl
  have hKc := hK.sub (tys' := []) [] rfl
  have hFc := va_free (wc := ([] : va_W)) hD hS hA [] rfl
  refine kc_i (wr := [(h0, .inr (1, [.int σ.1, .int σ.2.1, .int ((((σ.2.2.1 &&& (r1 ^^^ (-1 : Int32))) &&& ((σ.2.2.1 &&& ((1 : Int32) <<< ((σ.1 - (1 : Int32)) &&& (31 : Int32)))) ^^^ (-1 : Int32))) ||| (r1 <<< ((1 : Int32) &&& (31 : Int32)))) ||| ((σ.2.2.1 ^^^ (-1 : Int32)) &&& (1 : Int32))), .int σ.2.2.2.1, .int σ.2.2.2.2.1, .int σ.2.2.2.2.2.1, .int σ.2.2.2.2.2.2.1, .int σ.2.2.2.2.2.2.2]))]) (kr_S (As := [.int r1]) (rest := [.int σ.2.2.2.2.2.2.2, .ref h0]) (ws := [(h0, .inr (1, [.int σ.1, .int σ.2.1, .int ((((σ.2.2.1 &&& (r1 ^^^ (-1 : Int32))) &&& ((σ.2.2.1 &&& ((1 : Int32) <<< ((σ.1 - (1 : Int32)) &&& (31 : Int32)))) ^^^ (-1 : Int32))) ||| (r1 <<< ((1 : Int32) &&& (31 : Int32)))) ||| ((σ.2.2.1 ^^^ (-1 : Int32)) &&& (1 : Int32))), .int σ.2.2.2.1, .int σ.2.2.2.2.1, .int σ.2.2.2.2.2.1, .int σ.2.2.2.2.2.2.1, .int σ.2.2.2.2.2.2.2]))]) ⟨hx, hb, hml, hown, hts⟩ (c_J6_bitCount_0f7a4 l dC dI   r1 _ hw H.size) (va_cwS 1 hts gX2_stepOpenRow_J6_bitCount_0f7a4 rfl rfl rfl (by decide +kernel) ⟨Nat.le_of_ble_eq_true rfl, Nat.le_of_ble_eq_true rfl⟩) hKc hnw hP hD hPc hDc rfl hl.1 rfl (Nat.le_of_ble_eq_true rfl) dX2_stepOpenRow_56 ⟨Nat.zero_le _, Nat.zero_le _⟩) hP hD hS hFc [] [0] rfl rfl (by decide) (by decide) (fun r3 u1 H locs hq hP hD hS => ?_)
  obtain ⟨hw, rfl⟩ := hq
  have hP : va_P (dC, dI) vwCl [(h0, .inr (1, [.int σ.1, .int σ.2.1, .int ((((σ.2.2.1 &&& (r1 ^^^ (-1 : Int32))) &&& ((σ.2.2.1 &&& ((1 : Int32) <<< ((σ.1 - (1 : Int32)) &&& (31 : Int32)))) ^^^ (-1 : Int32))) ||| (r1 <<< ((1 : Int32) &&& (31 : Int32)))) ||| ((σ.2.2.1 ^^^ (-1 : Int32)) &&& (1 : Int32))), .int σ.2.2.2.1, .int σ.2.2.2.2.1, .int σ.2.2.2.2.2.1, .int σ.2.2.2.2.2.2.1, .int σ.2.2.2.2.2.2.2]))] H := hP
  have hD : va_D A [(h0, .inr (1, [.int σ.1, .int σ.2.1, .int ((((σ.2.2.1 &&& (r1 ^^^ (-1 : Int32))) &&& ((σ.2.2.1 &&& ((1 : Int32) <<< ((σ.1 - (1 : Int32)) &&& (31 : Int32)))) ^^^ (-1 : Int32))) ||| (r1 <<< ((1 : Int32) &&& (31 : Int32)))) ||| ((σ.2.2.1 ^^^ (-1 : Int32)) &&& (1 : Int32))), .int σ.2.2.2.1, .int σ.2.2.2.2.1, .int σ.2.2.2.2.2.1, .int σ.2.2.2.2.2.2.1, .int σ.2.2.2.2.2.2.2]))] := hD
  refine lv_iadd hx hb dX2_stepOpenRow_59 ?_
  refine va_put (D := (dC, dI)) (ci := 1) (v := .int (σ.2.2.2.2.2.2.2 + r3)) (ty := .int) (C := RX2) (T := TX2) (N := 8) hx hb hts hin0 tyX2 tyX2_ok nmX2 hown hK hP hD hS 0 rfl rfl 7 (by decide) fl_34 (fun _ h9 => h9) rfl (by decide +kernel) rfl rfl (Nat.le_of_ble_eq_true rfl) dX2_stepOpenRow_60 (fun H locs hP hD hS => ?_)
  have hP : va_P (dC, dI) vwCl [(h0, .inr (1, [.int σ.1, .int σ.2.1, .int ((((σ.2.2.1 &&& (r1 ^^^ (-1 : Int32))) &&& ((σ.2.2.1 &&& ((1 : Int32) <<< ((σ.1 - (1 : Int32)) &&& (31 : Int32)))) ^^^ (-1 : Int32))) ||| (r1 <<< ((1 : Int32) &&& (31 : Int32)))) ||| ((σ.2.2.1 ^^^ (-1 : Int32)) &&& (1 : Int32))), .int σ.2.2.2.1, .int σ.2.2.2.2.1, .int σ.2.2.2.2.2.1, .int σ.2.2.2.2.2.2.1, .int (σ.2.2.2.2.2.2.2 + r3)]))] H := hP
  have hD : va_D A [(h0, .inr (1, [.int σ.1, .int σ.2.1, .int ((((σ.2.2.1 &&& (r1 ^^^ (-1 : Int32))) &&& ((σ.2.2.1 &&& ((1 : Int32) <<< ((σ.1 - (1 : Int32)) &&& (31 : Int32)))) ^^^ (-1 : Int32))) ||| (r1 <<< ((1 : Int32) &&& (31 : Int32)))) ||| ((σ.2.2.1 ^^^ (-1 : Int32)) &&& (1 : Int32))), .int σ.2.2.2.1, .int σ.2.2.2.2.1, .int σ.2.2.2.2.2.1, .int σ.2.2.2.2.2.2.1, .int (σ.2.2.2.2.2.2.2 + r3)]))] := hD
  refine lv_aload_n hx hb dX2_stepOpenRow_63 rfl (lv_at hl 3 rfl) ?_
  refine lv_dup hx hb dX2_stepOpenRow_64 rfl ?_
  refine va_get (D := (dC, dI)) (ci := 1) (v := .int σ.2.2.2.2.2.1) (C := RX2) (T := TX2) (N := 8) hx hb hts hin0 hown hK hP 0 rfl rfl 5 (by decide) fl_28 (fun _ h9 => h9) rfl dX2_stepOpenRow_65 ?_
  refine lv_iload_n hx hb dX2_stepOpenRow_68 rfl (lv_at hl 1 rfl) ?_
  refine lv_iadd hx hb dX2_stepOpenRow_69 ?_
  refine va_put (D := (dC, dI)) (ci := 1) (v := .int (σ.2.2.2.2.2.1 + ((σ.2.2.1 ^^^ (-1 : Int32)) &&& (1 : Int32)))) (ty := .int) (C := RX2) (T := TX2) (N := 8) hx hb hts hin0 tyX2 tyX2_ok nmX2 hown hK hP hD hS 0 rfl rfl 5 (by decide) fl_28 (fun _ h9 => h9) rfl (by decide +kernel) rfl rfl (Nat.le_of_ble_eq_true rfl) dX2_stepOpenRow_70 (fun H locs hP hD hS => ?_)
  have hP : va_P (dC, dI) vwCl [(h0, .inr (1, [.int σ.1, .int σ.2.1, .int ((((σ.2.2.1 &&& (r1 ^^^ (-1 : Int32))) &&& ((σ.2.2.1 &&& ((1 : Int32) <<< ((σ.1 - (1 : Int32)) &&& (31 : Int32)))) ^^^ (-1 : Int32))) ||| (r1 <<< ((1 : Int32) &&& (31 : Int32)))) ||| ((σ.2.2.1 ^^^ (-1 : Int32)) &&& (1 : Int32))), .int σ.2.2.2.1, .int σ.2.2.2.2.1, .int (σ.2.2.2.2.2.1 + ((σ.2.2.1 ^^^ (-1 : Int32)) &&& (1 : Int32))), .int σ.2.2.2.2.2.2.1, .int (σ.2.2.2.2.2.2.2 + r3)]))] H := hP
  have hD : va_D A [(h0, .inr (1, [.int σ.1, .int σ.2.1, .int ((((σ.2.2.1 &&& (r1 ^^^ (-1 : Int32))) &&& ((σ.2.2.1 &&& ((1 : Int32) <<< ((σ.1 - (1 : Int32)) &&& (31 : Int32)))) ^^^ (-1 : Int32))) ||| (r1 <<< ((1 : Int32) &&& (31 : Int32)))) ||| ((σ.2.2.1 ^^^ (-1 : Int32)) &&& (1 : Int32))), .int σ.2.2.2.1, .int σ.2.2.2.2.1, .int (σ.2.2.2.2.2.1 + ((σ.2.2.1 ^^^ (-1 : Int32)) &&& (1 : Int32))), .int σ.2.2.2.2.2.2.1, .int (σ.2.2.2.2.2.2.2 + r3)]))] := hD
  refine lv_aload_n hx hb dX2_stepOpenRow_73 rfl (lv_at hl 3 rfl) ?_
  refine lv_dup hx hb dX2_stepOpenRow_74 rfl ?_
  refine va_get (D := (dC, dI)) (ci := 1) (v := .int σ.2.2.2.2.2.2.1) (C := RX2) (T := TX2) (N := 8) hx hb hts hin0 hown hK hP 0 rfl rfl 6 (by decide) fl_31 (fun _ h9 => h9) rfl dX2_stepOpenRow_75 ?_
  refine lv_iload_n hx hb dX2_stepOpenRow_78 rfl (lv_at hl 0 rfl) ?_
  have hPc := hP.sub (ws' := ([] : va_W)) [] rfl
  have hDc := hD.sub (ws' := ([] : va_W)) [] (by decide) rfl
  have hKc := hK.sub (tys' := []) [] rfl
  have hFc := va_free (wc := ([] : va_W)) hD hS hA [] rfl
  refine kc_i (wr := [(h0, .inr (1, [.int σ.1, .int σ.2.1, .int ((((σ.2.2.1 &&& (r1 ^^^ (-1 : Int32))) &&& ((σ.2.2.1 &&& ((1 : Int32) <<< ((σ.1 - (1 : Int32)) &&& (31 : Int32)))) ^^^ (-1 : Int32))) ||| (r1 <<< ((1 : Int32) &&& (31 : Int32)))) ||| ((σ.2.2.1 ^^^ (-1 : Int32)) &&& (1 : Int32))), .int σ.2.2.2.1, .int σ.2.2.2.2.1, .int (σ.2.2.2.2.2.1 + ((σ.2.2.1 ^^^ (-1 : Int32)) &&& (1 : Int32))), .int σ.2.2.2.2.2.2.1, .int (σ.2.2.2.2.2.2.2 + r3)]))]) (kr_S (As := [.int (σ.2.2.1 &&& ((1 : Int32) <<< ((σ.1 - (1 : Int32)) &&& (31 : Int32))))]) (rest := [.int σ.2.2.2.2.2.2.1, .ref h0]) (ws := [(h0, .inr (1, [.int σ.1, .int σ.2.1, .int ((((σ.2.2.1 &&& (r1 ^^^ (-1 : Int32))) &&& ((σ.2.2.1 &&& ((1 : Int32) <<< ((σ.1 - (1 : Int32)) &&& (31 : Int32)))) ^^^ (-1 : Int32))) ||| (r1 <<< ((1 : Int32) &&& (31 : Int32)))) ||| ((σ.2.2.1 ^^^ (-1 : Int32)) &&& (1 : Int32))), .int σ.2.2.2.1, .int σ.2.2.2.2.1, .int (σ.2.2.2.2.2.1 + ((σ.2.2.1 ^^^ (-1 : Int32)) &&& (1 : Int32))), .int σ.2.2.2.2.2.2.1, .int (σ.2.2.2.2.2.2.2 + r3)]))]) ⟨hx, hb, hml, hown, hts⟩ (c_J6_bitCount_0f7a4 l dC dI   (σ.2.2.1 &&& ((1 : Int32) <<< ((σ.1 - (1 : Int32)) &&& (31 : Int32)))) _ hw H.size) (va_cwS 1 hts gX2_stepOpenRow_J6_bitCount_0f7a4 rfl rfl rfl (by decide +kernel) ⟨Nat.le_of_ble_eq_true rfl, Nat.le_of_ble_eq_true rfl⟩) hKc hnw hP hD hPc hDc rfl hl.1 rfl (Nat.le_of_ble_eq_true rfl) dX2_stepOpenRow_79 ⟨Nat.zero_le _, Nat.zero_le _⟩) hP hD hS hFc [] [0] rfl rfl (by decide) (by decide) (fun r5 u1 H locs hq hP hD hS => ?_)
  obtain ⟨hw, rfl⟩ := hq
  have hP : va_P (dC, dI) vwCl [(h0, .inr (1, [.int σ.1, .int σ.2.1, .int ((((σ.2.2.1 &&& (r1 ^^^ (-1 : Int32))) &&& ((σ.2.2.1 &&& ((1 : Int32) <<< ((σ.1 - (1 : Int32)) &&& (31 : Int32)))) ^^^ (-1 : Int32))) ||| (r1 <<< ((1 : Int32) &&& (31 : Int32)))) ||| ((σ.2.2.1 ^^^ (-1 : Int32)) &&& (1 : Int32))), .int σ.2.2.2.1, .int σ.2.2.2.2.1, .int (σ.2.2.2.2.2.1 + ((σ.2.2.1 ^^^ (-1 : Int32)) &&& (1 : Int32))), .int σ.2.2.2.2.2.2.1, .int (σ.2.2.2.2.2.2.2 + r3)]))] H := hP
  have hD : va_D A [(h0, .inr (1, [.int σ.1, .int σ.2.1, .int ((((σ.2.2.1 &&& (r1 ^^^ (-1 : Int32))) &&& ((σ.2.2.1 &&& ((1 : Int32) <<< ((σ.1 - (1 : Int32)) &&& (31 : Int32)))) ^^^ (-1 : Int32))) ||| (r1 <<< ((1 : Int32) &&& (31 : Int32)))) ||| ((σ.2.2.1 ^^^ (-1 : Int32)) &&& (1 : Int32))), .int σ.2.2.2.1, .int σ.2.2.2.2.1, .int (σ.2.2.2.2.2.1 + ((σ.2.2.1 ^^^ (-1 : Int32)) &&& (1 : Int32))), .int σ.2.2.2.2.2.2.1, .int (σ.2.2.2.2.2.2.2 + r3)]))] := hD
  refine lv_iadd hx hb dX2_stepOpenRow_82 ?_
  refine va_put (D := (dC, dI)) (ci := 1) (v := .int (σ.2.2.2.2.2.2.1 + r5)) (ty := .int) (C := RX2) (T := TX2) (N := 8) hx hb hts hin0 tyX2 tyX2_ok nmX2 hown hK hP hD hS 0 rfl rfl 6 (by decide) fl_31 (fun _ h9 => h9) rfl (by decide +kernel) rfl rfl (Nat.le_of_ble_eq_true rfl) dX2_stepOpenRow_83 (fun H locs hP hD hS => ?_)
  have hP : va_P (dC, dI) vwCl [(h0, .inr (1, [.int σ.1, .int σ.2.1, .int ((((σ.2.2.1 &&& (r1 ^^^ (-1 : Int32))) &&& ((σ.2.2.1 &&& ((1 : Int32) <<< ((σ.1 - (1 : Int32)) &&& (31 : Int32)))) ^^^ (-1 : Int32))) ||| (r1 <<< ((1 : Int32) &&& (31 : Int32)))) ||| ((σ.2.2.1 ^^^ (-1 : Int32)) &&& (1 : Int32))), .int σ.2.2.2.1, .int σ.2.2.2.2.1, .int (σ.2.2.2.2.2.1 + ((σ.2.2.1 ^^^ (-1 : Int32)) &&& (1 : Int32))), .int (σ.2.2.2.2.2.2.1 + r5), .int (σ.2.2.2.2.2.2.2 + r3)]))] H := hP
  have hD : va_D A [(h0, .inr (1, [.int σ.1, .int σ.2.1, .int ((((σ.2.2.1 &&& (r1 ^^^ (-1 : Int32))) &&& ((σ.2.2.1 &&& ((1 : Int32) <<< ((σ.1 - (1 : Int32)) &&& (31 : Int32)))) ^^^ (-1 : Int32))) ||| (r1 <<< ((1 : Int32) &&& (31 : Int32)))) ||| ((σ.2.2.1 ^^^ (-1 : Int32)) &&& (1 : Int32))), .int σ.2.2.2.1, .int σ.2.2.2.2.1, .int (σ.2.2.2.2.2.1 + ((σ.2.2.1 ^^^ (-1 : Int32)) &&& (1 : Int32))), .int (σ.2.2.2.2.2.2.1 + r5), .int (σ.2.2.2.2.2.2.2 + r3)]))] := hD
  exact W.vret hx hb hr (fun t ht hW => ⟨⟨((cl2 h0 (σ.1, σ.2.1, ((((σ.2.2.1 &&& (r1 ^^^ (-1 : Int32))) &&& ((σ.2.2.1 &&& ((1 : Int32) <<< ((σ.1 - (1 : Int32)) &&& (31 : Int32)))) ^^^ (-1 : Int32))) ||| (r1 <<< ((1 : Int32) &&& (31 : Int32)))) ||| ((σ.2.2.1 ^^^ (-1 : Int32)) &&& (1 : Int32))), σ.2.2.2.1, σ.2.2.2.2.1, (σ.2.2.2.2.2.1 + ((σ.2.2.1 ^^^ (-1 : Int32)) &&& (1 : Int32))), (σ.2.2.2.2.2.2.1 + r5), (σ.2.2.2.2.2.2.2 + r3)))), rfl, ⟨(σ.1, σ.2.1, ((((σ.2.2.1 &&& (r1 ^^^ (-1 : Int32))) &&& ((σ.2.2.1 &&& ((1 : Int32) <<< ((σ.1 - (1 : Int32)) &&& (31 : Int32)))) ^^^ (-1 : Int32))) ||| (r1 <<< ((1 : Int32) &&& (31 : Int32)))) ||| ((σ.2.2.1 ^^^ (-1 : Int32)) &&& (1 : Int32))), σ.2.2.2.1, σ.2.2.2.2.1, (σ.2.2.2.2.2.1 + ((σ.2.2.1 ^^^ (-1 : Int32)) &&& (1 : Int32))), (σ.2.2.2.2.2.2.1 + r5), (σ.2.2.2.2.2.2.2 + r3)), hw, rfl⟩, by rw [ht]; exact hP, va_K.moved hW.alike hK, hD⟩, hS.F ht⟩) hS.2.2 dX2_stepOpenRow_86
set_option maxHeartbeats 4000000 in
set_option maxRecDepth 100000 in
theorem c_X2_stepRing (l : Launch) (dC : Nat → ClassId) (dI : Nat → Nat → Nat) (h0 : Nat)  (σ : SS)  (post : SS → Prop) (hw : wp_X2_stepRing  σ post) : KV l yX2_stepRing wsX2_stepRing ({ frames := 2, cells := 0, slots := 0, locals := 42 } : Room) (dC, dI) [] (cl2 h0 σ) [.ref h0] (fun u => ∃ σ', post σ' ∧ u = (cl2 h0 (σ'))) := by
  intro sz
  refine Met.ofW (cc := cX2_stepRing) (maxL := 4) (ret := none) (by decide) rfl ?_
  intro p e s m args below meth c s₁ B hml hv
  obtain ⟨rfl, hsz, hP, hK, hD0, hnw⟩ := hv
  have hx := B.exec
  have hb := B.bytes
  have hr := B.returns
  have hts := atoms_spec (ws := wsX2_stepRing) B.pre
  have hown : s.vm.findClass RX2 = some m.cls := findClass_of_methodNamed B.named
  have hlocks := B.notSynchronized
  subst hsz
  have hD := hD0.self (sz := s.heap.size)
  generalize hAe : va_A (cl2 h0 σ) s.heap.size = A at hD ⊢
  have hA : ∀ q : Nat, s.heap.size ≤ q → A q := fun q h => by rw [← hAe]; exact Or.inr h
  have hS : va_S A s.heap s.heap [] := va_S.rf
  have hP : va_P (dC, dI) vwCl [(h0, .inr (1, [.int σ.1, .int σ.2.1, .int σ.2.2.1, .int σ.2.2.2.1, .int σ.2.2.2.2.1, .int σ.2.2.2.2.2.1, .int σ.2.2.2.2.2.2.1, .int σ.2.2.2.2.2.2.2]))] s.heap := hP
  have hD : va_D A [(h0, .inr (1, [.int σ.1, .int σ.2.1, .int σ.2.2.1, .int σ.2.2.2.1, .int σ.2.2.2.2.1, .int σ.2.2.2.2.2.1, .int σ.2.2.2.2.2.2.1, .int σ.2.2.2.2.2.2.2]))] := hD
  have fl_9 := hts (.fieldLink RX2 9 "OnePlaceEach$Stepped" "places" "I") (by decide +kernel)
  have fl_19 := hts (.fieldLink RX2 19 "OnePlaceEach$Stepped" "firsts" "I") (by decide +kernel)
  have fl_34 := hts (.fieldLink RX2 34 "OnePlaceEach$Stepped" "moved" "I") (by decide +kernel)
  have hin0 : ∀ w ∈ wsX20, w ∈ wsX2_stepRing := by decide +kernel
  have hl := lv_entry ([.ref h0]) (n := 4) (Nat.le_of_ble_eq_true rfl)
  rw [lg_entry_eq]
  generalize (lg_sl ([.ref h0]) ++ List.replicate (4 - (lg_sl ([.ref h0])).length) Slot.unset).toArray = ls at hl ⊢
  have hl : lv_has ls 4 [(0, .ref h0)] := hl
  unfold wp_X2_stepRing at hw
  skip
  obtain ⟨H, hH⟩ : ∃ H, H = s.heap := ⟨_, rfl⟩
  obtain ⟨locs, hlo⟩ : ∃ q : List Loc, q = [] := ⟨_, rfl⟩
  rw [← hH] at hP
  have hS : va_S A s.heap H locs := by rw [hH, hlo]; exact hS
  suffices hgo : W p l e (headSpec wsX2_stepRing ({ frames := 2, cells := 0, slots := 0, locals := 42 } : Room)).room s m _ below meth c H locs 0 0 _ (F0 m 0 ls []) by rw [hH, hlo] at hgo; exact hgo
  refine lv_aload_n hx hb dX2_stepRing_0 rfl (lv_at hl 0 rfl) ?_
  have hPc := hP
  have hDc := hD
  have hKc := hK
  have hFc := va_free (wc := [(h0, .inr (1, [.int σ.1, .int σ.2.1, .int σ.2.2.1, .int σ.2.2.2.1, .int σ.2.2.2.2.1, .int σ.2.2.2.2.2.1, .int σ.2.2.2.2.2.2.1, .int σ.2.2.2.2.2.2.2]))]) hD hS hA [0] rfl
  refine kc_i (wr := ([] : va_W)) (kr_V (As := []) (rest := []) (b := h0) (ws := [(h0, .inr (1, [.int σ.1, .int σ.2.1, .int σ.2.2.1, .int σ.2.2.2.1, .int σ.2.2.2.2.1, .int σ.2.2.2.2.2.1, .int σ.2.2.2.2.2.2.1, .int σ.2.2.2.2.2.2.2]))]) ⟨hx, hb, hml, hown, hts⟩ (c_X2_firstsWithFreeBehind l dC dI h0 σ  _ hw H.size) (cwV 0 hts gX2_stepRing_X2_firstsWithFreeBehind rfl rfl rfl (by decide +kernel) ⟨Nat.le_of_ble_eq_true rfl, Nat.le_of_ble_eq_true rfl⟩) 1 0 hK rfl rfl rfl hKc hnw hP hD hPc hDc rfl hl.1 rfl (Nat.le_of_ble_eq_true rfl) dX2_stepRing_1 ⟨Nat.zero_le _, Nat.zero_le _⟩) hP hD hS hFc [0] [] rfl rfl (by decide) (by decide) (fun r1 u1 H locs hq hP hD hS => ?_)
  obtain ⟨hw, rfl⟩ := hq
  have hP : va_P (dC, dI) vwCl [(h0, .inr (1, [.int σ.1, .int σ.2.1, .int σ.2.2.1, .int σ.2.2.2.1, .int σ.2.2.2.2.1, .int σ.2.2.2.2.2.1, .int σ.2.2.2.2.2.2.1, .int σ.2.2.2.2.2.2.2]))] H := hP
  have hD : va_D A [(h0, .inr (1, [.int σ.1, .int σ.2.1, .int σ.2.2.1, .int σ.2.2.2.1, .int σ.2.2.2.2.1, .int σ.2.2.2.2.2.1, .int σ.2.2.2.2.2.2.1, .int σ.2.2.2.2.2.2.2]))] := hD
  refine lv_istore_n (lv' := [(1, .int r1), (0, .ref h0)]) hx hb dX2_stepRing_4 rfl hl (by decide) rfl (fun ls hl => ?_)
  refine lv_iload_n hx hb dX2_stepRing_5 rfl (lv_at hl 0 rfl) ?_
  refine lv_aload_n hx hb dX2_stepRing_6 rfl (lv_at hl 1 rfl) ?_
  refine va_get (D := (dC, dI)) (ci := 1) (v := .int σ.1) (C := RX2) (T := TX2) (N := 8) hx hb hts hin0 hown hK hP 0 rfl rfl 0 (by decide) fl_9 (fun _ h9 => h9) rfl dX2_stepRing_7 ?_
  refine lv_iconst (v := (1 : Int32)) hx hb dX2_stepRing_10 (by decide) ?_
  refine lv_isub hx hb dX2_stepRing_11 ?_
  refine lv_ishr hx hb dX2_stepRing_12 ?_
  refine lv_istore_n (lv' := [(2, .int (r1 >>> ((σ.1 - (1 : Int32)) &&& (31 : Int32)))), (1, .int r1), (0, .ref h0)]) hx hb dX2_stepRing_13 rfl hl (by decide) rfl (fun ls hl => ?_)
  refine lv_iload_n hx hb dX2_stepRing_14 rfl (lv_at hl 1 rfl) ?_
  refine lv_iconst (v := (1 : Int32)) hx hb dX2_stepRing_15 (by decide) ?_
  refine lv_ishl hx hb dX2_stepRing_16 ?_
  refine lv_aload_n hx hb dX2_stepRing_17 rfl (lv_at hl 2 rfl) ?_
  have hPc := hP
  have hDc := hD
  have hKc := hK
  have hFc := va_free (wc := [(h0, .inr (1, [.int σ.1, .int σ.2.1, .int σ.2.2.1, .int σ.2.2.2.1, .int σ.2.2.2.2.1, .int σ.2.2.2.2.2.1, .int σ.2.2.2.2.2.2.1, .int σ.2.2.2.2.2.2.2]))]) hD hS hA [0] rfl
  refine kc_i (wr := ([] : va_W)) (kr_V (As := []) (rest := [.int (r1 <<< ((1 : Int32) &&& (31 : Int32)))]) (b := h0) (ws := [(h0, .inr (1, [.int σ.1, .int σ.2.1, .int σ.2.2.1, .int σ.2.2.2.1, .int σ.2.2.2.2.1, .int σ.2.2.2.2.2.1, .int σ.2.2.2.2.2.2.1, .int σ.2.2.2.2.2.2.2]))]) ⟨hx, hb, hml, hown, hts⟩ (c_X2_allPlaces l dC dI h0 σ  _ hw H.size) (cwV 0 hts gX2_stepRing_X2_allPlaces rfl rfl rfl (by decide +kernel) ⟨Nat.le_of_ble_eq_true rfl, Nat.le_of_ble_eq_true rfl⟩) 1 0 hK rfl rfl rfl hKc hnw hP hD hPc hDc rfl hl.1 rfl (Nat.le_of_ble_eq_true rfl) dX2_stepRing_18 ⟨Nat.zero_le _, Nat.zero_le _⟩) hP hD hS hFc [0] [] rfl rfl (by decide) (by decide) (fun r3 u1 H locs hq hP hD hS => ?_)
  obtain ⟨hw, rfl⟩ := hq
  have hP : va_P (dC, dI) vwCl [(h0, .inr (1, [.int σ.1, .int σ.2.1, .int σ.2.2.1, .int σ.2.2.2.1, .int σ.2.2.2.2.1, .int σ.2.2.2.2.2.1, .int σ.2.2.2.2.2.2.1, .int σ.2.2.2.2.2.2.2]))] H := hP
  have hD : va_D A [(h0, .inr (1, [.int σ.1, .int σ.2.1, .int σ.2.2.1, .int σ.2.2.2.1, .int σ.2.2.2.2.1, .int σ.2.2.2.2.2.1, .int σ.2.2.2.2.2.2.1, .int σ.2.2.2.2.2.2.2]))] := hD
  refine lv_iand hx hb dX2_stepRing_21 ?_
  refine lv_istore_n (lv' := [(3, .int ((r1 <<< ((1 : Int32) &&& (31 : Int32))) &&& r3)), (2, .int (r1 >>> ((σ.1 - (1 : Int32)) &&& (31 : Int32)))), (1, .int r1), (0, .ref h0)]) hx hb dX2_stepRing_22 rfl hl (by decide) rfl (fun ls hl => ?_)
  refine lv_aload_n hx hb dX2_stepRing_23 rfl (lv_at hl 3 rfl) ?_
  refine lv_aload_n hx hb dX2_stepRing_24 rfl (lv_at hl 3 rfl) ?_
  refine va_get (D := (dC, dI)) (ci := 1) (v := .int σ.2.2.1) (C := RX2) (T := TX2) (N := 8) hx hb hts hin0 hown hK hP 0 rfl rfl 2 (by decide) fl_19 (fun _ h9 => h9) rfl dX2_stepRing_25 ?_
  refine lv_iload_n hx hb dX2_stepRing_28 rfl (lv_at hl 2 rfl) ?_
  refine lv_iconst (v := (-1 : Int32)) hx hb dX2_stepRing_29 (by decide) ?_
  refine lv_ixor hx hb dX2_stepRing_30 ?_
  refine lv_iand hx hb dX2_stepRing_31 ?_
  refine lv_iload_n hx hb dX2_stepRing_32 rfl (lv_at hl 0 rfl) ?_
  refine lv_ior hx hb dX2_stepRing_33 ?_
  refine lv_iload_n hx hb dX2_stepRing_34 rfl (lv_at hl 1 rfl) ?_
  refine lv_ior hx hb dX2_stepRing_35 ?_
  refine va_put (D := (dC, dI)) (ci := 1) (v := .int (((σ.2.2.1 &&& (r1 ^^^ (-1 : Int32))) ||| ((r1 <<< ((1 : Int32) &&& (31 : Int32))) &&& r3)) ||| (r1 >>> ((σ.1 - (1 : Int32)) &&& (31 : Int32))))) (ty := .int) (C := RX2) (T := TX2) (N := 8) hx hb hts hin0 tyX2 tyX2_ok nmX2 hown hK hP hD hS 0 rfl rfl 2 (by decide) fl_19 (fun _ h9 => h9) rfl (by decide +kernel) rfl rfl (Nat.le_of_ble_eq_true rfl) dX2_stepRing_36 (fun H locs hP hD hS => ?_)
  have hP : va_P (dC, dI) vwCl [(h0, .inr (1, [.int σ.1, .int σ.2.1, .int (((σ.2.2.1 &&& (r1 ^^^ (-1 : Int32))) ||| ((r1 <<< ((1 : Int32) &&& (31 : Int32))) &&& r3)) ||| (r1 >>> ((σ.1 - (1 : Int32)) &&& (31 : Int32)))), .int σ.2.2.2.1, .int σ.2.2.2.2.1, .int σ.2.2.2.2.2.1, .int σ.2.2.2.2.2.2.1, .int σ.2.2.2.2.2.2.2]))] H := hP
  have hD : va_D A [(h0, .inr (1, [.int σ.1, .int σ.2.1, .int (((σ.2.2.1 &&& (r1 ^^^ (-1 : Int32))) ||| ((r1 <<< ((1 : Int32) &&& (31 : Int32))) &&& r3)) ||| (r1 >>> ((σ.1 - (1 : Int32)) &&& (31 : Int32)))), .int σ.2.2.2.1, .int σ.2.2.2.2.1, .int σ.2.2.2.2.2.1, .int σ.2.2.2.2.2.2.1, .int σ.2.2.2.2.2.2.2]))] := hD
  refine lv_aload_n hx hb dX2_stepRing_39 rfl (lv_at hl 3 rfl) ?_
  refine lv_dup hx hb dX2_stepRing_40 rfl ?_
  refine va_get (D := (dC, dI)) (ci := 1) (v := .int σ.2.2.2.2.2.2.2) (C := RX2) (T := TX2) (N := 8) hx hb hts hin0 hown hK hP 0 rfl rfl 7 (by decide) fl_34 (fun _ h9 => h9) rfl dX2_stepRing_41 ?_
  refine lv_iload_n hx hb dX2_stepRing_44 rfl (lv_at hl 2 rfl) ?_
  have hPc := hP.sub (ws' := ([] : va_W)) [] rfl
  have hDc := hD.sub (ws' := ([] : va_W)) [] (by decide) rfl
  have hKc := hK.sub (tys' := []) [] rfl
  have hFc := va_free (wc := ([] : va_W)) hD hS hA [] rfl
  refine kc_i (wr := [(h0, .inr (1, [.int σ.1, .int σ.2.1, .int (((σ.2.2.1 &&& (r1 ^^^ (-1 : Int32))) ||| ((r1 <<< ((1 : Int32) &&& (31 : Int32))) &&& r3)) ||| (r1 >>> ((σ.1 - (1 : Int32)) &&& (31 : Int32)))), .int σ.2.2.2.1, .int σ.2.2.2.2.1, .int σ.2.2.2.2.2.1, .int σ.2.2.2.2.2.2.1, .int σ.2.2.2.2.2.2.2]))]) (kr_S (As := [.int r1]) (rest := [.int σ.2.2.2.2.2.2.2, .ref h0]) (ws := [(h0, .inr (1, [.int σ.1, .int σ.2.1, .int (((σ.2.2.1 &&& (r1 ^^^ (-1 : Int32))) ||| ((r1 <<< ((1 : Int32) &&& (31 : Int32))) &&& r3)) ||| (r1 >>> ((σ.1 - (1 : Int32)) &&& (31 : Int32)))), .int σ.2.2.2.1, .int σ.2.2.2.2.1, .int σ.2.2.2.2.2.1, .int σ.2.2.2.2.2.2.1, .int σ.2.2.2.2.2.2.2]))]) ⟨hx, hb, hml, hown, hts⟩ (c_J6_bitCount_0f7a4 l dC dI   r1 _ hw H.size) (va_cwS 1 hts gX2_stepRing_J6_bitCount_0f7a4 rfl rfl rfl (by decide +kernel) ⟨Nat.le_of_ble_eq_true rfl, Nat.le_of_ble_eq_true rfl⟩) hKc hnw hP hD hPc hDc rfl hl.1 rfl (Nat.le_of_ble_eq_true rfl) dX2_stepRing_45 ⟨Nat.zero_le _, Nat.zero_le _⟩) hP hD hS hFc [] [0] rfl rfl (by decide) (by decide) (fun r5 u1 H locs hq hP hD hS => ?_)
  obtain ⟨hw, rfl⟩ := hq
  have hP : va_P (dC, dI) vwCl [(h0, .inr (1, [.int σ.1, .int σ.2.1, .int (((σ.2.2.1 &&& (r1 ^^^ (-1 : Int32))) ||| ((r1 <<< ((1 : Int32) &&& (31 : Int32))) &&& r3)) ||| (r1 >>> ((σ.1 - (1 : Int32)) &&& (31 : Int32)))), .int σ.2.2.2.1, .int σ.2.2.2.2.1, .int σ.2.2.2.2.2.1, .int σ.2.2.2.2.2.2.1, .int σ.2.2.2.2.2.2.2]))] H := hP
  have hD : va_D A [(h0, .inr (1, [.int σ.1, .int σ.2.1, .int (((σ.2.2.1 &&& (r1 ^^^ (-1 : Int32))) ||| ((r1 <<< ((1 : Int32) &&& (31 : Int32))) &&& r3)) ||| (r1 >>> ((σ.1 - (1 : Int32)) &&& (31 : Int32)))), .int σ.2.2.2.1, .int σ.2.2.2.2.1, .int σ.2.2.2.2.2.1, .int σ.2.2.2.2.2.2.1, .int σ.2.2.2.2.2.2.2]))] := hD
  refine lv_iadd hx hb dX2_stepRing_48 ?_
  refine va_put (D := (dC, dI)) (ci := 1) (v := .int (σ.2.2.2.2.2.2.2 + r5)) (ty := .int) (C := RX2) (T := TX2) (N := 8) hx hb hts hin0 tyX2 tyX2_ok nmX2 hown hK hP hD hS 0 rfl rfl 7 (by decide) fl_34 (fun _ h9 => h9) rfl (by decide +kernel) rfl rfl (Nat.le_of_ble_eq_true rfl) dX2_stepRing_49 (fun H locs hP hD hS => ?_)
  have hP : va_P (dC, dI) vwCl [(h0, .inr (1, [.int σ.1, .int σ.2.1, .int (((σ.2.2.1 &&& (r1 ^^^ (-1 : Int32))) ||| ((r1 <<< ((1 : Int32) &&& (31 : Int32))) &&& r3)) ||| (r1 >>> ((σ.1 - (1 : Int32)) &&& (31 : Int32)))), .int σ.2.2.2.1, .int σ.2.2.2.2.1, .int σ.2.2.2.2.2.1, .int σ.2.2.2.2.2.2.1, .int (σ.2.2.2.2.2.2.2 + r5)]))] H := hP
  have hD : va_D A [(h0, .inr (1, [.int σ.1, .int σ.2.1, .int (((σ.2.2.1 &&& (r1 ^^^ (-1 : Int32))) ||| ((r1 <<< ((1 : Int32) &&& (31 : Int32))) &&& r3)) ||| (r1 >>> ((σ.1 - (1 : Int32)) &&& (31 : Int32)))), .int σ.2.2.2.1, .int σ.2.2.2.2.1, .int σ.2.2.2.2.2.1, .int σ.2.2.2.2.2.2.1, .int (σ.2.2.2.2.2.2.2 + r5)]))] := hD
  exact W.vret hx hb hr (fun t ht hW => ⟨⟨((cl2 h0 (σ.1, σ.2.1, (((σ.2.2.1 &&& (r1 ^^^ (-1 : Int32))) ||| ((r1 <<< ((1 : Int32) &&& (31 : Int32))) &&& r3)) ||| (r1 >>> ((σ.1 - (1 : Int32)) &&& (31 : Int32)))), σ.2.2.2.1, σ.2.2.2.2.1, σ.2.2.2.2.2.1, σ.2.2.2.2.2.2.1, (σ.2.2.2.2.2.2.2 + r5)))), rfl, ⟨(σ.1, σ.2.1, (((σ.2.2.1 &&& (r1 ^^^ (-1 : Int32))) ||| ((r1 <<< ((1 : Int32) &&& (31 : Int32))) &&& r3)) ||| (r1 >>> ((σ.1 - (1 : Int32)) &&& (31 : Int32)))), σ.2.2.2.1, σ.2.2.2.2.1, σ.2.2.2.2.2.1, σ.2.2.2.2.2.2.1, (σ.2.2.2.2.2.2.2 + r5)), hw, rfl⟩, by rw [ht]; exact hP, va_K.moved hW.alike hK, hD⟩, hS.F ht⟩) hS.2.2 dX2_stepRing_52
set_option maxHeartbeats 4000000 in
set_option maxRecDepth 100000 in
theorem c_X2_stepAllAtOnce (l : Launch) (dC : Nat → ClassId) (dI : Nat → Nat → Nat) (h0 : Nat)  (σ : SS) (p0 : Int32) (post : Int32 → SS → Prop) (hw : wp_X2_stepAllAtOnce p0 σ post) : KI l yX2_stepAllAtOnce wsX2_stepAllAtOnce ({ frames := 3, cells := 0, slots := 0, locals := 65 } : Room) (dC, dI) [] (cl2 h0 σ) [.ref h0, .int p0] (fun r u => ∃ σ', post r σ' ∧ u = (cl2 h0 (σ'))) := by
  intro sz
  refine Met.ofW (cc := cX2_stepAllAtOnce) (maxL := 4) (ret := (some .int)) (by decide) rfl ?_
  intro p e s m args below meth c s₁ B hml hv
  obtain ⟨rfl, hsz, hP, hK, hD0, hnw⟩ := hv
  have hx := B.exec
  have hb := B.bytes
  have hr := B.returns
  have hts := atoms_spec (ws := wsX2_stepAllAtOnce) B.pre
  have hown : s.vm.findClass RX2 = some m.cls := findClass_of_methodNamed B.named
  have hlocks := B.notSynchronized
  subst hsz
  have hD := hD0.self (sz := s.heap.size)
  generalize hAe : va_A (cl2 h0 σ) s.heap.size = A at hD ⊢
  have hA : ∀ q : Nat, s.heap.size ≤ q → A q := fun q h => by rw [← hAe]; exact Or.inr h
  have hS : va_S A s.heap s.heap [] := va_S.rf
  have hP : va_P (dC, dI) vwCl [(h0, .inr (1, [.int σ.1, .int σ.2.1, .int σ.2.2.1, .int σ.2.2.2.1, .int σ.2.2.2.2.1, .int σ.2.2.2.2.2.1, .int σ.2.2.2.2.2.2.1, .int σ.2.2.2.2.2.2.2]))] s.heap := hP
  have hD : va_D A [(h0, .inr (1, [.int σ.1, .int σ.2.1, .int σ.2.2.1, .int σ.2.2.2.1, .int σ.2.2.2.2.1, .int σ.2.2.2.2.2.1, .int σ.2.2.2.2.2.2.1, .int σ.2.2.2.2.2.2.2]))] := hD
  have fl_15 := hts (.fieldLink RX2 15 "OnePlaceEach$Stepped" "open" "Z") (by decide +kernel)
  have fl_34 := hts (.fieldLink RX2 34 "OnePlaceEach$Stepped" "moved" "I") (by decide +kernel)
  have hin0 : ∀ w ∈ wsX20, w ∈ wsX2_stepAllAtOnce := by decide +kernel
  have L7 : ∀ (x1 : Int32) (x2 : Int32)  (n : Nat) (x3 : Int32) (σ : SS) (k : Int32 → SS → Prop), wl_X2_stepAllAtOnce_7 x1 x2  n x3 σ k →
      (∀ (x3 : Int32) (σ : SS), k x3 σ → ∀ (H : Heap) (locs : List Loc) (ls : Array Slot), va_P (dC, dI) vwCl [(h0, .inr (1, [.int σ.1, .int σ.2.1, .int σ.2.2.1, .int σ.2.2.2.1, .int σ.2.2.2.2.1, .int σ.2.2.2.2.2.1, .int σ.2.2.2.2.2.2.1, .int σ.2.2.2.2.2.2.2]))] H → va_D A [(h0, .inr (1, [.int σ.1, .int σ.2.1, .int σ.2.2.1, .int σ.2.2.2.1, .int σ.2.2.2.2.1, .int σ.2.2.2.2.2.1, .int σ.2.2.2.2.2.2.1, .int σ.2.2.2.2.2.2.2]))] → va_S A s.heap H locs → lv_has ls 4 [(3, .int x3), (2, .int x2), (0, .ref h0), (1, .int x1)] → W p l e (headSpec wsX2_stepAllAtOnce ({ frames := 3, cells := 0, slots := 0, locals := 65 } : Room)).room s m ([.ref h0, .int p0] : List Value).toArray below meth c H locs 0 0 (MQ below (va_Qi (fun r u => ∃ σ', post r σ' ∧ u = (cl2 h0 (σ'))) (kB (dC, dI) [] A) A) ([.ref h0, .int p0] : List Value).toArray s 0 0 A) (F0 m 36 ls [])) →
      ∀ (H : Heap) (locs : List Loc) (ls : Array Slot), va_P (dC, dI) vwCl [(h0, .inr (1, [.int σ.1, .int σ.2.1, .int σ.2.2.1, .int σ.2.2.2.1, .int σ.2.2.2.2.1, .int σ.2.2.2.2.2.1, .int σ.2.2.2.2.2.2.1, .int σ.2.2.2.2.2.2.2]))] H → va_D A [(h0, .inr (1, [.int σ.1, .int σ.2.1, .int σ.2.2.1, .int σ.2.2.2.1, .int σ.2.2.2.2.1, .int σ.2.2.2.2.2.1, .int σ.2.2.2.2.2.2.1, .int σ.2.2.2.2.2.2.2]))] → va_S A s.heap H locs → lv_has ls 4 [(3, .int x3), (2, .int x2), (0, .ref h0), (1, .int x1)] → W p l e (headSpec wsX2_stepAllAtOnce ({ frames := 3, cells := 0, slots := 0, locals := 65 } : Room)).room s m ([.ref h0, .int p0] : List Value).toArray below meth c H locs 0 0 (MQ below (va_Qi (fun r u => ∃ σ', post r σ' ∧ u = (cl2 h0 (σ'))) (kB (dC, dI) [] A) A) ([.ref h0, .int p0] : List Value).toArray s 0 0 A) (F0 m 7 ls []) := by
    intro x1 x2 n
    induction n with
    | zero => intro x3 σ k hw; exact absurd hw id
    | succ n ih =>
      intro x3 σ k hw hk H locs ls hP hD hS hl
      unfold wl_X2_stepAllAtOnce_7 at hw
      refine lv_iload_n hx hb dX2_stepAllAtOnce_7 rfl (lv_at hl 0 rfl) ?_
      refine lv_iload_n hx hb dX2_stepAllAtOnce_8 rfl (lv_at hl 3 rfl) ?_
      refine lv_icmp_ge (tgt := 36) hx hb dX2_stepAllAtOnce_9 (by decide) (fun c1 => ?_) (fun c1 => ?_)
      · have hw := hw.1 c1
        exact hk x3 σ hw H locs ls hP hD hS (lv_sub hl [0, 1, 2, 3] rfl)
      · have hw := hw.2 c1
        refine lv_aload_n hx hb dX2_stepAllAtOnce_12 rfl (lv_at hl 2 rfl) ?_
        refine va_get (D := (dC, dI)) (ci := 1) (v := .int σ.2.1) (C := RX2) (T := TX2) (N := 8) hx hb hts hin0 hown hK hP 0 rfl rfl 1 (by decide) fl_15 (fun _ h9 => h9) rfl dX2_stepAllAtOnce_13 ?_
        refine lv_if_eq (tgt := 26) hx hb dX2_stepAllAtOnce_16 (by decide) (fun c2 => ?_) (fun c2 => ?_)
        · have hw := hw.1 c2
          refine lv_aload_n hx hb dX2_stepAllAtOnce_26 rfl (lv_at hl 2 rfl) ?_
          have hPc := hP
          have hDc := hD
          have hKc := hK
          have hFc := va_free (wc := [(h0, .inr (1, [.int σ.1, .int σ.2.1, .int σ.2.2.1, .int σ.2.2.2.1, .int σ.2.2.2.2.1, .int σ.2.2.2.2.2.1, .int σ.2.2.2.2.2.2.1, .int σ.2.2.2.2.2.2.2]))]) hD hS hA [0] rfl
          refine kc_v (wr := ([] : va_W)) (kr_V (As := []) (rest := []) (b := h0) (ws := [(h0, .inr (1, [.int σ.1, .int σ.2.1, .int σ.2.2.1, .int σ.2.2.2.1, .int σ.2.2.2.2.1, .int σ.2.2.2.2.2.1, .int σ.2.2.2.2.2.2.1, .int σ.2.2.2.2.2.2.2]))]) ⟨hx, hb, hml, hown, hts⟩ (c_X2_stepRing l dC dI h0 σ  _ hw H.size) (cwV 0 hts gX2_stepAllAtOnce_X2_stepRing rfl rfl rfl (by decide +kernel) ⟨Nat.le_of_ble_eq_true rfl, Nat.le_of_ble_eq_true rfl⟩) 1 0 hK rfl rfl rfl hKc hnw hP hD hPc hDc rfl hl.1 rfl (Nat.le_of_ble_eq_true rfl) dX2_stepAllAtOnce_27 ⟨Nat.zero_le _, Nat.zero_le _⟩) hP hD hS hFc [0] [] rfl rfl (by decide) (by decide) (fun u1 H locs hq hP hD hS => ?_)
          obtain ⟨σ4, hw, rfl⟩ := hq
          have hP : va_P (dC, dI) vwCl [(h0, .inr (1, [.int σ4.1, .int σ4.2.1, .int σ4.2.2.1, .int σ4.2.2.2.1, .int σ4.2.2.2.2.1, .int σ4.2.2.2.2.2.1, .int σ4.2.2.2.2.2.2.1, .int σ4.2.2.2.2.2.2.2]))] H := hP
          have hD : va_D A [(h0, .inr (1, [.int σ4.1, .int σ4.2.1, .int σ4.2.2.1, .int σ4.2.2.2.1, .int σ4.2.2.2.2.1, .int σ4.2.2.2.2.2.1, .int σ4.2.2.2.2.2.2.1, .int σ4.2.2.2.2.2.2.2]))] := hD
          refine lv_iinc (v := (x3 + (1 : Int32))) (lv' := [(3, .int (x3 + (1 : Int32))), (2, .int x2), (0, .ref h0), (1, .int x1)]) hx hb dX2_stepAllAtOnce_30 hl (k := 0) rfl rfl (by decide) rfl (fun ls hl => ?_)
          refine lv_goto (tgt := 7) hx hb dX2_stepAllAtOnce_33 (by decide) ?_
          exact ih (x3 + (1 : Int32)) σ4 _ hw hk H locs ls hP hD hS (lv_sub hl [0, 1, 2, 3] rfl)
        · have hw := hw.2 c2
          refine lv_aload_n hx hb dX2_stepAllAtOnce_19 rfl (lv_at hl 2 rfl) ?_
          have hPc := hP
          have hDc := hD
          have hKc := hK
          have hFc := va_free (wc := [(h0, .inr (1, [.int σ.1, .int σ.2.1, .int σ.2.2.1, .int σ.2.2.2.1, .int σ.2.2.2.2.1, .int σ.2.2.2.2.2.1, .int σ.2.2.2.2.2.2.1, .int σ.2.2.2.2.2.2.2]))]) hD hS hA [0] rfl
          refine kc_v (wr := ([] : va_W)) (kr_V (As := []) (rest := []) (b := h0) (ws := [(h0, .inr (1, [.int σ.1, .int σ.2.1, .int σ.2.2.1, .int σ.2.2.2.1, .int σ.2.2.2.2.1, .int σ.2.2.2.2.2.1, .int σ.2.2.2.2.2.2.1, .int σ.2.2.2.2.2.2.2]))]) ⟨hx, hb, hml, hown, hts⟩ (c_X2_stepOpenRow l dC dI h0 σ  _ hw H.size) (cwV 0 hts gX2_stepAllAtOnce_X2_stepOpenRow rfl rfl rfl (by decide +kernel) ⟨Nat.le_of_ble_eq_true rfl, Nat.le_of_ble_eq_true rfl⟩) 1 0 hK rfl rfl rfl hKc hnw hP hD hPc hDc rfl hl.1 rfl (Nat.le_of_ble_eq_true rfl) dX2_stepAllAtOnce_20 ⟨Nat.zero_le _, Nat.zero_le _⟩) hP hD hS hFc [0] [] rfl rfl (by decide) (by decide) (fun u1 H locs hq hP hD hS => ?_)
          obtain ⟨σ6, hw, rfl⟩ := hq
          have hP : va_P (dC, dI) vwCl [(h0, .inr (1, [.int σ6.1, .int σ6.2.1, .int σ6.2.2.1, .int σ6.2.2.2.1, .int σ6.2.2.2.2.1, .int σ6.2.2.2.2.2.1, .int σ6.2.2.2.2.2.2.1, .int σ6.2.2.2.2.2.2.2]))] H := hP
          have hD : va_D A [(h0, .inr (1, [.int σ6.1, .int σ6.2.1, .int σ6.2.2.1, .int σ6.2.2.2.1, .int σ6.2.2.2.2.1, .int σ6.2.2.2.2.2.1, .int σ6.2.2.2.2.2.2.1, .int σ6.2.2.2.2.2.2.2]))] := hD
          refine lv_goto (tgt := 30) hx hb dX2_stepAllAtOnce_23 (by decide) ?_
          refine lv_iinc (v := (x3 + (1 : Int32))) (lv' := [(3, .int (x3 + (1 : Int32))), (2, .int x2), (0, .ref h0), (1, .int x1)]) hx hb dX2_stepAllAtOnce_30 hl (k := 0) rfl rfl (by decide) rfl (fun ls hl => ?_)
          refine lv_goto (tgt := 7) hx hb dX2_stepAllAtOnce_33 (by decide) ?_
          exact ih (x3 + (1 : Int32)) σ6 _ hw hk H locs ls hP hD hS (lv_sub hl [0, 1, 2, 3] rfl)
  have hl := lv_entry ([.ref h0, .int p0]) (n := 4) (Nat.le_of_ble_eq_true rfl)
  rw [lg_entry_eq]
  generalize (lg_sl ([.ref h0, .int p0]) ++ List.replicate (4 - (lg_sl ([.ref h0, .int p0])).length) Slot.unset).toArray = ls at hl ⊢
  have hl : lv_has ls 4 [(0, .ref h0), (1, .int p0)] := hl
  unfold wp_X2_stepAllAtOnce at hw
  skip
  obtain ⟨H, hH⟩ : ∃ H, H = s.heap := ⟨_, rfl⟩
  obtain ⟨locs, hlo⟩ : ∃ q : List Loc, q = [] := ⟨_, rfl⟩
  rw [← hH] at hP
  have hS : va_S A s.heap H locs := by rw [hH, hlo]; exact hS
  suffices hgo : W p l e (headSpec wsX2_stepAllAtOnce ({ frames := 3, cells := 0, slots := 0, locals := 65 } : Room)).room s m _ below meth c H locs 0 0 _ (F0 m 0 ls []) by rw [hH, hlo] at hgo; exact hgo
  refine lv_aload_n hx hb dX2_stepAllAtOnce_0 rfl (lv_at hl 0 rfl) ?_
  refine va_get (D := (dC, dI)) (ci := 1) (v := .int σ.2.2.2.2.2.2.2) (C := RX2) (T := TX2) (N := 8) hx hb hts hin0 hown hK hP 0 rfl rfl 7 (by decide) fl_34 (fun _ h9 => h9) rfl dX2_stepAllAtOnce_1 ?_
  refine lv_istore_n (lv' := [(2, .int σ.2.2.2.2.2.2.2), (0, .ref h0), (1, .int p0)]) hx hb dX2_stepAllAtOnce_4 rfl hl (by decide) rfl (fun ls hl => ?_)
  refine lv_iconst (v := (0 : Int32)) hx hb dX2_stepAllAtOnce_5 (by decide) ?_
  refine lv_istore_n (lv' := [(3, .int (0 : Int32)), (2, .int σ.2.2.2.2.2.2.2), (0, .ref h0), (1, .int p0)]) hx hb dX2_stepAllAtOnce_6 rfl hl (by decide) rfl (fun ls hl => ?_)
  refine L7 p0 σ.2.2.2.2.2.2.2 (20000) (0 : Int32) σ _ hw (fun x3_7 σ8 hw H locs ls hP hD hS hl => ?_) H locs ls hP hD hS (lv_sub hl [0, 1, 2, 3] rfl)
  refine lv_aload_n hx hb dX2_stepAllAtOnce_36 rfl (lv_at hl 2 rfl) ?_
  refine va_get (D := (dC, dI)) (ci := 1) (v := .int σ8.2.2.2.2.2.2.2) (C := RX2) (T := TX2) (N := 8) hx hb hts hin0 hown hK hP 0 rfl rfl 7 (by decide) fl_34 (fun _ h9 => h9) rfl dX2_stepAllAtOnce_37 ?_
  refine lv_iload_n hx hb dX2_stepAllAtOnce_40 rfl (lv_at hl 1 rfl) ?_
  refine lv_isub hx hb dX2_stepAllAtOnce_41 ?_
  exact W.iret (v := (σ8.2.2.2.2.2.2.2 - σ.2.2.2.2.2.2.2)) hx hb hr (fun t ht hW => ⟨⟨(σ8.2.2.2.2.2.2.2 - σ.2.2.2.2.2.2.2), ((cl2 h0 σ8)), rfl, ⟨σ8, hw, rfl⟩, by rw [ht]; exact hP, va_K.moved hW.alike hK, hD⟩, hS.F ht⟩) hS.2.2 dX2_stepAllAtOnce_42
set_option maxHeartbeats 4000000 in
set_option maxRecDepth 100000 in
theorem c_X3_row (l : Launch) (dC : Nat → ClassId) (dI : Nat → Nat → Nat) (h0 hc w0 w1 hs : Nat) (cJ : ClassId) (σ : SO) (p0 : Int32) (p1 : Int32) (p2 : Int32) (post : Int32 → SO → Prop) (hw : wp_X3_row p0 p1 p2 σ post) : KI l yX3_row wsX3_row ({ frames := 5, cells := 0, slots := 0, locals := 117 } : Room) (dC, dI) [(cJ, .long)] (cl3 h0 hc w0 w1 hs cJ σ) [.ref h0, .int p0, .int p1, .int p2] (fun r u => ∃ σ', post r σ' ∧ u = (cl3 h0 hc w0 w1 hs cJ (σ'))) := by
  intro sz
  refine Met.ofW (cc := cX3_row) (maxL := 4) (ret := (some .int)) (by decide) rfl ?_
  intro p e s m args below meth c s₁ B hml hv
  obtain ⟨rfl, hsz, hP, hK, hD0, hnw⟩ := hv
  have hx := B.exec
  have hb := B.bytes
  have hr := B.returns
  have hts := atoms_spec (ws := wsX3_row) B.pre
  have hown : s.vm.findClass RX3 = some m.cls := findClass_of_methodNamed B.named
  have hlocks := B.notSynchronized
  subst hsz
  have hD := hD0.self (sz := s.heap.size)
  generalize hAe : va_A (cl3 h0 hc w0 w1 hs cJ σ) s.heap.size = A at hD ⊢
  have hA : ∀ q : Nat, s.heap.size ≤ q → A q := fun q h => by rw [← hAe]; exact Or.inr h
  have hS : va_S A s.heap s.heap [] := va_S.rf
  have hP : va_P (dC, dI) vwCl [(h0, .inr (2, [.ref hc, .ref hs])), (hc, .inr (0, [.ref w0, .ref w1, .int σ.1.1, .int σ.1.2.1, .int σ.1.2.2.1])), (w0, .inl (cJ, 512, .inr (.inl (σ.1.2.2.2.1)))), (w1, .inl (cJ, 9, .inr (.inl (σ.1.2.2.2.2)))), (hs, .inr (1, [.int σ.2.1, .int σ.2.2.1, .int σ.2.2.2.1, .int σ.2.2.2.2.1, .int σ.2.2.2.2.2.1, .int σ.2.2.2.2.2.2.1, .int σ.2.2.2.2.2.2.2.1, .int σ.2.2.2.2.2.2.2.2]))] s.heap := hP
  have hD : va_D A [(h0, .inr (2, [.ref hc, .ref hs])), (hc, .inr (0, [.ref w0, .ref w1, .int σ.1.1, .int σ.1.2.1, .int σ.1.2.2.1])), (w0, .inl (cJ, 512, .inr (.inl (σ.1.2.2.2.1)))), (w1, .inl (cJ, 9, .inr (.inl (σ.1.2.2.2.2)))), (hs, .inr (1, [.int σ.2.1, .int σ.2.2.1, .int σ.2.2.2.1, .int σ.2.2.2.2.1, .int σ.2.2.2.2.2.1, .int σ.2.2.2.2.2.2.1, .int σ.2.2.2.2.2.2.2.1, .int σ.2.2.2.2.2.2.2.2]))] := hD
  have fl_10 := hts (.fieldLink RX3 10 "OnePlaceEach" "chain" "LOnePlaceEach$Chain;") (by decide +kernel)
  have hin0 : ∀ w ∈ wsX30, w ∈ wsX3_row := by decide +kernel
  have hl := lv_entry ([.ref h0, .int p0, .int p1, .int p2]) (n := 4) (Nat.le_of_ble_eq_true rfl)
  rw [lg_entry_eq]
  generalize (lg_sl ([.ref h0, .int p0, .int p1, .int p2]) ++ List.replicate (4 - (lg_sl ([.ref h0, .int p0, .int p1, .int p2])).length) Slot.unset).toArray = ls at hl ⊢
  have hl : lv_has ls 4 [(0, .ref h0), (1, .int p0), (2, .int p1), (3, .int p2)] := hl
  unfold wp_X3_row at hw
  skip
  obtain ⟨H, hH⟩ : ∃ H, H = s.heap := ⟨_, rfl⟩
  obtain ⟨locs, hlo⟩ : ∃ q : List Loc, q = [] := ⟨_, rfl⟩
  rw [← hH] at hP
  have hS : va_S A s.heap H locs := by rw [hH, hlo]; exact hS
  suffices hgo : W p l e (headSpec wsX3_row ({ frames := 5, cells := 0, slots := 0, locals := 117 } : Room)).room s m _ below meth c H locs 0 0 _ (F0 m 0 ls []) by rw [hH, hlo] at hgo; exact hgo
  refine lv_iload_n hx hb dX3_row_0 rfl (lv_at hl 1 rfl) ?_
  refine lv_iconst (v := (1 : Int32)) hx hb dX3_row_1 (by decide) ?_
  refine lv_bipush (v := (8 : Int32)) hx hb dX3_row_2 (by decide) ?_
  have hPc := hP.sub (ws' := ([] : va_W)) [] rfl
  have hDc := hD.sub (ws' := ([] : va_W)) [] (by decide) rfl
  have hKc := hK.sub (tys' := []) [] rfl
  have hFc := va_free (wc := ([] : va_W)) hD hS hA [] rfl
  refine kc_i (wr := [(h0, .inr (2, [.ref hc, .ref hs])), (hc, .inr (0, [.ref w0, .ref w1, .int σ.1.1, .int σ.1.2.1, .int σ.1.2.2.1])), (w0, .inl (cJ, 512, .inr (.inl (σ.1.2.2.2.1)))), (w1, .inl (cJ, 9, .inr (.inl (σ.1.2.2.2.2)))), (hs, .inr (1, [.int σ.2.1, .int σ.2.2.1, .int σ.2.2.2.1, .int σ.2.2.2.2.1, .int σ.2.2.2.2.2.1, .int σ.2.2.2.2.2.2.1, .int σ.2.2.2.2.2.2.2.1, .int σ.2.2.2.2.2.2.2.2]))]) (kr_S (As := [.int p0, .int (1 : Int32), .int (8 : Int32)]) (rest := []) (ws := [(h0, .inr (2, [.ref hc, .ref hs])), (hc, .inr (0, [.ref w0, .ref w1, .int σ.1.1, .int σ.1.2.1, .int σ.1.2.2.1])), (w0, .inl (cJ, 512, .inr (.inl (σ.1.2.2.2.1)))), (w1, .inl (cJ, 9, .inr (.inl (σ.1.2.2.2.2)))), (hs, .inr (1, [.int σ.2.1, .int σ.2.2.1, .int σ.2.2.2.1, .int σ.2.2.2.2.1, .int σ.2.2.2.2.2.1, .int σ.2.2.2.2.2.2.1, .int σ.2.2.2.2.2.2.2.1, .int σ.2.2.2.2.2.2.2.2]))]) ⟨hx, hb, hml, hown, hts⟩ (c_X3_isWithin l dC dI   p0 (1 : Int32) (8 : Int32) _ hw H.size) (va_cwS 3 hts gX3_row_X3_isWithin rfl rfl rfl (by decide +kernel) ⟨Nat.le_of_ble_eq_true rfl, Nat.le_of_ble_eq_true rfl⟩) hKc hnw hP hD hPc hDc rfl hl.1 rfl (Nat.le_of_ble_eq_true rfl) dX3_row_4 ⟨Nat.zero_le _, Nat.zero_le _⟩) hP hD hS hFc [] [0, 1, 2, 3, 4] rfl rfl (by decide) (by decide) (fun r1 u1 H locs hq hP hD hS => ?_)
  obtain ⟨hw, rfl⟩ := hq
  have hP : va_P (dC, dI) vwCl [(h0, .inr (2, [.ref hc, .ref hs])), (hc, .inr (0, [.ref w0, .ref w1, .int σ.1.1, .int σ.1.2.1, .int σ.1.2.2.1])), (w0, .inl (cJ, 512, .inr (.inl (σ.1.2.2.2.1)))), (w1, .inl (cJ, 9, .inr (.inl (σ.1.2.2.2.2)))), (hs, .inr (1, [.int σ.2.1, .int σ.2.2.1, .int σ.2.2.2.1, .int σ.2.2.2.2.1, .int σ.2.2.2.2.2.1, .int σ.2.2.2.2.2.2.1, .int σ.2.2.2.2.2.2.2.1, .int σ.2.2.2.2.2.2.2.2]))] H := hP
  have hD : va_D A [(h0, .inr (2, [.ref hc, .ref hs])), (hc, .inr (0, [.ref w0, .ref w1, .int σ.1.1, .int σ.1.2.1, .int σ.1.2.2.1])), (w0, .inl (cJ, 512, .inr (.inl (σ.1.2.2.2.1)))), (w1, .inl (cJ, 9, .inr (.inl (σ.1.2.2.2.2)))), (hs, .inr (1, [.int σ.2.1, .int σ.2.2.1, .int σ.2.2.2.1, .int σ.2.2.2.2.1, .int σ.2.2.2.2.2.1, .int σ.2.2.2.2.2.2.1, .int σ.2.2.2.2.2.2.2.1, .int σ.2.2.2.2.2.2.2.2]))] := hD
  refine lv_if_ne (tgt := 12) hx hb dX3_row_7 (by decide) (fun c3 => ?_) (fun c3 => ?_)
  · have hw := hw.1 c3
    refine lv_iload_n hx hb dX3_row_12 rfl (lv_at hl 2 rfl) ?_
    refine lv_iconst (v := (1 : Int32)) hx hb dX3_row_13 (by decide) ?_
    refine lv_bipush (v := (9 : Int32)) hx hb dX3_row_14 (by decide) ?_
    have hPc := hP.sub (ws' := ([] : va_W)) [] rfl
    have hDc := hD.sub (ws' := ([] : va_W)) [] (by decide) rfl
    have hKc := hK.sub (tys' := []) [] rfl
    have hFc := va_free (wc := ([] : va_W)) hD hS hA [] rfl
    refine kc_i (wr := [(h0, .inr (2, [.ref hc, .ref hs])), (hc, .inr (0, [.ref w0, .ref w1, .int σ.1.1, .int σ.1.2.1, .int σ.1.2.2.1])), (w0, .inl (cJ, 512, .inr (.inl (σ.1.2.2.2.1)))), (w1, .inl (cJ, 9, .inr (.inl (σ.1.2.2.2.2)))), (hs, .inr (1, [.int σ.2.1, .int σ.2.2.1, .int σ.2.2.2.1, .int σ.2.2.2.2.1, .int σ.2.2.2.2.2.1, .int σ.2.2.2.2.2.2.1, .int σ.2.2.2.2.2.2.2.1, .int σ.2.2.2.2.2.2.2.2]))]) (kr_S (As := [.int p1, .int (1 : Int32), .int (9 : Int32)]) (rest := []) (ws := [(h0, .inr (2, [.ref hc, .ref hs])), (hc, .inr (0, [.ref w0, .ref w1, .int σ.1.1, .int σ.1.2.1, .int σ.1.2.2.1])), (w0, .inl (cJ, 512, .inr (.inl (σ.1.2.2.2.1)))), (w1, .inl (cJ, 9, .inr (.inl (σ.1.2.2.2.2)))), (hs, .inr (1, [.int σ.2.1, .int σ.2.2.1, .int σ.2.2.2.1, .int σ.2.2.2.2.1, .int σ.2.2.2.2.2.1, .int σ.2.2.2.2.2.2.1, .int σ.2.2.2.2.2.2.2.1, .int σ.2.2.2.2.2.2.2.2]))]) ⟨hx, hb, hml, hown, hts⟩ (c_X3_isWithin l dC dI   p1 (1 : Int32) (9 : Int32) _ hw H.size) (va_cwS 3 hts gX3_row_X3_isWithin rfl rfl rfl (by decide +kernel) ⟨Nat.le_of_ble_eq_true rfl, Nat.le_of_ble_eq_true rfl⟩) hKc hnw hP hD hPc hDc rfl hl.1 rfl (Nat.le_of_ble_eq_true rfl) dX3_row_16 ⟨Nat.zero_le _, Nat.zero_le _⟩) hP hD hS hFc [] [0, 1, 2, 3, 4] rfl rfl (by decide) (by decide) (fun r4 u1 H locs hq hP hD hS => ?_)
    obtain ⟨hw, rfl⟩ := hq
    have hP : va_P (dC, dI) vwCl [(h0, .inr (2, [.ref hc, .ref hs])), (hc, .inr (0, [.ref w0, .ref w1, .int σ.1.1, .int σ.1.2.1, .int σ.1.2.2.1])), (w0, .inl (cJ, 512, .inr (.inl (σ.1.2.2.2.1)))), (w1, .inl (cJ, 9, .inr (.inl (σ.1.2.2.2.2)))), (hs, .inr (1, [.int σ.2.1, .int σ.2.2.1, .int σ.2.2.2.1, .int σ.2.2.2.2.1, .int σ.2.2.2.2.2.1, .int σ.2.2.2.2.2.2.1, .int σ.2.2.2.2.2.2.2.1, .int σ.2.2.2.2.2.2.2.2]))] H := hP
    have hD : va_D A [(h0, .inr (2, [.ref hc, .ref hs])), (hc, .inr (0, [.ref w0, .ref w1, .int σ.1.1, .int σ.1.2.1, .int σ.1.2.2.1])), (w0, .inl (cJ, 512, .inr (.inl (σ.1.2.2.2.1)))), (w1, .inl (cJ, 9, .inr (.inl (σ.1.2.2.2.2)))), (hs, .inr (1, [.int σ.2.1, .int σ.2.2.1, .int σ.2.2.2.1, .int σ.2.2.2.2.1, .int σ.2.2.2.2.2.1, .int σ.2.2.2.2.2.2.1, .int σ.2.2.2.2.2.2.2.1, .int σ.2.2.2.2.2.2.2.2]))] := hD
    refine lv_if_eq (tgt := 32) hx hb dX3_row_19 (by decide) (fun c6 => ?_) (fun c6 => ?_)
    · have hw := hw.1 c6
      refine lv_iconst (v := (-1 : Int32)) hx hb dX3_row_32 (by decide) ?_
      exact W.iret (v := (-1 : Int32)) hx hb hr (fun t ht hW => ⟨⟨(-1 : Int32), ((cl3 h0 hc w0 w1 hs cJ σ)), rfl, ⟨σ, hw, rfl⟩, by rw [ht]; exact hP, va_K.moved hW.alike hK, hD⟩, hS.F ht⟩) hS.2.2 dX3_row_33
    · have hw := hw.2 c6
      refine lv_iload_n hx hb dX3_row_22 rfl (lv_at hl 3 rfl) ?_
      refine lv_iconst (v := (1 : Int32)) hx hb dX3_row_23 (by decide) ?_
      refine lv_bipush (v := (9 : Int32)) hx hb dX3_row_24 (by decide) ?_
      have hPc := hP.sub (ws' := ([] : va_W)) [] rfl
      have hDc := hD.sub (ws' := ([] : va_W)) [] (by decide) rfl
      have hKc := hK.sub (tys' := []) [] rfl
      have hFc := va_free (wc := ([] : va_W)) hD hS hA [] rfl
      refine kc_i (wr := [(h0, .inr (2, [.ref hc, .ref hs])), (hc, .inr (0, [.ref w0, .ref w1, .int σ.1.1, .int σ.1.2.1, .int σ.1.2.2.1])), (w0, .inl (cJ, 512, .inr (.inl (σ.1.2.2.2.1)))), (w1, .inl (cJ, 9, .inr (.inl (σ.1.2.2.2.2)))), (hs, .inr (1, [.int σ.2.1, .int σ.2.2.1, .int σ.2.2.2.1, .int σ.2.2.2.2.1, .int σ.2.2.2.2.2.1, .int σ.2.2.2.2.2.2.1, .int σ.2.2.2.2.2.2.2.1, .int σ.2.2.2.2.2.2.2.2]))]) (kr_S (As := [.int p2, .int (1 : Int32), .int (9 : Int32)]) (rest := []) (ws := [(h0, .inr (2, [.ref hc, .ref hs])), (hc, .inr (0, [.ref w0, .ref w1, .int σ.1.1, .int σ.1.2.1, .int σ.1.2.2.1])), (w0, .inl (cJ, 512, .inr (.inl (σ.1.2.2.2.1)))), (w1, .inl (cJ, 9, .inr (.inl (σ.1.2.2.2.2)))), (hs, .inr (1, [.int σ.2.1, .int σ.2.2.1, .int σ.2.2.2.1, .int σ.2.2.2.2.1, .int σ.2.2.2.2.2.1, .int σ.2.2.2.2.2.2.1, .int σ.2.2.2.2.2.2.2.1, .int σ.2.2.2.2.2.2.2.2]))]) ⟨hx, hb, hml, hown, hts⟩ (c_X3_isWithin l dC dI   p2 (1 : Int32) (9 : Int32) _ hw H.size) (va_cwS 3 hts gX3_row_X3_isWithin rfl rfl rfl (by decide +kernel) ⟨Nat.le_of_ble_eq_true rfl, Nat.le_of_ble_eq_true rfl⟩) hKc hnw hP hD hPc hDc rfl hl.1 rfl (Nat.le_of_ble_eq_true rfl) dX3_row_26 ⟨Nat.zero_le _, Nat.zero_le _⟩) hP hD hS hFc [] [0, 1, 2, 3, 4] rfl rfl (by decide) (by decide) (fun r7 u1 H locs hq hP hD hS => ?_)
      obtain ⟨hw, rfl⟩ := hq
      have hP : va_P (dC, dI) vwCl [(h0, .inr (2, [.ref hc, .ref hs])), (hc, .inr (0, [.ref w0, .ref w1, .int σ.1.1, .int σ.1.2.1, .int σ.1.2.2.1])), (w0, .inl (cJ, 512, .inr (.inl (σ.1.2.2.2.1)))), (w1, .inl (cJ, 9, .inr (.inl (σ.1.2.2.2.2)))), (hs, .inr (1, [.int σ.2.1, .int σ.2.2.1, .int σ.2.2.2.1, .int σ.2.2.2.2.1, .int σ.2.2.2.2.2.1, .int σ.2.2.2.2.2.2.1, .int σ.2.2.2.2.2.2.2.1, .int σ.2.2.2.2.2.2.2.2]))] H := hP
      have hD : va_D A [(h0, .inr (2, [.ref hc, .ref hs])), (hc, .inr (0, [.ref w0, .ref w1, .int σ.1.1, .int σ.1.2.1, .int σ.1.2.2.1])), (w0, .inl (cJ, 512, .inr (.inl (σ.1.2.2.2.1)))), (w1, .inl (cJ, 9, .inr (.inl (σ.1.2.2.2.2)))), (hs, .inr (1, [.int σ.2.1, .int σ.2.2.1, .int σ.2.2.2.1, .int σ.2.2.2.2.1, .int σ.2.2.2.2.2.1, .int σ.2.2.2.2.2.2.1, .int σ.2.2.2.2.2.2.2.1, .int σ.2.2.2.2.2.2.2.2]))] := hD
      refine lv_if_ne (tgt := 34) hx hb dX3_row_29 (by decide) (fun c9 => ?_) (fun c9 => ?_)
      · have hw := hw.1 c9
        refine lv_aload_n hx hb dX3_row_34 rfl (lv_at hl 0 rfl) ?_
        refine va_get (D := (dC, dI)) (ci := 2) (v := .ref hc) (C := RX3) (T := TX3) (N := 2) hx hb hts hin0 hown hK hP 0 rfl rfl 0 (by decide) fl_10 (fun _ h9 => h9) rfl dX3_row_35 ?_
        refine lv_iload_n hx hb dX3_row_38 rfl (lv_at hl 1 rfl) ?_
        refine lv_iload_n hx hb dX3_row_39 rfl (lv_at hl 2 rfl) ?_
        refine lv_iload_n hx hb dX3_row_40 rfl (lv_at hl 3 rfl) ?_
        have hPc := hP.sub (ws' := [(hc, .inr (0, [.ref w0, .ref w1, .int σ.1.1, .int σ.1.2.1, .int σ.1.2.2.1])), (w0, .inl (cJ, 512, .inr (.inl (σ.1.2.2.2.1)))), (w1, .inl (cJ, 9, .inr (.inl (σ.1.2.2.2.2))))]) [1, 2, 3] rfl
        have hDc := hD.sub (ws' := [(hc, .inr (0, [.ref w0, .ref w1, .int σ.1.1, .int σ.1.2.1, .int σ.1.2.2.1])), (w0, .inl (cJ, 512, .inr (.inl (σ.1.2.2.2.1)))), (w1, .inl (cJ, 9, .inr (.inl (σ.1.2.2.2.2))))]) [1, 2, 3] (by decide) rfl
        have hKc := hK.sub (tys' := [(cJ, .long)]) [0] rfl
        have hFc := va_free (wc := [(hc, .inr (0, [.ref w0, .ref w1, .int σ.1.1, .int σ.1.2.1, .int σ.1.2.2.1])), (w0, .inl (cJ, 512, .inr (.inl (σ.1.2.2.2.1)))), (w1, .inl (cJ, 9, .inr (.inl (σ.1.2.2.2.2))))]) hD hS hA [1, 2, 3] rfl
        refine kc_v (wr := [(h0, .inr (2, [.ref hc, .ref hs])), (hs, .inr (1, [.int σ.2.1, .int σ.2.2.1, .int σ.2.2.2.1, .int σ.2.2.2.2.1, .int σ.2.2.2.2.2.1, .int σ.2.2.2.2.2.2.1, .int σ.2.2.2.2.2.2.2.1, .int σ.2.2.2.2.2.2.2.2]))]) (kr_V (As := [.int p0, .int p1, .int p2]) (rest := []) (b := hc) (ws := [(h0, .inr (2, [.ref hc, .ref hs])), (hc, .inr (0, [.ref w0, .ref w1, .int σ.1.1, .int σ.1.2.1, .int σ.1.2.2.1])), (w0, .inl (cJ, 512, .inr (.inl (σ.1.2.2.2.1)))), (w1, .inl (cJ, 9, .inr (.inl (σ.1.2.2.2.2)))), (hs, .inr (1, [.int σ.2.1, .int σ.2.2.1, .int σ.2.2.2.1, .int σ.2.2.2.2.1, .int σ.2.2.2.2.2.1, .int σ.2.2.2.2.2.2.1, .int σ.2.2.2.2.2.2.2.1, .int σ.2.2.2.2.2.2.2.2]))]) ⟨hx, hb, hml, hown, hts⟩ (c_X0_become l dC dI hc w0 w1 cJ σ.1 p0 p1 p2 _ hw H.size) (cwV 3 hts gX3_row_X0_become rfl rfl rfl (by decide +kernel) ⟨Nat.le_of_ble_eq_true rfl, Nat.le_of_ble_eq_true rfl⟩) 0 1 hK rfl rfl rfl hKc hnw hP hD hPc hDc rfl hl.1 rfl (Nat.le_of_ble_eq_true rfl) dX3_row_41 ⟨Nat.zero_le _, Nat.zero_le _⟩) hP hD hS hFc [1, 2, 3] [0, 4] rfl rfl (by decide) (by decide) (fun u1 H locs hq hP hD hS => ?_)
        obtain ⟨σ11, hw, rfl⟩ := hq
        have hP : va_P (dC, dI) vwCl [(h0, .inr (2, [.ref hc, .ref hs])), (hc, .inr (0, [.ref w0, .ref w1, .int σ11.1, .int σ11.2.1, .int σ11.2.2.1])), (w0, .inl (cJ, 512, .inr (.inl (σ11.2.2.2.1)))), (w1, .inl (cJ, 9, .inr (.inl (σ11.2.2.2.2)))), (hs, .inr (1, [.int σ.2.1, .int σ.2.2.1, .int σ.2.2.2.1, .int σ.2.2.2.2.1, .int σ.2.2.2.2.2.1, .int σ.2.2.2.2.2.2.1, .int σ.2.2.2.2.2.2.2.1, .int σ.2.2.2.2.2.2.2.2]))] H := hP.sub [0, 2, 3, 4, 1] rfl
        have hD : va_D A [(h0, .inr (2, [.ref hc, .ref hs])), (hc, .inr (0, [.ref w0, .ref w1, .int σ11.1, .int σ11.2.1, .int σ11.2.2.1])), (w0, .inl (cJ, 512, .inr (.inl (σ11.2.2.2.1)))), (w1, .inl (cJ, 9, .inr (.inl (σ11.2.2.2.2)))), (hs, .inr (1, [.int σ.2.1, .int σ.2.2.1, .int σ.2.2.2.1, .int σ.2.2.2.2.1, .int σ.2.2.2.2.2.1, .int σ.2.2.2.2.2.2.1, .int σ.2.2.2.2.2.2.2.1, .int σ.2.2.2.2.2.2.2.2]))] := hD.sub [0, 2, 3, 4, 1] (by decide) rfl
        refine lv_aload_n hx hb dX3_row_44 rfl (lv_at hl 0 rfl) ?_
        refine va_get (D := (dC, dI)) (ci := 2) (v := .ref hc) (C := RX3) (T := TX3) (N := 2) hx hb hts hin0 hown hK hP 0 rfl rfl 0 (by decide) fl_10 (fun _ h9 => h9) rfl dX3_row_45 ?_
        have hPc := hP.sub (ws' := [(hc, .inr (0, [.ref w0, .ref w1, .int σ11.1, .int σ11.2.1, .int σ11.2.2.1])), (w0, .inl (cJ, 512, .inr (.inl (σ11.2.2.2.1)))), (w1, .inl (cJ, 9, .inr (.inl (σ11.2.2.2.2))))]) [1, 2, 3] rfl
        have hDc := hD.sub (ws' := [(hc, .inr (0, [.ref w0, .ref w1, .int σ11.1, .int σ11.2.1, .int σ11.2.2.1])), (w0, .inl (cJ, 512, .inr (.inl (σ11.2.2.2.1)))), (w1, .inl (cJ, 9, .inr (.inl (σ11.2.2.2.2))))]) [1, 2, 3] (by decide) rfl
        have hKc := hK.sub (tys' := [(cJ, .long)]) [0] rfl
        have hFc := va_free (wc := [(hc, .inr (0, [.ref w0, .ref w1, .int σ11.1, .int σ11.2.1, .int σ11.2.2.1])), (w0, .inl (cJ, 512, .inr (.inl (σ11.2.2.2.1)))), (w1, .inl (cJ, 9, .inr (.inl (σ11.2.2.2.2))))]) hD hS hA [1, 2, 3] rfl
        refine kc_i (wr := [(h0, .inr (2, [.ref hc, .ref hs])), (hs, .inr (1, [.int σ.2.1, .int σ.2.2.1, .int σ.2.2.2.1, .int σ.2.2.2.2.1, .int σ.2.2.2.2.2.1, .int σ.2.2.2.2.2.2.1, .int σ.2.2.2.2.2.2.2.1, .int σ.2.2.2.2.2.2.2.2]))]) (kr_V (As := []) (rest := []) (b := hc) (ws := [(h0, .inr (2, [.ref hc, .ref hs])), (hc, .inr (0, [.ref w0, .ref w1, .int σ11.1, .int σ11.2.1, .int σ11.2.2.1])), (w0, .inl (cJ, 512, .inr (.inl (σ11.2.2.2.1)))), (w1, .inl (cJ, 9, .inr (.inl (σ11.2.2.2.2)))), (hs, .inr (1, [.int σ.2.1, .int σ.2.2.1, .int σ.2.2.2.1, .int σ.2.2.2.2.1, .int σ.2.2.2.2.2.1, .int σ.2.2.2.2.2.2.1, .int σ.2.2.2.2.2.2.2.1, .int σ.2.2.2.2.2.2.2.2]))]) ⟨hx, hb, hml, hown, hts⟩ (c_X0_countStates l dC dI hc w0 w1 cJ σ11  _ hw H.size) (cwV 0 hts gX3_row_X0_countStates rfl rfl rfl (by decide +kernel) ⟨Nat.le_of_ble_eq_true rfl, Nat.le_of_ble_eq_true rfl⟩) 0 1 hK rfl rfl rfl hKc hnw hP hD hPc hDc rfl hl.1 rfl (Nat.le_of_ble_eq_true rfl) dX3_row_48 ⟨Nat.zero_le _, Nat.zero_le _⟩) hP hD hS hFc [1, 2, 3] [0, 4] rfl rfl (by decide) (by decide) (fun r12 u1 H locs hq hP hD hS => ?_)
        obtain ⟨hw, rfl⟩ := hq
        have hP : va_P (dC, dI) vwCl [(h0, .inr (2, [.ref hc, .ref hs])), (hc, .inr (0, [.ref w0, .ref w1, .int σ11.1, .int σ11.2.1, .int σ11.2.2.1])), (w0, .inl (cJ, 512, .inr (.inl (σ11.2.2.2.1)))), (w1, .inl (cJ, 9, .inr (.inl (σ11.2.2.2.2)))), (hs, .inr (1, [.int σ.2.1, .int σ.2.2.1, .int σ.2.2.2.1, .int σ.2.2.2.2.1, .int σ.2.2.2.2.2.1, .int σ.2.2.2.2.2.2.1, .int σ.2.2.2.2.2.2.2.1, .int σ.2.2.2.2.2.2.2.2]))] H := hP.sub [0, 2, 3, 4, 1] rfl
        have hD : va_D A [(h0, .inr (2, [.ref hc, .ref hs])), (hc, .inr (0, [.ref w0, .ref w1, .int σ11.1, .int σ11.2.1, .int σ11.2.2.1])), (w0, .inl (cJ, 512, .inr (.inl (σ11.2.2.2.1)))), (w1, .inl (cJ, 9, .inr (.inl (σ11.2.2.2.2)))), (hs, .inr (1, [.int σ.2.1, .int σ.2.2.1, .int σ.2.2.2.1, .int σ.2.2.2.2.1, .int σ.2.2.2.2.2.1, .int σ.2.2.2.2.2.2.1, .int σ.2.2.2.2.2.2.2.1, .int σ.2.2.2.2.2.2.2.2]))] := hD.sub [0, 2, 3, 4, 1] (by decide) rfl
        exact W.iret (v := r12) hx hb hr (fun t ht hW => ⟨⟨r12, ((cl3 h0 hc w0 w1 hs cJ (σ11, σ.2))), rfl, ⟨(σ11, σ.2), hw, rfl⟩, by rw [ht]; exact hP, va_K.moved hW.alike hK, hD⟩, hS.F ht⟩) hS.2.2 dX3_row_51
      · have hw := hw.2 c9
        refine lv_iconst (v := (-1 : Int32)) hx hb dX3_row_32 (by decide) ?_
        exact W.iret (v := (-1 : Int32)) hx hb hr (fun t ht hW => ⟨⟨(-1 : Int32), ((cl3 h0 hc w0 w1 hs cJ σ)), rfl, ⟨σ, hw, rfl⟩, by rw [ht]; exact hP, va_K.moved hW.alike hK, hD⟩, hS.F ht⟩) hS.2.2 dX3_row_33
  · have hw := hw.2 c3
    refine lv_iconst (v := (-1 : Int32)) hx hb dX3_row_10 (by decide) ?_
    exact W.iret (v := (-1 : Int32)) hx hb hr (fun t ht hW => ⟨⟨(-1 : Int32), ((cl3 h0 hc w0 w1 hs cJ σ)), rfl, ⟨σ, hw, rfl⟩, by rw [ht]; exact hP, va_K.moved hW.alike hK, hD⟩, hS.F ht⟩) hS.2.2 dX3_row_11
set_option maxHeartbeats 4000000 in
set_option maxRecDepth 100000 in
theorem c_X3_weight (l : Launch) (dC : Nat → ClassId) (dI : Nat → Nat → Nat) (h0 hc w0 w1 hs : Nat) (cJ : ClassId) (σ : SO) (p0 : Int32) (post : Int64 → Prop) (hw : wp_X3_weight p0 σ post) : KL l yX3_weight wsX3_weight ({ frames := 2, cells := 0, slots := 0, locals := 44 } : Room) (dC, dI) [(cJ, .long)] (cl3 h0 hc w0 w1 hs cJ σ) [.ref h0, .int p0] (fun r u => post r ∧ u = (cl3 h0 hc w0 w1 hs cJ σ)) := by
  intro sz
  refine Met.ofW (cc := cX3_weight) (maxL := 2) (ret := (some .long)) (by decide) rfl ?_
  intro p e s m args below meth c s₁ B hml hv
  obtain ⟨rfl, hsz, hP, hK, hD0, hnw⟩ := hv
  have hx := B.exec
  have hb := B.bytes
  have hr := B.returns
  have hts := atoms_spec (ws := wsX3_weight) B.pre
  have hown : s.vm.findClass RX3 = some m.cls := findClass_of_methodNamed B.named
  have hlocks := B.notSynchronized
  subst hsz
  have hD := hD0.self (sz := s.heap.size)
  generalize hAe : va_A (cl3 h0 hc w0 w1 hs cJ σ) s.heap.size = A at hD ⊢
  have hA : ∀ q : Nat, s.heap.size ≤ q → A q := fun q h => by rw [← hAe]; exact Or.inr h
  have hS : va_S A s.heap s.heap [] := va_S.rf
  have hP : va_P (dC, dI) vwCl [(h0, .inr (2, [.ref hc, .ref hs])), (hc, .inr (0, [.ref w0, .ref w1, .int σ.1.1, .int σ.1.2.1, .int σ.1.2.2.1])), (w0, .inl (cJ, 512, .inr (.inl (σ.1.2.2.2.1)))), (w1, .inl (cJ, 9, .inr (.inl (σ.1.2.2.2.2)))), (hs, .inr (1, [.int σ.2.1, .int σ.2.2.1, .int σ.2.2.2.1, .int σ.2.2.2.2.1, .int σ.2.2.2.2.2.1, .int σ.2.2.2.2.2.2.1, .int σ.2.2.2.2.2.2.2.1, .int σ.2.2.2.2.2.2.2.2]))] s.heap := hP
  have hD : va_D A [(h0, .inr (2, [.ref hc, .ref hs])), (hc, .inr (0, [.ref w0, .ref w1, .int σ.1.1, .int σ.1.2.1, .int σ.1.2.2.1])), (w0, .inl (cJ, 512, .inr (.inl (σ.1.2.2.2.1)))), (w1, .inl (cJ, 9, .inr (.inl (σ.1.2.2.2.2)))), (hs, .inr (1, [.int σ.2.1, .int σ.2.2.1, .int σ.2.2.2.1, .int σ.2.2.2.2.1, .int σ.2.2.2.2.2.1, .int σ.2.2.2.2.2.2.1, .int σ.2.2.2.2.2.2.2.1, .int σ.2.2.2.2.2.2.2.2]))] := hD
  have fl_10 := hts (.fieldLink RX3 10 "OnePlaceEach" "chain" "LOnePlaceEach$Chain;") (by decide +kernel)
  have hin0 : ∀ w ∈ wsX30, w ∈ wsX3_weight := by decide +kernel
  have hl := lv_entry ([.ref h0, .int p0]) (n := 2) (Nat.le_of_ble_eq_true rfl)
  rw [lg_entry_eq]
  generalize (lg_sl ([.ref h0, .int p0]) ++ List.replicate (2 - (lg_sl ([.ref h0, .int p0])).length) Slot.unset).toArray = ls at hl ⊢
  have hl : lv_has ls 2 [(0, .ref h0), (1, .int p0)] := hl
  unfold wp_X3_weight at hw
  skip
  obtain ⟨H, hH⟩ : ∃ H, H = s.heap := ⟨_, rfl⟩
  obtain ⟨locs, hlo⟩ : ∃ q : List Loc, q = [] := ⟨_, rfl⟩
  rw [← hH] at hP
  have hS : va_S A s.heap H locs := by rw [hH, hlo]; exact hS
  suffices hgo : W p l e (headSpec wsX3_weight ({ frames := 2, cells := 0, slots := 0, locals := 44 } : Room)).room s m _ below meth c H locs 0 0 _ (F0 m 0 ls []) by rw [hH, hlo] at hgo; exact hgo
  refine lv_aload_n hx hb dX3_weight_0 rfl (lv_at hl 0 rfl) ?_
  refine va_get (D := (dC, dI)) (ci := 2) (v := .ref hc) (C := RX3) (T := TX3) (N := 2) hx hb hts hin0 hown hK hP 0 rfl rfl 0 (by decide) fl_10 (fun _ h9 => h9) rfl dX3_weight_1 ?_
  refine lv_iload_n hx hb dX3_weight_4 rfl (lv_at hl 1 rfl) ?_
  have hPc := hP.sub (ws' := [(hc, .inr (0, [.ref w0, .ref w1, .int σ.1.1, .int σ.1.2.1, .int σ.1.2.2.1])), (w0, .inl (cJ, 512, .inr (.inl (σ.1.2.2.2.1)))), (w1, .inl (cJ, 9, .inr (.inl (σ.1.2.2.2.2))))]) [1, 2, 3] rfl
  have hDc := hD.sub (ws' := [(hc, .inr (0, [.ref w0, .ref w1, .int σ.1.1, .int σ.1.2.1, .int σ.1.2.2.1])), (w0, .inl (cJ, 512, .inr (.inl (σ.1.2.2.2.1)))), (w1, .inl (cJ, 9, .inr (.inl (σ.1.2.2.2.2))))]) [1, 2, 3] (by decide) rfl
  have hKc := hK.sub (tys' := [(cJ, .long)]) [0] rfl
  have hFc := va_free (wc := [(hc, .inr (0, [.ref w0, .ref w1, .int σ.1.1, .int σ.1.2.1, .int σ.1.2.2.1])), (w0, .inl (cJ, 512, .inr (.inl (σ.1.2.2.2.1)))), (w1, .inl (cJ, 9, .inr (.inl (σ.1.2.2.2.2))))]) hD hS hA [1, 2, 3] rfl
  refine kc_i (wr := [(h0, .inr (2, [.ref hc, .ref hs])), (hs, .inr (1, [.int σ.2.1, .int σ.2.2.1, .int σ.2.2.2.1, .int σ.2.2.2.2.1, .int σ.2.2.2.2.2.1, .int σ.2.2.2.2.2.2.1, .int σ.2.2.2.2.2.2.2.1, .int σ.2.2.2.2.2.2.2.2]))]) (kr_V (As := [.int p0]) (rest := []) (b := hc) (ws := [(h0, .inr (2, [.ref hc, .ref hs])), (hc, .inr (0, [.ref w0, .ref w1, .int σ.1.1, .int σ.1.2.1, .int σ.1.2.2.1])), (w0, .inl (cJ, 512, .inr (.inl (σ.1.2.2.2.1)))), (w1, .inl (cJ, 9, .inr (.inl (σ.1.2.2.2.2)))), (hs, .inr (1, [.int σ.2.1, .int σ.2.2.1, .int σ.2.2.2.1, .int σ.2.2.2.2.1, .int σ.2.2.2.2.2.1, .int σ.2.2.2.2.2.2.1, .int σ.2.2.2.2.2.2.2.1, .int σ.2.2.2.2.2.2.2.2]))]) ⟨hx, hb, hml, hown, hts⟩ (c_X0_hasState l dC dI hc w0 w1 cJ σ.1 p0 _ hw H.size) (cwV 1 hts gX3_weight_X0_hasState rfl rfl rfl (by decide +kernel) ⟨Nat.le_of_ble_eq_true rfl, Nat.le_of_ble_eq_true rfl⟩) 0 1 hK rfl rfl rfl hKc hnw hP hD hPc hDc rfl hl.1 rfl (Nat.le_of_ble_eq_true rfl) dX3_weight_5 ⟨Nat.zero_le _, Nat.zero_le _⟩) hP hD hS hFc [1, 2, 3] [0, 4] rfl rfl (by decide) (by decide) (fun r1 u1 H locs hq hP hD hS => ?_)
  obtain ⟨hw, rfl⟩ := hq
  have hP : va_P (dC, dI) vwCl [(h0, .inr (2, [.ref hc, .ref hs])), (hc, .inr (0, [.ref w0, .ref w1, .int σ.1.1, .int σ.1.2.1, .int σ.1.2.2.1])), (w0, .inl (cJ, 512, .inr (.inl (σ.1.2.2.2.1)))), (w1, .inl (cJ, 9, .inr (.inl (σ.1.2.2.2.2)))), (hs, .inr (1, [.int σ.2.1, .int σ.2.2.1, .int σ.2.2.2.1, .int σ.2.2.2.2.1, .int σ.2.2.2.2.2.1, .int σ.2.2.2.2.2.2.1, .int σ.2.2.2.2.2.2.2.1, .int σ.2.2.2.2.2.2.2.2]))] H := hP.sub [0, 2, 3, 4, 1] rfl
  have hD : va_D A [(h0, .inr (2, [.ref hc, .ref hs])), (hc, .inr (0, [.ref w0, .ref w1, .int σ.1.1, .int σ.1.2.1, .int σ.1.2.2.1])), (w0, .inl (cJ, 512, .inr (.inl (σ.1.2.2.2.1)))), (w1, .inl (cJ, 9, .inr (.inl (σ.1.2.2.2.2)))), (hs, .inr (1, [.int σ.2.1, .int σ.2.2.1, .int σ.2.2.2.1, .int σ.2.2.2.2.1, .int σ.2.2.2.2.2.1, .int σ.2.2.2.2.2.2.1, .int σ.2.2.2.2.2.2.2.1, .int σ.2.2.2.2.2.2.2.2]))] := hD.sub [0, 2, 3, 4, 1] (by decide) rfl
  refine lv_if_eq (tgt := 22) hx hb dX3_weight_8 (by decide) (fun c3 => ?_) (fun c3 => ?_)
  · have hw := hw.1 c3
    refine lv_ldc2 (v := (-1 : Int64)) hx hb hown (hts (.constantLong RX3 43 (-1 : Int64)) (by decide +kernel)) dX3_weight_22 ?_
    exact W.lret (v := (-1 : Int64)) hx hb hr (fun t ht hW => ⟨⟨(-1 : Int64), ((cl3 h0 hc w0 w1 hs cJ σ)), rfl, ⟨hw, rfl⟩, by rw [ht]; exact hP, va_K.moved hW.alike hK, hD⟩, hS.F ht⟩) hS.2.2 dX3_weight_25
  · have hw := hw.2 c3
    refine lv_aload_n hx hb dX3_weight_11 rfl (lv_at hl 0 rfl) ?_
    refine va_get (D := (dC, dI)) (ci := 2) (v := .ref hc) (C := RX3) (T := TX3) (N := 2) hx hb hts hin0 hown hK hP 0 rfl rfl 0 (by decide) fl_10 (fun _ h9 => h9) rfl dX3_weight_12 ?_
    refine lv_iload_n hx hb dX3_weight_15 rfl (lv_at hl 1 rfl) ?_
    have hPc := hP.sub (ws' := [(hc, .inr (0, [.ref w0, .ref w1, .int σ.1.1, .int σ.1.2.1, .int σ.1.2.2.1])), (w0, .inl (cJ, 512, .inr (.inl (σ.1.2.2.2.1)))), (w1, .inl (cJ, 9, .inr (.inl (σ.1.2.2.2.2))))]) [1, 2, 3] rfl
    have hDc := hD.sub (ws' := [(hc, .inr (0, [.ref w0, .ref w1, .int σ.1.1, .int σ.1.2.1, .int σ.1.2.2.1])), (w0, .inl (cJ, 512, .inr (.inl (σ.1.2.2.2.1)))), (w1, .inl (cJ, 9, .inr (.inl (σ.1.2.2.2.2))))]) [1, 2, 3] (by decide) rfl
    have hKc := hK.sub (tys' := [(cJ, .long)]) [0] rfl
    have hFc := va_free (wc := [(hc, .inr (0, [.ref w0, .ref w1, .int σ.1.1, .int σ.1.2.1, .int σ.1.2.2.1])), (w0, .inl (cJ, 512, .inr (.inl (σ.1.2.2.2.1)))), (w1, .inl (cJ, 9, .inr (.inl (σ.1.2.2.2.2))))]) hD hS hA [1, 2, 3] rfl
    refine kc_l (wr := [(h0, .inr (2, [.ref hc, .ref hs])), (hs, .inr (1, [.int σ.2.1, .int σ.2.2.1, .int σ.2.2.2.1, .int σ.2.2.2.2.1, .int σ.2.2.2.2.2.1, .int σ.2.2.2.2.2.2.1, .int σ.2.2.2.2.2.2.2.1, .int σ.2.2.2.2.2.2.2.2]))]) (kr_V (As := [.int p0]) (rest := []) (b := hc) (ws := [(h0, .inr (2, [.ref hc, .ref hs])), (hc, .inr (0, [.ref w0, .ref w1, .int σ.1.1, .int σ.1.2.1, .int σ.1.2.2.1])), (w0, .inl (cJ, 512, .inr (.inl (σ.1.2.2.2.1)))), (w1, .inl (cJ, 9, .inr (.inl (σ.1.2.2.2.2)))), (hs, .inr (1, [.int σ.2.1, .int σ.2.2.1, .int σ.2.2.2.1, .int σ.2.2.2.2.1, .int σ.2.2.2.2.2.1, .int σ.2.2.2.2.2.2.1, .int σ.2.2.2.2.2.2.2.1, .int σ.2.2.2.2.2.2.2.2]))]) ⟨hx, hb, hml, hown, hts⟩ (c_X0_weightOf l dC dI hc w0 w1 cJ σ.1 p0 _ hw H.size) (cwV 1 hts gX3_weight_X0_weightOf rfl rfl rfl (by decide +kernel) ⟨Nat.le_of_ble_eq_true rfl, Nat.le_of_ble_eq_true rfl⟩) 0 1 hK rfl rfl rfl hKc hnw hP hD hPc hDc rfl hl.1 rfl (Nat.le_of_ble_eq_true rfl) dX3_weight_16 ⟨Nat.zero_le _, Nat.zero_le _⟩) hP hD hS hFc [1, 2, 3] [0, 4] rfl rfl (by decide) (by decide) (fun r4 u1 H locs hq hP hD hS => ?_)
    obtain ⟨hw, rfl⟩ := hq
    have hP : va_P (dC, dI) vwCl [(h0, .inr (2, [.ref hc, .ref hs])), (hc, .inr (0, [.ref w0, .ref w1, .int σ.1.1, .int σ.1.2.1, .int σ.1.2.2.1])), (w0, .inl (cJ, 512, .inr (.inl (σ.1.2.2.2.1)))), (w1, .inl (cJ, 9, .inr (.inl (σ.1.2.2.2.2)))), (hs, .inr (1, [.int σ.2.1, .int σ.2.2.1, .int σ.2.2.2.1, .int σ.2.2.2.2.1, .int σ.2.2.2.2.2.1, .int σ.2.2.2.2.2.2.1, .int σ.2.2.2.2.2.2.2.1, .int σ.2.2.2.2.2.2.2.2]))] H := hP.sub [0, 2, 3, 4, 1] rfl
    have hD : va_D A [(h0, .inr (2, [.ref hc, .ref hs])), (hc, .inr (0, [.ref w0, .ref w1, .int σ.1.1, .int σ.1.2.1, .int σ.1.2.2.1])), (w0, .inl (cJ, 512, .inr (.inl (σ.1.2.2.2.1)))), (w1, .inl (cJ, 9, .inr (.inl (σ.1.2.2.2.2)))), (hs, .inr (1, [.int σ.2.1, .int σ.2.2.1, .int σ.2.2.2.1, .int σ.2.2.2.2.1, .int σ.2.2.2.2.2.1, .int σ.2.2.2.2.2.2.1, .int σ.2.2.2.2.2.2.2.1, .int σ.2.2.2.2.2.2.2.2]))] := hD.sub [0, 2, 3, 4, 1] (by decide) rfl
    refine lv_goto (tgt := 25) hx hb dX3_weight_19 (by decide) ?_
    exact W.lret (v := r4) hx hb hr (fun t ht hW => ⟨⟨r4, ((cl3 h0 hc w0 w1 hs cJ σ)), rfl, ⟨hw, rfl⟩, by rw [ht]; exact hP, va_K.moved hW.alike hK, hD⟩, hS.F ht⟩) hS.2.2 dX3_weight_25
set_option maxHeartbeats 4000000 in
set_option maxRecDepth 100000 in
theorem c_X3_sum (l : Launch) (dC : Nat → ClassId) (dI : Nat → Nat → Nat) (h0 hc w0 w1 hs : Nat) (cJ : ClassId) (σ : SO) (p0 : Int32) (post : Int64 → Prop) (hw : wp_X3_sum p0 σ post) : KL l yX3_sum wsX3_sum ({ frames := 1, cells := 0, slots := 0, locals := 22 } : Room) (dC, dI) [(cJ, .long)] (cl3 h0 hc w0 w1 hs cJ σ) [.ref h0, .int p0] (fun r u => post r ∧ u = (cl3 h0 hc w0 w1 hs cJ σ)) := by
  intro sz
  refine Met.ofW (cc := cX3_sum) (maxL := 2) (ret := (some .long)) (by decide) rfl ?_
  intro p e s m args below meth c s₁ B hml hv
  obtain ⟨rfl, hsz, hP, hK, hD0, hnw⟩ := hv
  have hx := B.exec
  have hb := B.bytes
  have hr := B.returns
  have hts := atoms_spec (ws := wsX3_sum) B.pre
  have hown : s.vm.findClass RX3 = some m.cls := findClass_of_methodNamed B.named
  have hlocks := B.notSynchronized
  subst hsz
  have hD := hD0.self (sz := s.heap.size)
  generalize hAe : va_A (cl3 h0 hc w0 w1 hs cJ σ) s.heap.size = A at hD ⊢
  have hA : ∀ q : Nat, s.heap.size ≤ q → A q := fun q h => by rw [← hAe]; exact Or.inr h
  have hS : va_S A s.heap s.heap [] := va_S.rf
  have hP : va_P (dC, dI) vwCl [(h0, .inr (2, [.ref hc, .ref hs])), (hc, .inr (0, [.ref w0, .ref w1, .int σ.1.1, .int σ.1.2.1, .int σ.1.2.2.1])), (w0, .inl (cJ, 512, .inr (.inl (σ.1.2.2.2.1)))), (w1, .inl (cJ, 9, .inr (.inl (σ.1.2.2.2.2)))), (hs, .inr (1, [.int σ.2.1, .int σ.2.2.1, .int σ.2.2.2.1, .int σ.2.2.2.2.1, .int σ.2.2.2.2.2.1, .int σ.2.2.2.2.2.2.1, .int σ.2.2.2.2.2.2.2.1, .int σ.2.2.2.2.2.2.2.2]))] s.heap := hP
  have hD : va_D A [(h0, .inr (2, [.ref hc, .ref hs])), (hc, .inr (0, [.ref w0, .ref w1, .int σ.1.1, .int σ.1.2.1, .int σ.1.2.2.1])), (w0, .inl (cJ, 512, .inr (.inl (σ.1.2.2.2.1)))), (w1, .inl (cJ, 9, .inr (.inl (σ.1.2.2.2.2)))), (hs, .inr (1, [.int σ.2.1, .int σ.2.2.1, .int σ.2.2.2.1, .int σ.2.2.2.2.1, .int σ.2.2.2.2.2.1, .int σ.2.2.2.2.2.2.1, .int σ.2.2.2.2.2.2.2.1, .int σ.2.2.2.2.2.2.2.2]))] := hD
  have fl_10 := hts (.fieldLink RX3 10 "OnePlaceEach" "chain" "LOnePlaceEach$Chain;") (by decide +kernel)
  have hin0 : ∀ w ∈ wsX30, w ∈ wsX3_sum := by decide +kernel
  have hl := lv_entry ([.ref h0, .int p0]) (n := 2) (Nat.le_of_ble_eq_true rfl)
  rw [lg_entry_eq]
  generalize (lg_sl ([.ref h0, .int p0]) ++ List.replicate (2 - (lg_sl ([.ref h0, .int p0])).length) Slot.unset).toArray = ls at hl ⊢
  have hl : lv_has ls 2 [(0, .ref h0), (1, .int p0)] := hl
  unfold wp_X3_sum at hw
  skip
  obtain ⟨H, hH⟩ : ∃ H, H = s.heap := ⟨_, rfl⟩
  obtain ⟨locs, hlo⟩ : ∃ q : List Loc, q = [] := ⟨_, rfl⟩
  rw [← hH] at hP
  have hS : va_S A s.heap H locs := by rw [hH, hlo]; exact hS
  suffices hgo : W p l e (headSpec wsX3_sum ({ frames := 1, cells := 0, slots := 0, locals := 22 } : Room)).room s m _ below meth c H locs 0 0 _ (F0 m 0 ls []) by rw [hH, hlo] at hgo; exact hgo
  refine lv_iload_n hx hb dX3_sum_0 rfl (lv_at hl 1 rfl) ?_
  refine lv_iconst (v := (0 : Int32)) hx hb dX3_sum_1 (by decide) ?_
  refine lv_bipush (v := (8 : Int32)) hx hb dX3_sum_2 (by decide) ?_
  have hPc := hP.sub (ws' := ([] : va_W)) [] rfl
  have hDc := hD.sub (ws' := ([] : va_W)) [] (by decide) rfl
  have hKc := hK.sub (tys' := []) [] rfl
  have hFc := va_free (wc := ([] : va_W)) hD hS hA [] rfl
  refine kc_i (wr := [(h0, .inr (2, [.ref hc, .ref hs])), (hc, .inr (0, [.ref w0, .ref w1, .int σ.1.1, .int σ.1.2.1, .int σ.1.2.2.1])), (w0, .inl (cJ, 512, .inr (.inl (σ.1.2.2.2.1)))), (w1, .inl (cJ, 9, .inr (.inl (σ.1.2.2.2.2)))), (hs, .inr (1, [.int σ.2.1, .int σ.2.2.1, .int σ.2.2.2.1, .int σ.2.2.2.2.1, .int σ.2.2.2.2.2.1, .int σ.2.2.2.2.2.2.1, .int σ.2.2.2.2.2.2.2.1, .int σ.2.2.2.2.2.2.2.2]))]) (kr_S (As := [.int p0, .int (0 : Int32), .int (8 : Int32)]) (rest := []) (ws := [(h0, .inr (2, [.ref hc, .ref hs])), (hc, .inr (0, [.ref w0, .ref w1, .int σ.1.1, .int σ.1.2.1, .int σ.1.2.2.1])), (w0, .inl (cJ, 512, .inr (.inl (σ.1.2.2.2.1)))), (w1, .inl (cJ, 9, .inr (.inl (σ.1.2.2.2.2)))), (hs, .inr (1, [.int σ.2.1, .int σ.2.2.1, .int σ.2.2.2.1, .int σ.2.2.2.2.1, .int σ.2.2.2.2.2.1, .int σ.2.2.2.2.2.2.1, .int σ.2.2.2.2.2.2.2.1, .int σ.2.2.2.2.2.2.2.2]))]) ⟨hx, hb, hml, hown, hts⟩ (c_X3_isWithin l dC dI   p0 (0 : Int32) (8 : Int32) _ hw H.size) (va_cwS 3 hts gX3_sum_X3_isWithin rfl rfl rfl (by decide +kernel) ⟨Nat.le_of_ble_eq_true rfl, Nat.le_of_ble_eq_true rfl⟩) hKc hnw hP hD hPc hDc rfl hl.1 rfl (Nat.le_of_ble_eq_true rfl) dX3_sum_4 ⟨Nat.zero_le _, Nat.zero_le _⟩) hP hD hS hFc [] [0, 1, 2, 3, 4] rfl rfl (by decide) (by decide) (fun r1 u1 H locs hq hP hD hS => ?_)
  obtain ⟨hw, rfl⟩ := hq
  have hP : va_P (dC, dI) vwCl [(h0, .inr (2, [.ref hc, .ref hs])), (hc, .inr (0, [.ref w0, .ref w1, .int σ.1.1, .int σ.1.2.1, .int σ.1.2.2.1])), (w0, .inl (cJ, 512, .inr (.inl (σ.1.2.2.2.1)))), (w1, .inl (cJ, 9, .inr (.inl (σ.1.2.2.2.2)))), (hs, .inr (1, [.int σ.2.1, .int σ.2.2.1, .int σ.2.2.2.1, .int σ.2.2.2.2.1, .int σ.2.2.2.2.2.1, .int σ.2.2.2.2.2.2.1, .int σ.2.2.2.2.2.2.2.1, .int σ.2.2.2.2.2.2.2.2]))] H := hP
  have hD : va_D A [(h0, .inr (2, [.ref hc, .ref hs])), (hc, .inr (0, [.ref w0, .ref w1, .int σ.1.1, .int σ.1.2.1, .int σ.1.2.2.1])), (w0, .inl (cJ, 512, .inr (.inl (σ.1.2.2.2.1)))), (w1, .inl (cJ, 9, .inr (.inl (σ.1.2.2.2.2)))), (hs, .inr (1, [.int σ.2.1, .int σ.2.2.1, .int σ.2.2.2.1, .int σ.2.2.2.2.1, .int σ.2.2.2.2.2.1, .int σ.2.2.2.2.2.2.1, .int σ.2.2.2.2.2.2.2.1, .int σ.2.2.2.2.2.2.2.2]))] := hD
  refine lv_if_eq (tgt := 21) hx hb dX3_sum_7 (by decide) (fun c3 => ?_) (fun c3 => ?_)
  · have hw := hw.1 c3
    refine lv_ldc2 (v := (-1 : Int64)) hx hb hown (hts (.constantLong RX3 43 (-1 : Int64)) (by decide +kernel)) dX3_sum_21 ?_
    exact W.lret (v := (-1 : Int64)) hx hb hr (fun t ht hW => ⟨⟨(-1 : Int64), ((cl3 h0 hc w0 w1 hs cJ σ)), rfl, ⟨hw, rfl⟩, by rw [ht]; exact hP, va_K.moved hW.alike hK, hD⟩, hS.F ht⟩) hS.2.2 dX3_sum_24
  · have hw := hw.2 c3
    refine lv_aload_n hx hb dX3_sum_10 rfl (lv_at hl 0 rfl) ?_
    refine va_get (D := (dC, dI)) (ci := 2) (v := .ref hc) (C := RX3) (T := TX3) (N := 2) hx hb hts hin0 hown hK hP 0 rfl rfl 0 (by decide) fl_10 (fun _ h9 => h9) rfl dX3_sum_11 ?_
    refine lv_iload_n hx hb dX3_sum_14 rfl (lv_at hl 1 rfl) ?_
    have hPc := hP.sub (ws' := [(hc, .inr (0, [.ref w0, .ref w1, .int σ.1.1, .int σ.1.2.1, .int σ.1.2.2.1])), (w0, .inl (cJ, 512, .inr (.inl (σ.1.2.2.2.1)))), (w1, .inl (cJ, 9, .inr (.inl (σ.1.2.2.2.2))))]) [1, 2, 3] rfl
    have hDc := hD.sub (ws' := [(hc, .inr (0, [.ref w0, .ref w1, .int σ.1.1, .int σ.1.2.1, .int σ.1.2.2.1])), (w0, .inl (cJ, 512, .inr (.inl (σ.1.2.2.2.1)))), (w1, .inl (cJ, 9, .inr (.inl (σ.1.2.2.2.2))))]) [1, 2, 3] (by decide) rfl
    have hKc := hK.sub (tys' := [(cJ, .long)]) [0] rfl
    have hFc := va_free (wc := [(hc, .inr (0, [.ref w0, .ref w1, .int σ.1.1, .int σ.1.2.1, .int σ.1.2.2.1])), (w0, .inl (cJ, 512, .inr (.inl (σ.1.2.2.2.1)))), (w1, .inl (cJ, 9, .inr (.inl (σ.1.2.2.2.2))))]) hD hS hA [1, 2, 3] rfl
    refine kc_l (wr := [(h0, .inr (2, [.ref hc, .ref hs])), (hs, .inr (1, [.int σ.2.1, .int σ.2.2.1, .int σ.2.2.2.1, .int σ.2.2.2.2.1, .int σ.2.2.2.2.2.1, .int σ.2.2.2.2.2.2.1, .int σ.2.2.2.2.2.2.2.1, .int σ.2.2.2.2.2.2.2.2]))]) (kr_V (As := [.int p0]) (rest := []) (b := hc) (ws := [(h0, .inr (2, [.ref hc, .ref hs])), (hc, .inr (0, [.ref w0, .ref w1, .int σ.1.1, .int σ.1.2.1, .int σ.1.2.2.1])), (w0, .inl (cJ, 512, .inr (.inl (σ.1.2.2.2.1)))), (w1, .inl (cJ, 9, .inr (.inl (σ.1.2.2.2.2)))), (hs, .inr (1, [.int σ.2.1, .int σ.2.2.1, .int σ.2.2.2.1, .int σ.2.2.2.2.1, .int σ.2.2.2.2.2.1, .int σ.2.2.2.2.2.2.1, .int σ.2.2.2.2.2.2.2.1, .int σ.2.2.2.2.2.2.2.2]))]) ⟨hx, hb, hml, hown, hts⟩ (c_X0_sumOf l dC dI hc w0 w1 cJ σ.1 p0 _ hw H.size) (cwV 1 hts gX3_sum_X0_sumOf rfl rfl rfl (by decide +kernel) ⟨Nat.le_of_ble_eq_true rfl, Nat.le_of_ble_eq_true rfl⟩) 0 1 hK rfl rfl rfl hKc hnw hP hD hPc hDc rfl hl.1 rfl (Nat.le_of_ble_eq_true rfl) dX3_sum_15 ⟨Nat.zero_le _, Nat.zero_le _⟩) hP hD hS hFc [1, 2, 3] [0, 4] rfl rfl (by decide) (by decide) (fun r4 u1 H locs hq hP hD hS => ?_)
    obtain ⟨hw, rfl⟩ := hq
    have hP : va_P (dC, dI) vwCl [(h0, .inr (2, [.ref hc, .ref hs])), (hc, .inr (0, [.ref w0, .ref w1, .int σ.1.1, .int σ.1.2.1, .int σ.1.2.2.1])), (w0, .inl (cJ, 512, .inr (.inl (σ.1.2.2.2.1)))), (w1, .inl (cJ, 9, .inr (.inl (σ.1.2.2.2.2)))), (hs, .inr (1, [.int σ.2.1, .int σ.2.2.1, .int σ.2.2.2.1, .int σ.2.2.2.2.1, .int σ.2.2.2.2.2.1, .int σ.2.2.2.2.2.2.1, .int σ.2.2.2.2.2.2.2.1, .int σ.2.2.2.2.2.2.2.2]))] H := hP.sub [0, 2, 3, 4, 1] rfl
    have hD : va_D A [(h0, .inr (2, [.ref hc, .ref hs])), (hc, .inr (0, [.ref w0, .ref w1, .int σ.1.1, .int σ.1.2.1, .int σ.1.2.2.1])), (w0, .inl (cJ, 512, .inr (.inl (σ.1.2.2.2.1)))), (w1, .inl (cJ, 9, .inr (.inl (σ.1.2.2.2.2)))), (hs, .inr (1, [.int σ.2.1, .int σ.2.2.1, .int σ.2.2.2.1, .int σ.2.2.2.2.1, .int σ.2.2.2.2.2.1, .int σ.2.2.2.2.2.2.1, .int σ.2.2.2.2.2.2.2.1, .int σ.2.2.2.2.2.2.2.2]))] := hD.sub [0, 2, 3, 4, 1] (by decide) rfl
    refine lv_goto (tgt := 24) hx hb dX3_sum_18 (by decide) ?_
    exact W.lret (v := r4) hx hb hr (fun t ht hW => ⟨⟨r4, ((cl3 h0 hc w0 w1 hs cJ σ)), rfl, ⟨hw, rfl⟩, by rw [ht]; exact hP, va_K.moved hW.alike hK, hD⟩, hS.F ht⟩) hS.2.2 dX3_sum_24
set_option maxHeartbeats 4000000 in
set_option maxRecDepth 100000 in
theorem c_X3_greatestCommonDivisor (l : Launch) (dC : Nat → ClassId) (dI : Nat → Nat → Nat)   (p0 : Int64) (p1 : Int64) (post : Int64 → Prop) (hw : wp_X3_greatestCommonDivisor p0 p1  post) : KL l yX3_greatestCommonDivisor wsX3_greatestCommonDivisor ({ frames := 0, cells := 0, slots := 0, locals := 0 } : Room) (dC, dI) [] [] [.long p0, .long p1] (fun r u => post r ∧ u = []) := by
  intro sz
  refine Met.ofW (cc := cX3_greatestCommonDivisor) (maxL := 11) (ret := (some .long)) (by decide) rfl ?_
  intro p e s m args below meth c s₁ B hml hv
  obtain ⟨rfl, hsz, hP, hK, hD0, hnw⟩ := hv
  have hx := B.exec
  have hb := B.bytes
  have hr := B.returns
  have hts := atoms_spec (ws := wsX3_greatestCommonDivisor) B.pre
  have hown : s.vm.findClass RX3 = some m.cls := findClass_of_methodNamed B.named
  have hlocks := B.notSynchronized
  subst hsz
  have hD := hD0.self (sz := s.heap.size)
  generalize hAe : va_A [] s.heap.size = A at hD ⊢
  have hA : ∀ q : Nat, s.heap.size ≤ q → A q := fun q h => by rw [← hAe]; exact Or.inr h
  have hS : va_S A s.heap s.heap [] := va_S.rf
  have hP : va_P (dC, dI) vwCl [] s.heap := hP
  have hD : va_D A [] := hD
  have L9 : ∀ (x0 : Int64) (x2 : Int64)  (n : Nat) (x4 : Int64) (x6 : Int64) (x8 : Int32)  (k : Int64 → Int64 → Int32 → Prop), wl_X3_greatestCommonDivisor_9 x0 x2  n x4 x6 x8 k →
      (∀ (x4 : Int64) (x6 : Int64) (x8 : Int32) , k x4 x6 x8 → ∀ (H : Heap) (locs : List Loc) (ls : Array Slot), va_P (dC, dI) vwCl [] H → va_D A [] → va_S A s.heap H locs → lv_has ls 11 [(8, .int x8), (6, .long x6), (4, .long x4), (0, .long x0), (2, .long x2)] → W p l e (headSpec wsX3_greatestCommonDivisor ({ frames := 0, cells := 0, slots := 0, locals := 0 } : Room)).room s m ([.long p0, .long p1] : List Value).toArray below meth c H locs 0 0 (MQ below (va_Ql (fun r u => post r ∧ u = []) (kB (dC, dI) [] A) A) ([.long p0, .long p1] : List Value).toArray s 0 0 A) (F0 m 44 ls [])) →
      ∀ (H : Heap) (locs : List Loc) (ls : Array Slot), va_P (dC, dI) vwCl [] H → va_D A [] → va_S A s.heap H locs → lv_has ls 11 [(8, .int x8), (6, .long x6), (4, .long x4), (0, .long x0), (2, .long x2)] → W p l e (headSpec wsX3_greatestCommonDivisor ({ frames := 0, cells := 0, slots := 0, locals := 0 } : Room)).room s m ([.long p0, .long p1] : List Value).toArray below meth c H locs 0 0 (MQ below (va_Ql (fun r u => post r ∧ u = []) (kB (dC, dI) [] A) A) ([.long p0, .long p1] : List Value).toArray s 0 0 A) (F0 m 9 ls []) := by
    intro x0 x2 n
    induction n with
    | zero => intro x4 x6 x8 k hw; exact absurd hw id
    | succ n ih =>
      intro x4 x6 x8 k hw hk H locs ls hP hD hS hl
      unfold wl_X3_greatestCommonDivisor_9 at hw
      refine lv_iload hx hb dX3_greatestCommonDivisor_9 (lv_at hl 0 rfl) ?_
      refine lv_bipush (v := (100 : Int32)) hx hb dX3_greatestCommonDivisor_11 (by decide) ?_
      refine lv_icmp_ge (tgt := 44) hx hb dX3_greatestCommonDivisor_13 (by decide) (fun c1 => ?_) (fun c1 => ?_)
      · have hw := hw.1 c1
        exact hk x4 x6 x8 hw H locs ls hP hD hS (lv_sub hl [0, 1, 2, 3, 4] rfl)
      · have hw := hw.2 c1
        refine lv_lload hx hb dX3_greatestCommonDivisor_16 (lv_at hl 1 rfl) ?_
        refine lv_lconst (v := (0 : Int64)) hx hb dX3_greatestCommonDivisor_18 (by decide) ?_
        refine W.lcmp hx hb dX3_greatestCommonDivisor_19 ?_
        refine lv_if_eq (tgt := 44) hx hb dX3_greatestCommonDivisor_20 (by decide) (fun c2 => ?_) (fun c2 => ?_)
        · have hw := hw.1 (lgc_eq.mp c2)
          exact hk x4 x6 x8 hw H locs ls hP hD hS (lv_sub hl [0, 1, 2, 3, 4] rfl)
        · have hw := hw.2 ((not_congr lgc_eq).mp c2)
          refine lv_lload hx hb dX3_greatestCommonDivisor_23 (lv_at hl 2 rfl) ?_
          refine lv_lload hx hb dX3_greatestCommonDivisor_25 (lv_at hl 1 rfl) ?_
          have z3 := hw.1
          have hw := hw.2
          refine lv_lrem hx hb dX3_greatestCommonDivisor_27 z3 ?_
          refine lv_lstore (lv' := [(9, .long (x4 - x4 / x6 * x6)), (8, .int x8), (6, .long x6), (4, .long x4), (0, .long x0), (2, .long x2)]) hx hb dX3_greatestCommonDivisor_28 hl (by decide) rfl (fun ls hl => ?_)
          refine lv_lload hx hb dX3_greatestCommonDivisor_30 (lv_at hl 2 rfl) ?_
          refine lv_lstore (lv' := [(4, .long x6), (9, .long (x4 - x4 / x6 * x6)), (8, .int x8), (6, .long x6), (0, .long x0), (2, .long x2)]) hx hb dX3_greatestCommonDivisor_32 hl (by decide) rfl (fun ls hl => ?_)
          refine lv_lload hx hb dX3_greatestCommonDivisor_34 (lv_at hl 1 rfl) ?_
          refine lv_lstore (lv' := [(6, .long (x4 - x4 / x6 * x6)), (4, .long x6), (9, .long (x4 - x4 / x6 * x6)), (8, .int x8), (0, .long x0), (2, .long x2)]) hx hb dX3_greatestCommonDivisor_36 hl (by decide) rfl (fun ls hl => ?_)
          refine lv_iinc (v := (x8 + (1 : Int32))) (lv' := [(8, .int (x8 + (1 : Int32))), (6, .long (x4 - x4 / x6 * x6)), (4, .long x6), (9, .long (x4 - x4 / x6 * x6)), (0, .long x0), (2, .long x2)]) hx hb dX3_greatestCommonDivisor_38 hl (k := 3) rfl rfl (by decide) rfl (fun ls hl => ?_)
          refine lv_goto (tgt := 9) hx hb dX3_greatestCommonDivisor_41 (by decide) ?_
          exact ih x6 (x4 - x4 / x6 * x6) (x8 + (1 : Int32)) _ hw hk H locs ls hP hD hS (lv_sub hl [0, 1, 2, 4, 5] rfl)
  have hl := lv_entry ([.long p0, .long p1]) (n := 11) (Nat.le_of_ble_eq_true rfl)
  rw [lg_entry_eq]
  generalize (lg_sl ([.long p0, .long p1]) ++ List.replicate (11 - (lg_sl ([.long p0, .long p1])).length) Slot.unset).toArray = ls at hl ⊢
  have hl : lv_has ls 11 [(0, .long p0), (2, .long p1)] := hl
  unfold wp_X3_greatestCommonDivisor at hw
  skip
  obtain ⟨H, hH⟩ : ∃ H, H = s.heap := ⟨_, rfl⟩
  obtain ⟨locs, hlo⟩ : ∃ q : List Loc, q = [] := ⟨_, rfl⟩
  rw [← hH] at hP
  have hS : va_S A s.heap H locs := by rw [hH, hlo]; exact hS
  suffices hgo : W p l e (headSpec wsX3_greatestCommonDivisor ({ frames := 0, cells := 0, slots := 0, locals := 0 } : Room)).room s m _ below meth c H locs 0 0 _ (F0 m 0 ls []) by rw [hH, hlo] at hgo; exact hgo
  refine lv_lload_n hx hb dX3_greatestCommonDivisor_0 rfl (lv_at hl 0 rfl) ?_
  refine lv_lstore (lv' := [(4, .long p0), (0, .long p0), (2, .long p1)]) hx hb dX3_greatestCommonDivisor_1 hl (by decide) rfl (fun ls hl => ?_)
  refine lv_lload_n hx hb dX3_greatestCommonDivisor_3 rfl (lv_at hl 2 rfl) ?_
  refine lv_lstore (lv' := [(6, .long p1), (4, .long p0), (0, .long p0), (2, .long p1)]) hx hb dX3_greatestCommonDivisor_4 hl (by decide) rfl (fun ls hl => ?_)
  refine lv_iconst (v := (0 : Int32)) hx hb dX3_greatestCommonDivisor_6 (by decide) ?_
  refine lv_istore (lv' := [(8, .int (0 : Int32)), (6, .long p1), (4, .long p0), (0, .long p0), (2, .long p1)]) hx hb dX3_greatestCommonDivisor_7 hl (by decide) rfl (fun ls hl => ?_)
  refine L9 p0 p1 (20000) p0 p1 (0 : Int32) _ hw (fun x4_4 x6_5 x8_6 hw H locs ls hP hD hS hl => ?_) H locs ls hP hD hS (lv_sub hl [0, 1, 2, 3, 4] rfl)
  refine lv_lload hx hb dX3_greatestCommonDivisor_44 (lv_at hl 2 rfl) ?_
  exact W.lret (v := x4_4) hx hb hr (fun t ht hW => ⟨⟨x4_4, ([] : va_W), rfl, ⟨hw, rfl⟩, by rw [ht]; exact hP, va_K.moved hW.alike hK, hD⟩, hS.F ht⟩) hS.2.2 dX3_greatestCommonDivisor_46
set_option maxHeartbeats 4000000 in
set_option maxRecDepth 100000 in
theorem c_X3_partOfFraction (l : Launch) (dC : Nat → ClassId) (dI : Nat → Nat → Nat)   (p0 : Int64) (p1 : Int64) (p2 : Int32) (post : Int64 → Prop) (hw : wp_X3_partOfFraction p0 p1 p2  post) : KL l yX3_partOfFraction wsX3_partOfFraction ({ frames := 1, cells := 0, slots := 0, locals := 30 } : Room) (dC, dI) [] [] [.long p0, .long p1, .int p2] (fun r u => post r ∧ u = []) := by
  intro sz
  refine Met.ofW (cc := cX3_partOfFraction) (maxL := 9) (ret := (some .long)) (by decide) rfl ?_
  intro p e s m args below meth c s₁ B hml hv
  obtain ⟨rfl, hsz, hP, hK, hD0, hnw⟩ := hv
  have hx := B.exec
  have hb := B.bytes
  have hr := B.returns
  have hts := atoms_spec (ws := wsX3_partOfFraction) B.pre
  have hown : s.vm.findClass RX3 = some m.cls := findClass_of_methodNamed B.named
  have hlocks := B.notSynchronized
  subst hsz
  have hD := hD0.self (sz := s.heap.size)
  generalize hAe : va_A [] s.heap.size = A at hD ⊢
  have hA : ∀ q : Nat, s.heap.size ≤ q → A q := fun q h => by rw [← hAe]; exact Or.inr h
  have hS : va_S A s.heap s.heap [] := va_S.rf
  have hP : va_P (dC, dI) vwCl [] s.heap := hP
  have hD : va_D A [] := hD
  have hl := lv_entry ([.long p0, .long p1, .int p2]) (n := 9) (Nat.le_of_ble_eq_true rfl)
  rw [lg_entry_eq]
  generalize (lg_sl ([.long p0, .long p1, .int p2]) ++ List.replicate (9 - (lg_sl ([.long p0, .long p1, .int p2])).length) Slot.unset).toArray = ls at hl ⊢
  have hl : lv_has ls 9 [(0, .long p0), (2, .long p1), (4, .int p2)] := hl
  unfold wp_X3_partOfFraction at hw
  skip
  obtain ⟨H, hH⟩ : ∃ H, H = s.heap := ⟨_, rfl⟩
  obtain ⟨locs, hlo⟩ : ∃ q : List Loc, q = [] := ⟨_, rfl⟩
  rw [← hH] at hP
  have hS : va_S A s.heap H locs := by rw [hH, hlo]; exact hS
  suffices hgo : W p l e (headSpec wsX3_partOfFraction ({ frames := 1, cells := 0, slots := 0, locals := 30 } : Room)).room s m _ below meth c H locs 0 0 _ (F0 m 0 ls []) by rw [hH, hlo] at hgo; exact hgo
  refine lv_lload_n hx hb dX3_partOfFraction_0 rfl (lv_at hl 0 rfl) ?_
  refine lv_lload_n hx hb dX3_partOfFraction_1 rfl (lv_at hl 1 rfl) ?_
  have hPc := hP.sub (ws' := ([] : va_W)) [] rfl
  have hDc := hD.sub (ws' := ([] : va_W)) [] (by decide) rfl
  have hKc := hK.sub (tys' := []) [] rfl
  have hFc := va_free (wc := ([] : va_W)) hD hS hA [] rfl
  refine kc_l (wr := ([] : va_W)) (kr_S (As := [.long p0, .long p1]) (rest := []) (ws := []) ⟨hx, hb, hml, hown, hts⟩ (c_X3_greatestCommonDivisor l dC dI   p0 p1 _ hw H.size) (va_cwS 2 hts gX3_partOfFraction_X3_greatestCommonDivisor rfl rfl rfl (by decide +kernel) ⟨Nat.le_of_ble_eq_true rfl, Nat.le_of_ble_eq_true rfl⟩) hKc hnw hP hD hPc hDc rfl hl.1 rfl (Nat.le_of_ble_eq_true rfl) dX3_partOfFraction_2 ⟨Nat.zero_le _, Nat.zero_le _⟩) hP hD hS hFc [] [] rfl rfl (by decide) (by decide) (fun r1 u1 H locs hq hP hD hS => ?_)
  obtain ⟨hw, rfl⟩ := hq
  have hP : va_P (dC, dI) vwCl [] H := hP
  have hD : va_D A [] := hD
  refine lv_lstore (lv' := [(5, .long r1), (0, .long p0), (2, .long p1), (4, .int p2)]) hx hb dX3_partOfFraction_5 hl (by decide) rfl (fun ls hl => ?_)
  refine lv_iload hx hb dX3_partOfFraction_7 (lv_at hl 3 rfl) ?_
  refine lv_if_ne (tgt := 16) hx hb dX3_partOfFraction_9 (by decide) (fun c3 => ?_) (fun c3 => ?_)
  · have hw := hw.1 c3
    refine lv_lload_n hx hb dX3_partOfFraction_16 rfl (lv_at hl 2 rfl) ?_
    refine lv_lstore (lv' := [(7, .long p1), (5, .long r1), (0, .long p0), (2, .long p1), (4, .int p2)]) hx hb dX3_partOfFraction_17 hl (by decide) rfl (fun ls hl => ?_)
    refine lv_lload hx hb dX3_partOfFraction_19 (lv_at hl 1 rfl) ?_
    refine lv_lconst (v := (0 : Int64)) hx hb dX3_partOfFraction_21 (by decide) ?_
    refine W.lcmp hx hb dX3_partOfFraction_22 ?_
    refine lv_if_le (tgt := 34) hx hb dX3_partOfFraction_23 (by decide) (fun c4 => ?_) (fun c4 => ?_)
    · have hw := hw.1 (lgc_le.mp c4)
      refine lv_lload hx hb dX3_partOfFraction_34 (lv_at hl 0 rfl) ?_
      exact W.lret (v := p1) hx hb hr (fun t ht hW => ⟨⟨p1, ([] : va_W), rfl, ⟨hw, rfl⟩, by rw [ht]; exact hP, va_K.moved hW.alike hK, hD⟩, hS.F ht⟩) hS.2.2 dX3_partOfFraction_36
    · have hw := hw.2 ((not_congr lgc_le).mp c4)
      refine lv_lload hx hb dX3_partOfFraction_26 (lv_at hl 0 rfl) ?_
      refine lv_lload hx hb dX3_partOfFraction_28 (lv_at hl 1 rfl) ?_
      have z5 := hw.1
      have hw := hw.2
      refine lv_ldiv hx hb dX3_partOfFraction_30 z5 ?_
      refine lv_goto (tgt := 36) hx hb dX3_partOfFraction_31 (by decide) ?_
      exact W.lret (v := (p1 / r1)) hx hb hr (fun t ht hW => ⟨⟨(p1 / r1), ([] : va_W), rfl, ⟨hw, rfl⟩, by rw [ht]; exact hP, va_K.moved hW.alike hK, hD⟩, hS.F ht⟩) hS.2.2 dX3_partOfFraction_36
  · have hw := hw.2 c3
    refine lv_lload_n hx hb dX3_partOfFraction_12 rfl (lv_at hl 1 rfl) ?_
    refine lv_goto (tgt := 17) hx hb dX3_partOfFraction_13 (by decide) ?_
    refine lv_lstore (lv' := [(7, .long p0), (5, .long r1), (0, .long p0), (2, .long p1), (4, .int p2)]) hx hb dX3_partOfFraction_17 hl (by decide) rfl (fun ls hl => ?_)
    refine lv_lload hx hb dX3_partOfFraction_19 (lv_at hl 1 rfl) ?_
    refine lv_lconst (v := (0 : Int64)) hx hb dX3_partOfFraction_21 (by decide) ?_
    refine W.lcmp hx hb dX3_partOfFraction_22 ?_
    refine lv_if_le (tgt := 34) hx hb dX3_partOfFraction_23 (by decide) (fun c6 => ?_) (fun c6 => ?_)
    · have hw := hw.1 (lgc_le.mp c6)
      refine lv_lload hx hb dX3_partOfFraction_34 (lv_at hl 0 rfl) ?_
      exact W.lret (v := p0) hx hb hr (fun t ht hW => ⟨⟨p0, ([] : va_W), rfl, ⟨hw, rfl⟩, by rw [ht]; exact hP, va_K.moved hW.alike hK, hD⟩, hS.F ht⟩) hS.2.2 dX3_partOfFraction_36
    · have hw := hw.2 ((not_congr lgc_le).mp c6)
      refine lv_lload hx hb dX3_partOfFraction_26 (lv_at hl 0 rfl) ?_
      refine lv_lload hx hb dX3_partOfFraction_28 (lv_at hl 1 rfl) ?_
      have z7 := hw.1
      have hw := hw.2
      refine lv_ldiv hx hb dX3_partOfFraction_30 z7 ?_
      refine lv_goto (tgt := 36) hx hb dX3_partOfFraction_31 (by decide) ?_
      exact W.lret (v := (p0 / r1)) hx hb hr (fun t ht hW => ⟨⟨(p0 / r1), ([] : va_W), rfl, ⟨hw, rfl⟩, by rw [ht]; exact hP, va_K.moved hW.alike hK, hD⟩, hS.F ht⟩) hS.2.2 dX3_partOfFraction_36
