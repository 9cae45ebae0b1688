set_option maxHeartbeats 4000000 in
set_option maxRecDepth 100000 in
theorem c_X4_queue (l : Launch) (dC : Nat → ClassId) (dI : Nat → Nat → Nat) (h0 w0 so be : Nat) (cJ : ClassId) (cI : ClassId) (σ : SM) (p0 : Int32) (p1 : Int32) (p2 : Int32) (post : Int32 → Prop) (hw : wp_X4_queue p0 p1 p2 σ post) : KI l yX4_queue wsX4_queue ({ frames := 1, cells := 0, slots := 0, locals := 26 } : Room) (dC, dI) [(cJ, .long), (cI, .int)] (cl4 h0 w0 so be cJ cI σ) [.ref h0, .int p0, .int p1, .int p2] (fun r u => post r ∧ u = (cl4 h0 w0 so be cJ cI σ)) := by
  intro sz
  refine Met.ofW (cc := cX4_queue) (maxL := 4) (ret := (some .int)) (by decide) rfl ?_
  intro p e s m args below meth c s₁ B hml hv
  obtain ⟨rfl, hsz, hP, hK, hD0, hnw⟩ := hv
  have hx := B.exec
  have hb := B.bytes
  have hr := B.returns
  have hts := atoms_spec (ws := wsX4_queue) B.pre
  have hown : s.vm.findClass RX4 = some m.cls := findClass_of_methodNamed B.named
  have hlocks := B.notSynchronized
  subst hsz
  have hD := hD0.self (sz := s.heap.size)
  generalize hAe : va_A (cl4 h0 w0 so be cJ cI σ) s.heap.size = A at hD ⊢
  have hA : ∀ q : Nat, s.heap.size ≤ q → A q := fun q h => by rw [← hAe]; exact Or.inr h
  have hS : va_S A s.heap s.heap [] := va_S.rf
  have hP : va_P (dC, dI) vwCl [(h0, .inr (3, [.int σ.1, .int σ.2.1, .int σ.2.2.1, .ref w0, .int σ.2.2.2.2.1, .int σ.2.2.2.2.2.1, .long σ.2.2.2.2.2.2.1, .ref so, .ref be, .int σ.2.2.2.2.2.2.2.2.2.1, .int σ.2.2.2.2.2.2.2.2.2.2.1, .int σ.2.2.2.2.2.2.2.2.2.2.2.1, .int σ.2.2.2.2.2.2.2.2.2.2.2.2])), (w0, .inl (cJ, 511, .inr (.inl (σ.2.2.2.1)))), (so, .inl (cI, 30, .inl (σ.2.2.2.2.2.2.2.1))), (be, .inl (cI, 30, .inl (σ.2.2.2.2.2.2.2.2.1)))] s.heap := hP
  have hD : va_D A [(h0, .inr (3, [.int σ.1, .int σ.2.1, .int σ.2.2.1, .ref w0, .int σ.2.2.2.2.1, .int σ.2.2.2.2.2.1, .long σ.2.2.2.2.2.2.1, .ref so, .ref be, .int σ.2.2.2.2.2.2.2.2.2.1, .int σ.2.2.2.2.2.2.2.2.2.2.1, .int σ.2.2.2.2.2.2.2.2.2.2.2.1, .int σ.2.2.2.2.2.2.2.2.2.2.2.2])), (w0, .inl (cJ, 511, .inr (.inl (σ.2.2.2.1)))), (so, .inl (cI, 30, .inl (σ.2.2.2.2.2.2.2.1))), (be, .inl (cI, 30, .inl (σ.2.2.2.2.2.2.2.2.1)))] := hD
  have hl := lv_entry ([.ref h0, .int p0, .int p1, .int p2]) (n := 4) (Nat.le_of_ble_eq_true rfl)
  rw [lg_entry_eq]
  generalize (lg_sl ([.ref h0, .int p0, .int p1, .int p2]) ++ List.replicate (4 - (lg_sl ([.ref h0, .int p0, .int p1, .int p2])).length) Slot.unset).toArray = ls at hl ⊢
  have hl : lv_has ls 4 [(0, .ref h0), (1, .int p0), (2, .int p1), (3, .int p2)] := hl
  unfold wp_X4_queue at hw
  skip
  obtain ⟨H, hH⟩ : ∃ H, H = s.heap := ⟨_, rfl⟩
  obtain ⟨locs, hlo⟩ : ∃ q : List Loc, q = [] := ⟨_, rfl⟩
  rw [← hH] at hP
  have hS : va_S A s.heap H locs := by rw [hH, hlo]; exact hS
  suffices hgo : W p l e (headSpec wsX4_queue ({ frames := 1, cells := 0, slots := 0, locals := 26 } : Room)).room s m _ below meth c H locs 0 0 _ (F0 m 0 ls []) by rw [hH, hlo] at hgo; exact hgo
  refine lv_iload_n hx hb dX4_queue_0 rfl (lv_at hl 1 rfl) ?_
  refine lv_i2l hx hb dX4_queue_1 rfl ?_
  refine lv_ldc2 (v := (3 : Int64)) hx hb hown (hts (.constantLong RX4 69 (3 : Int64)) (by decide +kernel)) dX4_queue_2 ?_
  refine lv_ldc2 (v := (8 : Int64)) hx hb hown (hts (.constantLong RX4 41 (8 : Int64)) (by decide +kernel)) dX4_queue_5 ?_
  have hPc := hP.sub (ws' := ([] : va_W)) [] rfl
  have hDc := hD.sub (ws' := ([] : va_W)) [] (by decide) rfl
  have hKc := hK.sub (tys' := []) [] rfl
  have hFc := va_free (wc := ([] : va_W)) hD hS hA [] rfl
  refine kc_i (wr := [(h0, .inr (3, [.int σ.1, .int σ.2.1, .int σ.2.2.1, .ref w0, .int σ.2.2.2.2.1, .int σ.2.2.2.2.2.1, .long σ.2.2.2.2.2.2.1, .ref so, .ref be, .int σ.2.2.2.2.2.2.2.2.2.1, .int σ.2.2.2.2.2.2.2.2.2.2.1, .int σ.2.2.2.2.2.2.2.2.2.2.2.1, .int σ.2.2.2.2.2.2.2.2.2.2.2.2])), (w0, .inl (cJ, 511, .inr (.inl (σ.2.2.2.1)))), (so, .inl (cI, 30, .inl (σ.2.2.2.2.2.2.2.1))), (be, .inl (cI, 30, .inl (σ.2.2.2.2.2.2.2.2.1)))]) (kr_S (As := [.long (p0.toInt64), .long (3 : Int64), .long (8 : Int64)]) (rest := []) (ws := [(h0, .inr (3, [.int σ.1, .int σ.2.1, .int σ.2.2.1, .ref w0, .int σ.2.2.2.2.1, .int σ.2.2.2.2.2.1, .long σ.2.2.2.2.2.2.1, .ref so, .ref be, .int σ.2.2.2.2.2.2.2.2.2.1, .int σ.2.2.2.2.2.2.2.2.2.2.1, .int σ.2.2.2.2.2.2.2.2.2.2.2.1, .int σ.2.2.2.2.2.2.2.2.2.2.2.2])), (w0, .inl (cJ, 511, .inr (.inl (σ.2.2.2.1)))), (so, .inl (cI, 30, .inl (σ.2.2.2.2.2.2.2.1))), (be, .inl (cI, 30, .inl (σ.2.2.2.2.2.2.2.2.1)))]) ⟨hx, hb, hml, hown, hts⟩ (c_X4_in l dC dI   (p0.toInt64) (3 : Int64) (8 : Int64) _ hw H.size) (va_cwS 3 hts gX4_queue_X4_in rfl rfl rfl (by decide +kernel) ⟨Nat.le_of_ble_eq_true rfl, Nat.le_of_ble_eq_true rfl⟩) hKc hnw hP hD hPc hDc rfl hl.1 rfl (Nat.le_of_ble_eq_true rfl) dX4_queue_8 ⟨Nat.zero_le _, Nat.zero_le _⟩) hP hD hS hFc [] [0, 1, 2, 3] rfl rfl (by decide) (by decide) (fun r1 u1 H locs hq hP hD hS => ?_)
  obtain ⟨hw, rfl⟩ := hq
  have hP : va_P (dC, dI) vwCl [(h0, .inr (3, [.int σ.1, .int σ.2.1, .int σ.2.2.1, .ref w0, .int σ.2.2.2.2.1, .int σ.2.2.2.2.2.1, .long σ.2.2.2.2.2.2.1, .ref so, .ref be, .int σ.2.2.2.2.2.2.2.2.2.1, .int σ.2.2.2.2.2.2.2.2.2.2.1, .int σ.2.2.2.2.2.2.2.2.2.2.2.1, .int σ.2.2.2.2.2.2.2.2.2.2.2.2])), (w0, .inl (cJ, 511, .inr (.inl (σ.2.2.2.1)))), (so, .inl (cI, 30, .inl (σ.2.2.2.2.2.2.2.1))), (be, .inl (cI, 30, .inl (σ.2.2.2.2.2.2.2.2.1)))] H := hP
  have hD : va_D A [(h0, .inr (3, [.int σ.1, .int σ.2.1, .int σ.2.2.1, .ref w0, .int σ.2.2.2.2.1, .int σ.2.2.2.2.2.1, .long σ.2.2.2.2.2.2.1, .ref so, .ref be, .int σ.2.2.2.2.2.2.2.2.2.1, .int σ.2.2.2.2.2.2.2.2.2.2.1, .int σ.2.2.2.2.2.2.2.2.2.2.2.1, .int σ.2.2.2.2.2.2.2.2.2.2.2.2])), (w0, .inl (cJ, 511, .inr (.inl (σ.2.2.2.1)))), (so, .inl (cI, 30, .inl (σ.2.2.2.2.2.2.2.1))), (be, .inl (cI, 30, .inl (σ.2.2.2.2.2.2.2.2.1)))] := hD
  refine lv_if_eq (tgt := 63) hx hb dX4_queue_11 (by decide) (fun c3 => ?_) (fun c3 => ?_)
  · have hw := hw.1 c3
    refine lv_iconst (v := (-1 : Int32)) hx hb dX4_queue_63 (by decide) ?_
    exact W.iret (v := (-1 : Int32)) hx hb hr (fun t ht hW => ⟨⟨(-1 : Int32), ((cl4 h0 w0 so be cJ cI σ)), rfl, ⟨hw, rfl⟩, by rw [ht]; exact hP, va_K.moved hW.alike hK, hD⟩, hS.F ht⟩) hS.2.2 dX4_queue_64
  · have hw := hw.2 c3
    refine lv_iload_n hx hb dX4_queue_14 rfl (lv_at hl 2 rfl) ?_
    refine lv_i2l hx hb dX4_queue_15 rfl ?_
    refine lv_lconst (v := (1 : Int64)) hx hb dX4_queue_16 (by decide) ?_
    refine lv_iconst (v := (1 : Int32)) hx hb dX4_queue_17 (by decide) ?_
    refine lv_iload_n hx hb dX4_queue_18 rfl (lv_at hl 1 rfl) ?_
    refine lv_ishl hx hb dX4_queue_19 ?_
    refine lv_iconst (v := (1 : Int32)) hx hb dX4_queue_20 (by decide) ?_
    refine lv_isub hx hb dX4_queue_21 ?_
    refine lv_i2l hx hb dX4_queue_22 rfl ?_
    have hPc := hP.sub (ws' := ([] : va_W)) [] rfl
    have hDc := hD.sub (ws' := ([] : va_W)) [] (by decide) rfl
    have hKc := hK.sub (tys' := []) [] rfl
    have hFc := va_free (wc := ([] : va_W)) hD hS hA [] rfl
    refine kc_i (wr := [(h0, .inr (3, [.int σ.1, .int σ.2.1, .int σ.2.2.1, .ref w0, .int σ.2.2.2.2.1, .int σ.2.2.2.2.2.1, .long σ.2.2.2.2.2.2.1, .ref so, .ref be, .int σ.2.2.2.2.2.2.2.2.2.1, .int σ.2.2.2.2.2.2.2.2.2.2.1, .int σ.2.2.2.2.2.2.2.2.2.2.2.1, .int σ.2.2.2.2.2.2.2.2.2.2.2.2])), (w0, .inl (cJ, 511, .inr (.inl (σ.2.2.2.1)))), (so, .inl (cI, 30, .inl (σ.2.2.2.2.2.2.2.1))), (be, .inl (cI, 30, .inl (σ.2.2.2.2.2.2.2.2.1)))]) (kr_S (As := [.long (p1.toInt64), .long (1 : Int64), .long ((((1 : Int32) <<< (p0 &&& (31 : Int32))) - (1 : Int32)).toInt64)]) (rest := []) (ws := [(h0, .inr (3, [.int σ.1, .int σ.2.1, .int σ.2.2.1, .ref w0, .int σ.2.2.2.2.1, .int σ.2.2.2.2.2.1, .long σ.2.2.2.2.2.2.1, .ref so, .ref be, .int σ.2.2.2.2.2.2.2.2.2.1, .int σ.2.2.2.2.2.2.2.2.2.2.1, .int σ.2.2.2.2.2.2.2.2.2.2.2.1, .int σ.2.2.2.2.2.2.2.2.2.2.2.2])), (w0, .inl (cJ, 511, .inr (.inl (σ.2.2.2.1)))), (so, .inl (cI, 30, .inl (σ.2.2.2.2.2.2.2.1))), (be, .inl (cI, 30, .inl (σ.2.2.2.2.2.2.2.2.1)))]) ⟨hx, hb, hml, hown, hts⟩ (c_X4_in l dC dI   (p1.toInt64) (1 : Int64) ((((1 : Int32) <<< (p0 &&& (31 : Int32))) - (1 : Int32)).toInt64) _ hw H.size) (va_cwS 3 hts gX4_queue_X4_in rfl rfl rfl (by decide +kernel) ⟨Nat.le_of_ble_eq_true rfl, Nat.le_of_ble_eq_true rfl⟩) hKc hnw hP hD hPc hDc rfl hl.1 rfl (Nat.le_of_ble_eq_true rfl) dX4_queue_23 ⟨Nat.zero_le _, Nat.zero_le _⟩) hP hD hS hFc [] [0, 1, 2, 3] rfl rfl (by decide) (by decide) (fun r4 u1 H locs hq hP hD hS => ?_)
    obtain ⟨hw, rfl⟩ := hq
    have hP : va_P (dC, dI) vwCl [(h0, .inr (3, [.int σ.1, .int σ.2.1, .int σ.2.2.1, .ref w0, .int σ.2.2.2.2.1, .int σ.2.2.2.2.2.1, .long σ.2.2.2.2.2.2.1, .ref so, .ref be, .int σ.2.2.2.2.2.2.2.2.2.1, .int σ.2.2.2.2.2.2.2.2.2.2.1, .int σ.2.2.2.2.2.2.2.2.2.2.2.1, .int σ.2.2.2.2.2.2.2.2.2.2.2.2])), (w0, .inl (cJ, 511, .inr (.inl (σ.2.2.2.1)))), (so, .inl (cI, 30, .inl (σ.2.2.2.2.2.2.2.1))), (be, .inl (cI, 30, .inl (σ.2.2.2.2.2.2.2.2.1)))] H := hP
    have hD : va_D A [(h0, .inr (3, [.int σ.1, .int σ.2.1, .int σ.2.2.1, .ref w0, .int σ.2.2.2.2.1, .int σ.2.2.2.2.2.1, .long σ.2.2.2.2.2.2.1, .ref so, .ref be, .int σ.2.2.2.2.2.2.2.2.2.1, .int σ.2.2.2.2.2.2.2.2.2.2.1, .int σ.2.2.2.2.2.2.2.2.2.2.2.1, .int σ.2.2.2.2.2.2.2.2.2.2.2.2])), (w0, .inl (cJ, 511, .inr (.inl (σ.2.2.2.1)))), (so, .inl (cI, 30, .inl (σ.2.2.2.2.2.2.2.1))), (be, .inl (cI, 30, .inl (σ.2.2.2.2.2.2.2.2.1)))] := hD
    refine lv_if_eq (tgt := 63) hx hb dX4_queue_26 (by decide) (fun c6 => ?_) (fun c6 => ?_)
    · have hw := hw.1 c6
      refine lv_iconst (v := (-1 : Int32)) hx hb dX4_queue_63 (by decide) ?_
      exact W.iret (v := (-1 : Int32)) hx hb hr (fun t ht hW => ⟨⟨(-1 : Int32), ((cl4 h0 w0 so be cJ cI σ)), rfl, ⟨hw, rfl⟩, by rw [ht]; exact hP, va_K.moved hW.alike hK, hD⟩, hS.F ht⟩) hS.2.2 dX4_queue_64
    · have hw := hw.2 c6
      refine lv_iload_n hx hb dX4_queue_29 rfl (lv_at hl 3 rfl) ?_
      refine lv_i2l hx hb dX4_queue_30 rfl ?_
      refine lv_lconst (v := (1 : Int64)) hx hb dX4_queue_31 (by decide) ?_
      refine lv_iconst (v := (1 : Int32)) hx hb dX4_queue_32 (by decide) ?_
      refine lv_iload_n hx hb dX4_queue_33 rfl (lv_at hl 1 rfl) ?_
      refine lv_ishl hx hb dX4_queue_34 ?_
      refine lv_iconst (v := (1 : Int32)) hx hb dX4_queue_35 (by decide) ?_
      refine lv_isub hx hb dX4_queue_36 ?_
      refine lv_i2l hx hb dX4_queue_37 rfl ?_
      have hPc := hP.sub (ws' := ([] : va_W)) [] rfl
      have hDc := hD.sub (ws' := ([] : va_W)) [] (by decide) rfl
      have hKc := hK.sub (tys' := []) [] rfl
      have hFc := va_free (wc := ([] : va_W)) hD hS hA [] rfl
      refine kc_i (wr := [(h0, .inr (3, [.int σ.1, .int σ.2.1, .int σ.2.2.1, .ref w0, .int σ.2.2.2.2.1, .int σ.2.2.2.2.2.1, .long σ.2.2.2.2.2.2.1, .ref so, .ref be, .int σ.2.2.2.2.2.2.2.2.2.1, .int σ.2.2.2.2.2.2.2.2.2.2.1, .int σ.2.2.2.2.2.2.2.2.2.2.2.1, .int σ.2.2.2.2.2.2.2.2.2.2.2.2])), (w0, .inl (cJ, 511, .inr (.inl (σ.2.2.2.1)))), (so, .inl (cI, 30, .inl (σ.2.2.2.2.2.2.2.1))), (be, .inl (cI, 30, .inl (σ.2.2.2.2.2.2.2.2.1)))]) (kr_S (As := [.long (p2.toInt64), .long (1 : Int64), .long ((((1 : Int32) <<< (p0 &&& (31 : Int32))) - (1 : Int32)).toInt64)]) (rest := []) (ws := [(h0, .inr (3, [.int σ.1, .int σ.2.1, .int σ.2.2.1, .ref w0, .int σ.2.2.2.2.1, .int σ.2.2.2.2.2.1, .long σ.2.2.2.2.2.2.1, .ref so, .ref be, .int σ.2.2.2.2.2.2.2.2.2.1, .int σ.2.2.2.2.2.2.2.2.2.2.1, .int σ.2.2.2.2.2.2.2.2.2.2.2.1, .int σ.2.2.2.2.2.2.2.2.2.2.2.2])), (w0, .inl (cJ, 511, .inr (.inl (σ.2.2.2.1)))), (so, .inl (cI, 30, .inl (σ.2.2.2.2.2.2.2.1))), (be, .inl (cI, 30, .inl (σ.2.2.2.2.2.2.2.2.1)))]) ⟨hx, hb, hml, hown, hts⟩ (c_X4_in l dC dI   (p2.toInt64) (1 : Int64) ((((1 : Int32) <<< (p0 &&& (31 : Int32))) - (1 : Int32)).toInt64) _ hw H.size) (va_cwS 3 hts gX4_queue_X4_in rfl rfl rfl (by decide +kernel) ⟨Nat.le_of_ble_eq_true rfl, Nat.le_of_ble_eq_true rfl⟩) hKc hnw hP hD hPc hDc rfl hl.1 rfl (Nat.le_of_ble_eq_true rfl) dX4_queue_38 ⟨Nat.zero_le _, Nat.zero_le _⟩) hP hD hS hFc [] [0, 1, 2, 3] rfl rfl (by decide) (by decide) (fun r7 u1 H locs hq hP hD hS => ?_)
      obtain ⟨hw, rfl⟩ := hq
      have hP : va_P (dC, dI) vwCl [(h0, .inr (3, [.int σ.1, .int σ.2.1, .int σ.2.2.1, .ref w0, .int σ.2.2.2.2.1, .int σ.2.2.2.2.2.1, .long σ.2.2.2.2.2.2.1, .ref so, .ref be, .int σ.2.2.2.2.2.2.2.2.2.1, .int σ.2.2.2.2.2.2.2.2.2.2.1, .int σ.2.2.2.2.2.2.2.2.2.2.2.1, .int σ.2.2.2.2.2.2.2.2.2.2.2.2])), (w0, .inl (cJ, 511, .inr (.inl (σ.2.2.2.1)))), (so, .inl (cI, 30, .inl (σ.2.2.2.2.2.2.2.1))), (be, .inl (cI, 30, .inl (σ.2.2.2.2.2.2.2.2.1)))] H := hP
      have hD : va_D A [(h0, .inr (3, [.int σ.1, .int σ.2.1, .int σ.2.2.1, .ref w0, .int σ.2.2.2.2.1, .int σ.2.2.2.2.2.1, .long σ.2.2.2.2.2.2.1, .ref so, .ref be, .int σ.2.2.2.2.2.2.2.2.2.1, .int σ.2.2.2.2.2.2.2.2.2.2.1, .int σ.2.2.2.2.2.2.2.2.2.2.2.1, .int σ.2.2.2.2.2.2.2.2.2.2.2.2])), (w0, .inl (cJ, 511, .inr (.inl (σ.2.2.2.1)))), (so, .inl (cI, 30, .inl (σ.2.2.2.2.2.2.2.1))), (be, .inl (cI, 30, .inl (σ.2.2.2.2.2.2.2.2.1)))] := hD
      refine lv_if_eq (tgt := 63) hx hb dX4_queue_41 (by decide) (fun c9 => ?_) (fun c9 => ?_)
      · have hw := hw.1 c9
        refine lv_iconst (v := (-1 : Int32)) hx hb dX4_queue_63 (by decide) ?_
        exact W.iret (v := (-1 : Int32)) hx hb hr (fun t ht hW => ⟨⟨(-1 : Int32), ((cl4 h0 w0 so be cJ cI σ)), rfl, ⟨hw, rfl⟩, by rw [ht]; exact hP, va_K.moved hW.alike hK, hD⟩, hS.F ht⟩) hS.2.2 dX4_queue_64
      · have hw := hw.2 c9
        refine lv_iload_n hx hb dX4_queue_44 rfl (lv_at hl 3 rfl) ?_
        have hPc := hP.sub (ws' := ([] : va_W)) [] rfl
        have hDc := hD.sub (ws' := ([] : va_W)) [] (by decide) rfl
        have hKc := hK.sub (tys' := []) [] rfl
        have hFc := va_free (wc := ([] : va_W)) hD hS hA [] rfl
        refine kc_i (wr := [(h0, .inr (3, [.int σ.1, .int σ.2.1, .int σ.2.2.1, .ref w0, .int σ.2.2.2.2.1, .int σ.2.2.2.2.2.1, .long σ.2.2.2.2.2.2.1, .ref so, .ref be, .int σ.2.2.2.2.2.2.2.2.2.1, .int σ.2.2.2.2.2.2.2.2.2.2.1, .int σ.2.2.2.2.2.2.2.2.2.2.2.1, .int σ.2.2.2.2.2.2.2.2.2.2.2.2])), (w0, .inl (cJ, 511, .inr (.inl (σ.2.2.2.1)))), (so, .inl (cI, 30, .inl (σ.2.2.2.2.2.2.2.1))), (be, .inl (cI, 30, .inl (σ.2.2.2.2.2.2.2.2.1)))]) (kr_S (As := [.int p2]) (rest := []) (ws := [(h0, .inr (3, [.int σ.1, .int σ.2.1, .int σ.2.2.1, .ref w0, .int σ.2.2.2.2.1, .int σ.2.2.2.2.2.1, .long σ.2.2.2.2.2.2.1, .ref so, .ref be, .int σ.2.2.2.2.2.2.2.2.2.1, .int σ.2.2.2.2.2.2.2.2.2.2.1, .int σ.2.2.2.2.2.2.2.2.2.2.2.1, .int σ.2.2.2.2.2.2.2.2.2.2.2.2])), (w0, .inl (cJ, 511, .inr (.inl (σ.2.2.2.1)))), (so, .inl (cI, 30, .inl (σ.2.2.2.2.2.2.2.1))), (be, .inl (cI, 30, .inl (σ.2.2.2.2.2.2.2.2.1)))]) ⟨hx, hb, hml, hown, hts⟩ (c_X4_bits l dC dI   p2 _ hw H.size) (va_cwS 1 hts gX4_queue_X4_bits rfl rfl rfl (by decide +kernel) ⟨Nat.le_of_ble_eq_true rfl, Nat.le_of_ble_eq_true rfl⟩) hKc hnw hP hD hPc hDc rfl hl.1 rfl (Nat.le_of_ble_eq_true rfl) dX4_queue_45 ⟨Nat.zero_le _, Nat.zero_le _⟩) hP hD hS hFc [] [0, 1, 2, 3] rfl rfl (by decide) (by decide) (fun r10 u1 H locs hq hP hD hS => ?_)
        obtain ⟨hw, rfl⟩ := hq
        have hP : va_P (dC, dI) vwCl [(h0, .inr (3, [.int σ.1, .int σ.2.1, .int σ.2.2.1, .ref w0, .int σ.2.2.2.2.1, .int σ.2.2.2.2.2.1, .long σ.2.2.2.2.2.2.1, .ref so, .ref be, .int σ.2.2.2.2.2.2.2.2.2.1, .int σ.2.2.2.2.2.2.2.2.2.2.1, .int σ.2.2.2.2.2.2.2.2.2.2.2.1, .int σ.2.2.2.2.2.2.2.2.2.2.2.2])), (w0, .inl (cJ, 511, .inr (.inl (σ.2.2.2.1)))), (so, .inl (cI, 30, .inl (σ.2.2.2.2.2.2.2.1))), (be, .inl (cI, 30, .inl (σ.2.2.2.2.2.2.2.2.1)))] H := hP
        have hD : va_D A [(h0, .inr (3, [.int σ.1, .int σ.2.1, .int σ.2.2.1, .ref w0, .int σ.2.2.2.2.1, .int σ.2.2.2.2.2.1, .long σ.2.2.2.2.2.2.1, .ref so, .ref be, .int σ.2.2.2.2.2.2.2.2.2.1, .int σ.2.2.2.2.2.2.2.2.2.2.1, .int σ.2.2.2.2.2.2.2.2.2.2.2.1, .int σ.2.2.2.2.2.2.2.2.2.2.2.2])), (w0, .inl (cJ, 511, .inr (.inl (σ.2.2.2.1)))), (so, .inl (cI, 30, .inl (σ.2.2.2.2.2.2.2.1))), (be, .inl (cI, 30, .inl (σ.2.2.2.2.2.2.2.2.1)))] := hD
        refine lv_iload_n hx hb dX4_queue_48 rfl (lv_at hl 2 rfl) ?_
        have hPc := hP.sub (ws' := ([] : va_W)) [] rfl
        have hDc := hD.sub (ws' := ([] : va_W)) [] (by decide) rfl
        have hKc := hK.sub (tys' := []) [] rfl
        have hFc := va_free (wc := ([] : va_W)) hD hS hA [] rfl
        refine kc_i (wr := [(h0, .inr (3, [.int σ.1, .int σ.2.1, .int σ.2.2.1, .ref w0, .int σ.2.2.2.2.1, .int σ.2.2.2.2.2.1, .long σ.2.2.2.2.2.2.1, .ref so, .ref be, .int σ.2.2.2.2.2.2.2.2.2.1, .int σ.2.2.2.2.2.2.2.2.2.2.1, .int σ.2.2.2.2.2.2.2.2.2.2.2.1, .int σ.2.2.2.2.2.2.2.2.2.2.2.2])), (w0, .inl (cJ, 511, .inr (.inl (σ.2.2.2.1)))), (so, .inl (cI, 30, .inl (σ.2.2.2.2.2.2.2.1))), (be, .inl (cI, 30, .inl (σ.2.2.2.2.2.2.2.2.1)))]) (kr_S (As := [.int p1]) (rest := [.int r10]) (ws := [(h0, .inr (3, [.int σ.1, .int σ.2.1, .int σ.2.2.1, .ref w0, .int σ.2.2.2.2.1, .int σ.2.2.2.2.2.1, .long σ.2.2.2.2.2.2.1, .ref so, .ref be, .int σ.2.2.2.2.2.2.2.2.2.1, .int σ.2.2.2.2.2.2.2.2.2.2.1, .int σ.2.2.2.2.2.2.2.2.2.2.2.1, .int σ.2.2.2.2.2.2.2.2.2.2.2.2])), (w0, .inl (cJ, 511, .inr (.inl (σ.2.2.2.1)))), (so, .inl (cI, 30, .inl (σ.2.2.2.2.2.2.2.1))), (be, .inl (cI, 30, .inl (σ.2.2.2.2.2.2.2.2.1)))]) ⟨hx, hb, hml, hown, hts⟩ (c_X4_bits l dC dI   p1 _ hw H.size) (va_cwS 1 hts gX4_queue_X4_bits rfl rfl rfl (by decide +kernel) ⟨Nat.le_of_ble_eq_true rfl, Nat.le_of_ble_eq_true rfl⟩) hKc hnw hP hD hPc hDc rfl hl.1 rfl (Nat.le_of_ble_eq_true rfl) dX4_queue_49 ⟨Nat.zero_le _, Nat.zero_le _⟩) hP hD hS hFc [] [0, 1, 2, 3] rfl rfl (by decide) (by decide) (fun r12 u1 H locs hq hP hD hS => ?_)
        obtain ⟨hw, rfl⟩ := hq
        have hP : va_P (dC, dI) vwCl [(h0, .inr (3, [.int σ.1, .int σ.2.1, .int σ.2.2.1, .ref w0, .int σ.2.2.2.2.1, .int σ.2.2.2.2.2.1, .long σ.2.2.2.2.2.2.1, .ref so, .ref be, .int σ.2.2.2.2.2.2.2.2.2.1, .int σ.2.2.2.2.2.2.2.2.2.2.1, .int σ.2.2.2.2.2.2.2.2.2.2.2.1, .int σ.2.2.2.2.2.2.2.2.2.2.2.2])), (w0, .inl (cJ, 511, .inr (.inl (σ.2.2.2.1)))), (so, .inl (cI, 30, .inl (σ.2.2.2.2.2.2.2.1))), (be, .inl (cI, 30, .inl (σ.2.2.2.2.2.2.2.2.1)))] H := hP
        have hD : va_D A [(h0, .inr (3, [.int σ.1, .int σ.2.1, .int σ.2.2.1, .ref w0, .int σ.2.2.2.2.1, .int σ.2.2.2.2.2.1, .long σ.2.2.2.2.2.2.1, .ref so, .ref be, .int σ.2.2.2.2.2.2.2.2.2.1, .int σ.2.2.2.2.2.2.2.2.2.2.1, .int σ.2.2.2.2.2.2.2.2.2.2.2.1, .int σ.2.2.2.2.2.2.2.2.2.2.2.2])), (w0, .inl (cJ, 511, .inr (.inl (σ.2.2.2.1)))), (so, .inl (cI, 30, .inl (σ.2.2.2.2.2.2.2.1))), (be, .inl (cI, 30, .inl (σ.2.2.2.2.2.2.2.2.1)))] := hD
        refine lv_icmp_le (tgt := 63) hx hb dX4_queue_52 (by decide) (fun c14 => ?_) (fun c14 => ?_)
        · have hw := hw.1 c14
          refine lv_iconst (v := (-1 : Int32)) hx hb dX4_queue_63 (by decide) ?_
          exact W.iret (v := (-1 : Int32)) hx hb hr (fun t ht hW => ⟨⟨(-1 : Int32), ((cl4 h0 w0 so be cJ cI σ)), rfl, ⟨hw, rfl⟩, by rw [ht]; exact hP, va_K.moved hW.alike hK, hD⟩, hS.F ht⟩) hS.2.2 dX4_queue_64
        · have hw := hw.2 c14
          refine lv_iload_n hx hb dX4_queue_55 rfl (lv_at hl 3 rfl) ?_
          have hPc := hP.sub (ws' := ([] : va_W)) [] rfl
          have hDc := hD.sub (ws' := ([] : va_W)) [] (by decide) rfl
          have hKc := hK.sub (tys' := []) [] rfl
          have hFc := va_free (wc := ([] : va_W)) hD hS hA [] rfl
          refine kc_i (wr := [(h0, .inr (3, [.int σ.1, .int σ.2.1, .int σ.2.2.1, .ref w0, .int σ.2.2.2.2.1, .int σ.2.2.2.2.2.1, .long σ.2.2.2.2.2.2.1, .ref so, .ref be, .int σ.2.2.2.2.2.2.2.2.2.1, .int σ.2.2.2.2.2.2.2.2.2.2.1, .int σ.2.2.2.2.2.2.2.2.2.2.2.1, .int σ.2.2.2.2.2.2.2.2.2.2.2.2])), (w0, .inl (cJ, 511, .inr (.inl (σ.2.2.2.1)))), (so, .inl (cI, 30, .inl (σ.2.2.2.2.2.2.2.1))), (be, .inl (cI, 30, .inl (σ.2.2.2.2.2.2.2.2.1)))]) (kr_S (As := [.int p2]) (rest := []) (ws := [(h0, .inr (3, [.int σ.1, .int σ.2.1, .int σ.2.2.1, .ref w0, .int σ.2.2.2.2.1, .int σ.2.2.2.2.2.1, .long σ.2.2.2.2.2.2.1, .ref so, .ref be, .int σ.2.2.2.2.2.2.2.2.2.1, .int σ.2.2.2.2.2.2.2.2.2.2.1, .int σ.2.2.2.2.2.2.2.2.2.2.2.1, .int σ.2.2.2.2.2.2.2.2.2.2.2.2])), (w0, .inl (cJ, 511, .inr (.inl (σ.2.2.2.1)))), (so, .inl (cI, 30, .inl (σ.2.2.2.2.2.2.2.1))), (be, .inl (cI, 30, .inl (σ.2.2.2.2.2.2.2.2.1)))]) ⟨hx, hb, hml, hown, hts⟩ (c_X4_bits l dC dI   p2 _ hw H.size) (va_cwS 1 hts gX4_queue_X4_bits rfl rfl rfl (by decide +kernel) ⟨Nat.le_of_ble_eq_true rfl, Nat.le_of_ble_eq_true rfl⟩) hKc hnw hP hD hPc hDc rfl hl.1 rfl (Nat.le_of_ble_eq_true rfl) dX4_queue_56 ⟨Nat.zero_le _, Nat.zero_le _⟩) hP hD hS hFc [] [0, 1, 2, 3] rfl rfl (by decide) (by decide) (fun r15 u1 H locs hq hP hD hS => ?_)
          obtain ⟨hw, rfl⟩ := hq
          have hP : va_P (dC, dI) vwCl [(h0, .inr (3, [.int σ.1, .int σ.2.1, .int σ.2.2.1, .ref w0, .int σ.2.2.2.2.1, .int σ.2.2.2.2.2.1, .long σ.2.2.2.2.2.2.1, .ref so, .ref be, .int σ.2.2.2.2.2.2.2.2.2.1, .int σ.2.2.2.2.2.2.2.2.2.2.1, .int σ.2.2.2.2.2.2.2.2.2.2.2.1, .int σ.2.2.2.2.2.2.2.2.2.2.2.2])), (w0, .inl (cJ, 511, .inr (.inl (σ.2.2.2.1)))), (so, .inl (cI, 30, .inl (σ.2.2.2.2.2.2.2.1))), (be, .inl (cI, 30, .inl (σ.2.2.2.2.2.2.2.2.1)))] H := hP
          have hD : va_D A [(h0, .inr (3, [.int σ.1, .int σ.2.1, .int σ.2.2.1, .ref w0, .int σ.2.2.2.2.1, .int σ.2.2.2.2.2.1, .long σ.2.2.2.2.2.2.1, .ref so, .ref be, .int σ.2.2.2.2.2.2.2.2.2.1, .int σ.2.2.2.2.2.2.2.2.2.2.1, .int σ.2.2.2.2.2.2.2.2.2.2.2.1, .int σ.2.2.2.2.2.2.2.2.2.2.2.2])), (w0, .inl (cJ, 511, .inr (.inl (σ.2.2.2.1)))), (so, .inl (cI, 30, .inl (σ.2.2.2.2.2.2.2.1))), (be, .inl (cI, 30, .inl (σ.2.2.2.2.2.2.2.2.1)))] := hD
          refine lv_iload_n hx hb dX4_queue_59 rfl (lv_at hl 1 rfl) ?_
          refine lv_icmp_ne (tgt := 65) hx hb dX4_queue_60 (by decide) (fun c17 => ?_) (fun c17 => ?_)
          · have hw := hw.1 c17
            refine lv_iload_n hx hb dX4_queue_65 rfl (lv_at hl 1 rfl) ?_
            refine lv_iload_n hx hb dX4_queue_66 rfl (lv_at hl 2 rfl) ?_
            refine lv_iload_n hx hb dX4_queue_67 rfl (lv_at hl 3 rfl) ?_
            have hPc := hP.sub (ws' := ([] : va_W)) [] rfl
            have hDc := hD.sub (ws' := ([] : va_W)) [] (by decide) rfl
            have hKc := hK.sub (tys' := []) [] rfl
            have hFc := va_free (wc := ([] : va_W)) hD hS hA [] rfl
            refine kc_i (wr := [(h0, .inr (3, [.int σ.1, .int σ.2.1, .int σ.2.2.1, .ref w0, .int σ.2.2.2.2.1, .int σ.2.2.2.2.2.1, .long σ.2.2.2.2.2.2.1, .ref so, .ref be, .int σ.2.2.2.2.2.2.2.2.2.1, .int σ.2.2.2.2.2.2.2.2.2.2.1, .int σ.2.2.2.2.2.2.2.2.2.2.2.1, .int σ.2.2.2.2.2.2.2.2.2.2.2.2])), (w0, .inl (cJ, 511, .inr (.inl (σ.2.2.2.1)))), (so, .inl (cI, 30, .inl (σ.2.2.2.2.2.2.2.1))), (be, .inl (cI, 30, .inl (σ.2.2.2.2.2.2.2.2.1)))]) (kr_S (As := [.int p0, .int p1, .int p2]) (rest := []) (ws := [(h0, .inr (3, [.int σ.1, .int σ.2.1, .int σ.2.2.1, .ref w0, .int σ.2.2.2.2.1, .int σ.2.2.2.2.2.1, .long σ.2.2.2.2.2.2.1, .ref so, .ref be, .int σ.2.2.2.2.2.2.2.2.2.1, .int σ.2.2.2.2.2.2.2.2.2.2.1, .int σ.2.2.2.2.2.2.2.2.2.2.2.1, .int σ.2.2.2.2.2.2.2.2.2.2.2.2])), (w0, .inl (cJ, 511, .inr (.inl (σ.2.2.2.1)))), (so, .inl (cI, 30, .inl (σ.2.2.2.2.2.2.2.1))), (be, .inl (cI, 30, .inl (σ.2.2.2.2.2.2.2.2.1)))]) ⟨hx, hb, hml, hown, hts⟩ (c_X4_queued l dC dI   p0 p1 p2 _ hw H.size) (va_cwS 3 hts gX4_queue_X4_queued rfl rfl rfl (by decide +kernel) ⟨Nat.le_of_ble_eq_true rfl, Nat.le_of_ble_eq_true rfl⟩) hKc hnw hP hD hPc hDc rfl hl.1 rfl (Nat.le_of_ble_eq_true rfl) dX4_queue_68 ⟨Nat.zero_le _, Nat.zero_le _⟩) hP hD hS hFc [] [0, 1, 2, 3] rfl rfl (by decide) (by decide) (fun r18 u1 H locs hq hP hD hS => ?_)
            obtain ⟨hw, rfl⟩ := hq
            have hP : va_P (dC, dI) vwCl [(h0, .inr (3, [.int σ.1, .int σ.2.1, .int σ.2.2.1, .ref w0, .int σ.2.2.2.2.1, .int σ.2.2.2.2.2.1, .long σ.2.2.2.2.2.2.1, .ref so, .ref be, .int σ.2.2.2.2.2.2.2.2.2.1, .int σ.2.2.2.2.2.2.2.2.2.2.1, .int σ.2.2.2.2.2.2.2.2.2.2.2.1, .int σ.2.2.2.2.2.2.2.2.2.2.2.2])), (w0, .inl (cJ, 511, .inr (.inl (σ.2.2.2.1)))), (so, .inl (cI, 30, .inl (σ.2.2.2.2.2.2.2.1))), (be, .inl (cI, 30, .inl (σ.2.2.2.2.2.2.2.2.1)))] H := hP
            have hD : va_D A [(h0, .inr (3, [.int σ.1, .int σ.2.1, .int σ.2.2.1, .ref w0, .int σ.2.2.2.2.1, .int σ.2.2.2.2.2.1, .long σ.2.2.2.2.2.2.1, .ref so, .ref be, .int σ.2.2.2.2.2.2.2.2.2.1, .int σ.2.2.2.2.2.2.2.2.2.2.1, .int σ.2.2.2.2.2.2.2.2.2.2.2.1, .int σ.2.2.2.2.2.2.2.2.2.2.2.2])), (w0, .inl (cJ, 511, .inr (.inl (σ.2.2.2.1)))), (so, .inl (cI, 30, .inl (σ.2.2.2.2.2.2.2.1))), (be, .inl (cI, 30, .inl (σ.2.2.2.2.2.2.2.2.1)))] := hD
            exact W.iret (v := r18) hx hb hr (fun t ht hW => ⟨⟨r18, ((cl4 h0 w0 so be cJ cI σ)), rfl, ⟨hw, rfl⟩, by rw [ht]; exact hP, va_K.moved hW.alike hK, hD⟩, hS.F ht⟩) hS.2.2 dX4_queue_71
          · have hw := hw.2 c17
            refine lv_iconst (v := (-1 : Int32)) hx hb dX4_queue_63 (by decide) ?_
            exact W.iret (v := (-1 : Int32)) hx hb hr (fun t ht hW => ⟨⟨(-1 : Int32), ((cl4 h0 w0 so be cJ cI σ)), rfl, ⟨hw, rfl⟩, by rw [ht]; exact hP, va_K.moved hW.alike hK, hD⟩, hS.F ht⟩) hS.2.2 dX4_queue_64
set_option maxHeartbeats 4000000 in
set_option maxRecDepth 100000 in
theorem c_X4_ways (l : Launch) (dC : Nat → ClassId) (dI : Nat → Nat → Nat) (h0 w0 so be : Nat) (cJ : ClassId) (cI : ClassId) (σ : SM) (p0 : Int32) (p1 : Int32) (post : Int32 → Prop) (hw : wp_X4_ways p0 p1 σ post) : KI l yX4_ways wsX4_ways ({ frames := 1, cells := 0, slots := 0, locals := 26 } : Room) (dC, dI) [(cJ, .long), (cI, .int)] (cl4 h0 w0 so be cJ cI σ) [.ref h0, .int p0, .int p1] (fun r u => post r ∧ u = (cl4 h0 w0 so be cJ cI σ)) := by
  intro sz
  refine Met.ofW (cc := cX4_ways) (maxL := 8) (ret := (some .int)) (by decide) rfl ?_
  intro p e s m args below meth c s₁ B hml hv
  obtain ⟨rfl, hsz, hP, hK, hD0, hnw⟩ := hv
  have hx := B.exec
  have hb := B.bytes
  have hr := B.returns
  have hts := atoms_spec (ws := wsX4_ways) B.pre
  have hown : s.vm.findClass RX4 = some m.cls := findClass_of_methodNamed B.named
  have hlocks := B.notSynchronized
  subst hsz
  have hD := hD0.self (sz := s.heap.size)
  generalize hAe : va_A (cl4 h0 w0 so be cJ cI σ) s.heap.size = A at hD ⊢
  have hA : ∀ q : Nat, s.heap.size ≤ q → A q := fun q h => by rw [← hAe]; exact Or.inr h
  have hS : va_S A s.heap s.heap [] := va_S.rf
  have hP : va_P (dC, dI) vwCl [(h0, .inr (3, [.int σ.1, .int σ.2.1, .int σ.2.2.1, .ref w0, .int σ.2.2.2.2.1, .int σ.2.2.2.2.2.1, .long σ.2.2.2.2.2.2.1, .ref so, .ref be, .int σ.2.2.2.2.2.2.2.2.2.1, .int σ.2.2.2.2.2.2.2.2.2.2.1, .int σ.2.2.2.2.2.2.2.2.2.2.2.1, .int σ.2.2.2.2.2.2.2.2.2.2.2.2])), (w0, .inl (cJ, 511, .inr (.inl (σ.2.2.2.1)))), (so, .inl (cI, 30, .inl (σ.2.2.2.2.2.2.2.1))), (be, .inl (cI, 30, .inl (σ.2.2.2.2.2.2.2.2.1)))] s.heap := hP
  have hD : va_D A [(h0, .inr (3, [.int σ.1, .int σ.2.1, .int σ.2.2.1, .ref w0, .int σ.2.2.2.2.1, .int σ.2.2.2.2.2.1, .long σ.2.2.2.2.2.2.1, .ref so, .ref be, .int σ.2.2.2.2.2.2.2.2.2.1, .int σ.2.2.2.2.2.2.2.2.2.2.1, .int σ.2.2.2.2.2.2.2.2.2.2.2.1, .int σ.2.2.2.2.2.2.2.2.2.2.2.2])), (w0, .inl (cJ, 511, .inr (.inl (σ.2.2.2.1)))), (so, .inl (cI, 30, .inl (σ.2.2.2.2.2.2.2.1))), (be, .inl (cI, 30, .inl (σ.2.2.2.2.2.2.2.2.1)))] := hD
  have L31 : ∀ (x1 : Int32) (x2 : Int32)  (n : Nat) (x3 : Int32) (x4 : Int32) (x5 : Int32) (x6 : Int32)  (k : Int32 → Int32 → Int32 → Int32 → Prop), wl_X4_ways_31 x1 x2 σ n x3 x4 x5 x6 k →
      (∀ (x3 : Int32) (x4 : Int32) (x5 : Int32) (x6 : Int32) , k x3 x4 x5 x6 → ∀ (H : Heap) (locs : List Loc) (ls : Array Slot), va_P (dC, dI) vwCl [(h0, .inr (3, [.int σ.1, .int σ.2.1, .int σ.2.2.1, .ref w0, .int σ.2.2.2.2.1, .int σ.2.2.2.2.2.1, .long σ.2.2.2.2.2.2.1, .ref so, .ref be, .int σ.2.2.2.2.2.2.2.2.2.1, .int σ.2.2.2.2.2.2.2.2.2.2.1, .int σ.2.2.2.2.2.2.2.2.2.2.2.1, .int σ.2.2.2.2.2.2.2.2.2.2.2.2])), (w0, .inl (cJ, 511, .inr (.inl (σ.2.2.2.1)))), (so, .inl (cI, 30, .inl (σ.2.2.2.2.2.2.2.1))), (be, .inl (cI, 30, .inl (σ.2.2.2.2.2.2.2.2.1)))] H → va_D A [(h0, .inr (3, [.int σ.1, .int σ.2.1, .int σ.2.2.1, .ref w0, .int σ.2.2.2.2.1, .int σ.2.2.2.2.2.1, .long σ.2.2.2.2.2.2.1, .ref so, .ref be, .int σ.2.2.2.2.2.2.2.2.2.1, .int σ.2.2.2.2.2.2.2.2.2.2.1, .int σ.2.2.2.2.2.2.2.2.2.2.2.1, .int σ.2.2.2.2.2.2.2.2.2.2.2.2])), (w0, .inl (cJ, 511, .inr (.inl (σ.2.2.2.1)))), (so, .inl (cI, 30, .inl (σ.2.2.2.2.2.2.2.1))), (be, .inl (cI, 30, .inl (σ.2.2.2.2.2.2.2.2.1)))] → va_S A s.heap H locs → lv_has ls 8 [(6, .int x6), (5, .int x5), (4, .int x4), (3, .int x3), (0, .ref h0), (1, .int x1), (2, .int x2)] → W p l e (headSpec wsX4_ways ({ frames := 1, cells := 0, slots := 0, locals := 26 } : Room)).room s m ([.ref h0, .int p0, .int p1] : List Value).toArray below meth c H locs 0 0 (MQ below (va_Qi (fun r u => post r ∧ u = (cl4 h0 w0 so be cJ cI σ)) (kB (dC, dI) [(cJ, .long), (cI, .int)] A) A) ([.ref h0, .int p0, .int p1] : List Value).toArray s 0 0 A) (F0 m 83 ls [])) →
      ∀ (H : Heap) (locs : List Loc) (ls : Array Slot), va_P (dC, dI) vwCl [(h0, .inr (3, [.int σ.1, .int σ.2.1, .int σ.2.2.1, .ref w0, .int σ.2.2.2.2.1, .int σ.2.2.2.2.2.1, .long σ.2.2.2.2.2.2.1, .ref so, .ref be, .int σ.2.2.2.2.2.2.2.2.2.1, .int σ.2.2.2.2.2.2.2.2.2.2.1, .int σ.2.2.2.2.2.2.2.2.2.2.2.1, .int σ.2.2.2.2.2.2.2.2.2.2.2.2])), (w0, .inl (cJ, 511, .inr (.inl (σ.2.2.2.1)))), (so, .inl (cI, 30, .inl (σ.2.2.2.2.2.2.2.1))), (be, .inl (cI, 30, .inl (σ.2.2.2.2.2.2.2.2.1)))] H → va_D A [(h0, .inr (3, [.int σ.1, .int σ.2.1, .int σ.2.2.1, .ref w0, .int σ.2.2.2.2.1, .int σ.2.2.2.2.2.1, .long σ.2.2.2.2.2.2.1, .ref so, .ref be, .int σ.2.2.2.2.2.2.2.2.2.1, .int σ.2.2.2.2.2.2.2.2.2.2.1, .int σ.2.2.2.2.2.2.2.2.2.2.2.1, .int σ.2.2.2.2.2.2.2.2.2.2.2.2])), (w0, .inl (cJ, 511, .inr (.inl (σ.2.2.2.1)))), (so, .inl (cI, 30, .inl (σ.2.2.2.2.2.2.2.1))), (be, .inl (cI, 30, .inl (σ.2.2.2.2.2.2.2.2.1)))] → va_S A s.heap H locs → lv_has ls 8 [(6, .int x6), (5, .int x5), (4, .int x4), (3, .int x3), (0, .ref h0), (1, .int x1), (2, .int x2)] → W p l e (headSpec wsX4_ways ({ frames := 1, cells := 0, slots := 0, locals := 26 } : Room)).room s m ([.ref h0, .int p0, .int p1] : List Value).toArray below meth c H locs 0 0 (MQ below (va_Qi (fun r u => post r ∧ u = (cl4 h0 w0 so be cJ cI σ)) (kB (dC, dI) [(cJ, .long), (cI, .int)] A) A) ([.ref h0, .int p0, .int p1] : List Value).toArray s 0 0 A) (F0 m 31 ls []) := by
    intro x1 x2 n
    induction n with
    | zero => intro x3 x4 x5 x6 k hw; exact absurd hw id
    | succ n ih =>
      intro x3 x4 x5 x6 k hw hk H locs ls hP hD hS hl
      unfold wl_X4_ways_31 at hw
      refine lv_iload hx hb dX4_ways_31 (lv_at hl 0 rfl) ?_
      refine lv_iload_n hx hb dX4_ways_33 rfl (lv_at hl 5 rfl) ?_
      refine lv_icmp_ge (tgt := 83) hx hb dX4_ways_34 (by decide) (fun c5 => ?_) (fun c5 => ?_)
      · have hw := hw.1 c5
        exact hk x3 x4 x5 x6 hw H locs ls hP hD hS (lv_sub hl [0, 1, 2, 3, 4, 5, 6] rfl)
      · have hw := hw.2 c5
        refine lv_iload hx hb dX4_ways_37 (lv_at hl 2 rfl) ?_
        refine lv_iload_n hx hb dX4_ways_39 rfl (lv_at hl 3 rfl) ?_
        refine lv_iconst (v := (3 : Int32)) hx hb dX4_ways_40 (by decide) ?_
        refine lv_irem hx hb dX4_ways_41 (by decide) ?_
        refine lv_iconst (v := (1 : Int32)) hx hb dX4_ways_42 (by decide) ?_
        refine lv_icmp_ne (tgt := 50) hx hb dX4_ways_43 (by decide) (fun c6 => ?_) (fun c6 => ?_)
        · have hw := hw.1 c6
          refine lv_iconst (v := (0 : Int32)) hx hb dX4_ways_50 (by decide) ?_
          refine lv_iadd hx hb dX4_ways_51 ?_
          refine lv_istore (lv' := [(4, .int (x4 + (0 : Int32))), (6, .int x6), (5, .int x5), (3, .int x3), (0, .ref h0), (1, .int x1), (2, .int x2)]) hx hb dX4_ways_52 hl (by decide) rfl (fun ls hl => ?_)
          refine lv_iload hx hb dX4_ways_54 (lv_at hl 2 rfl) ?_
          refine lv_iload_n hx hb dX4_ways_56 rfl (lv_at hl 3 rfl) ?_
          refine lv_iconst (v := (3 : Int32)) hx hb dX4_ways_57 (by decide) ?_
          refine lv_irem hx hb dX4_ways_58 (by decide) ?_
          refine lv_if_le (tgt := 69) hx hb dX4_ways_59 (by decide) (fun c7 => ?_) (fun c7 => ?_)
          · have hw := hw.1 c7
            refine lv_iconst (v := (0 : Int32)) hx hb dX4_ways_69 (by decide) ?_
            refine lv_ior hx hb dX4_ways_70 ?_
            refine lv_istore (lv' := [(5, .int (x5 ||| (0 : Int32))), (4, .int (x4 + (0 : Int32))), (6, .int x6), (3, .int x3), (0, .ref h0), (1, .int x1), (2, .int x2)]) hx hb dX4_ways_71 hl (by decide) rfl (fun ls hl => ?_)
            refine lv_iload_n hx hb dX4_ways_73 rfl (lv_at hl 3 rfl) ?_
            refine lv_iconst (v := (3 : Int32)) hx hb dX4_ways_74 (by decide) ?_
            refine lv_idiv hx hb dX4_ways_75 (by decide) ?_
            refine lv_istore_n (lv' := [(3, .int (x3 / (3 : Int32))), (5, .int (x5 ||| (0 : Int32))), (4, .int (x4 + (0 : Int32))), (6, .int x6), (0, .ref h0), (1, .int x1), (2, .int x2)]) hx hb dX4_ways_76 rfl hl (by decide) rfl (fun ls hl => ?_)
            refine lv_iinc (v := (x6 + (1 : Int32))) (lv' := [(6, .int (x6 + (1 : Int32))), (3, .int (x3 / (3 : Int32))), (5, .int (x5 ||| (0 : Int32))), (4, .int (x4 + (0 : Int32))), (0, .ref h0), (1, .int x1), (2, .int x2)]) hx hb dX4_ways_77 hl (k := 3) rfl rfl (by decide) rfl (fun ls hl => ?_)
            refine lv_goto (tgt := 31) hx hb dX4_ways_80 (by decide) ?_
            exact ih (x3 / (3 : Int32)) (x4 + (0 : Int32)) (x5 ||| (0 : Int32)) (x6 + (1 : Int32)) _ hw hk H locs ls hP hD hS (lv_sub hl [0, 2, 3, 1, 4, 5, 6] rfl)
          · have hw := hw.2 c7
            refine lv_iconst (v := (1 : Int32)) hx hb dX4_ways_62 (by decide) ?_
            refine lv_iload hx hb dX4_ways_63 (lv_at hl 1 rfl) ?_
            refine lv_ishl hx hb dX4_ways_65 ?_
            refine lv_goto (tgt := 70) hx hb dX4_ways_66 (by decide) ?_
            refine lv_ior hx hb dX4_ways_70 ?_
            refine lv_istore (lv' := [(5, .int (x5 ||| ((1 : Int32) <<< (x6 &&& (31 : Int32))))), (4, .int (x4 + (0 : Int32))), (6, .int x6), (3, .int x3), (0, .ref h0), (1, .int x1), (2, .int x2)]) hx hb dX4_ways_71 hl (by decide) rfl (fun ls hl => ?_)
            refine lv_iload_n hx hb dX4_ways_73 rfl (lv_at hl 3 rfl) ?_
            refine lv_iconst (v := (3 : Int32)) hx hb dX4_ways_74 (by decide) ?_
            refine lv_idiv hx hb dX4_ways_75 (by decide) ?_
            refine lv_istore_n (lv' := [(3, .int (x3 / (3 : Int32))), (5, .int (x5 ||| ((1 : Int32) <<< (x6 &&& (31 : Int32))))), (4, .int (x4 + (0 : Int32))), (6, .int x6), (0, .ref h0), (1, .int x1), (2, .int x2)]) hx hb dX4_ways_76 rfl hl (by decide) rfl (fun ls hl => ?_)
            refine lv_iinc (v := (x6 + (1 : Int32))) (lv' := [(6, .int (x6 + (1 : Int32))), (3, .int (x3 / (3 : Int32))), (5, .int (x5 ||| ((1 : Int32) <<< (x6 &&& (31 : Int32))))), (4, .int (x4 + (0 : Int32))), (0, .ref h0), (1, .int x1), (2, .int x2)]) hx hb dX4_ways_77 hl (k := 3) rfl rfl (by decide) rfl (fun ls hl => ?_)
            refine lv_goto (tgt := 31) hx hb dX4_ways_80 (by decide) ?_
            exact ih (x3 / (3 : Int32)) (x4 + (0 : Int32)) (x5 ||| ((1 : Int32) <<< (x6 &&& (31 : Int32)))) (x6 + (1 : Int32)) _ hw hk H locs ls hP hD hS (lv_sub hl [0, 2, 3, 1, 4, 5, 6] rfl)
        · have hw := hw.2 c6
          refine lv_iconst (v := (1 : Int32)) hx hb dX4_ways_46 (by decide) ?_
          refine lv_goto (tgt := 51) hx hb dX4_ways_47 (by decide) ?_
          refine lv_iadd hx hb dX4_ways_51 ?_
          refine lv_istore (lv' := [(4, .int (x4 + (1 : Int32))), (6, .int x6), (5, .int x5), (3, .int x3), (0, .ref h0), (1, .int x1), (2, .int x2)]) hx hb dX4_ways_52 hl (by decide) rfl (fun ls hl => ?_)
          refine lv_iload hx hb dX4_ways_54 (lv_at hl 2 rfl) ?_
          refine lv_iload_n hx hb dX4_ways_56 rfl (lv_at hl 3 rfl) ?_
          refine lv_iconst (v := (3 : Int32)) hx hb dX4_ways_57 (by decide) ?_
          refine lv_irem hx hb dX4_ways_58 (by decide) ?_
          refine lv_if_le (tgt := 69) hx hb dX4_ways_59 (by decide) (fun c8 => ?_) (fun c8 => ?_)
          · have hw := hw.1 c8
            refine lv_iconst (v := (0 : Int32)) hx hb dX4_ways_69 (by decide) ?_
            refine lv_ior hx hb dX4_ways_70 ?_
            refine lv_istore (lv' := [(5, .int (x5 ||| (0 : Int32))), (4, .int (x4 + (1 : Int32))), (6, .int x6), (3, .int x3), (0, .ref h0), (1, .int x1), (2, .int x2)]) hx hb dX4_ways_71 hl (by decide) rfl (fun ls hl => ?_)
            refine lv_iload_n hx hb dX4_ways_73 rfl (lv_at hl 3 rfl) ?_
            refine lv_iconst (v := (3 : Int32)) hx hb dX4_ways_74 (by decide) ?_
            refine lv_idiv hx hb dX4_ways_75 (by decide) ?_
            refine lv_istore_n (lv' := [(3, .int (x3 / (3 : Int32))), (5, .int (x5 ||| (0 : Int32))), (4, .int (x4 + (1 : Int32))), (6, .int x6), (0, .ref h0), (1, .int x1), (2, .int x2)]) hx hb dX4_ways_76 rfl hl (by decide) rfl (fun ls hl => ?_)
            refine lv_iinc (v := (x6 + (1 : Int32))) (lv' := [(6, .int (x6 + (1 : Int32))), (3, .int (x3 / (3 : Int32))), (5, .int (x5 ||| (0 : Int32))), (4, .int (x4 + (1 : Int32))), (0, .ref h0), (1, .int x1), (2, .int x2)]) hx hb dX4_ways_77 hl (k := 3) rfl rfl (by decide) rfl (fun ls hl => ?_)
            refine lv_goto (tgt := 31) hx hb dX4_ways_80 (by decide) ?_
            exact ih (x3 / (3 : Int32)) (x4 + (1 : Int32)) (x5 ||| (0 : Int32)) (x6 + (1 : Int32)) _ hw hk H locs ls hP hD hS (lv_sub hl [0, 2, 3, 1, 4, 5, 6] rfl)
          · have hw := hw.2 c8
            refine lv_iconst (v := (1 : Int32)) hx hb dX4_ways_62 (by decide) ?_
            refine lv_iload hx hb dX4_ways_63 (lv_at hl 1 rfl) ?_
            refine lv_ishl hx hb dX4_ways_65 ?_
            refine lv_goto (tgt := 70) hx hb dX4_ways_66 (by decide) ?_
            refine lv_ior hx hb dX4_ways_70 ?_
            refine lv_istore (lv' := [(5, .int (x5 ||| ((1 : Int32) <<< (x6 &&& (31 : Int32))))), (4, .int (x4 + (1 : Int32))), (6, .int x6), (3, .int x3), (0, .ref h0), (1, .int x1), (2, .int x2)]) hx hb dX4_ways_71 hl (by decide) rfl (fun ls hl => ?_)
            refine lv_iload_n hx hb dX4_ways_73 rfl (lv_at hl 3 rfl) ?_
            refine lv_iconst (v := (3 : Int32)) hx hb dX4_ways_74 (by decide) ?_
            refine lv_idiv hx hb dX4_ways_75 (by decide) ?_
            refine lv_istore_n (lv' := [(3, .int (x3 / (3 : Int32))), (5, .int (x5 ||| ((1 : Int32) <<< (x6 &&& (31 : Int32))))), (4, .int (x4 + (1 : Int32))), (6, .int x6), (0, .ref h0), (1, .int x1), (2, .int x2)]) hx hb dX4_ways_76 rfl hl (by decide) rfl (fun ls hl => ?_)
            refine lv_iinc (v := (x6 + (1 : Int32))) (lv' := [(6, .int (x6 + (1 : Int32))), (3, .int (x3 / (3 : Int32))), (5, .int (x5 ||| ((1 : Int32) <<< (x6 &&& (31 : Int32))))), (4, .int (x4 + (1 : Int32))), (0, .ref h0), (1, .int x1), (2, .int x2)]) hx hb dX4_ways_77 hl (k := 3) rfl rfl (by decide) rfl (fun ls hl => ?_)
            refine lv_goto (tgt := 31) hx hb dX4_ways_80 (by decide) ?_
            exact ih (x3 / (3 : Int32)) (x4 + (1 : Int32)) (x5 ||| ((1 : Int32) <<< (x6 &&& (31 : Int32)))) (x6 + (1 : Int32)) _ hw hk H locs ls hP hD hS (lv_sub hl [0, 2, 3, 1, 4, 5, 6] rfl)
  have L119 : ∀ (x1 : Int32) (x2 : Int32) (x3 : Int32) (x4 : Int32) (x5 : Int32)  (n : Nat) (x6 : Int32) (x7 : Int32)  (k : Int32 → Int32 → Prop), wl_X4_ways_119 x1 x2 x3 x4 x5 σ n x6 x7 k →
      (∀ (x6 : Int32) (x7 : Int32) , k x6 x7 → ∀ (H : Heap) (locs : List Loc) (ls : Array Slot), va_P (dC, dI) vwCl [(h0, .inr (3, [.int σ.1, .int σ.2.1, .int σ.2.2.1, .ref w0, .int σ.2.2.2.2.1, .int σ.2.2.2.2.2.1, .long σ.2.2.2.2.2.2.1, .ref so, .ref be, .int σ.2.2.2.2.2.2.2.2.2.1, .int σ.2.2.2.2.2.2.2.2.2.2.1, .int σ.2.2.2.2.2.2.2.2.2.2.2.1, .int σ.2.2.2.2.2.2.2.2.2.2.2.2])), (w0, .inl (cJ, 511, .inr (.inl (σ.2.2.2.1)))), (so, .inl (cI, 30, .inl (σ.2.2.2.2.2.2.2.1))), (be, .inl (cI, 30, .inl (σ.2.2.2.2.2.2.2.2.1)))] H → va_D A [(h0, .inr (3, [.int σ.1, .int σ.2.1, .int σ.2.2.1, .ref w0, .int σ.2.2.2.2.1, .int σ.2.2.2.2.2.1, .long σ.2.2.2.2.2.2.1, .ref so, .ref be, .int σ.2.2.2.2.2.2.2.2.2.1, .int σ.2.2.2.2.2.2.2.2.2.2.1, .int σ.2.2.2.2.2.2.2.2.2.2.2.1, .int σ.2.2.2.2.2.2.2.2.2.2.2.2])), (w0, .inl (cJ, 511, .inr (.inl (σ.2.2.2.1)))), (so, .inl (cI, 30, .inl (σ.2.2.2.2.2.2.2.1))), (be, .inl (cI, 30, .inl (σ.2.2.2.2.2.2.2.2.1)))] → va_S A s.heap H locs → lv_has ls 8 [(7, .int x7), (6, .int x6), (5, .int x5), (4, .int x4), (3, .int x3), (0, .ref h0), (1, .int x1), (2, .int x2)] → W p l e (headSpec wsX4_ways ({ frames := 1, cells := 0, slots := 0, locals := 26 } : Room)).room s m ([.ref h0, .int p0, .int p1] : List Value).toArray below meth c H locs 0 0 (MQ below (va_Qi (fun r u => post r ∧ u = (cl4 h0 w0 so be cJ cI σ)) (kB (dC, dI) [(cJ, .long), (cI, .int)] A) A) ([.ref h0, .int p0, .int p1] : List Value).toArray s 0 0 A) (F0 m 165 ls [])) →
      ∀ (H : Heap) (locs : List Loc) (ls : Array Slot), va_P (dC, dI) vwCl [(h0, .inr (3, [.int σ.1, .int σ.2.1, .int σ.2.2.1, .ref w0, .int σ.2.2.2.2.1, .int σ.2.2.2.2.2.1, .long σ.2.2.2.2.2.2.1, .ref so, .ref be, .int σ.2.2.2.2.2.2.2.2.2.1, .int σ.2.2.2.2.2.2.2.2.2.2.1, .int σ.2.2.2.2.2.2.2.2.2.2.2.1, .int σ.2.2.2.2.2.2.2.2.2.2.2.2])), (w0, .inl (cJ, 511, .inr (.inl (σ.2.2.2.1)))), (so, .inl (cI, 30, .inl (σ.2.2.2.2.2.2.2.1))), (be, .inl (cI, 30, .inl (σ.2.2.2.2.2.2.2.2.1)))] H → va_D A [(h0, .inr (3, [.int σ.1, .int σ.2.1, .int σ.2.2.1, .ref w0, .int σ.2.2.2.2.1, .int σ.2.2.2.2.2.1, .long σ.2.2.2.2.2.2.1, .ref so, .ref be, .int σ.2.2.2.2.2.2.2.2.2.1, .int σ.2.2.2.2.2.2.2.2.2.2.1, .int σ.2.2.2.2.2.2.2.2.2.2.2.1, .int σ.2.2.2.2.2.2.2.2.2.2.2.2])), (w0, .inl (cJ, 511, .inr (.inl (σ.2.2.2.1)))), (so, .inl (cI, 30, .inl (σ.2.2.2.2.2.2.2.1))), (be, .inl (cI, 30, .inl (σ.2.2.2.2.2.2.2.2.1)))] → va_S A s.heap H locs → lv_has ls 8 [(7, .int x7), (6, .int x6), (5, .int x5), (4, .int x4), (3, .int x3), (0, .ref h0), (1, .int x1), (2, .int x2)] → W p l e (headSpec wsX4_ways ({ frames := 1, cells := 0, slots := 0, locals := 26 } : Room)).room s m ([.ref h0, .int p0, .int p1] : List Value).toArray below meth c H locs 0 0 (MQ below (va_Qi (fun r u => post r ∧ u = (cl4 h0 w0 so be cJ cI σ)) (kB (dC, dI) [(cJ, .long), (cI, .int)] A) A) ([.ref h0, .int p0, .int p1] : List Value).toArray s 0 0 A) (F0 m 119 ls []) := by
    intro x1 x2 x3 x4 x5 n
    induction n with
    | zero => intro x6 x7 k hw; exact absurd hw id
    | succ n ih =>
      intro x6 x7 k hw hk H locs ls hP hD hS hl
      unfold wl_X4_ways_119 at hw
      refine lv_iload hx hb dX4_ways_119 (lv_at hl 0 rfl) ?_
      refine lv_iconst (v := (1 : Int32)) hx hb dX4_ways_121 (by decide) ?_
      refine lv_iload_n hx hb dX4_ways_122 rfl (lv_at hl 6 rfl) ?_
      refine lv_ishl hx hb dX4_ways_123 ?_
      refine lv_icmp_ge (tgt := 165) hx hb dX4_ways_124 (by decide) (fun c22 => ?_) (fun c22 => ?_)
      · have hw := hw.1 c22
        exact hk x6 x7 hw H locs ls hP hD hS (lv_sub hl [0, 1, 2, 3, 4, 5, 6, 7] rfl)
      · have hw := hw.2 c22
        refine lv_iload hx hb dX4_ways_127 (lv_at hl 1 rfl) ?_
        refine lv_iload hx hb dX4_ways_129 (lv_at hl 0 rfl) ?_
        have hPc := hP.sub (ws' := ([] : va_W)) [] rfl
        have hDc := hD.sub (ws' := ([] : va_W)) [] (by decide) rfl
        have hKc := hK.sub (tys' := []) [] rfl
        have hFc := va_free (wc := ([] : va_W)) hD hS hA [] rfl
        refine kc_i (wr := [(h0, .inr (3, [.int σ.1, .int σ.2.1, .int σ.2.2.1, .ref w0, .int σ.2.2.2.2.1, .int σ.2.2.2.2.2.1, .long σ.2.2.2.2.2.2.1, .ref so, .ref be, .int σ.2.2.2.2.2.2.2.2.2.1, .int σ.2.2.2.2.2.2.2.2.2.2.1, .int σ.2.2.2.2.2.2.2.2.2.2.2.1, .int σ.2.2.2.2.2.2.2.2.2.2.2.2])), (w0, .inl (cJ, 511, .inr (.inl (σ.2.2.2.1)))), (so, .inl (cI, 30, .inl (σ.2.2.2.2.2.2.2.1))), (be, .inl (cI, 30, .inl (σ.2.2.2.2.2.2.2.2.1)))]) (kr_S (As := [.int x7]) (rest := [.int x6]) (ws := [(h0, .inr (3, [.int σ.1, .int σ.2.1, .int σ.2.2.1, .ref w0, .int σ.2.2.2.2.1, .int σ.2.2.2.2.2.1, .long σ.2.2.2.2.2.2.1, .ref so, .ref be, .int σ.2.2.2.2.2.2.2.2.2.1, .int σ.2.2.2.2.2.2.2.2.2.2.1, .int σ.2.2.2.2.2.2.2.2.2.2.2.1, .int σ.2.2.2.2.2.2.2.2.2.2.2.2])), (w0, .inl (cJ, 511, .inr (.inl (σ.2.2.2.1)))), (so, .inl (cI, 30, .inl (σ.2.2.2.2.2.2.2.1))), (be, .inl (cI, 30, .inl (σ.2.2.2.2.2.2.2.2.1)))]) ⟨hx, hb, hml, hown, hts⟩ (c_X4_bits l dC dI   x7 _ hw H.size) (va_cwS 1 hts gX4_ways_X4_bits rfl rfl rfl (by decide +kernel) ⟨Nat.le_of_ble_eq_true rfl, Nat.le_of_ble_eq_true rfl⟩) hKc hnw hP hD hPc hDc rfl hl.1 rfl (Nat.le_of_ble_eq_true rfl) dX4_ways_131 ⟨Nat.zero_le _, Nat.zero_le _⟩) hP hD hS hFc [] [0, 1, 2, 3] rfl rfl (by decide) (by decide) (fun r23 u1 H locs hq hP hD hS => ?_)
        obtain ⟨hw, rfl⟩ := hq
        have hP : va_P (dC, dI) vwCl [(h0, .inr (3, [.int σ.1, .int σ.2.1, .int σ.2.2.1, .ref w0, .int σ.2.2.2.2.1, .int σ.2.2.2.2.2.1, .long σ.2.2.2.2.2.2.1, .ref so, .ref be, .int σ.2.2.2.2.2.2.2.2.2.1, .int σ.2.2.2.2.2.2.2.2.2.2.1, .int σ.2.2.2.2.2.2.2.2.2.2.2.1, .int σ.2.2.2.2.2.2.2.2.2.2.2.2])), (w0, .inl (cJ, 511, .inr (.inl (σ.2.2.2.1)))), (so, .inl (cI, 30, .inl (σ.2.2.2.2.2.2.2.1))), (be, .inl (cI, 30, .inl (σ.2.2.2.2.2.2.2.2.1)))] H := hP
        have hD : va_D A [(h0, .inr (3, [.int σ.1, .int σ.2.1, .int σ.2.2.1, .ref w0, .int σ.2.2.2.2.1, .int σ.2.2.2.2.2.1, .long σ.2.2.2.2.2.2.1, .ref so, .ref be, .int σ.2.2.2.2.2.2.2.2.2.1, .int σ.2.2.2.2.2.2.2.2.2.2.1, .int σ.2.2.2.2.2.2.2.2.2.2.2.1, .int σ.2.2.2.2.2.2.2.2.2.2.2.2])), (w0, .inl (cJ, 511, .inr (.inl (σ.2.2.2.1)))), (so, .inl (cI, 30, .inl (σ.2.2.2.2.2.2.2.1))), (be, .inl (cI, 30, .inl (σ.2.2.2.2.2.2.2.2.1)))] := hD
        refine lv_iload hx hb dX4_ways_134 (lv_at hl 3 rfl) ?_
        refine lv_icmp_ne (tgt := 155) hx hb dX4_ways_136 (by decide) (fun c25 => ?_) (fun c25 => ?_)
        · have hw := hw.1 c25
          refine lv_iconst (v := (0 : Int32)) hx hb dX4_ways_155 (by decide) ?_
          refine lv_iadd hx hb dX4_ways_156 ?_
          refine lv_istore (lv' := [(6, .int (x6 + (0 : Int32))), (7, .int x7), (5, .int x5), (4, .int x4), (3, .int x3), (0, .ref h0), (1, .int x1), (2, .int x2)]) hx hb dX4_ways_157 hl (by decide) rfl (fun ls hl => ?_)
          refine lv_iinc (v := (x7 + (1 : Int32))) (lv' := [(7, .int (x7 + (1 : Int32))), (6, .int (x6 + (0 : Int32))), (5, .int x5), (4, .int x4), (3, .int x3), (0, .ref h0), (1, .int x1), (2, .int x2)]) hx hb dX4_ways_159 hl (k := 1) rfl rfl (by decide) rfl (fun ls hl => ?_)
          refine lv_goto (tgt := 119) hx hb dX4_ways_162 (by decide) ?_
          exact ih (x6 + (0 : Int32)) (x7 + (1 : Int32)) _ hw hk H locs ls hP hD hS (lv_sub hl [0, 1, 2, 3, 4, 5, 6, 7] rfl)
        · have hw := hw.2 c25
          refine lv_iload_n hx hb dX4_ways_139 rfl (lv_at hl 6 rfl) ?_
          refine lv_iload hx hb dX4_ways_140 (lv_at hl 0 rfl) ?_
          refine lv_iload hx hb dX4_ways_142 (lv_at hl 2 rfl) ?_
          have hPc := hP.sub (ws' := ([] : va_W)) [] rfl
          have hDc := hD.sub (ws' := ([] : va_W)) [] (by decide) rfl
          have hKc := hK.sub (tys' := []) [] rfl
          have hFc := va_free (wc := ([] : va_W)) hD hS hA [] rfl
          refine kc_i (wr := [(h0, .inr (3, [.int σ.1, .int σ.2.1, .int σ.2.2.1, .ref w0, .int σ.2.2.2.2.1, .int σ.2.2.2.2.2.1, .long σ.2.2.2.2.2.2.1, .ref so, .ref be, .int σ.2.2.2.2.2.2.2.2.2.1, .int σ.2.2.2.2.2.2.2.2.2.2.1, .int σ.2.2.2.2.2.2.2.2.2.2.2.1, .int σ.2.2.2.2.2.2.2.2.2.2.2.2])), (w0, .inl (cJ, 511, .inr (.inl (σ.2.2.2.1)))), (so, .inl (cI, 30, .inl (σ.2.2.2.2.2.2.2.1))), (be, .inl (cI, 30, .inl (σ.2.2.2.2.2.2.2.2.1)))]) (kr_S (As := [.int x1, .int x7, .int x5]) (rest := [.int x6]) (ws := [(h0, .inr (3, [.int σ.1, .int σ.2.1, .int σ.2.2.1, .ref w0, .int σ.2.2.2.2.1, .int σ.2.2.2.2.2.1, .long σ.2.2.2.2.2.2.1, .ref so, .ref be, .int σ.2.2.2.2.2.2.2.2.2.1, .int σ.2.2.2.2.2.2.2.2.2.2.1, .int σ.2.2.2.2.2.2.2.2.2.2.2.1, .int σ.2.2.2.2.2.2.2.2.2.2.2.2])), (w0, .inl (cJ, 511, .inr (.inl (σ.2.2.2.1)))), (so, .inl (cI, 30, .inl (σ.2.2.2.2.2.2.2.1))), (be, .inl (cI, 30, .inl (σ.2.2.2.2.2.2.2.2.1)))]) ⟨hx, hb, hml, hown, hts⟩ (c_X4_queued l dC dI   x1 x7 x5 _ hw H.size) (va_cwS 3 hts gX4_ways_X4_queued rfl rfl rfl (by decide +kernel) ⟨Nat.le_of_ble_eq_true rfl, Nat.le_of_ble_eq_true rfl⟩) hKc hnw hP hD hPc hDc rfl hl.1 rfl (Nat.le_of_ble_eq_true rfl) dX4_ways_144 ⟨Nat.zero_le _, Nat.zero_le _⟩) hP hD hS hFc [] [0, 1, 2, 3] rfl rfl (by decide) (by decide) (fun r26 u1 H locs hq hP hD hS => ?_)
          obtain ⟨hw, rfl⟩ := hq
          have hP : va_P (dC, dI) vwCl [(h0, .inr (3, [.int σ.1, .int σ.2.1, .int σ.2.2.1, .ref w0, .int σ.2.2.2.2.1, .int σ.2.2.2.2.2.1, .long σ.2.2.2.2.2.2.1, .ref so, .ref be, .int σ.2.2.2.2.2.2.2.2.2.1, .int σ.2.2.2.2.2.2.2.2.2.2.1, .int σ.2.2.2.2.2.2.2.2.2.2.2.1, .int σ.2.2.2.2.2.2.2.2.2.2.2.2])), (w0, .inl (cJ, 511, .inr (.inl (σ.2.2.2.1)))), (so, .inl (cI, 30, .inl (σ.2.2.2.2.2.2.2.1))), (be, .inl (cI, 30, .inl (σ.2.2.2.2.2.2.2.2.1)))] H := hP
          have hD : va_D A [(h0, .inr (3, [.int σ.1, .int σ.2.1, .int σ.2.2.1, .ref w0, .int σ.2.2.2.2.1, .int σ.2.2.2.2.2.1, .long σ.2.2.2.2.2.2.1, .ref so, .ref be, .int σ.2.2.2.2.2.2.2.2.2.1, .int σ.2.2.2.2.2.2.2.2.2.2.1, .int σ.2.2.2.2.2.2.2.2.2.2.2.1, .int σ.2.2.2.2.2.2.2.2.2.2.2.2])), (w0, .inl (cJ, 511, .inr (.inl (σ.2.2.2.1)))), (so, .inl (cI, 30, .inl (σ.2.2.2.2.2.2.2.1))), (be, .inl (cI, 30, .inl (σ.2.2.2.2.2.2.2.2.1)))] := hD
          refine lv_iload_n hx hb dX4_ways_147 rfl (lv_at hl 7 rfl) ?_
          refine lv_icmp_ne (tgt := 155) hx hb dX4_ways_148 (by decide) (fun c28 => ?_) (fun c28 => ?_)
          · have hw := hw.1 c28
            refine lv_iconst (v := (0 : Int32)) hx hb dX4_ways_155 (by decide) ?_
            refine lv_iadd hx hb dX4_ways_156 ?_
            refine lv_istore (lv' := [(6, .int (x6 + (0 : Int32))), (7, .int x7), (5, .int x5), (4, .int x4), (3, .int x3), (0, .ref h0), (1, .int x1), (2, .int x2)]) hx hb dX4_ways_157 hl (by decide) rfl (fun ls hl => ?_)
            refine lv_iinc (v := (x7 + (1 : Int32))) (lv' := [(7, .int (x7 + (1 : Int32))), (6, .int (x6 + (0 : Int32))), (5, .int x5), (4, .int x4), (3, .int x3), (0, .ref h0), (1, .int x1), (2, .int x2)]) hx hb dX4_ways_159 hl (k := 1) rfl rfl (by decide) rfl (fun ls hl => ?_)
            refine lv_goto (tgt := 119) hx hb dX4_ways_162 (by decide) ?_
            exact ih (x6 + (0 : Int32)) (x7 + (1 : Int32)) _ hw hk H locs ls hP hD hS (lv_sub hl [0, 1, 2, 3, 4, 5, 6, 7] rfl)
          · have hw := hw.2 c28
            refine lv_iconst (v := (1 : Int32)) hx hb dX4_ways_151 (by decide) ?_
            refine lv_goto (tgt := 156) hx hb dX4_ways_152 (by decide) ?_
            refine lv_iadd hx hb dX4_ways_156 ?_
            refine lv_istore (lv' := [(6, .int (x6 + (1 : Int32))), (7, .int x7), (5, .int x5), (4, .int x4), (3, .int x3), (0, .ref h0), (1, .int x1), (2, .int x2)]) hx hb dX4_ways_157 hl (by decide) rfl (fun ls hl => ?_)
            refine lv_iinc (v := (x7 + (1 : Int32))) (lv' := [(7, .int (x7 + (1 : Int32))), (6, .int (x6 + (1 : Int32))), (5, .int x5), (4, .int x4), (3, .int x3), (0, .ref h0), (1, .int x1), (2, .int x2)]) hx hb dX4_ways_159 hl (k := 1) rfl rfl (by decide) rfl (fun ls hl => ?_)
            refine lv_goto (tgt := 119) hx hb dX4_ways_162 (by decide) ?_
            exact ih (x6 + (1 : Int32)) (x7 + (1 : Int32)) _ hw hk H locs ls hP hD hS (lv_sub hl [0, 1, 2, 3, 4, 5, 6, 7] rfl)
  have hl := lv_entry ([.ref h0, .int p0, .int p1]) (n := 8) (Nat.le_of_ble_eq_true rfl)
  rw [lg_entry_eq]
  generalize (lg_sl ([.ref h0, .int p0, .int p1]) ++ List.replicate (8 - (lg_sl ([.ref h0, .int p0, .int p1])).length) Slot.unset).toArray = ls at hl ⊢
  have hl : lv_has ls 8 [(0, .ref h0), (1, .int p0), (2, .int p1)] := hl
  unfold wp_X4_ways at hw
  skip
  obtain ⟨H, hH⟩ : ∃ H, H = s.heap := ⟨_, rfl⟩
  obtain ⟨locs, hlo⟩ : ∃ q : List Loc, q = [] := ⟨_, rfl⟩
  rw [← hH] at hP
  have hS : va_S A s.heap H locs := by rw [hH, hlo]; exact hS
  suffices hgo : W p l e (headSpec wsX4_ways ({ frames := 1, cells := 0, slots := 0, locals := 26 } : Room)).room s m _ below meth c H locs 0 0 _ (F0 m 0 ls []) by rw [hH, hlo] at hgo; exact hgo
  refine lv_iload_n hx hb dX4_ways_0 rfl (lv_at hl 1 rfl) ?_
  refine lv_i2l hx hb dX4_ways_1 rfl ?_
  refine lv_ldc2 (v := (3 : Int64)) hx hb hown (hts (.constantLong RX4 69 (3 : Int64)) (by decide +kernel)) dX4_ways_2 ?_
  refine lv_ldc2 (v := (8 : Int64)) hx hb hown (hts (.constantLong RX4 41 (8 : Int64)) (by decide +kernel)) dX4_ways_5 ?_
  have hPc := hP.sub (ws' := ([] : va_W)) [] rfl
  have hDc := hD.sub (ws' := ([] : va_W)) [] (by decide) rfl
  have hKc := hK.sub (tys' := []) [] rfl
  have hFc := va_free (wc := ([] : va_W)) hD hS hA [] rfl
  refine kc_i (wr := [(h0, .inr (3, [.int σ.1, .int σ.2.1, .int σ.2.2.1, .ref w0, .int σ.2.2.2.2.1, .int σ.2.2.2.2.2.1, .long σ.2.2.2.2.2.2.1, .ref so, .ref be, .int σ.2.2.2.2.2.2.2.2.2.1, .int σ.2.2.2.2.2.2.2.2.2.2.1, .int σ.2.2.2.2.2.2.2.2.2.2.2.1, .int σ.2.2.2.2.2.2.2.2.2.2.2.2])), (w0, .inl (cJ, 511, .inr (.inl (σ.2.2.2.1)))), (so, .inl (cI, 30, .inl (σ.2.2.2.2.2.2.2.1))), (be, .inl (cI, 30, .inl (σ.2.2.2.2.2.2.2.2.1)))]) (kr_S (As := [.long (p0.toInt64), .long (3 : Int64), .long (8 : Int64)]) (rest := []) (ws := [(h0, .inr (3, [.int σ.1, .int σ.2.1, .int σ.2.2.1, .ref w0, .int σ.2.2.2.2.1, .int σ.2.2.2.2.2.1, .long σ.2.2.2.2.2.2.1, .ref so, .ref be, .int σ.2.2.2.2.2.2.2.2.2.1, .int σ.2.2.2.2.2.2.2.2.2.2.1, .int σ.2.2.2.2.2.2.2.2.2.2.2.1, .int σ.2.2.2.2.2.2.2.2.2.2.2.2])), (w0, .inl (cJ, 511, .inr (.inl (σ.2.2.2.1)))), (so, .inl (cI, 30, .inl (σ.2.2.2.2.2.2.2.1))), (be, .inl (cI, 30, .inl (σ.2.2.2.2.2.2.2.2.1)))]) ⟨hx, hb, hml, hown, hts⟩ (c_X4_in l dC dI   (p0.toInt64) (3 : Int64) (8 : Int64) _ hw H.size) (va_cwS 3 hts gX4_ways_X4_in rfl rfl rfl (by decide +kernel) ⟨Nat.le_of_ble_eq_true rfl, Nat.le_of_ble_eq_true rfl⟩) hKc hnw hP hD hPc hDc rfl hl.1 rfl (Nat.le_of_ble_eq_true rfl) dX4_ways_8 ⟨Nat.zero_le _, Nat.zero_le _⟩) hP hD hS hFc [] [0, 1, 2, 3] rfl rfl (by decide) (by decide) (fun r1 u1 H locs hq hP hD hS => ?_)
  obtain ⟨hw, rfl⟩ := hq
  have hP : va_P (dC, dI) vwCl [(h0, .inr (3, [.int σ.1, .int σ.2.1, .int σ.2.2.1, .ref w0, .int σ.2.2.2.2.1, .int σ.2.2.2.2.2.1, .long σ.2.2.2.2.2.2.1, .ref so, .ref be, .int σ.2.2.2.2.2.2.2.2.2.1, .int σ.2.2.2.2.2.2.2.2.2.2.1, .int σ.2.2.2.2.2.2.2.2.2.2.2.1, .int σ.2.2.2.2.2.2.2.2.2.2.2.2])), (w0, .inl (cJ, 511, .inr (.inl (σ.2.2.2.1)))), (so, .inl (cI, 30, .inl (σ.2.2.2.2.2.2.2.1))), (be, .inl (cI, 30, .inl (σ.2.2.2.2.2.2.2.2.1)))] H := hP
  have hD : va_D A [(h0, .inr (3, [.int σ.1, .int σ.2.1, .int σ.2.2.1, .ref w0, .int σ.2.2.2.2.1, .int σ.2.2.2.2.2.1, .long σ.2.2.2.2.2.2.1, .ref so, .ref be, .int σ.2.2.2.2.2.2.2.2.2.1, .int σ.2.2.2.2.2.2.2.2.2.2.1, .int σ.2.2.2.2.2.2.2.2.2.2.2.1, .int σ.2.2.2.2.2.2.2.2.2.2.2.2])), (w0, .inl (cJ, 511, .inr (.inl (σ.2.2.2.1)))), (so, .inl (cI, 30, .inl (σ.2.2.2.2.2.2.2.1))), (be, .inl (cI, 30, .inl (σ.2.2.2.2.2.2.2.2.1)))] := hD
  refine lv_if_eq (tgt := 18) hx hb dX4_ways_11 (by decide) (fun c3 => ?_) (fun c3 => ?_)
  · have hw := hw.1 c3
    refine lv_iconst (v := (-1 : Int32)) hx hb dX4_ways_18 (by decide) ?_
    exact W.iret (v := (-1 : Int32)) hx hb hr (fun t ht hW => ⟨⟨(-1 : Int32), ((cl4 h0 w0 so be cJ cI σ)), rfl, ⟨hw, rfl⟩, by rw [ht]; exact hP, va_K.moved hW.alike hK, hD⟩, hS.F ht⟩) hS.2.2 dX4_ways_19
  · have hw := hw.2 c3
    refine lv_iload_n hx hb dX4_ways_14 rfl (lv_at hl 2 rfl) ?_
    refine lv_if_ge (tgt := 20) hx hb dX4_ways_15 (by decide) (fun c4 => ?_) (fun c4 => ?_)
    · have hw := hw.1 c4
      refine lv_iload_n hx hb dX4_ways_20 rfl (lv_at hl 2 rfl) ?_
      refine lv_istore_n (lv' := [(3, .int p1), (0, .ref h0), (1, .int p0), (2, .int p1)]) hx hb dX4_ways_21 rfl hl (by decide) rfl (fun ls hl => ?_)
      refine lv_iconst (v := (0 : Int32)) hx hb dX4_ways_22 (by decide) ?_
      refine lv_istore (lv' := [(4, .int (0 : Int32)), (3, .int p1), (0, .ref h0), (1, .int p0), (2, .int p1)]) hx hb dX4_ways_23 hl (by decide) rfl (fun ls hl => ?_)
      refine lv_iconst (v := (0 : Int32)) hx hb dX4_ways_25 (by decide) ?_
      refine lv_istore (lv' := [(5, .int (0 : Int32)), (4, .int (0 : Int32)), (3, .int p1), (0, .ref h0), (1, .int p0), (2, .int p1)]) hx hb dX4_ways_26 hl (by decide) rfl (fun ls hl => ?_)
      refine lv_iconst (v := (0 : Int32)) hx hb dX4_ways_28 (by decide) ?_
      refine lv_istore (lv' := [(6, .int (0 : Int32)), (5, .int (0 : Int32)), (4, .int (0 : Int32)), (3, .int p1), (0, .ref h0), (1, .int p0), (2, .int p1)]) hx hb dX4_ways_29 hl (by decide) rfl (fun ls hl => ?_)
      refine L31 p0 p1 (20000) p1 (0 : Int32) (0 : Int32) (0 : Int32) _ hw (fun x3_9 x4_10 x5_11 x6_12 hw H locs ls hP hD hS hl => ?_) H locs ls hP hD hS (lv_sub hl [0, 1, 2, 3, 4, 5, 6] rfl)
      refine lv_iload_n hx hb dX4_ways_83 rfl (lv_at hl 3 rfl) ?_
      refine lv_if_gt (tgt := 111) hx hb dX4_ways_84 (by decide) (fun c14 => ?_) (fun c14 => ?_)
      · have hw := hw.1 c14
        refine lv_iconst (v := (-1 : Int32)) hx hb dX4_ways_111 (by decide) ?_
        exact W.iret (v := (-1 : Int32)) hx hb hr (fun t ht hW => ⟨⟨(-1 : Int32), ((cl4 h0 w0 so be cJ cI σ)), rfl, ⟨hw, rfl⟩, by rw [ht]; exact hP, va_K.moved hW.alike hK, hD⟩, hS.F ht⟩) hS.2.2 dX4_ways_112
      · have hw := hw.2 c14
        refine lv_iload hx hb dX4_ways_87 (lv_at hl 2 rfl) ?_
        refine lv_if_eq (tgt := 111) hx hb dX4_ways_89 (by decide) (fun c15 => ?_) (fun c15 => ?_)
        · have hw := hw.1 c15
          refine lv_iconst (v := (-1 : Int32)) hx hb dX4_ways_111 (by decide) ?_
          exact W.iret (v := (-1 : Int32)) hx hb hr (fun t ht hW => ⟨⟨(-1 : Int32), ((cl4 h0 w0 so be cJ cI σ)), rfl, ⟨hw, rfl⟩, by rw [ht]; exact hP, va_K.moved hW.alike hK, hD⟩, hS.F ht⟩) hS.2.2 dX4_ways_112
        · have hw := hw.2 c15
          refine lv_iload hx hb dX4_ways_92 (lv_at hl 1 rfl) ?_
          have hPc := hP.sub (ws' := ([] : va_W)) [] rfl
          have hDc := hD.sub (ws' := ([] : va_W)) [] (by decide) rfl
          have hKc := hK.sub (tys' := []) [] rfl
          have hFc := va_free (wc := ([] : va_W)) hD hS hA [] rfl
          refine kc_i (wr := [(h0, .inr (3, [.int σ.1, .int σ.2.1, .int σ.2.2.1, .ref w0, .int σ.2.2.2.2.1, .int σ.2.2.2.2.2.1, .long σ.2.2.2.2.2.2.1, .ref so, .ref be, .int σ.2.2.2.2.2.2.2.2.2.1, .int σ.2.2.2.2.2.2.2.2.2.2.1, .int σ.2.2.2.2.2.2.2.2.2.2.2.1, .int σ.2.2.2.2.2.2.2.2.2.2.2.2])), (w0, .inl (cJ, 511, .inr (.inl (σ.2.2.2.1)))), (so, .inl (cI, 30, .inl (σ.2.2.2.2.2.2.2.1))), (be, .inl (cI, 30, .inl (σ.2.2.2.2.2.2.2.2.1)))]) (kr_S (As := [.int x5_11]) (rest := []) (ws := [(h0, .inr (3, [.int σ.1, .int σ.2.1, .int σ.2.2.1, .ref w0, .int σ.2.2.2.2.1, .int σ.2.2.2.2.2.1, .long σ.2.2.2.2.2.2.1, .ref so, .ref be, .int σ.2.2.2.2.2.2.2.2.2.1, .int σ.2.2.2.2.2.2.2.2.2.2.1, .int σ.2.2.2.2.2.2.2.2.2.2.2.1, .int σ.2.2.2.2.2.2.2.2.2.2.2.2])), (w0, .inl (cJ, 511, .inr (.inl (σ.2.2.2.1)))), (so, .inl (cI, 30, .inl (σ.2.2.2.2.2.2.2.1))), (be, .inl (cI, 30, .inl (σ.2.2.2.2.2.2.2.2.1)))]) ⟨hx, hb, hml, hown, hts⟩ (c_X4_bits l dC dI   x5_11 _ hw H.size) (va_cwS 1 hts gX4_ways_X4_bits rfl rfl rfl (by decide +kernel) ⟨Nat.le_of_ble_eq_true rfl, Nat.le_of_ble_eq_true rfl⟩) hKc hnw hP hD hPc hDc rfl hl.1 rfl (Nat.le_of_ble_eq_true rfl) dX4_ways_94 ⟨Nat.zero_le _, Nat.zero_le _⟩) hP hD hS hFc [] [0, 1, 2, 3] rfl rfl (by decide) (by decide) (fun r16 u1 H locs hq hP hD hS => ?_)
          obtain ⟨hw, rfl⟩ := hq
          have hP : va_P (dC, dI) vwCl [(h0, .inr (3, [.int σ.1, .int σ.2.1, .int σ.2.2.1, .ref w0, .int σ.2.2.2.2.1, .int σ.2.2.2.2.2.1, .long σ.2.2.2.2.2.2.1, .ref so, .ref be, .int σ.2.2.2.2.2.2.2.2.2.1, .int σ.2.2.2.2.2.2.2.2.2.2.1, .int σ.2.2.2.2.2.2.2.2.2.2.2.1, .int σ.2.2.2.2.2.2.2.2.2.2.2.2])), (w0, .inl (cJ, 511, .inr (.inl (σ.2.2.2.1)))), (so, .inl (cI, 30, .inl (σ.2.2.2.2.2.2.2.1))), (be, .inl (cI, 30, .inl (σ.2.2.2.2.2.2.2.2.1)))] H := hP
          have hD : va_D A [(h0, .inr (3, [.int σ.1, .int σ.2.1, .int σ.2.2.1, .ref w0, .int σ.2.2.2.2.1, .int σ.2.2.2.2.2.1, .long σ.2.2.2.2.2.2.1, .ref so, .ref be, .int σ.2.2.2.2.2.2.2.2.2.1, .int σ.2.2.2.2.2.2.2.2.2.2.1, .int σ.2.2.2.2.2.2.2.2.2.2.2.1, .int σ.2.2.2.2.2.2.2.2.2.2.2.2])), (w0, .inl (cJ, 511, .inr (.inl (σ.2.2.2.1)))), (so, .inl (cI, 30, .inl (σ.2.2.2.2.2.2.2.1))), (be, .inl (cI, 30, .inl (σ.2.2.2.2.2.2.2.2.1)))] := hD
          refine lv_iload hx hb dX4_ways_97 (lv_at hl 2 rfl) ?_
          refine lv_icmp_eq (tgt := 111) hx hb dX4_ways_99 (by decide) (fun c18 => ?_) (fun c18 => ?_)
          · have hw := hw.1 c18
            refine lv_iconst (v := (-1 : Int32)) hx hb dX4_ways_111 (by decide) ?_
            exact W.iret (v := (-1 : Int32)) hx hb hr (fun t ht hW => ⟨⟨(-1 : Int32), ((cl4 h0 w0 so be cJ cI σ)), rfl, ⟨hw, rfl⟩, by rw [ht]; exact hP, va_K.moved hW.alike hK, hD⟩, hS.F ht⟩) hS.2.2 dX4_ways_112
          · have hw := hw.2 c18
            refine lv_iload hx hb dX4_ways_102 (lv_at hl 1 rfl) ?_
            have hPc := hP.sub (ws' := ([] : va_W)) [] rfl
            have hDc := hD.sub (ws' := ([] : va_W)) [] (by decide) rfl
            have hKc := hK.sub (tys' := []) [] rfl
            have hFc := va_free (wc := ([] : va_W)) hD hS hA [] rfl
            refine kc_i (wr := [(h0, .inr (3, [.int σ.1, .int σ.2.1, .int σ.2.2.1, .ref w0, .int σ.2.2.2.2.1, .int σ.2.2.2.2.2.1, .long σ.2.2.2.2.2.2.1, .ref so, .ref be, .int σ.2.2.2.2.2.2.2.2.2.1, .int σ.2.2.2.2.2.2.2.2.2.2.1, .int σ.2.2.2.2.2.2.2.2.2.2.2.1, .int σ.2.2.2.2.2.2.2.2.2.2.2.2])), (w0, .inl (cJ, 511, .inr (.inl (σ.2.2.2.1)))), (so, .inl (cI, 30, .inl (σ.2.2.2.2.2.2.2.1))), (be, .inl (cI, 30, .inl (σ.2.2.2.2.2.2.2.2.1)))]) (kr_S (As := [.int x5_11]) (rest := []) (ws := [(h0, .inr (3, [.int σ.1, .int σ.2.1, .int σ.2.2.1, .ref w0, .int σ.2.2.2.2.1, .int σ.2.2.2.2.2.1, .long σ.2.2.2.2.2.2.1, .ref so, .ref be, .int σ.2.2.2.2.2.2.2.2.2.1, .int σ.2.2.2.2.2.2.2.2.2.2.1, .int σ.2.2.2.2.2.2.2.2.2.2.2.1, .int σ.2.2.2.2.2.2.2.2.2.2.2.2])), (w0, .inl (cJ, 511, .inr (.inl (σ.2.2.2.1)))), (so, .inl (cI, 30, .inl (σ.2.2.2.2.2.2.2.1))), (be, .inl (cI, 30, .inl (σ.2.2.2.2.2.2.2.2.1)))]) ⟨hx, hb, hml, hown, hts⟩ (c_X4_bits l dC dI   x5_11 _ hw H.size) (va_cwS 1 hts gX4_ways_X4_bits rfl rfl rfl (by decide +kernel) ⟨Nat.le_of_ble_eq_true rfl, Nat.le_of_ble_eq_true rfl⟩) hKc hnw hP hD hPc hDc rfl hl.1 rfl (Nat.le_of_ble_eq_true rfl) dX4_ways_104 ⟨Nat.zero_le _, Nat.zero_le _⟩) hP hD hS hFc [] [0, 1, 2, 3] rfl rfl (by decide) (by decide) (fun r19 u1 H locs hq hP hD hS => ?_)
            obtain ⟨hw, rfl⟩ := hq
            have hP : va_P (dC, dI) vwCl [(h0, .inr (3, [.int σ.1, .int σ.2.1, .int σ.2.2.1, .ref w0, .int σ.2.2.2.2.1, .int σ.2.2.2.2.2.1, .long σ.2.2.2.2.2.2.1, .ref so, .ref be, .int σ.2.2.2.2.2.2.2.2.2.1, .int σ.2.2.2.2.2.2.2.2.2.2.1, .int σ.2.2.2.2.2.2.2.2.2.2.2.1, .int σ.2.2.2.2.2.2.2.2.2.2.2.2])), (w0, .inl (cJ, 511, .inr (.inl (σ.2.2.2.1)))), (so, .inl (cI, 30, .inl (σ.2.2.2.2.2.2.2.1))), (be, .inl (cI, 30, .inl (σ.2.2.2.2.2.2.2.2.1)))] H := hP
            have hD : va_D A [(h0, .inr (3, [.int σ.1, .int σ.2.1, .int σ.2.2.1, .ref w0, .int σ.2.2.2.2.1, .int σ.2.2.2.2.2.1, .long σ.2.2.2.2.2.2.1, .ref so, .ref be, .int σ.2.2.2.2.2.2.2.2.2.1, .int σ.2.2.2.2.2.2.2.2.2.2.1, .int σ.2.2.2.2.2.2.2.2.2.2.2.1, .int σ.2.2.2.2.2.2.2.2.2.2.2.2])), (w0, .inl (cJ, 511, .inr (.inl (σ.2.2.2.1)))), (so, .inl (cI, 30, .inl (σ.2.2.2.2.2.2.2.1))), (be, .inl (cI, 30, .inl (σ.2.2.2.2.2.2.2.2.1)))] := hD
            refine lv_iload_n hx hb dX4_ways_107 rfl (lv_at hl 5 rfl) ?_
            refine lv_icmp_ne (tgt := 113) hx hb dX4_ways_108 (by decide) (fun c21 => ?_) (fun c21 => ?_)
            · have hw := hw.1 c21
              refine lv_iconst (v := (0 : Int32)) hx hb dX4_ways_113 (by decide) ?_
              refine lv_istore (lv' := [(6, .int (0 : Int32)), (5, .int x5_11), (4, .int x4_10), (3, .int x3_9), (0, .ref h0), (1, .int p0), (2, .int p1)]) hx hb dX4_ways_114 hl (by decide) rfl (fun ls hl => ?_)
              refine lv_iconst (v := (1 : Int32)) hx hb dX4_ways_116 (by decide) ?_
              refine lv_istore (lv' := [(7, .int (1 : Int32)), (6, .int (0 : Int32)), (5, .int x5_11), (4, .int x4_10), (3, .int x3_9), (0, .ref h0), (1, .int p0), (2, .int p1)]) hx hb dX4_ways_117 hl (by decide) rfl (fun ls hl => ?_)
              refine L119 p0 p1 x3_9 x4_10 x5_11 (20000) (0 : Int32) (1 : Int32) _ hw (fun x6_29 x7_30 hw H locs ls hP hD hS hl => ?_) H locs ls hP hD hS (lv_sub hl [0, 1, 2, 3, 4, 5, 6, 7] rfl)
              refine lv_iload hx hb dX4_ways_165 (lv_at hl 1 rfl) ?_
              exact W.iret (v := x6_29) hx hb hr (fun t ht hW => ⟨⟨x6_29, ((cl4 h0 w0 so be cJ cI σ)), rfl, ⟨hw, rfl⟩, by rw [ht]; exact hP, va_K.moved hW.alike hK, hD⟩, hS.F ht⟩) hS.2.2 dX4_ways_167
            · have hw := hw.2 c21
              refine lv_iconst (v := (-1 : Int32)) hx hb dX4_ways_111 (by decide) ?_
              exact W.iret (v := (-1 : Int32)) hx hb hr (fun t ht hW => ⟨⟨(-1 : Int32), ((cl4 h0 w0 so be cJ cI σ)), rfl, ⟨hw, rfl⟩, by rw [ht]; exact hP, va_K.moved hW.alike hK, hD⟩, hS.F ht⟩) hS.2.2 dX4_ways_112
    · have hw := hw.2 c4
      refine lv_iconst (v := (-1 : Int32)) hx hb dX4_ways_18 (by decide) ?_
      exact W.iret (v := (-1 : Int32)) hx hb hr (fun t ht hW => ⟨⟨(-1 : Int32), ((cl4 h0 w0 so be cJ cI σ)), rfl, ⟨hw, rfl⟩, by rw [ht]; exact hP, va_K.moved hW.alike hK, hD⟩, hS.F ht⟩) hS.2.2 dX4_ways_19
set_option maxHeartbeats 4000000 in
set_option maxRecDepth 100000 in
theorem c_X4_step (l : Launch) (dC : Nat → ClassId) (dI : Nat → Nat → Nat) (h0 w0 so be : Nat) (cJ : ClassId) (cI : ClassId) (σ : SM) (p0 : Int32) (p1 : Int32) (post : Int32 → SM → Prop) (hw : wp_X4_step p0 p1 σ post) : KI l yX4_step wsX4_step ({ frames := 1, cells := 0, slots := 0, locals := 25 } : Room) (dC, dI) [(cJ, .long), (cI, .int)] (cl4 h0 w0 so be cJ cI σ) [.ref h0, .int p0, .int p1] (fun r u => ∃ σ', post r σ' ∧ u = (cl4 h0 w0 so be cJ cI (σ'))) := by
  intro sz
  refine Met.ofW (cc := cX4_step) (maxL := 4) (ret := (some .int)) (by decide) rfl ?_
  intro p e s m args below meth c s₁ B hml hv
  obtain ⟨rfl, hsz, hP, hK, hD0, hnw⟩ := hv
  have hx := B.exec
  have hb := B.bytes
  have hr := B.returns
  have hts := atoms_spec (ws := wsX4_step) B.pre
  have hown : s.vm.findClass RX4 = some m.cls := findClass_of_methodNamed B.named
  have hlocks := B.notSynchronized
  subst hsz
  have hD := hD0.self (sz := s.heap.size)
  generalize hAe : va_A (cl4 h0 w0 so be cJ cI σ) s.heap.size = A at hD ⊢
  have hA : ∀ q : Nat, s.heap.size ≤ q → A q := fun q h => by rw [← hAe]; exact Or.inr h
  have hS : va_S A s.heap s.heap [] := va_S.rf
  have hP : va_P (dC, dI) vwCl [(h0, .inr (3, [.int σ.1, .int σ.2.1, .int σ.2.2.1, .ref w0, .int σ.2.2.2.2.1, .int σ.2.2.2.2.2.1, .long σ.2.2.2.2.2.2.1, .ref so, .ref be, .int σ.2.2.2.2.2.2.2.2.2.1, .int σ.2.2.2.2.2.2.2.2.2.2.1, .int σ.2.2.2.2.2.2.2.2.2.2.2.1, .int σ.2.2.2.2.2.2.2.2.2.2.2.2])), (w0, .inl (cJ, 511, .inr (.inl (σ.2.2.2.1)))), (so, .inl (cI, 30, .inl (σ.2.2.2.2.2.2.2.1))), (be, .inl (cI, 30, .inl (σ.2.2.2.2.2.2.2.2.1)))] s.heap := hP
  have hD : va_D A [(h0, .inr (3, [.int σ.1, .int σ.2.1, .int σ.2.2.1, .ref w0, .int σ.2.2.2.2.1, .int σ.2.2.2.2.2.1, .long σ.2.2.2.2.2.2.1, .ref so, .ref be, .int σ.2.2.2.2.2.2.2.2.2.1, .int σ.2.2.2.2.2.2.2.2.2.2.1, .int σ.2.2.2.2.2.2.2.2.2.2.2.1, .int σ.2.2.2.2.2.2.2.2.2.2.2.2])), (w0, .inl (cJ, 511, .inr (.inl (σ.2.2.2.1)))), (so, .inl (cI, 30, .inl (σ.2.2.2.2.2.2.2.1))), (be, .inl (cI, 30, .inl (σ.2.2.2.2.2.2.2.2.1)))] := hD
  have fl_23 := hts (.fieldLink RX4 23 "OnePlaceEachModel" "seed" "J") (by decide +kernel)
  have fl_27 := hts (.fieldLink RX4 27 "OnePlaceEachModel" "sorts" "[I") (by decide +kernel)
  have fl_83 := hts (.fieldLink RX4 83 "OnePlaceEachModel" "places" "I") (by decide +kernel)
  have fl_86 := hts (.fieldLink RX4 86 "OnePlaceEachModel" "isOpen" "Z") (by decide +kernel)
  have fl_90 := hts (.fieldLink RX4 90 "OnePlaceEachModel" "ins" "I") (by decide +kernel)
  have fl_93 := hts (.fieldLink RX4 93 "OnePlaceEachModel" "outs" "I") (by decide +kernel)
  have fl_96 := hts (.fieldLink RX4 96 "OnePlaceEachModel" "moved" "I") (by decide +kernel)
  have hin0 : ∀ w ∈ wsX40, w ∈ wsX4_step := by decide +kernel
  have L48 : ∀ (x1 : Int32) (x2 : Int32)  (n : Nat) (x3 : Int32) (σ : SM) (k : Int32 → SM → Prop), wl_X4_step_48 x1 x2  n x3 σ k →
      (∀ (x3 : Int32) (σ : SM), k x3 σ → ∀ (H : Heap) (locs : List Loc) (ls : Array Slot), va_P (dC, dI) vwCl [(h0, .inr (3, [.int σ.1, .int σ.2.1, .int σ.2.2.1, .ref w0, .int σ.2.2.2.2.1, .int σ.2.2.2.2.2.1, .long σ.2.2.2.2.2.2.1, .ref so, .ref be, .int σ.2.2.2.2.2.2.2.2.2.1, .int σ.2.2.2.2.2.2.2.2.2.2.1, .int σ.2.2.2.2.2.2.2.2.2.2.2.1, .int σ.2.2.2.2.2.2.2.2.2.2.2.2])), (w0, .inl (cJ, 511, .inr (.inl (σ.2.2.2.1)))), (so, .inl (cI, 30, .inl (σ.2.2.2.2.2.2.2.1))), (be, .inl (cI, 30, .inl (σ.2.2.2.2.2.2.2.2.1)))] H → va_D A [(h0, .inr (3, [.int σ.1, .int σ.2.1, .int σ.2.2.1, .ref w0, .int σ.2.2.2.2.1, .int σ.2.2.2.2.2.1, .long σ.2.2.2.2.2.2.1, .ref so, .ref be, .int σ.2.2.2.2.2.2.2.2.2.1, .int σ.2.2.2.2.2.2.2.2.2.2.1, .int σ.2.2.2.2.2.2.2.2.2.2.2.1, .int σ.2.2.2.2.2.2.2.2.2.2.2.2])), (w0, .inl (cJ, 511, .inr (.inl (σ.2.2.2.1)))), (so, .inl (cI, 30, .inl (σ.2.2.2.2.2.2.2.1))), (be, .inl (cI, 30, .inl (σ.2.2.2.2.2.2.2.2.1)))] → va_S A s.heap H locs → lv_has ls 4 [(3, .int x3), (0, .ref h0), (1, .int x1), (2, .int x2)] → W p l e (headSpec wsX4_step ({ frames := 1, cells := 0, slots := 0, locals := 25 } : Room)).room s m ([.ref h0, .int p0, .int p1] : List Value).toArray below meth c H locs 0 0 (MQ below (va_Qi (fun r u => ∃ σ', post r σ' ∧ u = (cl4 h0 w0 so be cJ cI (σ'))) (kB (dC, dI) [(cJ, .long), (cI, .int)] A) A) ([.ref h0, .int p0, .int p1] : List Value).toArray s 0 0 A) (F0 m 67 ls [])) →
      ∀ (H : Heap) (locs : List Loc) (ls : Array Slot), va_P (dC, dI) vwCl [(h0, .inr (3, [.int σ.1, .int σ.2.1, .int σ.2.2.1, .ref w0, .int σ.2.2.2.2.1, .int σ.2.2.2.2.2.1, .long σ.2.2.2.2.2.2.1, .ref so, .ref be, .int σ.2.2.2.2.2.2.2.2.2.1, .int σ.2.2.2.2.2.2.2.2.2.2.1, .int σ.2.2.2.2.2.2.2.2.2.2.2.1, .int σ.2.2.2.2.2.2.2.2.2.2.2.2])), (w0, .inl (cJ, 511, .inr (.inl (σ.2.2.2.1)))), (so, .inl (cI, 30, .inl (σ.2.2.2.2.2.2.2.1))), (be, .inl (cI, 30, .inl (σ.2.2.2.2.2.2.2.2.1)))] H → va_D A [(h0, .inr (3, [.int σ.1, .int σ.2.1, .int σ.2.2.1, .ref w0, .int σ.2.2.2.2.1, .int σ.2.2.2.2.2.1, .long σ.2.2.2.2.2.2.1, .ref so, .ref be, .int σ.2.2.2.2.2.2.2.2.2.1, .int σ.2.2.2.2.2.2.2.2.2.2.1, .int σ.2.2.2.2.2.2.2.2.2.2.2.1, .int σ.2.2.2.2.2.2.2.2.2.2.2.2])), (w0, .inl (cJ, 511, .inr (.inl (σ.2.2.2.1)))), (so, .inl (cI, 30, .inl (σ.2.2.2.2.2.2.2.1))), (be, .inl (cI, 30, .inl (σ.2.2.2.2.2.2.2.2.1)))] → va_S A s.heap H locs → lv_has ls 4 [(3, .int x3), (0, .ref h0), (1, .int x1), (2, .int x2)] → W p l e (headSpec wsX4_step ({ frames := 1, cells := 0, slots := 0, locals := 25 } : Room)).room s m ([.ref h0, .int p0, .int p1] : List Value).toArray below meth c H locs 0 0 (MQ below (va_Qi (fun r u => ∃ σ', post r σ' ∧ u = (cl4 h0 w0 so be cJ cI (σ'))) (kB (dC, dI) [(cJ, .long), (cI, .int)] A) A) ([.ref h0, .int p0, .int p1] : List Value).toArray s 0 0 A) (F0 m 48 ls []) := by
    intro x1 x2 n
    induction n with
    | zero => intro x3 σ k hw; exact absurd hw id
    | succ n ih =>
      intro x3 σ k hw hk H locs ls hP hD hS hl
      unfold wl_X4_step_48 at hw
      refine lv_iload_n hx hb dX4_step_48 rfl (lv_at hl 0 rfl) ?_
      refine lv_bipush (v := (30 : Int32)) hx hb dX4_step_49 (by decide) ?_
      refine lv_icmp_ge (tgt := 67) hx hb dX4_step_51 (by decide) (fun c5 => ?_) (fun c5 => ?_)
      · have hw := hw.1 c5
        exact hk x3 σ hw H locs ls hP hD hS (lv_sub hl [0, 1, 2, 3] rfl)
      · have hw := hw.2 c5
        refine lv_aload_n hx hb dX4_step_54 rfl (lv_at hl 1 rfl) ?_
        refine va_get (D := (dC, dI)) (ci := 3) (v := .ref so) (C := RX4) (T := TX4) (N := 13) hx hb hts hin0 hown hK hP 0 rfl rfl 7 (by decide) fl_27 (fun _ h9 => h9) rfl dX4_step_55 ?_
        refine lv_iload_n hx hb dX4_step_58 rfl (lv_at hl 0 rfl) ?_
        refine lv_iconst (v := (0 : Int32)) hx hb dX4_step_59 (by decide) ?_
        have z6 := hw.1
        have hw := hw.2
        refine va_iast hx hb hK hP hD hS 2 1 rfl rfl z6 dX4_step_60 (fun H locs hP hD hS => ?_)
        have hP : va_P (dC, dI) vwCl [(h0, .inr (3, [.int σ.1, .int σ.2.1, .int σ.2.2.1, .ref w0, .int σ.2.2.2.2.1, .int σ.2.2.2.2.2.1, .long σ.2.2.2.2.2.2.1, .ref so, .ref be, .int σ.2.2.2.2.2.2.2.2.2.1, .int σ.2.2.2.2.2.2.2.2.2.2.1, .int σ.2.2.2.2.2.2.2.2.2.2.2.1, .int σ.2.2.2.2.2.2.2.2.2.2.2.2])), (w0, .inl (cJ, 511, .inr (.inl (σ.2.2.2.1)))), (so, .inl (cI, 30, .inl ((upd σ.2.2.2.2.2.2.2.1 x3.toNatClampNeg (0 : Int32))))), (be, .inl (cI, 30, .inl (σ.2.2.2.2.2.2.2.2.1)))] H := hP
        have hD : va_D A [(h0, .inr (3, [.int σ.1, .int σ.2.1, .int σ.2.2.1, .ref w0, .int σ.2.2.2.2.1, .int σ.2.2.2.2.2.1, .long σ.2.2.2.2.2.2.1, .ref so, .ref be, .int σ.2.2.2.2.2.2.2.2.2.1, .int σ.2.2.2.2.2.2.2.2.2.2.1, .int σ.2.2.2.2.2.2.2.2.2.2.2.1, .int σ.2.2.2.2.2.2.2.2.2.2.2.2])), (w0, .inl (cJ, 511, .inr (.inl (σ.2.2.2.1)))), (so, .inl (cI, 30, .inl ((upd σ.2.2.2.2.2.2.2.1 x3.toNatClampNeg (0 : Int32))))), (be, .inl (cI, 30, .inl (σ.2.2.2.2.2.2.2.2.1)))] := hD
        refine lv_iinc (v := (x3 + (1 : Int32))) (lv' := [(3, .int (x3 + (1 : Int32))), (0, .ref h0), (1, .int x1), (2, .int x2)]) hx hb dX4_step_61 hl (k := 0) rfl rfl (by decide) rfl (fun ls hl => ?_)
        refine lv_goto (tgt := 48) hx hb dX4_step_64 (by decide) ?_
        exact ih (x3 + (1 : Int32)) (σ.1, σ.2.1, σ.2.2.1, σ.2.2.2.1, σ.2.2.2.2.1, σ.2.2.2.2.2.1, σ.2.2.2.2.2.2.1, (upd σ.2.2.2.2.2.2.2.1 x3.toNatClampNeg (0 : Int32)), σ.2.2.2.2.2.2.2.2.1, σ.2.2.2.2.2.2.2.2.2.1, σ.2.2.2.2.2.2.2.2.2.2.1, σ.2.2.2.2.2.2.2.2.2.2.2.1, σ.2.2.2.2.2.2.2.2.2.2.2.2) _ hw hk H locs ls hP hD hS (lv_sub hl [0, 1, 2, 3] rfl)
  have hl := lv_entry ([.ref h0, .int p0, .int p1]) (n := 4) (Nat.le_of_ble_eq_true rfl)
  rw [lg_entry_eq]
  generalize (lg_sl ([.ref h0, .int p0, .int p1]) ++ List.replicate (4 - (lg_sl ([.ref h0, .int p0, .int p1])).length) Slot.unset).toArray = ls at hl ⊢
  have hl : lv_has ls 4 [(0, .ref h0), (1, .int p0), (2, .int p1)] := hl
  unfold wp_X4_step at hw
  skip
  obtain ⟨H, hH⟩ : ∃ H, H = s.heap := ⟨_, rfl⟩
  obtain ⟨locs, hlo⟩ : ∃ q : List Loc, q = [] := ⟨_, rfl⟩
  rw [← hH] at hP
  have hS : va_S A s.heap H locs := by rw [hH, hlo]; exact hS
  suffices hgo : W p l e (headSpec wsX4_step ({ frames := 1, cells := 0, slots := 0, locals := 25 } : Room)).room s m _ below meth c H locs 0 0 _ (F0 m 0 ls []) by rw [hH, hlo] at hgo; exact hgo
  refine lv_iload_n hx hb dX4_step_0 rfl (lv_at hl 1 rfl) ?_
  refine lv_i2l hx hb dX4_step_1 rfl ?_
  refine lv_ldc2 (v := (2 : Int64)) hx hb hown (hts (.constantLong RX4 79 (2 : Int64)) (by decide +kernel)) dX4_step_2 ?_
  refine lv_ldc2 (v := (30 : Int64)) hx hb hown (hts (.constantLong RX4 81 (30 : Int64)) (by decide +kernel)) dX4_step_5 ?_
  have hPc := hP.sub (ws' := ([] : va_W)) [] rfl
  have hDc := hD.sub (ws' := ([] : va_W)) [] (by decide) rfl
  have hKc := hK.sub (tys' := []) [] rfl
  have hFc := va_free (wc := ([] : va_W)) hD hS hA [] rfl
  refine kc_i (wr := [(h0, .inr (3, [.int σ.1, .int σ.2.1, .int σ.2.2.1, .ref w0, .int σ.2.2.2.2.1, .int σ.2.2.2.2.2.1, .long σ.2.2.2.2.2.2.1, .ref so, .ref be, .int σ.2.2.2.2.2.2.2.2.2.1, .int σ.2.2.2.2.2.2.2.2.2.2.1, .int σ.2.2.2.2.2.2.2.2.2.2.2.1, .int σ.2.2.2.2.2.2.2.2.2.2.2.2])), (w0, .inl (cJ, 511, .inr (.inl (σ.2.2.2.1)))), (so, .inl (cI, 30, .inl (σ.2.2.2.2.2.2.2.1))), (be, .inl (cI, 30, .inl (σ.2.2.2.2.2.2.2.2.1)))]) (kr_S (As := [.long (p0.toInt64), .long (2 : Int64), .long (30 : Int64)]) (rest := []) (ws := [(h0, .inr (3, [.int σ.1, .int σ.2.1, .int σ.2.2.1, .ref w0, .int σ.2.2.2.2.1, .int σ.2.2.2.2.2.1, .long σ.2.2.2.2.2.2.1, .ref so, .ref be, .int σ.2.2.2.2.2.2.2.2.2.1, .int σ.2.2.2.2.2.2.2.2.2.2.1, .int σ.2.2.2.2.2.2.2.2.2.2.2.1, .int σ.2.2.2.2.2.2.2.2.2.2.2.2])), (w0, .inl (cJ, 511, .inr (.inl (σ.2.2.2.1)))), (so, .inl (cI, 30, .inl (σ.2.2.2.2.2.2.2.1))), (be, .inl (cI, 30, .inl (σ.2.2.2.2.2.2.2.2.1)))]) ⟨hx, hb, hml, hown, hts⟩ (c_X4_in l dC dI   (p0.toInt64) (2 : Int64) (30 : Int64) _ hw H.size) (va_cwS 3 hts gX4_step_X4_in rfl rfl rfl (by decide +kernel) ⟨Nat.le_of_ble_eq_true rfl, Nat.le_of_ble_eq_true rfl⟩) hKc hnw hP hD hPc hDc rfl hl.1 rfl (Nat.le_of_ble_eq_true rfl) dX4_step_8 ⟨Nat.zero_le _, Nat.zero_le _⟩) hP hD hS hFc [] [0, 1, 2, 3] rfl rfl (by decide) (by decide) (fun r1 u1 H locs hq hP hD hS => ?_)
  obtain ⟨hw, rfl⟩ := hq
  have hP : va_P (dC, dI) vwCl [(h0, .inr (3, [.int σ.1, .int σ.2.1, .int σ.2.2.1, .ref w0, .int σ.2.2.2.2.1, .int σ.2.2.2.2.2.1, .long σ.2.2.2.2.2.2.1, .ref so, .ref be, .int σ.2.2.2.2.2.2.2.2.2.1, .int σ.2.2.2.2.2.2.2.2.2.2.1, .int σ.2.2.2.2.2.2.2.2.2.2.2.1, .int σ.2.2.2.2.2.2.2.2.2.2.2.2])), (w0, .inl (cJ, 511, .inr (.inl (σ.2.2.2.1)))), (so, .inl (cI, 30, .inl (σ.2.2.2.2.2.2.2.1))), (be, .inl (cI, 30, .inl (σ.2.2.2.2.2.2.2.2.1)))] H := hP
  have hD : va_D A [(h0, .inr (3, [.int σ.1, .int σ.2.1, .int σ.2.2.1, .ref w0, .int σ.2.2.2.2.1, .int σ.2.2.2.2.2.1, .long σ.2.2.2.2.2.2.1, .ref so, .ref be, .int σ.2.2.2.2.2.2.2.2.2.1, .int σ.2.2.2.2.2.2.2.2.2.2.1, .int σ.2.2.2.2.2.2.2.2.2.2.2.1, .int σ.2.2.2.2.2.2.2.2.2.2.2.2])), (w0, .inl (cJ, 511, .inr (.inl (σ.2.2.2.1)))), (so, .inl (cI, 30, .inl (σ.2.2.2.2.2.2.2.1))), (be, .inl (cI, 30, .inl (σ.2.2.2.2.2.2.2.2.1)))] := hD
  refine lv_if_ne (tgt := 16) hx hb dX4_step_11 (by decide) (fun c3 => ?_) (fun c3 => ?_)
  · have hw := hw.1 c3
    refine lv_aload_n hx hb dX4_step_16 rfl (lv_at hl 0 rfl) ?_
    refine lv_iload_n hx hb dX4_step_17 rfl (lv_at hl 1 rfl) ?_
    refine va_put (D := (dC, dI)) (ci := 3) (v := .int p0) (ty := .int) (C := RX4) (T := TX4) (N := 13) hx hb hts hin0 tyX4 tyX4_ok nmX4 hown hK hP hD hS 0 rfl rfl 4 (by decide) fl_83 (fun _ h9 => h9) rfl (by decide +kernel) rfl rfl (Nat.le_of_ble_eq_true rfl) dX4_step_18 (fun H locs hP hD hS => ?_)
    have hP : va_P (dC, dI) vwCl [(h0, .inr (3, [.int σ.1, .int σ.2.1, .int σ.2.2.1, .ref w0, .int p0, .int σ.2.2.2.2.2.1, .long σ.2.2.2.2.2.2.1, .ref so, .ref be, .int σ.2.2.2.2.2.2.2.2.2.1, .int σ.2.2.2.2.2.2.2.2.2.2.1, .int σ.2.2.2.2.2.2.2.2.2.2.2.1, .int σ.2.2.2.2.2.2.2.2.2.2.2.2])), (w0, .inl (cJ, 511, .inr (.inl (σ.2.2.2.1)))), (so, .inl (cI, 30, .inl (σ.2.2.2.2.2.2.2.1))), (be, .inl (cI, 30, .inl (σ.2.2.2.2.2.2.2.2.1)))] H := hP
    have hD : va_D A [(h0, .inr (3, [.int σ.1, .int σ.2.1, .int σ.2.2.1, .ref w0, .int p0, .int σ.2.2.2.2.2.1, .long σ.2.2.2.2.2.2.1, .ref so, .ref be, .int σ.2.2.2.2.2.2.2.2.2.1, .int σ.2.2.2.2.2.2.2.2.2.2.1, .int σ.2.2.2.2.2.2.2.2.2.2.2.1, .int σ.2.2.2.2.2.2.2.2.2.2.2.2])), (w0, .inl (cJ, 511, .inr (.inl (σ.2.2.2.1)))), (so, .inl (cI, 30, .inl (σ.2.2.2.2.2.2.2.1))), (be, .inl (cI, 30, .inl (σ.2.2.2.2.2.2.2.2.1)))] := hD
    refine lv_aload_n hx hb dX4_step_21 rfl (lv_at hl 0 rfl) ?_
    refine lv_iload_n hx hb dX4_step_22 rfl (lv_at hl 2 rfl) ?_
    have z4 := hw.1
    have hw := hw.2
    refine va_put (D := (dC, dI)) (ci := 3) (v := .int p1) (ty := .boolean) (C := RX4) (T := TX4) (N := 13) hx hb hts hin0 tyX4 tyX4_ok nmX4 hown hK hP hD hS 0 rfl rfl 5 (by decide) fl_86 (fun _ h9 => h9) rfl (by decide +kernel) (nb_nar z4) (nb_fit z4) (Nat.le_of_ble_eq_true rfl) dX4_step_23 (fun H locs hP hD hS => ?_)
    have hP : va_P (dC, dI) vwCl [(h0, .inr (3, [.int σ.1, .int σ.2.1, .int σ.2.2.1, .ref w0, .int p0, .int p1, .long σ.2.2.2.2.2.2.1, .ref so, .ref be, .int σ.2.2.2.2.2.2.2.2.2.1, .int σ.2.2.2.2.2.2.2.2.2.2.1, .int σ.2.2.2.2.2.2.2.2.2.2.2.1, .int σ.2.2.2.2.2.2.2.2.2.2.2.2])), (w0, .inl (cJ, 511, .inr (.inl (σ.2.2.2.1)))), (so, .inl (cI, 30, .inl (σ.2.2.2.2.2.2.2.1))), (be, .inl (cI, 30, .inl (σ.2.2.2.2.2.2.2.2.1)))] H := hP
    have hD : va_D A [(h0, .inr (3, [.int σ.1, .int σ.2.1, .int σ.2.2.1, .ref w0, .int p0, .int p1, .long σ.2.2.2.2.2.2.1, .ref so, .ref be, .int σ.2.2.2.2.2.2.2.2.2.1, .int σ.2.2.2.2.2.2.2.2.2.2.1, .int σ.2.2.2.2.2.2.2.2.2.2.2.1, .int σ.2.2.2.2.2.2.2.2.2.2.2.2])), (w0, .inl (cJ, 511, .inr (.inl (σ.2.2.2.1)))), (so, .inl (cI, 30, .inl (σ.2.2.2.2.2.2.2.1))), (be, .inl (cI, 30, .inl (σ.2.2.2.2.2.2.2.2.1)))] := hD
    refine lv_aload_n hx hb dX4_step_26 rfl (lv_at hl 0 rfl) ?_
    refine lv_lconst (v := (1 : Int64)) hx hb dX4_step_27 (by decide) ?_
    refine va_put (D := (dC, dI)) (ci := 3) (v := .long (1 : Int64)) (ty := .long) (C := RX4) (T := TX4) (N := 13) hx hb hts hin0 tyX4 tyX4_ok nmX4 hown hK hP hD hS 0 rfl rfl 6 (by decide) fl_23 (fun _ h9 => h9) rfl (by decide +kernel) rfl rfl (Nat.le_of_ble_eq_true rfl) dX4_step_28 (fun H locs hP hD hS => ?_)
    have hP : va_P (dC, dI) vwCl [(h0, .inr (3, [.int σ.1, .int σ.2.1, .int σ.2.2.1, .ref w0, .int p0, .int p1, .long (1 : Int64), .ref so, .ref be, .int σ.2.2.2.2.2.2.2.2.2.1, .int σ.2.2.2.2.2.2.2.2.2.2.1, .int σ.2.2.2.2.2.2.2.2.2.2.2.1, .int σ.2.2.2.2.2.2.2.2.2.2.2.2])), (w0, .inl (cJ, 511, .inr (.inl (σ.2.2.2.1)))), (so, .inl (cI, 30, .inl (σ.2.2.2.2.2.2.2.1))), (be, .inl (cI, 30, .inl (σ.2.2.2.2.2.2.2.2.1)))] H := hP
    have hD : va_D A [(h0, .inr (3, [.int σ.1, .int σ.2.1, .int σ.2.2.1, .ref w0, .int p0, .int p1, .long (1 : Int64), .ref so, .ref be, .int σ.2.2.2.2.2.2.2.2.2.1, .int σ.2.2.2.2.2.2.2.2.2.2.1, .int σ.2.2.2.2.2.2.2.2.2.2.2.1, .int σ.2.2.2.2.2.2.2.2.2.2.2.2])), (w0, .inl (cJ, 511, .inr (.inl (σ.2.2.2.1)))), (so, .inl (cI, 30, .inl (σ.2.2.2.2.2.2.2.1))), (be, .inl (cI, 30, .inl (σ.2.2.2.2.2.2.2.2.1)))] := hD
    refine lv_aload_n hx hb dX4_step_31 rfl (lv_at hl 0 rfl) ?_
    refine lv_iconst (v := (0 : Int32)) hx hb dX4_step_32 (by decide) ?_
    refine va_put (D := (dC, dI)) (ci := 3) (v := .int (0 : Int32)) (ty := .int) (C := RX4) (T := TX4) (N := 13) hx hb hts hin0 tyX4 tyX4_ok nmX4 hown hK hP hD hS 0 rfl rfl 9 (by decide) fl_90 (fun _ h9 => h9) rfl (by decide +kernel) rfl rfl (Nat.le_of_ble_eq_true rfl) dX4_step_33 (fun H locs hP hD hS => ?_)
    have hP : va_P (dC, dI) vwCl [(h0, .inr (3, [.int σ.1, .int σ.2.1, .int σ.2.2.1, .ref w0, .int p0, .int p1, .long (1 : Int64), .ref so, .ref be, .int (0 : Int32), .int σ.2.2.2.2.2.2.2.2.2.2.1, .int σ.2.2.2.2.2.2.2.2.2.2.2.1, .int σ.2.2.2.2.2.2.2.2.2.2.2.2])), (w0, .inl (cJ, 511, .inr (.inl (σ.2.2.2.1)))), (so, .inl (cI, 30, .inl (σ.2.2.2.2.2.2.2.1))), (be, .inl (cI, 30, .inl (σ.2.2.2.2.2.2.2.2.1)))] H := hP
    have hD : va_D A [(h0, .inr (3, [.int σ.1, .int σ.2.1, .int σ.2.2.1, .ref w0, .int p0, .int p1, .long (1 : Int64), .ref so, .ref be, .int (0 : Int32), .int σ.2.2.2.2.2.2.2.2.2.2.1, .int σ.2.2.2.2.2.2.2.2.2.2.2.1, .int σ.2.2.2.2.2.2.2.2.2.2.2.2])), (w0, .inl (cJ, 511, .inr (.inl (σ.2.2.2.1)))), (so, .inl (cI, 30, .inl (σ.2.2.2.2.2.2.2.1))), (be, .inl (cI, 30, .inl (σ.2.2.2.2.2.2.2.2.1)))] := hD
    refine lv_aload_n hx hb dX4_step_36 rfl (lv_at hl 0 rfl) ?_
    refine lv_iconst (v := (0 : Int32)) hx hb dX4_step_37 (by decide) ?_
    refine va_put (D := (dC, dI)) (ci := 3) (v := .int (0 : Int32)) (ty := .int) (C := RX4) (T := TX4) (N := 13) hx hb hts hin0 tyX4 tyX4_ok nmX4 hown hK hP hD hS 0 rfl rfl 10 (by decide) fl_93 (fun _ h9 => h9) rfl (by decide +kernel) rfl rfl (Nat.le_of_ble_eq_true rfl) dX4_step_38 (fun H locs hP hD hS => ?_)
    have hP : va_P (dC, dI) vwCl [(h0, .inr (3, [.int σ.1, .int σ.2.1, .int σ.2.2.1, .ref w0, .int p0, .int p1, .long (1 : Int64), .ref so, .ref be, .int (0 : Int32), .int (0 : Int32), .int σ.2.2.2.2.2.2.2.2.2.2.2.1, .int σ.2.2.2.2.2.2.2.2.2.2.2.2])), (w0, .inl (cJ, 511, .inr (.inl (σ.2.2.2.1)))), (so, .inl (cI, 30, .inl (σ.2.2.2.2.2.2.2.1))), (be, .inl (cI, 30, .inl (σ.2.2.2.2.2.2.2.2.1)))] H := hP
    have hD : va_D A [(h0, .inr (3, [.int σ.1, .int σ.2.1, .int σ.2.2.1, .ref w0, .int p0, .int p1, .long (1 : Int64), .ref so, .ref be, .int (0 : Int32), .int (0 : Int32), .int σ.2.2.2.2.2.2.2.2.2.2.2.1, .int σ.2.2.2.2.2.2.2.2.2.2.2.2])), (w0, .inl (cJ, 511, .inr (.inl (σ.2.2.2.1)))), (so, .inl (cI, 30, .inl (σ.2.2.2.2.2.2.2.1))), (be, .inl (cI, 30, .inl (σ.2.2.2.2.2.2.2.2.1)))] := hD
    refine lv_aload_n hx hb dX4_step_41 rfl (lv_at hl 0 rfl) ?_
    refine lv_iconst (v := (0 : Int32)) hx hb dX4_step_42 (by decide) ?_
    refine va_put (D := (dC, dI)) (ci := 3) (v := .int (0 : Int32)) (ty := .int) (C := RX4) (T := TX4) (N := 13) hx hb hts hin0 tyX4 tyX4_ok nmX4 hown hK hP hD hS 0 rfl rfl 11 (by decide) fl_96 (fun _ h9 => h9) rfl (by decide +kernel) rfl rfl (Nat.le_of_ble_eq_true rfl) dX4_step_43 (fun H locs hP hD hS => ?_)
    have hP : va_P (dC, dI) vwCl [(h0, .inr (3, [.int σ.1, .int σ.2.1, .int σ.2.2.1, .ref w0, .int p0, .int p1, .long (1 : Int64), .ref so, .ref be, .int (0 : Int32), .int (0 : Int32), .int (0 : Int32), .int σ.2.2.2.2.2.2.2.2.2.2.2.2])), (w0, .inl (cJ, 511, .inr (.inl (σ.2.2.2.1)))), (so, .inl (cI, 30, .inl (σ.2.2.2.2.2.2.2.1))), (be, .inl (cI, 30, .inl (σ.2.2.2.2.2.2.2.2.1)))] H := hP
    have hD : va_D A [(h0, .inr (3, [.int σ.1, .int σ.2.1, .int σ.2.2.1, .ref w0, .int p0, .int p1, .long (1 : Int64), .ref so, .ref be, .int (0 : Int32), .int (0 : Int32), .int (0 : Int32), .int σ.2.2.2.2.2.2.2.2.2.2.2.2])), (w0, .inl (cJ, 511, .inr (.inl (σ.2.2.2.1)))), (so, .inl (cI, 30, .inl (σ.2.2.2.2.2.2.2.1))), (be, .inl (cI, 30, .inl (σ.2.2.2.2.2.2.2.2.1)))] := hD
    refine lv_iconst (v := (0 : Int32)) hx hb dX4_step_46 (by decide) ?_
    refine lv_istore_n (lv' := [(3, .int (0 : Int32)), (0, .ref h0), (1, .int p0), (2, .int p1)]) hx hb dX4_step_47 rfl hl (by decide) rfl (fun ls hl => ?_)
    refine L48 p0 p1 (20000) (0 : Int32) (σ.1, σ.2.1, σ.2.2.1, σ.2.2.2.1, p0, p1, (1 : Int64), σ.2.2.2.2.2.2.2.1, σ.2.2.2.2.2.2.2.2.1, (0 : Int32), (0 : Int32), (0 : Int32), σ.2.2.2.2.2.2.2.2.2.2.2.2) _ hw (fun x3_7 σ8 hw H locs ls hP hD hS hl => ?_) H locs ls hP hD hS (lv_sub hl [0, 1, 2, 3] rfl)
    refine lv_iconst (v := (0 : Int32)) hx hb dX4_step_67 (by decide) ?_
    exact W.iret (v := (0 : Int32)) hx hb hr (fun t ht hW => ⟨⟨(0 : Int32), ((cl4 h0 w0 so be cJ cI σ8)), rfl, ⟨σ8, hw, rfl⟩, by rw [ht]; exact hP, va_K.moved hW.alike hK, hD⟩, hS.F ht⟩) hS.2.2 dX4_step_68
  · have hw := hw.2 c3
    refine lv_iconst (v := (-1 : Int32)) hx hb dX4_step_14 (by decide) ?_
    exact W.iret (v := (-1 : Int32)) hx hb hr (fun t ht hW => ⟨⟨(-1 : Int32), ((cl4 h0 w0 so be cJ cI σ)), rfl, ⟨σ, hw, rfl⟩, by rw [ht]; exact hP, va_K.moved hW.alike hK, hD⟩, hS.F ht⟩) hS.2.2 dX4_step_15
set_option maxHeartbeats 4000000 in
set_option maxRecDepth 100000 in
theorem c_X4_isPlace (l : Launch) (dC : Nat → ClassId) (dI : Nat → Nat → Nat) (h0 w0 so be : Nat) (cJ : ClassId) (cI : ClassId) (σ : SM) (p0 : Int32) (post : Int32 → Prop) (hw : wp_X4_isPlace p0 σ post) : KI l yX4_isPlace wsX4_isPlace ({ frames := 1, cells := 0, slots := 0, locals := 25 } : Room) (dC, dI) [(cJ, .long), (cI, .int)] (cl4 h0 w0 so be cJ cI σ) [.ref h0, .int p0] (fun r u => post r ∧ u = (cl4 h0 w0 so be cJ cI σ)) := by
  intro sz
  refine Met.ofW (cc := cX4_isPlace) (maxL := 2) (ret := (some .boolean)) (by decide) rfl ?_
  intro p e s m args below meth c s₁ B hml hv
  obtain ⟨rfl, hsz, hP, hK, hD0, hnw⟩ := hv
  have hx := B.exec
  have hb := B.bytes
  have hr := B.returns
  have hts := atoms_spec (ws := wsX4_isPlace) B.pre
  have hown : s.vm.findClass RX4 = some m.cls := findClass_of_methodNamed B.named
  have hlocks := B.notSynchronized
  subst hsz
  have hD := hD0.self (sz := s.heap.size)
  generalize hAe : va_A (cl4 h0 w0 so be cJ cI σ) s.heap.size = A at hD ⊢
  have hA : ∀ q : Nat, s.heap.size ≤ q → A q := fun q h => by rw [← hAe]; exact Or.inr h
  have hS : va_S A s.heap s.heap [] := va_S.rf
  have hP : va_P (dC, dI) vwCl [(h0, .inr (3, [.int σ.1, .int σ.2.1, .int σ.2.2.1, .ref w0, .int σ.2.2.2.2.1, .int σ.2.2.2.2.2.1, .long σ.2.2.2.2.2.2.1, .ref so, .ref be, .int σ.2.2.2.2.2.2.2.2.2.1, .int σ.2.2.2.2.2.2.2.2.2.2.1, .int σ.2.2.2.2.2.2.2.2.2.2.2.1, .int σ.2.2.2.2.2.2.2.2.2.2.2.2])), (w0, .inl (cJ, 511, .inr (.inl (σ.2.2.2.1)))), (so, .inl (cI, 30, .inl (σ.2.2.2.2.2.2.2.1))), (be, .inl (cI, 30, .inl (σ.2.2.2.2.2.2.2.2.1)))] s.heap := hP
  have hD : va_D A [(h0, .inr (3, [.int σ.1, .int σ.2.1, .int σ.2.2.1, .ref w0, .int σ.2.2.2.2.1, .int σ.2.2.2.2.2.1, .long σ.2.2.2.2.2.2.1, .ref so, .ref be, .int σ.2.2.2.2.2.2.2.2.2.1, .int σ.2.2.2.2.2.2.2.2.2.2.1, .int σ.2.2.2.2.2.2.2.2.2.2.2.1, .int σ.2.2.2.2.2.2.2.2.2.2.2.2])), (w0, .inl (cJ, 511, .inr (.inl (σ.2.2.2.1)))), (so, .inl (cI, 30, .inl (σ.2.2.2.2.2.2.2.1))), (be, .inl (cI, 30, .inl (σ.2.2.2.2.2.2.2.2.1)))] := hD
  have fl_83 := hts (.fieldLink RX4 83 "OnePlaceEachModel" "places" "I") (by decide +kernel)
  have hin0 : ∀ w ∈ wsX40, w ∈ wsX4_isPlace := by decide +kernel
  have hl := lv_entry ([.ref h0, .int p0]) (n := 2) (Nat.le_of_ble_eq_true rfl)
  rw [lg_entry_eq]
  generalize (lg_sl ([.ref h0, .int p0]) ++ List.replicate (2 - (lg_sl ([.ref h0, .int p0])).length) Slot.unset).toArray = ls at hl ⊢
  have hl : lv_has ls 2 [(0, .ref h0), (1, .int p0)] := hl
  unfold wp_X4_isPlace at hw
  skip
  obtain ⟨H, hH⟩ : ∃ H, H = s.heap := ⟨_, rfl⟩
  obtain ⟨locs, hlo⟩ : ∃ q : List Loc, q = [] := ⟨_, rfl⟩
  rw [← hH] at hP
  have hS : va_S A s.heap H locs := by rw [hH, hlo]; exact hS
  suffices hgo : W p l e (headSpec wsX4_isPlace ({ frames := 1, cells := 0, slots := 0, locals := 25 } : Room)).room s m _ below meth c H locs 0 0 _ (F0 m 0 ls []) by rw [hH, hlo] at hgo; exact hgo
  refine lv_iload_n hx hb dX4_isPlace_0 rfl (lv_at hl 1 rfl) ?_
  refine lv_i2l hx hb dX4_isPlace_1 rfl ?_
  refine lv_lconst (v := (0 : Int64)) hx hb dX4_isPlace_2 (by decide) ?_
  refine lv_aload_n hx hb dX4_isPlace_3 rfl (lv_at hl 0 rfl) ?_
  refine va_get (D := (dC, dI)) (ci := 3) (v := .int σ.2.2.2.2.1) (C := RX4) (T := TX4) (N := 13) hx hb hts hin0 hown hK hP 0 rfl rfl 4 (by decide) fl_83 (fun _ h9 => h9) rfl dX4_isPlace_4 ?_
  refine lv_if_ne (tgt := 16) hx hb dX4_isPlace_7 (by decide) (fun c1 => ?_) (fun c1 => ?_)
  · have hw := hw.1 c1
    refine lv_aload_n hx hb dX4_isPlace_16 rfl (lv_at hl 0 rfl) ?_
    refine va_get (D := (dC, dI)) (ci := 3) (v := .int σ.2.2.2.2.1) (C := RX4) (T := TX4) (N := 13) hx hb hts hin0 hown hK hP 0 rfl rfl 4 (by decide) fl_83 (fun _ h9 => h9) rfl dX4_isPlace_17 ?_
    refine lv_iconst (v := (1 : Int32)) hx hb dX4_isPlace_20 (by decide) ?_
    refine lv_isub hx hb dX4_isPlace_21 ?_
    refine lv_i2l hx hb dX4_isPlace_22 rfl ?_
    have hPc := hP.sub (ws' := ([] : va_W)) [] rfl
    have hDc := hD.sub (ws' := ([] : va_W)) [] (by decide) rfl
    have hKc := hK.sub (tys' := []) [] rfl
    have hFc := va_free (wc := ([] : va_W)) hD hS hA [] rfl
    refine kc_i (wr := [(h0, .inr (3, [.int σ.1, .int σ.2.1, .int σ.2.2.1, .ref w0, .int σ.2.2.2.2.1, .int σ.2.2.2.2.2.1, .long σ.2.2.2.2.2.2.1, .ref so, .ref be, .int σ.2.2.2.2.2.2.2.2.2.1, .int σ.2.2.2.2.2.2.2.2.2.2.1, .int σ.2.2.2.2.2.2.2.2.2.2.2.1, .int σ.2.2.2.2.2.2.2.2.2.2.2.2])), (w0, .inl (cJ, 511, .inr (.inl (σ.2.2.2.1)))), (so, .inl (cI, 30, .inl (σ.2.2.2.2.2.2.2.1))), (be, .inl (cI, 30, .inl (σ.2.2.2.2.2.2.2.2.1)))]) (kr_S (As := [.long (p0.toInt64), .long (0 : Int64), .long ((σ.2.2.2.2.1 - (1 : Int32)).toInt64)]) (rest := []) (ws := [(h0, .inr (3, [.int σ.1, .int σ.2.1, .int σ.2.2.1, .ref w0, .int σ.2.2.2.2.1, .int σ.2.2.2.2.2.1, .long σ.2.2.2.2.2.2.1, .ref so, .ref be, .int σ.2.2.2.2.2.2.2.2.2.1, .int σ.2.2.2.2.2.2.2.2.2.2.1, .int σ.2.2.2.2.2.2.2.2.2.2.2.1, .int σ.2.2.2.2.2.2.2.2.2.2.2.2])), (w0, .inl (cJ, 511, .inr (.inl (σ.2.2.2.1)))), (so, .inl (cI, 30, .inl (σ.2.2.2.2.2.2.2.1))), (be, .inl (cI, 30, .inl (σ.2.2.2.2.2.2.2.2.1)))]) ⟨hx, hb, hml, hown, hts⟩ (c_X4_in l dC dI   (p0.toInt64) (0 : Int64) ((σ.2.2.2.2.1 - (1 : Int32)).toInt64) _ hw H.size) (va_cwS 3 hts gX4_isPlace_X4_in rfl rfl rfl (by decide +kernel) ⟨Nat.le_of_ble_eq_true rfl, Nat.le_of_ble_eq_true rfl⟩) hKc hnw hP hD hPc hDc rfl hl.1 rfl (Nat.le_of_ble_eq_true rfl) dX4_isPlace_23 ⟨Nat.zero_le _, Nat.zero_le _⟩) hP hD hS hFc [] [0, 1, 2, 3] rfl rfl (by decide) (by decide) (fun r2 u1 H locs hq hP hD hS => ?_)
    obtain ⟨hw, rfl⟩ := hq
    have hP : va_P (dC, dI) vwCl [(h0, .inr (3, [.int σ.1, .int σ.2.1, .int σ.2.2.1, .ref w0, .int σ.2.2.2.2.1, .int σ.2.2.2.2.2.1, .long σ.2.2.2.2.2.2.1, .ref so, .ref be, .int σ.2.2.2.2.2.2.2.2.2.1, .int σ.2.2.2.2.2.2.2.2.2.2.1, .int σ.2.2.2.2.2.2.2.2.2.2.2.1, .int σ.2.2.2.2.2.2.2.2.2.2.2.2])), (w0, .inl (cJ, 511, .inr (.inl (σ.2.2.2.1)))), (so, .inl (cI, 30, .inl (σ.2.2.2.2.2.2.2.1))), (be, .inl (cI, 30, .inl (σ.2.2.2.2.2.2.2.2.1)))] H := hP
    have hD : va_D A [(h0, .inr (3, [.int σ.1, .int σ.2.1, .int σ.2.2.1, .ref w0, .int σ.2.2.2.2.1, .int σ.2.2.2.2.2.1, .long σ.2.2.2.2.2.2.1, .ref so, .ref be, .int σ.2.2.2.2.2.2.2.2.2.1, .int σ.2.2.2.2.2.2.2.2.2.2.1, .int σ.2.2.2.2.2.2.2.2.2.2.2.1, .int σ.2.2.2.2.2.2.2.2.2.2.2.2])), (w0, .inl (cJ, 511, .inr (.inl (σ.2.2.2.1)))), (so, .inl (cI, 30, .inl (σ.2.2.2.2.2.2.2.1))), (be, .inl (cI, 30, .inl (σ.2.2.2.2.2.2.2.2.1)))] := hD
    have z4 := hw.1
    have hw := hw.2
    exact W.zret (v := r2) hx hb hr (nb_nar z4) (fun t ht hW => ⟨⟨r2, ((cl4 h0 w0 so be cJ cI σ)), rfl, ⟨hw, rfl⟩, by rw [ht]; exact hP, va_K.moved hW.alike hK, hD⟩, hS.F ht⟩) hS.2.2 dX4_isPlace_26
  · have hw := hw.2 c1
    refine lv_ldc2 (v := (29 : Int64)) hx hb hown (hts (.constantLong RX4 99 (29 : Int64)) (by decide +kernel)) dX4_isPlace_10 ?_
    refine lv_goto (tgt := 23) hx hb dX4_isPlace_13 (by decide) ?_
    have hPc := hP.sub (ws' := ([] : va_W)) [] rfl
    have hDc := hD.sub (ws' := ([] : va_W)) [] (by decide) rfl
    have hKc := hK.sub (tys' := []) [] rfl
    have hFc := va_free (wc := ([] : va_W)) hD hS hA [] rfl
    refine kc_i (wr := [(h0, .inr (3, [.int σ.1, .int σ.2.1, .int σ.2.2.1, .ref w0, .int σ.2.2.2.2.1, .int σ.2.2.2.2.2.1, .long σ.2.2.2.2.2.2.1, .ref so, .ref be, .int σ.2.2.2.2.2.2.2.2.2.1, .int σ.2.2.2.2.2.2.2.2.2.2.1, .int σ.2.2.2.2.2.2.2.2.2.2.2.1, .int σ.2.2.2.2.2.2.2.2.2.2.2.2])), (w0, .inl (cJ, 511, .inr (.inl (σ.2.2.2.1)))), (so, .inl (cI, 30, .inl (σ.2.2.2.2.2.2.2.1))), (be, .inl (cI, 30, .inl (σ.2.2.2.2.2.2.2.2.1)))]) (kr_S (As := [.long (p0.toInt64), .long (0 : Int64), .long (29 : Int64)]) (rest := []) (ws := [(h0, .inr (3, [.int σ.1, .int σ.2.1, .int σ.2.2.1, .ref w0, .int σ.2.2.2.2.1, .int σ.2.2.2.2.2.1, .long σ.2.2.2.2.2.2.1, .ref so, .ref be, .int σ.2.2.2.2.2.2.2.2.2.1, .int σ.2.2.2.2.2.2.2.2.2.2.1, .int σ.2.2.2.2.2.2.2.2.2.2.2.1, .int σ.2.2.2.2.2.2.2.2.2.2.2.2])), (w0, .inl (cJ, 511, .inr (.inl (σ.2.2.2.1)))), (so, .inl (cI, 30, .inl (σ.2.2.2.2.2.2.2.1))), (be, .inl (cI, 30, .inl (σ.2.2.2.2.2.2.2.2.1)))]) ⟨hx, hb, hml, hown, hts⟩ (c_X4_in l dC dI   (p0.toInt64) (0 : Int64) (29 : Int64) _ hw H.size) (va_cwS 3 hts gX4_isPlace_X4_in rfl rfl rfl (by decide +kernel) ⟨Nat.le_of_ble_eq_true rfl, Nat.le_of_ble_eq_true rfl⟩) hKc hnw hP hD hPc hDc rfl hl.1 rfl (Nat.le_of_ble_eq_true rfl) dX4_isPlace_23 ⟨Nat.zero_le _, Nat.zero_le _⟩) hP hD hS hFc [] [0, 1, 2, 3] rfl rfl (by decide) (by decide) (fun r5 u1 H locs hq hP hD hS => ?_)
    obtain ⟨hw, rfl⟩ := hq
    have hP : va_P (dC, dI) vwCl [(h0, .inr (3, [.int σ.1, .int σ.2.1, .int σ.2.2.1, .ref w0, .int σ.2.2.2.2.1, .int σ.2.2.2.2.2.1, .long σ.2.2.2.2.2.2.1, .ref so, .ref be, .int σ.2.2.2.2.2.2.2.2.2.1, .int σ.2.2.2.2.2.2.2.2.2.2.1, .int σ.2.2.2.2.2.2.2.2.2.2.2.1, .int σ.2.2.2.2.2.2.2.2.2.2.2.2])), (w0, .inl (cJ, 511, .inr (.inl (σ.2.2.2.1)))), (so, .inl (cI, 30, .inl (σ.2.2.2.2.2.2.2.1))), (be, .inl (cI, 30, .inl (σ.2.2.2.2.2.2.2.2.1)))] H := hP
    have hD : va_D A [(h0, .inr (3, [.int σ.1, .int σ.2.1, .int σ.2.2.1, .ref w0, .int σ.2.2.2.2.1, .int σ.2.2.2.2.2.1, .long σ.2.2.2.2.2.2.1, .ref so, .ref be, .int σ.2.2.2.2.2.2.2.2.2.1, .int σ.2.2.2.2.2.2.2.2.2.2.1, .int σ.2.2.2.2.2.2.2.2.2.2.2.1, .int σ.2.2.2.2.2.2.2.2.2.2.2.2])), (w0, .inl (cJ, 511, .inr (.inl (σ.2.2.2.1)))), (so, .inl (cI, 30, .inl (σ.2.2.2.2.2.2.2.1))), (be, .inl (cI, 30, .inl (σ.2.2.2.2.2.2.2.2.1)))] := hD
    have z7 := hw.1
    have hw := hw.2
    exact W.zret (v := r5) hx hb hr (nb_nar z7) (fun t ht hW => ⟨⟨r5, ((cl4 h0 w0 so be cJ cI σ)), rfl, ⟨hw, rfl⟩, by rw [ht]; exact hP, va_K.moved hW.alike hK, hD⟩, hS.F ht⟩) hS.2.2 dX4_isPlace_26
set_option maxHeartbeats 4000000 in
set_option maxRecDepth 100000 in
theorem c_X4_set (l : Launch) (dC : Nat → ClassId) (dI : Nat → Nat → Nat) (h0 w0 so be : Nat) (cJ : ClassId) (cI : ClassId) (σ : SM) (p0 : Int32) (p1 : Int32) (post : Int32 → SM → Prop) (hw : wp_X4_set p0 p1 σ post) : KI l yX4_set wsX4_set ({ frames := 2, cells := 0, slots := 0, locals := 46 } : Room) (dC, dI) [(cJ, .long), (cI, .int)] (cl4 h0 w0 so be cJ cI σ) [.ref h0, .int p0, .int p1] (fun r u => ∃ σ', post r σ' ∧ u = (cl4 h0 w0 so be cJ cI (σ'))) := by
  intro sz
  refine Met.ofW (cc := cX4_set) (maxL := 4) (ret := (some .int)) (by decide) rfl ?_
  intro p e s m args below meth c s₁ B hml hv
  obtain ⟨rfl, hsz, hP, hK, hD0, hnw⟩ := hv
  have hx := B.exec
  have hb := B.bytes
  have hr := B.returns
  have hts := atoms_spec (ws := wsX4_set) B.pre
  have hown : s.vm.findClass RX4 = some m.cls := findClass_of_methodNamed B.named
  have hlocks := B.notSynchronized
  subst hsz
  have hD := hD0.self (sz := s.heap.size)
  generalize hAe : va_A (cl4 h0 w0 so be cJ cI σ) s.heap.size = A at hD ⊢
  have hA : ∀ q : Nat, s.heap.size ≤ q → A q := fun q h => by rw [← hAe]; exact Or.inr h
  have hS : va_S A s.heap s.heap [] := va_S.rf
  have hP : va_P (dC, dI) vwCl [(h0, .inr (3, [.int σ.1, .int σ.2.1, .int σ.2.2.1, .ref w0, .int σ.2.2.2.2.1, .int σ.2.2.2.2.2.1, .long σ.2.2.2.2.2.2.1, .ref so, .ref be, .int σ.2.2.2.2.2.2.2.2.2.1, .int σ.2.2.2.2.2.2.2.2.2.2.1, .int σ.2.2.2.2.2.2.2.2.2.2.2.1, .int σ.2.2.2.2.2.2.2.2.2.2.2.2])), (w0, .inl (cJ, 511, .inr (.inl (σ.2.2.2.1)))), (so, .inl (cI, 30, .inl (σ.2.2.2.2.2.2.2.1))), (be, .inl (cI, 30, .inl (σ.2.2.2.2.2.2.2.2.1)))] s.heap := hP
  have hD : va_D A [(h0, .inr (3, [.int σ.1, .int σ.2.1, .int σ.2.2.1, .ref w0, .int σ.2.2.2.2.1, .int σ.2.2.2.2.2.1, .long σ.2.2.2.2.2.2.1, .ref so, .ref be, .int σ.2.2.2.2.2.2.2.2.2.1, .int σ.2.2.2.2.2.2.2.2.2.2.1, .int σ.2.2.2.2.2.2.2.2.2.2.2.1, .int σ.2.2.2.2.2.2.2.2.2.2.2.2])), (w0, .inl (cJ, 511, .inr (.inl (σ.2.2.2.1)))), (so, .inl (cI, 30, .inl (σ.2.2.2.2.2.2.2.1))), (be, .inl (cI, 30, .inl (σ.2.2.2.2.2.2.2.2.1)))] := hD
  have fl_27 := hts (.fieldLink RX4 27 "OnePlaceEachModel" "sorts" "[I") (by decide +kernel)
  have fl_83 := hts (.fieldLink RX4 83 "OnePlaceEachModel" "places" "I") (by decide +kernel)
  have hin0 : ∀ w ∈ wsX40, w ∈ wsX4_set := by decide +kernel
  have hl := lv_entry ([.ref h0, .int p0, .int p1]) (n := 4) (Nat.le_of_ble_eq_true rfl)
  rw [lg_entry_eq]
  generalize (lg_sl ([.ref h0, .int p0, .int p1]) ++ List.replicate (4 - (lg_sl ([.ref h0, .int p0, .int p1])).length) Slot.unset).toArray = ls at hl ⊢
  have hl : lv_has ls 4 [(0, .ref h0), (1, .int p0), (2, .int p1)] := hl
  unfold wp_X4_set at hw
  skip
  obtain ⟨H, hH⟩ : ∃ H, H = s.heap := ⟨_, rfl⟩
  obtain ⟨locs, hlo⟩ : ∃ q : List Loc, q = [] := ⟨_, rfl⟩
  rw [← hH] at hP
  have hS : va_S A s.heap H locs := by rw [hH, hlo]; exact hS
  suffices hgo : W p l e (headSpec wsX4_set ({ frames := 2, cells := 0, slots := 0, locals := 46 } : Room)).room s m _ below meth c H locs 0 0 _ (F0 m 0 ls []) by rw [hH, hlo] at hgo; exact hgo
  refine lv_aload_n hx hb dX4_set_0 rfl (lv_at hl 0 rfl) ?_
  refine lv_iload_n hx hb dX4_set_1 rfl (lv_at hl 1 rfl) ?_
  have hPc := hP
  have hDc := hD
  have hKc := hK
  have hFc := va_free (wc := [(h0, .inr (3, [.int σ.1, .int σ.2.1, .int σ.2.2.1, .ref w0, .int σ.2.2.2.2.1, .int σ.2.2.2.2.2.1, .long σ.2.2.2.2.2.2.1, .ref so, .ref be, .int σ.2.2.2.2.2.2.2.2.2.1, .int σ.2.2.2.2.2.2.2.2.2.2.1, .int σ.2.2.2.2.2.2.2.2.2.2.2.1, .int σ.2.2.2.2.2.2.2.2.2.2.2.2])), (w0, .inl (cJ, 511, .inr (.inl (σ.2.2.2.1)))), (so, .inl (cI, 30, .inl (σ.2.2.2.2.2.2.2.1))), (be, .inl (cI, 30, .inl (σ.2.2.2.2.2.2.2.2.1)))]) hD hS hA [0, 1, 2, 3] rfl
  refine kc_i (wr := ([] : va_W)) (kr_V (As := [.int p0]) (rest := []) (b := h0) (ws := [(h0, .inr (3, [.int σ.1, .int σ.2.1, .int σ.2.2.1, .ref w0, .int σ.2.2.2.2.1, .int σ.2.2.2.2.2.1, .long σ.2.2.2.2.2.2.1, .ref so, .ref be, .int σ.2.2.2.2.2.2.2.2.2.1, .int σ.2.2.2.2.2.2.2.2.2.2.1, .int σ.2.2.2.2.2.2.2.2.2.2.2.1, .int σ.2.2.2.2.2.2.2.2.2.2.2.2])), (w0, .inl (cJ, 511, .inr (.inl (σ.2.2.2.1)))), (so, .inl (cI, 30, .inl (σ.2.2.2.2.2.2.2.1))), (be, .inl (cI, 30, .inl (σ.2.2.2.2.2.2.2.2.1)))]) ⟨hx, hb, hml, hown, hts⟩ (c_X4_isPlace l dC dI h0 w0 so be cJ cI σ p0 _ hw H.size) (cwV 1 hts gX4_set_X4_isPlace rfl rfl rfl (by decide +kernel) ⟨Nat.le_of_ble_eq_true rfl, Nat.le_of_ble_eq_true rfl⟩) 3 0 hK rfl rfl rfl hKc hnw hP hD hPc hDc rfl hl.1 rfl (Nat.le_of_ble_eq_true rfl) dX4_set_2 ⟨Nat.zero_le _, Nat.zero_le _⟩) hP hD hS hFc [0, 1, 2, 3] [] rfl rfl (by decide) (by decide) (fun r1 u1 H locs hq hP hD hS => ?_)
  obtain ⟨hw, rfl⟩ := hq
  have hP : va_P (dC, dI) vwCl [(h0, .inr (3, [.int σ.1, .int σ.2.1, .int σ.2.2.1, .ref w0, .int σ.2.2.2.2.1, .int σ.2.2.2.2.2.1, .long σ.2.2.2.2.2.2.1, .ref so, .ref be, .int σ.2.2.2.2.2.2.2.2.2.1, .int σ.2.2.2.2.2.2.2.2.2.2.1, .int σ.2.2.2.2.2.2.2.2.2.2.2.1, .int σ.2.2.2.2.2.2.2.2.2.2.2.2])), (w0, .inl (cJ, 511, .inr (.inl (σ.2.2.2.1)))), (so, .inl (cI, 30, .inl (σ.2.2.2.2.2.2.2.1))), (be, .inl (cI, 30, .inl (σ.2.2.2.2.2.2.2.2.1)))] H := hP
  have hD : va_D A [(h0, .inr (3, [.int σ.1, .int σ.2.1, .int σ.2.2.1, .ref w0, .int σ.2.2.2.2.1, .int σ.2.2.2.2.2.1, .long σ.2.2.2.2.2.2.1, .ref so, .ref be, .int σ.2.2.2.2.2.2.2.2.2.1, .int σ.2.2.2.2.2.2.2.2.2.2.1, .int σ.2.2.2.2.2.2.2.2.2.2.2.1, .int σ.2.2.2.2.2.2.2.2.2.2.2.2])), (w0, .inl (cJ, 511, .inr (.inl (σ.2.2.2.1)))), (so, .inl (cI, 30, .inl (σ.2.2.2.2.2.2.2.1))), (be, .inl (cI, 30, .inl (σ.2.2.2.2.2.2.2.2.1)))] := hD
  refine lv_if_eq (tgt := 20) hx hb dX4_set_5 (by decide) (fun c3 => ?_) (fun c3 => ?_)
  · have hw := hw.1 c3
    refine lv_iconst (v := (-1 : Int32)) hx hb dX4_set_20 (by decide) ?_
    exact W.iret (v := (-1 : Int32)) hx hb hr (fun t ht hW => ⟨⟨(-1 : Int32), ((cl4 h0 w0 so be cJ cI σ)), rfl, ⟨σ, hw, rfl⟩, by rw [ht]; exact hP, va_K.moved hW.alike hK, hD⟩, hS.F ht⟩) hS.2.2 dX4_set_21
  · have hw := hw.2 c3
    refine lv_iload_n hx hb dX4_set_8 rfl (lv_at hl 2 rfl) ?_
    refine lv_i2l hx hb dX4_set_9 rfl ?_
    refine lv_lconst (v := (0 : Int64)) hx hb dX4_set_10 (by decide) ?_
    refine lv_ldc2 (v := (2 : Int64)) hx hb hown (hts (.constantLong RX4 79 (2 : Int64)) (by decide +kernel)) dX4_set_11 ?_
    have hPc := hP.sub (ws' := ([] : va_W)) [] rfl
    have hDc := hD.sub (ws' := ([] : va_W)) [] (by decide) rfl
    have hKc := hK.sub (tys' := []) [] rfl
    have hFc := va_free (wc := ([] : va_W)) hD hS hA [] rfl
    refine kc_i (wr := [(h0, .inr (3, [.int σ.1, .int σ.2.1, .int σ.2.2.1, .ref w0, .int σ.2.2.2.2.1, .int σ.2.2.2.2.2.1, .long σ.2.2.2.2.2.2.1, .ref so, .ref be, .int σ.2.2.2.2.2.2.2.2.2.1, .int σ.2.2.2.2.2.2.2.2.2.2.1, .int σ.2.2.2.2.2.2.2.2.2.2.2.1, .int σ.2.2.2.2.2.2.2.2.2.2.2.2])), (w0, .inl (cJ, 511, .inr (.inl (σ.2.2.2.1)))), (so, .inl (cI, 30, .inl (σ.2.2.2.2.2.2.2.1))), (be, .inl (cI, 30, .inl (σ.2.2.2.2.2.2.2.2.1)))]) (kr_S (As := [.long (p1.toInt64), .long (0 : Int64), .long (2 : Int64)]) (rest := []) (ws := [(h0, .inr (3, [.int σ.1, .int σ.2.1, .int σ.2.2.1, .ref w0, .int σ.2.2.2.2.1, .int σ.2.2.2.2.2.1, .long σ.2.2.2.2.2.2.1, .ref so, .ref be, .int σ.2.2.2.2.2.2.2.2.2.1, .int σ.2.2.2.2.2.2.2.2.2.2.1, .int σ.2.2.2.2.2.2.2.2.2.2.2.1, .int σ.2.2.2.2.2.2.2.2.2.2.2.2])), (w0, .inl (cJ, 511, .inr (.inl (σ.2.2.2.1)))), (so, .inl (cI, 30, .inl (σ.2.2.2.2.2.2.2.1))), (be, .inl (cI, 30, .inl (σ.2.2.2.2.2.2.2.2.1)))]) ⟨hx, hb, hml, hown, hts⟩ (c_X4_in l dC dI   (p1.toInt64) (0 : Int64) (2 : Int64) _ hw H.size) (va_cwS 3 hts gX4_set_X4_in rfl rfl rfl (by decide +kernel) ⟨Nat.le_of_ble_eq_true rfl, Nat.le_of_ble_eq_true rfl⟩) hKc hnw hP hD hPc hDc rfl hl.1 rfl (Nat.le_of_ble_eq_true rfl) dX4_set_14 ⟨Nat.zero_le _, Nat.zero_le _⟩) hP hD hS hFc [] [0, 1, 2, 3] rfl rfl (by decide) (by decide) (fun r4 u1 H locs hq hP hD hS => ?_)
    obtain ⟨hw, rfl⟩ := hq
    have hP : va_P (dC, dI) vwCl [(h0, .inr (3, [.int σ.1, .int σ.2.1, .int σ.2.2.1, .ref w0, .int σ.2.2.2.2.1, .int σ.2.2.2.2.2.1, .long σ.2.2.2.2.2.2.1, .ref so, .ref be, .int σ.2.2.2.2.2.2.2.2.2.1, .int σ.2.2.2.2.2.2.2.2.2.2.1, .int σ.2.2.2.2.2.2.2.2.2.2.2.1, .int σ.2.2.2.2.2.2.2.2.2.2.2.2])), (w0, .inl (cJ, 511, .inr (.inl (σ.2.2.2.1)))), (so, .inl (cI, 30, .inl (σ.2.2.2.2.2.2.2.1))), (be, .inl (cI, 30, .inl (σ.2.2.2.2.2.2.2.2.1)))] H := hP
    have hD : va_D A [(h0, .inr (3, [.int σ.1, .int σ.2.1, .int σ.2.2.1, .ref w0, .int σ.2.2.2.2.1, .int σ.2.2.2.2.2.1, .long σ.2.2.2.2.2.2.1, .ref so, .ref be, .int σ.2.2.2.2.2.2.2.2.2.1, .int σ.2.2.2.2.2.2.2.2.2.2.1, .int σ.2.2.2.2.2.2.2.2.2.2.2.1, .int σ.2.2.2.2.2.2.2.2.2.2.2.2])), (w0, .inl (cJ, 511, .inr (.inl (σ.2.2.2.1)))), (so, .inl (cI, 30, .inl (σ.2.2.2.2.2.2.2.1))), (be, .inl (cI, 30, .inl (σ.2.2.2.2.2.2.2.2.1)))] := hD
    refine lv_if_ne (tgt := 22) hx hb dX4_set_17 (by decide) (fun c6 => ?_) (fun c6 => ?_)
    · have hw := hw.1 c6
      refine lv_aload_n hx hb dX4_set_22 rfl (lv_at hl 0 rfl) ?_
      refine va_get (D := (dC, dI)) (ci := 3) (v := .int σ.2.2.2.2.1) (C := RX4) (T := TX4) (N := 13) hx hb hts hin0 hown hK hP 0 rfl rfl 4 (by decide) fl_83 (fun _ h9 => h9) rfl dX4_set_23 ?_
      refine lv_if_ne (tgt := 32) hx hb dX4_set_26 (by decide) (fun c7 => ?_) (fun c7 => ?_)
      · have hw := hw.1 c7
        refine lv_aload_n hx hb dX4_set_32 rfl (lv_at hl 0 rfl) ?_
        refine va_get (D := (dC, dI)) (ci := 3) (v := .ref so) (C := RX4) (T := TX4) (N := 13) hx hb hts hin0 hown hK hP 0 rfl rfl 7 (by decide) fl_27 (fun _ h9 => h9) rfl dX4_set_33 ?_
        refine lv_iload_n hx hb dX4_set_36 rfl (lv_at hl 1 rfl) ?_
        have z8 := hw.1
        have hw := hw.2
        refine va_iald hx hb hK hP 2 1 rfl rfl z8 dX4_set_37 ?_
        refine lv_istore_n (lv' := [(3, .int (σ.2.2.2.2.2.2.2.1 p0.toNatClampNeg)), (0, .ref h0), (1, .int p0), (2, .int p1)]) hx hb dX4_set_38 rfl hl (by decide) rfl (fun ls hl => ?_)
        refine lv_aload_n hx hb dX4_set_39 rfl (lv_at hl 1 rfl) ?_
        refine va_get (D := (dC, dI)) (ci := 3) (v := .ref so) (C := RX4) (T := TX4) (N := 13) hx hb hts hin0 hown hK hP 0 rfl rfl 7 (by decide) fl_27 (fun _ h9 => h9) rfl dX4_set_40 ?_
        refine lv_iload_n hx hb dX4_set_43 rfl (lv_at hl 2 rfl) ?_
        refine lv_iload_n hx hb dX4_set_44 rfl (lv_at hl 3 rfl) ?_
        have z9 := hw.1
        have hw := hw.2
        refine va_iast hx hb hK hP hD hS 2 1 rfl rfl z9 dX4_set_45 (fun H locs hP hD hS => ?_)
        have hP : va_P (dC, dI) vwCl [(h0, .inr (3, [.int σ.1, .int σ.2.1, .int σ.2.2.1, .ref w0, .int σ.2.2.2.2.1, .int σ.2.2.2.2.2.1, .long σ.2.2.2.2.2.2.1, .ref so, .ref be, .int σ.2.2.2.2.2.2.2.2.2.1, .int σ.2.2.2.2.2.2.2.2.2.2.1, .int σ.2.2.2.2.2.2.2.2.2.2.2.1, .int σ.2.2.2.2.2.2.2.2.2.2.2.2])), (w0, .inl (cJ, 511, .inr (.inl (σ.2.2.2.1)))), (so, .inl (cI, 30, .inl ((upd σ.2.2.2.2.2.2.2.1 p0.toNatClampNeg p1)))), (be, .inl (cI, 30, .inl (σ.2.2.2.2.2.2.2.2.1)))] H := hP
        have hD : va_D A [(h0, .inr (3, [.int σ.1, .int σ.2.1, .int σ.2.2.1, .ref w0, .int σ.2.2.2.2.1, .int σ.2.2.2.2.2.1, .long σ.2.2.2.2.2.2.1, .ref so, .ref be, .int σ.2.2.2.2.2.2.2.2.2.1, .int σ.2.2.2.2.2.2.2.2.2.2.1, .int σ.2.2.2.2.2.2.2.2.2.2.2.1, .int σ.2.2.2.2.2.2.2.2.2.2.2.2])), (w0, .inl (cJ, 511, .inr (.inl (σ.2.2.2.1)))), (so, .inl (cI, 30, .inl ((upd σ.2.2.2.2.2.2.2.1 p0.toNatClampNeg p1)))), (be, .inl (cI, 30, .inl (σ.2.2.2.2.2.2.2.2.1)))] := hD
        refine lv_iload_n hx hb dX4_set_46 rfl (lv_at hl 0 rfl) ?_
        exact W.iret (v := (σ.2.2.2.2.2.2.2.1 p0.toNatClampNeg)) hx hb hr (fun t ht hW => ⟨⟨(σ.2.2.2.2.2.2.2.1 p0.toNatClampNeg), ((cl4 h0 w0 so be cJ cI (σ.1, σ.2.1, σ.2.2.1, σ.2.2.2.1, σ.2.2.2.2.1, σ.2.2.2.2.2.1, σ.2.2.2.2.2.2.1, (upd σ.2.2.2.2.2.2.2.1 p0.toNatClampNeg p1), σ.2.2.2.2.2.2.2.2.1, σ.2.2.2.2.2.2.2.2.2.1, σ.2.2.2.2.2.2.2.2.2.2.1, σ.2.2.2.2.2.2.2.2.2.2.2.1, σ.2.2.2.2.2.2.2.2.2.2.2.2))), rfl, ⟨(σ.1, σ.2.1, σ.2.2.1, σ.2.2.2.1, σ.2.2.2.2.1, σ.2.2.2.2.2.1, σ.2.2.2.2.2.2.1, (upd σ.2.2.2.2.2.2.2.1 p0.toNatClampNeg p1), σ.2.2.2.2.2.2.2.2.1, σ.2.2.2.2.2.2.2.2.2.1, σ.2.2.2.2.2.2.2.2.2.2.1, σ.2.2.2.2.2.2.2.2.2.2.2.1, σ.2.2.2.2.2.2.2.2.2.2.2.2), hw, rfl⟩, by rw [ht]; exact hP, va_K.moved hW.alike hK, hD⟩, hS.F ht⟩) hS.2.2 dX4_set_47
      · have hw := hw.2 c7
        refine lv_bipush (v := (-2 : Int32)) hx hb dX4_set_29 (by decide) ?_
        exact W.iret (v := (-2 : Int32)) hx hb hr (fun t ht hW => ⟨⟨(-2 : Int32), ((cl4 h0 w0 so be cJ cI σ)), rfl, ⟨σ, hw, rfl⟩, by rw [ht]; exact hP, va_K.moved hW.alike hK, hD⟩, hS.F ht⟩) hS.2.2 dX4_set_31
    · have hw := hw.2 c6
      refine lv_iconst (v := (-1 : Int32)) hx hb dX4_set_20 (by decide) ?_
      exact W.iret (v := (-1 : Int32)) hx hb hr (fun t ht hW => ⟨⟨(-1 : Int32), ((cl4 h0 w0 so be cJ cI σ)), rfl, ⟨σ, hw, rfl⟩, by rw [ht]; exact hP, va_K.moved hW.alike hK, hD⟩, hS.F ht⟩) hS.2.2 dX4_set_21
set_option maxHeartbeats 4000000 in
set_option maxRecDepth 100000 in
theorem c_X4_seed (l : Launch) (dC : Nat → ClassId) (dI : Nat → Nat → Nat) (h0 w0 so be : Nat) (cJ : ClassId) (cI : ClassId) (σ : SM) (p0 : Int32) (post : Int32 → SM → Prop) (hw : wp_X4_seed p0 σ post) : KI l yX4_seed wsX4_seed ({ frames := 0, cells := 0, slots := 0, locals := 0 } : Room) (dC, dI) [(cJ, .long), (cI, .int)] (cl4 h0 w0 so be cJ cI σ) [.ref h0, .int p0] (fun r u => ∃ σ', post r σ' ∧ u = (cl4 h0 w0 so be cJ cI (σ'))) := by
  intro sz
  refine Met.ofW (cc := cX4_seed) (maxL := 2) (ret := (some .int)) (by decide) rfl ?_
  intro p e s m args below meth c s₁ B hml hv
  obtain ⟨rfl, hsz, hP, hK, hD0, hnw⟩ := hv
  have hx := B.exec
  have hb := B.bytes
  have hr := B.returns
  have hts := atoms_spec (ws := wsX4_seed) B.pre
  have hown : s.vm.findClass RX4 = some m.cls := findClass_of_methodNamed B.named
  have hlocks := B.notSynchronized
  subst hsz
  have hD := hD0.self (sz := s.heap.size)
  generalize hAe : va_A (cl4 h0 w0 so be cJ cI σ) s.heap.size = A at hD ⊢
  have hA : ∀ q : Nat, s.heap.size ≤ q → A q := fun q h => by rw [← hAe]; exact Or.inr h
  have hS : va_S A s.heap s.heap [] := va_S.rf
  have hP : va_P (dC, dI) vwCl [(h0, .inr (3, [.int σ.1, .int σ.2.1, .int σ.2.2.1, .ref w0, .int σ.2.2.2.2.1, .int σ.2.2.2.2.2.1, .long σ.2.2.2.2.2.2.1, .ref so, .ref be, .int σ.2.2.2.2.2.2.2.2.2.1, .int σ.2.2.2.2.2.2.2.2.2.2.1, .int σ.2.2.2.2.2.2.2.2.2.2.2.1, .int σ.2.2.2.2.2.2.2.2.2.2.2.2])), (w0, .inl (cJ, 511, .inr (.inl (σ.2.2.2.1)))), (so, .inl (cI, 30, .inl (σ.2.2.2.2.2.2.2.1))), (be, .inl (cI, 30, .inl (σ.2.2.2.2.2.2.2.2.1)))] s.heap := hP
  have hD : va_D A [(h0, .inr (3, [.int σ.1, .int σ.2.1, .int σ.2.2.1, .ref w0, .int σ.2.2.2.2.1, .int σ.2.2.2.2.2.1, .long σ.2.2.2.2.2.2.1, .ref so, .ref be, .int σ.2.2.2.2.2.2.2.2.2.1, .int σ.2.2.2.2.2.2.2.2.2.2.1, .int σ.2.2.2.2.2.2.2.2.2.2.2.1, .int σ.2.2.2.2.2.2.2.2.2.2.2.2])), (w0, .inl (cJ, 511, .inr (.inl (σ.2.2.2.1)))), (so, .inl (cI, 30, .inl (σ.2.2.2.2.2.2.2.1))), (be, .inl (cI, 30, .inl (σ.2.2.2.2.2.2.2.2.1)))] := hD
  have fl_23 := hts (.fieldLink RX4 23 "OnePlaceEachModel" "seed" "J") (by decide +kernel)
  have fl_83 := hts (.fieldLink RX4 83 "OnePlaceEachModel" "places" "I") (by decide +kernel)
  have hin0 : ∀ w ∈ wsX40, w ∈ wsX4_seed := by decide +kernel
  have hl := lv_entry ([.ref h0, .int p0]) (n := 2) (Nat.le_of_ble_eq_true rfl)
  rw [lg_entry_eq]
  generalize (lg_sl ([.ref h0, .int p0]) ++ List.replicate (2 - (lg_sl ([.ref h0, .int p0])).length) Slot.unset).toArray = ls at hl ⊢
  have hl : lv_has ls 2 [(0, .ref h0), (1, .int p0)] := hl
  unfold wp_X4_seed at hw
  skip
  obtain ⟨H, hH⟩ : ∃ H, H = s.heap := ⟨_, rfl⟩
  obtain ⟨locs, hlo⟩ : ∃ q : List Loc, q = [] := ⟨_, rfl⟩
  rw [← hH] at hP
  have hS : va_S A s.heap H locs := by rw [hH, hlo]; exact hS
  suffices hgo : W p l e (headSpec wsX4_seed ({ frames := 0, cells := 0, slots := 0, locals := 0 } : Room)).room s m _ below meth c H locs 0 0 _ (F0 m 0 ls []) by rw [hH, hlo] at hgo; exact hgo
  refine lv_iload_n hx hb dX4_seed_0 rfl (lv_at hl 1 rfl) ?_
  refine lv_if_ge (tgt := 6) hx hb dX4_seed_1 (by decide) (fun c1 => ?_) (fun c1 => ?_)
  · have hw := hw.1 c1
    refine lv_aload_n hx hb dX4_seed_6 rfl (lv_at hl 0 rfl) ?_
    refine va_get (D := (dC, dI)) (ci := 3) (v := .int σ.2.2.2.2.1) (C := RX4) (T := TX4) (N := 13) hx hb hts hin0 hown hK hP 0 rfl rfl 4 (by decide) fl_83 (fun _ h9 => h9) rfl dX4_seed_7 ?_
    refine lv_if_ne (tgt := 16) hx hb dX4_seed_10 (by decide) (fun c2 => ?_) (fun c2 => ?_)
    · have hw := hw.1 c2
      refine lv_aload_n hx hb dX4_seed_16 rfl (lv_at hl 0 rfl) ?_
      refine lv_iload_n hx hb dX4_seed_17 rfl (lv_at hl 1 rfl) ?_
      refine lv_i2l hx hb dX4_seed_18 rfl ?_
      refine va_put (D := (dC, dI)) (ci := 3) (v := .long (p0.toInt64)) (ty := .long) (C := RX4) (T := TX4) (N := 13) hx hb hts hin0 tyX4 tyX4_ok nmX4 hown hK hP hD hS 0 rfl rfl 6 (by decide) fl_23 (fun _ h9 => h9) rfl (by decide +kernel) rfl rfl (Nat.le_of_ble_eq_true rfl) dX4_seed_19 (fun H locs hP hD hS => ?_)
      have hP : va_P (dC, dI) vwCl [(h0, .inr (3, [.int σ.1, .int σ.2.1, .int σ.2.2.1, .ref w0, .int σ.2.2.2.2.1, .int σ.2.2.2.2.2.1, .long (p0.toInt64), .ref so, .ref be, .int σ.2.2.2.2.2.2.2.2.2.1, .int σ.2.2.2.2.2.2.2.2.2.2.1, .int σ.2.2.2.2.2.2.2.2.2.2.2.1, .int σ.2.2.2.2.2.2.2.2.2.2.2.2])), (w0, .inl (cJ, 511, .inr (.inl (σ.2.2.2.1)))), (so, .inl (cI, 30, .inl (σ.2.2.2.2.2.2.2.1))), (be, .inl (cI, 30, .inl (σ.2.2.2.2.2.2.2.2.1)))] H := hP
      have hD : va_D A [(h0, .inr (3, [.int σ.1, .int σ.2.1, .int σ.2.2.1, .ref w0, .int σ.2.2.2.2.1, .int σ.2.2.2.2.2.1, .long (p0.toInt64), .ref so, .ref be, .int σ.2.2.2.2.2.2.2.2.2.1, .int σ.2.2.2.2.2.2.2.2.2.2.1, .int σ.2.2.2.2.2.2.2.2.2.2.2.1, .int σ.2.2.2.2.2.2.2.2.2.2.2.2])), (w0, .inl (cJ, 511, .inr (.inl (σ.2.2.2.1)))), (so, .inl (cI, 30, .inl (σ.2.2.2.2.2.2.2.1))), (be, .inl (cI, 30, .inl (σ.2.2.2.2.2.2.2.2.1)))] := hD
      refine lv_iconst (v := (0 : Int32)) hx hb dX4_seed_22 (by decide) ?_
      exact W.iret (v := (0 : Int32)) hx hb hr (fun t ht hW => ⟨⟨(0 : Int32), ((cl4 h0 w0 so be cJ cI (σ.1, σ.2.1, σ.2.2.1, σ.2.2.2.1, σ.2.2.2.2.1, σ.2.2.2.2.2.1, (p0.toInt64), σ.2.2.2.2.2.2.2.1, σ.2.2.2.2.2.2.2.2.1, σ.2.2.2.2.2.2.2.2.2.1, σ.2.2.2.2.2.2.2.2.2.2.1, σ.2.2.2.2.2.2.2.2.2.2.2.1, σ.2.2.2.2.2.2.2.2.2.2.2.2))), rfl, ⟨(σ.1, σ.2.1, σ.2.2.1, σ.2.2.2.1, σ.2.2.2.2.1, σ.2.2.2.2.2.1, (p0.toInt64), σ.2.2.2.2.2.2.2.1, σ.2.2.2.2.2.2.2.2.1, σ.2.2.2.2.2.2.2.2.2.1, σ.2.2.2.2.2.2.2.2.2.2.1, σ.2.2.2.2.2.2.2.2.2.2.2.1, σ.2.2.2.2.2.2.2.2.2.2.2.2), hw, rfl⟩, by rw [ht]; exact hP, va_K.moved hW.alike hK, hD⟩, hS.F ht⟩) hS.2.2 dX4_seed_23
    · have hw := hw.2 c2
      refine lv_bipush (v := (-2 : Int32)) hx hb dX4_seed_13 (by decide) ?_
      exact W.iret (v := (-2 : Int32)) hx hb hr (fun t ht hW => ⟨⟨(-2 : Int32), ((cl4 h0 w0 so be cJ cI σ)), rfl, ⟨σ, hw, rfl⟩, by rw [ht]; exact hP, va_K.moved hW.alike hK, hD⟩, hS.F ht⟩) hS.2.2 dX4_seed_15
  · have hw := hw.2 c1
    refine lv_iconst (v := (-1 : Int32)) hx hb dX4_seed_4 (by decide) ?_
    exact W.iret (v := (-1 : Int32)) hx hb hr (fun t ht hW => ⟨⟨(-1 : Int32), ((cl4 h0 w0 so be cJ cI σ)), rfl, ⟨σ, hw, rfl⟩, by rw [ht]; exact hP, va_K.moved hW.alike hK, hD⟩, hS.F ht⟩) hS.2.2 dX4_seed_5
set_option maxHeartbeats 4000000 in
set_option maxRecDepth 100000 in
theorem c_X4_changes (l : Launch) (dC : Nat → ClassId) (dI : Nat → Nat → Nat) (h0 w0 so be : Nat) (cJ : ClassId) (cI : ClassId) (σ : SM) (p0 : Int32) (p1 : Int32) (post : Int32 → SM → Prop) (hw : wp_X4_changes p0 p1 σ post) : KI l yX4_changes wsX4_changes ({ frames := 0, cells := 0, slots := 0, locals := 0 } : Room) (dC, dI) [(cJ, .long), (cI, .int)] (cl4 h0 w0 so be cJ cI σ) [.ref h0, .int p0, .int p1] (fun r u => ∃ σ', post r σ' ∧ u = (cl4 h0 w0 so be cJ cI (σ'))) := by
  intro sz
  refine Met.ofW (cc := cX4_changes) (maxL := 5) (ret := (some .boolean)) (by decide) rfl ?_
  intro p e s m args below meth c s₁ B hml hv
  obtain ⟨rfl, hsz, hP, hK, hD0, hnw⟩ := hv
  have hx := B.exec
  have hb := B.bytes
  have hr := B.returns
  have hts := atoms_spec (ws := wsX4_changes) B.pre
  have hown : s.vm.findClass RX4 = some m.cls := findClass_of_methodNamed B.named
  have hlocks := B.notSynchronized
  subst hsz
  have hD := hD0.self (sz := s.heap.size)
  generalize hAe : va_A (cl4 h0 w0 so be cJ cI σ) s.heap.size = A at hD ⊢
  have hA : ∀ q : Nat, s.heap.size ≤ q → A q := fun q h => by rw [← hAe]; exact Or.inr h
  have hS : va_S A s.heap s.heap [] := va_S.rf
  have hP : va_P (dC, dI) vwCl [(h0, .inr (3, [.int σ.1, .int σ.2.1, .int σ.2.2.1, .ref w0, .int σ.2.2.2.2.1, .int σ.2.2.2.2.2.1, .long σ.2.2.2.2.2.2.1, .ref so, .ref be, .int σ.2.2.2.2.2.2.2.2.2.1, .int σ.2.2.2.2.2.2.2.2.2.2.1, .int σ.2.2.2.2.2.2.2.2.2.2.2.1, .int σ.2.2.2.2.2.2.2.2.2.2.2.2])), (w0, .inl (cJ, 511, .inr (.inl (σ.2.2.2.1)))), (so, .inl (cI, 30, .inl (σ.2.2.2.2.2.2.2.1))), (be, .inl (cI, 30, .inl (σ.2.2.2.2.2.2.2.2.1)))] s.heap := hP
  have hD : va_D A [(h0, .inr (3, [.int σ.1, .int σ.2.1, .int σ.2.2.1, .ref w0, .int σ.2.2.2.2.1, .int σ.2.2.2.2.2.1, .long σ.2.2.2.2.2.2.1, .ref so, .ref be, .int σ.2.2.2.2.2.2.2.2.2.1, .int σ.2.2.2.2.2.2.2.2.2.2.1, .int σ.2.2.2.2.2.2.2.2.2.2.2.1, .int σ.2.2.2.2.2.2.2.2.2.2.2.2])), (w0, .inl (cJ, 511, .inr (.inl (σ.2.2.2.1)))), (so, .inl (cI, 30, .inl (σ.2.2.2.2.2.2.2.1))), (be, .inl (cI, 30, .inl (σ.2.2.2.2.2.2.2.2.1)))] := hD
  have fl_27 := hts (.fieldLink RX4 27 "OnePlaceEachModel" "sorts" "[I") (by decide +kernel)
  have fl_96 := hts (.fieldLink RX4 96 "OnePlaceEachModel" "moved" "I") (by decide +kernel)
  have hin0 : ∀ w ∈ wsX40, w ∈ wsX4_changes := by decide +kernel
  have hl := lv_entry ([.ref h0, .int p0, .int p1]) (n := 5) (Nat.le_of_ble_eq_true rfl)
  rw [lg_entry_eq]
  generalize (lg_sl ([.ref h0, .int p0, .int p1]) ++ List.replicate (5 - (lg_sl ([.ref h0, .int p0, .int p1])).length) Slot.unset).toArray = ls at hl ⊢
  have hl : lv_has ls 5 [(0, .ref h0), (1, .int p0), (2, .int p1)] := hl
  unfold wp_X4_changes at hw
  skip
  obtain ⟨H, hH⟩ : ∃ H, H = s.heap := ⟨_, rfl⟩
  obtain ⟨locs, hlo⟩ : ∃ q : List Loc, q = [] := ⟨_, rfl⟩
  rw [← hH] at hP
  have hS : va_S A s.heap H locs := by rw [hH, hlo]; exact hS
  suffices hgo : W p l e (headSpec wsX4_changes ({ frames := 0, cells := 0, slots := 0, locals := 0 } : Room)).room s m _ below meth c H locs 0 0 _ (F0 m 0 ls []) by rw [hH, hlo] at hgo; exact hgo
  refine lv_aload_n hx hb dX4_changes_0 rfl (lv_at hl 0 rfl) ?_
  refine va_get (D := (dC, dI)) (ci := 3) (v := .ref so) (C := RX4) (T := TX4) (N := 13) hx hb hts hin0 hown hK hP 0 rfl rfl 7 (by decide) fl_27 (fun _ h9 => h9) rfl dX4_changes_1 ?_
  refine lv_iload_n hx hb dX4_changes_4 rfl (lv_at hl 1 rfl) ?_
  have z1 := hw.1
  have hw := hw.2
  refine va_iald hx hb hK hP 2 1 rfl rfl z1 dX4_changes_5 ?_
  refine lv_iconst (v := (1 : Int32)) hx hb dX4_changes_6 (by decide) ?_
  refine lv_icmp_ne (tgt := 20) hx hb dX4_changes_7 (by decide) (fun c2 => ?_) (fun c2 => ?_)
  · have hw := hw.1 c2
    refine lv_aload_n hx hb dX4_changes_20 rfl (lv_at hl 0 rfl) ?_
    refine va_get (D := (dC, dI)) (ci := 3) (v := .ref so) (C := RX4) (T := TX4) (N := 13) hx hb hts hin0 hown hK hP 0 rfl rfl 7 (by decide) fl_27 (fun _ h9 => h9) rfl dX4_changes_21 ?_
    refine lv_iload_n hx hb dX4_changes_24 rfl (lv_at hl 1 rfl) ?_
    have z3 := hw.1
    have hw := hw.2
    refine va_iald hx hb hK hP 2 1 rfl rfl z3 dX4_changes_25 ?_
    refine lv_iconst (v := (2 : Int32)) hx hb dX4_changes_26 (by decide) ?_
    refine lv_icmp_ne (tgt := 43) hx hb dX4_changes_27 (by decide) (fun c4 => ?_) (fun c4 => ?_)
    · have hw := hw.1 c4
      refine lv_iconst (v := (0 : Int32)) hx hb dX4_changes_43 (by decide) ?_
      refine lv_istore_n (lv' := [(3, .int (0 : Int32)), (0, .ref h0), (1, .int p0), (2, .int p1)]) hx hb dX4_changes_44 rfl hl (by decide) rfl (fun ls hl => ?_)
      refine lv_iload_n hx hb dX4_changes_45 rfl (lv_at hl 0 rfl) ?_
      refine lv_if_eq (tgt := 87) hx hb dX4_changes_46 (by decide) (fun _ => ?_) (fun cz => absurd cz (by decide))
      refine lv_iload_n hx hb dX4_changes_87 rfl (lv_at hl 0 rfl) ?_
      exact W.zret (v := (0 : Int32)) hx hb hr (nb_nar nb_0) (fun t ht hW => ⟨⟨(0 : Int32), ((cl4 h0 w0 so be cJ cI σ)), rfl, ⟨σ, hw, rfl⟩, by rw [ht]; exact hP, va_K.moved hW.alike hK, hD⟩, hS.F ht⟩) hS.2.2 dX4_changes_88
    · have hw := hw.2 c4
      refine lv_aload_n hx hb dX4_changes_30 rfl (lv_at hl 0 rfl) ?_
      refine va_get (D := (dC, dI)) (ci := 3) (v := .ref so) (C := RX4) (T := TX4) (N := 13) hx hb hts hin0 hown hK hP 0 rfl rfl 7 (by decide) fl_27 (fun _ h9 => h9) rfl dX4_changes_31 ?_
      refine lv_iload_n hx hb dX4_changes_34 rfl (lv_at hl 2 rfl) ?_
      have z5 := hw.1
      have hw := hw.2
      refine va_iald hx hb hK hP 2 1 rfl rfl z5 dX4_changes_35 ?_
      refine lv_if_ne (tgt := 43) hx hb dX4_changes_36 (by decide) (fun c6 => ?_) (fun c6 => ?_)
      · have hw := hw.1 c6
        refine lv_iconst (v := (0 : Int32)) hx hb dX4_changes_43 (by decide) ?_
        refine lv_istore_n (lv' := [(3, .int (0 : Int32)), (0, .ref h0), (1, .int p0), (2, .int p1)]) hx hb dX4_changes_44 rfl hl (by decide) rfl (fun ls hl => ?_)
        refine lv_iload_n hx hb dX4_changes_45 rfl (lv_at hl 0 rfl) ?_
        refine lv_if_eq (tgt := 87) hx hb dX4_changes_46 (by decide) (fun _ => ?_) (fun cz => absurd cz (by decide))
        refine lv_iload_n hx hb dX4_changes_87 rfl (lv_at hl 0 rfl) ?_
        exact W.zret (v := (0 : Int32)) hx hb hr (nb_nar nb_0) (fun t ht hW => ⟨⟨(0 : Int32), ((cl4 h0 w0 so be cJ cI σ)), rfl, ⟨σ, hw, rfl⟩, by rw [ht]; exact hP, va_K.moved hW.alike hK, hD⟩, hS.F ht⟩) hS.2.2 dX4_changes_88
      · have hw := hw.2 c6
        refine lv_iconst (v := (1 : Int32)) hx hb dX4_changes_39 (by decide) ?_
        refine lv_goto (tgt := 44) hx hb dX4_changes_40 (by decide) ?_
        refine lv_istore_n (lv' := [(3, .int (1 : Int32)), (0, .ref h0), (1, .int p0), (2, .int p1)]) hx hb dX4_changes_44 rfl hl (by decide) rfl (fun ls hl => ?_)
        refine lv_iload_n hx hb dX4_changes_45 rfl (lv_at hl 0 rfl) ?_
        refine lv_if_eq (tgt := 87) hx hb dX4_changes_46 (by decide) (fun cz => absurd cz (by decide)) (fun _ => ?_)
        refine lv_aload_n hx hb dX4_changes_49 rfl (lv_at hl 1 rfl) ?_
        refine va_get (D := (dC, dI)) (ci := 3) (v := .ref so) (C := RX4) (T := TX4) (N := 13) hx hb hts hin0 hown hK hP 0 rfl rfl 7 (by decide) fl_27 (fun _ h9 => h9) rfl dX4_changes_50 ?_
        refine lv_iload_n hx hb dX4_changes_53 rfl (lv_at hl 2 rfl) ?_
        have z7 := hw.1
        have hw := hw.2
        refine va_iald hx hb hK hP 2 1 rfl rfl z7 dX4_changes_54 ?_
        refine lv_istore (lv' := [(4, .int (σ.2.2.2.2.2.2.2.1 p0.toNatClampNeg)), (3, .int (1 : Int32)), (0, .ref h0), (1, .int p0), (2, .int p1)]) hx hb dX4_changes_55 hl (by decide) rfl (fun ls hl => ?_)
        refine lv_aload_n hx hb dX4_changes_57 rfl (lv_at hl 2 rfl) ?_
        refine va_get (D := (dC, dI)) (ci := 3) (v := .ref so) (C := RX4) (T := TX4) (N := 13) hx hb hts hin0 hown hK hP 0 rfl rfl 7 (by decide) fl_27 (fun _ h9 => h9) rfl dX4_changes_58 ?_
        refine lv_iload_n hx hb dX4_changes_61 rfl (lv_at hl 3 rfl) ?_
        refine lv_aload_n hx hb dX4_changes_62 rfl (lv_at hl 2 rfl) ?_
        refine va_get (D := (dC, dI)) (ci := 3) (v := .ref so) (C := RX4) (T := TX4) (N := 13) hx hb hts hin0 hown hK hP 0 rfl rfl 7 (by decide) fl_27 (fun _ h9 => h9) rfl dX4_changes_63 ?_
        refine lv_iload_n hx hb dX4_changes_66 rfl (lv_at hl 4 rfl) ?_
        have z8 := hw.1
        have hw := hw.2
        refine va_iald hx hb hK hP 2 1 rfl rfl z8 dX4_changes_67 ?_
        have z9 := hw.1
        have hw := hw.2
        refine va_iast hx hb hK hP hD hS 2 1 rfl rfl z9 dX4_changes_68 (fun H locs hP hD hS => ?_)
        have hP : va_P (dC, dI) vwCl [(h0, .inr (3, [.int σ.1, .int σ.2.1, .int σ.2.2.1, .ref w0, .int σ.2.2.2.2.1, .int σ.2.2.2.2.2.1, .long σ.2.2.2.2.2.2.1, .ref so, .ref be, .int σ.2.2.2.2.2.2.2.2.2.1, .int σ.2.2.2.2.2.2.2.2.2.2.1, .int σ.2.2.2.2.2.2.2.2.2.2.2.1, .int σ.2.2.2.2.2.2.2.2.2.2.2.2])), (w0, .inl (cJ, 511, .inr (.inl (σ.2.2.2.1)))), (so, .inl (cI, 30, .inl ((upd σ.2.2.2.2.2.2.2.1 p0.toNatClampNeg (σ.2.2.2.2.2.2.2.1 p1.toNatClampNeg))))), (be, .inl (cI, 30, .inl (σ.2.2.2.2.2.2.2.2.1)))] H := hP
        have hD : va_D A [(h0, .inr (3, [.int σ.1, .int σ.2.1, .int σ.2.2.1, .ref w0, .int σ.2.2.2.2.1, .int σ.2.2.2.2.2.1, .long σ.2.2.2.2.2.2.1, .ref so, .ref be, .int σ.2.2.2.2.2.2.2.2.2.1, .int σ.2.2.2.2.2.2.2.2.2.2.1, .int σ.2.2.2.2.2.2.2.2.2.2.2.1, .int σ.2.2.2.2.2.2.2.2.2.2.2.2])), (w0, .inl (cJ, 511, .inr (.inl (σ.2.2.2.1)))), (so, .inl (cI, 30, .inl ((upd σ.2.2.2.2.2.2.2.1 p0.toNatClampNeg (σ.2.2.2.2.2.2.2.1 p1.toNatClampNeg))))), (be, .inl (cI, 30, .inl (σ.2.2.2.2.2.2.2.2.1)))] := hD
        refine lv_aload_n hx hb dX4_changes_69 rfl (lv_at hl 2 rfl) ?_
        refine va_get (D := (dC, dI)) (ci := 3) (v := .ref so) (C := RX4) (T := TX4) (N := 13) hx hb hts hin0 hown hK hP 0 rfl rfl 7 (by decide) fl_27 (fun _ h9 => h9) rfl dX4_changes_70 ?_
        refine lv_iload_n hx hb dX4_changes_73 rfl (lv_at hl 4 rfl) ?_
        refine lv_iload hx hb dX4_changes_74 (lv_at hl 0 rfl) ?_
        have z10 := hw.1
        have hw := hw.2
        refine va_iast hx hb hK hP hD hS 2 1 rfl rfl z10 dX4_changes_76 (fun H locs hP hD hS => ?_)
        have hP : va_P (dC, dI) vwCl [(h0, .inr (3, [.int σ.1, .int σ.2.1, .int σ.2.2.1, .ref w0, .int σ.2.2.2.2.1, .int σ.2.2.2.2.2.1, .long σ.2.2.2.2.2.2.1, .ref so, .ref be, .int σ.2.2.2.2.2.2.2.2.2.1, .int σ.2.2.2.2.2.2.2.2.2.2.1, .int σ.2.2.2.2.2.2.2.2.2.2.2.1, .int σ.2.2.2.2.2.2.2.2.2.2.2.2])), (w0, .inl (cJ, 511, .inr (.inl (σ.2.2.2.1)))), (so, .inl (cI, 30, .inl ((upd (upd σ.2.2.2.2.2.2.2.1 p0.toNatClampNeg (σ.2.2.2.2.2.2.2.1 p1.toNatClampNeg)) p1.toNatClampNeg (σ.2.2.2.2.2.2.2.1 p0.toNatClampNeg))))), (be, .inl (cI, 30, .inl (σ.2.2.2.2.2.2.2.2.1)))] H := hP
        have hD : va_D A [(h0, .inr (3, [.int σ.1, .int σ.2.1, .int σ.2.2.1, .ref w0, .int σ.2.2.2.2.1, .int σ.2.2.2.2.2.1, .long σ.2.2.2.2.2.2.1, .ref so, .ref be, .int σ.2.2.2.2.2.2.2.2.2.1, .int σ.2.2.2.2.2.2.2.2.2.2.1, .int σ.2.2.2.2.2.2.2.2.2.2.2.1, .int σ.2.2.2.2.2.2.2.2.2.2.2.2])), (w0, .inl (cJ, 511, .inr (.inl (σ.2.2.2.1)))), (so, .inl (cI, 30, .inl ((upd (upd σ.2.2.2.2.2.2.2.1 p0.toNatClampNeg (σ.2.2.2.2.2.2.2.1 p1.toNatClampNeg)) p1.toNatClampNeg (σ.2.2.2.2.2.2.2.1 p0.toNatClampNeg))))), (be, .inl (cI, 30, .inl (σ.2.2.2.2.2.2.2.2.1)))] := hD
        refine lv_aload_n hx hb dX4_changes_77 rfl (lv_at hl 2 rfl) ?_
        refine lv_dup hx hb dX4_changes_78 rfl ?_
        refine va_get (D := (dC, dI)) (ci := 3) (v := .int σ.2.2.2.2.2.2.2.2.2.2.2.1) (C := RX4) (T := TX4) (N := 13) hx hb hts hin0 hown hK hP 0 rfl rfl 11 (by decide) fl_96 (fun _ h9 => h9) rfl dX4_changes_79 ?_
        refine lv_iconst (v := (1 : Int32)) hx hb dX4_changes_82 (by decide) ?_
        refine lv_iadd hx hb dX4_changes_83 ?_
        refine va_put (D := (dC, dI)) (ci := 3) (v := .int (σ.2.2.2.2.2.2.2.2.2.2.2.1 + (1 : Int32))) (ty := .int) (C := RX4) (T := TX4) (N := 13) hx hb hts hin0 tyX4 tyX4_ok nmX4 hown hK hP hD hS 0 rfl rfl 11 (by decide) fl_96 (fun _ h9 => h9) rfl (by decide +kernel) rfl rfl (Nat.le_of_ble_eq_true rfl) dX4_changes_84 (fun H locs hP hD hS => ?_)
        have hP : va_P (dC, dI) vwCl [(h0, .inr (3, [.int σ.1, .int σ.2.1, .int σ.2.2.1, .ref w0, .int σ.2.2.2.2.1, .int σ.2.2.2.2.2.1, .long σ.2.2.2.2.2.2.1, .ref so, .ref be, .int σ.2.2.2.2.2.2.2.2.2.1, .int σ.2.2.2.2.2.2.2.2.2.2.1, .int (σ.2.2.2.2.2.2.2.2.2.2.2.1 + (1 : Int32)), .int σ.2.2.2.2.2.2.2.2.2.2.2.2])), (w0, .inl (cJ, 511, .inr (.inl (σ.2.2.2.1)))), (so, .inl (cI, 30, .inl ((upd (upd σ.2.2.2.2.2.2.2.1 p0.toNatClampNeg (σ.2.2.2.2.2.2.2.1 p1.toNatClampNeg)) p1.toNatClampNeg (σ.2.2.2.2.2.2.2.1 p0.toNatClampNeg))))), (be, .inl (cI, 30, .inl (σ.2.2.2.2.2.2.2.2.1)))] H := hP
        have hD : va_D A [(h0, .inr (3, [.int σ.1, .int σ.2.1, .int σ.2.2.1, .ref w0, .int σ.2.2.2.2.1, .int σ.2.2.2.2.2.1, .long σ.2.2.2.2.2.2.1, .ref so, .ref be, .int σ.2.2.2.2.2.2.2.2.2.1, .int σ.2.2.2.2.2.2.2.2.2.2.1, .int (σ.2.2.2.2.2.2.2.2.2.2.2.1 + (1 : Int32)), .int σ.2.2.2.2.2.2.2.2.2.2.2.2])), (w0, .inl (cJ, 511, .inr (.inl (σ.2.2.2.1)))), (so, .inl (cI, 30, .inl ((upd (upd σ.2.2.2.2.2.2.2.1 p0.toNatClampNeg (σ.2.2.2.2.2.2.2.1 p1.toNatClampNeg)) p1.toNatClampNeg (σ.2.2.2.2.2.2.2.1 p0.toNatClampNeg))))), (be, .inl (cI, 30, .inl (σ.2.2.2.2.2.2.2.2.1)))] := hD
        refine lv_iload_n hx hb dX4_changes_87 rfl (lv_at hl 1 rfl) ?_
        exact W.zret (v := (1 : Int32)) hx hb hr (nb_nar nb_1) (fun t ht hW => ⟨⟨(1 : Int32), ((cl4 h0 w0 so be cJ cI (σ.1, σ.2.1, σ.2.2.1, σ.2.2.2.1, σ.2.2.2.2.1, σ.2.2.2.2.2.1, σ.2.2.2.2.2.2.1, (upd (upd σ.2.2.2.2.2.2.2.1 p0.toNatClampNeg (σ.2.2.2.2.2.2.2.1 p1.toNatClampNeg)) p1.toNatClampNeg (σ.2.2.2.2.2.2.2.1 p0.toNatClampNeg)), σ.2.2.2.2.2.2.2.2.1, σ.2.2.2.2.2.2.2.2.2.1, σ.2.2.2.2.2.2.2.2.2.2.1, (σ.2.2.2.2.2.2.2.2.2.2.2.1 + (1 : Int32)), σ.2.2.2.2.2.2.2.2.2.2.2.2))), rfl, ⟨(σ.1, σ.2.1, σ.2.2.1, σ.2.2.2.1, σ.2.2.2.2.1, σ.2.2.2.2.2.1, σ.2.2.2.2.2.2.1, (upd (upd σ.2.2.2.2.2.2.2.1 p0.toNatClampNeg (σ.2.2.2.2.2.2.2.1 p1.toNatClampNeg)) p1.toNatClampNeg (σ.2.2.2.2.2.2.2.1 p0.toNatClampNeg)), σ.2.2.2.2.2.2.2.2.1, σ.2.2.2.2.2.2.2.2.2.1, σ.2.2.2.2.2.2.2.2.2.2.1, (σ.2.2.2.2.2.2.2.2.2.2.2.1 + (1 : Int32)), σ.2.2.2.2.2.2.2.2.2.2.2.2), hw, rfl⟩, by rw [ht]; exact hP, va_K.moved hW.alike hK, hD⟩, hS.F ht⟩) hS.2.2 dX4_changes_88
  · have hw := hw.2 c2
    refine lv_aload_n hx hb dX4_changes_10 rfl (lv_at hl 0 rfl) ?_
    refine va_get (D := (dC, dI)) (ci := 3) (v := .ref so) (C := RX4) (T := TX4) (N := 13) hx hb hts hin0 hown hK hP 0 rfl rfl 7 (by decide) fl_27 (fun _ h9 => h9) rfl dX4_changes_11 ?_
    refine lv_iload_n hx hb dX4_changes_14 rfl (lv_at hl 2 rfl) ?_
    have z11 := hw.1
    have hw := hw.2
    refine va_iald hx hb hK hP 2 1 rfl rfl z11 dX4_changes_15 ?_
    refine lv_iconst (v := (1 : Int32)) hx hb dX4_changes_16 (by decide) ?_
    refine lv_icmp_ne (tgt := 39) hx hb dX4_changes_17 (by decide) (fun c12 => ?_) (fun c12 => ?_)
    · have hw := hw.1 c12
      refine lv_iconst (v := (1 : Int32)) hx hb dX4_changes_39 (by decide) ?_
      refine lv_goto (tgt := 44) hx hb dX4_changes_40 (by decide) ?_
      refine lv_istore_n (lv' := [(3, .int (1 : Int32)), (0, .ref h0), (1, .int p0), (2, .int p1)]) hx hb dX4_changes_44 rfl hl (by decide) rfl (fun ls hl => ?_)
      refine lv_iload_n hx hb dX4_changes_45 rfl (lv_at hl 0 rfl) ?_
      refine lv_if_eq (tgt := 87) hx hb dX4_changes_46 (by decide) (fun cz => absurd cz (by decide)) (fun _ => ?_)
      refine lv_aload_n hx hb dX4_changes_49 rfl (lv_at hl 1 rfl) ?_
      refine va_get (D := (dC, dI)) (ci := 3) (v := .ref so) (C := RX4) (T := TX4) (N := 13) hx hb hts hin0 hown hK hP 0 rfl rfl 7 (by decide) fl_27 (fun _ h9 => h9) rfl dX4_changes_50 ?_
      refine lv_iload_n hx hb dX4_changes_53 rfl (lv_at hl 2 rfl) ?_
      have z13 := hw.1
      have hw := hw.2
      refine va_iald hx hb hK hP 2 1 rfl rfl z13 dX4_changes_54 ?_
      refine lv_istore (lv' := [(4, .int (σ.2.2.2.2.2.2.2.1 p0.toNatClampNeg)), (3, .int (1 : Int32)), (0, .ref h0), (1, .int p0), (2, .int p1)]) hx hb dX4_changes_55 hl (by decide) rfl (fun ls hl => ?_)
      refine lv_aload_n hx hb dX4_changes_57 rfl (lv_at hl 2 rfl) ?_
      refine va_get (D := (dC, dI)) (ci := 3) (v := .ref so) (C := RX4) (T := TX4) (N := 13) hx hb hts hin0 hown hK hP 0 rfl rfl 7 (by decide) fl_27 (fun _ h9 => h9) rfl dX4_changes_58 ?_
      refine lv_iload_n hx hb dX4_changes_61 rfl (lv_at hl 3 rfl) ?_
      refine lv_aload_n hx hb dX4_changes_62 rfl (lv_at hl 2 rfl) ?_
      refine va_get (D := (dC, dI)) (ci := 3) (v := .ref so) (C := RX4) (T := TX4) (N := 13) hx hb hts hin0 hown hK hP 0 rfl rfl 7 (by decide) fl_27 (fun _ h9 => h9) rfl dX4_changes_63 ?_
      refine lv_iload_n hx hb dX4_changes_66 rfl (lv_at hl 4 rfl) ?_
      have z14 := hw.1
      have hw := hw.2
      refine va_iald hx hb hK hP 2 1 rfl rfl z14 dX4_changes_67 ?_
      have z15 := hw.1
      have hw := hw.2
      refine va_iast hx hb hK hP hD hS 2 1 rfl rfl z15 dX4_changes_68 (fun H locs hP hD hS => ?_)
      have hP : va_P (dC, dI) vwCl [(h0, .inr (3, [.int σ.1, .int σ.2.1, .int σ.2.2.1, .ref w0, .int σ.2.2.2.2.1, .int σ.2.2.2.2.2.1, .long σ.2.2.2.2.2.2.1, .ref so, .ref be, .int σ.2.2.2.2.2.2.2.2.2.1, .int σ.2.2.2.2.2.2.2.2.2.2.1, .int σ.2.2.2.2.2.2.2.2.2.2.2.1, .int σ.2.2.2.2.2.2.2.2.2.2.2.2])), (w0, .inl (cJ, 511, .inr (.inl (σ.2.2.2.1)))), (so, .inl (cI, 30, .inl ((upd σ.2.2.2.2.2.2.2.1 p0.toNatClampNeg (σ.2.2.2.2.2.2.2.1 p1.toNatClampNeg))))), (be, .inl (cI, 30, .inl (σ.2.2.2.2.2.2.2.2.1)))] H := hP
      have hD : va_D A [(h0, .inr (3, [.int σ.1, .int σ.2.1, .int σ.2.2.1, .ref w0, .int σ.2.2.2.2.1, .int σ.2.2.2.2.2.1, .long σ.2.2.2.2.2.2.1, .ref so, .ref be, .int σ.2.2.2.2.2.2.2.2.2.1, .int σ.2.2.2.2.2.2.2.2.2.2.1, .int σ.2.2.2.2.2.2.2.2.2.2.2.1, .int σ.2.2.2.2.2.2.2.2.2.2.2.2])), (w0, .inl (cJ, 511, .inr (.inl (σ.2.2.2.1)))), (so, .inl (cI, 30, .inl ((upd σ.2.2.2.2.2.2.2.1 p0.toNatClampNeg (σ.2.2.2.2.2.2.2.1 p1.toNatClampNeg))))), (be, .inl (cI, 30, .inl (σ.2.2.2.2.2.2.2.2.1)))] := hD
      refine lv_aload_n hx hb dX4_changes_69 rfl (lv_at hl 2 rfl) ?_
      refine va_get (D := (dC, dI)) (ci := 3) (v := .ref so) (C := RX4) (T := TX4) (N := 13) hx hb hts hin0 hown hK hP 0 rfl rfl 7 (by decide) fl_27 (fun _ h9 => h9) rfl dX4_changes_70 ?_
      refine lv_iload_n hx hb dX4_changes_73 rfl (lv_at hl 4 rfl) ?_
      refine lv_iload hx hb dX4_changes_74 (lv_at hl 0 rfl) ?_
      have z16 := hw.1
      have hw := hw.2
      refine va_iast hx hb hK hP hD hS 2 1 rfl rfl z16 dX4_changes_76 (fun H locs hP hD hS => ?_)
      have hP : va_P (dC, dI) vwCl [(h0, .inr (3, [.int σ.1, .int σ.2.1, .int σ.2.2.1, .ref w0, .int σ.2.2.2.2.1, .int σ.2.2.2.2.2.1, .long σ.2.2.2.2.2.2.1, .ref so, .ref be, .int σ.2.2.2.2.2.2.2.2.2.1, .int σ.2.2.2.2.2.2.2.2.2.2.1, .int σ.2.2.2.2.2.2.2.2.2.2.2.1, .int σ.2.2.2.2.2.2.2.2.2.2.2.2])), (w0, .inl (cJ, 511, .inr (.inl (σ.2.2.2.1)))), (so, .inl (cI, 30, .inl ((upd (upd σ.2.2.2.2.2.2.2.1 p0.toNatClampNeg (σ.2.2.2.2.2.2.2.1 p1.toNatClampNeg)) p1.toNatClampNeg (σ.2.2.2.2.2.2.2.1 p0.toNatClampNeg))))), (be, .inl (cI, 30, .inl (σ.2.2.2.2.2.2.2.2.1)))] H := hP
      have hD : va_D A [(h0, .inr (3, [.int σ.1, .int σ.2.1, .int σ.2.2.1, .ref w0, .int σ.2.2.2.2.1, .int σ.2.2.2.2.2.1, .long σ.2.2.2.2.2.2.1, .ref so, .ref be, .int σ.2.2.2.2.2.2.2.2.2.1, .int σ.2.2.2.2.2.2.2.2.2.2.1, .int σ.2.2.2.2.2.2.2.2.2.2.2.1, .int σ.2.2.2.2.2.2.2.2.2.2.2.2])), (w0, .inl (cJ, 511, .inr (.inl (σ.2.2.2.1)))), (so, .inl (cI, 30, .inl ((upd (upd σ.2.2.2.2.2.2.2.1 p0.toNatClampNeg (σ.2.2.2.2.2.2.2.1 p1.toNatClampNeg)) p1.toNatClampNeg (σ.2.2.2.2.2.2.2.1 p0.toNatClampNeg))))), (be, .inl (cI, 30, .inl (σ.2.2.2.2.2.2.2.2.1)))] := hD
      refine lv_aload_n hx hb dX4_changes_77 rfl (lv_at hl 2 rfl) ?_
      refine lv_dup hx hb dX4_changes_78 rfl ?_
      refine va_get (D := (dC, dI)) (ci := 3) (v := .int σ.2.2.2.2.2.2.2.2.2.2.2.1) (C := RX4) (T := TX4) (N := 13) hx hb hts hin0 hown hK hP 0 rfl rfl 11 (by decide) fl_96 (fun _ h9 => h9) rfl dX4_changes_79 ?_
      refine lv_iconst (v := (1 : Int32)) hx hb dX4_changes_82 (by decide) ?_
      refine lv_iadd hx hb dX4_changes_83 ?_
      refine va_put (D := (dC, dI)) (ci := 3) (v := .int (σ.2.2.2.2.2.2.2.2.2.2.2.1 + (1 : Int32))) (ty := .int) (C := RX4) (T := TX4) (N := 13) hx hb hts hin0 tyX4 tyX4_ok nmX4 hown hK hP hD hS 0 rfl rfl 11 (by decide) fl_96 (fun _ h9 => h9) rfl (by decide +kernel) rfl rfl (Nat.le_of_ble_eq_true rfl) dX4_changes_84 (fun H locs hP hD hS => ?_)
      have hP : va_P (dC, dI) vwCl [(h0, .inr (3, [.int σ.1, .int σ.2.1, .int σ.2.2.1, .ref w0, .int σ.2.2.2.2.1, .int σ.2.2.2.2.2.1, .long σ.2.2.2.2.2.2.1, .ref so, .ref be, .int σ.2.2.2.2.2.2.2.2.2.1, .int σ.2.2.2.2.2.2.2.2.2.2.1, .int (σ.2.2.2.2.2.2.2.2.2.2.2.1 + (1 : Int32)), .int σ.2.2.2.2.2.2.2.2.2.2.2.2])), (w0, .inl (cJ, 511, .inr (.inl (σ.2.2.2.1)))), (so, .inl (cI, 30, .inl ((upd (upd σ.2.2.2.2.2.2.2.1 p0.toNatClampNeg (σ.2.2.2.2.2.2.2.1 p1.toNatClampNeg)) p1.toNatClampNeg (σ.2.2.2.2.2.2.2.1 p0.toNatClampNeg))))), (be, .inl (cI, 30, .inl (σ.2.2.2.2.2.2.2.2.1)))] H := hP
      have hD : va_D A [(h0, .inr (3, [.int σ.1, .int σ.2.1, .int σ.2.2.1, .ref w0, .int σ.2.2.2.2.1, .int σ.2.2.2.2.2.1, .long σ.2.2.2.2.2.2.1, .ref so, .ref be, .int σ.2.2.2.2.2.2.2.2.2.1, .int σ.2.2.2.2.2.2.2.2.2.2.1, .int (σ.2.2.2.2.2.2.2.2.2.2.2.1 + (1 : Int32)), .int σ.2.2.2.2.2.2.2.2.2.2.2.2])), (w0, .inl (cJ, 511, .inr (.inl (σ.2.2.2.1)))), (so, .inl (cI, 30, .inl ((upd (upd σ.2.2.2.2.2.2.2.1 p0.toNatClampNeg (σ.2.2.2.2.2.2.2.1 p1.toNatClampNeg)) p1.toNatClampNeg (σ.2.2.2.2.2.2.2.1 p0.toNatClampNeg))))), (be, .inl (cI, 30, .inl (σ.2.2.2.2.2.2.2.2.1)))] := hD
      refine lv_iload_n hx hb dX4_changes_87 rfl (lv_at hl 1 rfl) ?_
      exact W.zret (v := (1 : Int32)) hx hb hr (nb_nar nb_1) (fun t ht hW => ⟨⟨(1 : Int32), ((cl4 h0 w0 so be cJ cI (σ.1, σ.2.1, σ.2.2.1, σ.2.2.2.1, σ.2.2.2.2.1, σ.2.2.2.2.2.1, σ.2.2.2.2.2.2.1, (upd (upd σ.2.2.2.2.2.2.2.1 p0.toNatClampNeg (σ.2.2.2.2.2.2.2.1 p1.toNatClampNeg)) p1.toNatClampNeg (σ.2.2.2.2.2.2.2.1 p0.toNatClampNeg)), σ.2.2.2.2.2.2.2.2.1, σ.2.2.2.2.2.2.2.2.2.1, σ.2.2.2.2.2.2.2.2.2.2.1, (σ.2.2.2.2.2.2.2.2.2.2.2.1 + (1 : Int32)), σ.2.2.2.2.2.2.2.2.2.2.2.2))), rfl, ⟨(σ.1, σ.2.1, σ.2.2.1, σ.2.2.2.1, σ.2.2.2.2.1, σ.2.2.2.2.2.1, σ.2.2.2.2.2.2.1, (upd (upd σ.2.2.2.2.2.2.2.1 p0.toNatClampNeg (σ.2.2.2.2.2.2.2.1 p1.toNatClampNeg)) p1.toNatClampNeg (σ.2.2.2.2.2.2.2.1 p0.toNatClampNeg)), σ.2.2.2.2.2.2.2.2.1, σ.2.2.2.2.2.2.2.2.2.1, σ.2.2.2.2.2.2.2.2.2.2.1, (σ.2.2.2.2.2.2.2.2.2.2.2.1 + (1 : Int32)), σ.2.2.2.2.2.2.2.2.2.2.2.2), hw, rfl⟩, by rw [ht]; exact hP, va_K.moved hW.alike hK, hD⟩, hS.F ht⟩) hS.2.2 dX4_changes_88
    · have hw := hw.2 c12
      refine lv_aload_n hx hb dX4_changes_20 rfl (lv_at hl 0 rfl) ?_
      refine va_get (D := (dC, dI)) (ci := 3) (v := .ref so) (C := RX4) (T := TX4) (N := 13) hx hb hts hin0 hown hK hP 0 rfl rfl 7 (by decide) fl_27 (fun _ h9 => h9) rfl dX4_changes_21 ?_
      refine lv_iload_n hx hb dX4_changes_24 rfl (lv_at hl 1 rfl) ?_
      have z17 := hw.1
      have hw := hw.2
      refine va_iald hx hb hK hP 2 1 rfl rfl z17 dX4_changes_25 ?_
      refine lv_iconst (v := (2 : Int32)) hx hb dX4_changes_26 (by decide) ?_
      refine lv_icmp_ne (tgt := 43) hx hb dX4_changes_27 (by decide) (fun c18 => ?_) (fun c18 => ?_)
      · have hw := hw.1 c18
        refine lv_iconst (v := (0 : Int32)) hx hb dX4_changes_43 (by decide) ?_
        refine lv_istore_n (lv' := [(3, .int (0 : Int32)), (0, .ref h0), (1, .int p0), (2, .int p1)]) hx hb dX4_changes_44 rfl hl (by decide) rfl (fun ls hl => ?_)
        refine lv_iload_n hx hb dX4_changes_45 rfl (lv_at hl 0 rfl) ?_
        refine lv_if_eq (tgt := 87) hx hb dX4_changes_46 (by decide) (fun _ => ?_) (fun cz => absurd cz (by decide))
        refine lv_iload_n hx hb dX4_changes_87 rfl (lv_at hl 0 rfl) ?_
        exact W.zret (v := (0 : Int32)) hx hb hr (nb_nar nb_0) (fun t ht hW => ⟨⟨(0 : Int32), ((cl4 h0 w0 so be cJ cI σ)), rfl, ⟨σ, hw, rfl⟩, by rw [ht]; exact hP, va_K.moved hW.alike hK, hD⟩, hS.F ht⟩) hS.2.2 dX4_changes_88
      · have hw := hw.2 c18
        refine lv_aload_n hx hb dX4_changes_30 rfl (lv_at hl 0 rfl) ?_
        refine va_get (D := (dC, dI)) (ci := 3) (v := .ref so) (C := RX4) (T := TX4) (N := 13) hx hb hts hin0 hown hK hP 0 rfl rfl 7 (by decide) fl_27 (fun _ h9 => h9) rfl dX4_changes_31 ?_
        refine lv_iload_n hx hb dX4_changes_34 rfl (lv_at hl 2 rfl) ?_
        have z19 := hw.1
        have hw := hw.2
        refine va_iald hx hb hK hP 2 1 rfl rfl z19 dX4_changes_35 ?_
        refine lv_if_ne (tgt := 43) hx hb dX4_changes_36 (by decide) (fun c20 => ?_) (fun c20 => ?_)
        · have hw := hw.1 c20
          refine lv_iconst (v := (0 : Int32)) hx hb dX4_changes_43 (by decide) ?_
          refine lv_istore_n (lv' := [(3, .int (0 : Int32)), (0, .ref h0), (1, .int p0), (2, .int p1)]) hx hb dX4_changes_44 rfl hl (by decide) rfl (fun ls hl => ?_)
          refine lv_iload_n hx hb dX4_changes_45 rfl (lv_at hl 0 rfl) ?_
          refine lv_if_eq (tgt := 87) hx hb dX4_changes_46 (by decide) (fun _ => ?_) (fun cz => absurd cz (by decide))
          refine lv_iload_n hx hb dX4_changes_87 rfl (lv_at hl 0 rfl) ?_
          exact W.zret (v := (0 : Int32)) hx hb hr (nb_nar nb_0) (fun t ht hW => ⟨⟨(0 : Int32), ((cl4 h0 w0 so be cJ cI σ)), rfl, ⟨σ, hw, rfl⟩, by rw [ht]; exact hP, va_K.moved hW.alike hK, hD⟩, hS.F ht⟩) hS.2.2 dX4_changes_88
        · have hw := hw.2 c20
          refine lv_iconst (v := (1 : Int32)) hx hb dX4_changes_39 (by decide) ?_
          refine lv_goto (tgt := 44) hx hb dX4_changes_40 (by decide) ?_
          refine lv_istore_n (lv' := [(3, .int (1 : Int32)), (0, .ref h0), (1, .int p0), (2, .int p1)]) hx hb dX4_changes_44 rfl hl (by decide) rfl (fun ls hl => ?_)
          refine lv_iload_n hx hb dX4_changes_45 rfl (lv_at hl 0 rfl) ?_
          refine lv_if_eq (tgt := 87) hx hb dX4_changes_46 (by decide) (fun cz => absurd cz (by decide)) (fun _ => ?_)
          refine lv_aload_n hx hb dX4_changes_49 rfl (lv_at hl 1 rfl) ?_
          refine va_get (D := (dC, dI)) (ci := 3) (v := .ref so) (C := RX4) (T := TX4) (N := 13) hx hb hts hin0 hown hK hP 0 rfl rfl 7 (by decide) fl_27 (fun _ h9 => h9) rfl dX4_changes_50 ?_
          refine lv_iload_n hx hb dX4_changes_53 rfl (lv_at hl 2 rfl) ?_
          have z21 := hw.1
          have hw := hw.2
          refine va_iald hx hb hK hP 2 1 rfl rfl z21 dX4_changes_54 ?_
          refine lv_istore (lv' := [(4, .int (σ.2.2.2.2.2.2.2.1 p0.toNatClampNeg)), (3, .int (1 : Int32)), (0, .ref h0), (1, .int p0), (2, .int p1)]) hx hb dX4_changes_55 hl (by decide) rfl (fun ls hl => ?_)
          refine lv_aload_n hx hb dX4_changes_57 rfl (lv_at hl 2 rfl) ?_
          refine va_get (D := (dC, dI)) (ci := 3) (v := .ref so) (C := RX4) (T := TX4) (N := 13) hx hb hts hin0 hown hK hP 0 rfl rfl 7 (by decide) fl_27 (fun _ h9 => h9) rfl dX4_changes_58 ?_
          refine lv_iload_n hx hb dX4_changes_61 rfl (lv_at hl 3 rfl) ?_
          refine lv_aload_n hx hb dX4_changes_62 rfl (lv_at hl 2 rfl) ?_
          refine va_get (D := (dC, dI)) (ci := 3) (v := .ref so) (C := RX4) (T := TX4) (N := 13) hx hb hts hin0 hown hK hP 0 rfl rfl 7 (by decide) fl_27 (fun _ h9 => h9) rfl dX4_changes_63 ?_
          refine lv_iload_n hx hb dX4_changes_66 rfl (lv_at hl 4 rfl) ?_
          have z22 := hw.1
          have hw := hw.2
          refine va_iald hx hb hK hP 2 1 rfl rfl z22 dX4_changes_67 ?_
          have z23 := hw.1
          have hw := hw.2
          refine va_iast hx hb hK hP hD hS 2 1 rfl rfl z23 dX4_changes_68 (fun H locs hP hD hS => ?_)
          have hP : va_P (dC, dI) vwCl [(h0, .inr (3, [.int σ.1, .int σ.2.1, .int σ.2.2.1, .ref w0, .int σ.2.2.2.2.1, .int σ.2.2.2.2.2.1, .long σ.2.2.2.2.2.2.1, .ref so, .ref be, .int σ.2.2.2.2.2.2.2.2.2.1, .int σ.2.2.2.2.2.2.2.2.2.2.1, .int σ.2.2.2.2.2.2.2.2.2.2.2.1, .int σ.2.2.2.2.2.2.2.2.2.2.2.2])), (w0, .inl (cJ, 511, .inr (.inl (σ.2.2.2.1)))), (so, .inl (cI, 30, .inl ((upd σ.2.2.2.2.2.2.2.1 p0.toNatClampNeg (σ.2.2.2.2.2.2.2.1 p1.toNatClampNeg))))), (be, .inl (cI, 30, .inl (σ.2.2.2.2.2.2.2.2.1)))] H := hP
          have hD : va_D A [(h0, .inr (3, [.int σ.1, .int σ.2.1, .int σ.2.2.1, .ref w0, .int σ.2.2.2.2.1, .int σ.2.2.2.2.2.1, .long σ.2.2.2.2.2.2.1, .ref so, .ref be, .int σ.2.2.2.2.2.2.2.2.2.1, .int σ.2.2.2.2.2.2.2.2.2.2.1, .int σ.2.2.2.2.2.2.2.2.2.2.2.1, .int σ.2.2.2.2.2.2.2.2.2.2.2.2])), (w0, .inl (cJ, 511, .inr (.inl (σ.2.2.2.1)))), (so, .inl (cI, 30, .inl ((upd σ.2.2.2.2.2.2.2.1 p0.toNatClampNeg (σ.2.2.2.2.2.2.2.1 p1.toNatClampNeg))))), (be, .inl (cI, 30, .inl (σ.2.2.2.2.2.2.2.2.1)))] := hD
          refine lv_aload_n hx hb dX4_changes_69 rfl (lv_at hl 2 rfl) ?_
          refine va_get (D := (dC, dI)) (ci := 3) (v := .ref so) (C := RX4) (T := TX4) (N := 13) hx hb hts hin0 hown hK hP 0 rfl rfl 7 (by decide) fl_27 (fun _ h9 => h9) rfl dX4_changes_70 ?_
          refine lv_iload_n hx hb dX4_changes_73 rfl (lv_at hl 4 rfl) ?_
          refine lv_iload hx hb dX4_changes_74 (lv_at hl 0 rfl) ?_
          have z24 := hw.1
          have hw := hw.2
          refine va_iast hx hb hK hP hD hS 2 1 rfl rfl z24 dX4_changes_76 (fun H locs hP hD hS => ?_)
          have hP : va_P (dC, dI) vwCl [(h0, .inr (3, [.int σ.1, .int σ.2.1, .int σ.2.2.1, .ref w0, .int σ.2.2.2.2.1, .int σ.2.2.2.2.2.1, .long σ.2.2.2.2.2.2.1, .ref so, .ref be, .int σ.2.2.2.2.2.2.2.2.2.1, .int σ.2.2.2.2.2.2.2.2.2.2.1, .int σ.2.2.2.2.2.2.2.2.2.2.2.1, .int σ.2.2.2.2.2.2.2.2.2.2.2.2])), (w0, .inl (cJ, 511, .inr (.inl (σ.2.2.2.1)))), (so, .inl (cI, 30, .inl ((upd (upd σ.2.2.2.2.2.2.2.1 p0.toNatClampNeg (σ.2.2.2.2.2.2.2.1 p1.toNatClampNeg)) p1.toNatClampNeg (σ.2.2.2.2.2.2.2.1 p0.toNatClampNeg))))), (be, .inl (cI, 30, .inl (σ.2.2.2.2.2.2.2.2.1)))] H := hP
          have hD : va_D A [(h0, .inr (3, [.int σ.1, .int σ.2.1, .int σ.2.2.1, .ref w0, .int σ.2.2.2.2.1, .int σ.2.2.2.2.2.1, .long σ.2.2.2.2.2.2.1, .ref so, .ref be, .int σ.2.2.2.2.2.2.2.2.2.1, .int σ.2.2.2.2.2.2.2.2.2.2.1, .int σ.2.2.2.2.2.2.2.2.2.2.2.1, .int σ.2.2.2.2.2.2.2.2.2.2.2.2])), (w0, .inl (cJ, 511, .inr (.inl (σ.2.2.2.1)))), (so, .inl (cI, 30, .inl ((upd (upd σ.2.2.2.2.2.2.2.1 p0.toNatClampNeg (σ.2.2.2.2.2.2.2.1 p1.toNatClampNeg)) p1.toNatClampNeg (σ.2.2.2.2.2.2.2.1 p0.toNatClampNeg))))), (be, .inl (cI, 30, .inl (σ.2.2.2.2.2.2.2.2.1)))] := hD
          refine lv_aload_n hx hb dX4_changes_77 rfl (lv_at hl 2 rfl) ?_
          refine lv_dup hx hb dX4_changes_78 rfl ?_
          refine va_get (D := (dC, dI)) (ci := 3) (v := .int σ.2.2.2.2.2.2.2.2.2.2.2.1) (C := RX4) (T := TX4) (N := 13) hx hb hts hin0 hown hK hP 0 rfl rfl 11 (by decide) fl_96 (fun _ h9 => h9) rfl dX4_changes_79 ?_
          refine lv_iconst (v := (1 : Int32)) hx hb dX4_changes_82 (by decide) ?_
          refine lv_iadd hx hb dX4_changes_83 ?_
          refine va_put (D := (dC, dI)) (ci := 3) (v := .int (σ.2.2.2.2.2.2.2.2.2.2.2.1 + (1 : Int32))) (ty := .int) (C := RX4) (T := TX4) (N := 13) hx hb hts hin0 tyX4 tyX4_ok nmX4 hown hK hP hD hS 0 rfl rfl 11 (by decide) fl_96 (fun _ h9 => h9) rfl (by decide +kernel) rfl rfl (Nat.le_of_ble_eq_true rfl) dX4_changes_84 (fun H locs hP hD hS => ?_)
          have hP : va_P (dC, dI) vwCl [(h0, .inr (3, [.int σ.1, .int σ.2.1, .int σ.2.2.1, .ref w0, .int σ.2.2.2.2.1, .int σ.2.2.2.2.2.1, .long σ.2.2.2.2.2.2.1, .ref so, .ref be, .int σ.2.2.2.2.2.2.2.2.2.1, .int σ.2.2.2.2.2.2.2.2.2.2.1, .int (σ.2.2.2.2.2.2.2.2.2.2.2.1 + (1 : Int32)), .int σ.2.2.2.2.2.2.2.2.2.2.2.2])), (w0, .inl (cJ, 511, .inr (.inl (σ.2.2.2.1)))), (so, .inl (cI, 30, .inl ((upd (upd σ.2.2.2.2.2.2.2.1 p0.toNatClampNeg (σ.2.2.2.2.2.2.2.1 p1.toNatClampNeg)) p1.toNatClampNeg (σ.2.2.2.2.2.2.2.1 p0.toNatClampNeg))))), (be, .inl (cI, 30, .inl (σ.2.2.2.2.2.2.2.2.1)))] H := hP
          have hD : va_D A [(h0, .inr (3, [.int σ.1, .int σ.2.1, .int σ.2.2.1, .ref w0, .int σ.2.2.2.2.1, .int σ.2.2.2.2.2.1, .long σ.2.2.2.2.2.2.1, .ref so, .ref be, .int σ.2.2.2.2.2.2.2.2.2.1, .int σ.2.2.2.2.2.2.2.2.2.2.1, .int (σ.2.2.2.2.2.2.2.2.2.2.2.1 + (1 : Int32)), .int σ.2.2.2.2.2.2.2.2.2.2.2.2])), (w0, .inl (cJ, 511, .inr (.inl (σ.2.2.2.1)))), (so, .inl (cI, 30, .inl ((upd (upd σ.2.2.2.2.2.2.2.1 p0.toNatClampNeg (σ.2.2.2.2.2.2.2.1 p1.toNatClampNeg)) p1.toNatClampNeg (σ.2.2.2.2.2.2.2.1 p0.toNatClampNeg))))), (be, .inl (cI, 30, .inl (σ.2.2.2.2.2.2.2.2.1)))] := hD
          refine lv_iload_n hx hb dX4_changes_87 rfl (lv_at hl 1 rfl) ?_
          exact W.zret (v := (1 : Int32)) hx hb hr (nb_nar nb_1) (fun t ht hW => ⟨⟨(1 : Int32), ((cl4 h0 w0 so be cJ cI (σ.1, σ.2.1, σ.2.2.1, σ.2.2.2.1, σ.2.2.2.2.1, σ.2.2.2.2.2.1, σ.2.2.2.2.2.2.1, (upd (upd σ.2.2.2.2.2.2.2.1 p0.toNatClampNeg (σ.2.2.2.2.2.2.2.1 p1.toNatClampNeg)) p1.toNatClampNeg (σ.2.2.2.2.2.2.2.1 p0.toNatClampNeg)), σ.2.2.2.2.2.2.2.2.1, σ.2.2.2.2.2.2.2.2.2.1, σ.2.2.2.2.2.2.2.2.2.2.1, (σ.2.2.2.2.2.2.2.2.2.2.2.1 + (1 : Int32)), σ.2.2.2.2.2.2.2.2.2.2.2.2))), rfl, ⟨(σ.1, σ.2.1, σ.2.2.1, σ.2.2.2.1, σ.2.2.2.2.1, σ.2.2.2.2.2.1, σ.2.2.2.2.2.2.1, (upd (upd σ.2.2.2.2.2.2.2.1 p0.toNatClampNeg (σ.2.2.2.2.2.2.2.1 p1.toNatClampNeg)) p1.toNatClampNeg (σ.2.2.2.2.2.2.2.1 p0.toNatClampNeg)), σ.2.2.2.2.2.2.2.2.1, σ.2.2.2.2.2.2.2.2.2.1, σ.2.2.2.2.2.2.2.2.2.2.1, (σ.2.2.2.2.2.2.2.2.2.2.2.1 + (1 : Int32)), σ.2.2.2.2.2.2.2.2.2.2.2.2), hw, rfl⟩, by rw [ht]; exact hP, va_K.moved hW.alike hK, hD⟩, hS.F ht⟩) hS.2.2 dX4_changes_88
set_option maxHeartbeats 4000000 in
set_option maxRecDepth 100000 in
theorem c_X4_comes (l : Launch) (dC : Nat → ClassId) (dI : Nat → Nat → Nat) (h0 w0 so be : Nat) (cJ : ClassId) (cI : ClassId) (σ : SM)  (post : Int32 → SM → Prop) (hw : wp_X4_comes  σ post) : KI l yX4_comes wsX4_comes ({ frames := 0, cells := 0, slots := 0, locals := 0 } : Room) (dC, dI) [(cJ, .long), (cI, .int)] (cl4 h0 w0 so be cJ cI σ) [.ref h0] (fun r u => ∃ σ', post r σ' ∧ u = (cl4 h0 w0 so be cJ cI (σ'))) := by
  intro sz
  refine Met.ofW (cc := cX4_comes) (maxL := 1) (ret := (some .boolean)) (by decide) rfl ?_
  intro p e s m args below meth c s₁ B hml hv
  obtain ⟨rfl, hsz, hP, hK, hD0, hnw⟩ := hv
  have hx := B.exec
  have hb := B.bytes
  have hr := B.returns
  have hts := atoms_spec (ws := wsX4_comes) B.pre
  have hown : s.vm.findClass RX4 = some m.cls := findClass_of_methodNamed B.named
  have hlocks := B.notSynchronized
  subst hsz
  have hD := hD0.self (sz := s.heap.size)
  generalize hAe : va_A (cl4 h0 w0 so be cJ cI σ) s.heap.size = A at hD ⊢
  have hA : ∀ q : Nat, s.heap.size ≤ q → A q := fun q h => by rw [← hAe]; exact Or.inr h
  have hS : va_S A s.heap s.heap [] := va_S.rf
  have hP : va_P (dC, dI) vwCl [(h0, .inr (3, [.int σ.1, .int σ.2.1, .int σ.2.2.1, .ref w0, .int σ.2.2.2.2.1, .int σ.2.2.2.2.2.1, .long σ.2.2.2.2.2.2.1, .ref so, .ref be, .int σ.2.2.2.2.2.2.2.2.2.1, .int σ.2.2.2.2.2.2.2.2.2.2.1, .int σ.2.2.2.2.2.2.2.2.2.2.2.1, .int σ.2.2.2.2.2.2.2.2.2.2.2.2])), (w0, .inl (cJ, 511, .inr (.inl (σ.2.2.2.1)))), (so, .inl (cI, 30, .inl (σ.2.2.2.2.2.2.2.1))), (be, .inl (cI, 30, .inl (σ.2.2.2.2.2.2.2.2.1)))] s.heap := hP
  have hD : va_D A [(h0, .inr (3, [.int σ.1, .int σ.2.1, .int σ.2.2.1, .ref w0, .int σ.2.2.2.2.1, .int σ.2.2.2.2.2.1, .long σ.2.2.2.2.2.2.1, .ref so, .ref be, .int σ.2.2.2.2.2.2.2.2.2.1, .int σ.2.2.2.2.2.2.2.2.2.2.1, .int σ.2.2.2.2.2.2.2.2.2.2.2.1, .int σ.2.2.2.2.2.2.2.2.2.2.2.2])), (w0, .inl (cJ, 511, .inr (.inl (σ.2.2.2.1)))), (so, .inl (cI, 30, .inl (σ.2.2.2.2.2.2.2.1))), (be, .inl (cI, 30, .inl (σ.2.2.2.2.2.2.2.2.1)))] := hD
  have fl_27 := hts (.fieldLink RX4 27 "OnePlaceEachModel" "sorts" "[I") (by decide +kernel)
  have fl_90 := hts (.fieldLink RX4 90 "OnePlaceEachModel" "ins" "I") (by decide +kernel)
  have fl_93 := hts (.fieldLink RX4 93 "OnePlaceEachModel" "outs" "I") (by decide +kernel)
  have hin0 : ∀ w ∈ wsX40, w ∈ wsX4_comes := by decide +kernel
  have hl := lv_entry ([.ref h0]) (n := 1) (Nat.le_of_ble_eq_true rfl)
  rw [lg_entry_eq]
  generalize (lg_sl ([.ref h0]) ++ List.replicate (1 - (lg_sl ([.ref h0])).length) Slot.unset).toArray = ls at hl ⊢
  have hl : lv_has ls 1 [(0, .ref h0)] := hl
  unfold wp_X4_comes at hw
  skip
  obtain ⟨H, hH⟩ : ∃ H, H = s.heap := ⟨_, rfl⟩
  obtain ⟨locs, hlo⟩ : ∃ q : List Loc, q = [] := ⟨_, rfl⟩
  rw [← hH] at hP
  have hS : va_S A s.heap H locs := by rw [hH, hlo]; exact hS
  suffices hgo : W p l e (headSpec wsX4_comes ({ frames := 0, cells := 0, slots := 0, locals := 0 } : Room)).room s m _ below meth c H locs 0 0 _ (F0 m 0 ls []) by rw [hH, hlo] at hgo; exact hgo
  refine lv_aload_n hx hb dX4_comes_0 rfl (lv_at hl 0 rfl) ?_
  refine va_get (D := (dC, dI)) (ci := 3) (v := .ref so) (C := RX4) (T := TX4) (N := 13) hx hb hts hin0 hown hK hP 0 rfl rfl 7 (by decide) fl_27 (fun _ h9 => h9) rfl dX4_comes_1 ?_
  refine lv_iconst (v := (0 : Int32)) hx hb dX4_comes_4 (by decide) ?_
  have z1 := hw.1
  have hw := hw.2
  refine va_iald hx hb hK hP 2 1 rfl rfl z1 dX4_comes_5 ?_
  refine lv_iconst (v := (1 : Int32)) hx hb dX4_comes_6 (by decide) ?_
  refine lv_icmp_ne (tgt := 12) hx hb dX4_comes_7 (by decide) (fun c2 => ?_) (fun c2 => ?_)
  · have hw := hw.1 c2
    refine lv_aload_n hx hb dX4_comes_12 rfl (lv_at hl 0 rfl) ?_
    refine lv_dup hx hb dX4_comes_13 rfl ?_
    refine va_get (D := (dC, dI)) (ci := 3) (v := .int σ.2.2.2.2.2.2.2.2.2.2.1) (C := RX4) (T := TX4) (N := 13) hx hb hts hin0 hown hK hP 0 rfl rfl 10 (by decide) fl_93 (fun _ h9 => h9) rfl dX4_comes_14 ?_
    refine lv_aload_n hx hb dX4_comes_17 rfl (lv_at hl 0 rfl) ?_
    refine va_get (D := (dC, dI)) (ci := 3) (v := .ref so) (C := RX4) (T := TX4) (N := 13) hx hb hts hin0 hown hK hP 0 rfl rfl 7 (by decide) fl_27 (fun _ h9 => h9) rfl dX4_comes_18 ?_
    refine lv_iconst (v := (0 : Int32)) hx hb dX4_comes_21 (by decide) ?_
    have z3 := hw.1
    have hw := hw.2
    refine va_iald hx hb hK hP 2 1 rfl rfl z3 dX4_comes_22 ?_
    refine lv_iconst (v := (2 : Int32)) hx hb dX4_comes_23 (by decide) ?_
    refine lv_icmp_ne (tgt := 31) hx hb dX4_comes_24 (by decide) (fun c4 => ?_) (fun c4 => ?_)
    · have hw := hw.1 c4
      refine lv_iconst (v := (0 : Int32)) hx hb dX4_comes_31 (by decide) ?_
      refine lv_iadd hx hb dX4_comes_32 ?_
      refine va_put (D := (dC, dI)) (ci := 3) (v := .int (σ.2.2.2.2.2.2.2.2.2.2.1 + (0 : Int32))) (ty := .int) (C := RX4) (T := TX4) (N := 13) hx hb hts hin0 tyX4 tyX4_ok nmX4 hown hK hP hD hS 0 rfl rfl 10 (by decide) fl_93 (fun _ h9 => h9) rfl (by decide +kernel) rfl rfl (Nat.le_of_ble_eq_true rfl) dX4_comes_33 (fun H locs hP hD hS => ?_)
      have hP : va_P (dC, dI) vwCl [(h0, .inr (3, [.int σ.1, .int σ.2.1, .int σ.2.2.1, .ref w0, .int σ.2.2.2.2.1, .int σ.2.2.2.2.2.1, .long σ.2.2.2.2.2.2.1, .ref so, .ref be, .int σ.2.2.2.2.2.2.2.2.2.1, .int (σ.2.2.2.2.2.2.2.2.2.2.1 + (0 : Int32)), .int σ.2.2.2.2.2.2.2.2.2.2.2.1, .int σ.2.2.2.2.2.2.2.2.2.2.2.2])), (w0, .inl (cJ, 511, .inr (.inl (σ.2.2.2.1)))), (so, .inl (cI, 30, .inl (σ.2.2.2.2.2.2.2.1))), (be, .inl (cI, 30, .inl (σ.2.2.2.2.2.2.2.2.1)))] H := hP
      have hD : va_D A [(h0, .inr (3, [.int σ.1, .int σ.2.1, .int σ.2.2.1, .ref w0, .int σ.2.2.2.2.1, .int σ.2.2.2.2.2.1, .long σ.2.2.2.2.2.2.1, .ref so, .ref be, .int σ.2.2.2.2.2.2.2.2.2.1, .int (σ.2.2.2.2.2.2.2.2.2.2.1 + (0 : Int32)), .int σ.2.2.2.2.2.2.2.2.2.2.2.1, .int σ.2.2.2.2.2.2.2.2.2.2.2.2])), (w0, .inl (cJ, 511, .inr (.inl (σ.2.2.2.1)))), (so, .inl (cI, 30, .inl (σ.2.2.2.2.2.2.2.1))), (be, .inl (cI, 30, .inl (σ.2.2.2.2.2.2.2.2.1)))] := hD
      refine lv_aload_n hx hb dX4_comes_36 rfl (lv_at hl 0 rfl) ?_
      refine va_get (D := (dC, dI)) (ci := 3) (v := .ref so) (C := RX4) (T := TX4) (N := 13) hx hb hts hin0 hown hK hP 0 rfl rfl 7 (by decide) fl_27 (fun _ h9 => h9) rfl dX4_comes_37 ?_
      refine lv_iconst (v := (0 : Int32)) hx hb dX4_comes_40 (by decide) ?_
      refine lv_iconst (v := (1 : Int32)) hx hb dX4_comes_41 (by decide) ?_
      have z5 := hw.1
      have hw := hw.2
      refine va_iast hx hb hK hP hD hS 2 1 rfl rfl z5 dX4_comes_42 (fun H locs hP hD hS => ?_)
      have hP : va_P (dC, dI) vwCl [(h0, .inr (3, [.int σ.1, .int σ.2.1, .int σ.2.2.1, .ref w0, .int σ.2.2.2.2.1, .int σ.2.2.2.2.2.1, .long σ.2.2.2.2.2.2.1, .ref so, .ref be, .int σ.2.2.2.2.2.2.2.2.2.1, .int (σ.2.2.2.2.2.2.2.2.2.2.1 + (0 : Int32)), .int σ.2.2.2.2.2.2.2.2.2.2.2.1, .int σ.2.2.2.2.2.2.2.2.2.2.2.2])), (w0, .inl (cJ, 511, .inr (.inl (σ.2.2.2.1)))), (so, .inl (cI, 30, .inl ((upd σ.2.2.2.2.2.2.2.1 (0 : Int32).toNatClampNeg (1 : Int32))))), (be, .inl (cI, 30, .inl (σ.2.2.2.2.2.2.2.2.1)))] H := hP
      have hD : va_D A [(h0, .inr (3, [.int σ.1, .int σ.2.1, .int σ.2.2.1, .ref w0, .int σ.2.2.2.2.1, .int σ.2.2.2.2.2.1, .long σ.2.2.2.2.2.2.1, .ref so, .ref be, .int σ.2.2.2.2.2.2.2.2.2.1, .int (σ.2.2.2.2.2.2.2.2.2.2.1 + (0 : Int32)), .int σ.2.2.2.2.2.2.2.2.2.2.2.1, .int σ.2.2.2.2.2.2.2.2.2.2.2.2])), (w0, .inl (cJ, 511, .inr (.inl (σ.2.2.2.1)))), (so, .inl (cI, 30, .inl ((upd σ.2.2.2.2.2.2.2.1 (0 : Int32).toNatClampNeg (1 : Int32))))), (be, .inl (cI, 30, .inl (σ.2.2.2.2.2.2.2.2.1)))] := hD
      refine lv_aload_n hx hb dX4_comes_43 rfl (lv_at hl 0 rfl) ?_
      refine lv_dup hx hb dX4_comes_44 rfl ?_
      refine va_get (D := (dC, dI)) (ci := 3) (v := .int σ.2.2.2.2.2.2.2.2.2.1) (C := RX4) (T := TX4) (N := 13) hx hb hts hin0 hown hK hP 0 rfl rfl 9 (by decide) fl_90 (fun _ h9 => h9) rfl dX4_comes_45 ?_
      refine lv_iconst (v := (1 : Int32)) hx hb dX4_comes_48 (by decide) ?_
      refine lv_iadd hx hb dX4_comes_49 ?_
      refine va_put (D := (dC, dI)) (ci := 3) (v := .int (σ.2.2.2.2.2.2.2.2.2.1 + (1 : Int32))) (ty := .int) (C := RX4) (T := TX4) (N := 13) hx hb hts hin0 tyX4 tyX4_ok nmX4 hown hK hP hD hS 0 rfl rfl 9 (by decide) fl_90 (fun _ h9 => h9) rfl (by decide +kernel) rfl rfl (Nat.le_of_ble_eq_true rfl) dX4_comes_50 (fun H locs hP hD hS => ?_)
      have hP : va_P (dC, dI) vwCl [(h0, .inr (3, [.int σ.1, .int σ.2.1, .int σ.2.2.1, .ref w0, .int σ.2.2.2.2.1, .int σ.2.2.2.2.2.1, .long σ.2.2.2.2.2.2.1, .ref so, .ref be, .int (σ.2.2.2.2.2.2.2.2.2.1 + (1 : Int32)), .int (σ.2.2.2.2.2.2.2.2.2.2.1 + (0 : Int32)), .int σ.2.2.2.2.2.2.2.2.2.2.2.1, .int σ.2.2.2.2.2.2.2.2.2.2.2.2])), (w0, .inl (cJ, 511, .inr (.inl (σ.2.2.2.1)))), (so, .inl (cI, 30, .inl ((upd σ.2.2.2.2.2.2.2.1 (0 : Int32).toNatClampNeg (1 : Int32))))), (be, .inl (cI, 30, .inl (σ.2.2.2.2.2.2.2.2.1)))] H := hP
      have hD : va_D A [(h0, .inr (3, [.int σ.1, .int σ.2.1, .int σ.2.2.1, .ref w0, .int σ.2.2.2.2.1, .int σ.2.2.2.2.2.1, .long σ.2.2.2.2.2.2.1, .ref so, .ref be, .int (σ.2.2.2.2.2.2.2.2.2.1 + (1 : Int32)), .int (σ.2.2.2.2.2.2.2.2.2.2.1 + (0 : Int32)), .int σ.2.2.2.2.2.2.2.2.2.2.2.1, .int σ.2.2.2.2.2.2.2.2.2.2.2.2])), (w0, .inl (cJ, 511, .inr (.inl (σ.2.2.2.1)))), (so, .inl (cI, 30, .inl ((upd σ.2.2.2.2.2.2.2.1 (0 : Int32).toNatClampNeg (1 : Int32))))), (be, .inl (cI, 30, .inl (σ.2.2.2.2.2.2.2.2.1)))] := hD
      refine lv_iconst (v := (1 : Int32)) hx hb dX4_comes_53 (by decide) ?_
      exact W.zret (v := (1 : Int32)) hx hb hr (nb_nar nb_1) (fun t ht hW => ⟨⟨(1 : Int32), ((cl4 h0 w0 so be cJ cI (σ.1, σ.2.1, σ.2.2.1, σ.2.2.2.1, σ.2.2.2.2.1, σ.2.2.2.2.2.1, σ.2.2.2.2.2.2.1, (upd σ.2.2.2.2.2.2.2.1 (0 : Int32).toNatClampNeg (1 : Int32)), σ.2.2.2.2.2.2.2.2.1, (σ.2.2.2.2.2.2.2.2.2.1 + (1 : Int32)), (σ.2.2.2.2.2.2.2.2.2.2.1 + (0 : Int32)), σ.2.2.2.2.2.2.2.2.2.2.2.1, σ.2.2.2.2.2.2.2.2.2.2.2.2))), rfl, ⟨(σ.1, σ.2.1, σ.2.2.1, σ.2.2.2.1, σ.2.2.2.2.1, σ.2.2.2.2.2.1, σ.2.2.2.2.2.2.1, (upd σ.2.2.2.2.2.2.2.1 (0 : Int32).toNatClampNeg (1 : Int32)), σ.2.2.2.2.2.2.2.2.1, (σ.2.2.2.2.2.2.2.2.2.1 + (1 : Int32)), (σ.2.2.2.2.2.2.2.2.2.2.1 + (0 : Int32)), σ.2.2.2.2.2.2.2.2.2.2.2.1, σ.2.2.2.2.2.2.2.2.2.2.2.2), hw, rfl⟩, by rw [ht]; exact hP, va_K.moved hW.alike hK, hD⟩, hS.F ht⟩) hS.2.2 dX4_comes_54
    · have hw := hw.2 c4
      refine lv_iconst (v := (1 : Int32)) hx hb dX4_comes_27 (by decide) ?_
      refine lv_goto (tgt := 32) hx hb dX4_comes_28 (by decide) ?_
      refine lv_iadd hx hb dX4_comes_32 ?_
      refine va_put (D := (dC, dI)) (ci := 3) (v := .int (σ.2.2.2.2.2.2.2.2.2.2.1 + (1 : Int32))) (ty := .int) (C := RX4) (T := TX4) (N := 13) hx hb hts hin0 tyX4 tyX4_ok nmX4 hown hK hP hD hS 0 rfl rfl 10 (by decide) fl_93 (fun _ h9 => h9) rfl (by decide +kernel) rfl rfl (Nat.le_of_ble_eq_true rfl) dX4_comes_33 (fun H locs hP hD hS => ?_)
      have hP : va_P (dC, dI) vwCl [(h0, .inr (3, [.int σ.1, .int σ.2.1, .int σ.2.2.1, .ref w0, .int σ.2.2.2.2.1, .int σ.2.2.2.2.2.1, .long σ.2.2.2.2.2.2.1, .ref so, .ref be, .int σ.2.2.2.2.2.2.2.2.2.1, .int (σ.2.2.2.2.2.2.2.2.2.2.1 + (1 : Int32)), .int σ.2.2.2.2.2.2.2.2.2.2.2.1, .int σ.2.2.2.2.2.2.2.2.2.2.2.2])), (w0, .inl (cJ, 511, .inr (.inl (σ.2.2.2.1)))), (so, .inl (cI, 30, .inl (σ.2.2.2.2.2.2.2.1))), (be, .inl (cI, 30, .inl (σ.2.2.2.2.2.2.2.2.1)))] H := hP
      have hD : va_D A [(h0, .inr (3, [.int σ.1, .int σ.2.1, .int σ.2.2.1, .ref w0, .int σ.2.2.2.2.1, .int σ.2.2.2.2.2.1, .long σ.2.2.2.2.2.2.1, .ref so, .ref be, .int σ.2.2.2.2.2.2.2.2.2.1, .int (σ.2.2.2.2.2.2.2.2.2.2.1 + (1 : Int32)), .int σ.2.2.2.2.2.2.2.2.2.2.2.1, .int σ.2.2.2.2.2.2.2.2.2.2.2.2])), (w0, .inl (cJ, 511, .inr (.inl (σ.2.2.2.1)))), (so, .inl (cI, 30, .inl (σ.2.2.2.2.2.2.2.1))), (be, .inl (cI, 30, .inl (σ.2.2.2.2.2.2.2.2.1)))] := hD
      refine lv_aload_n hx hb dX4_comes_36 rfl (lv_at hl 0 rfl) ?_
      refine va_get (D := (dC, dI)) (ci := 3) (v := .ref so) (C := RX4) (T := TX4) (N := 13) hx hb hts hin0 hown hK hP 0 rfl rfl 7 (by decide) fl_27 (fun _ h9 => h9) rfl dX4_comes_37 ?_
      refine lv_iconst (v := (0 : Int32)) hx hb dX4_comes_40 (by decide) ?_
      refine lv_iconst (v := (1 : Int32)) hx hb dX4_comes_41 (by decide) ?_
      have z6 := hw.1
      have hw := hw.2
      refine va_iast hx hb hK hP hD hS 2 1 rfl rfl z6 dX4_comes_42 (fun H locs hP hD hS => ?_)
      have hP : va_P (dC, dI) vwCl [(h0, .inr (3, [.int σ.1, .int σ.2.1, .int σ.2.2.1, .ref w0, .int σ.2.2.2.2.1, .int σ.2.2.2.2.2.1, .long σ.2.2.2.2.2.2.1, .ref so, .ref be, .int σ.2.2.2.2.2.2.2.2.2.1, .int (σ.2.2.2.2.2.2.2.2.2.2.1 + (1 : Int32)), .int σ.2.2.2.2.2.2.2.2.2.2.2.1, .int σ.2.2.2.2.2.2.2.2.2.2.2.2])), (w0, .inl (cJ, 511, .inr (.inl (σ.2.2.2.1)))), (so, .inl (cI, 30, .inl ((upd σ.2.2.2.2.2.2.2.1 (0 : Int32).toNatClampNeg (1 : Int32))))), (be, .inl (cI, 30, .inl (σ.2.2.2.2.2.2.2.2.1)))] H := hP
      have hD : va_D A [(h0, .inr (3, [.int σ.1, .int σ.2.1, .int σ.2.2.1, .ref w0, .int σ.2.2.2.2.1, .int σ.2.2.2.2.2.1, .long σ.2.2.2.2.2.2.1, .ref so, .ref be, .int σ.2.2.2.2.2.2.2.2.2.1, .int (σ.2.2.2.2.2.2.2.2.2.2.1 + (1 : Int32)), .int σ.2.2.2.2.2.2.2.2.2.2.2.1, .int σ.2.2.2.2.2.2.2.2.2.2.2.2])), (w0, .inl (cJ, 511, .inr (.inl (σ.2.2.2.1)))), (so, .inl (cI, 30, .inl ((upd σ.2.2.2.2.2.2.2.1 (0 : Int32).toNatClampNeg (1 : Int32))))), (be, .inl (cI, 30, .inl (σ.2.2.2.2.2.2.2.2.1)))] := hD
      refine lv_aload_n hx hb dX4_comes_43 rfl (lv_at hl 0 rfl) ?_
      refine lv_dup hx hb dX4_comes_44 rfl ?_
      refine va_get (D := (dC, dI)) (ci := 3) (v := .int σ.2.2.2.2.2.2.2.2.2.1) (C := RX4) (T := TX4) (N := 13) hx hb hts hin0 hown hK hP 0 rfl rfl 9 (by decide) fl_90 (fun _ h9 => h9) rfl dX4_comes_45 ?_
      refine lv_iconst (v := (1 : Int32)) hx hb dX4_comes_48 (by decide) ?_
      refine lv_iadd hx hb dX4_comes_49 ?_
      refine va_put (D := (dC, dI)) (ci := 3) (v := .int (σ.2.2.2.2.2.2.2.2.2.1 + (1 : Int32))) (ty := .int) (C := RX4) (T := TX4) (N := 13) hx hb hts hin0 tyX4 tyX4_ok nmX4 hown hK hP hD hS 0 rfl rfl 9 (by decide) fl_90 (fun _ h9 => h9) rfl (by decide +kernel) rfl rfl (Nat.le_of_ble_eq_true rfl) dX4_comes_50 (fun H locs hP hD hS => ?_)
      have hP : va_P (dC, dI) vwCl [(h0, .inr (3, [.int σ.1, .int σ.2.1, .int σ.2.2.1, .ref w0, .int σ.2.2.2.2.1, .int σ.2.2.2.2.2.1, .long σ.2.2.2.2.2.2.1, .ref so, .ref be, .int (σ.2.2.2.2.2.2.2.2.2.1 + (1 : Int32)), .int (σ.2.2.2.2.2.2.2.2.2.2.1 + (1 : Int32)), .int σ.2.2.2.2.2.2.2.2.2.2.2.1, .int σ.2.2.2.2.2.2.2.2.2.2.2.2])), (w0, .inl (cJ, 511, .inr (.inl (σ.2.2.2.1)))), (so, .inl (cI, 30, .inl ((upd σ.2.2.2.2.2.2.2.1 (0 : Int32).toNatClampNeg (1 : Int32))))), (be, .inl (cI, 30, .inl (σ.2.2.2.2.2.2.2.2.1)))] H := hP
      have hD : va_D A [(h0, .inr (3, [.int σ.1, .int σ.2.1, .int σ.2.2.1, .ref w0, .int σ.2.2.2.2.1, .int σ.2.2.2.2.2.1, .long σ.2.2.2.2.2.2.1, .ref so, .ref be, .int (σ.2.2.2.2.2.2.2.2.2.1 + (1 : Int32)), .int (σ.2.2.2.2.2.2.2.2.2.2.1 + (1 : Int32)), .int σ.2.2.2.2.2.2.2.2.2.2.2.1, .int σ.2.2.2.2.2.2.2.2.2.2.2.2])), (w0, .inl (cJ, 511, .inr (.inl (σ.2.2.2.1)))), (so, .inl (cI, 30, .inl ((upd σ.2.2.2.2.2.2.2.1 (0 : Int32).toNatClampNeg (1 : Int32))))), (be, .inl (cI, 30, .inl (σ.2.2.2.2.2.2.2.2.1)))] := hD
      refine lv_iconst (v := (1 : Int32)) hx hb dX4_comes_53 (by decide) ?_
      exact W.zret (v := (1 : Int32)) hx hb hr (nb_nar nb_1) (fun t ht hW => ⟨⟨(1 : Int32), ((cl4 h0 w0 so be cJ cI (σ.1, σ.2.1, σ.2.2.1, σ.2.2.2.1, σ.2.2.2.2.1, σ.2.2.2.2.2.1, σ.2.2.2.2.2.2.1, (upd σ.2.2.2.2.2.2.2.1 (0 : Int32).toNatClampNeg (1 : Int32)), σ.2.2.2.2.2.2.2.2.1, (σ.2.2.2.2.2.2.2.2.2.1 + (1 : Int32)), (σ.2.2.2.2.2.2.2.2.2.2.1 + (1 : Int32)), σ.2.2.2.2.2.2.2.2.2.2.2.1, σ.2.2.2.2.2.2.2.2.2.2.2.2))), rfl, ⟨(σ.1, σ.2.1, σ.2.2.1, σ.2.2.2.1, σ.2.2.2.2.1, σ.2.2.2.2.2.1, σ.2.2.2.2.2.2.1, (upd σ.2.2.2.2.2.2.2.1 (0 : Int32).toNatClampNeg (1 : Int32)), σ.2.2.2.2.2.2.2.2.1, (σ.2.2.2.2.2.2.2.2.2.1 + (1 : Int32)), (σ.2.2.2.2.2.2.2.2.2.2.1 + (1 : Int32)), σ.2.2.2.2.2.2.2.2.2.2.2.1, σ.2.2.2.2.2.2.2.2.2.2.2.2), hw, rfl⟩, by rw [ht]; exact hP, va_K.moved hW.alike hK, hD⟩, hS.F ht⟩) hS.2.2 dX4_comes_54
  · have hw := hw.2 c2
    refine lv_iconst (v := (0 : Int32)) hx hb dX4_comes_10 (by decide) ?_
    exact W.zret (v := (0 : Int32)) hx hb hr (nb_nar nb_0) (fun t ht hW => ⟨⟨(0 : Int32), ((cl4 h0 w0 so be cJ cI σ)), rfl, ⟨σ, hw, rfl⟩, by rw [ht]; exact hP, va_K.moved hW.alike hK, hD⟩, hS.F ht⟩) hS.2.2 dX4_comes_11
