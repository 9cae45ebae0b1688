set_option maxHeartbeats 4000000 in
set_option maxRecDepth 100000 in
theorem c_X4_goes (l : Launch) (dC : Nat → ClassId) (dI : Nat → Nat → Nat) (h0 w0 so be : Nat) (cJ : ClassId) (cI : ClassId) (σ : SM)  (post : Int32 → SM → Prop) (hw : wp_X4_goes  σ post) : KI l yX4_goes wsX4_goes ({ frames := 0, cells := 0, slots := 0, locals := 0 } : Room) (dC, dI) [(cJ, .long), (cI, .int)] (cl4 h0 w0 so be cJ cI σ) [.ref h0] (fun r u => ∃ σ', post r σ' ∧ u = (cl4 h0 w0 so be cJ cI (σ'))) := by
  intro sz
  refine Met.ofW (cc := cX4_goes) (maxL := 1) (ret := (some .boolean)) (by decide) rfl ?_
  intro p e s m args below meth c s₁ B hml hv
  obtain ⟨rfl, hsz, hP, hK, hD0, hnw⟩ := hv
  have hx := B.exec
  have hb := B.bytes
  have hr := B.returns
  have hts := atoms_spec (ws := wsX4_goes) B.pre
  have hown : s.vm.findClass RX4 = some m.cls := findClass_of_methodNamed B.named
  have hlocks := B.notSynchronized
  subst hsz
  have hD := hD0.self (sz := s.heap.size)
  generalize hAe : va_A (cl4 h0 w0 so be cJ cI σ) s.heap.size = A at hD ⊢
  have hA : ∀ q : Nat, s.heap.size ≤ q → A q := fun q h => by rw [← hAe]; exact Or.inr h
  have hS : va_S A s.heap s.heap [] := va_S.rf
  have hP : va_P (dC, dI) vwCl [(h0, .inr (3, [.int σ.1, .int σ.2.1, .int σ.2.2.1, .ref w0, .int σ.2.2.2.2.1, .int σ.2.2.2.2.2.1, .long σ.2.2.2.2.2.2.1, .ref so, .ref be, .int σ.2.2.2.2.2.2.2.2.2.1, .int σ.2.2.2.2.2.2.2.2.2.2.1, .int σ.2.2.2.2.2.2.2.2.2.2.2.1, .int σ.2.2.2.2.2.2.2.2.2.2.2.2])), (w0, .inl (cJ, 511, .inr (.inl (σ.2.2.2.1)))), (so, .inl (cI, 30, .inl (σ.2.2.2.2.2.2.2.1))), (be, .inl (cI, 30, .inl (σ.2.2.2.2.2.2.2.2.1)))] s.heap := hP
  have hD : va_D A [(h0, .inr (3, [.int σ.1, .int σ.2.1, .int σ.2.2.1, .ref w0, .int σ.2.2.2.2.1, .int σ.2.2.2.2.2.1, .long σ.2.2.2.2.2.2.1, .ref so, .ref be, .int σ.2.2.2.2.2.2.2.2.2.1, .int σ.2.2.2.2.2.2.2.2.2.2.1, .int σ.2.2.2.2.2.2.2.2.2.2.2.1, .int σ.2.2.2.2.2.2.2.2.2.2.2.2])), (w0, .inl (cJ, 511, .inr (.inl (σ.2.2.2.1)))), (so, .inl (cI, 30, .inl (σ.2.2.2.2.2.2.2.1))), (be, .inl (cI, 30, .inl (σ.2.2.2.2.2.2.2.2.1)))] := hD
  have fl_27 := hts (.fieldLink RX4 27 "OnePlaceEachModel" "sorts" "[I") (by decide +kernel)
  have fl_83 := hts (.fieldLink RX4 83 "OnePlaceEachModel" "places" "I") (by decide +kernel)
  have fl_93 := hts (.fieldLink RX4 93 "OnePlaceEachModel" "outs" "I") (by decide +kernel)
  have hin0 : ∀ w ∈ wsX40, w ∈ wsX4_goes := by decide +kernel
  have hl := lv_entry ([.ref h0]) (n := 1) (Nat.le_of_ble_eq_true rfl)
  rw [lg_entry_eq]
  generalize (lg_sl ([.ref h0]) ++ List.replicate (1 - (lg_sl ([.ref h0])).length) Slot.unset).toArray = ls at hl ⊢
  have hl : lv_has ls 1 [(0, .ref h0)] := hl
  unfold wp_X4_goes at hw
  skip
  obtain ⟨H, hH⟩ : ∃ H, H = s.heap := ⟨_, rfl⟩
  obtain ⟨locs, hlo⟩ : ∃ q : List Loc, q = [] := ⟨_, rfl⟩
  rw [← hH] at hP
  have hS : va_S A s.heap H locs := by rw [hH, hlo]; exact hS
  suffices hgo : W p l e (headSpec wsX4_goes ({ frames := 0, cells := 0, slots := 0, locals := 0 } : Room)).room s m _ below meth c H locs 0 0 _ (F0 m 0 ls []) by rw [hH, hlo] at hgo; exact hgo
  refine lv_aload_n hx hb dX4_goes_0 rfl (lv_at hl 0 rfl) ?_
  refine va_get (D := (dC, dI)) (ci := 3) (v := .ref so) (C := RX4) (T := TX4) (N := 13) hx hb hts hin0 hown hK hP 0 rfl rfl 7 (by decide) fl_27 (fun _ h9 => h9) rfl dX4_goes_1 ?_
  refine lv_aload_n hx hb dX4_goes_4 rfl (lv_at hl 0 rfl) ?_
  refine va_get (D := (dC, dI)) (ci := 3) (v := .int σ.2.2.2.2.1) (C := RX4) (T := TX4) (N := 13) hx hb hts hin0 hown hK hP 0 rfl rfl 4 (by decide) fl_83 (fun _ h9 => h9) rfl dX4_goes_5 ?_
  refine lv_iconst (v := (1 : Int32)) hx hb dX4_goes_8 (by decide) ?_
  refine lv_isub hx hb dX4_goes_9 ?_
  have z1 := hw.1
  have hw := hw.2
  refine va_iald hx hb hK hP 2 1 rfl rfl z1 dX4_goes_10 ?_
  refine lv_iconst (v := (1 : Int32)) hx hb dX4_goes_11 (by decide) ?_
  refine lv_icmp_eq (tgt := 17) hx hb dX4_goes_12 (by decide) (fun c2 => ?_) (fun c2 => ?_)
  · have hw := hw.1 c2
    refine lv_aload_n hx hb dX4_goes_17 rfl (lv_at hl 0 rfl) ?_
    refine va_get (D := (dC, dI)) (ci := 3) (v := .ref so) (C := RX4) (T := TX4) (N := 13) hx hb hts hin0 hown hK hP 0 rfl rfl 7 (by decide) fl_27 (fun _ h9 => h9) rfl dX4_goes_18 ?_
    refine lv_aload_n hx hb dX4_goes_21 rfl (lv_at hl 0 rfl) ?_
    refine va_get (D := (dC, dI)) (ci := 3) (v := .int σ.2.2.2.2.1) (C := RX4) (T := TX4) (N := 13) hx hb hts hin0 hown hK hP 0 rfl rfl 4 (by decide) fl_83 (fun _ h9 => h9) rfl dX4_goes_22 ?_
    refine lv_iconst (v := (1 : Int32)) hx hb dX4_goes_25 (by decide) ?_
    refine lv_isub hx hb dX4_goes_26 ?_
    refine lv_iconst (v := (0 : Int32)) hx hb dX4_goes_27 (by decide) ?_
    have z3 := hw.1
    have hw := hw.2
    refine va_iast hx hb hK hP hD hS 2 1 rfl rfl z3 dX4_goes_28 (fun H locs hP hD hS => ?_)
    have hP : va_P (dC, dI) vwCl [(h0, .inr (3, [.int σ.1, .int σ.2.1, .int σ.2.2.1, .ref w0, .int σ.2.2.2.2.1, .int σ.2.2.2.2.2.1, .long σ.2.2.2.2.2.2.1, .ref so, .ref be, .int σ.2.2.2.2.2.2.2.2.2.1, .int σ.2.2.2.2.2.2.2.2.2.2.1, .int σ.2.2.2.2.2.2.2.2.2.2.2.1, .int σ.2.2.2.2.2.2.2.2.2.2.2.2])), (w0, .inl (cJ, 511, .inr (.inl (σ.2.2.2.1)))), (so, .inl (cI, 30, .inl ((upd σ.2.2.2.2.2.2.2.1 (σ.2.2.2.2.1 - (1 : Int32)).toNatClampNeg (0 : Int32))))), (be, .inl (cI, 30, .inl (σ.2.2.2.2.2.2.2.2.1)))] H := hP
    have hD : va_D A [(h0, .inr (3, [.int σ.1, .int σ.2.1, .int σ.2.2.1, .ref w0, .int σ.2.2.2.2.1, .int σ.2.2.2.2.2.1, .long σ.2.2.2.2.2.2.1, .ref so, .ref be, .int σ.2.2.2.2.2.2.2.2.2.1, .int σ.2.2.2.2.2.2.2.2.2.2.1, .int σ.2.2.2.2.2.2.2.2.2.2.2.1, .int σ.2.2.2.2.2.2.2.2.2.2.2.2])), (w0, .inl (cJ, 511, .inr (.inl (σ.2.2.2.1)))), (so, .inl (cI, 30, .inl ((upd σ.2.2.2.2.2.2.2.1 (σ.2.2.2.2.1 - (1 : Int32)).toNatClampNeg (0 : Int32))))), (be, .inl (cI, 30, .inl (σ.2.2.2.2.2.2.2.2.1)))] := hD
    refine lv_aload_n hx hb dX4_goes_29 rfl (lv_at hl 0 rfl) ?_
    refine lv_dup hx hb dX4_goes_30 rfl ?_
    refine va_get (D := (dC, dI)) (ci := 3) (v := .int σ.2.2.2.2.2.2.2.2.2.2.1) (C := RX4) (T := TX4) (N := 13) hx hb hts hin0 hown hK hP 0 rfl rfl 10 (by decide) fl_93 (fun _ h9 => h9) rfl dX4_goes_31 ?_
    refine lv_iconst (v := (1 : Int32)) hx hb dX4_goes_34 (by decide) ?_
    refine lv_iadd hx hb dX4_goes_35 ?_
    refine va_put (D := (dC, dI)) (ci := 3) (v := .int (σ.2.2.2.2.2.2.2.2.2.2.1 + (1 : Int32))) (ty := .int) (C := RX4) (T := TX4) (N := 13) hx hb hts hin0 tyX4 tyX4_ok nmX4 hown hK hP hD hS 0 rfl rfl 10 (by decide) fl_93 (fun _ h9 => h9) rfl (by decide +kernel) rfl rfl (Nat.le_of_ble_eq_true rfl) dX4_goes_36 (fun H locs hP hD hS => ?_)
    have hP : va_P (dC, dI) vwCl [(h0, .inr (3, [.int σ.1, .int σ.2.1, .int σ.2.2.1, .ref w0, .int σ.2.2.2.2.1, .int σ.2.2.2.2.2.1, .long σ.2.2.2.2.2.2.1, .ref so, .ref be, .int σ.2.2.2.2.2.2.2.2.2.1, .int (σ.2.2.2.2.2.2.2.2.2.2.1 + (1 : Int32)), .int σ.2.2.2.2.2.2.2.2.2.2.2.1, .int σ.2.2.2.2.2.2.2.2.2.2.2.2])), (w0, .inl (cJ, 511, .inr (.inl (σ.2.2.2.1)))), (so, .inl (cI, 30, .inl ((upd σ.2.2.2.2.2.2.2.1 (σ.2.2.2.2.1 - (1 : Int32)).toNatClampNeg (0 : Int32))))), (be, .inl (cI, 30, .inl (σ.2.2.2.2.2.2.2.2.1)))] H := hP
    have hD : va_D A [(h0, .inr (3, [.int σ.1, .int σ.2.1, .int σ.2.2.1, .ref w0, .int σ.2.2.2.2.1, .int σ.2.2.2.2.2.1, .long σ.2.2.2.2.2.2.1, .ref so, .ref be, .int σ.2.2.2.2.2.2.2.2.2.1, .int (σ.2.2.2.2.2.2.2.2.2.2.1 + (1 : Int32)), .int σ.2.2.2.2.2.2.2.2.2.2.2.1, .int σ.2.2.2.2.2.2.2.2.2.2.2.2])), (w0, .inl (cJ, 511, .inr (.inl (σ.2.2.2.1)))), (so, .inl (cI, 30, .inl ((upd σ.2.2.2.2.2.2.2.1 (σ.2.2.2.2.1 - (1 : Int32)).toNatClampNeg (0 : Int32))))), (be, .inl (cI, 30, .inl (σ.2.2.2.2.2.2.2.2.1)))] := hD
    refine lv_iconst (v := (1 : Int32)) hx hb dX4_goes_39 (by decide) ?_
    exact W.zret (v := (1 : Int32)) hx hb hr (nb_nar nb_1) (fun t ht hW => ⟨⟨(1 : Int32), ((cl4 h0 w0 so be cJ cI (σ.1, σ.2.1, σ.2.2.1, σ.2.2.2.1, σ.2.2.2.2.1, σ.2.2.2.2.2.1, σ.2.2.2.2.2.2.1, (upd σ.2.2.2.2.2.2.2.1 (σ.2.2.2.2.1 - (1 : Int32)).toNatClampNeg (0 : Int32)), σ.2.2.2.2.2.2.2.2.1, σ.2.2.2.2.2.2.2.2.2.1, (σ.2.2.2.2.2.2.2.2.2.2.1 + (1 : Int32)), σ.2.2.2.2.2.2.2.2.2.2.2.1, σ.2.2.2.2.2.2.2.2.2.2.2.2))), rfl, ⟨(σ.1, σ.2.1, σ.2.2.1, σ.2.2.2.1, σ.2.2.2.2.1, σ.2.2.2.2.2.1, σ.2.2.2.2.2.2.1, (upd σ.2.2.2.2.2.2.2.1 (σ.2.2.2.2.1 - (1 : Int32)).toNatClampNeg (0 : Int32)), σ.2.2.2.2.2.2.2.2.1, σ.2.2.2.2.2.2.2.2.2.1, (σ.2.2.2.2.2.2.2.2.2.2.1 + (1 : Int32)), σ.2.2.2.2.2.2.2.2.2.2.2.1, σ.2.2.2.2.2.2.2.2.2.2.2.2), hw, rfl⟩, by rw [ht]; exact hP, va_K.moved hW.alike hK, hD⟩, hS.F ht⟩) hS.2.2 dX4_goes_40
  · have hw := hw.2 c2
    refine lv_iconst (v := (0 : Int32)) hx hb dX4_goes_15 (by decide) ?_
    exact W.zret (v := (0 : Int32)) hx hb hr (nb_nar nb_0) (fun t ht hW => ⟨⟨(0 : Int32), ((cl4 h0 w0 so be cJ cI σ)), rfl, ⟨σ, hw, rfl⟩, by rw [ht]; exact hP, va_K.moved hW.alike hK, hD⟩, hS.F ht⟩) hS.2.2 dX4_goes_16
set_option maxHeartbeats 4000000 in
set_option maxRecDepth 100000 in
theorem c_X4_go (l : Launch) (dC : Nat → ClassId) (dI : Nat → Nat → Nat) (h0 w0 so be : Nat) (cJ : ClassId) (cI : ClassId) (σ : SM) (p0 : Int32) (post : Int32 → SM → Prop) (hw : wp_X4_go p0 σ post) : KI l yX4_go wsX4_go ({ frames := 1, cells := 0, slots := 0, locals := 25 } : Room) (dC, dI) [(cJ, .long), (cI, .int)] (cl4 h0 w0 so be cJ cI σ) [.ref h0, .int p0] (fun r u => ∃ σ', post r σ' ∧ u = (cl4 h0 w0 so be cJ cI (σ'))) := by
  intro sz
  refine Met.ofW (cc := cX4_go) (maxL := 6) (ret := (some .int)) (by decide) rfl ?_
  intro p e s m args below meth c s₁ B hml hv
  obtain ⟨rfl, hsz, hP, hK, hD0, hnw⟩ := hv
  have hx := B.exec
  have hb := B.bytes
  have hr := B.returns
  have hts := atoms_spec (ws := wsX4_go) B.pre
  have hown : s.vm.findClass RX4 = some m.cls := findClass_of_methodNamed B.named
  have hlocks := B.notSynchronized
  subst hsz
  have hD := hD0.self (sz := s.heap.size)
  generalize hAe : va_A (cl4 h0 w0 so be cJ cI σ) s.heap.size = A at hD ⊢
  have hA : ∀ q : Nat, s.heap.size ≤ q → A q := fun q h => by rw [← hAe]; exact Or.inr h
  have hS : va_S A s.heap s.heap [] := va_S.rf
  have hP : va_P (dC, dI) vwCl [(h0, .inr (3, [.int σ.1, .int σ.2.1, .int σ.2.2.1, .ref w0, .int σ.2.2.2.2.1, .int σ.2.2.2.2.2.1, .long σ.2.2.2.2.2.2.1, .ref so, .ref be, .int σ.2.2.2.2.2.2.2.2.2.1, .int σ.2.2.2.2.2.2.2.2.2.2.1, .int σ.2.2.2.2.2.2.2.2.2.2.2.1, .int σ.2.2.2.2.2.2.2.2.2.2.2.2])), (w0, .inl (cJ, 511, .inr (.inl (σ.2.2.2.1)))), (so, .inl (cI, 30, .inl (σ.2.2.2.2.2.2.2.1))), (be, .inl (cI, 30, .inl (σ.2.2.2.2.2.2.2.2.1)))] s.heap := hP
  have hD : va_D A [(h0, .inr (3, [.int σ.1, .int σ.2.1, .int σ.2.2.1, .ref w0, .int σ.2.2.2.2.1, .int σ.2.2.2.2.2.1, .long σ.2.2.2.2.2.2.1, .ref so, .ref be, .int σ.2.2.2.2.2.2.2.2.2.1, .int σ.2.2.2.2.2.2.2.2.2.2.1, .int σ.2.2.2.2.2.2.2.2.2.2.2.1, .int σ.2.2.2.2.2.2.2.2.2.2.2.2])), (w0, .inl (cJ, 511, .inr (.inl (σ.2.2.2.1)))), (so, .inl (cI, 30, .inl (σ.2.2.2.2.2.2.2.1))), (be, .inl (cI, 30, .inl (σ.2.2.2.2.2.2.2.2.1)))] := hD
  have fl_23 := hts (.fieldLink RX4 23 "OnePlaceEachModel" "seed" "J") (by decide +kernel)
  have fl_83 := hts (.fieldLink RX4 83 "OnePlaceEachModel" "places" "I") (by decide +kernel)
  have fl_86 := hts (.fieldLink RX4 86 "OnePlaceEachModel" "isOpen" "Z") (by decide +kernel)
  have hin0 : ∀ w ∈ wsX40, w ∈ wsX4_go := by decide +kernel
  have L28 : ∀ (x1 : Int32)  (n : Nat) (x2 : Int32) (x3 : Int32) (σ : SM) (k : Int32 → Int32 → SM → Prop), wl_X4_go_28 x1  n x2 x3 σ k →
      (∀ (x2 : Int32) (x3 : Int32) (σ : SM), k x2 x3 σ → ∀ (H : Heap) (locs : List Loc) (ls : Array Slot), va_P (dC, dI) vwCl [(h0, .inr (3, [.int σ.1, .int σ.2.1, .int σ.2.2.1, .ref w0, .int σ.2.2.2.2.1, .int σ.2.2.2.2.2.1, .long σ.2.2.2.2.2.2.1, .ref so, .ref be, .int σ.2.2.2.2.2.2.2.2.2.1, .int σ.2.2.2.2.2.2.2.2.2.2.1, .int σ.2.2.2.2.2.2.2.2.2.2.2.1, .int σ.2.2.2.2.2.2.2.2.2.2.2.2])), (w0, .inl (cJ, 511, .inr (.inl (σ.2.2.2.1)))), (so, .inl (cI, 30, .inl (σ.2.2.2.2.2.2.2.1))), (be, .inl (cI, 30, .inl (σ.2.2.2.2.2.2.2.2.1)))] H → va_D A [(h0, .inr (3, [.int σ.1, .int σ.2.1, .int σ.2.2.1, .ref w0, .int σ.2.2.2.2.1, .int σ.2.2.2.2.2.1, .long σ.2.2.2.2.2.2.1, .ref so, .ref be, .int σ.2.2.2.2.2.2.2.2.2.1, .int σ.2.2.2.2.2.2.2.2.2.2.1, .int σ.2.2.2.2.2.2.2.2.2.2.2.1, .int σ.2.2.2.2.2.2.2.2.2.2.2.2])), (w0, .inl (cJ, 511, .inr (.inl (σ.2.2.2.1)))), (so, .inl (cI, 30, .inl (σ.2.2.2.2.2.2.2.1))), (be, .inl (cI, 30, .inl (σ.2.2.2.2.2.2.2.2.1)))] → va_S A s.heap H locs → lv_has ls 6 [(3, .int x3), (2, .int x2), (0, .ref h0), (1, .int x1)] → W p l e (headSpec wsX4_go ({ frames := 1, cells := 0, slots := 0, locals := 25 } : Room)).room s m ([.ref h0, .int p0] : List Value).toArray below meth c H locs 0 0 (MQ below (va_Qi (fun r u => ∃ σ', post r σ' ∧ u = (cl4 h0 w0 so be cJ cI (σ'))) (kB (dC, dI) [(cJ, .long), (cI, .int)] A) A) ([.ref h0, .int p0] : List Value).toArray s 0 0 A) (F0 m 182 ls [])) →
      ∀ (H : Heap) (locs : List Loc) (ls : Array Slot), va_P (dC, dI) vwCl [(h0, .inr (3, [.int σ.1, .int σ.2.1, .int σ.2.2.1, .ref w0, .int σ.2.2.2.2.1, .int σ.2.2.2.2.2.1, .long σ.2.2.2.2.2.2.1, .ref so, .ref be, .int σ.2.2.2.2.2.2.2.2.2.1, .int σ.2.2.2.2.2.2.2.2.2.2.1, .int σ.2.2.2.2.2.2.2.2.2.2.2.1, .int σ.2.2.2.2.2.2.2.2.2.2.2.2])), (w0, .inl (cJ, 511, .inr (.inl (σ.2.2.2.1)))), (so, .inl (cI, 30, .inl (σ.2.2.2.2.2.2.2.1))), (be, .inl (cI, 30, .inl (σ.2.2.2.2.2.2.2.2.1)))] H → va_D A [(h0, .inr (3, [.int σ.1, .int σ.2.1, .int σ.2.2.1, .ref w0, .int σ.2.2.2.2.1, .int σ.2.2.2.2.2.1, .long σ.2.2.2.2.2.2.1, .ref so, .ref be, .int σ.2.2.2.2.2.2.2.2.2.1, .int σ.2.2.2.2.2.2.2.2.2.2.1, .int σ.2.2.2.2.2.2.2.2.2.2.2.1, .int σ.2.2.2.2.2.2.2.2.2.2.2.2])), (w0, .inl (cJ, 511, .inr (.inl (σ.2.2.2.1)))), (so, .inl (cI, 30, .inl (σ.2.2.2.2.2.2.2.1))), (be, .inl (cI, 30, .inl (σ.2.2.2.2.2.2.2.2.1)))] → va_S A s.heap H locs → lv_has ls 6 [(3, .int x3), (2, .int x2), (0, .ref h0), (1, .int x1)] → W p l e (headSpec wsX4_go ({ frames := 1, cells := 0, slots := 0, locals := 25 } : Room)).room s m ([.ref h0, .int p0] : List Value).toArray below meth c H locs 0 0 (MQ below (va_Qi (fun r u => ∃ σ', post r σ' ∧ u = (cl4 h0 w0 so be cJ cI (σ'))) (kB (dC, dI) [(cJ, .long), (cI, .int)] A) A) ([.ref h0, .int p0] : List Value).toArray s 0 0 A) (F0 m 28 ls []) := by
    intro x1 n
    induction n with
    | zero => intro x2 x3 σ k hw; exact absurd hw id
    | succ n ih =>
      intro x2 x3 σ k hw hk H locs ls hP hD hS hl
      unfold wl_X4_go_28 at hw
      refine lv_iload_n hx hb dX4_go_28 rfl (lv_at hl 0 rfl) ?_
      refine lv_iload_n hx hb dX4_go_29 rfl (lv_at hl 3 rfl) ?_
      refine lv_icmp_ge (tgt := 182) hx hb dX4_go_30 (by decide) (fun c5 => ?_) (fun c5 => ?_)
      · have hw := hw.1 c5
        exact hk x2 x3 σ hw H locs ls hP hD hS (lv_sub hl [0, 1, 2, 3] rfl)
      · have hw := hw.2 c5
        refine lv_aload_n hx hb dX4_go_33 rfl (lv_at hl 2 rfl) ?_
        refine lv_aload_n hx hb dX4_go_34 rfl (lv_at hl 2 rfl) ?_
        refine va_get (D := (dC, dI)) (ci := 3) (v := .long σ.2.2.2.2.2.2.1) (C := RX4) (T := TX4) (N := 13) hx hb hts hin0 hown hK hP 0 rfl rfl 6 (by decide) fl_23 (fun _ h9 => h9) rfl dX4_go_35 ?_
        refine lv_ldc2 (v := (1103515245 : Int64)) hx hb hown (hts (.constantLong RX4 106 (1103515245 : Int64)) (by decide +kernel)) dX4_go_38 ?_
        refine lv_lmul hx hb dX4_go_41 ?_
        refine lv_topl (fun v6 e7 => ?_)
        have hw := hw v6 e7
        refine lv_ldc2 (v := (12345 : Int64)) hx hb hown (hts (.constantLong RX4 108 (12345 : Int64)) (by decide +kernel)) dX4_go_42 ?_
        refine lv_ladd hx hb dX4_go_45 ?_
        refine lv_ldc2 (v := (2147483647 : Int64)) hx hb hown (hts (.constantLong RX4 110 (2147483647 : Int64)) (by decide +kernel)) dX4_go_46 ?_
        refine lv_land hx hb dX4_go_49 ?_
        refine va_put (D := (dC, dI)) (ci := 3) (v := .long ((v6 + (12345 : Int64)) &&& (2147483647 : Int64))) (ty := .long) (C := RX4) (T := TX4) (N := 13) hx hb hts hin0 tyX4 tyX4_ok nmX4 hown hK hP hD hS 0 rfl rfl 6 (by decide) fl_23 (fun _ h9 => h9) rfl (by decide +kernel) rfl rfl (Nat.le_of_ble_eq_true rfl) dX4_go_50 (fun H locs hP hD hS => ?_)
        have hP : va_P (dC, dI) vwCl [(h0, .inr (3, [.int σ.1, .int σ.2.1, .int σ.2.2.1, .ref w0, .int σ.2.2.2.2.1, .int σ.2.2.2.2.2.1, .long ((v6 + (12345 : Int64)) &&& (2147483647 : Int64)), .ref so, .ref be, .int σ.2.2.2.2.2.2.2.2.2.1, .int σ.2.2.2.2.2.2.2.2.2.2.1, .int σ.2.2.2.2.2.2.2.2.2.2.2.1, .int σ.2.2.2.2.2.2.2.2.2.2.2.2])), (w0, .inl (cJ, 511, .inr (.inl (σ.2.2.2.1)))), (so, .inl (cI, 30, .inl (σ.2.2.2.2.2.2.2.1))), (be, .inl (cI, 30, .inl (σ.2.2.2.2.2.2.2.2.1)))] H := hP
        have hD : va_D A [(h0, .inr (3, [.int σ.1, .int σ.2.1, .int σ.2.2.1, .ref w0, .int σ.2.2.2.2.1, .int σ.2.2.2.2.2.1, .long ((v6 + (12345 : Int64)) &&& (2147483647 : Int64)), .ref so, .ref be, .int σ.2.2.2.2.2.2.2.2.2.1, .int σ.2.2.2.2.2.2.2.2.2.2.1, .int σ.2.2.2.2.2.2.2.2.2.2.2.1, .int σ.2.2.2.2.2.2.2.2.2.2.2.2])), (w0, .inl (cJ, 511, .inr (.inl (σ.2.2.2.1)))), (so, .inl (cI, 30, .inl (σ.2.2.2.2.2.2.2.1))), (be, .inl (cI, 30, .inl (σ.2.2.2.2.2.2.2.2.1)))] := hD
        refine lv_aload_n hx hb dX4_go_53 rfl (lv_at hl 2 rfl) ?_
        refine va_get (D := (dC, dI)) (ci := 3) (v := .long ((v6 + (12345 : Int64)) &&& (2147483647 : Int64))) (C := RX4) (T := TX4) (N := 13) hx hb hts hin0 hown hK hP 0 rfl rfl 6 (by decide) fl_23 (fun _ h9 => h9) rfl dX4_go_54 ?_
        refine lv_ldc2 (v := (65536 : Int64)) hx hb hown (hts (.constantLong RX4 112 (65536 : Int64)) (by decide +kernel)) dX4_go_57 ?_
        refine lv_ldiv hx hb dX4_go_60 (by decide) ?_
        refine lv_aload_n hx hb dX4_go_61 rfl (lv_at hl 2 rfl) ?_
        refine va_get (D := (dC, dI)) (ci := 3) (v := .int σ.2.2.2.2.1) (C := RX4) (T := TX4) (N := 13) hx hb hts hin0 hown hK hP 0 rfl rfl 4 (by decide) fl_83 (fun _ h9 => h9) rfl dX4_go_62 ?_
        refine lv_iconst (v := (1 : Int32)) hx hb dX4_go_65 (by decide) ?_
        refine lv_iadd hx hb dX4_go_66 ?_
        refine lv_i2l hx hb dX4_go_67 rfl ?_
        have z8 := hw.1
        have hw := hw.2
        refine lv_lrem hx hb dX4_go_68 z8 ?_
        refine lv_l2i hx hb dX4_go_69 rfl ?_
        refine lv_istore (lv' := [(4, .int (((((v6 + (12345 : Int64)) &&& (2147483647 : Int64)) / (65536 : Int64)) - (((v6 + (12345 : Int64)) &&& (2147483647 : Int64)) / (65536 : Int64)) / ((σ.2.2.2.2.1 + (1 : Int32)).toInt64) * ((σ.2.2.2.2.1 + (1 : Int32)).toInt64)).toInt32)), (3, .int x3), (2, .int x2), (0, .ref h0), (1, .int x1)]) hx hb dX4_go_70 hl (by decide) rfl (fun ls hl => ?_)
        refine lv_iconst (v := (0 : Int32)) hx hb dX4_go_72 (by decide) ?_
        refine lv_istore (lv' := [(5, .int (0 : Int32)), (4, .int (((((v6 + (12345 : Int64)) &&& (2147483647 : Int64)) / (65536 : Int64)) - (((v6 + (12345 : Int64)) &&& (2147483647 : Int64)) / (65536 : Int64)) / ((σ.2.2.2.2.1 + (1 : Int32)).toInt64) * ((σ.2.2.2.2.1 + (1 : Int32)).toInt64)).toInt32)), (3, .int x3), (2, .int x2), (0, .ref h0), (1, .int x1)]) hx hb dX4_go_73 hl (by decide) rfl (fun ls hl => ?_)
        refine lv_iload hx hb dX4_go_75 (lv_at hl 1 rfl) ?_
        refine lv_aload_n hx hb dX4_go_77 rfl (lv_at hl 4 rfl) ?_
        refine va_get (D := (dC, dI)) (ci := 3) (v := .int σ.2.2.2.2.1) (C := RX4) (T := TX4) (N := 13) hx hb hts hin0 hown hK hP 0 rfl rfl 4 (by decide) fl_83 (fun _ h9 => h9) rfl dX4_go_78 ?_
        refine lv_iconst (v := (1 : Int32)) hx hb dX4_go_81 (by decide) ?_
        refine lv_isub hx hb dX4_go_82 ?_
        refine lv_icmp_ge (tgt := 101) hx hb dX4_go_83 (by decide) (fun c9 => ?_) (fun c9 => ?_)
        · have hw := hw.1 c9
          refine lv_iload hx hb dX4_go_101 (lv_at hl 1 rfl) ?_
          refine lv_aload_n hx hb dX4_go_103 rfl (lv_at hl 4 rfl) ?_
          refine va_get (D := (dC, dI)) (ci := 3) (v := .int σ.2.2.2.2.1) (C := RX4) (T := TX4) (N := 13) hx hb hts hin0 hown hK hP 0 rfl rfl 4 (by decide) fl_83 (fun _ h9 => h9) rfl dX4_go_104 ?_
          refine lv_iconst (v := (1 : Int32)) hx hb dX4_go_107 (by decide) ?_
          refine lv_isub hx hb dX4_go_108 ?_
          refine lv_icmp_ne (tgt := 142) hx hb dX4_go_109 (by decide) (fun c10 => ?_) (fun c10 => ?_)
          · have hw := hw.1 c10
            refine lv_aload_n hx hb dX4_go_142 rfl (lv_at hl 4 rfl) ?_
            refine va_get (D := (dC, dI)) (ci := 3) (v := .int σ.2.2.2.2.2.1) (C := RX4) (T := TX4) (N := 13) hx hb hts hin0 hown hK hP 0 rfl rfl 5 (by decide) fl_86 (fun _ h9 => h9) rfl dX4_go_143 ?_
            refine lv_if_eq (tgt := 160) hx hb dX4_go_146 (by decide) (fun c11 => ?_) (fun c11 => ?_)
            · have hw := hw.1 c11
              refine lv_iconst (v := (0 : Int32)) hx hb dX4_go_160 (by decide) ?_
              refine lv_istore (lv' := [(5, .int (0 : Int32)), (4, .int (((((v6 + (12345 : Int64)) &&& (2147483647 : Int64)) / (65536 : Int64)) - (((v6 + (12345 : Int64)) &&& (2147483647 : Int64)) / (65536 : Int64)) / ((σ.2.2.2.2.1 + (1 : Int32)).toInt64) * ((σ.2.2.2.2.1 + (1 : Int32)).toInt64)).toInt32)), (3, .int x3), (2, .int x2), (0, .ref h0), (1, .int x1)]) hx hb dX4_go_161 hl (by decide) rfl (fun ls hl => ?_)
              refine lv_iload_n hx hb dX4_go_163 rfl (lv_at hl 3 rfl) ?_
              refine lv_iload hx hb dX4_go_164 (lv_at hl 0 rfl) ?_
              refine lv_if_eq (tgt := 173) hx hb dX4_go_166 (by decide) (fun _ => ?_) (fun cz => absurd cz (by decide))
              refine lv_iconst (v := (0 : Int32)) hx hb dX4_go_173 (by decide) ?_
              refine lv_iadd hx hb dX4_go_174 ?_
              refine lv_istore_n (lv' := [(2, .int (x2 + (0 : Int32))), (5, .int (0 : Int32)), (4, .int (((((v6 + (12345 : Int64)) &&& (2147483647 : Int64)) / (65536 : Int64)) - (((v6 + (12345 : Int64)) &&& (2147483647 : Int64)) / (65536 : Int64)) / ((σ.2.2.2.2.1 + (1 : Int32)).toInt64) * ((σ.2.2.2.2.1 + (1 : Int32)).toInt64)).toInt32)), (3, .int x3), (0, .ref h0), (1, .int x1)]) hx hb dX4_go_175 rfl hl (by decide) rfl (fun ls hl => ?_)
              refine lv_iinc (v := (x3 + (1 : Int32))) (lv' := [(3, .int (x3 + (1 : Int32))), (2, .int (x2 + (0 : Int32))), (5, .int (0 : Int32)), (4, .int (((((v6 + (12345 : Int64)) &&& (2147483647 : Int64)) / (65536 : Int64)) - (((v6 + (12345 : Int64)) &&& (2147483647 : Int64)) / (65536 : Int64)) / ((σ.2.2.2.2.1 + (1 : Int32)).toInt64) * ((σ.2.2.2.2.1 + (1 : Int32)).toInt64)).toInt32)), (0, .ref h0), (1, .int x1)]) hx hb dX4_go_176 hl (k := 3) rfl rfl (by decide) rfl (fun ls hl => ?_)
              refine lv_goto (tgt := 28) hx hb dX4_go_179 (by decide) ?_
              exact ih (x2 + (0 : Int32)) (x3 + (1 : Int32)) (σ.1, σ.2.1, σ.2.2.1, σ.2.2.2.1, σ.2.2.2.2.1, σ.2.2.2.2.2.1, ((v6 + (12345 : Int64)) &&& (2147483647 : Int64)), σ.2.2.2.2.2.2.2.1, σ.2.2.2.2.2.2.2.2.1, σ.2.2.2.2.2.2.2.2.2.1, σ.2.2.2.2.2.2.2.2.2.2.1, σ.2.2.2.2.2.2.2.2.2.2.2.1, σ.2.2.2.2.2.2.2.2.2.2.2.2) _ hw hk H locs ls hP hD hS (lv_sub hl [0, 1, 4, 5] rfl)
            · have hw := hw.2 c11
              refine lv_aload_n hx hb dX4_go_149 rfl (lv_at hl 4 rfl) ?_
              have hPc := hP
              have hDc := hD
              have hKc := hK
              have hFc := va_free (wc := [(h0, .inr (3, [.int σ.1, .int σ.2.1, .int σ.2.2.1, .ref w0, .int σ.2.2.2.2.1, .int σ.2.2.2.2.2.1, .long ((v6 + (12345 : Int64)) &&& (2147483647 : Int64)), .ref so, .ref be, .int σ.2.2.2.2.2.2.2.2.2.1, .int σ.2.2.2.2.2.2.2.2.2.2.1, .int σ.2.2.2.2.2.2.2.2.2.2.2.1, .int σ.2.2.2.2.2.2.2.2.2.2.2.2])), (w0, .inl (cJ, 511, .inr (.inl (σ.2.2.2.1)))), (so, .inl (cI, 30, .inl (σ.2.2.2.2.2.2.2.1))), (be, .inl (cI, 30, .inl (σ.2.2.2.2.2.2.2.2.1)))]) hD hS hA [0, 1, 2, 3] rfl
              refine kc_i (wr := ([] : va_W)) (kr_V (As := []) (rest := []) (b := h0) (ws := [(h0, .inr (3, [.int σ.1, .int σ.2.1, .int σ.2.2.1, .ref w0, .int σ.2.2.2.2.1, .int σ.2.2.2.2.2.1, .long ((v6 + (12345 : Int64)) &&& (2147483647 : Int64)), .ref so, .ref be, .int σ.2.2.2.2.2.2.2.2.2.1, .int σ.2.2.2.2.2.2.2.2.2.2.1, .int σ.2.2.2.2.2.2.2.2.2.2.2.1, .int σ.2.2.2.2.2.2.2.2.2.2.2.2])), (w0, .inl (cJ, 511, .inr (.inl (σ.2.2.2.1)))), (so, .inl (cI, 30, .inl (σ.2.2.2.2.2.2.2.1))), (be, .inl (cI, 30, .inl (σ.2.2.2.2.2.2.2.2.1)))]) ⟨hx, hb, hml, hown, hts⟩ (c_X4_goes l dC dI h0 w0 so be cJ cI (σ.1, σ.2.1, σ.2.2.1, σ.2.2.2.1, σ.2.2.2.2.1, σ.2.2.2.2.2.1, ((v6 + (12345 : Int64)) &&& (2147483647 : Int64)), σ.2.2.2.2.2.2.2.1, σ.2.2.2.2.2.2.2.2.1, σ.2.2.2.2.2.2.2.2.2.1, σ.2.2.2.2.2.2.2.2.2.2.1, σ.2.2.2.2.2.2.2.2.2.2.2.1, σ.2.2.2.2.2.2.2.2.2.2.2.2)  _ hw H.size) (cwV 0 hts gX4_go_X4_goes rfl rfl rfl (by decide +kernel) ⟨Nat.le_of_ble_eq_true rfl, Nat.le_of_ble_eq_true rfl⟩) 3 0 hK rfl rfl rfl hKc hnw hP hD hPc hDc rfl hl.1 rfl (Nat.le_of_ble_eq_true rfl) dX4_go_150 ⟨Nat.zero_le _, Nat.zero_le _⟩) hP hD hS hFc [0, 1, 2, 3] [] rfl rfl (by decide) (by decide) (fun r12 u1 H locs hq hP hD hS => ?_)
              obtain ⟨σ13, hw, rfl⟩ := hq
              have hP : va_P (dC, dI) vwCl [(h0, .inr (3, [.int σ13.1, .int σ13.2.1, .int σ13.2.2.1, .ref w0, .int σ13.2.2.2.2.1, .int σ13.2.2.2.2.2.1, .long σ13.2.2.2.2.2.2.1, .ref so, .ref be, .int σ13.2.2.2.2.2.2.2.2.2.1, .int σ13.2.2.2.2.2.2.2.2.2.2.1, .int σ13.2.2.2.2.2.2.2.2.2.2.2.1, .int σ13.2.2.2.2.2.2.2.2.2.2.2.2])), (w0, .inl (cJ, 511, .inr (.inl (σ13.2.2.2.1)))), (so, .inl (cI, 30, .inl (σ13.2.2.2.2.2.2.2.1))), (be, .inl (cI, 30, .inl (σ13.2.2.2.2.2.2.2.2.1)))] H := hP
              have hD : va_D A [(h0, .inr (3, [.int σ13.1, .int σ13.2.1, .int σ13.2.2.1, .ref w0, .int σ13.2.2.2.2.1, .int σ13.2.2.2.2.2.1, .long σ13.2.2.2.2.2.2.1, .ref so, .ref be, .int σ13.2.2.2.2.2.2.2.2.2.1, .int σ13.2.2.2.2.2.2.2.2.2.2.1, .int σ13.2.2.2.2.2.2.2.2.2.2.2.1, .int σ13.2.2.2.2.2.2.2.2.2.2.2.2])), (w0, .inl (cJ, 511, .inr (.inl (σ13.2.2.2.1)))), (so, .inl (cI, 30, .inl (σ13.2.2.2.2.2.2.2.1))), (be, .inl (cI, 30, .inl (σ13.2.2.2.2.2.2.2.2.1)))] := hD
              refine lv_if_eq (tgt := 160) hx hb dX4_go_153 (by decide) (fun c14 => ?_) (fun c14 => ?_)
              · have hw := hw.1 c14
                refine lv_iconst (v := (0 : Int32)) hx hb dX4_go_160 (by decide) ?_
                refine lv_istore (lv' := [(5, .int (0 : Int32)), (4, .int (((((v6 + (12345 : Int64)) &&& (2147483647 : Int64)) / (65536 : Int64)) - (((v6 + (12345 : Int64)) &&& (2147483647 : Int64)) / (65536 : Int64)) / ((σ.2.2.2.2.1 + (1 : Int32)).toInt64) * ((σ.2.2.2.2.1 + (1 : Int32)).toInt64)).toInt32)), (3, .int x3), (2, .int x2), (0, .ref h0), (1, .int x1)]) hx hb dX4_go_161 hl (by decide) rfl (fun ls hl => ?_)
                refine lv_iload_n hx hb dX4_go_163 rfl (lv_at hl 3 rfl) ?_
                refine lv_iload hx hb dX4_go_164 (lv_at hl 0 rfl) ?_
                refine lv_if_eq (tgt := 173) hx hb dX4_go_166 (by decide) (fun _ => ?_) (fun cz => absurd cz (by decide))
                refine lv_iconst (v := (0 : Int32)) hx hb dX4_go_173 (by decide) ?_
                refine lv_iadd hx hb dX4_go_174 ?_
                refine lv_istore_n (lv' := [(2, .int (x2 + (0 : Int32))), (5, .int (0 : Int32)), (4, .int (((((v6 + (12345 : Int64)) &&& (2147483647 : Int64)) / (65536 : Int64)) - (((v6 + (12345 : Int64)) &&& (2147483647 : Int64)) / (65536 : Int64)) / ((σ.2.2.2.2.1 + (1 : Int32)).toInt64) * ((σ.2.2.2.2.1 + (1 : Int32)).toInt64)).toInt32)), (3, .int x3), (0, .ref h0), (1, .int x1)]) hx hb dX4_go_175 rfl hl (by decide) rfl (fun ls hl => ?_)
                refine lv_iinc (v := (x3 + (1 : Int32))) (lv' := [(3, .int (x3 + (1 : Int32))), (2, .int (x2 + (0 : Int32))), (5, .int (0 : Int32)), (4, .int (((((v6 + (12345 : Int64)) &&& (2147483647 : Int64)) / (65536 : Int64)) - (((v6 + (12345 : Int64)) &&& (2147483647 : Int64)) / (65536 : Int64)) / ((σ.2.2.2.2.1 + (1 : Int32)).toInt64) * ((σ.2.2.2.2.1 + (1 : Int32)).toInt64)).toInt32)), (0, .ref h0), (1, .int x1)]) hx hb dX4_go_176 hl (k := 3) rfl rfl (by decide) rfl (fun ls hl => ?_)
                refine lv_goto (tgt := 28) hx hb dX4_go_179 (by decide) ?_
                exact ih (x2 + (0 : Int32)) (x3 + (1 : Int32)) σ13 _ hw hk H locs ls hP hD hS (lv_sub hl [0, 1, 4, 5] rfl)
              · have hw := hw.2 c14
                refine lv_iconst (v := (1 : Int32)) hx hb dX4_go_156 (by decide) ?_
                refine lv_goto (tgt := 161) hx hb dX4_go_157 (by decide) ?_
                refine lv_istore (lv' := [(5, .int (1 : Int32)), (4, .int (((((v6 + (12345 : Int64)) &&& (2147483647 : Int64)) / (65536 : Int64)) - (((v6 + (12345 : Int64)) &&& (2147483647 : Int64)) / (65536 : Int64)) / ((σ.2.2.2.2.1 + (1 : Int32)).toInt64) * ((σ.2.2.2.2.1 + (1 : Int32)).toInt64)).toInt32)), (3, .int x3), (2, .int x2), (0, .ref h0), (1, .int x1)]) hx hb dX4_go_161 hl (by decide) rfl (fun ls hl => ?_)
                refine lv_iload_n hx hb dX4_go_163 rfl (lv_at hl 3 rfl) ?_
                refine lv_iload hx hb dX4_go_164 (lv_at hl 0 rfl) ?_
                refine lv_if_eq (tgt := 173) hx hb dX4_go_166 (by decide) (fun cz => absurd cz (by decide)) (fun _ => ?_)
                refine lv_iconst (v := (1 : Int32)) hx hb dX4_go_169 (by decide) ?_
                refine lv_goto (tgt := 174) hx hb dX4_go_170 (by decide) ?_
                refine lv_iadd hx hb dX4_go_174 ?_
                refine lv_istore_n (lv' := [(2, .int (x2 + (1 : Int32))), (5, .int (1 : Int32)), (4, .int (((((v6 + (12345 : Int64)) &&& (2147483647 : Int64)) / (65536 : Int64)) - (((v6 + (12345 : Int64)) &&& (2147483647 : Int64)) / (65536 : Int64)) / ((σ.2.2.2.2.1 + (1 : Int32)).toInt64) * ((σ.2.2.2.2.1 + (1 : Int32)).toInt64)).toInt32)), (3, .int x3), (0, .ref h0), (1, .int x1)]) hx hb dX4_go_175 rfl hl (by decide) rfl (fun ls hl => ?_)
                refine lv_iinc (v := (x3 + (1 : Int32))) (lv' := [(3, .int (x3 + (1 : Int32))), (2, .int (x2 + (1 : Int32))), (5, .int (1 : Int32)), (4, .int (((((v6 + (12345 : Int64)) &&& (2147483647 : Int64)) / (65536 : Int64)) - (((v6 + (12345 : Int64)) &&& (2147483647 : Int64)) / (65536 : Int64)) / ((σ.2.2.2.2.1 + (1 : Int32)).toInt64) * ((σ.2.2.2.2.1 + (1 : Int32)).toInt64)).toInt32)), (0, .ref h0), (1, .int x1)]) hx hb dX4_go_176 hl (k := 3) rfl rfl (by decide) rfl (fun ls hl => ?_)
                refine lv_goto (tgt := 28) hx hb dX4_go_179 (by decide) ?_
                exact ih (x2 + (1 : Int32)) (x3 + (1 : Int32)) σ13 _ hw hk H locs ls hP hD hS (lv_sub hl [0, 1, 4, 5] rfl)
          · have hw := hw.2 c10
            refine lv_aload_n hx hb dX4_go_112 rfl (lv_at hl 4 rfl) ?_
            refine va_get (D := (dC, dI)) (ci := 3) (v := .int σ.2.2.2.2.2.1) (C := RX4) (T := TX4) (N := 13) hx hb hts hin0 hown hK hP 0 rfl rfl 5 (by decide) fl_86 (fun _ h9 => h9) rfl dX4_go_113 ?_
            refine lv_if_eq (tgt := 126) hx hb dX4_go_116 (by decide) (fun c15 => ?_) (fun c15 => ?_)
            · have hw := hw.1 c15
              refine lv_aload_n hx hb dX4_go_126 rfl (lv_at hl 4 rfl) ?_
              refine lv_aload_n hx hb dX4_go_127 rfl (lv_at hl 4 rfl) ?_
              refine va_get (D := (dC, dI)) (ci := 3) (v := .int σ.2.2.2.2.1) (C := RX4) (T := TX4) (N := 13) hx hb hts hin0 hown hK hP 0 rfl rfl 4 (by decide) fl_83 (fun _ h9 => h9) rfl dX4_go_128 ?_
              refine lv_iconst (v := (1 : Int32)) hx hb dX4_go_131 (by decide) ?_
              refine lv_isub hx hb dX4_go_132 ?_
              refine lv_iconst (v := (0 : Int32)) hx hb dX4_go_133 (by decide) ?_
              have hPc := hP
              have hDc := hD
              have hKc := hK
              have hFc := va_free (wc := [(h0, .inr (3, [.int σ.1, .int σ.2.1, .int σ.2.2.1, .ref w0, .int σ.2.2.2.2.1, .int σ.2.2.2.2.2.1, .long ((v6 + (12345 : Int64)) &&& (2147483647 : Int64)), .ref so, .ref be, .int σ.2.2.2.2.2.2.2.2.2.1, .int σ.2.2.2.2.2.2.2.2.2.2.1, .int σ.2.2.2.2.2.2.2.2.2.2.2.1, .int σ.2.2.2.2.2.2.2.2.2.2.2.2])), (w0, .inl (cJ, 511, .inr (.inl (σ.2.2.2.1)))), (so, .inl (cI, 30, .inl (σ.2.2.2.2.2.2.2.1))), (be, .inl (cI, 30, .inl (σ.2.2.2.2.2.2.2.2.1)))]) hD hS hA [0, 1, 2, 3] rfl
              refine kc_i (wr := ([] : va_W)) (kr_V (As := [.int (σ.2.2.2.2.1 - (1 : Int32)), .int (0 : Int32)]) (rest := []) (b := h0) (ws := [(h0, .inr (3, [.int σ.1, .int σ.2.1, .int σ.2.2.1, .ref w0, .int σ.2.2.2.2.1, .int σ.2.2.2.2.2.1, .long ((v6 + (12345 : Int64)) &&& (2147483647 : Int64)), .ref so, .ref be, .int σ.2.2.2.2.2.2.2.2.2.1, .int σ.2.2.2.2.2.2.2.2.2.2.1, .int σ.2.2.2.2.2.2.2.2.2.2.2.1, .int σ.2.2.2.2.2.2.2.2.2.2.2.2])), (w0, .inl (cJ, 511, .inr (.inl (σ.2.2.2.1)))), (so, .inl (cI, 30, .inl (σ.2.2.2.2.2.2.2.1))), (be, .inl (cI, 30, .inl (σ.2.2.2.2.2.2.2.2.1)))]) ⟨hx, hb, hml, hown, hts⟩ (c_X4_changes l dC dI h0 w0 so be cJ cI (σ.1, σ.2.1, σ.2.2.1, σ.2.2.2.1, σ.2.2.2.2.1, σ.2.2.2.2.2.1, ((v6 + (12345 : Int64)) &&& (2147483647 : Int64)), σ.2.2.2.2.2.2.2.1, σ.2.2.2.2.2.2.2.2.1, σ.2.2.2.2.2.2.2.2.2.1, σ.2.2.2.2.2.2.2.2.2.2.1, σ.2.2.2.2.2.2.2.2.2.2.2.1, σ.2.2.2.2.2.2.2.2.2.2.2.2) (σ.2.2.2.2.1 - (1 : Int32)) (0 : Int32) _ hw H.size) (cwV 2 hts gX4_go_X4_changes rfl rfl rfl (by decide +kernel) ⟨Nat.le_of_ble_eq_true rfl, Nat.le_of_ble_eq_true rfl⟩) 3 0 hK rfl rfl rfl hKc hnw hP hD hPc hDc rfl hl.1 rfl (Nat.le_of_ble_eq_true rfl) dX4_go_134 ⟨Nat.zero_le _, Nat.zero_le _⟩) hP hD hS hFc [0, 1, 2, 3] [] rfl rfl (by decide) (by decide) (fun r16 u1 H locs hq hP hD hS => ?_)
              obtain ⟨σ17, hw, rfl⟩ := hq
              have hP : va_P (dC, dI) vwCl [(h0, .inr (3, [.int σ17.1, .int σ17.2.1, .int σ17.2.2.1, .ref w0, .int σ17.2.2.2.2.1, .int σ17.2.2.2.2.2.1, .long σ17.2.2.2.2.2.2.1, .ref so, .ref be, .int σ17.2.2.2.2.2.2.2.2.2.1, .int σ17.2.2.2.2.2.2.2.2.2.2.1, .int σ17.2.2.2.2.2.2.2.2.2.2.2.1, .int σ17.2.2.2.2.2.2.2.2.2.2.2.2])), (w0, .inl (cJ, 511, .inr (.inl (σ17.2.2.2.1)))), (so, .inl (cI, 30, .inl (σ17.2.2.2.2.2.2.2.1))), (be, .inl (cI, 30, .inl (σ17.2.2.2.2.2.2.2.2.1)))] H := hP
              have hD : va_D A [(h0, .inr (3, [.int σ17.1, .int σ17.2.1, .int σ17.2.2.1, .ref w0, .int σ17.2.2.2.2.1, .int σ17.2.2.2.2.2.1, .long σ17.2.2.2.2.2.2.1, .ref so, .ref be, .int σ17.2.2.2.2.2.2.2.2.2.1, .int σ17.2.2.2.2.2.2.2.2.2.2.1, .int σ17.2.2.2.2.2.2.2.2.2.2.2.1, .int σ17.2.2.2.2.2.2.2.2.2.2.2.2])), (w0, .inl (cJ, 511, .inr (.inl (σ17.2.2.2.1)))), (so, .inl (cI, 30, .inl (σ17.2.2.2.2.2.2.2.1))), (be, .inl (cI, 30, .inl (σ17.2.2.2.2.2.2.2.2.1)))] := hD
              refine lv_istore (lv' := [(5, .int r16), (4, .int (((((v6 + (12345 : Int64)) &&& (2147483647 : Int64)) / (65536 : Int64)) - (((v6 + (12345 : Int64)) &&& (2147483647 : Int64)) / (65536 : Int64)) / ((σ.2.2.2.2.1 + (1 : Int32)).toInt64) * ((σ.2.2.2.2.1 + (1 : Int32)).toInt64)).toInt32)), (3, .int x3), (2, .int x2), (0, .ref h0), (1, .int x1)]) hx hb dX4_go_137 hl (by decide) rfl (fun ls hl => ?_)
              refine lv_goto (tgt := 163) hx hb dX4_go_139 (by decide) ?_
              refine lv_iload_n hx hb dX4_go_163 rfl (lv_at hl 3 rfl) ?_
              refine lv_iload hx hb dX4_go_164 (lv_at hl 0 rfl) ?_
              refine lv_if_eq (tgt := 173) hx hb dX4_go_166 (by decide) (fun c18 => ?_) (fun c18 => ?_)
              · have hw := hw.1 c18
                refine lv_iconst (v := (0 : Int32)) hx hb dX4_go_173 (by decide) ?_
                refine lv_iadd hx hb dX4_go_174 ?_
                refine lv_istore_n (lv' := [(2, .int (x2 + (0 : Int32))), (5, .int r16), (4, .int (((((v6 + (12345 : Int64)) &&& (2147483647 : Int64)) / (65536 : Int64)) - (((v6 + (12345 : Int64)) &&& (2147483647 : Int64)) / (65536 : Int64)) / ((σ.2.2.2.2.1 + (1 : Int32)).toInt64) * ((σ.2.2.2.2.1 + (1 : Int32)).toInt64)).toInt32)), (3, .int x3), (0, .ref h0), (1, .int x1)]) hx hb dX4_go_175 rfl hl (by decide) rfl (fun ls hl => ?_)
                refine lv_iinc (v := (x3 + (1 : Int32))) (lv' := [(3, .int (x3 + (1 : Int32))), (2, .int (x2 + (0 : Int32))), (5, .int r16), (4, .int (((((v6 + (12345 : Int64)) &&& (2147483647 : Int64)) / (65536 : Int64)) - (((v6 + (12345 : Int64)) &&& (2147483647 : Int64)) / (65536 : Int64)) / ((σ.2.2.2.2.1 + (1 : Int32)).toInt64) * ((σ.2.2.2.2.1 + (1 : Int32)).toInt64)).toInt32)), (0, .ref h0), (1, .int x1)]) hx hb dX4_go_176 hl (k := 3) rfl rfl (by decide) rfl (fun ls hl => ?_)
                refine lv_goto (tgt := 28) hx hb dX4_go_179 (by decide) ?_
                exact ih (x2 + (0 : Int32)) (x3 + (1 : Int32)) σ17 _ hw hk H locs ls hP hD hS (lv_sub hl [0, 1, 4, 5] rfl)
              · have hw := hw.2 c18
                refine lv_iconst (v := (1 : Int32)) hx hb dX4_go_169 (by decide) ?_
                refine lv_goto (tgt := 174) hx hb dX4_go_170 (by decide) ?_
                refine lv_iadd hx hb dX4_go_174 ?_
                refine lv_istore_n (lv' := [(2, .int (x2 + (1 : Int32))), (5, .int r16), (4, .int (((((v6 + (12345 : Int64)) &&& (2147483647 : Int64)) / (65536 : Int64)) - (((v6 + (12345 : Int64)) &&& (2147483647 : Int64)) / (65536 : Int64)) / ((σ.2.2.2.2.1 + (1 : Int32)).toInt64) * ((σ.2.2.2.2.1 + (1 : Int32)).toInt64)).toInt32)), (3, .int x3), (0, .ref h0), (1, .int x1)]) hx hb dX4_go_175 rfl hl (by decide) rfl (fun ls hl => ?_)
                refine lv_iinc (v := (x3 + (1 : Int32))) (lv' := [(3, .int (x3 + (1 : Int32))), (2, .int (x2 + (1 : Int32))), (5, .int r16), (4, .int (((((v6 + (12345 : Int64)) &&& (2147483647 : Int64)) / (65536 : Int64)) - (((v6 + (12345 : Int64)) &&& (2147483647 : Int64)) / (65536 : Int64)) / ((σ.2.2.2.2.1 + (1 : Int32)).toInt64) * ((σ.2.2.2.2.1 + (1 : Int32)).toInt64)).toInt32)), (0, .ref h0), (1, .int x1)]) hx hb dX4_go_176 hl (k := 3) rfl rfl (by decide) rfl (fun ls hl => ?_)
                refine lv_goto (tgt := 28) hx hb dX4_go_179 (by decide) ?_
                exact ih (x2 + (1 : Int32)) (x3 + (1 : Int32)) σ17 _ hw hk H locs ls hP hD hS (lv_sub hl [0, 1, 4, 5] rfl)
            · have hw := hw.2 c15
              refine lv_aload_n hx hb dX4_go_119 rfl (lv_at hl 4 rfl) ?_
              have hPc := hP
              have hDc := hD
              have hKc := hK
              have hFc := va_free (wc := [(h0, .inr (3, [.int σ.1, .int σ.2.1, .int σ.2.2.1, .ref w0, .int σ.2.2.2.2.1, .int σ.2.2.2.2.2.1, .long ((v6 + (12345 : Int64)) &&& (2147483647 : Int64)), .ref so, .ref be, .int σ.2.2.2.2.2.2.2.2.2.1, .int σ.2.2.2.2.2.2.2.2.2.2.1, .int σ.2.2.2.2.2.2.2.2.2.2.2.1, .int σ.2.2.2.2.2.2.2.2.2.2.2.2])), (w0, .inl (cJ, 511, .inr (.inl (σ.2.2.2.1)))), (so, .inl (cI, 30, .inl (σ.2.2.2.2.2.2.2.1))), (be, .inl (cI, 30, .inl (σ.2.2.2.2.2.2.2.2.1)))]) hD hS hA [0, 1, 2, 3] rfl
              refine kc_i (wr := ([] : va_W)) (kr_V (As := []) (rest := []) (b := h0) (ws := [(h0, .inr (3, [.int σ.1, .int σ.2.1, .int σ.2.2.1, .ref w0, .int σ.2.2.2.2.1, .int σ.2.2.2.2.2.1, .long ((v6 + (12345 : Int64)) &&& (2147483647 : Int64)), .ref so, .ref be, .int σ.2.2.2.2.2.2.2.2.2.1, .int σ.2.2.2.2.2.2.2.2.2.2.1, .int σ.2.2.2.2.2.2.2.2.2.2.2.1, .int σ.2.2.2.2.2.2.2.2.2.2.2.2])), (w0, .inl (cJ, 511, .inr (.inl (σ.2.2.2.1)))), (so, .inl (cI, 30, .inl (σ.2.2.2.2.2.2.2.1))), (be, .inl (cI, 30, .inl (σ.2.2.2.2.2.2.2.2.1)))]) ⟨hx, hb, hml, hown, hts⟩ (c_X4_comes l dC dI h0 w0 so be cJ cI (σ.1, σ.2.1, σ.2.2.1, σ.2.2.2.1, σ.2.2.2.2.1, σ.2.2.2.2.2.1, ((v6 + (12345 : Int64)) &&& (2147483647 : Int64)), σ.2.2.2.2.2.2.2.1, σ.2.2.2.2.2.2.2.2.1, σ.2.2.2.2.2.2.2.2.2.1, σ.2.2.2.2.2.2.2.2.2.2.1, σ.2.2.2.2.2.2.2.2.2.2.2.1, σ.2.2.2.2.2.2.2.2.2.2.2.2)  _ hw H.size) (cwV 0 hts gX4_go_X4_comes rfl rfl rfl (by decide +kernel) ⟨Nat.le_of_ble_eq_true rfl, Nat.le_of_ble_eq_true rfl⟩) 3 0 hK rfl rfl rfl hKc hnw hP hD hPc hDc rfl hl.1 rfl (Nat.le_of_ble_eq_true rfl) dX4_go_120 ⟨Nat.zero_le _, Nat.zero_le _⟩) hP hD hS hFc [0, 1, 2, 3] [] rfl rfl (by decide) (by decide) (fun r19 u1 H locs hq hP hD hS => ?_)
              obtain ⟨σ20, hw, rfl⟩ := hq
              have hP : va_P (dC, dI) vwCl [(h0, .inr (3, [.int σ20.1, .int σ20.2.1, .int σ20.2.2.1, .ref w0, .int σ20.2.2.2.2.1, .int σ20.2.2.2.2.2.1, .long σ20.2.2.2.2.2.2.1, .ref so, .ref be, .int σ20.2.2.2.2.2.2.2.2.2.1, .int σ20.2.2.2.2.2.2.2.2.2.2.1, .int σ20.2.2.2.2.2.2.2.2.2.2.2.1, .int σ20.2.2.2.2.2.2.2.2.2.2.2.2])), (w0, .inl (cJ, 511, .inr (.inl (σ20.2.2.2.1)))), (so, .inl (cI, 30, .inl (σ20.2.2.2.2.2.2.2.1))), (be, .inl (cI, 30, .inl (σ20.2.2.2.2.2.2.2.2.1)))] H := hP
              have hD : va_D A [(h0, .inr (3, [.int σ20.1, .int σ20.2.1, .int σ20.2.2.1, .ref w0, .int σ20.2.2.2.2.1, .int σ20.2.2.2.2.2.1, .long σ20.2.2.2.2.2.2.1, .ref so, .ref be, .int σ20.2.2.2.2.2.2.2.2.2.1, .int σ20.2.2.2.2.2.2.2.2.2.2.1, .int σ20.2.2.2.2.2.2.2.2.2.2.2.1, .int σ20.2.2.2.2.2.2.2.2.2.2.2.2])), (w0, .inl (cJ, 511, .inr (.inl (σ20.2.2.2.1)))), (so, .inl (cI, 30, .inl (σ20.2.2.2.2.2.2.2.1))), (be, .inl (cI, 30, .inl (σ20.2.2.2.2.2.2.2.2.1)))] := hD
              refine lv_goto (tgt := 137) hx hb dX4_go_123 (by decide) ?_
              refine lv_istore (lv' := [(5, .int r19), (4, .int (((((v6 + (12345 : Int64)) &&& (2147483647 : Int64)) / (65536 : Int64)) - (((v6 + (12345 : Int64)) &&& (2147483647 : Int64)) / (65536 : Int64)) / ((σ.2.2.2.2.1 + (1 : Int32)).toInt64) * ((σ.2.2.2.2.1 + (1 : Int32)).toInt64)).toInt32)), (3, .int x3), (2, .int x2), (0, .ref h0), (1, .int x1)]) hx hb dX4_go_137 hl (by decide) rfl (fun ls hl => ?_)
              refine lv_goto (tgt := 163) hx hb dX4_go_139 (by decide) ?_
              refine lv_iload_n hx hb dX4_go_163 rfl (lv_at hl 3 rfl) ?_
              refine lv_iload hx hb dX4_go_164 (lv_at hl 0 rfl) ?_
              refine lv_if_eq (tgt := 173) hx hb dX4_go_166 (by decide) (fun c21 => ?_) (fun c21 => ?_)
              · have hw := hw.1 c21
                refine lv_iconst (v := (0 : Int32)) hx hb dX4_go_173 (by decide) ?_
                refine lv_iadd hx hb dX4_go_174 ?_
                refine lv_istore_n (lv' := [(2, .int (x2 + (0 : Int32))), (5, .int r19), (4, .int (((((v6 + (12345 : Int64)) &&& (2147483647 : Int64)) / (65536 : Int64)) - (((v6 + (12345 : Int64)) &&& (2147483647 : Int64)) / (65536 : Int64)) / ((σ.2.2.2.2.1 + (1 : Int32)).toInt64) * ((σ.2.2.2.2.1 + (1 : Int32)).toInt64)).toInt32)), (3, .int x3), (0, .ref h0), (1, .int x1)]) hx hb dX4_go_175 rfl hl (by decide) rfl (fun ls hl => ?_)
                refine lv_iinc (v := (x3 + (1 : Int32))) (lv' := [(3, .int (x3 + (1 : Int32))), (2, .int (x2 + (0 : Int32))), (5, .int r19), (4, .int (((((v6 + (12345 : Int64)) &&& (2147483647 : Int64)) / (65536 : Int64)) - (((v6 + (12345 : Int64)) &&& (2147483647 : Int64)) / (65536 : Int64)) / ((σ.2.2.2.2.1 + (1 : Int32)).toInt64) * ((σ.2.2.2.2.1 + (1 : Int32)).toInt64)).toInt32)), (0, .ref h0), (1, .int x1)]) hx hb dX4_go_176 hl (k := 3) rfl rfl (by decide) rfl (fun ls hl => ?_)
                refine lv_goto (tgt := 28) hx hb dX4_go_179 (by decide) ?_
                exact ih (x2 + (0 : Int32)) (x3 + (1 : Int32)) σ20 _ hw hk H locs ls hP hD hS (lv_sub hl [0, 1, 4, 5] rfl)
              · have hw := hw.2 c21
                refine lv_iconst (v := (1 : Int32)) hx hb dX4_go_169 (by decide) ?_
                refine lv_goto (tgt := 174) hx hb dX4_go_170 (by decide) ?_
                refine lv_iadd hx hb dX4_go_174 ?_
                refine lv_istore_n (lv' := [(2, .int (x2 + (1 : Int32))), (5, .int r19), (4, .int (((((v6 + (12345 : Int64)) &&& (2147483647 : Int64)) / (65536 : Int64)) - (((v6 + (12345 : Int64)) &&& (2147483647 : Int64)) / (65536 : Int64)) / ((σ.2.2.2.2.1 + (1 : Int32)).toInt64) * ((σ.2.2.2.2.1 + (1 : Int32)).toInt64)).toInt32)), (3, .int x3), (0, .ref h0), (1, .int x1)]) hx hb dX4_go_175 rfl hl (by decide) rfl (fun ls hl => ?_)
                refine lv_iinc (v := (x3 + (1 : Int32))) (lv' := [(3, .int (x3 + (1 : Int32))), (2, .int (x2 + (1 : Int32))), (5, .int r19), (4, .int (((((v6 + (12345 : Int64)) &&& (2147483647 : Int64)) / (65536 : Int64)) - (((v6 + (12345 : Int64)) &&& (2147483647 : Int64)) / (65536 : Int64)) / ((σ.2.2.2.2.1 + (1 : Int32)).toInt64) * ((σ.2.2.2.2.1 + (1 : Int32)).toInt64)).toInt32)), (0, .ref h0), (1, .int x1)]) hx hb dX4_go_176 hl (k := 3) rfl rfl (by decide) rfl (fun ls hl => ?_)
                refine lv_goto (tgt := 28) hx hb dX4_go_179 (by decide) ?_
                exact ih (x2 + (1 : Int32)) (x3 + (1 : Int32)) σ20 _ hw hk H locs ls hP hD hS (lv_sub hl [0, 1, 4, 5] rfl)
        · have hw := hw.2 c9
          refine lv_aload_n hx hb dX4_go_86 rfl (lv_at hl 4 rfl) ?_
          refine lv_iload hx hb dX4_go_87 (lv_at hl 1 rfl) ?_
          refine lv_iload hx hb dX4_go_89 (lv_at hl 1 rfl) ?_
          refine lv_iconst (v := (1 : Int32)) hx hb dX4_go_91 (by decide) ?_
          refine lv_iadd hx hb dX4_go_92 ?_
          have hPc := hP
          have hDc := hD
          have hKc := hK
          have hFc := va_free (wc := [(h0, .inr (3, [.int σ.1, .int σ.2.1, .int σ.2.2.1, .ref w0, .int σ.2.2.2.2.1, .int σ.2.2.2.2.2.1, .long ((v6 + (12345 : Int64)) &&& (2147483647 : Int64)), .ref so, .ref be, .int σ.2.2.2.2.2.2.2.2.2.1, .int σ.2.2.2.2.2.2.2.2.2.2.1, .int σ.2.2.2.2.2.2.2.2.2.2.2.1, .int σ.2.2.2.2.2.2.2.2.2.2.2.2])), (w0, .inl (cJ, 511, .inr (.inl (σ.2.2.2.1)))), (so, .inl (cI, 30, .inl (σ.2.2.2.2.2.2.2.1))), (be, .inl (cI, 30, .inl (σ.2.2.2.2.2.2.2.2.1)))]) hD hS hA [0, 1, 2, 3] rfl
          refine kc_i (wr := ([] : va_W)) (kr_V (As := [.int (((((v6 + (12345 : Int64)) &&& (2147483647 : Int64)) / (65536 : Int64)) - (((v6 + (12345 : Int64)) &&& (2147483647 : Int64)) / (65536 : Int64)) / ((σ.2.2.2.2.1 + (1 : Int32)).toInt64) * ((σ.2.2.2.2.1 + (1 : Int32)).toInt64)).toInt32), .int ((((((v6 + (12345 : Int64)) &&& (2147483647 : Int64)) / (65536 : Int64)) - (((v6 + (12345 : Int64)) &&& (2147483647 : Int64)) / (65536 : Int64)) / ((σ.2.2.2.2.1 + (1 : Int32)).toInt64) * ((σ.2.2.2.2.1 + (1 : Int32)).toInt64)).toInt32) + (1 : Int32))]) (rest := []) (b := h0) (ws := [(h0, .inr (3, [.int σ.1, .int σ.2.1, .int σ.2.2.1, .ref w0, .int σ.2.2.2.2.1, .int σ.2.2.2.2.2.1, .long ((v6 + (12345 : Int64)) &&& (2147483647 : Int64)), .ref so, .ref be, .int σ.2.2.2.2.2.2.2.2.2.1, .int σ.2.2.2.2.2.2.2.2.2.2.1, .int σ.2.2.2.2.2.2.2.2.2.2.2.1, .int σ.2.2.2.2.2.2.2.2.2.2.2.2])), (w0, .inl (cJ, 511, .inr (.inl (σ.2.2.2.1)))), (so, .inl (cI, 30, .inl (σ.2.2.2.2.2.2.2.1))), (be, .inl (cI, 30, .inl (σ.2.2.2.2.2.2.2.2.1)))]) ⟨hx, hb, hml, hown, hts⟩ (c_X4_changes l dC dI h0 w0 so be cJ cI (σ.1, σ.2.1, σ.2.2.1, σ.2.2.2.1, σ.2.2.2.2.1, σ.2.2.2.2.2.1, ((v6 + (12345 : Int64)) &&& (2147483647 : Int64)), σ.2.2.2.2.2.2.2.1, σ.2.2.2.2.2.2.2.2.1, σ.2.2.2.2.2.2.2.2.2.1, σ.2.2.2.2.2.2.2.2.2.2.1, σ.2.2.2.2.2.2.2.2.2.2.2.1, σ.2.2.2.2.2.2.2.2.2.2.2.2) (((((v6 + (12345 : Int64)) &&& (2147483647 : Int64)) / (65536 : Int64)) - (((v6 + (12345 : Int64)) &&& (2147483647 : Int64)) / (65536 : Int64)) / ((σ.2.2.2.2.1 + (1 : Int32)).toInt64) * ((σ.2.2.2.2.1 + (1 : Int32)).toInt64)).toInt32) ((((((v6 + (12345 : Int64)) &&& (2147483647 : Int64)) / (65536 : Int64)) - (((v6 + (12345 : Int64)) &&& (2147483647 : Int64)) / (65536 : Int64)) / ((σ.2.2.2.2.1 + (1 : Int32)).toInt64) * ((σ.2.2.2.2.1 + (1 : Int32)).toInt64)).toInt32) + (1 : Int32)) _ hw H.size) (cwV 2 hts gX4_go_X4_changes rfl rfl rfl (by decide +kernel) ⟨Nat.le_of_ble_eq_true rfl, Nat.le_of_ble_eq_true rfl⟩) 3 0 hK rfl rfl rfl hKc hnw hP hD hPc hDc rfl hl.1 rfl (Nat.le_of_ble_eq_true rfl) dX4_go_93 ⟨Nat.zero_le _, Nat.zero_le _⟩) hP hD hS hFc [0, 1, 2, 3] [] rfl rfl (by decide) (by decide) (fun r22 u1 H locs hq hP hD hS => ?_)
          obtain ⟨σ23, hw, rfl⟩ := hq
          have hP : va_P (dC, dI) vwCl [(h0, .inr (3, [.int σ23.1, .int σ23.2.1, .int σ23.2.2.1, .ref w0, .int σ23.2.2.2.2.1, .int σ23.2.2.2.2.2.1, .long σ23.2.2.2.2.2.2.1, .ref so, .ref be, .int σ23.2.2.2.2.2.2.2.2.2.1, .int σ23.2.2.2.2.2.2.2.2.2.2.1, .int σ23.2.2.2.2.2.2.2.2.2.2.2.1, .int σ23.2.2.2.2.2.2.2.2.2.2.2.2])), (w0, .inl (cJ, 511, .inr (.inl (σ23.2.2.2.1)))), (so, .inl (cI, 30, .inl (σ23.2.2.2.2.2.2.2.1))), (be, .inl (cI, 30, .inl (σ23.2.2.2.2.2.2.2.2.1)))] H := hP
          have hD : va_D A [(h0, .inr (3, [.int σ23.1, .int σ23.2.1, .int σ23.2.2.1, .ref w0, .int σ23.2.2.2.2.1, .int σ23.2.2.2.2.2.1, .long σ23.2.2.2.2.2.2.1, .ref so, .ref be, .int σ23.2.2.2.2.2.2.2.2.2.1, .int σ23.2.2.2.2.2.2.2.2.2.2.1, .int σ23.2.2.2.2.2.2.2.2.2.2.2.1, .int σ23.2.2.2.2.2.2.2.2.2.2.2.2])), (w0, .inl (cJ, 511, .inr (.inl (σ23.2.2.2.1)))), (so, .inl (cI, 30, .inl (σ23.2.2.2.2.2.2.2.1))), (be, .inl (cI, 30, .inl (σ23.2.2.2.2.2.2.2.2.1)))] := hD
          refine lv_istore (lv' := [(5, .int r22), (4, .int (((((v6 + (12345 : Int64)) &&& (2147483647 : Int64)) / (65536 : Int64)) - (((v6 + (12345 : Int64)) &&& (2147483647 : Int64)) / (65536 : Int64)) / ((σ.2.2.2.2.1 + (1 : Int32)).toInt64) * ((σ.2.2.2.2.1 + (1 : Int32)).toInt64)).toInt32)), (3, .int x3), (2, .int x2), (0, .ref h0), (1, .int x1)]) hx hb dX4_go_96 hl (by decide) rfl (fun ls hl => ?_)
          refine lv_goto (tgt := 163) hx hb dX4_go_98 (by decide) ?_
          refine lv_iload_n hx hb dX4_go_163 rfl (lv_at hl 3 rfl) ?_
          refine lv_iload hx hb dX4_go_164 (lv_at hl 0 rfl) ?_
          refine lv_if_eq (tgt := 173) hx hb dX4_go_166 (by decide) (fun c24 => ?_) (fun c24 => ?_)
          · have hw := hw.1 c24
            refine lv_iconst (v := (0 : Int32)) hx hb dX4_go_173 (by decide) ?_
            refine lv_iadd hx hb dX4_go_174 ?_
            refine lv_istore_n (lv' := [(2, .int (x2 + (0 : Int32))), (5, .int r22), (4, .int (((((v6 + (12345 : Int64)) &&& (2147483647 : Int64)) / (65536 : Int64)) - (((v6 + (12345 : Int64)) &&& (2147483647 : Int64)) / (65536 : Int64)) / ((σ.2.2.2.2.1 + (1 : Int32)).toInt64) * ((σ.2.2.2.2.1 + (1 : Int32)).toInt64)).toInt32)), (3, .int x3), (0, .ref h0), (1, .int x1)]) hx hb dX4_go_175 rfl hl (by decide) rfl (fun ls hl => ?_)
            refine lv_iinc (v := (x3 + (1 : Int32))) (lv' := [(3, .int (x3 + (1 : Int32))), (2, .int (x2 + (0 : Int32))), (5, .int r22), (4, .int (((((v6 + (12345 : Int64)) &&& (2147483647 : Int64)) / (65536 : Int64)) - (((v6 + (12345 : Int64)) &&& (2147483647 : Int64)) / (65536 : Int64)) / ((σ.2.2.2.2.1 + (1 : Int32)).toInt64) * ((σ.2.2.2.2.1 + (1 : Int32)).toInt64)).toInt32)), (0, .ref h0), (1, .int x1)]) hx hb dX4_go_176 hl (k := 3) rfl rfl (by decide) rfl (fun ls hl => ?_)
            refine lv_goto (tgt := 28) hx hb dX4_go_179 (by decide) ?_
            exact ih (x2 + (0 : Int32)) (x3 + (1 : Int32)) σ23 _ hw hk H locs ls hP hD hS (lv_sub hl [0, 1, 4, 5] rfl)
          · have hw := hw.2 c24
            refine lv_iconst (v := (1 : Int32)) hx hb dX4_go_169 (by decide) ?_
            refine lv_goto (tgt := 174) hx hb dX4_go_170 (by decide) ?_
            refine lv_iadd hx hb dX4_go_174 ?_
            refine lv_istore_n (lv' := [(2, .int (x2 + (1 : Int32))), (5, .int r22), (4, .int (((((v6 + (12345 : Int64)) &&& (2147483647 : Int64)) / (65536 : Int64)) - (((v6 + (12345 : Int64)) &&& (2147483647 : Int64)) / (65536 : Int64)) / ((σ.2.2.2.2.1 + (1 : Int32)).toInt64) * ((σ.2.2.2.2.1 + (1 : Int32)).toInt64)).toInt32)), (3, .int x3), (0, .ref h0), (1, .int x1)]) hx hb dX4_go_175 rfl hl (by decide) rfl (fun ls hl => ?_)
            refine lv_iinc (v := (x3 + (1 : Int32))) (lv' := [(3, .int (x3 + (1 : Int32))), (2, .int (x2 + (1 : Int32))), (5, .int r22), (4, .int (((((v6 + (12345 : Int64)) &&& (2147483647 : Int64)) / (65536 : Int64)) - (((v6 + (12345 : Int64)) &&& (2147483647 : Int64)) / (65536 : Int64)) / ((σ.2.2.2.2.1 + (1 : Int32)).toInt64) * ((σ.2.2.2.2.1 + (1 : Int32)).toInt64)).toInt32)), (0, .ref h0), (1, .int x1)]) hx hb dX4_go_176 hl (k := 3) rfl rfl (by decide) rfl (fun ls hl => ?_)
            refine lv_goto (tgt := 28) hx hb dX4_go_179 (by decide) ?_
            exact ih (x2 + (1 : Int32)) (x3 + (1 : Int32)) σ23 _ hw hk H locs ls hP hD hS (lv_sub hl [0, 1, 4, 5] rfl)
  have hl := lv_entry ([.ref h0, .int p0]) (n := 6) (Nat.le_of_ble_eq_true rfl)
  rw [lg_entry_eq]
  generalize (lg_sl ([.ref h0, .int p0]) ++ List.replicate (6 - (lg_sl ([.ref h0, .int p0])).length) Slot.unset).toArray = ls at hl ⊢
  have hl : lv_has ls 6 [(0, .ref h0), (1, .int p0)] := hl
  unfold wp_X4_go at hw
  skip
  obtain ⟨H, hH⟩ : ∃ H, H = s.heap := ⟨_, rfl⟩
  obtain ⟨locs, hlo⟩ : ∃ q : List Loc, q = [] := ⟨_, rfl⟩
  rw [← hH] at hP
  have hS : va_S A s.heap H locs := by rw [hH, hlo]; exact hS
  suffices hgo : W p l e (headSpec wsX4_go ({ frames := 1, cells := 0, slots := 0, locals := 25 } : Room)).room s m _ below meth c H locs 0 0 _ (F0 m 0 ls []) by rw [hH, hlo] at hgo; exact hgo
  refine lv_iload_n hx hb dX4_go_0 rfl (lv_at hl 1 rfl) ?_
  refine lv_i2l hx hb dX4_go_1 rfl ?_
  refine lv_lconst (v := (1 : Int64)) hx hb dX4_go_2 (by decide) ?_
  refine lv_ldc2 (v := (10000 : Int64)) hx hb hown (hts (.constantLong RX4 104 (10000 : Int64)) (by decide +kernel)) dX4_go_3 ?_
  have hPc := hP.sub (ws' := ([] : va_W)) [] rfl
  have hDc := hD.sub (ws' := ([] : va_W)) [] (by decide) rfl
  have hKc := hK.sub (tys' := []) [] rfl
  have hFc := va_free (wc := ([] : va_W)) hD hS hA [] rfl
  refine kc_i (wr := [(h0, .inr (3, [.int σ.1, .int σ.2.1, .int σ.2.2.1, .ref w0, .int σ.2.2.2.2.1, .int σ.2.2.2.2.2.1, .long σ.2.2.2.2.2.2.1, .ref so, .ref be, .int σ.2.2.2.2.2.2.2.2.2.1, .int σ.2.2.2.2.2.2.2.2.2.2.1, .int σ.2.2.2.2.2.2.2.2.2.2.2.1, .int σ.2.2.2.2.2.2.2.2.2.2.2.2])), (w0, .inl (cJ, 511, .inr (.inl (σ.2.2.2.1)))), (so, .inl (cI, 30, .inl (σ.2.2.2.2.2.2.2.1))), (be, .inl (cI, 30, .inl (σ.2.2.2.2.2.2.2.2.1)))]) (kr_S (As := [.long (p0.toInt64), .long (1 : Int64), .long (10000 : Int64)]) (rest := []) (ws := [(h0, .inr (3, [.int σ.1, .int σ.2.1, .int σ.2.2.1, .ref w0, .int σ.2.2.2.2.1, .int σ.2.2.2.2.2.1, .long σ.2.2.2.2.2.2.1, .ref so, .ref be, .int σ.2.2.2.2.2.2.2.2.2.1, .int σ.2.2.2.2.2.2.2.2.2.2.1, .int σ.2.2.2.2.2.2.2.2.2.2.2.1, .int σ.2.2.2.2.2.2.2.2.2.2.2.2])), (w0, .inl (cJ, 511, .inr (.inl (σ.2.2.2.1)))), (so, .inl (cI, 30, .inl (σ.2.2.2.2.2.2.2.1))), (be, .inl (cI, 30, .inl (σ.2.2.2.2.2.2.2.2.1)))]) ⟨hx, hb, hml, hown, hts⟩ (c_X4_in l dC dI   (p0.toInt64) (1 : Int64) (10000 : Int64) _ hw H.size) (va_cwS 3 hts gX4_go_X4_in rfl rfl rfl (by decide +kernel) ⟨Nat.le_of_ble_eq_true rfl, Nat.le_of_ble_eq_true rfl⟩) hKc hnw hP hD hPc hDc rfl hl.1 rfl (Nat.le_of_ble_eq_true rfl) dX4_go_6 ⟨Nat.zero_le _, Nat.zero_le _⟩) hP hD hS hFc [] [0, 1, 2, 3] rfl rfl (by decide) (by decide) (fun r1 u1 H locs hq hP hD hS => ?_)
  obtain ⟨hw, rfl⟩ := hq
  have hP : va_P (dC, dI) vwCl [(h0, .inr (3, [.int σ.1, .int σ.2.1, .int σ.2.2.1, .ref w0, .int σ.2.2.2.2.1, .int σ.2.2.2.2.2.1, .long σ.2.2.2.2.2.2.1, .ref so, .ref be, .int σ.2.2.2.2.2.2.2.2.2.1, .int σ.2.2.2.2.2.2.2.2.2.2.1, .int σ.2.2.2.2.2.2.2.2.2.2.2.1, .int σ.2.2.2.2.2.2.2.2.2.2.2.2])), (w0, .inl (cJ, 511, .inr (.inl (σ.2.2.2.1)))), (so, .inl (cI, 30, .inl (σ.2.2.2.2.2.2.2.1))), (be, .inl (cI, 30, .inl (σ.2.2.2.2.2.2.2.2.1)))] H := hP
  have hD : va_D A [(h0, .inr (3, [.int σ.1, .int σ.2.1, .int σ.2.2.1, .ref w0, .int σ.2.2.2.2.1, .int σ.2.2.2.2.2.1, .long σ.2.2.2.2.2.2.1, .ref so, .ref be, .int σ.2.2.2.2.2.2.2.2.2.1, .int σ.2.2.2.2.2.2.2.2.2.2.1, .int σ.2.2.2.2.2.2.2.2.2.2.2.1, .int σ.2.2.2.2.2.2.2.2.2.2.2.2])), (w0, .inl (cJ, 511, .inr (.inl (σ.2.2.2.1)))), (so, .inl (cI, 30, .inl (σ.2.2.2.2.2.2.2.1))), (be, .inl (cI, 30, .inl (σ.2.2.2.2.2.2.2.2.1)))] := hD
  refine lv_if_ne (tgt := 14) hx hb dX4_go_9 (by decide) (fun c3 => ?_) (fun c3 => ?_)
  · have hw := hw.1 c3
    refine lv_aload_n hx hb dX4_go_14 rfl (lv_at hl 0 rfl) ?_
    refine va_get (D := (dC, dI)) (ci := 3) (v := .int σ.2.2.2.2.1) (C := RX4) (T := TX4) (N := 13) hx hb hts hin0 hown hK hP 0 rfl rfl 4 (by decide) fl_83 (fun _ h9 => h9) rfl dX4_go_15 ?_
    refine lv_if_ne (tgt := 24) hx hb dX4_go_18 (by decide) (fun c4 => ?_) (fun c4 => ?_)
    · have hw := hw.1 c4
      refine lv_iconst (v := (0 : Int32)) hx hb dX4_go_24 (by decide) ?_
      refine lv_istore_n (lv' := [(2, .int (0 : Int32)), (0, .ref h0), (1, .int p0)]) hx hb dX4_go_25 rfl hl (by decide) rfl (fun ls hl => ?_)
      refine lv_iconst (v := (0 : Int32)) hx hb dX4_go_26 (by decide) ?_
      refine lv_istore_n (lv' := [(3, .int (0 : Int32)), (2, .int (0 : Int32)), (0, .ref h0), (1, .int p0)]) hx hb dX4_go_27 rfl hl (by decide) rfl (fun ls hl => ?_)
      refine L28 p0 (20000) (0 : Int32) (0 : Int32) σ _ hw (fun x2_25 x3_26 σ27 hw H locs ls hP hD hS hl => ?_) H locs ls hP hD hS (lv_sub hl [0, 1, 2, 3] rfl)
      refine lv_iload_n hx hb dX4_go_182 rfl (lv_at hl 1 rfl) ?_
      exact W.iret (v := x2_25) hx hb hr (fun t ht hW => ⟨⟨x2_25, ((cl4 h0 w0 so be cJ cI σ27)), rfl, ⟨σ27, hw, rfl⟩, by rw [ht]; exact hP, va_K.moved hW.alike hK, hD⟩, hS.F ht⟩) hS.2.2 dX4_go_183
    · have hw := hw.2 c4
      refine lv_bipush (v := (-2 : Int32)) hx hb dX4_go_21 (by decide) ?_
      exact W.iret (v := (-2 : Int32)) hx hb hr (fun t ht hW => ⟨⟨(-2 : Int32), ((cl4 h0 w0 so be cJ cI σ)), rfl, ⟨σ, hw, rfl⟩, by rw [ht]; exact hP, va_K.moved hW.alike hK, hD⟩, hS.F ht⟩) hS.2.2 dX4_go_23
  · have hw := hw.2 c3
    refine lv_iconst (v := (-1 : Int32)) hx hb dX4_go_12 (by decide) ?_
    exact W.iret (v := (-1 : Int32)) hx hb hr (fun t ht hW => ⟨⟨(-1 : Int32), ((cl4 h0 w0 so be cJ cI σ)), rfl, ⟨σ, hw, rfl⟩, by rw [ht]; exact hP, va_K.moved hW.alike hK, hD⟩, hS.F ht⟩) hS.2.2 dX4_go_13
set_option maxHeartbeats 4000000 in
set_option maxRecDepth 100000 in
theorem c_X4_together (l : Launch) (dC : Nat → ClassId) (dI : Nat → Nat → Nat) (h0 w0 so be : Nat) (cJ : ClassId) (cI : ClassId) (σ : SM) (p0 : Int32) (post : Int32 → SM → Prop) (hw : wp_X4_together p0 σ post) : KI l yX4_together wsX4_together ({ frames := 1, cells := 0, slots := 0, locals := 25 } : Room) (dC, dI) [(cJ, .long), (cI, .int)] (cl4 h0 w0 so be cJ cI σ) [.ref h0, .int p0] (fun r u => ∃ σ', post r σ' ∧ u = (cl4 h0 w0 so be cJ cI (σ'))) := by
  intro sz
  refine Met.ofW (cc := cX4_together) (maxL := 7) (ret := (some .int)) (by decide) rfl ?_
  intro p e s m args below meth c s₁ B hml hv
  obtain ⟨rfl, hsz, hP, hK, hD0, hnw⟩ := hv
  have hx := B.exec
  have hb := B.bytes
  have hr := B.returns
  have hts := atoms_spec (ws := wsX4_together) B.pre
  have hown : s.vm.findClass RX4 = some m.cls := findClass_of_methodNamed B.named
  have hlocks := B.notSynchronized
  subst hsz
  have hD := hD0.self (sz := s.heap.size)
  generalize hAe : va_A (cl4 h0 w0 so be cJ cI σ) s.heap.size = A at hD ⊢
  have hA : ∀ q : Nat, s.heap.size ≤ q → A q := fun q h => by rw [← hAe]; exact Or.inr h
  have hS : va_S A s.heap s.heap [] := va_S.rf
  have hP : va_P (dC, dI) vwCl [(h0, .inr (3, [.int σ.1, .int σ.2.1, .int σ.2.2.1, .ref w0, .int σ.2.2.2.2.1, .int σ.2.2.2.2.2.1, .long σ.2.2.2.2.2.2.1, .ref so, .ref be, .int σ.2.2.2.2.2.2.2.2.2.1, .int σ.2.2.2.2.2.2.2.2.2.2.1, .int σ.2.2.2.2.2.2.2.2.2.2.2.1, .int σ.2.2.2.2.2.2.2.2.2.2.2.2])), (w0, .inl (cJ, 511, .inr (.inl (σ.2.2.2.1)))), (so, .inl (cI, 30, .inl (σ.2.2.2.2.2.2.2.1))), (be, .inl (cI, 30, .inl (σ.2.2.2.2.2.2.2.2.1)))] s.heap := hP
  have hD : va_D A [(h0, .inr (3, [.int σ.1, .int σ.2.1, .int σ.2.2.1, .ref w0, .int σ.2.2.2.2.1, .int σ.2.2.2.2.2.1, .long σ.2.2.2.2.2.2.1, .ref so, .ref be, .int σ.2.2.2.2.2.2.2.2.2.1, .int σ.2.2.2.2.2.2.2.2.2.2.1, .int σ.2.2.2.2.2.2.2.2.2.2.2.1, .int σ.2.2.2.2.2.2.2.2.2.2.2.2])), (w0, .inl (cJ, 511, .inr (.inl (σ.2.2.2.1)))), (so, .inl (cI, 30, .inl (σ.2.2.2.2.2.2.2.1))), (be, .inl (cI, 30, .inl (σ.2.2.2.2.2.2.2.2.1)))] := hD
  have fl_27 := hts (.fieldLink RX4 27 "OnePlaceEachModel" "sorts" "[I") (by decide +kernel)
  have fl_31 := hts (.fieldLink RX4 31 "OnePlaceEachModel" "before" "[I") (by decide +kernel)
  have fl_83 := hts (.fieldLink RX4 83 "OnePlaceEachModel" "places" "I") (by decide +kernel)
  have fl_86 := hts (.fieldLink RX4 86 "OnePlaceEachModel" "isOpen" "Z") (by decide +kernel)
  have fl_90 := hts (.fieldLink RX4 90 "OnePlaceEachModel" "ins" "I") (by decide +kernel)
  have fl_93 := hts (.fieldLink RX4 93 "OnePlaceEachModel" "outs" "I") (by decide +kernel)
  have fl_96 := hts (.fieldLink RX4 96 "OnePlaceEachModel" "moved" "I") (by decide +kernel)
  have hin0 : ∀ w ∈ wsX40, w ∈ wsX4_together := by decide +kernel
  have L29 : ∀ (x1 : Int32) (σ : SM) (n : Nat) (x2 : Int32) (x3 : Int32)  (k : Int32 → Int32 → Prop), wl_X4_together_29 x1 σ n x2 x3 k →
      (∀ (x2 : Int32) (x3 : Int32) , k x2 x3 → ∀ (H : Heap) (locs : List Loc) (ls : Array Slot), va_P (dC, dI) vwCl [(h0, .inr (3, [.int σ.1, .int σ.2.1, .int σ.2.2.1, .ref w0, .int σ.2.2.2.2.1, .int σ.2.2.2.2.2.1, .long σ.2.2.2.2.2.2.1, .ref so, .ref be, .int σ.2.2.2.2.2.2.2.2.2.1, .int σ.2.2.2.2.2.2.2.2.2.2.1, .int σ.2.2.2.2.2.2.2.2.2.2.2.1, .int σ.2.2.2.2.2.2.2.2.2.2.2.2])), (w0, .inl (cJ, 511, .inr (.inl (σ.2.2.2.1)))), (so, .inl (cI, 30, .inl (σ.2.2.2.2.2.2.2.1))), (be, .inl (cI, 30, .inl (σ.2.2.2.2.2.2.2.2.1)))] H → va_D A [(h0, .inr (3, [.int σ.1, .int σ.2.1, .int σ.2.2.1, .ref w0, .int σ.2.2.2.2.1, .int σ.2.2.2.2.2.1, .long σ.2.2.2.2.2.2.1, .ref so, .ref be, .int σ.2.2.2.2.2.2.2.2.2.1, .int σ.2.2.2.2.2.2.2.2.2.2.1, .int σ.2.2.2.2.2.2.2.2.2.2.2.1, .int σ.2.2.2.2.2.2.2.2.2.2.2.2])), (w0, .inl (cJ, 511, .inr (.inl (σ.2.2.2.1)))), (so, .inl (cI, 30, .inl (σ.2.2.2.2.2.2.2.1))), (be, .inl (cI, 30, .inl (σ.2.2.2.2.2.2.2.2.1)))] → va_S A s.heap H locs → lv_has ls 7 [(3, .int x3), (2, .int x2), (0, .ref h0), (1, .int x1)] → W p l e (headSpec wsX4_together ({ frames := 1, cells := 0, slots := 0, locals := 25 } : Room)).room s m ([.ref h0, .int p0] : List Value).toArray below meth c H locs 0 0 (MQ below (va_Qi (fun r u => ∃ σ', post r σ' ∧ u = (cl4 h0 w0 so be cJ cI (σ'))) (kB (dC, dI) [(cJ, .long), (cI, .int)] A) A) ([.ref h0, .int p0] : List Value).toArray s 0 0 A) (F0 m 63 ls [])) →
      ∀ (H : Heap) (locs : List Loc) (ls : Array Slot), va_P (dC, dI) vwCl [(h0, .inr (3, [.int σ.1, .int σ.2.1, .int σ.2.2.1, .ref w0, .int σ.2.2.2.2.1, .int σ.2.2.2.2.2.1, .long σ.2.2.2.2.2.2.1, .ref so, .ref be, .int σ.2.2.2.2.2.2.2.2.2.1, .int σ.2.2.2.2.2.2.2.2.2.2.1, .int σ.2.2.2.2.2.2.2.2.2.2.2.1, .int σ.2.2.2.2.2.2.2.2.2.2.2.2])), (w0, .inl (cJ, 511, .inr (.inl (σ.2.2.2.1)))), (so, .inl (cI, 30, .inl (σ.2.2.2.2.2.2.2.1))), (be, .inl (cI, 30, .inl (σ.2.2.2.2.2.2.2.2.1)))] H → va_D A [(h0, .inr (3, [.int σ.1, .int σ.2.1, .int σ.2.2.1, .ref w0, .int σ.2.2.2.2.1, .int σ.2.2.2.2.2.1, .long σ.2.2.2.2.2.2.1, .ref so, .ref be, .int σ.2.2.2.2.2.2.2.2.2.1, .int σ.2.2.2.2.2.2.2.2.2.2.1, .int σ.2.2.2.2.2.2.2.2.2.2.2.1, .int σ.2.2.2.2.2.2.2.2.2.2.2.2])), (w0, .inl (cJ, 511, .inr (.inl (σ.2.2.2.1)))), (so, .inl (cI, 30, .inl (σ.2.2.2.2.2.2.2.1))), (be, .inl (cI, 30, .inl (σ.2.2.2.2.2.2.2.2.1)))] → va_S A s.heap H locs → lv_has ls 7 [(3, .int x3), (2, .int x2), (0, .ref h0), (1, .int x1)] → W p l e (headSpec wsX4_together ({ frames := 1, cells := 0, slots := 0, locals := 25 } : Room)).room s m ([.ref h0, .int p0] : List Value).toArray below meth c H locs 0 0 (MQ below (va_Qi (fun r u => ∃ σ', post r σ' ∧ u = (cl4 h0 w0 so be cJ cI (σ'))) (kB (dC, dI) [(cJ, .long), (cI, .int)] A) A) ([.ref h0, .int p0] : List Value).toArray s 0 0 A) (F0 m 29 ls []) := by
    intro x1 σ n
    induction n with
    | zero => intro x2 x3 k hw; exact absurd hw id
    | succ n ih =>
      intro x2 x3 k hw hk H locs ls hP hD hS hl
      unfold wl_X4_together_29 at hw
      refine lv_iload_n hx hb dX4_together_29 rfl (lv_at hl 0 rfl) ?_
      refine lv_aload_n hx hb dX4_together_30 rfl (lv_at hl 2 rfl) ?_
      refine va_get (D := (dC, dI)) (ci := 3) (v := .int σ.2.2.2.2.1) (C := RX4) (T := TX4) (N := 13) hx hb hts hin0 hown hK hP 0 rfl rfl 4 (by decide) fl_83 (fun _ h9 => h9) rfl dX4_together_31 ?_
      refine lv_icmp_ge (tgt := 63) hx hb dX4_together_34 (by decide) (fun c5 => ?_) (fun c5 => ?_)
      · have hw := hw.1 c5
        exact hk x2 x3 hw H locs ls hP hD hS (lv_sub hl [0, 1, 2, 3] rfl)
      · have hw := hw.2 c5
        refine lv_iload_n hx hb dX4_together_37 rfl (lv_at hl 1 rfl) ?_
        refine lv_if_ne (tgt := 51) hx hb dX4_together_38 (by decide) (fun c6 => ?_) (fun c6 => ?_)
        · have hw := hw.1 c6
          refine lv_iconst (v := (1 : Int32)) hx hb dX4_together_51 (by decide) ?_
          refine lv_goto (tgt := 56) hx hb dX4_together_52 (by decide) ?_
          refine lv_istore_n (lv' := [(2, .int (1 : Int32)), (3, .int x3), (0, .ref h0), (1, .int x1)]) hx hb dX4_together_56 rfl hl (by decide) rfl (fun ls hl => ?_)
          refine lv_iinc (v := (x3 + (1 : Int32))) (lv' := [(3, .int (x3 + (1 : Int32))), (2, .int (1 : Int32)), (0, .ref h0), (1, .int x1)]) hx hb dX4_together_57 hl (k := 1) rfl rfl (by decide) rfl (fun ls hl => ?_)
          refine lv_goto (tgt := 29) hx hb dX4_together_60 (by decide) ?_
          exact ih (1 : Int32) (x3 + (1 : Int32)) _ hw hk H locs ls hP hD hS (lv_sub hl [0, 1, 2, 3] rfl)
        · have hw := hw.2 c6
          refine lv_aload_n hx hb dX4_together_41 rfl (lv_at hl 2 rfl) ?_
          refine va_get (D := (dC, dI)) (ci := 3) (v := .ref so) (C := RX4) (T := TX4) (N := 13) hx hb hts hin0 hown hK hP 0 rfl rfl 7 (by decide) fl_27 (fun _ h9 => h9) rfl dX4_together_42 ?_
          refine lv_iload_n hx hb dX4_together_45 rfl (lv_at hl 0 rfl) ?_
          have z7 := hw.1
          have hw := hw.2
          refine va_iald hx hb hK hP 2 1 rfl rfl z7 dX4_together_46 ?_
          refine lv_iconst (v := (2 : Int32)) hx hb dX4_together_47 (by decide) ?_
          refine lv_icmp_ne (tgt := 55) hx hb dX4_together_48 (by decide) (fun c8 => ?_) (fun c8 => ?_)
          · have hw := hw.1 c8
            refine lv_iconst (v := (0 : Int32)) hx hb dX4_together_55 (by decide) ?_
            refine lv_istore_n (lv' := [(2, .int (0 : Int32)), (3, .int x3), (0, .ref h0), (1, .int x1)]) hx hb dX4_together_56 rfl hl (by decide) rfl (fun ls hl => ?_)
            refine lv_iinc (v := (x3 + (1 : Int32))) (lv' := [(3, .int (x3 + (1 : Int32))), (2, .int (0 : Int32)), (0, .ref h0), (1, .int x1)]) hx hb dX4_together_57 hl (k := 1) rfl rfl (by decide) rfl (fun ls hl => ?_)
            refine lv_goto (tgt := 29) hx hb dX4_together_60 (by decide) ?_
            exact ih (0 : Int32) (x3 + (1 : Int32)) _ hw hk H locs ls hP hD hS (lv_sub hl [0, 1, 2, 3] rfl)
          · have hw := hw.2 c8
            refine lv_iconst (v := (1 : Int32)) hx hb dX4_together_51 (by decide) ?_
            refine lv_goto (tgt := 56) hx hb dX4_together_52 (by decide) ?_
            refine lv_istore_n (lv' := [(2, .int (1 : Int32)), (3, .int x3), (0, .ref h0), (1, .int x1)]) hx hb dX4_together_56 rfl hl (by decide) rfl (fun ls hl => ?_)
            refine lv_iinc (v := (x3 + (1 : Int32))) (lv' := [(3, .int (x3 + (1 : Int32))), (2, .int (1 : Int32)), (0, .ref h0), (1, .int x1)]) hx hb dX4_together_57 hl (k := 1) rfl rfl (by decide) rfl (fun ls hl => ?_)
            refine lv_goto (tgt := 29) hx hb dX4_together_60 (by decide) ?_
            exact ih (1 : Int32) (x3 + (1 : Int32)) _ hw hk H locs ls hP hD hS (lv_sub hl [0, 1, 2, 3] rfl)
  have L84 : ∀ (x1 : Int32) (x2 : Int32) (x3 : Int32) (x4 : Int32)  (n : Nat) (x5 : Int32) (σ : SM) (k : Int32 → SM → Prop), wl_X4_together_84 x1 x2 x3 x4  n x5 σ k →
      (∀ (x5 : Int32) (σ : SM), k x5 σ → ∀ (H : Heap) (locs : List Loc) (ls : Array Slot), va_P (dC, dI) vwCl [(h0, .inr (3, [.int σ.1, .int σ.2.1, .int σ.2.2.1, .ref w0, .int σ.2.2.2.2.1, .int σ.2.2.2.2.2.1, .long σ.2.2.2.2.2.2.1, .ref so, .ref be, .int σ.2.2.2.2.2.2.2.2.2.1, .int σ.2.2.2.2.2.2.2.2.2.2.1, .int σ.2.2.2.2.2.2.2.2.2.2.2.1, .int σ.2.2.2.2.2.2.2.2.2.2.2.2])), (w0, .inl (cJ, 511, .inr (.inl (σ.2.2.2.1)))), (so, .inl (cI, 30, .inl (σ.2.2.2.2.2.2.2.1))), (be, .inl (cI, 30, .inl (σ.2.2.2.2.2.2.2.2.1)))] H → va_D A [(h0, .inr (3, [.int σ.1, .int σ.2.1, .int σ.2.2.1, .ref w0, .int σ.2.2.2.2.1, .int σ.2.2.2.2.2.1, .long σ.2.2.2.2.2.2.1, .ref so, .ref be, .int σ.2.2.2.2.2.2.2.2.2.1, .int σ.2.2.2.2.2.2.2.2.2.2.1, .int σ.2.2.2.2.2.2.2.2.2.2.2.1, .int σ.2.2.2.2.2.2.2.2.2.2.2.2])), (w0, .inl (cJ, 511, .inr (.inl (σ.2.2.2.1)))), (so, .inl (cI, 30, .inl (σ.2.2.2.2.2.2.2.1))), (be, .inl (cI, 30, .inl (σ.2.2.2.2.2.2.2.2.1)))] → va_S A s.heap H locs → lv_has ls 7 [(5, .int x5), (4, .int x4), (3, .int x3), (2, .int x2), (0, .ref h0), (1, .int x1)] → W p l e (headSpec wsX4_together ({ frames := 1, cells := 0, slots := 0, locals := 25 } : Room)).room s m ([.ref h0, .int p0] : List Value).toArray below meth c H locs 0 0 (MQ below (va_Qi (fun r u => ∃ σ', post r σ' ∧ u = (cl4 h0 w0 so be cJ cI (σ'))) (kB (dC, dI) [(cJ, .long), (cI, .int)] A) A) ([.ref h0, .int p0] : List Value).toArray s 0 0 A) (F0 m 113 ls [])) →
      ∀ (H : Heap) (locs : List Loc) (ls : Array Slot), va_P (dC, dI) vwCl [(h0, .inr (3, [.int σ.1, .int σ.2.1, .int σ.2.2.1, .ref w0, .int σ.2.2.2.2.1, .int σ.2.2.2.2.2.1, .long σ.2.2.2.2.2.2.1, .ref so, .ref be, .int σ.2.2.2.2.2.2.2.2.2.1, .int σ.2.2.2.2.2.2.2.2.2.2.1, .int σ.2.2.2.2.2.2.2.2.2.2.2.1, .int σ.2.2.2.2.2.2.2.2.2.2.2.2])), (w0, .inl (cJ, 511, .inr (.inl (σ.2.2.2.1)))), (so, .inl (cI, 30, .inl (σ.2.2.2.2.2.2.2.1))), (be, .inl (cI, 30, .inl (σ.2.2.2.2.2.2.2.2.1)))] H → va_D A [(h0, .inr (3, [.int σ.1, .int σ.2.1, .int σ.2.2.1, .ref w0, .int σ.2.2.2.2.1, .int σ.2.2.2.2.2.1, .long σ.2.2.2.2.2.2.1, .ref so, .ref be, .int σ.2.2.2.2.2.2.2.2.2.1, .int σ.2.2.2.2.2.2.2.2.2.2.1, .int σ.2.2.2.2.2.2.2.2.2.2.2.1, .int σ.2.2.2.2.2.2.2.2.2.2.2.2])), (w0, .inl (cJ, 511, .inr (.inl (σ.2.2.2.1)))), (so, .inl (cI, 30, .inl (σ.2.2.2.2.2.2.2.1))), (be, .inl (cI, 30, .inl (σ.2.2.2.2.2.2.2.2.1)))] → va_S A s.heap H locs → lv_has ls 7 [(5, .int x5), (4, .int x4), (3, .int x3), (2, .int x2), (0, .ref h0), (1, .int x1)] → W p l e (headSpec wsX4_together ({ frames := 1, cells := 0, slots := 0, locals := 25 } : Room)).room s m ([.ref h0, .int p0] : List Value).toArray below meth c H locs 0 0 (MQ below (va_Qi (fun r u => ∃ σ', post r σ' ∧ u = (cl4 h0 w0 so be cJ cI (σ'))) (kB (dC, dI) [(cJ, .long), (cI, .int)] A) A) ([.ref h0, .int p0] : List Value).toArray s 0 0 A) (F0 m 84 ls []) := by
    intro x1 x2 x3 x4 n
    induction n with
    | zero => intro x5 σ k hw; exact absurd hw id
    | succ n ih =>
      intro x5 σ k hw hk H locs ls hP hD hS hl
      unfold wl_X4_together_84 at hw
      refine lv_iload hx hb dX4_together_84 (lv_at hl 0 rfl) ?_
      refine lv_aload_n hx hb dX4_together_86 rfl (lv_at hl 4 rfl) ?_
      refine va_get (D := (dC, dI)) (ci := 3) (v := .int σ.2.2.2.2.1) (C := RX4) (T := TX4) (N := 13) hx hb hts hin0 hown hK hP 0 rfl rfl 4 (by decide) fl_83 (fun _ h9 => h9) rfl dX4_together_87 ?_
      refine lv_icmp_ge (tgt := 113) hx hb dX4_together_90 (by decide) (fun c14 => ?_) (fun c14 => ?_)
      · have hw := hw.1 c14
        exact hk x5 σ hw H locs ls hP hD hS (lv_sub hl [0, 1, 2, 3, 4, 5] rfl)
      · have hw := hw.2 c14
        refine lv_aload_n hx hb dX4_together_93 rfl (lv_at hl 4 rfl) ?_
        refine va_get (D := (dC, dI)) (ci := 3) (v := .ref be) (C := RX4) (T := TX4) (N := 13) hx hb hts hin0 hown hK hP 0 rfl rfl 8 (by decide) fl_31 (fun _ h9 => h9) rfl dX4_together_94 ?_
        refine lv_iload hx hb dX4_together_97 (lv_at hl 0 rfl) ?_
        refine lv_aload_n hx hb dX4_together_99 rfl (lv_at hl 4 rfl) ?_
        refine va_get (D := (dC, dI)) (ci := 3) (v := .ref so) (C := RX4) (T := TX4) (N := 13) hx hb hts hin0 hown hK hP 0 rfl rfl 7 (by decide) fl_27 (fun _ h9 => h9) rfl dX4_together_100 ?_
        refine lv_iload hx hb dX4_together_103 (lv_at hl 0 rfl) ?_
        have z15 := hw.1
        have hw := hw.2
        refine va_iald hx hb hK hP 2 1 rfl rfl z15 dX4_together_105 ?_
        have z16 := hw.1
        have hw := hw.2
        refine va_iast hx hb hK hP hD hS 3 1 rfl rfl z16 dX4_together_106 (fun H locs hP hD hS => ?_)
        have hP : va_P (dC, dI) vwCl [(h0, .inr (3, [.int σ.1, .int σ.2.1, .int σ.2.2.1, .ref w0, .int σ.2.2.2.2.1, .int σ.2.2.2.2.2.1, .long σ.2.2.2.2.2.2.1, .ref so, .ref be, .int σ.2.2.2.2.2.2.2.2.2.1, .int σ.2.2.2.2.2.2.2.2.2.2.1, .int σ.2.2.2.2.2.2.2.2.2.2.2.1, .int σ.2.2.2.2.2.2.2.2.2.2.2.2])), (w0, .inl (cJ, 511, .inr (.inl (σ.2.2.2.1)))), (so, .inl (cI, 30, .inl (σ.2.2.2.2.2.2.2.1))), (be, .inl (cI, 30, .inl ((upd σ.2.2.2.2.2.2.2.2.1 x5.toNatClampNeg (σ.2.2.2.2.2.2.2.1 x5.toNatClampNeg)))))] H := hP
        have hD : va_D A [(h0, .inr (3, [.int σ.1, .int σ.2.1, .int σ.2.2.1, .ref w0, .int σ.2.2.2.2.1, .int σ.2.2.2.2.2.1, .long σ.2.2.2.2.2.2.1, .ref so, .ref be, .int σ.2.2.2.2.2.2.2.2.2.1, .int σ.2.2.2.2.2.2.2.2.2.2.1, .int σ.2.2.2.2.2.2.2.2.2.2.2.1, .int σ.2.2.2.2.2.2.2.2.2.2.2.2])), (w0, .inl (cJ, 511, .inr (.inl (σ.2.2.2.1)))), (so, .inl (cI, 30, .inl (σ.2.2.2.2.2.2.2.1))), (be, .inl (cI, 30, .inl ((upd σ.2.2.2.2.2.2.2.2.1 x5.toNatClampNeg (σ.2.2.2.2.2.2.2.1 x5.toNatClampNeg)))))] := hD
        refine lv_iinc (v := (x5 + (1 : Int32))) (lv' := [(5, .int (x5 + (1 : Int32))), (4, .int x4), (3, .int x3), (2, .int x2), (0, .ref h0), (1, .int x1)]) hx hb dX4_together_107 hl (k := 0) rfl rfl (by decide) rfl (fun ls hl => ?_)
        refine lv_goto (tgt := 84) hx hb dX4_together_110 (by decide) ?_
        exact ih (x5 + (1 : Int32)) (σ.1, σ.2.1, σ.2.2.1, σ.2.2.2.1, σ.2.2.2.2.1, σ.2.2.2.2.2.1, σ.2.2.2.2.2.2.1, σ.2.2.2.2.2.2.2.1, (upd σ.2.2.2.2.2.2.2.2.1 x5.toNatClampNeg (σ.2.2.2.2.2.2.2.1 x5.toNatClampNeg)), σ.2.2.2.2.2.2.2.2.2.1, σ.2.2.2.2.2.2.2.2.2.2.1, σ.2.2.2.2.2.2.2.2.2.2.2.1, σ.2.2.2.2.2.2.2.2.2.2.2.2) _ hw hk H locs ls hP hD hS (lv_sub hl [0, 1, 2, 3, 4, 5] rfl)
  have L116 : ∀ (x1 : Int32) (x2 : Int32) (x4 : Int32)  (n : Nat) (x3 : Int32) (x5 : Int32) (σ : SM) (k : Int32 → Int32 → SM → Prop), wl_X4_together_116 x1 x2 x4  n x3 x5 σ k →
      (∀ (x3 : Int32) (x5 : Int32) (σ : SM), k x3 x5 σ → ∀ (H : Heap) (locs : List Loc) (ls : Array Slot), va_P (dC, dI) vwCl [(h0, .inr (3, [.int σ.1, .int σ.2.1, .int σ.2.2.1, .ref w0, .int σ.2.2.2.2.1, .int σ.2.2.2.2.2.1, .long σ.2.2.2.2.2.2.1, .ref so, .ref be, .int σ.2.2.2.2.2.2.2.2.2.1, .int σ.2.2.2.2.2.2.2.2.2.2.1, .int σ.2.2.2.2.2.2.2.2.2.2.2.1, .int σ.2.2.2.2.2.2.2.2.2.2.2.2])), (w0, .inl (cJ, 511, .inr (.inl (σ.2.2.2.1)))), (so, .inl (cI, 30, .inl (σ.2.2.2.2.2.2.2.1))), (be, .inl (cI, 30, .inl (σ.2.2.2.2.2.2.2.2.1)))] H → va_D A [(h0, .inr (3, [.int σ.1, .int σ.2.1, .int σ.2.2.1, .ref w0, .int σ.2.2.2.2.1, .int σ.2.2.2.2.2.1, .long σ.2.2.2.2.2.2.1, .ref so, .ref be, .int σ.2.2.2.2.2.2.2.2.2.1, .int σ.2.2.2.2.2.2.2.2.2.2.1, .int σ.2.2.2.2.2.2.2.2.2.2.2.1, .int σ.2.2.2.2.2.2.2.2.2.2.2.2])), (w0, .inl (cJ, 511, .inr (.inl (σ.2.2.2.1)))), (so, .inl (cI, 30, .inl (σ.2.2.2.2.2.2.2.1))), (be, .inl (cI, 30, .inl (σ.2.2.2.2.2.2.2.2.1)))] → va_S A s.heap H locs → lv_has ls 7 [(5, .int x5), (4, .int x4), (3, .int x3), (2, .int x2), (0, .ref h0), (1, .int x1)] → W p l e (headSpec wsX4_together ({ frames := 1, cells := 0, slots := 0, locals := 25 } : Room)).room s m ([.ref h0, .int p0] : List Value).toArray below meth c H locs 0 0 (MQ below (va_Qi (fun r u => ∃ σ', post r σ' ∧ u = (cl4 h0 w0 so be cJ cI (σ'))) (kB (dC, dI) [(cJ, .long), (cI, .int)] A) A) ([.ref h0, .int p0] : List Value).toArray s 0 0 A) (F0 m 214 ls [])) →
      ∀ (H : Heap) (locs : List Loc) (ls : Array Slot), va_P (dC, dI) vwCl [(h0, .inr (3, [.int σ.1, .int σ.2.1, .int σ.2.2.1, .ref w0, .int σ.2.2.2.2.1, .int σ.2.2.2.2.2.1, .long σ.2.2.2.2.2.2.1, .ref so, .ref be, .int σ.2.2.2.2.2.2.2.2.2.1, .int σ.2.2.2.2.2.2.2.2.2.2.1, .int σ.2.2.2.2.2.2.2.2.2.2.2.1, .int σ.2.2.2.2.2.2.2.2.2.2.2.2])), (w0, .inl (cJ, 511, .inr (.inl (σ.2.2.2.1)))), (so, .inl (cI, 30, .inl (σ.2.2.2.2.2.2.2.1))), (be, .inl (cI, 30, .inl (σ.2.2.2.2.2.2.2.2.1)))] H → va_D A [(h0, .inr (3, [.int σ.1, .int σ.2.1, .int σ.2.2.1, .ref w0, .int σ.2.2.2.2.1, .int σ.2.2.2.2.2.1, .long σ.2.2.2.2.2.2.1, .ref so, .ref be, .int σ.2.2.2.2.2.2.2.2.2.1, .int σ.2.2.2.2.2.2.2.2.2.2.1, .int σ.2.2.2.2.2.2.2.2.2.2.2.1, .int σ.2.2.2.2.2.2.2.2.2.2.2.2])), (w0, .inl (cJ, 511, .inr (.inl (σ.2.2.2.1)))), (so, .inl (cI, 30, .inl (σ.2.2.2.2.2.2.2.1))), (be, .inl (cI, 30, .inl (σ.2.2.2.2.2.2.2.2.1)))] → va_S A s.heap H locs → lv_has ls 7 [(5, .int x5), (4, .int x4), (3, .int x3), (2, .int x2), (0, .ref h0), (1, .int x1)] → W p l e (headSpec wsX4_together ({ frames := 1, cells := 0, slots := 0, locals := 25 } : Room)).room s m ([.ref h0, .int p0] : List Value).toArray below meth c H locs 0 0 (MQ below (va_Qi (fun r u => ∃ σ', post r σ' ∧ u = (cl4 h0 w0 so be cJ cI (σ'))) (kB (dC, dI) [(cJ, .long), (cI, .int)] A) A) ([.ref h0, .int p0] : List Value).toArray s 0 0 A) (F0 m 116 ls []) := by
    intro x1 x2 x4 n
    induction n with
    | zero => intro x3 x5 σ k hw; exact absurd hw id
    | succ n ih =>
      intro x3 x5 σ k hw hk H locs ls hP hD hS hl
      unfold wl_X4_together_116 at hw
      refine lv_iload hx hb dX4_together_116 (lv_at hl 0 rfl) ?_
      refine lv_aload_n hx hb dX4_together_118 rfl (lv_at hl 4 rfl) ?_
      refine va_get (D := (dC, dI)) (ci := 3) (v := .int σ.2.2.2.2.1) (C := RX4) (T := TX4) (N := 13) hx hb hts hin0 hown hK hP 0 rfl rfl 4 (by decide) fl_83 (fun _ h9 => h9) rfl dX4_together_119 ?_
      refine lv_icmp_ge (tgt := 214) hx hb dX4_together_122 (by decide) (fun c19 => ?_) (fun c19 => ?_)
      · have hw := hw.1 c19
        exact hk x3 x5 σ hw H locs ls hP hD hS (lv_sub hl [0, 1, 2, 3, 4, 5] rfl)
      · have hw := hw.2 c19
        refine lv_iload hx hb dX4_together_125 (lv_at hl 0 rfl) ?_
        refine lv_iconst (v := (1 : Int32)) hx hb dX4_together_127 (by decide) ?_
        refine lv_iadd hx hb dX4_together_128 ?_
        refine lv_aload_n hx hb dX4_together_129 rfl (lv_at hl 4 rfl) ?_
        refine va_get (D := (dC, dI)) (ci := 3) (v := .int σ.2.2.2.2.1) (C := RX4) (T := TX4) (N := 13) hx hb hts hin0 hown hK hP 0 rfl rfl 4 (by decide) fl_83 (fun _ h9 => h9) rfl dX4_together_130 ?_
        refine lv_icmp_ne (tgt := 140) hx hb dX4_together_133 (by decide) (fun c20 => ?_) (fun c20 => ?_)
        · have hw := hw.1 c20
          refine lv_iload hx hb dX4_together_140 (lv_at hl 0 rfl) ?_
          refine lv_iconst (v := (1 : Int32)) hx hb dX4_together_142 (by decide) ?_
          refine lv_iadd hx hb dX4_together_143 ?_
          refine lv_istore (lv' := [(6, .int (x5 + (1 : Int32))), (5, .int x5), (4, .int x4), (3, .int x3), (2, .int x2), (0, .ref h0), (1, .int x1)]) hx hb dX4_together_144 hl (by decide) rfl (fun ls hl => ?_)
          refine lv_aload_n hx hb dX4_together_146 rfl (lv_at hl 5 rfl) ?_
          refine va_get (D := (dC, dI)) (ci := 3) (v := .ref be) (C := RX4) (T := TX4) (N := 13) hx hb hts hin0 hown hK hP 0 rfl rfl 8 (by decide) fl_31 (fun _ h9 => h9) rfl dX4_together_147 ?_
          refine lv_iload hx hb dX4_together_150 (lv_at hl 1 rfl) ?_
          have z21 := hw.1
          have hw := hw.2
          refine va_iald hx hb hK hP 3 1 rfl rfl z21 dX4_together_152 ?_
          refine lv_iconst (v := (1 : Int32)) hx hb dX4_together_153 (by decide) ?_
          refine lv_icmp_ne (tgt := 208) hx hb dX4_together_154 (by decide) (fun c22 => ?_) (fun c22 => ?_)
          · have hw := hw.1 c22
            refine lv_iinc (v := (x5 + (1 : Int32))) (lv' := [(5, .int (x5 + (1 : Int32))), (6, .int (x5 + (1 : Int32))), (4, .int x4), (3, .int x3), (2, .int x2), (0, .ref h0), (1, .int x1)]) hx hb dX4_together_208 hl (k := 1) rfl rfl (by decide) rfl (fun ls hl => ?_)
            refine lv_goto (tgt := 116) hx hb dX4_together_211 (by decide) ?_
            exact ih x3 (x5 + (1 : Int32)) σ _ hw hk H locs ls hP hD hS (lv_sub hl [0, 2, 3, 4, 5, 6] rfl)
          · have hw := hw.2 c22
            refine lv_aload_n hx hb dX4_together_157 rfl (lv_at hl 5 rfl) ?_
            refine va_get (D := (dC, dI)) (ci := 3) (v := .ref be) (C := RX4) (T := TX4) (N := 13) hx hb hts hin0 hown hK hP 0 rfl rfl 8 (by decide) fl_31 (fun _ h9 => h9) rfl dX4_together_158 ?_
            refine lv_iload hx hb dX4_together_161 (lv_at hl 0 rfl) ?_
            have z23 := hw.1
            have hw := hw.2
            refine va_iald hx hb hK hP 3 1 rfl rfl z23 dX4_together_163 ?_
            refine lv_if_ne (tgt := 208) hx hb dX4_together_164 (by decide) (fun c24 => ?_) (fun c24 => ?_)
            · have hw := hw.1 c24
              refine lv_iinc (v := (x5 + (1 : Int32))) (lv' := [(5, .int (x5 + (1 : Int32))), (6, .int (x5 + (1 : Int32))), (4, .int x4), (3, .int x3), (2, .int x2), (0, .ref h0), (1, .int x1)]) hx hb dX4_together_208 hl (k := 1) rfl rfl (by decide) rfl (fun ls hl => ?_)
              refine lv_goto (tgt := 116) hx hb dX4_together_211 (by decide) ?_
              exact ih x3 (x5 + (1 : Int32)) σ _ hw hk H locs ls hP hD hS (lv_sub hl [0, 2, 3, 4, 5, 6] rfl)
            · have hw := hw.2 c24
              refine lv_iload hx hb dX4_together_167 (lv_at hl 0 rfl) ?_
              refine lv_if_gt (tgt := 179) hx hb dX4_together_169 (by decide) (fun c25 => ?_) (fun c25 => ?_)
              · have hw := hw.1 c25
                refine lv_aload_n hx hb dX4_together_179 rfl (lv_at hl 5 rfl) ?_
                refine va_get (D := (dC, dI)) (ci := 3) (v := .ref so) (C := RX4) (T := TX4) (N := 13) hx hb hts hin0 hown hK hP 0 rfl rfl 7 (by decide) fl_27 (fun _ h9 => h9) rfl dX4_together_180 ?_
                refine lv_iload hx hb dX4_together_183 (lv_at hl 1 rfl) ?_
                refine lv_iconst (v := (0 : Int32)) hx hb dX4_together_185 (by decide) ?_
                have z26 := hw.1
                have hw := hw.2
                refine va_iast hx hb hK hP hD hS 2 1 rfl rfl z26 dX4_together_186 (fun H locs hP hD hS => ?_)
                have hP : va_P (dC, dI) vwCl [(h0, .inr (3, [.int σ.1, .int σ.2.1, .int σ.2.2.1, .ref w0, .int σ.2.2.2.2.1, .int σ.2.2.2.2.2.1, .long σ.2.2.2.2.2.2.1, .ref so, .ref be, .int σ.2.2.2.2.2.2.2.2.2.1, .int σ.2.2.2.2.2.2.2.2.2.2.1, .int σ.2.2.2.2.2.2.2.2.2.2.2.1, .int σ.2.2.2.2.2.2.2.2.2.2.2.2])), (w0, .inl (cJ, 511, .inr (.inl (σ.2.2.2.1)))), (so, .inl (cI, 30, .inl ((upd σ.2.2.2.2.2.2.2.1 x5.toNatClampNeg (0 : Int32))))), (be, .inl (cI, 30, .inl (σ.2.2.2.2.2.2.2.2.1)))] H := hP
                have hD : va_D A [(h0, .inr (3, [.int σ.1, .int σ.2.1, .int σ.2.2.1, .ref w0, .int σ.2.2.2.2.1, .int σ.2.2.2.2.2.1, .long σ.2.2.2.2.2.2.1, .ref so, .ref be, .int σ.2.2.2.2.2.2.2.2.2.1, .int σ.2.2.2.2.2.2.2.2.2.2.1, .int σ.2.2.2.2.2.2.2.2.2.2.2.1, .int σ.2.2.2.2.2.2.2.2.2.2.2.2])), (w0, .inl (cJ, 511, .inr (.inl (σ.2.2.2.1)))), (so, .inl (cI, 30, .inl ((upd σ.2.2.2.2.2.2.2.1 x5.toNatClampNeg (0 : Int32))))), (be, .inl (cI, 30, .inl (σ.2.2.2.2.2.2.2.2.1)))] := hD
                refine lv_aload_n hx hb dX4_together_187 rfl (lv_at hl 5 rfl) ?_
                refine va_get (D := (dC, dI)) (ci := 3) (v := .ref so) (C := RX4) (T := TX4) (N := 13) hx hb hts hin0 hown hK hP 0 rfl rfl 7 (by decide) fl_27 (fun _ h9 => h9) rfl dX4_together_188 ?_
                refine lv_iload hx hb dX4_together_191 (lv_at hl 0 rfl) ?_
                refine lv_iconst (v := (1 : Int32)) hx hb dX4_together_193 (by decide) ?_
                have z27 := hw.1
                have hw := hw.2
                refine va_iast hx hb hK hP hD hS 2 1 rfl rfl z27 dX4_together_194 (fun H locs hP hD hS => ?_)
                have hP : va_P (dC, dI) vwCl [(h0, .inr (3, [.int σ.1, .int σ.2.1, .int σ.2.2.1, .ref w0, .int σ.2.2.2.2.1, .int σ.2.2.2.2.2.1, .long σ.2.2.2.2.2.2.1, .ref so, .ref be, .int σ.2.2.2.2.2.2.2.2.2.1, .int σ.2.2.2.2.2.2.2.2.2.2.1, .int σ.2.2.2.2.2.2.2.2.2.2.2.1, .int σ.2.2.2.2.2.2.2.2.2.2.2.2])), (w0, .inl (cJ, 511, .inr (.inl (σ.2.2.2.1)))), (so, .inl (cI, 30, .inl ((upd (upd σ.2.2.2.2.2.2.2.1 x5.toNatClampNeg (0 : Int32)) (x5 + (1 : Int32)).toNatClampNeg (1 : Int32))))), (be, .inl (cI, 30, .inl (σ.2.2.2.2.2.2.2.2.1)))] H := hP
                have hD : va_D A [(h0, .inr (3, [.int σ.1, .int σ.2.1, .int σ.2.2.1, .ref w0, .int σ.2.2.2.2.1, .int σ.2.2.2.2.2.1, .long σ.2.2.2.2.2.2.1, .ref so, .ref be, .int σ.2.2.2.2.2.2.2.2.2.1, .int σ.2.2.2.2.2.2.2.2.2.2.1, .int σ.2.2.2.2.2.2.2.2.2.2.2.1, .int σ.2.2.2.2.2.2.2.2.2.2.2.2])), (w0, .inl (cJ, 511, .inr (.inl (σ.2.2.2.1)))), (so, .inl (cI, 30, .inl ((upd (upd σ.2.2.2.2.2.2.2.1 x5.toNatClampNeg (0 : Int32)) (x5 + (1 : Int32)).toNatClampNeg (1 : Int32))))), (be, .inl (cI, 30, .inl (σ.2.2.2.2.2.2.2.2.1)))] := hD
                refine lv_iinc (v := (x3 + (1 : Int32))) (lv' := [(3, .int (x3 + (1 : Int32))), (6, .int (x5 + (1 : Int32))), (5, .int x5), (4, .int x4), (2, .int x2), (0, .ref h0), (1, .int x1)]) hx hb dX4_together_195 hl (k := 3) rfl rfl (by decide) rfl (fun ls hl => ?_)
                refine lv_aload_n hx hb dX4_together_198 rfl (lv_at hl 5 rfl) ?_
                refine lv_dup hx hb dX4_together_199 rfl ?_
                refine va_get (D := (dC, dI)) (ci := 3) (v := .int σ.2.2.2.2.2.2.2.2.2.2.2.1) (C := RX4) (T := TX4) (N := 13) hx hb hts hin0 hown hK hP 0 rfl rfl 11 (by decide) fl_96 (fun _ h9 => h9) rfl dX4_together_200 ?_
                refine lv_iconst (v := (1 : Int32)) hx hb dX4_together_203 (by decide) ?_
                refine lv_iadd hx hb dX4_together_204 ?_
                refine va_put (D := (dC, dI)) (ci := 3) (v := .int (σ.2.2.2.2.2.2.2.2.2.2.2.1 + (1 : Int32))) (ty := .int) (C := RX4) (T := TX4) (N := 13) hx hb hts hin0 tyX4 tyX4_ok nmX4 hown hK hP hD hS 0 rfl rfl 11 (by decide) fl_96 (fun _ h9 => h9) rfl (by decide +kernel) rfl rfl (Nat.le_of_ble_eq_true rfl) dX4_together_205 (fun H locs hP hD hS => ?_)
                have hP : va_P (dC, dI) vwCl [(h0, .inr (3, [.int σ.1, .int σ.2.1, .int σ.2.2.1, .ref w0, .int σ.2.2.2.2.1, .int σ.2.2.2.2.2.1, .long σ.2.2.2.2.2.2.1, .ref so, .ref be, .int σ.2.2.2.2.2.2.2.2.2.1, .int σ.2.2.2.2.2.2.2.2.2.2.1, .int (σ.2.2.2.2.2.2.2.2.2.2.2.1 + (1 : Int32)), .int σ.2.2.2.2.2.2.2.2.2.2.2.2])), (w0, .inl (cJ, 511, .inr (.inl (σ.2.2.2.1)))), (so, .inl (cI, 30, .inl ((upd (upd σ.2.2.2.2.2.2.2.1 x5.toNatClampNeg (0 : Int32)) (x5 + (1 : Int32)).toNatClampNeg (1 : Int32))))), (be, .inl (cI, 30, .inl (σ.2.2.2.2.2.2.2.2.1)))] H := hP
                have hD : va_D A [(h0, .inr (3, [.int σ.1, .int σ.2.1, .int σ.2.2.1, .ref w0, .int σ.2.2.2.2.1, .int σ.2.2.2.2.2.1, .long σ.2.2.2.2.2.2.1, .ref so, .ref be, .int σ.2.2.2.2.2.2.2.2.2.1, .int σ.2.2.2.2.2.2.2.2.2.2.1, .int (σ.2.2.2.2.2.2.2.2.2.2.2.1 + (1 : Int32)), .int σ.2.2.2.2.2.2.2.2.2.2.2.2])), (w0, .inl (cJ, 511, .inr (.inl (σ.2.2.2.1)))), (so, .inl (cI, 30, .inl ((upd (upd σ.2.2.2.2.2.2.2.1 x5.toNatClampNeg (0 : Int32)) (x5 + (1 : Int32)).toNatClampNeg (1 : Int32))))), (be, .inl (cI, 30, .inl (σ.2.2.2.2.2.2.2.2.1)))] := hD
                refine lv_iinc (v := (x5 + (1 : Int32))) (lv' := [(5, .int (x5 + (1 : Int32))), (3, .int (x3 + (1 : Int32))), (6, .int (x5 + (1 : Int32))), (4, .int x4), (2, .int x2), (0, .ref h0), (1, .int x1)]) hx hb dX4_together_208 hl (k := 2) rfl rfl (by decide) rfl (fun ls hl => ?_)
                refine lv_goto (tgt := 116) hx hb dX4_together_211 (by decide) ?_
                exact ih (x3 + (1 : Int32)) (x5 + (1 : Int32)) (σ.1, σ.2.1, σ.2.2.1, σ.2.2.2.1, σ.2.2.2.2.1, σ.2.2.2.2.2.1, σ.2.2.2.2.2.2.1, (upd (upd σ.2.2.2.2.2.2.2.1 x5.toNatClampNeg (0 : Int32)) (x5 + (1 : Int32)).toNatClampNeg (1 : Int32)), σ.2.2.2.2.2.2.2.2.1, σ.2.2.2.2.2.2.2.2.2.1, σ.2.2.2.2.2.2.2.2.2.2.1, (σ.2.2.2.2.2.2.2.2.2.2.2.1 + (1 : Int32)), σ.2.2.2.2.2.2.2.2.2.2.2.2) _ hw hk H locs ls hP hD hS (lv_sub hl [0, 3, 1, 4, 5, 6] rfl)
              · have hw := hw.2 c25
                refine lv_aload_n hx hb dX4_together_172 rfl (lv_at hl 5 rfl) ?_
                refine va_get (D := (dC, dI)) (ci := 3) (v := .int σ.2.2.2.2.2.1) (C := RX4) (T := TX4) (N := 13) hx hb hts hin0 hown hK hP 0 rfl rfl 5 (by decide) fl_86 (fun _ h9 => h9) rfl dX4_together_173 ?_
                refine lv_if_ne (tgt := 208) hx hb dX4_together_176 (by decide) (fun c28 => ?_) (fun c28 => ?_)
                · have hw := hw.1 c28
                  refine lv_iinc (v := (x5 + (1 : Int32))) (lv' := [(5, .int (x5 + (1 : Int32))), (6, .int (x5 + (1 : Int32))), (4, .int x4), (3, .int x3), (2, .int x2), (0, .ref h0), (1, .int x1)]) hx hb dX4_together_208 hl (k := 1) rfl rfl (by decide) rfl (fun ls hl => ?_)
                  refine lv_goto (tgt := 116) hx hb dX4_together_211 (by decide) ?_
                  exact ih x3 (x5 + (1 : Int32)) σ _ hw hk H locs ls hP hD hS (lv_sub hl [0, 2, 3, 4, 5, 6] rfl)
                · have hw := hw.2 c28
                  refine lv_aload_n hx hb dX4_together_179 rfl (lv_at hl 5 rfl) ?_
                  refine va_get (D := (dC, dI)) (ci := 3) (v := .ref so) (C := RX4) (T := TX4) (N := 13) hx hb hts hin0 hown hK hP 0 rfl rfl 7 (by decide) fl_27 (fun _ h9 => h9) rfl dX4_together_180 ?_
                  refine lv_iload hx hb dX4_together_183 (lv_at hl 1 rfl) ?_
                  refine lv_iconst (v := (0 : Int32)) hx hb dX4_together_185 (by decide) ?_
                  have z29 := hw.1
                  have hw := hw.2
                  refine va_iast hx hb hK hP hD hS 2 1 rfl rfl z29 dX4_together_186 (fun H locs hP hD hS => ?_)
                  have hP : va_P (dC, dI) vwCl [(h0, .inr (3, [.int σ.1, .int σ.2.1, .int σ.2.2.1, .ref w0, .int σ.2.2.2.2.1, .int σ.2.2.2.2.2.1, .long σ.2.2.2.2.2.2.1, .ref so, .ref be, .int σ.2.2.2.2.2.2.2.2.2.1, .int σ.2.2.2.2.2.2.2.2.2.2.1, .int σ.2.2.2.2.2.2.2.2.2.2.2.1, .int σ.2.2.2.2.2.2.2.2.2.2.2.2])), (w0, .inl (cJ, 511, .inr (.inl (σ.2.2.2.1)))), (so, .inl (cI, 30, .inl ((upd σ.2.2.2.2.2.2.2.1 x5.toNatClampNeg (0 : Int32))))), (be, .inl (cI, 30, .inl (σ.2.2.2.2.2.2.2.2.1)))] H := hP
                  have hD : va_D A [(h0, .inr (3, [.int σ.1, .int σ.2.1, .int σ.2.2.1, .ref w0, .int σ.2.2.2.2.1, .int σ.2.2.2.2.2.1, .long σ.2.2.2.2.2.2.1, .ref so, .ref be, .int σ.2.2.2.2.2.2.2.2.2.1, .int σ.2.2.2.2.2.2.2.2.2.2.1, .int σ.2.2.2.2.2.2.2.2.2.2.2.1, .int σ.2.2.2.2.2.2.2.2.2.2.2.2])), (w0, .inl (cJ, 511, .inr (.inl (σ.2.2.2.1)))), (so, .inl (cI, 30, .inl ((upd σ.2.2.2.2.2.2.2.1 x5.toNatClampNeg (0 : Int32))))), (be, .inl (cI, 30, .inl (σ.2.2.2.2.2.2.2.2.1)))] := hD
                  refine lv_aload_n hx hb dX4_together_187 rfl (lv_at hl 5 rfl) ?_
                  refine va_get (D := (dC, dI)) (ci := 3) (v := .ref so) (C := RX4) (T := TX4) (N := 13) hx hb hts hin0 hown hK hP 0 rfl rfl 7 (by decide) fl_27 (fun _ h9 => h9) rfl dX4_together_188 ?_
                  refine lv_iload hx hb dX4_together_191 (lv_at hl 0 rfl) ?_
                  refine lv_iconst (v := (1 : Int32)) hx hb dX4_together_193 (by decide) ?_
                  have z30 := hw.1
                  have hw := hw.2
                  refine va_iast hx hb hK hP hD hS 2 1 rfl rfl z30 dX4_together_194 (fun H locs hP hD hS => ?_)
                  have hP : va_P (dC, dI) vwCl [(h0, .inr (3, [.int σ.1, .int σ.2.1, .int σ.2.2.1, .ref w0, .int σ.2.2.2.2.1, .int σ.2.2.2.2.2.1, .long σ.2.2.2.2.2.2.1, .ref so, .ref be, .int σ.2.2.2.2.2.2.2.2.2.1, .int σ.2.2.2.2.2.2.2.2.2.2.1, .int σ.2.2.2.2.2.2.2.2.2.2.2.1, .int σ.2.2.2.2.2.2.2.2.2.2.2.2])), (w0, .inl (cJ, 511, .inr (.inl (σ.2.2.2.1)))), (so, .inl (cI, 30, .inl ((upd (upd σ.2.2.2.2.2.2.2.1 x5.toNatClampNeg (0 : Int32)) (x5 + (1 : Int32)).toNatClampNeg (1 : Int32))))), (be, .inl (cI, 30, .inl (σ.2.2.2.2.2.2.2.2.1)))] H := hP
                  have hD : va_D A [(h0, .inr (3, [.int σ.1, .int σ.2.1, .int σ.2.2.1, .ref w0, .int σ.2.2.2.2.1, .int σ.2.2.2.2.2.1, .long σ.2.2.2.2.2.2.1, .ref so, .ref be, .int σ.2.2.2.2.2.2.2.2.2.1, .int σ.2.2.2.2.2.2.2.2.2.2.1, .int σ.2.2.2.2.2.2.2.2.2.2.2.1, .int σ.2.2.2.2.2.2.2.2.2.2.2.2])), (w0, .inl (cJ, 511, .inr (.inl (σ.2.2.2.1)))), (so, .inl (cI, 30, .inl ((upd (upd σ.2.2.2.2.2.2.2.1 x5.toNatClampNeg (0 : Int32)) (x5 + (1 : Int32)).toNatClampNeg (1 : Int32))))), (be, .inl (cI, 30, .inl (σ.2.2.2.2.2.2.2.2.1)))] := hD
                  refine lv_iinc (v := (x3 + (1 : Int32))) (lv' := [(3, .int (x3 + (1 : Int32))), (6, .int (x5 + (1 : Int32))), (5, .int x5), (4, .int x4), (2, .int x2), (0, .ref h0), (1, .int x1)]) hx hb dX4_together_195 hl (k := 3) rfl rfl (by decide) rfl (fun ls hl => ?_)
                  refine lv_aload_n hx hb dX4_together_198 rfl (lv_at hl 5 rfl) ?_
                  refine lv_dup hx hb dX4_together_199 rfl ?_
                  refine va_get (D := (dC, dI)) (ci := 3) (v := .int σ.2.2.2.2.2.2.2.2.2.2.2.1) (C := RX4) (T := TX4) (N := 13) hx hb hts hin0 hown hK hP 0 rfl rfl 11 (by decide) fl_96 (fun _ h9 => h9) rfl dX4_together_200 ?_
                  refine lv_iconst (v := (1 : Int32)) hx hb dX4_together_203 (by decide) ?_
                  refine lv_iadd hx hb dX4_together_204 ?_
                  refine va_put (D := (dC, dI)) (ci := 3) (v := .int (σ.2.2.2.2.2.2.2.2.2.2.2.1 + (1 : Int32))) (ty := .int) (C := RX4) (T := TX4) (N := 13) hx hb hts hin0 tyX4 tyX4_ok nmX4 hown hK hP hD hS 0 rfl rfl 11 (by decide) fl_96 (fun _ h9 => h9) rfl (by decide +kernel) rfl rfl (Nat.le_of_ble_eq_true rfl) dX4_together_205 (fun H locs hP hD hS => ?_)
                  have hP : va_P (dC, dI) vwCl [(h0, .inr (3, [.int σ.1, .int σ.2.1, .int σ.2.2.1, .ref w0, .int σ.2.2.2.2.1, .int σ.2.2.2.2.2.1, .long σ.2.2.2.2.2.2.1, .ref so, .ref be, .int σ.2.2.2.2.2.2.2.2.2.1, .int σ.2.2.2.2.2.2.2.2.2.2.1, .int (σ.2.2.2.2.2.2.2.2.2.2.2.1 + (1 : Int32)), .int σ.2.2.2.2.2.2.2.2.2.2.2.2])), (w0, .inl (cJ, 511, .inr (.inl (σ.2.2.2.1)))), (so, .inl (cI, 30, .inl ((upd (upd σ.2.2.2.2.2.2.2.1 x5.toNatClampNeg (0 : Int32)) (x5 + (1 : Int32)).toNatClampNeg (1 : Int32))))), (be, .inl (cI, 30, .inl (σ.2.2.2.2.2.2.2.2.1)))] H := hP
                  have hD : va_D A [(h0, .inr (3, [.int σ.1, .int σ.2.1, .int σ.2.2.1, .ref w0, .int σ.2.2.2.2.1, .int σ.2.2.2.2.2.1, .long σ.2.2.2.2.2.2.1, .ref so, .ref be, .int σ.2.2.2.2.2.2.2.2.2.1, .int σ.2.2.2.2.2.2.2.2.2.2.1, .int (σ.2.2.2.2.2.2.2.2.2.2.2.1 + (1 : Int32)), .int σ.2.2.2.2.2.2.2.2.2.2.2.2])), (w0, .inl (cJ, 511, .inr (.inl (σ.2.2.2.1)))), (so, .inl (cI, 30, .inl ((upd (upd σ.2.2.2.2.2.2.2.1 x5.toNatClampNeg (0 : Int32)) (x5 + (1 : Int32)).toNatClampNeg (1 : Int32))))), (be, .inl (cI, 30, .inl (σ.2.2.2.2.2.2.2.2.1)))] := hD
                  refine lv_iinc (v := (x5 + (1 : Int32))) (lv' := [(5, .int (x5 + (1 : Int32))), (3, .int (x3 + (1 : Int32))), (6, .int (x5 + (1 : Int32))), (4, .int x4), (2, .int x2), (0, .ref h0), (1, .int x1)]) hx hb dX4_together_208 hl (k := 2) rfl rfl (by decide) rfl (fun ls hl => ?_)
                  refine lv_goto (tgt := 116) hx hb dX4_together_211 (by decide) ?_
                  exact ih (x3 + (1 : Int32)) (x5 + (1 : Int32)) (σ.1, σ.2.1, σ.2.2.1, σ.2.2.2.1, σ.2.2.2.2.1, σ.2.2.2.2.2.1, σ.2.2.2.2.2.2.1, (upd (upd σ.2.2.2.2.2.2.2.1 x5.toNatClampNeg (0 : Int32)) (x5 + (1 : Int32)).toNatClampNeg (1 : Int32)), σ.2.2.2.2.2.2.2.2.1, σ.2.2.2.2.2.2.2.2.2.1, σ.2.2.2.2.2.2.2.2.2.2.1, (σ.2.2.2.2.2.2.2.2.2.2.2.1 + (1 : Int32)), σ.2.2.2.2.2.2.2.2.2.2.2.2) _ hw hk H locs ls hP hD hS (lv_sub hl [0, 3, 1, 4, 5, 6] rfl)
        · have hw := hw.2 c20
          refine lv_iconst (v := (0 : Int32)) hx hb dX4_together_136 (by decide) ?_
          refine lv_goto (tgt := 144) hx hb dX4_together_137 (by decide) ?_
          refine lv_istore (lv' := [(6, .int (0 : Int32)), (5, .int x5), (4, .int x4), (3, .int x3), (2, .int x2), (0, .ref h0), (1, .int x1)]) hx hb dX4_together_144 hl (by decide) rfl (fun ls hl => ?_)
          refine lv_aload_n hx hb dX4_together_146 rfl (lv_at hl 5 rfl) ?_
          refine va_get (D := (dC, dI)) (ci := 3) (v := .ref be) (C := RX4) (T := TX4) (N := 13) hx hb hts hin0 hown hK hP 0 rfl rfl 8 (by decide) fl_31 (fun _ h9 => h9) rfl dX4_together_147 ?_
          refine lv_iload hx hb dX4_together_150 (lv_at hl 1 rfl) ?_
          have z31 := hw.1
          have hw := hw.2
          refine va_iald hx hb hK hP 3 1 rfl rfl z31 dX4_together_152 ?_
          refine lv_iconst (v := (1 : Int32)) hx hb dX4_together_153 (by decide) ?_
          refine lv_icmp_ne (tgt := 208) hx hb dX4_together_154 (by decide) (fun c32 => ?_) (fun c32 => ?_)
          · have hw := hw.1 c32
            refine lv_iinc (v := (x5 + (1 : Int32))) (lv' := [(5, .int (x5 + (1 : Int32))), (6, .int (0 : Int32)), (4, .int x4), (3, .int x3), (2, .int x2), (0, .ref h0), (1, .int x1)]) hx hb dX4_together_208 hl (k := 1) rfl rfl (by decide) rfl (fun ls hl => ?_)
            refine lv_goto (tgt := 116) hx hb dX4_together_211 (by decide) ?_
            exact ih x3 (x5 + (1 : Int32)) σ _ hw hk H locs ls hP hD hS (lv_sub hl [0, 2, 3, 4, 5, 6] rfl)
          · have hw := hw.2 c32
            refine lv_aload_n hx hb dX4_together_157 rfl (lv_at hl 5 rfl) ?_
            refine va_get (D := (dC, dI)) (ci := 3) (v := .ref be) (C := RX4) (T := TX4) (N := 13) hx hb hts hin0 hown hK hP 0 rfl rfl 8 (by decide) fl_31 (fun _ h9 => h9) rfl dX4_together_158 ?_
            refine lv_iload hx hb dX4_together_161 (lv_at hl 0 rfl) ?_
            have z33 := hw.1
            have hw := hw.2
            refine va_iald hx hb hK hP 3 1 rfl rfl z33 dX4_together_163 ?_
            refine lv_if_ne (tgt := 208) hx hb dX4_together_164 (by decide) (fun c34 => ?_) (fun c34 => ?_)
            · have hw := hw.1 c34
              refine lv_iinc (v := (x5 + (1 : Int32))) (lv' := [(5, .int (x5 + (1 : Int32))), (6, .int (0 : Int32)), (4, .int x4), (3, .int x3), (2, .int x2), (0, .ref h0), (1, .int x1)]) hx hb dX4_together_208 hl (k := 1) rfl rfl (by decide) rfl (fun ls hl => ?_)
              refine lv_goto (tgt := 116) hx hb dX4_together_211 (by decide) ?_
              exact ih x3 (x5 + (1 : Int32)) σ _ hw hk H locs ls hP hD hS (lv_sub hl [0, 2, 3, 4, 5, 6] rfl)
            · have hw := hw.2 c34
              refine lv_iload hx hb dX4_together_167 (lv_at hl 0 rfl) ?_
              refine lv_if_gt (tgt := 179) hx hb dX4_together_169 (by decide) (fun cz => absurd cz (by decide)) (fun _ => ?_)
              refine lv_aload_n hx hb dX4_together_172 rfl (lv_at hl 5 rfl) ?_
              refine va_get (D := (dC, dI)) (ci := 3) (v := .int σ.2.2.2.2.2.1) (C := RX4) (T := TX4) (N := 13) hx hb hts hin0 hown hK hP 0 rfl rfl 5 (by decide) fl_86 (fun _ h9 => h9) rfl dX4_together_173 ?_
              refine lv_if_ne (tgt := 208) hx hb dX4_together_176 (by decide) (fun c35 => ?_) (fun c35 => ?_)
              · have hw := hw.1 c35
                refine lv_iinc (v := (x5 + (1 : Int32))) (lv' := [(5, .int (x5 + (1 : Int32))), (6, .int (0 : Int32)), (4, .int x4), (3, .int x3), (2, .int x2), (0, .ref h0), (1, .int x1)]) hx hb dX4_together_208 hl (k := 1) rfl rfl (by decide) rfl (fun ls hl => ?_)
                refine lv_goto (tgt := 116) hx hb dX4_together_211 (by decide) ?_
                exact ih x3 (x5 + (1 : Int32)) σ _ hw hk H locs ls hP hD hS (lv_sub hl [0, 2, 3, 4, 5, 6] rfl)
              · have hw := hw.2 c35
                refine lv_aload_n hx hb dX4_together_179 rfl (lv_at hl 5 rfl) ?_
                refine va_get (D := (dC, dI)) (ci := 3) (v := .ref so) (C := RX4) (T := TX4) (N := 13) hx hb hts hin0 hown hK hP 0 rfl rfl 7 (by decide) fl_27 (fun _ h9 => h9) rfl dX4_together_180 ?_
                refine lv_iload hx hb dX4_together_183 (lv_at hl 1 rfl) ?_
                refine lv_iconst (v := (0 : Int32)) hx hb dX4_together_185 (by decide) ?_
                have z36 := hw.1
                have hw := hw.2
                refine va_iast hx hb hK hP hD hS 2 1 rfl rfl z36 dX4_together_186 (fun H locs hP hD hS => ?_)
                have hP : va_P (dC, dI) vwCl [(h0, .inr (3, [.int σ.1, .int σ.2.1, .int σ.2.2.1, .ref w0, .int σ.2.2.2.2.1, .int σ.2.2.2.2.2.1, .long σ.2.2.2.2.2.2.1, .ref so, .ref be, .int σ.2.2.2.2.2.2.2.2.2.1, .int σ.2.2.2.2.2.2.2.2.2.2.1, .int σ.2.2.2.2.2.2.2.2.2.2.2.1, .int σ.2.2.2.2.2.2.2.2.2.2.2.2])), (w0, .inl (cJ, 511, .inr (.inl (σ.2.2.2.1)))), (so, .inl (cI, 30, .inl ((upd σ.2.2.2.2.2.2.2.1 x5.toNatClampNeg (0 : Int32))))), (be, .inl (cI, 30, .inl (σ.2.2.2.2.2.2.2.2.1)))] H := hP
                have hD : va_D A [(h0, .inr (3, [.int σ.1, .int σ.2.1, .int σ.2.2.1, .ref w0, .int σ.2.2.2.2.1, .int σ.2.2.2.2.2.1, .long σ.2.2.2.2.2.2.1, .ref so, .ref be, .int σ.2.2.2.2.2.2.2.2.2.1, .int σ.2.2.2.2.2.2.2.2.2.2.1, .int σ.2.2.2.2.2.2.2.2.2.2.2.1, .int σ.2.2.2.2.2.2.2.2.2.2.2.2])), (w0, .inl (cJ, 511, .inr (.inl (σ.2.2.2.1)))), (so, .inl (cI, 30, .inl ((upd σ.2.2.2.2.2.2.2.1 x5.toNatClampNeg (0 : Int32))))), (be, .inl (cI, 30, .inl (σ.2.2.2.2.2.2.2.2.1)))] := hD
                refine lv_aload_n hx hb dX4_together_187 rfl (lv_at hl 5 rfl) ?_
                refine va_get (D := (dC, dI)) (ci := 3) (v := .ref so) (C := RX4) (T := TX4) (N := 13) hx hb hts hin0 hown hK hP 0 rfl rfl 7 (by decide) fl_27 (fun _ h9 => h9) rfl dX4_together_188 ?_
                refine lv_iload hx hb dX4_together_191 (lv_at hl 0 rfl) ?_
                refine lv_iconst (v := (1 : Int32)) hx hb dX4_together_193 (by decide) ?_
                have z37 := hw.1
                have hw := hw.2
                refine va_iast hx hb hK hP hD hS 2 1 rfl rfl z37 dX4_together_194 (fun H locs hP hD hS => ?_)
                have hP : va_P (dC, dI) vwCl [(h0, .inr (3, [.int σ.1, .int σ.2.1, .int σ.2.2.1, .ref w0, .int σ.2.2.2.2.1, .int σ.2.2.2.2.2.1, .long σ.2.2.2.2.2.2.1, .ref so, .ref be, .int σ.2.2.2.2.2.2.2.2.2.1, .int σ.2.2.2.2.2.2.2.2.2.2.1, .int σ.2.2.2.2.2.2.2.2.2.2.2.1, .int σ.2.2.2.2.2.2.2.2.2.2.2.2])), (w0, .inl (cJ, 511, .inr (.inl (σ.2.2.2.1)))), (so, .inl (cI, 30, .inl ((upd (upd σ.2.2.2.2.2.2.2.1 x5.toNatClampNeg (0 : Int32)) (0 : Int32).toNatClampNeg (1 : Int32))))), (be, .inl (cI, 30, .inl (σ.2.2.2.2.2.2.2.2.1)))] H := hP
                have hD : va_D A [(h0, .inr (3, [.int σ.1, .int σ.2.1, .int σ.2.2.1, .ref w0, .int σ.2.2.2.2.1, .int σ.2.2.2.2.2.1, .long σ.2.2.2.2.2.2.1, .ref so, .ref be, .int σ.2.2.2.2.2.2.2.2.2.1, .int σ.2.2.2.2.2.2.2.2.2.2.1, .int σ.2.2.2.2.2.2.2.2.2.2.2.1, .int σ.2.2.2.2.2.2.2.2.2.2.2.2])), (w0, .inl (cJ, 511, .inr (.inl (σ.2.2.2.1)))), (so, .inl (cI, 30, .inl ((upd (upd σ.2.2.2.2.2.2.2.1 x5.toNatClampNeg (0 : Int32)) (0 : Int32).toNatClampNeg (1 : Int32))))), (be, .inl (cI, 30, .inl (σ.2.2.2.2.2.2.2.2.1)))] := hD
                refine lv_iinc (v := (x3 + (1 : Int32))) (lv' := [(3, .int (x3 + (1 : Int32))), (6, .int (0 : Int32)), (5, .int x5), (4, .int x4), (2, .int x2), (0, .ref h0), (1, .int x1)]) hx hb dX4_together_195 hl (k := 3) rfl rfl (by decide) rfl (fun ls hl => ?_)
                refine lv_aload_n hx hb dX4_together_198 rfl (lv_at hl 5 rfl) ?_
                refine lv_dup hx hb dX4_together_199 rfl ?_
                refine va_get (D := (dC, dI)) (ci := 3) (v := .int σ.2.2.2.2.2.2.2.2.2.2.2.1) (C := RX4) (T := TX4) (N := 13) hx hb hts hin0 hown hK hP 0 rfl rfl 11 (by decide) fl_96 (fun _ h9 => h9) rfl dX4_together_200 ?_
                refine lv_iconst (v := (1 : Int32)) hx hb dX4_together_203 (by decide) ?_
                refine lv_iadd hx hb dX4_together_204 ?_
                refine va_put (D := (dC, dI)) (ci := 3) (v := .int (σ.2.2.2.2.2.2.2.2.2.2.2.1 + (1 : Int32))) (ty := .int) (C := RX4) (T := TX4) (N := 13) hx hb hts hin0 tyX4 tyX4_ok nmX4 hown hK hP hD hS 0 rfl rfl 11 (by decide) fl_96 (fun _ h9 => h9) rfl (by decide +kernel) rfl rfl (Nat.le_of_ble_eq_true rfl) dX4_together_205 (fun H locs hP hD hS => ?_)
                have hP : va_P (dC, dI) vwCl [(h0, .inr (3, [.int σ.1, .int σ.2.1, .int σ.2.2.1, .ref w0, .int σ.2.2.2.2.1, .int σ.2.2.2.2.2.1, .long σ.2.2.2.2.2.2.1, .ref so, .ref be, .int σ.2.2.2.2.2.2.2.2.2.1, .int σ.2.2.2.2.2.2.2.2.2.2.1, .int (σ.2.2.2.2.2.2.2.2.2.2.2.1 + (1 : Int32)), .int σ.2.2.2.2.2.2.2.2.2.2.2.2])), (w0, .inl (cJ, 511, .inr (.inl (σ.2.2.2.1)))), (so, .inl (cI, 30, .inl ((upd (upd σ.2.2.2.2.2.2.2.1 x5.toNatClampNeg (0 : Int32)) (0 : Int32).toNatClampNeg (1 : Int32))))), (be, .inl (cI, 30, .inl (σ.2.2.2.2.2.2.2.2.1)))] H := hP
                have hD : va_D A [(h0, .inr (3, [.int σ.1, .int σ.2.1, .int σ.2.2.1, .ref w0, .int σ.2.2.2.2.1, .int σ.2.2.2.2.2.1, .long σ.2.2.2.2.2.2.1, .ref so, .ref be, .int σ.2.2.2.2.2.2.2.2.2.1, .int σ.2.2.2.2.2.2.2.2.2.2.1, .int (σ.2.2.2.2.2.2.2.2.2.2.2.1 + (1 : Int32)), .int σ.2.2.2.2.2.2.2.2.2.2.2.2])), (w0, .inl (cJ, 511, .inr (.inl (σ.2.2.2.1)))), (so, .inl (cI, 30, .inl ((upd (upd σ.2.2.2.2.2.2.2.1 x5.toNatClampNeg (0 : Int32)) (0 : Int32).toNatClampNeg (1 : Int32))))), (be, .inl (cI, 30, .inl (σ.2.2.2.2.2.2.2.2.1)))] := hD
                refine lv_iinc (v := (x5 + (1 : Int32))) (lv' := [(5, .int (x5 + (1 : Int32))), (3, .int (x3 + (1 : Int32))), (6, .int (0 : Int32)), (4, .int x4), (2, .int x2), (0, .ref h0), (1, .int x1)]) hx hb dX4_together_208 hl (k := 2) rfl rfl (by decide) rfl (fun ls hl => ?_)
                refine lv_goto (tgt := 116) hx hb dX4_together_211 (by decide) ?_
                exact ih (x3 + (1 : Int32)) (x5 + (1 : Int32)) (σ.1, σ.2.1, σ.2.2.1, σ.2.2.2.1, σ.2.2.2.2.1, σ.2.2.2.2.2.1, σ.2.2.2.2.2.2.1, (upd (upd σ.2.2.2.2.2.2.2.1 x5.toNatClampNeg (0 : Int32)) (0 : Int32).toNatClampNeg (1 : Int32)), σ.2.2.2.2.2.2.2.2.1, σ.2.2.2.2.2.2.2.2.2.1, σ.2.2.2.2.2.2.2.2.2.2.1, (σ.2.2.2.2.2.2.2.2.2.2.2.1 + (1 : Int32)), σ.2.2.2.2.2.2.2.2.2.2.2.2) _ hw hk H locs ls hP hD hS (lv_sub hl [0, 3, 1, 4, 5, 6] rfl)
  have L75 : ∀ (x1 : Int32) (x2 : Int32)  (n : Nat) (x3 : Int32) (x4 : Int32) (σ : SM) (k : Int32 → Int32 → SM → Prop), wl_X4_together_75 x1 x2  n x3 x4 σ k →
      (∀ (x3 : Int32) (x4 : Int32) (σ : SM), k x3 x4 σ → ∀ (H : Heap) (locs : List Loc) (ls : Array Slot), va_P (dC, dI) vwCl [(h0, .inr (3, [.int σ.1, .int σ.2.1, .int σ.2.2.1, .ref w0, .int σ.2.2.2.2.1, .int σ.2.2.2.2.2.1, .long σ.2.2.2.2.2.2.1, .ref so, .ref be, .int σ.2.2.2.2.2.2.2.2.2.1, .int σ.2.2.2.2.2.2.2.2.2.2.1, .int σ.2.2.2.2.2.2.2.2.2.2.2.1, .int σ.2.2.2.2.2.2.2.2.2.2.2.2])), (w0, .inl (cJ, 511, .inr (.inl (σ.2.2.2.1)))), (so, .inl (cI, 30, .inl (σ.2.2.2.2.2.2.2.1))), (be, .inl (cI, 30, .inl (σ.2.2.2.2.2.2.2.2.1)))] H → va_D A [(h0, .inr (3, [.int σ.1, .int σ.2.1, .int σ.2.2.1, .ref w0, .int σ.2.2.2.2.1, .int σ.2.2.2.2.2.1, .long σ.2.2.2.2.2.2.1, .ref so, .ref be, .int σ.2.2.2.2.2.2.2.2.2.1, .int σ.2.2.2.2.2.2.2.2.2.2.1, .int σ.2.2.2.2.2.2.2.2.2.2.2.1, .int σ.2.2.2.2.2.2.2.2.2.2.2.2])), (w0, .inl (cJ, 511, .inr (.inl (σ.2.2.2.1)))), (so, .inl (cI, 30, .inl (σ.2.2.2.2.2.2.2.1))), (be, .inl (cI, 30, .inl (σ.2.2.2.2.2.2.2.2.1)))] → va_S A s.heap H locs → lv_has ls 7 [(4, .int x4), (3, .int x3), (2, .int x2), (0, .ref h0), (1, .int x1)] → W p l e (headSpec wsX4_together ({ frames := 1, cells := 0, slots := 0, locals := 25 } : Room)).room s m ([.ref h0, .int p0] : List Value).toArray below meth c H locs 0 0 (MQ below (va_Qi (fun r u => ∃ σ', post r σ' ∧ u = (cl4 h0 w0 so be cJ cI (σ'))) (kB (dC, dI) [(cJ, .long), (cI, .int)] A) A) ([.ref h0, .int p0] : List Value).toArray s 0 0 A) (F0 m 297 ls [])) →
      ∀ (H : Heap) (locs : List Loc) (ls : Array Slot), va_P (dC, dI) vwCl [(h0, .inr (3, [.int σ.1, .int σ.2.1, .int σ.2.2.1, .ref w0, .int σ.2.2.2.2.1, .int σ.2.2.2.2.2.1, .long σ.2.2.2.2.2.2.1, .ref so, .ref be, .int σ.2.2.2.2.2.2.2.2.2.1, .int σ.2.2.2.2.2.2.2.2.2.2.1, .int σ.2.2.2.2.2.2.2.2.2.2.2.1, .int σ.2.2.2.2.2.2.2.2.2.2.2.2])), (w0, .inl (cJ, 511, .inr (.inl (σ.2.2.2.1)))), (so, .inl (cI, 30, .inl (σ.2.2.2.2.2.2.2.1))), (be, .inl (cI, 30, .inl (σ.2.2.2.2.2.2.2.2.1)))] H → va_D A [(h0, .inr (3, [.int σ.1, .int σ.2.1, .int σ.2.2.1, .ref w0, .int σ.2.2.2.2.1, .int σ.2.2.2.2.2.1, .long σ.2.2.2.2.2.2.1, .ref so, .ref be, .int σ.2.2.2.2.2.2.2.2.2.1, .int σ.2.2.2.2.2.2.2.2.2.2.1, .int σ.2.2.2.2.2.2.2.2.2.2.2.1, .int σ.2.2.2.2.2.2.2.2.2.2.2.2])), (w0, .inl (cJ, 511, .inr (.inl (σ.2.2.2.1)))), (so, .inl (cI, 30, .inl (σ.2.2.2.2.2.2.2.1))), (be, .inl (cI, 30, .inl (σ.2.2.2.2.2.2.2.2.1)))] → va_S A s.heap H locs → lv_has ls 7 [(4, .int x4), (3, .int x3), (2, .int x2), (0, .ref h0), (1, .int x1)] → W p l e (headSpec wsX4_together ({ frames := 1, cells := 0, slots := 0, locals := 25 } : Room)).room s m ([.ref h0, .int p0] : List Value).toArray below meth c H locs 0 0 (MQ below (va_Qi (fun r u => ∃ σ', post r σ' ∧ u = (cl4 h0 w0 so be cJ cI (σ'))) (kB (dC, dI) [(cJ, .long), (cI, .int)] A) A) ([.ref h0, .int p0] : List Value).toArray s 0 0 A) (F0 m 75 ls []) := by
    intro x1 x2 n
    induction n with
    | zero => intro x3 x4 σ k hw; exact absurd hw id
    | succ n ih =>
      intro x3 x4 σ k hw hk H locs ls hP hD hS hl
      unfold wl_X4_together_75 at hw
      refine lv_iload hx hb dX4_together_75 (lv_at hl 0 rfl) ?_
      refine lv_iload_n hx hb dX4_together_77 rfl (lv_at hl 4 rfl) ?_
      refine lv_icmp_ge (tgt := 297) hx hb dX4_together_78 (by decide) (fun c13 => ?_) (fun c13 => ?_)
      · have hw := hw.1 c13
        exact hk x3 x4 σ hw H locs ls hP hD hS (lv_sub hl [0, 1, 2, 3, 4] rfl)
      · have hw := hw.2 c13
        refine lv_iconst (v := (0 : Int32)) hx hb dX4_together_81 (by decide) ?_
        refine lv_istore (lv' := [(5, .int (0 : Int32)), (4, .int x4), (3, .int x3), (2, .int x2), (0, .ref h0), (1, .int x1)]) hx hb dX4_together_82 hl (by decide) rfl (fun ls hl => ?_)
        refine L84 x1 x2 x3 x4 (20000) (0 : Int32) σ _ hw (fun x5_17 σ18 hw H locs ls hP hD hS hl => ?_) H locs ls hP hD hS (lv_sub hl [0, 1, 2, 3, 4, 5] rfl)
        refine lv_iconst (v := (0 : Int32)) hx hb dX4_together_113 (by decide) ?_
        refine lv_istore (lv' := [(5, .int (0 : Int32)), (4, .int x4), (3, .int x3), (2, .int x2), (0, .ref h0), (1, .int x1)]) hx hb dX4_together_114 hl (by decide) rfl (fun ls hl => ?_)
        refine L116 x1 x2 x4 (20000) x3 (0 : Int32) σ18 _ hw (fun x3_38 x5_39 σ40 hw H locs ls hP hD hS hl => ?_) H locs ls hP hD hS (lv_sub hl [0, 1, 2, 3, 4, 5] rfl)
        refine lv_aload_n hx hb dX4_together_214 rfl (lv_at hl 4 rfl) ?_
        refine va_get (D := (dC, dI)) (ci := 3) (v := .int σ40.2.2.2.2.2.1) (C := RX4) (T := TX4) (N := 13) hx hb hts hin0 hown hK hP 0 rfl rfl 5 (by decide) fl_86 (fun _ h9 => h9) rfl dX4_together_215 ?_
        refine lv_if_eq (tgt := 258) hx hb dX4_together_218 (by decide) (fun c41 => ?_) (fun c41 => ?_)
        · have hw := hw.1 c41
          refine lv_aload_n hx hb dX4_together_258 rfl (lv_at hl 4 rfl) ?_
          refine va_get (D := (dC, dI)) (ci := 3) (v := .int σ40.2.2.2.2.2.1) (C := RX4) (T := TX4) (N := 13) hx hb hts hin0 hown hK hP 0 rfl rfl 5 (by decide) fl_86 (fun _ h9 => h9) rfl dX4_together_259 ?_
          refine lv_if_eq (tgt := 291) hx hb dX4_together_262 (by decide) (fun c42 => ?_) (fun c42 => ?_)
          · have hw := hw.1 c42
            refine lv_iinc (v := (x4 + (1 : Int32))) (lv' := [(4, .int (x4 + (1 : Int32))), (5, .int x5_39), (3, .int x3_38), (2, .int x2), (0, .ref h0), (1, .int x1)]) hx hb dX4_together_291 hl (k := 1) rfl rfl (by decide) rfl (fun ls hl => ?_)
            refine lv_goto (tgt := 75) hx hb dX4_together_294 (by decide) ?_
            exact ih x3_38 (x4 + (1 : Int32)) σ40 _ hw hk H locs ls hP hD hS (lv_sub hl [0, 2, 3, 4, 5] rfl)
          · have hw := hw.2 c42
            refine lv_aload_n hx hb dX4_together_265 rfl (lv_at hl 4 rfl) ?_
            refine va_get (D := (dC, dI)) (ci := 3) (v := .ref be) (C := RX4) (T := TX4) (N := 13) hx hb hts hin0 hown hK hP 0 rfl rfl 8 (by decide) fl_31 (fun _ h9 => h9) rfl dX4_together_266 ?_
            refine lv_iconst (v := (0 : Int32)) hx hb dX4_together_269 (by decide) ?_
            have z43 := hw.1
            have hw := hw.2
            refine va_iald hx hb hK hP 3 1 rfl rfl z43 dX4_together_270 ?_
            refine lv_if_ne (tgt := 291) hx hb dX4_together_271 (by decide) (fun c44 => ?_) (fun c44 => ?_)
            · have hw := hw.1 c44
              refine lv_iinc (v := (x4 + (1 : Int32))) (lv' := [(4, .int (x4 + (1 : Int32))), (5, .int x5_39), (3, .int x3_38), (2, .int x2), (0, .ref h0), (1, .int x1)]) hx hb dX4_together_291 hl (k := 1) rfl rfl (by decide) rfl (fun ls hl => ?_)
              refine lv_goto (tgt := 75) hx hb dX4_together_294 (by decide) ?_
              exact ih x3_38 (x4 + (1 : Int32)) σ40 _ hw hk H locs ls hP hD hS (lv_sub hl [0, 2, 3, 4, 5] rfl)
            · have hw := hw.2 c44
              refine lv_aload_n hx hb dX4_together_274 rfl (lv_at hl 4 rfl) ?_
              refine va_get (D := (dC, dI)) (ci := 3) (v := .ref so) (C := RX4) (T := TX4) (N := 13) hx hb hts hin0 hown hK hP 0 rfl rfl 7 (by decide) fl_27 (fun _ h9 => h9) rfl dX4_together_275 ?_
              refine lv_iconst (v := (0 : Int32)) hx hb dX4_together_278 (by decide) ?_
              refine lv_iconst (v := (1 : Int32)) hx hb dX4_together_279 (by decide) ?_
              have z45 := hw.1
              have hw := hw.2
              refine va_iast hx hb hK hP hD hS 2 1 rfl rfl z45 dX4_together_280 (fun H locs hP hD hS => ?_)
              have hP : va_P (dC, dI) vwCl [(h0, .inr (3, [.int σ40.1, .int σ40.2.1, .int σ40.2.2.1, .ref w0, .int σ40.2.2.2.2.1, .int σ40.2.2.2.2.2.1, .long σ40.2.2.2.2.2.2.1, .ref so, .ref be, .int σ40.2.2.2.2.2.2.2.2.2.1, .int σ40.2.2.2.2.2.2.2.2.2.2.1, .int σ40.2.2.2.2.2.2.2.2.2.2.2.1, .int σ40.2.2.2.2.2.2.2.2.2.2.2.2])), (w0, .inl (cJ, 511, .inr (.inl (σ40.2.2.2.1)))), (so, .inl (cI, 30, .inl ((upd σ40.2.2.2.2.2.2.2.1 (0 : Int32).toNatClampNeg (1 : Int32))))), (be, .inl (cI, 30, .inl (σ40.2.2.2.2.2.2.2.2.1)))] H := hP
              have hD : va_D A [(h0, .inr (3, [.int σ40.1, .int σ40.2.1, .int σ40.2.2.1, .ref w0, .int σ40.2.2.2.2.1, .int σ40.2.2.2.2.2.1, .long σ40.2.2.2.2.2.2.1, .ref so, .ref be, .int σ40.2.2.2.2.2.2.2.2.2.1, .int σ40.2.2.2.2.2.2.2.2.2.2.1, .int σ40.2.2.2.2.2.2.2.2.2.2.2.1, .int σ40.2.2.2.2.2.2.2.2.2.2.2.2])), (w0, .inl (cJ, 511, .inr (.inl (σ40.2.2.2.1)))), (so, .inl (cI, 30, .inl ((upd σ40.2.2.2.2.2.2.2.1 (0 : Int32).toNatClampNeg (1 : Int32))))), (be, .inl (cI, 30, .inl (σ40.2.2.2.2.2.2.2.2.1)))] := hD
              refine lv_aload_n hx hb dX4_together_281 rfl (lv_at hl 4 rfl) ?_
              refine lv_dup hx hb dX4_together_282 rfl ?_
              refine va_get (D := (dC, dI)) (ci := 3) (v := .int σ40.2.2.2.2.2.2.2.2.2.1) (C := RX4) (T := TX4) (N := 13) hx hb hts hin0 hown hK hP 0 rfl rfl 9 (by decide) fl_90 (fun _ h9 => h9) rfl dX4_together_283 ?_
              refine lv_iconst (v := (1 : Int32)) hx hb dX4_together_286 (by decide) ?_
              refine lv_iadd hx hb dX4_together_287 ?_
              refine va_put (D := (dC, dI)) (ci := 3) (v := .int (σ40.2.2.2.2.2.2.2.2.2.1 + (1 : Int32))) (ty := .int) (C := RX4) (T := TX4) (N := 13) hx hb hts hin0 tyX4 tyX4_ok nmX4 hown hK hP hD hS 0 rfl rfl 9 (by decide) fl_90 (fun _ h9 => h9) rfl (by decide +kernel) rfl rfl (Nat.le_of_ble_eq_true rfl) dX4_together_288 (fun H locs hP hD hS => ?_)
              have hP : va_P (dC, dI) vwCl [(h0, .inr (3, [.int σ40.1, .int σ40.2.1, .int σ40.2.2.1, .ref w0, .int σ40.2.2.2.2.1, .int σ40.2.2.2.2.2.1, .long σ40.2.2.2.2.2.2.1, .ref so, .ref be, .int (σ40.2.2.2.2.2.2.2.2.2.1 + (1 : Int32)), .int σ40.2.2.2.2.2.2.2.2.2.2.1, .int σ40.2.2.2.2.2.2.2.2.2.2.2.1, .int σ40.2.2.2.2.2.2.2.2.2.2.2.2])), (w0, .inl (cJ, 511, .inr (.inl (σ40.2.2.2.1)))), (so, .inl (cI, 30, .inl ((upd σ40.2.2.2.2.2.2.2.1 (0 : Int32).toNatClampNeg (1 : Int32))))), (be, .inl (cI, 30, .inl (σ40.2.2.2.2.2.2.2.2.1)))] H := hP
              have hD : va_D A [(h0, .inr (3, [.int σ40.1, .int σ40.2.1, .int σ40.2.2.1, .ref w0, .int σ40.2.2.2.2.1, .int σ40.2.2.2.2.2.1, .long σ40.2.2.2.2.2.2.1, .ref so, .ref be, .int (σ40.2.2.2.2.2.2.2.2.2.1 + (1 : Int32)), .int σ40.2.2.2.2.2.2.2.2.2.2.1, .int σ40.2.2.2.2.2.2.2.2.2.2.2.1, .int σ40.2.2.2.2.2.2.2.2.2.2.2.2])), (w0, .inl (cJ, 511, .inr (.inl (σ40.2.2.2.1)))), (so, .inl (cI, 30, .inl ((upd σ40.2.2.2.2.2.2.2.1 (0 : Int32).toNatClampNeg (1 : Int32))))), (be, .inl (cI, 30, .inl (σ40.2.2.2.2.2.2.2.2.1)))] := hD
              refine lv_iinc (v := (x4 + (1 : Int32))) (lv' := [(4, .int (x4 + (1 : Int32))), (5, .int x5_39), (3, .int x3_38), (2, .int x2), (0, .ref h0), (1, .int x1)]) hx hb dX4_together_291 hl (k := 1) rfl rfl (by decide) rfl (fun ls hl => ?_)
              refine lv_goto (tgt := 75) hx hb dX4_together_294 (by decide) ?_
              exact ih x3_38 (x4 + (1 : Int32)) (σ40.1, σ40.2.1, σ40.2.2.1, σ40.2.2.2.1, σ40.2.2.2.2.1, σ40.2.2.2.2.2.1, σ40.2.2.2.2.2.2.1, (upd σ40.2.2.2.2.2.2.2.1 (0 : Int32).toNatClampNeg (1 : Int32)), σ40.2.2.2.2.2.2.2.2.1, (σ40.2.2.2.2.2.2.2.2.2.1 + (1 : Int32)), σ40.2.2.2.2.2.2.2.2.2.2.1, σ40.2.2.2.2.2.2.2.2.2.2.2.1, σ40.2.2.2.2.2.2.2.2.2.2.2.2) _ hw hk H locs ls hP hD hS (lv_sub hl [0, 2, 3, 4, 5] rfl)
        · have hw := hw.2 c41
          refine lv_aload_n hx hb dX4_together_221 rfl (lv_at hl 4 rfl) ?_
          refine va_get (D := (dC, dI)) (ci := 3) (v := .ref be) (C := RX4) (T := TX4) (N := 13) hx hb hts hin0 hown hK hP 0 rfl rfl 8 (by decide) fl_31 (fun _ h9 => h9) rfl dX4_together_222 ?_
          refine lv_aload_n hx hb dX4_together_225 rfl (lv_at hl 4 rfl) ?_
          refine va_get (D := (dC, dI)) (ci := 3) (v := .int σ40.2.2.2.2.1) (C := RX4) (T := TX4) (N := 13) hx hb hts hin0 hown hK hP 0 rfl rfl 4 (by decide) fl_83 (fun _ h9 => h9) rfl dX4_together_226 ?_
          refine lv_iconst (v := (1 : Int32)) hx hb dX4_together_229 (by decide) ?_
          refine lv_isub hx hb dX4_together_230 ?_
          have z46 := hw.1
          have hw := hw.2
          refine va_iald hx hb hK hP 3 1 rfl rfl z46 dX4_together_231 ?_
          refine lv_iconst (v := (1 : Int32)) hx hb dX4_together_232 (by decide) ?_
          refine lv_icmp_ne (tgt := 258) hx hb dX4_together_233 (by decide) (fun c47 => ?_) (fun c47 => ?_)
          · have hw := hw.1 c47
            refine lv_aload_n hx hb dX4_together_258 rfl (lv_at hl 4 rfl) ?_
            refine va_get (D := (dC, dI)) (ci := 3) (v := .int σ40.2.2.2.2.2.1) (C := RX4) (T := TX4) (N := 13) hx hb hts hin0 hown hK hP 0 rfl rfl 5 (by decide) fl_86 (fun _ h9 => h9) rfl dX4_together_259 ?_
            refine lv_if_eq (tgt := 291) hx hb dX4_together_262 (by decide) (fun c48 => ?_) (fun c48 => ?_)
            · have hw := hw.1 c48
              refine lv_iinc (v := (x4 + (1 : Int32))) (lv' := [(4, .int (x4 + (1 : Int32))), (5, .int x5_39), (3, .int x3_38), (2, .int x2), (0, .ref h0), (1, .int x1)]) hx hb dX4_together_291 hl (k := 1) rfl rfl (by decide) rfl (fun ls hl => ?_)
              refine lv_goto (tgt := 75) hx hb dX4_together_294 (by decide) ?_
              exact ih x3_38 (x4 + (1 : Int32)) σ40 _ hw hk H locs ls hP hD hS (lv_sub hl [0, 2, 3, 4, 5] rfl)
            · have hw := hw.2 c48
              refine lv_aload_n hx hb dX4_together_265 rfl (lv_at hl 4 rfl) ?_
              refine va_get (D := (dC, dI)) (ci := 3) (v := .ref be) (C := RX4) (T := TX4) (N := 13) hx hb hts hin0 hown hK hP 0 rfl rfl 8 (by decide) fl_31 (fun _ h9 => h9) rfl dX4_together_266 ?_
              refine lv_iconst (v := (0 : Int32)) hx hb dX4_together_269 (by decide) ?_
              have z49 := hw.1
              have hw := hw.2
              refine va_iald hx hb hK hP 3 1 rfl rfl z49 dX4_together_270 ?_
              refine lv_if_ne (tgt := 291) hx hb dX4_together_271 (by decide) (fun c50 => ?_) (fun c50 => ?_)
              · have hw := hw.1 c50
                refine lv_iinc (v := (x4 + (1 : Int32))) (lv' := [(4, .int (x4 + (1 : Int32))), (5, .int x5_39), (3, .int x3_38), (2, .int x2), (0, .ref h0), (1, .int x1)]) hx hb dX4_together_291 hl (k := 1) rfl rfl (by decide) rfl (fun ls hl => ?_)
                refine lv_goto (tgt := 75) hx hb dX4_together_294 (by decide) ?_
                exact ih x3_38 (x4 + (1 : Int32)) σ40 _ hw hk H locs ls hP hD hS (lv_sub hl [0, 2, 3, 4, 5] rfl)
              · have hw := hw.2 c50
                refine lv_aload_n hx hb dX4_together_274 rfl (lv_at hl 4 rfl) ?_
                refine va_get (D := (dC, dI)) (ci := 3) (v := .ref so) (C := RX4) (T := TX4) (N := 13) hx hb hts hin0 hown hK hP 0 rfl rfl 7 (by decide) fl_27 (fun _ h9 => h9) rfl dX4_together_275 ?_
                refine lv_iconst (v := (0 : Int32)) hx hb dX4_together_278 (by decide) ?_
                refine lv_iconst (v := (1 : Int32)) hx hb dX4_together_279 (by decide) ?_
                have z51 := hw.1
                have hw := hw.2
                refine va_iast hx hb hK hP hD hS 2 1 rfl rfl z51 dX4_together_280 (fun H locs hP hD hS => ?_)
                have hP : va_P (dC, dI) vwCl [(h0, .inr (3, [.int σ40.1, .int σ40.2.1, .int σ40.2.2.1, .ref w0, .int σ40.2.2.2.2.1, .int σ40.2.2.2.2.2.1, .long σ40.2.2.2.2.2.2.1, .ref so, .ref be, .int σ40.2.2.2.2.2.2.2.2.2.1, .int σ40.2.2.2.2.2.2.2.2.2.2.1, .int σ40.2.2.2.2.2.2.2.2.2.2.2.1, .int σ40.2.2.2.2.2.2.2.2.2.2.2.2])), (w0, .inl (cJ, 511, .inr (.inl (σ40.2.2.2.1)))), (so, .inl (cI, 30, .inl ((upd σ40.2.2.2.2.2.2.2.1 (0 : Int32).toNatClampNeg (1 : Int32))))), (be, .inl (cI, 30, .inl (σ40.2.2.2.2.2.2.2.2.1)))] H := hP
                have hD : va_D A [(h0, .inr (3, [.int σ40.1, .int σ40.2.1, .int σ40.2.2.1, .ref w0, .int σ40.2.2.2.2.1, .int σ40.2.2.2.2.2.1, .long σ40.2.2.2.2.2.2.1, .ref so, .ref be, .int σ40.2.2.2.2.2.2.2.2.2.1, .int σ40.2.2.2.2.2.2.2.2.2.2.1, .int σ40.2.2.2.2.2.2.2.2.2.2.2.1, .int σ40.2.2.2.2.2.2.2.2.2.2.2.2])), (w0, .inl (cJ, 511, .inr (.inl (σ40.2.2.2.1)))), (so, .inl (cI, 30, .inl ((upd σ40.2.2.2.2.2.2.2.1 (0 : Int32).toNatClampNeg (1 : Int32))))), (be, .inl (cI, 30, .inl (σ40.2.2.2.2.2.2.2.2.1)))] := hD
                refine lv_aload_n hx hb dX4_together_281 rfl (lv_at hl 4 rfl) ?_
                refine lv_dup hx hb dX4_together_282 rfl ?_
                refine va_get (D := (dC, dI)) (ci := 3) (v := .int σ40.2.2.2.2.2.2.2.2.2.1) (C := RX4) (T := TX4) (N := 13) hx hb hts hin0 hown hK hP 0 rfl rfl 9 (by decide) fl_90 (fun _ h9 => h9) rfl dX4_together_283 ?_
                refine lv_iconst (v := (1 : Int32)) hx hb dX4_together_286 (by decide) ?_
                refine lv_iadd hx hb dX4_together_287 ?_
                refine va_put (D := (dC, dI)) (ci := 3) (v := .int (σ40.2.2.2.2.2.2.2.2.2.1 + (1 : Int32))) (ty := .int) (C := RX4) (T := TX4) (N := 13) hx hb hts hin0 tyX4 tyX4_ok nmX4 hown hK hP hD hS 0 rfl rfl 9 (by decide) fl_90 (fun _ h9 => h9) rfl (by decide +kernel) rfl rfl (Nat.le_of_ble_eq_true rfl) dX4_together_288 (fun H locs hP hD hS => ?_)
                have hP : va_P (dC, dI) vwCl [(h0, .inr (3, [.int σ40.1, .int σ40.2.1, .int σ40.2.2.1, .ref w0, .int σ40.2.2.2.2.1, .int σ40.2.2.2.2.2.1, .long σ40.2.2.2.2.2.2.1, .ref so, .ref be, .int (σ40.2.2.2.2.2.2.2.2.2.1 + (1 : Int32)), .int σ40.2.2.2.2.2.2.2.2.2.2.1, .int σ40.2.2.2.2.2.2.2.2.2.2.2.1, .int σ40.2.2.2.2.2.2.2.2.2.2.2.2])), (w0, .inl (cJ, 511, .inr (.inl (σ40.2.2.2.1)))), (so, .inl (cI, 30, .inl ((upd σ40.2.2.2.2.2.2.2.1 (0 : Int32).toNatClampNeg (1 : Int32))))), (be, .inl (cI, 30, .inl (σ40.2.2.2.2.2.2.2.2.1)))] H := hP
                have hD : va_D A [(h0, .inr (3, [.int σ40.1, .int σ40.2.1, .int σ40.2.2.1, .ref w0, .int σ40.2.2.2.2.1, .int σ40.2.2.2.2.2.1, .long σ40.2.2.2.2.2.2.1, .ref so, .ref be, .int (σ40.2.2.2.2.2.2.2.2.2.1 + (1 : Int32)), .int σ40.2.2.2.2.2.2.2.2.2.2.1, .int σ40.2.2.2.2.2.2.2.2.2.2.2.1, .int σ40.2.2.2.2.2.2.2.2.2.2.2.2])), (w0, .inl (cJ, 511, .inr (.inl (σ40.2.2.2.1)))), (so, .inl (cI, 30, .inl ((upd σ40.2.2.2.2.2.2.2.1 (0 : Int32).toNatClampNeg (1 : Int32))))), (be, .inl (cI, 30, .inl (σ40.2.2.2.2.2.2.2.2.1)))] := hD
                refine lv_iinc (v := (x4 + (1 : Int32))) (lv' := [(4, .int (x4 + (1 : Int32))), (5, .int x5_39), (3, .int x3_38), (2, .int x2), (0, .ref h0), (1, .int x1)]) hx hb dX4_together_291 hl (k := 1) rfl rfl (by decide) rfl (fun ls hl => ?_)
                refine lv_goto (tgt := 75) hx hb dX4_together_294 (by decide) ?_
                exact ih x3_38 (x4 + (1 : Int32)) (σ40.1, σ40.2.1, σ40.2.2.1, σ40.2.2.2.1, σ40.2.2.2.2.1, σ40.2.2.2.2.2.1, σ40.2.2.2.2.2.2.1, (upd σ40.2.2.2.2.2.2.2.1 (0 : Int32).toNatClampNeg (1 : Int32)), σ40.2.2.2.2.2.2.2.2.1, (σ40.2.2.2.2.2.2.2.2.2.1 + (1 : Int32)), σ40.2.2.2.2.2.2.2.2.2.2.1, σ40.2.2.2.2.2.2.2.2.2.2.2.1, σ40.2.2.2.2.2.2.2.2.2.2.2.2) _ hw hk H locs ls hP hD hS (lv_sub hl [0, 2, 3, 4, 5] rfl)
          · have hw := hw.2 c47
            refine lv_aload_n hx hb dX4_together_236 rfl (lv_at hl 4 rfl) ?_
            refine va_get (D := (dC, dI)) (ci := 3) (v := .ref so) (C := RX4) (T := TX4) (N := 13) hx hb hts hin0 hown hK hP 0 rfl rfl 7 (by decide) fl_27 (fun _ h9 => h9) rfl dX4_together_237 ?_
            refine lv_aload_n hx hb dX4_together_240 rfl (lv_at hl 4 rfl) ?_
            refine va_get (D := (dC, dI)) (ci := 3) (v := .int σ40.2.2.2.2.1) (C := RX4) (T := TX4) (N := 13) hx hb hts hin0 hown hK hP 0 rfl rfl 4 (by decide) fl_83 (fun _ h9 => h9) rfl dX4_together_241 ?_
            refine lv_iconst (v := (1 : Int32)) hx hb dX4_together_244 (by decide) ?_
            refine lv_isub hx hb dX4_together_245 ?_
            refine lv_iconst (v := (0 : Int32)) hx hb dX4_together_246 (by decide) ?_
            have z52 := hw.1
            have hw := hw.2
            refine va_iast hx hb hK hP hD hS 2 1 rfl rfl z52 dX4_together_247 (fun H locs hP hD hS => ?_)
            have hP : va_P (dC, dI) vwCl [(h0, .inr (3, [.int σ40.1, .int σ40.2.1, .int σ40.2.2.1, .ref w0, .int σ40.2.2.2.2.1, .int σ40.2.2.2.2.2.1, .long σ40.2.2.2.2.2.2.1, .ref so, .ref be, .int σ40.2.2.2.2.2.2.2.2.2.1, .int σ40.2.2.2.2.2.2.2.2.2.2.1, .int σ40.2.2.2.2.2.2.2.2.2.2.2.1, .int σ40.2.2.2.2.2.2.2.2.2.2.2.2])), (w0, .inl (cJ, 511, .inr (.inl (σ40.2.2.2.1)))), (so, .inl (cI, 30, .inl ((upd σ40.2.2.2.2.2.2.2.1 (σ40.2.2.2.2.1 - (1 : Int32)).toNatClampNeg (0 : Int32))))), (be, .inl (cI, 30, .inl (σ40.2.2.2.2.2.2.2.2.1)))] H := hP
            have hD : va_D A [(h0, .inr (3, [.int σ40.1, .int σ40.2.1, .int σ40.2.2.1, .ref w0, .int σ40.2.2.2.2.1, .int σ40.2.2.2.2.2.1, .long σ40.2.2.2.2.2.2.1, .ref so, .ref be, .int σ40.2.2.2.2.2.2.2.2.2.1, .int σ40.2.2.2.2.2.2.2.2.2.2.1, .int σ40.2.2.2.2.2.2.2.2.2.2.2.1, .int σ40.2.2.2.2.2.2.2.2.2.2.2.2])), (w0, .inl (cJ, 511, .inr (.inl (σ40.2.2.2.1)))), (so, .inl (cI, 30, .inl ((upd σ40.2.2.2.2.2.2.2.1 (σ40.2.2.2.2.1 - (1 : Int32)).toNatClampNeg (0 : Int32))))), (be, .inl (cI, 30, .inl (σ40.2.2.2.2.2.2.2.2.1)))] := hD
            refine lv_aload_n hx hb dX4_together_248 rfl (lv_at hl 4 rfl) ?_
            refine lv_dup hx hb dX4_together_249 rfl ?_
            refine va_get (D := (dC, dI)) (ci := 3) (v := .int σ40.2.2.2.2.2.2.2.2.2.2.1) (C := RX4) (T := TX4) (N := 13) hx hb hts hin0 hown hK hP 0 rfl rfl 10 (by decide) fl_93 (fun _ h9 => h9) rfl dX4_together_250 ?_
            refine lv_iconst (v := (1 : Int32)) hx hb dX4_together_253 (by decide) ?_
            refine lv_iadd hx hb dX4_together_254 ?_
            refine va_put (D := (dC, dI)) (ci := 3) (v := .int (σ40.2.2.2.2.2.2.2.2.2.2.1 + (1 : Int32))) (ty := .int) (C := RX4) (T := TX4) (N := 13) hx hb hts hin0 tyX4 tyX4_ok nmX4 hown hK hP hD hS 0 rfl rfl 10 (by decide) fl_93 (fun _ h9 => h9) rfl (by decide +kernel) rfl rfl (Nat.le_of_ble_eq_true rfl) dX4_together_255 (fun H locs hP hD hS => ?_)
            have hP : va_P (dC, dI) vwCl [(h0, .inr (3, [.int σ40.1, .int σ40.2.1, .int σ40.2.2.1, .ref w0, .int σ40.2.2.2.2.1, .int σ40.2.2.2.2.2.1, .long σ40.2.2.2.2.2.2.1, .ref so, .ref be, .int σ40.2.2.2.2.2.2.2.2.2.1, .int (σ40.2.2.2.2.2.2.2.2.2.2.1 + (1 : Int32)), .int σ40.2.2.2.2.2.2.2.2.2.2.2.1, .int σ40.2.2.2.2.2.2.2.2.2.2.2.2])), (w0, .inl (cJ, 511, .inr (.inl (σ40.2.2.2.1)))), (so, .inl (cI, 30, .inl ((upd σ40.2.2.2.2.2.2.2.1 (σ40.2.2.2.2.1 - (1 : Int32)).toNatClampNeg (0 : Int32))))), (be, .inl (cI, 30, .inl (σ40.2.2.2.2.2.2.2.2.1)))] H := hP
            have hD : va_D A [(h0, .inr (3, [.int σ40.1, .int σ40.2.1, .int σ40.2.2.1, .ref w0, .int σ40.2.2.2.2.1, .int σ40.2.2.2.2.2.1, .long σ40.2.2.2.2.2.2.1, .ref so, .ref be, .int σ40.2.2.2.2.2.2.2.2.2.1, .int (σ40.2.2.2.2.2.2.2.2.2.2.1 + (1 : Int32)), .int σ40.2.2.2.2.2.2.2.2.2.2.2.1, .int σ40.2.2.2.2.2.2.2.2.2.2.2.2])), (w0, .inl (cJ, 511, .inr (.inl (σ40.2.2.2.1)))), (so, .inl (cI, 30, .inl ((upd σ40.2.2.2.2.2.2.2.1 (σ40.2.2.2.2.1 - (1 : Int32)).toNatClampNeg (0 : Int32))))), (be, .inl (cI, 30, .inl (σ40.2.2.2.2.2.2.2.2.1)))] := hD
            refine lv_aload_n hx hb dX4_together_258 rfl (lv_at hl 4 rfl) ?_
            refine va_get (D := (dC, dI)) (ci := 3) (v := .int σ40.2.2.2.2.2.1) (C := RX4) (T := TX4) (N := 13) hx hb hts hin0 hown hK hP 0 rfl rfl 5 (by decide) fl_86 (fun _ h9 => h9) rfl dX4_together_259 ?_
            refine lv_if_eq (tgt := 291) hx hb dX4_together_262 (by decide) (fun c53 => ?_) (fun c53 => ?_)
            · have hw := hw.1 c53
              refine lv_iinc (v := (x4 + (1 : Int32))) (lv' := [(4, .int (x4 + (1 : Int32))), (5, .int x5_39), (3, .int x3_38), (2, .int x2), (0, .ref h0), (1, .int x1)]) hx hb dX4_together_291 hl (k := 1) rfl rfl (by decide) rfl (fun ls hl => ?_)
              refine lv_goto (tgt := 75) hx hb dX4_together_294 (by decide) ?_
              exact ih x3_38 (x4 + (1 : Int32)) (σ40.1, σ40.2.1, σ40.2.2.1, σ40.2.2.2.1, σ40.2.2.2.2.1, σ40.2.2.2.2.2.1, σ40.2.2.2.2.2.2.1, (upd σ40.2.2.2.2.2.2.2.1 (σ40.2.2.2.2.1 - (1 : Int32)).toNatClampNeg (0 : Int32)), σ40.2.2.2.2.2.2.2.2.1, σ40.2.2.2.2.2.2.2.2.2.1, (σ40.2.2.2.2.2.2.2.2.2.2.1 + (1 : Int32)), σ40.2.2.2.2.2.2.2.2.2.2.2.1, σ40.2.2.2.2.2.2.2.2.2.2.2.2) _ hw hk H locs ls hP hD hS (lv_sub hl [0, 2, 3, 4, 5] rfl)
            · have hw := hw.2 c53
              refine lv_aload_n hx hb dX4_together_265 rfl (lv_at hl 4 rfl) ?_
              refine va_get (D := (dC, dI)) (ci := 3) (v := .ref be) (C := RX4) (T := TX4) (N := 13) hx hb hts hin0 hown hK hP 0 rfl rfl 8 (by decide) fl_31 (fun _ h9 => h9) rfl dX4_together_266 ?_
              refine lv_iconst (v := (0 : Int32)) hx hb dX4_together_269 (by decide) ?_
              have z54 := hw.1
              have hw := hw.2
              refine va_iald hx hb hK hP 3 1 rfl rfl z54 dX4_together_270 ?_
              refine lv_if_ne (tgt := 291) hx hb dX4_together_271 (by decide) (fun c55 => ?_) (fun c55 => ?_)
              · have hw := hw.1 c55
                refine lv_iinc (v := (x4 + (1 : Int32))) (lv' := [(4, .int (x4 + (1 : Int32))), (5, .int x5_39), (3, .int x3_38), (2, .int x2), (0, .ref h0), (1, .int x1)]) hx hb dX4_together_291 hl (k := 1) rfl rfl (by decide) rfl (fun ls hl => ?_)
                refine lv_goto (tgt := 75) hx hb dX4_together_294 (by decide) ?_
                exact ih x3_38 (x4 + (1 : Int32)) (σ40.1, σ40.2.1, σ40.2.2.1, σ40.2.2.2.1, σ40.2.2.2.2.1, σ40.2.2.2.2.2.1, σ40.2.2.2.2.2.2.1, (upd σ40.2.2.2.2.2.2.2.1 (σ40.2.2.2.2.1 - (1 : Int32)).toNatClampNeg (0 : Int32)), σ40.2.2.2.2.2.2.2.2.1, σ40.2.2.2.2.2.2.2.2.2.1, (σ40.2.2.2.2.2.2.2.2.2.2.1 + (1 : Int32)), σ40.2.2.2.2.2.2.2.2.2.2.2.1, σ40.2.2.2.2.2.2.2.2.2.2.2.2) _ hw hk H locs ls hP hD hS (lv_sub hl [0, 2, 3, 4, 5] rfl)
              · have hw := hw.2 c55
                refine lv_aload_n hx hb dX4_together_274 rfl (lv_at hl 4 rfl) ?_
                refine va_get (D := (dC, dI)) (ci := 3) (v := .ref so) (C := RX4) (T := TX4) (N := 13) hx hb hts hin0 hown hK hP 0 rfl rfl 7 (by decide) fl_27 (fun _ h9 => h9) rfl dX4_together_275 ?_
                refine lv_iconst (v := (0 : Int32)) hx hb dX4_together_278 (by decide) ?_
                refine lv_iconst (v := (1 : Int32)) hx hb dX4_together_279 (by decide) ?_
                have z56 := hw.1
                have hw := hw.2
                refine va_iast hx hb hK hP hD hS 2 1 rfl rfl z56 dX4_together_280 (fun H locs hP hD hS => ?_)
                have hP : va_P (dC, dI) vwCl [(h0, .inr (3, [.int σ40.1, .int σ40.2.1, .int σ40.2.2.1, .ref w0, .int σ40.2.2.2.2.1, .int σ40.2.2.2.2.2.1, .long σ40.2.2.2.2.2.2.1, .ref so, .ref be, .int σ40.2.2.2.2.2.2.2.2.2.1, .int (σ40.2.2.2.2.2.2.2.2.2.2.1 + (1 : Int32)), .int σ40.2.2.2.2.2.2.2.2.2.2.2.1, .int σ40.2.2.2.2.2.2.2.2.2.2.2.2])), (w0, .inl (cJ, 511, .inr (.inl (σ40.2.2.2.1)))), (so, .inl (cI, 30, .inl ((upd (upd σ40.2.2.2.2.2.2.2.1 (σ40.2.2.2.2.1 - (1 : Int32)).toNatClampNeg (0 : Int32)) (0 : Int32).toNatClampNeg (1 : Int32))))), (be, .inl (cI, 30, .inl (σ40.2.2.2.2.2.2.2.2.1)))] H := hP
                have hD : va_D A [(h0, .inr (3, [.int σ40.1, .int σ40.2.1, .int σ40.2.2.1, .ref w0, .int σ40.2.2.2.2.1, .int σ40.2.2.2.2.2.1, .long σ40.2.2.2.2.2.2.1, .ref so, .ref be, .int σ40.2.2.2.2.2.2.2.2.2.1, .int (σ40.2.2.2.2.2.2.2.2.2.2.1 + (1 : Int32)), .int σ40.2.2.2.2.2.2.2.2.2.2.2.1, .int σ40.2.2.2.2.2.2.2.2.2.2.2.2])), (w0, .inl (cJ, 511, .inr (.inl (σ40.2.2.2.1)))), (so, .inl (cI, 30, .inl ((upd (upd σ40.2.2.2.2.2.2.2.1 (σ40.2.2.2.2.1 - (1 : Int32)).toNatClampNeg (0 : Int32)) (0 : Int32).toNatClampNeg (1 : Int32))))), (be, .inl (cI, 30, .inl (σ40.2.2.2.2.2.2.2.2.1)))] := hD
                refine lv_aload_n hx hb dX4_together_281 rfl (lv_at hl 4 rfl) ?_
                refine lv_dup hx hb dX4_together_282 rfl ?_
                refine va_get (D := (dC, dI)) (ci := 3) (v := .int σ40.2.2.2.2.2.2.2.2.2.1) (C := RX4) (T := TX4) (N := 13) hx hb hts hin0 hown hK hP 0 rfl rfl 9 (by decide) fl_90 (fun _ h9 => h9) rfl dX4_together_283 ?_
                refine lv_iconst (v := (1 : Int32)) hx hb dX4_together_286 (by decide) ?_
                refine lv_iadd hx hb dX4_together_287 ?_
                refine va_put (D := (dC, dI)) (ci := 3) (v := .int (σ40.2.2.2.2.2.2.2.2.2.1 + (1 : Int32))) (ty := .int) (C := RX4) (T := TX4) (N := 13) hx hb hts hin0 tyX4 tyX4_ok nmX4 hown hK hP hD hS 0 rfl rfl 9 (by decide) fl_90 (fun _ h9 => h9) rfl (by decide +kernel) rfl rfl (Nat.le_of_ble_eq_true rfl) dX4_together_288 (fun H locs hP hD hS => ?_)
                have hP : va_P (dC, dI) vwCl [(h0, .inr (3, [.int σ40.1, .int σ40.2.1, .int σ40.2.2.1, .ref w0, .int σ40.2.2.2.2.1, .int σ40.2.2.2.2.2.1, .long σ40.2.2.2.2.2.2.1, .ref so, .ref be, .int (σ40.2.2.2.2.2.2.2.2.2.1 + (1 : Int32)), .int (σ40.2.2.2.2.2.2.2.2.2.2.1 + (1 : Int32)), .int σ40.2.2.2.2.2.2.2.2.2.2.2.1, .int σ40.2.2.2.2.2.2.2.2.2.2.2.2])), (w0, .inl (cJ, 511, .inr (.inl (σ40.2.2.2.1)))), (so, .inl (cI, 30, .inl ((upd (upd σ40.2.2.2.2.2.2.2.1 (σ40.2.2.2.2.1 - (1 : Int32)).toNatClampNeg (0 : Int32)) (0 : Int32).toNatClampNeg (1 : Int32))))), (be, .inl (cI, 30, .inl (σ40.2.2.2.2.2.2.2.2.1)))] H := hP
                have hD : va_D A [(h0, .inr (3, [.int σ40.1, .int σ40.2.1, .int σ40.2.2.1, .ref w0, .int σ40.2.2.2.2.1, .int σ40.2.2.2.2.2.1, .long σ40.2.2.2.2.2.2.1, .ref so, .ref be, .int (σ40.2.2.2.2.2.2.2.2.2.1 + (1 : Int32)), .int (σ40.2.2.2.2.2.2.2.2.2.2.1 + (1 : Int32)), .int σ40.2.2.2.2.2.2.2.2.2.2.2.1, .int σ40.2.2.2.2.2.2.2.2.2.2.2.2])), (w0, .inl (cJ, 511, .inr (.inl (σ40.2.2.2.1)))), (so, .inl (cI, 30, .inl ((upd (upd σ40.2.2.2.2.2.2.2.1 (σ40.2.2.2.2.1 - (1 : Int32)).toNatClampNeg (0 : Int32)) (0 : Int32).toNatClampNeg (1 : Int32))))), (be, .inl (cI, 30, .inl (σ40.2.2.2.2.2.2.2.2.1)))] := hD
                refine lv_iinc (v := (x4 + (1 : Int32))) (lv' := [(4, .int (x4 + (1 : Int32))), (5, .int x5_39), (3, .int x3_38), (2, .int x2), (0, .ref h0), (1, .int x1)]) hx hb dX4_together_291 hl (k := 1) rfl rfl (by decide) rfl (fun ls hl => ?_)
                refine lv_goto (tgt := 75) hx hb dX4_together_294 (by decide) ?_
                exact ih x3_38 (x4 + (1 : Int32)) (σ40.1, σ40.2.1, σ40.2.2.1, σ40.2.2.2.1, σ40.2.2.2.2.1, σ40.2.2.2.2.2.1, σ40.2.2.2.2.2.2.1, (upd (upd σ40.2.2.2.2.2.2.2.1 (σ40.2.2.2.2.1 - (1 : Int32)).toNatClampNeg (0 : Int32)) (0 : Int32).toNatClampNeg (1 : Int32)), σ40.2.2.2.2.2.2.2.2.1, (σ40.2.2.2.2.2.2.2.2.2.1 + (1 : Int32)), (σ40.2.2.2.2.2.2.2.2.2.2.1 + (1 : Int32)), σ40.2.2.2.2.2.2.2.2.2.2.2.1, σ40.2.2.2.2.2.2.2.2.2.2.2.2) _ hw hk H locs ls hP hD hS (lv_sub hl [0, 2, 3, 4, 5] rfl)
  have hl := lv_entry ([.ref h0, .int p0]) (n := 7) (Nat.le_of_ble_eq_true rfl)
  rw [lg_entry_eq]
  generalize (lg_sl ([.ref h0, .int p0]) ++ List.replicate (7 - (lg_sl ([.ref h0, .int p0])).length) Slot.unset).toArray = ls at hl ⊢
  have hl : lv_has ls 7 [(0, .ref h0), (1, .int p0)] := hl
  unfold wp_X4_together at hw
  skip
  obtain ⟨H, hH⟩ : ∃ H, H = s.heap := ⟨_, rfl⟩
  obtain ⟨locs, hlo⟩ : ∃ q : List Loc, q = [] := ⟨_, rfl⟩
  rw [← hH] at hP
  have hS : va_S A s.heap H locs := by rw [hH, hlo]; exact hS
  suffices hgo : W p l e (headSpec wsX4_together ({ frames := 1, cells := 0, slots := 0, locals := 25 } : Room)).room s m _ below meth c H locs 0 0 _ (F0 m 0 ls []) by rw [hH, hlo] at hgo; exact hgo
  refine lv_iload_n hx hb dX4_together_0 rfl (lv_at hl 1 rfl) ?_
  refine lv_i2l hx hb dX4_together_1 rfl ?_
  refine lv_lconst (v := (1 : Int64)) hx hb dX4_together_2 (by decide) ?_
  refine lv_ldc2 (v := (1000 : Int64)) hx hb hown (hts (.constantLong RX4 125 (1000 : Int64)) (by decide +kernel)) dX4_together_3 ?_
  have hPc := hP.sub (ws' := ([] : va_W)) [] rfl
  have hDc := hD.sub (ws' := ([] : va_W)) [] (by decide) rfl
  have hKc := hK.sub (tys' := []) [] rfl
  have hFc := va_free (wc := ([] : va_W)) hD hS hA [] rfl
  refine kc_i (wr := [(h0, .inr (3, [.int σ.1, .int σ.2.1, .int σ.2.2.1, .ref w0, .int σ.2.2.2.2.1, .int σ.2.2.2.2.2.1, .long σ.2.2.2.2.2.2.1, .ref so, .ref be, .int σ.2.2.2.2.2.2.2.2.2.1, .int σ.2.2.2.2.2.2.2.2.2.2.1, .int σ.2.2.2.2.2.2.2.2.2.2.2.1, .int σ.2.2.2.2.2.2.2.2.2.2.2.2])), (w0, .inl (cJ, 511, .inr (.inl (σ.2.2.2.1)))), (so, .inl (cI, 30, .inl (σ.2.2.2.2.2.2.2.1))), (be, .inl (cI, 30, .inl (σ.2.2.2.2.2.2.2.2.1)))]) (kr_S (As := [.long (p0.toInt64), .long (1 : Int64), .long (1000 : Int64)]) (rest := []) (ws := [(h0, .inr (3, [.int σ.1, .int σ.2.1, .int σ.2.2.1, .ref w0, .int σ.2.2.2.2.1, .int σ.2.2.2.2.2.1, .long σ.2.2.2.2.2.2.1, .ref so, .ref be, .int σ.2.2.2.2.2.2.2.2.2.1, .int σ.2.2.2.2.2.2.2.2.2.2.1, .int σ.2.2.2.2.2.2.2.2.2.2.2.1, .int σ.2.2.2.2.2.2.2.2.2.2.2.2])), (w0, .inl (cJ, 511, .inr (.inl (σ.2.2.2.1)))), (so, .inl (cI, 30, .inl (σ.2.2.2.2.2.2.2.1))), (be, .inl (cI, 30, .inl (σ.2.2.2.2.2.2.2.2.1)))]) ⟨hx, hb, hml, hown, hts⟩ (c_X4_in l dC dI   (p0.toInt64) (1 : Int64) (1000 : Int64) _ hw H.size) (va_cwS 3 hts gX4_together_X4_in rfl rfl rfl (by decide +kernel) ⟨Nat.le_of_ble_eq_true rfl, Nat.le_of_ble_eq_true rfl⟩) hKc hnw hP hD hPc hDc rfl hl.1 rfl (Nat.le_of_ble_eq_true rfl) dX4_together_6 ⟨Nat.zero_le _, Nat.zero_le _⟩) hP hD hS hFc [] [0, 1, 2, 3] rfl rfl (by decide) (by decide) (fun r1 u1 H locs hq hP hD hS => ?_)
  obtain ⟨hw, rfl⟩ := hq
  have hP : va_P (dC, dI) vwCl [(h0, .inr (3, [.int σ.1, .int σ.2.1, .int σ.2.2.1, .ref w0, .int σ.2.2.2.2.1, .int σ.2.2.2.2.2.1, .long σ.2.2.2.2.2.2.1, .ref so, .ref be, .int σ.2.2.2.2.2.2.2.2.2.1, .int σ.2.2.2.2.2.2.2.2.2.2.1, .int σ.2.2.2.2.2.2.2.2.2.2.2.1, .int σ.2.2.2.2.2.2.2.2.2.2.2.2])), (w0, .inl (cJ, 511, .inr (.inl (σ.2.2.2.1)))), (so, .inl (cI, 30, .inl (σ.2.2.2.2.2.2.2.1))), (be, .inl (cI, 30, .inl (σ.2.2.2.2.2.2.2.2.1)))] H := hP
  have hD : va_D A [(h0, .inr (3, [.int σ.1, .int σ.2.1, .int σ.2.2.1, .ref w0, .int σ.2.2.2.2.1, .int σ.2.2.2.2.2.1, .long σ.2.2.2.2.2.2.1, .ref so, .ref be, .int σ.2.2.2.2.2.2.2.2.2.1, .int σ.2.2.2.2.2.2.2.2.2.2.1, .int σ.2.2.2.2.2.2.2.2.2.2.2.1, .int σ.2.2.2.2.2.2.2.2.2.2.2.2])), (w0, .inl (cJ, 511, .inr (.inl (σ.2.2.2.1)))), (so, .inl (cI, 30, .inl (σ.2.2.2.2.2.2.2.1))), (be, .inl (cI, 30, .inl (σ.2.2.2.2.2.2.2.2.1)))] := hD
  refine lv_if_ne (tgt := 14) hx hb dX4_together_9 (by decide) (fun c3 => ?_) (fun c3 => ?_)
  · have hw := hw.1 c3
    refine lv_aload_n hx hb dX4_together_14 rfl (lv_at hl 0 rfl) ?_
    refine va_get (D := (dC, dI)) (ci := 3) (v := .int σ.2.2.2.2.1) (C := RX4) (T := TX4) (N := 13) hx hb hts hin0 hown hK hP 0 rfl rfl 4 (by decide) fl_83 (fun _ h9 => h9) rfl dX4_together_15 ?_
    refine lv_if_ne (tgt := 25) hx hb dX4_together_18 (by decide) (fun c4 => ?_) (fun c4 => ?_)
    · have hw := hw.1 c4
      refine lv_iconst (v := (0 : Int32)) hx hb dX4_together_25 (by decide) ?_
      refine lv_istore_n (lv' := [(2, .int (0 : Int32)), (0, .ref h0), (1, .int p0)]) hx hb dX4_together_26 rfl hl (by decide) rfl (fun ls hl => ?_)
      refine lv_iconst (v := (0 : Int32)) hx hb dX4_together_27 (by decide) ?_
      refine lv_istore_n (lv' := [(3, .int (0 : Int32)), (2, .int (0 : Int32)), (0, .ref h0), (1, .int p0)]) hx hb dX4_together_28 rfl hl (by decide) rfl (fun ls hl => ?_)
      refine L29 p0 σ (20000) (0 : Int32) (0 : Int32) _ hw (fun x2_9 x3_10 hw H locs ls hP hD hS hl => ?_) H locs ls hP hD hS (lv_sub hl [0, 1, 2, 3] rfl)
      refine lv_iload_n hx hb dX4_together_63 rfl (lv_at hl 1 rfl) ?_
      refine lv_if_eq (tgt := 70) hx hb dX4_together_64 (by decide) (fun c12 => ?_) (fun c12 => ?_)
      · have hw := hw.1 c12
        refine lv_iconst (v := (0 : Int32)) hx hb dX4_together_70 (by decide) ?_
        refine lv_istore_n (lv' := [(3, .int (0 : Int32)), (2, .int x2_9), (0, .ref h0), (1, .int p0)]) hx hb dX4_together_71 rfl hl (by decide) rfl (fun ls hl => ?_)
        refine lv_iconst (v := (0 : Int32)) hx hb dX4_together_72 (by decide) ?_
        refine lv_istore (lv' := [(4, .int (0 : Int32)), (3, .int (0 : Int32)), (2, .int x2_9), (0, .ref h0), (1, .int p0)]) hx hb dX4_together_73 hl (by decide) rfl (fun ls hl => ?_)
        refine L75 p0 x2_9 (20000) (0 : Int32) (0 : Int32) σ _ hw (fun x3_57 x4_58 σ59 hw H locs ls hP hD hS hl => ?_) H locs ls hP hD hS (lv_sub hl [0, 1, 2, 3, 4] rfl)
        refine lv_iload_n hx hb dX4_together_297 rfl (lv_at hl 1 rfl) ?_
        exact W.iret (v := x3_57) hx hb hr (fun t ht hW => ⟨⟨x3_57, ((cl4 h0 w0 so be cJ cI σ59)), rfl, ⟨σ59, hw, rfl⟩, by rw [ht]; exact hP, va_K.moved hW.alike hK, hD⟩, hS.F ht⟩) hS.2.2 dX4_together_298
      · have hw := hw.2 c12
        refine lv_bipush (v := (-2 : Int32)) hx hb dX4_together_67 (by decide) ?_
        exact W.iret (v := (-2 : Int32)) hx hb hr (fun t ht hW => ⟨⟨(-2 : Int32), ((cl4 h0 w0 so be cJ cI σ)), rfl, ⟨σ, hw, rfl⟩, by rw [ht]; exact hP, va_K.moved hW.alike hK, hD⟩, hS.F ht⟩) hS.2.2 dX4_together_69
    · have hw := hw.2 c4
      refine lv_iconst (v := (1 : Int32)) hx hb dX4_together_21 (by decide) ?_
      refine lv_goto (tgt := 26) hx hb dX4_together_22 (by decide) ?_
      refine lv_istore_n (lv' := [(2, .int (1 : Int32)), (0, .ref h0), (1, .int p0)]) hx hb dX4_together_26 rfl hl (by decide) rfl (fun ls hl => ?_)
      refine lv_iconst (v := (0 : Int32)) hx hb dX4_together_27 (by decide) ?_
      refine lv_istore_n (lv' := [(3, .int (0 : Int32)), (2, .int (1 : Int32)), (0, .ref h0), (1, .int p0)]) hx hb dX4_together_28 rfl hl (by decide) rfl (fun ls hl => ?_)
      refine L29 p0 σ (20000) (1 : Int32) (0 : Int32) _ hw (fun x2_60 x3_61 hw H locs ls hP hD hS hl => ?_) H locs ls hP hD hS (lv_sub hl [0, 1, 2, 3] rfl)
      refine lv_iload_n hx hb dX4_together_63 rfl (lv_at hl 1 rfl) ?_
      refine lv_if_eq (tgt := 70) hx hb dX4_together_64 (by decide) (fun c63 => ?_) (fun c63 => ?_)
      · have hw := hw.1 c63
        refine lv_iconst (v := (0 : Int32)) hx hb dX4_together_70 (by decide) ?_
        refine lv_istore_n (lv' := [(3, .int (0 : Int32)), (2, .int x2_60), (0, .ref h0), (1, .int p0)]) hx hb dX4_together_71 rfl hl (by decide) rfl (fun ls hl => ?_)
        refine lv_iconst (v := (0 : Int32)) hx hb dX4_together_72 (by decide) ?_
        refine lv_istore (lv' := [(4, .int (0 : Int32)), (3, .int (0 : Int32)), (2, .int x2_60), (0, .ref h0), (1, .int p0)]) hx hb dX4_together_73 hl (by decide) rfl (fun ls hl => ?_)
        refine L75 p0 x2_60 (20000) (0 : Int32) (0 : Int32) σ _ hw (fun x3_64 x4_65 σ66 hw H locs ls hP hD hS hl => ?_) H locs ls hP hD hS (lv_sub hl [0, 1, 2, 3, 4] rfl)
        refine lv_iload_n hx hb dX4_together_297 rfl (lv_at hl 1 rfl) ?_
        exact W.iret (v := x3_64) hx hb hr (fun t ht hW => ⟨⟨x3_64, ((cl4 h0 w0 so be cJ cI σ66)), rfl, ⟨σ66, hw, rfl⟩, by rw [ht]; exact hP, va_K.moved hW.alike hK, hD⟩, hS.F ht⟩) hS.2.2 dX4_together_298
      · have hw := hw.2 c63
        refine lv_bipush (v := (-2 : Int32)) hx hb dX4_together_67 (by decide) ?_
        exact W.iret (v := (-2 : Int32)) hx hb hr (fun t ht hW => ⟨⟨(-2 : Int32), ((cl4 h0 w0 so be cJ cI σ)), rfl, ⟨σ, hw, rfl⟩, by rw [ht]; exact hP, va_K.moved hW.alike hK, hD⟩, hS.F ht⟩) hS.2.2 dX4_together_69
  · have hw := hw.2 c3
    refine lv_iconst (v := (-1 : Int32)) hx hb dX4_together_12 (by decide) ?_
    exact W.iret (v := (-1 : Int32)) hx hb hr (fun t ht hW => ⟨⟨(-1 : Int32), ((cl4 h0 w0 so be cJ cI σ)), rfl, ⟨σ, hw, rfl⟩, by rw [ht]; exact hP, va_K.moved hW.alike hK, hD⟩, hS.F ht⟩) hS.2.2 dX4_together_13
set_option maxHeartbeats 4000000 in
set_option maxRecDepth 100000 in
theorem c_X4_at (l : Launch) (dC : Nat → ClassId) (dI : Nat → Nat → Nat) (h0 w0 so be : Nat) (cJ : ClassId) (cI : ClassId) (σ : SM) (p0 : Int32) (post : Int32 → Prop) (hw : wp_X4_at p0 σ post) : KI l yX4_at wsX4_at ({ frames := 2, cells := 0, slots := 0, locals := 46 } : Room) (dC, dI) [(cJ, .long), (cI, .int)] (cl4 h0 w0 so be cJ cI σ) [.ref h0, .int p0] (fun r u => post r ∧ u = (cl4 h0 w0 so be cJ cI σ)) := by
  intro sz
  refine Met.ofW (cc := cX4_at) (maxL := 2) (ret := (some .int)) (by decide) rfl ?_
  intro p e s m args below meth c s₁ B hml hv
  obtain ⟨rfl, hsz, hP, hK, hD0, hnw⟩ := hv
  have hx := B.exec
  have hb := B.bytes
  have hr := B.returns
  have hts := atoms_spec (ws := wsX4_at) B.pre
  have hown : s.vm.findClass RX4 = some m.cls := findClass_of_methodNamed B.named
  have hlocks := B.notSynchronized
  subst hsz
  have hD := hD0.self (sz := s.heap.size)
  generalize hAe : va_A (cl4 h0 w0 so be cJ cI σ) s.heap.size = A at hD ⊢
  have hA : ∀ q : Nat, s.heap.size ≤ q → A q := fun q h => by rw [← hAe]; exact Or.inr h
  have hS : va_S A s.heap s.heap [] := va_S.rf
  have hP : va_P (dC, dI) vwCl [(h0, .inr (3, [.int σ.1, .int σ.2.1, .int σ.2.2.1, .ref w0, .int σ.2.2.2.2.1, .int σ.2.2.2.2.2.1, .long σ.2.2.2.2.2.2.1, .ref so, .ref be, .int σ.2.2.2.2.2.2.2.2.2.1, .int σ.2.2.2.2.2.2.2.2.2.2.1, .int σ.2.2.2.2.2.2.2.2.2.2.2.1, .int σ.2.2.2.2.2.2.2.2.2.2.2.2])), (w0, .inl (cJ, 511, .inr (.inl (σ.2.2.2.1)))), (so, .inl (cI, 30, .inl (σ.2.2.2.2.2.2.2.1))), (be, .inl (cI, 30, .inl (σ.2.2.2.2.2.2.2.2.1)))] s.heap := hP
  have hD : va_D A [(h0, .inr (3, [.int σ.1, .int σ.2.1, .int σ.2.2.1, .ref w0, .int σ.2.2.2.2.1, .int σ.2.2.2.2.2.1, .long σ.2.2.2.2.2.2.1, .ref so, .ref be, .int σ.2.2.2.2.2.2.2.2.2.1, .int σ.2.2.2.2.2.2.2.2.2.2.1, .int σ.2.2.2.2.2.2.2.2.2.2.2.1, .int σ.2.2.2.2.2.2.2.2.2.2.2.2])), (w0, .inl (cJ, 511, .inr (.inl (σ.2.2.2.1)))), (so, .inl (cI, 30, .inl (σ.2.2.2.2.2.2.2.1))), (be, .inl (cI, 30, .inl (σ.2.2.2.2.2.2.2.2.1)))] := hD
  have fl_27 := hts (.fieldLink RX4 27 "OnePlaceEachModel" "sorts" "[I") (by decide +kernel)
  have fl_83 := hts (.fieldLink RX4 83 "OnePlaceEachModel" "places" "I") (by decide +kernel)
  have hin0 : ∀ w ∈ wsX40, w ∈ wsX4_at := by decide +kernel
  have hl := lv_entry ([.ref h0, .int p0]) (n := 2) (Nat.le_of_ble_eq_true rfl)
  rw [lg_entry_eq]
  generalize (lg_sl ([.ref h0, .int p0]) ++ List.replicate (2 - (lg_sl ([.ref h0, .int p0])).length) Slot.unset).toArray = ls at hl ⊢
  have hl : lv_has ls 2 [(0, .ref h0), (1, .int p0)] := hl
  unfold wp_X4_at at hw
  skip
  obtain ⟨H, hH⟩ : ∃ H, H = s.heap := ⟨_, rfl⟩
  obtain ⟨locs, hlo⟩ : ∃ q : List Loc, q = [] := ⟨_, rfl⟩
  rw [← hH] at hP
  have hS : va_S A s.heap H locs := by rw [hH, hlo]; exact hS
  suffices hgo : W p l e (headSpec wsX4_at ({ frames := 2, cells := 0, slots := 0, locals := 46 } : Room)).room s m _ below meth c H locs 0 0 _ (F0 m 0 ls []) by rw [hH, hlo] at hgo; exact hgo
  refine lv_aload_n hx hb dX4_at_0 rfl (lv_at hl 0 rfl) ?_
  refine lv_iload_n hx hb dX4_at_1 rfl (lv_at hl 1 rfl) ?_
  have hPc := hP
  have hDc := hD
  have hKc := hK
  have hFc := va_free (wc := [(h0, .inr (3, [.int σ.1, .int σ.2.1, .int σ.2.2.1, .ref w0, .int σ.2.2.2.2.1, .int σ.2.2.2.2.2.1, .long σ.2.2.2.2.2.2.1, .ref so, .ref be, .int σ.2.2.2.2.2.2.2.2.2.1, .int σ.2.2.2.2.2.2.2.2.2.2.1, .int σ.2.2.2.2.2.2.2.2.2.2.2.1, .int σ.2.2.2.2.2.2.2.2.2.2.2.2])), (w0, .inl (cJ, 511, .inr (.inl (σ.2.2.2.1)))), (so, .inl (cI, 30, .inl (σ.2.2.2.2.2.2.2.1))), (be, .inl (cI, 30, .inl (σ.2.2.2.2.2.2.2.2.1)))]) hD hS hA [0, 1, 2, 3] rfl
  refine kc_i (wr := ([] : va_W)) (kr_V (As := [.int p0]) (rest := []) (b := h0) (ws := [(h0, .inr (3, [.int σ.1, .int σ.2.1, .int σ.2.2.1, .ref w0, .int σ.2.2.2.2.1, .int σ.2.2.2.2.2.1, .long σ.2.2.2.2.2.2.1, .ref so, .ref be, .int σ.2.2.2.2.2.2.2.2.2.1, .int σ.2.2.2.2.2.2.2.2.2.2.1, .int σ.2.2.2.2.2.2.2.2.2.2.2.1, .int σ.2.2.2.2.2.2.2.2.2.2.2.2])), (w0, .inl (cJ, 511, .inr (.inl (σ.2.2.2.1)))), (so, .inl (cI, 30, .inl (σ.2.2.2.2.2.2.2.1))), (be, .inl (cI, 30, .inl (σ.2.2.2.2.2.2.2.2.1)))]) ⟨hx, hb, hml, hown, hts⟩ (c_X4_isPlace l dC dI h0 w0 so be cJ cI σ p0 _ hw H.size) (cwV 1 hts gX4_at_X4_isPlace rfl rfl rfl (by decide +kernel) ⟨Nat.le_of_ble_eq_true rfl, Nat.le_of_ble_eq_true rfl⟩) 3 0 hK rfl rfl rfl hKc hnw hP hD hPc hDc rfl hl.1 rfl (Nat.le_of_ble_eq_true rfl) dX4_at_2 ⟨Nat.zero_le _, Nat.zero_le _⟩) hP hD hS hFc [0, 1, 2, 3] [] rfl rfl (by decide) (by decide) (fun r1 u1 H locs hq hP hD hS => ?_)
  obtain ⟨hw, rfl⟩ := hq
  have hP : va_P (dC, dI) vwCl [(h0, .inr (3, [.int σ.1, .int σ.2.1, .int σ.2.2.1, .ref w0, .int σ.2.2.2.2.1, .int σ.2.2.2.2.2.1, .long σ.2.2.2.2.2.2.1, .ref so, .ref be, .int σ.2.2.2.2.2.2.2.2.2.1, .int σ.2.2.2.2.2.2.2.2.2.2.1, .int σ.2.2.2.2.2.2.2.2.2.2.2.1, .int σ.2.2.2.2.2.2.2.2.2.2.2.2])), (w0, .inl (cJ, 511, .inr (.inl (σ.2.2.2.1)))), (so, .inl (cI, 30, .inl (σ.2.2.2.2.2.2.2.1))), (be, .inl (cI, 30, .inl (σ.2.2.2.2.2.2.2.2.1)))] H := hP
  have hD : va_D A [(h0, .inr (3, [.int σ.1, .int σ.2.1, .int σ.2.2.1, .ref w0, .int σ.2.2.2.2.1, .int σ.2.2.2.2.2.1, .long σ.2.2.2.2.2.2.1, .ref so, .ref be, .int σ.2.2.2.2.2.2.2.2.2.1, .int σ.2.2.2.2.2.2.2.2.2.2.1, .int σ.2.2.2.2.2.2.2.2.2.2.2.1, .int σ.2.2.2.2.2.2.2.2.2.2.2.2])), (w0, .inl (cJ, 511, .inr (.inl (σ.2.2.2.1)))), (so, .inl (cI, 30, .inl (σ.2.2.2.2.2.2.2.1))), (be, .inl (cI, 30, .inl (σ.2.2.2.2.2.2.2.2.1)))] := hD
  refine lv_if_ne (tgt := 10) hx hb dX4_at_5 (by decide) (fun c3 => ?_) (fun c3 => ?_)
  · have hw := hw.1 c3
    refine lv_aload_n hx hb dX4_at_10 rfl (lv_at hl 0 rfl) ?_
    refine va_get (D := (dC, dI)) (ci := 3) (v := .int σ.2.2.2.2.1) (C := RX4) (T := TX4) (N := 13) hx hb hts hin0 hown hK hP 0 rfl rfl 4 (by decide) fl_83 (fun _ h9 => h9) rfl dX4_at_11 ?_
    refine lv_if_ne (tgt := 22) hx hb dX4_at_14 (by decide) (fun c4 => ?_) (fun c4 => ?_)
    · have hw := hw.1 c4
      refine lv_aload_n hx hb dX4_at_22 rfl (lv_at hl 0 rfl) ?_
      refine va_get (D := (dC, dI)) (ci := 3) (v := .ref so) (C := RX4) (T := TX4) (N := 13) hx hb hts hin0 hown hK hP 0 rfl rfl 7 (by decide) fl_27 (fun _ h9 => h9) rfl dX4_at_23 ?_
      refine lv_iload_n hx hb dX4_at_26 rfl (lv_at hl 1 rfl) ?_
      have z5 := hw.1
      have hw := hw.2
      refine va_iald hx hb hK hP 2 1 rfl rfl z5 dX4_at_27 ?_
      exact W.iret (v := (σ.2.2.2.2.2.2.2.1 p0.toNatClampNeg)) hx hb hr (fun t ht hW => ⟨⟨(σ.2.2.2.2.2.2.2.1 p0.toNatClampNeg), ((cl4 h0 w0 so be cJ cI σ)), rfl, ⟨hw, rfl⟩, by rw [ht]; exact hP, va_K.moved hW.alike hK, hD⟩, hS.F ht⟩) hS.2.2 dX4_at_28
    · have hw := hw.2 c4
      refine lv_bipush (v := (-2 : Int32)) hx hb dX4_at_17 (by decide) ?_
      refine lv_goto (tgt := 28) hx hb dX4_at_19 (by decide) ?_
      exact W.iret (v := (-2 : Int32)) hx hb hr (fun t ht hW => ⟨⟨(-2 : Int32), ((cl4 h0 w0 so be cJ cI σ)), rfl, ⟨hw, rfl⟩, by rw [ht]; exact hP, va_K.moved hW.alike hK, hD⟩, hS.F ht⟩) hS.2.2 dX4_at_28
  · have hw := hw.2 c3
    refine lv_iconst (v := (-1 : Int32)) hx hb dX4_at_8 (by decide) ?_
    exact W.iret (v := (-1 : Int32)) hx hb hr (fun t ht hW => ⟨⟨(-1 : Int32), ((cl4 h0 w0 so be cJ cI σ)), rfl, ⟨hw, rfl⟩, by rw [ht]; exact hP, va_K.moved hW.alike hK, hD⟩, hS.F ht⟩) hS.2.2 dX4_at_9
set_option maxHeartbeats 4000000 in
set_option maxRecDepth 100000 in
theorem c_X4_told (l : Launch) (dC : Nat → ClassId) (dI : Nat → Nat → Nat) (h0 w0 so be : Nat) (cJ : ClassId) (cI : ClassId) (σ : SM) (p0 : Int32) (post : Int32 → Prop) (hw : wp_X4_told p0 σ post) : KI l yX4_told wsX4_told ({ frames := 1, cells := 0, slots := 0, locals := 25 } : Room) (dC, dI) [(cJ, .long), (cI, .int)] (cl4 h0 w0 so be cJ cI σ) [.ref h0, .int p0] (fun r u => post r ∧ u = (cl4 h0 w0 so be cJ cI σ)) := by
  intro sz
  refine Met.ofW (cc := cX4_told) (maxL := 7) (ret := (some .int)) (by decide) rfl ?_
  intro p e s m args below meth c s₁ B hml hv
  obtain ⟨rfl, hsz, hP, hK, hD0, hnw⟩ := hv
  have hx := B.exec
  have hb := B.bytes
  have hr := B.returns
  have hts := atoms_spec (ws := wsX4_told) B.pre
  have hown : s.vm.findClass RX4 = some m.cls := findClass_of_methodNamed B.named
  have hlocks := B.notSynchronized
  subst hsz
  have hD := hD0.self (sz := s.heap.size)
  generalize hAe : va_A (cl4 h0 w0 so be cJ cI σ) s.heap.size = A at hD ⊢
  have hA : ∀ q : Nat, s.heap.size ≤ q → A q := fun q h => by rw [← hAe]; exact Or.inr h
  have hS : va_S A s.heap s.heap [] := va_S.rf
  have hP : va_P (dC, dI) vwCl [(h0, .inr (3, [.int σ.1, .int σ.2.1, .int σ.2.2.1, .ref w0, .int σ.2.2.2.2.1, .int σ.2.2.2.2.2.1, .long σ.2.2.2.2.2.2.1, .ref so, .ref be, .int σ.2.2.2.2.2.2.2.2.2.1, .int σ.2.2.2.2.2.2.2.2.2.2.1, .int σ.2.2.2.2.2.2.2.2.2.2.2.1, .int σ.2.2.2.2.2.2.2.2.2.2.2.2])), (w0, .inl (cJ, 511, .inr (.inl (σ.2.2.2.1)))), (so, .inl (cI, 30, .inl (σ.2.2.2.2.2.2.2.1))), (be, .inl (cI, 30, .inl (σ.2.2.2.2.2.2.2.2.1)))] s.heap := hP
  have hD : va_D A [(h0, .inr (3, [.int σ.1, .int σ.2.1, .int σ.2.2.1, .ref w0, .int σ.2.2.2.2.1, .int σ.2.2.2.2.2.1, .long σ.2.2.2.2.2.2.1, .ref so, .ref be, .int σ.2.2.2.2.2.2.2.2.2.1, .int σ.2.2.2.2.2.2.2.2.2.2.1, .int σ.2.2.2.2.2.2.2.2.2.2.2.1, .int σ.2.2.2.2.2.2.2.2.2.2.2.2])), (w0, .inl (cJ, 511, .inr (.inl (σ.2.2.2.1)))), (so, .inl (cI, 30, .inl (σ.2.2.2.2.2.2.2.1))), (be, .inl (cI, 30, .inl (σ.2.2.2.2.2.2.2.2.1)))] := hD
  have fl_27 := hts (.fieldLink RX4 27 "OnePlaceEachModel" "sorts" "[I") (by decide +kernel)
  have fl_83 := hts (.fieldLink RX4 83 "OnePlaceEachModel" "places" "I") (by decide +kernel)
  have fl_86 := hts (.fieldLink RX4 86 "OnePlaceEachModel" "isOpen" "Z") (by decide +kernel)
  have fl_90 := hts (.fieldLink RX4 90 "OnePlaceEachModel" "ins" "I") (by decide +kernel)
  have fl_93 := hts (.fieldLink RX4 93 "OnePlaceEachModel" "outs" "I") (by decide +kernel)
  have fl_96 := hts (.fieldLink RX4 96 "OnePlaceEachModel" "moved" "I") (by decide +kernel)
  have hin0 : ∀ w ∈ wsX40, w ∈ wsX4_told := by decide +kernel
  have L34 : ∀ (x1 : Int32)  (n : Nat) (x2 : Int32) (x3 : Int32) (x4 : Int32) (x5 : Int32)  (k : Int32 → Int32 → Int32 → Int32 → Prop), wl_X4_told_34 x1 σ n x2 x3 x4 x5 k →
      (∀ (x2 : Int32) (x3 : Int32) (x4 : Int32) (x5 : Int32) , k x2 x3 x4 x5 → ∀ (H : Heap) (locs : List Loc) (ls : Array Slot), va_P (dC, dI) vwCl [(h0, .inr (3, [.int σ.1, .int σ.2.1, .int σ.2.2.1, .ref w0, .int σ.2.2.2.2.1, .int σ.2.2.2.2.2.1, .long σ.2.2.2.2.2.2.1, .ref so, .ref be, .int σ.2.2.2.2.2.2.2.2.2.1, .int σ.2.2.2.2.2.2.2.2.2.2.1, .int σ.2.2.2.2.2.2.2.2.2.2.2.1, .int σ.2.2.2.2.2.2.2.2.2.2.2.2])), (w0, .inl (cJ, 511, .inr (.inl (σ.2.2.2.1)))), (so, .inl (cI, 30, .inl (σ.2.2.2.2.2.2.2.1))), (be, .inl (cI, 30, .inl (σ.2.2.2.2.2.2.2.2.1)))] H → va_D A [(h0, .inr (3, [.int σ.1, .int σ.2.1, .int σ.2.2.1, .ref w0, .int σ.2.2.2.2.1, .int σ.2.2.2.2.2.1, .long σ.2.2.2.2.2.2.1, .ref so, .ref be, .int σ.2.2.2.2.2.2.2.2.2.1, .int σ.2.2.2.2.2.2.2.2.2.2.1, .int σ.2.2.2.2.2.2.2.2.2.2.2.1, .int σ.2.2.2.2.2.2.2.2.2.2.2.2])), (w0, .inl (cJ, 511, .inr (.inl (σ.2.2.2.1)))), (so, .inl (cI, 30, .inl (σ.2.2.2.2.2.2.2.1))), (be, .inl (cI, 30, .inl (σ.2.2.2.2.2.2.2.2.1)))] → va_S A s.heap H locs → lv_has ls 7 [(5, .int x5), (4, .int x4), (3, .int x3), (2, .int x2), (0, .ref h0), (1, .int x1)] → W p l e (headSpec wsX4_told ({ frames := 1, cells := 0, slots := 0, locals := 25 } : Room)).room s m ([.ref h0, .int p0] : List Value).toArray below meth c H locs 0 0 (MQ below (va_Qi (fun r u => post r ∧ u = (cl4 h0 w0 so be cJ cI σ)) (kB (dC, dI) [(cJ, .long), (cI, .int)] A) A) ([.ref h0, .int p0] : List Value).toArray s 0 0 A) (F0 m 151 ls [])) →
      ∀ (H : Heap) (locs : List Loc) (ls : Array Slot), va_P (dC, dI) vwCl [(h0, .inr (3, [.int σ.1, .int σ.2.1, .int σ.2.2.1, .ref w0, .int σ.2.2.2.2.1, .int σ.2.2.2.2.2.1, .long σ.2.2.2.2.2.2.1, .ref so, .ref be, .int σ.2.2.2.2.2.2.2.2.2.1, .int σ.2.2.2.2.2.2.2.2.2.2.1, .int σ.2.2.2.2.2.2.2.2.2.2.2.1, .int σ.2.2.2.2.2.2.2.2.2.2.2.2])), (w0, .inl (cJ, 511, .inr (.inl (σ.2.2.2.1)))), (so, .inl (cI, 30, .inl (σ.2.2.2.2.2.2.2.1))), (be, .inl (cI, 30, .inl (σ.2.2.2.2.2.2.2.2.1)))] H → va_D A [(h0, .inr (3, [.int σ.1, .int σ.2.1, .int σ.2.2.1, .ref w0, .int σ.2.2.2.2.1, .int σ.2.2.2.2.2.1, .long σ.2.2.2.2.2.2.1, .ref so, .ref be, .int σ.2.2.2.2.2.2.2.2.2.1, .int σ.2.2.2.2.2.2.2.2.2.2.1, .int σ.2.2.2.2.2.2.2.2.2.2.2.1, .int σ.2.2.2.2.2.2.2.2.2.2.2.2])), (w0, .inl (cJ, 511, .inr (.inl (σ.2.2.2.1)))), (so, .inl (cI, 30, .inl (σ.2.2.2.2.2.2.2.1))), (be, .inl (cI, 30, .inl (σ.2.2.2.2.2.2.2.2.1)))] → va_S A s.heap H locs → lv_has ls 7 [(5, .int x5), (4, .int x4), (3, .int x3), (2, .int x2), (0, .ref h0), (1, .int x1)] → W p l e (headSpec wsX4_told ({ frames := 1, cells := 0, slots := 0, locals := 25 } : Room)).room s m ([.ref h0, .int p0] : List Value).toArray below meth c H locs 0 0 (MQ below (va_Qi (fun r u => post r ∧ u = (cl4 h0 w0 so be cJ cI σ)) (kB (dC, dI) [(cJ, .long), (cI, .int)] A) A) ([.ref h0, .int p0] : List Value).toArray s 0 0 A) (F0 m 34 ls []) := by
    intro x1 n
    induction n with
    | zero => intro x2 x3 x4 x5 k hw; exact absurd hw id
    | succ n ih =>
      intro x2 x3 x4 x5 k hw hk H locs ls hP hD hS hl
      unfold wl_X4_told_34 at hw
      refine lv_iload hx hb dX4_told_34 (lv_at hl 0 rfl) ?_
      refine lv_aload_n hx hb dX4_told_36 rfl (lv_at hl 4 rfl) ?_
      refine va_get (D := (dC, dI)) (ci := 3) (v := .int σ.2.2.2.2.1) (C := RX4) (T := TX4) (N := 13) hx hb hts hin0 hown hK hP 0 rfl rfl 4 (by decide) fl_83 (fun _ h9 => h9) rfl dX4_told_37 ?_
      refine lv_icmp_ge (tgt := 151) hx hb dX4_told_40 (by decide) (fun c5 => ?_) (fun c5 => ?_)
      · have hw := hw.1 c5
        exact hk x2 x3 x4 x5 hw H locs ls hP hD hS (lv_sub hl [0, 1, 2, 3, 4, 5] rfl)
      · have hw := hw.2 c5
        refine lv_iload hx hb dX4_told_43 (lv_at hl 0 rfl) ?_
        refine lv_iconst (v := (1 : Int32)) hx hb dX4_told_45 (by decide) ?_
        refine lv_iadd hx hb dX4_told_46 ?_
        refine lv_aload_n hx hb dX4_told_47 rfl (lv_at hl 4 rfl) ?_
        refine va_get (D := (dC, dI)) (ci := 3) (v := .int σ.2.2.2.2.1) (C := RX4) (T := TX4) (N := 13) hx hb hts hin0 hown hK hP 0 rfl rfl 4 (by decide) fl_83 (fun _ h9 => h9) rfl dX4_told_48 ?_
        refine lv_icmp_ne (tgt := 58) hx hb dX4_told_51 (by decide) (fun c6 => ?_) (fun c6 => ?_)
        · have hw := hw.1 c6
          refine lv_iload hx hb dX4_told_58 (lv_at hl 0 rfl) ?_
          refine lv_iconst (v := (1 : Int32)) hx hb dX4_told_60 (by decide) ?_
          refine lv_iadd hx hb dX4_told_61 ?_
          refine lv_istore (lv' := [(6, .int (x5 + (1 : Int32))), (5, .int x5), (4, .int x4), (3, .int x3), (2, .int x2), (0, .ref h0), (1, .int x1)]) hx hb dX4_told_62 hl (by decide) rfl (fun ls hl => ?_)
          refine lv_iload_n hx hb dX4_told_64 rfl (lv_at hl 4 rfl) ?_
          refine lv_aload_n hx hb dX4_told_65 rfl (lv_at hl 5 rfl) ?_
          refine va_get (D := (dC, dI)) (ci := 3) (v := .ref so) (C := RX4) (T := TX4) (N := 13) hx hb hts hin0 hown hK hP 0 rfl rfl 7 (by decide) fl_27 (fun _ h9 => h9) rfl dX4_told_66 ?_
          refine lv_iload hx hb dX4_told_69 (lv_at hl 1 rfl) ?_
          have z7 := hw.1
          have hw := hw.2
          refine va_iald hx hb hK hP 2 1 rfl rfl z7 dX4_told_71 ?_
          refine lv_iconst (v := (1 : Int32)) hx hb dX4_told_72 (by decide) ?_
          refine lv_icmp_ne (tgt := 80) hx hb dX4_told_73 (by decide) (fun c8 => ?_) (fun c8 => ?_)
          · have hw := hw.1 c8
            refine lv_iconst (v := (0 : Int32)) hx hb dX4_told_80 (by decide) ?_
            refine lv_iadd hx hb dX4_told_81 ?_
            refine lv_istore_n (lv' := [(2, .int (x2 + (0 : Int32))), (6, .int (x5 + (1 : Int32))), (5, .int x5), (4, .int x4), (3, .int x3), (0, .ref h0), (1, .int x1)]) hx hb dX4_told_82 rfl hl (by decide) rfl (fun ls hl => ?_)
            refine lv_iload_n hx hb dX4_told_83 rfl (lv_at hl 4 rfl) ?_
            refine lv_aload_n hx hb dX4_told_84 rfl (lv_at hl 5 rfl) ?_
            refine va_get (D := (dC, dI)) (ci := 3) (v := .ref so) (C := RX4) (T := TX4) (N := 13) hx hb hts hin0 hown hK hP 0 rfl rfl 7 (by decide) fl_27 (fun _ h9 => h9) rfl dX4_told_85 ?_
            refine lv_iload hx hb dX4_told_88 (lv_at hl 2 rfl) ?_
            have z9 := hw.1
            have hw := hw.2
            refine va_iald hx hb hK hP 2 1 rfl rfl z9 dX4_told_90 ?_
            refine lv_iconst (v := (2 : Int32)) hx hb dX4_told_91 (by decide) ?_
            refine lv_icmp_ne (tgt := 99) hx hb dX4_told_92 (by decide) (fun c10 => ?_) (fun c10 => ?_)
            · have hw := hw.1 c10
              refine lv_iconst (v := (0 : Int32)) hx hb dX4_told_99 (by decide) ?_
              refine lv_iadd hx hb dX4_told_100 ?_
              refine lv_istore_n (lv' := [(3, .int (x3 + (0 : Int32))), (2, .int (x2 + (0 : Int32))), (6, .int (x5 + (1 : Int32))), (5, .int x5), (4, .int x4), (0, .ref h0), (1, .int x1)]) hx hb dX4_told_101 rfl hl (by decide) rfl (fun ls hl => ?_)
              refine lv_iload hx hb dX4_told_102 (lv_at hl 4 rfl) ?_
              refine lv_aload_n hx hb dX4_told_104 rfl (lv_at hl 5 rfl) ?_
              refine va_get (D := (dC, dI)) (ci := 3) (v := .ref so) (C := RX4) (T := TX4) (N := 13) hx hb hts hin0 hown hK hP 0 rfl rfl 7 (by decide) fl_27 (fun _ h9 => h9) rfl dX4_told_105 ?_
              refine lv_iload hx hb dX4_told_108 (lv_at hl 3 rfl) ?_
              have z11 := hw.1
              have hw := hw.2
              refine va_iald hx hb hK hP 2 1 rfl rfl z11 dX4_told_110 ?_
              refine lv_iconst (v := (1 : Int32)) hx hb dX4_told_111 (by decide) ?_
              refine lv_icmp_ne (tgt := 141) hx hb dX4_told_112 (by decide) (fun c12 => ?_) (fun c12 => ?_)
              · have hw := hw.1 c12
                refine lv_iconst (v := (0 : Int32)) hx hb dX4_told_141 (by decide) ?_
                refine lv_iadd hx hb dX4_told_142 ?_
                refine lv_istore (lv' := [(4, .int (x4 + (0 : Int32))), (3, .int (x3 + (0 : Int32))), (2, .int (x2 + (0 : Int32))), (6, .int (x5 + (1 : Int32))), (5, .int x5), (0, .ref h0), (1, .int x1)]) hx hb dX4_told_143 hl (by decide) rfl (fun ls hl => ?_)
                refine lv_iinc (v := (x5 + (1 : Int32))) (lv' := [(5, .int (x5 + (1 : Int32))), (4, .int (x4 + (0 : Int32))), (3, .int (x3 + (0 : Int32))), (2, .int (x2 + (0 : Int32))), (6, .int (x5 + (1 : Int32))), (0, .ref h0), (1, .int x1)]) hx hb dX4_told_145 hl (k := 4) rfl rfl (by decide) rfl (fun ls hl => ?_)
                refine lv_goto (tgt := 34) hx hb dX4_told_148 (by decide) ?_
                exact ih (x2 + (0 : Int32)) (x3 + (0 : Int32)) (x4 + (0 : Int32)) (x5 + (1 : Int32)) _ hw hk H locs ls hP hD hS (lv_sub hl [0, 1, 2, 3, 5, 6] rfl)
              · have hw := hw.2 c12
                refine lv_aload_n hx hb dX4_told_115 rfl (lv_at hl 5 rfl) ?_
                refine va_get (D := (dC, dI)) (ci := 3) (v := .ref so) (C := RX4) (T := TX4) (N := 13) hx hb hts hin0 hown hK hP 0 rfl rfl 7 (by decide) fl_27 (fun _ h9 => h9) rfl dX4_told_116 ?_
                refine lv_iload hx hb dX4_told_119 (lv_at hl 2 rfl) ?_
                have z13 := hw.1
                have hw := hw.2
                refine va_iald hx hb hK hP 2 1 rfl rfl z13 dX4_told_121 ?_
                refine lv_if_ne (tgt := 141) hx hb dX4_told_122 (by decide) (fun c14 => ?_) (fun c14 => ?_)
                · have hw := hw.1 c14
                  refine lv_iconst (v := (0 : Int32)) hx hb dX4_told_141 (by decide) ?_
                  refine lv_iadd hx hb dX4_told_142 ?_
                  refine lv_istore (lv' := [(4, .int (x4 + (0 : Int32))), (3, .int (x3 + (0 : Int32))), (2, .int (x2 + (0 : Int32))), (6, .int (x5 + (1 : Int32))), (5, .int x5), (0, .ref h0), (1, .int x1)]) hx hb dX4_told_143 hl (by decide) rfl (fun ls hl => ?_)
                  refine lv_iinc (v := (x5 + (1 : Int32))) (lv' := [(5, .int (x5 + (1 : Int32))), (4, .int (x4 + (0 : Int32))), (3, .int (x3 + (0 : Int32))), (2, .int (x2 + (0 : Int32))), (6, .int (x5 + (1 : Int32))), (0, .ref h0), (1, .int x1)]) hx hb dX4_told_145 hl (k := 4) rfl rfl (by decide) rfl (fun ls hl => ?_)
                  refine lv_goto (tgt := 34) hx hb dX4_told_148 (by decide) ?_
                  exact ih (x2 + (0 : Int32)) (x3 + (0 : Int32)) (x4 + (0 : Int32)) (x5 + (1 : Int32)) _ hw hk H locs ls hP hD hS (lv_sub hl [0, 1, 2, 3, 5, 6] rfl)
                · have hw := hw.2 c14
                  refine lv_iload hx hb dX4_told_125 (lv_at hl 2 rfl) ?_
                  refine lv_if_gt (tgt := 137) hx hb dX4_told_127 (by decide) (fun c15 => ?_) (fun c15 => ?_)
                  · have hw := hw.1 c15
                    refine lv_iconst (v := (1 : Int32)) hx hb dX4_told_137 (by decide) ?_
                    refine lv_goto (tgt := 142) hx hb dX4_told_138 (by decide) ?_
                    refine lv_iadd hx hb dX4_told_142 ?_
                    refine lv_istore (lv' := [(4, .int (x4 + (1 : Int32))), (3, .int (x3 + (0 : Int32))), (2, .int (x2 + (0 : Int32))), (6, .int (x5 + (1 : Int32))), (5, .int x5), (0, .ref h0), (1, .int x1)]) hx hb dX4_told_143 hl (by decide) rfl (fun ls hl => ?_)
                    refine lv_iinc (v := (x5 + (1 : Int32))) (lv' := [(5, .int (x5 + (1 : Int32))), (4, .int (x4 + (1 : Int32))), (3, .int (x3 + (0 : Int32))), (2, .int (x2 + (0 : Int32))), (6, .int (x5 + (1 : Int32))), (0, .ref h0), (1, .int x1)]) hx hb dX4_told_145 hl (k := 4) rfl rfl (by decide) rfl (fun ls hl => ?_)
                    refine lv_goto (tgt := 34) hx hb dX4_told_148 (by decide) ?_
                    exact ih (x2 + (0 : Int32)) (x3 + (0 : Int32)) (x4 + (1 : Int32)) (x5 + (1 : Int32)) _ hw hk H locs ls hP hD hS (lv_sub hl [0, 1, 2, 3, 5, 6] rfl)
                  · have hw := hw.2 c15
                    refine lv_aload_n hx hb dX4_told_130 rfl (lv_at hl 5 rfl) ?_
                    refine va_get (D := (dC, dI)) (ci := 3) (v := .int σ.2.2.2.2.2.1) (C := RX4) (T := TX4) (N := 13) hx hb hts hin0 hown hK hP 0 rfl rfl 5 (by decide) fl_86 (fun _ h9 => h9) rfl dX4_told_131 ?_
                    refine lv_if_ne (tgt := 141) hx hb dX4_told_134 (by decide) (fun c16 => ?_) (fun c16 => ?_)
                    · have hw := hw.1 c16
                      refine lv_iconst (v := (0 : Int32)) hx hb dX4_told_141 (by decide) ?_
                      refine lv_iadd hx hb dX4_told_142 ?_
                      refine lv_istore (lv' := [(4, .int (x4 + (0 : Int32))), (3, .int (x3 + (0 : Int32))), (2, .int (x2 + (0 : Int32))), (6, .int (x5 + (1 : Int32))), (5, .int x5), (0, .ref h0), (1, .int x1)]) hx hb dX4_told_143 hl (by decide) rfl (fun ls hl => ?_)
                      refine lv_iinc (v := (x5 + (1 : Int32))) (lv' := [(5, .int (x5 + (1 : Int32))), (4, .int (x4 + (0 : Int32))), (3, .int (x3 + (0 : Int32))), (2, .int (x2 + (0 : Int32))), (6, .int (x5 + (1 : Int32))), (0, .ref h0), (1, .int x1)]) hx hb dX4_told_145 hl (k := 4) rfl rfl (by decide) rfl (fun ls hl => ?_)
                      refine lv_goto (tgt := 34) hx hb dX4_told_148 (by decide) ?_
                      exact ih (x2 + (0 : Int32)) (x3 + (0 : Int32)) (x4 + (0 : Int32)) (x5 + (1 : Int32)) _ hw hk H locs ls hP hD hS (lv_sub hl [0, 1, 2, 3, 5, 6] rfl)
                    · have hw := hw.2 c16
                      refine lv_iconst (v := (1 : Int32)) hx hb dX4_told_137 (by decide) ?_
                      refine lv_goto (tgt := 142) hx hb dX4_told_138 (by decide) ?_
                      refine lv_iadd hx hb dX4_told_142 ?_
                      refine lv_istore (lv' := [(4, .int (x4 + (1 : Int32))), (3, .int (x3 + (0 : Int32))), (2, .int (x2 + (0 : Int32))), (6, .int (x5 + (1 : Int32))), (5, .int x5), (0, .ref h0), (1, .int x1)]) hx hb dX4_told_143 hl (by decide) rfl (fun ls hl => ?_)
                      refine lv_iinc (v := (x5 + (1 : Int32))) (lv' := [(5, .int (x5 + (1 : Int32))), (4, .int (x4 + (1 : Int32))), (3, .int (x3 + (0 : Int32))), (2, .int (x2 + (0 : Int32))), (6, .int (x5 + (1 : Int32))), (0, .ref h0), (1, .int x1)]) hx hb dX4_told_145 hl (k := 4) rfl rfl (by decide) rfl (fun ls hl => ?_)
                      refine lv_goto (tgt := 34) hx hb dX4_told_148 (by decide) ?_
                      exact ih (x2 + (0 : Int32)) (x3 + (0 : Int32)) (x4 + (1 : Int32)) (x5 + (1 : Int32)) _ hw hk H locs ls hP hD hS (lv_sub hl [0, 1, 2, 3, 5, 6] rfl)
            · have hw := hw.2 c10
              refine lv_iconst (v := (1 : Int32)) hx hb dX4_told_95 (by decide) ?_
              refine lv_goto (tgt := 100) hx hb dX4_told_96 (by decide) ?_
              refine lv_iadd hx hb dX4_told_100 ?_
              refine lv_istore_n (lv' := [(3, .int (x3 + (1 : Int32))), (2, .int (x2 + (0 : Int32))), (6, .int (x5 + (1 : Int32))), (5, .int x5), (4, .int x4), (0, .ref h0), (1, .int x1)]) hx hb dX4_told_101 rfl hl (by decide) rfl (fun ls hl => ?_)
              refine lv_iload hx hb dX4_told_102 (lv_at hl 4 rfl) ?_
              refine lv_aload_n hx hb dX4_told_104 rfl (lv_at hl 5 rfl) ?_
              refine va_get (D := (dC, dI)) (ci := 3) (v := .ref so) (C := RX4) (T := TX4) (N := 13) hx hb hts hin0 hown hK hP 0 rfl rfl 7 (by decide) fl_27 (fun _ h9 => h9) rfl dX4_told_105 ?_
              refine lv_iload hx hb dX4_told_108 (lv_at hl 3 rfl) ?_
              have z17 := hw.1
              have hw := hw.2
              refine va_iald hx hb hK hP 2 1 rfl rfl z17 dX4_told_110 ?_
              refine lv_iconst (v := (1 : Int32)) hx hb dX4_told_111 (by decide) ?_
              refine lv_icmp_ne (tgt := 141) hx hb dX4_told_112 (by decide) (fun c18 => ?_) (fun c18 => ?_)
              · have hw := hw.1 c18
                refine lv_iconst (v := (0 : Int32)) hx hb dX4_told_141 (by decide) ?_
                refine lv_iadd hx hb dX4_told_142 ?_
                refine lv_istore (lv' := [(4, .int (x4 + (0 : Int32))), (3, .int (x3 + (1 : Int32))), (2, .int (x2 + (0 : Int32))), (6, .int (x5 + (1 : Int32))), (5, .int x5), (0, .ref h0), (1, .int x1)]) hx hb dX4_told_143 hl (by decide) rfl (fun ls hl => ?_)
                refine lv_iinc (v := (x5 + (1 : Int32))) (lv' := [(5, .int (x5 + (1 : Int32))), (4, .int (x4 + (0 : Int32))), (3, .int (x3 + (1 : Int32))), (2, .int (x2 + (0 : Int32))), (6, .int (x5 + (1 : Int32))), (0, .ref h0), (1, .int x1)]) hx hb dX4_told_145 hl (k := 4) rfl rfl (by decide) rfl (fun ls hl => ?_)
                refine lv_goto (tgt := 34) hx hb dX4_told_148 (by decide) ?_
                exact ih (x2 + (0 : Int32)) (x3 + (1 : Int32)) (x4 + (0 : Int32)) (x5 + (1 : Int32)) _ hw hk H locs ls hP hD hS (lv_sub hl [0, 1, 2, 3, 5, 6] rfl)
              · have hw := hw.2 c18
                refine lv_aload_n hx hb dX4_told_115 rfl (lv_at hl 5 rfl) ?_
                refine va_get (D := (dC, dI)) (ci := 3) (v := .ref so) (C := RX4) (T := TX4) (N := 13) hx hb hts hin0 hown hK hP 0 rfl rfl 7 (by decide) fl_27 (fun _ h9 => h9) rfl dX4_told_116 ?_
                refine lv_iload hx hb dX4_told_119 (lv_at hl 2 rfl) ?_
                have z19 := hw.1
                have hw := hw.2
                refine va_iald hx hb hK hP 2 1 rfl rfl z19 dX4_told_121 ?_
                refine lv_if_ne (tgt := 141) hx hb dX4_told_122 (by decide) (fun c20 => ?_) (fun c20 => ?_)
                · have hw := hw.1 c20
                  refine lv_iconst (v := (0 : Int32)) hx hb dX4_told_141 (by decide) ?_
                  refine lv_iadd hx hb dX4_told_142 ?_
                  refine lv_istore (lv' := [(4, .int (x4 + (0 : Int32))), (3, .int (x3 + (1 : Int32))), (2, .int (x2 + (0 : Int32))), (6, .int (x5 + (1 : Int32))), (5, .int x5), (0, .ref h0), (1, .int x1)]) hx hb dX4_told_143 hl (by decide) rfl (fun ls hl => ?_)
                  refine lv_iinc (v := (x5 + (1 : Int32))) (lv' := [(5, .int (x5 + (1 : Int32))), (4, .int (x4 + (0 : Int32))), (3, .int (x3 + (1 : Int32))), (2, .int (x2 + (0 : Int32))), (6, .int (x5 + (1 : Int32))), (0, .ref h0), (1, .int x1)]) hx hb dX4_told_145 hl (k := 4) rfl rfl (by decide) rfl (fun ls hl => ?_)
                  refine lv_goto (tgt := 34) hx hb dX4_told_148 (by decide) ?_
                  exact ih (x2 + (0 : Int32)) (x3 + (1 : Int32)) (x4 + (0 : Int32)) (x5 + (1 : Int32)) _ hw hk H locs ls hP hD hS (lv_sub hl [0, 1, 2, 3, 5, 6] rfl)
                · have hw := hw.2 c20
                  refine lv_iload hx hb dX4_told_125 (lv_at hl 2 rfl) ?_
                  refine lv_if_gt (tgt := 137) hx hb dX4_told_127 (by decide) (fun c21 => ?_) (fun c21 => ?_)
                  · have hw := hw.1 c21
                    refine lv_iconst (v := (1 : Int32)) hx hb dX4_told_137 (by decide) ?_
                    refine lv_goto (tgt := 142) hx hb dX4_told_138 (by decide) ?_
                    refine lv_iadd hx hb dX4_told_142 ?_
                    refine lv_istore (lv' := [(4, .int (x4 + (1 : Int32))), (3, .int (x3 + (1 : Int32))), (2, .int (x2 + (0 : Int32))), (6, .int (x5 + (1 : Int32))), (5, .int x5), (0, .ref h0), (1, .int x1)]) hx hb dX4_told_143 hl (by decide) rfl (fun ls hl => ?_)
                    refine lv_iinc (v := (x5 + (1 : Int32))) (lv' := [(5, .int (x5 + (1 : Int32))), (4, .int (x4 + (1 : Int32))), (3, .int (x3 + (1 : Int32))), (2, .int (x2 + (0 : Int32))), (6, .int (x5 + (1 : Int32))), (0, .ref h0), (1, .int x1)]) hx hb dX4_told_145 hl (k := 4) rfl rfl (by decide) rfl (fun ls hl => ?_)
                    refine lv_goto (tgt := 34) hx hb dX4_told_148 (by decide) ?_
                    exact ih (x2 + (0 : Int32)) (x3 + (1 : Int32)) (x4 + (1 : Int32)) (x5 + (1 : Int32)) _ hw hk H locs ls hP hD hS (lv_sub hl [0, 1, 2, 3, 5, 6] rfl)
                  · have hw := hw.2 c21
                    refine lv_aload_n hx hb dX4_told_130 rfl (lv_at hl 5 rfl) ?_
                    refine va_get (D := (dC, dI)) (ci := 3) (v := .int σ.2.2.2.2.2.1) (C := RX4) (T := TX4) (N := 13) hx hb hts hin0 hown hK hP 0 rfl rfl 5 (by decide) fl_86 (fun _ h9 => h9) rfl dX4_told_131 ?_
                    refine lv_if_ne (tgt := 141) hx hb dX4_told_134 (by decide) (fun c22 => ?_) (fun c22 => ?_)
                    · have hw := hw.1 c22
                      refine lv_iconst (v := (0 : Int32)) hx hb dX4_told_141 (by decide) ?_
                      refine lv_iadd hx hb dX4_told_142 ?_
                      refine lv_istore (lv' := [(4, .int (x4 + (0 : Int32))), (3, .int (x3 + (1 : Int32))), (2, .int (x2 + (0 : Int32))), (6, .int (x5 + (1 : Int32))), (5, .int x5), (0, .ref h0), (1, .int x1)]) hx hb dX4_told_143 hl (by decide) rfl (fun ls hl => ?_)
                      refine lv_iinc (v := (x5 + (1 : Int32))) (lv' := [(5, .int (x5 + (1 : Int32))), (4, .int (x4 + (0 : Int32))), (3, .int (x3 + (1 : Int32))), (2, .int (x2 + (0 : Int32))), (6, .int (x5 + (1 : Int32))), (0, .ref h0), (1, .int x1)]) hx hb dX4_told_145 hl (k := 4) rfl rfl (by decide) rfl (fun ls hl => ?_)
                      refine lv_goto (tgt := 34) hx hb dX4_told_148 (by decide) ?_
                      exact ih (x2 + (0 : Int32)) (x3 + (1 : Int32)) (x4 + (0 : Int32)) (x5 + (1 : Int32)) _ hw hk H locs ls hP hD hS (lv_sub hl [0, 1, 2, 3, 5, 6] rfl)
                    · have hw := hw.2 c22
                      refine lv_iconst (v := (1 : Int32)) hx hb dX4_told_137 (by decide) ?_
                      refine lv_goto (tgt := 142) hx hb dX4_told_138 (by decide) ?_
                      refine lv_iadd hx hb dX4_told_142 ?_
                      refine lv_istore (lv' := [(4, .int (x4 + (1 : Int32))), (3, .int (x3 + (1 : Int32))), (2, .int (x2 + (0 : Int32))), (6, .int (x5 + (1 : Int32))), (5, .int x5), (0, .ref h0), (1, .int x1)]) hx hb dX4_told_143 hl (by decide) rfl (fun ls hl => ?_)
                      refine lv_iinc (v := (x5 + (1 : Int32))) (lv' := [(5, .int (x5 + (1 : Int32))), (4, .int (x4 + (1 : Int32))), (3, .int (x3 + (1 : Int32))), (2, .int (x2 + (0 : Int32))), (6, .int (x5 + (1 : Int32))), (0, .ref h0), (1, .int x1)]) hx hb dX4_told_145 hl (k := 4) rfl rfl (by decide) rfl (fun ls hl => ?_)
                      refine lv_goto (tgt := 34) hx hb dX4_told_148 (by decide) ?_
                      exact ih (x2 + (0 : Int32)) (x3 + (1 : Int32)) (x4 + (1 : Int32)) (x5 + (1 : Int32)) _ hw hk H locs ls hP hD hS (lv_sub hl [0, 1, 2, 3, 5, 6] rfl)
          · have hw := hw.2 c8
            refine lv_iconst (v := (1 : Int32)) hx hb dX4_told_76 (by decide) ?_
            refine lv_goto (tgt := 81) hx hb dX4_told_77 (by decide) ?_
            refine lv_iadd hx hb dX4_told_81 ?_
            refine lv_istore_n (lv' := [(2, .int (x2 + (1 : Int32))), (6, .int (x5 + (1 : Int32))), (5, .int x5), (4, .int x4), (3, .int x3), (0, .ref h0), (1, .int x1)]) hx hb dX4_told_82 rfl hl (by decide) rfl (fun ls hl => ?_)
            refine lv_iload_n hx hb dX4_told_83 rfl (lv_at hl 4 rfl) ?_
            refine lv_aload_n hx hb dX4_told_84 rfl (lv_at hl 5 rfl) ?_
            refine va_get (D := (dC, dI)) (ci := 3) (v := .ref so) (C := RX4) (T := TX4) (N := 13) hx hb hts hin0 hown hK hP 0 rfl rfl 7 (by decide) fl_27 (fun _ h9 => h9) rfl dX4_told_85 ?_
            refine lv_iload hx hb dX4_told_88 (lv_at hl 2 rfl) ?_
            have z23 := hw.1
            have hw := hw.2
            refine va_iald hx hb hK hP 2 1 rfl rfl z23 dX4_told_90 ?_
            refine lv_iconst (v := (2 : Int32)) hx hb dX4_told_91 (by decide) ?_
            refine lv_icmp_ne (tgt := 99) hx hb dX4_told_92 (by decide) (fun c24 => ?_) (fun c24 => ?_)
            · have hw := hw.1 c24
              refine lv_iconst (v := (0 : Int32)) hx hb dX4_told_99 (by decide) ?_
              refine lv_iadd hx hb dX4_told_100 ?_
              refine lv_istore_n (lv' := [(3, .int (x3 + (0 : Int32))), (2, .int (x2 + (1 : Int32))), (6, .int (x5 + (1 : Int32))), (5, .int x5), (4, .int x4), (0, .ref h0), (1, .int x1)]) hx hb dX4_told_101 rfl hl (by decide) rfl (fun ls hl => ?_)
              refine lv_iload hx hb dX4_told_102 (lv_at hl 4 rfl) ?_
              refine lv_aload_n hx hb dX4_told_104 rfl (lv_at hl 5 rfl) ?_
              refine va_get (D := (dC, dI)) (ci := 3) (v := .ref so) (C := RX4) (T := TX4) (N := 13) hx hb hts hin0 hown hK hP 0 rfl rfl 7 (by decide) fl_27 (fun _ h9 => h9) rfl dX4_told_105 ?_
              refine lv_iload hx hb dX4_told_108 (lv_at hl 3 rfl) ?_
              have z25 := hw.1
              have hw := hw.2
              refine va_iald hx hb hK hP 2 1 rfl rfl z25 dX4_told_110 ?_
              refine lv_iconst (v := (1 : Int32)) hx hb dX4_told_111 (by decide) ?_
              refine lv_icmp_ne (tgt := 141) hx hb dX4_told_112 (by decide) (fun c26 => ?_) (fun c26 => ?_)
              · have hw := hw.1 c26
                refine lv_iconst (v := (0 : Int32)) hx hb dX4_told_141 (by decide) ?_
                refine lv_iadd hx hb dX4_told_142 ?_
                refine lv_istore (lv' := [(4, .int (x4 + (0 : Int32))), (3, .int (x3 + (0 : Int32))), (2, .int (x2 + (1 : Int32))), (6, .int (x5 + (1 : Int32))), (5, .int x5), (0, .ref h0), (1, .int x1)]) hx hb dX4_told_143 hl (by decide) rfl (fun ls hl => ?_)
                refine lv_iinc (v := (x5 + (1 : Int32))) (lv' := [(5, .int (x5 + (1 : Int32))), (4, .int (x4 + (0 : Int32))), (3, .int (x3 + (0 : Int32))), (2, .int (x2 + (1 : Int32))), (6, .int (x5 + (1 : Int32))), (0, .ref h0), (1, .int x1)]) hx hb dX4_told_145 hl (k := 4) rfl rfl (by decide) rfl (fun ls hl => ?_)
                refine lv_goto (tgt := 34) hx hb dX4_told_148 (by decide) ?_
                exact ih (x2 + (1 : Int32)) (x3 + (0 : Int32)) (x4 + (0 : Int32)) (x5 + (1 : Int32)) _ hw hk H locs ls hP hD hS (lv_sub hl [0, 1, 2, 3, 5, 6] rfl)
              · have hw := hw.2 c26
                refine lv_aload_n hx hb dX4_told_115 rfl (lv_at hl 5 rfl) ?_
                refine va_get (D := (dC, dI)) (ci := 3) (v := .ref so) (C := RX4) (T := TX4) (N := 13) hx hb hts hin0 hown hK hP 0 rfl rfl 7 (by decide) fl_27 (fun _ h9 => h9) rfl dX4_told_116 ?_
                refine lv_iload hx hb dX4_told_119 (lv_at hl 2 rfl) ?_
                have z27 := hw.1
                have hw := hw.2
                refine va_iald hx hb hK hP 2 1 rfl rfl z27 dX4_told_121 ?_
                refine lv_if_ne (tgt := 141) hx hb dX4_told_122 (by decide) (fun c28 => ?_) (fun c28 => ?_)
                · have hw := hw.1 c28
                  refine lv_iconst (v := (0 : Int32)) hx hb dX4_told_141 (by decide) ?_
                  refine lv_iadd hx hb dX4_told_142 ?_
                  refine lv_istore (lv' := [(4, .int (x4 + (0 : Int32))), (3, .int (x3 + (0 : Int32))), (2, .int (x2 + (1 : Int32))), (6, .int (x5 + (1 : Int32))), (5, .int x5), (0, .ref h0), (1, .int x1)]) hx hb dX4_told_143 hl (by decide) rfl (fun ls hl => ?_)
                  refine lv_iinc (v := (x5 + (1 : Int32))) (lv' := [(5, .int (x5 + (1 : Int32))), (4, .int (x4 + (0 : Int32))), (3, .int (x3 + (0 : Int32))), (2, .int (x2 + (1 : Int32))), (6, .int (x5 + (1 : Int32))), (0, .ref h0), (1, .int x1)]) hx hb dX4_told_145 hl (k := 4) rfl rfl (by decide) rfl (fun ls hl => ?_)
                  refine lv_goto (tgt := 34) hx hb dX4_told_148 (by decide) ?_
                  exact ih (x2 + (1 : Int32)) (x3 + (0 : Int32)) (x4 + (0 : Int32)) (x5 + (1 : Int32)) _ hw hk H locs ls hP hD hS (lv_sub hl [0, 1, 2, 3, 5, 6] rfl)
                · have hw := hw.2 c28
                  refine lv_iload hx hb dX4_told_125 (lv_at hl 2 rfl) ?_
                  refine lv_if_gt (tgt := 137) hx hb dX4_told_127 (by decide) (fun c29 => ?_) (fun c29 => ?_)
                  · have hw := hw.1 c29
                    refine lv_iconst (v := (1 : Int32)) hx hb dX4_told_137 (by decide) ?_
                    refine lv_goto (tgt := 142) hx hb dX4_told_138 (by decide) ?_
                    refine lv_iadd hx hb dX4_told_142 ?_
                    refine lv_istore (lv' := [(4, .int (x4 + (1 : Int32))), (3, .int (x3 + (0 : Int32))), (2, .int (x2 + (1 : Int32))), (6, .int (x5 + (1 : Int32))), (5, .int x5), (0, .ref h0), (1, .int x1)]) hx hb dX4_told_143 hl (by decide) rfl (fun ls hl => ?_)
                    refine lv_iinc (v := (x5 + (1 : Int32))) (lv' := [(5, .int (x5 + (1 : Int32))), (4, .int (x4 + (1 : Int32))), (3, .int (x3 + (0 : Int32))), (2, .int (x2 + (1 : Int32))), (6, .int (x5 + (1 : Int32))), (0, .ref h0), (1, .int x1)]) hx hb dX4_told_145 hl (k := 4) rfl rfl (by decide) rfl (fun ls hl => ?_)
                    refine lv_goto (tgt := 34) hx hb dX4_told_148 (by decide) ?_
                    exact ih (x2 + (1 : Int32)) (x3 + (0 : Int32)) (x4 + (1 : Int32)) (x5 + (1 : Int32)) _ hw hk H locs ls hP hD hS (lv_sub hl [0, 1, 2, 3, 5, 6] rfl)
                  · have hw := hw.2 c29
                    refine lv_aload_n hx hb dX4_told_130 rfl (lv_at hl 5 rfl) ?_
                    refine va_get (D := (dC, dI)) (ci := 3) (v := .int σ.2.2.2.2.2.1) (C := RX4) (T := TX4) (N := 13) hx hb hts hin0 hown hK hP 0 rfl rfl 5 (by decide) fl_86 (fun _ h9 => h9) rfl dX4_told_131 ?_
                    refine lv_if_ne (tgt := 141) hx hb dX4_told_134 (by decide) (fun c30 => ?_) (fun c30 => ?_)
                    · have hw := hw.1 c30
                      refine lv_iconst (v := (0 : Int32)) hx hb dX4_told_141 (by decide) ?_
                      refine lv_iadd hx hb dX4_told_142 ?_
                      refine lv_istore (lv' := [(4, .int (x4 + (0 : Int32))), (3, .int (x3 + (0 : Int32))), (2, .int (x2 + (1 : Int32))), (6, .int (x5 + (1 : Int32))), (5, .int x5), (0, .ref h0), (1, .int x1)]) hx hb dX4_told_143 hl (by decide) rfl (fun ls hl => ?_)
                      refine lv_iinc (v := (x5 + (1 : Int32))) (lv' := [(5, .int (x5 + (1 : Int32))), (4, .int (x4 + (0 : Int32))), (3, .int (x3 + (0 : Int32))), (2, .int (x2 + (1 : Int32))), (6, .int (x5 + (1 : Int32))), (0, .ref h0), (1, .int x1)]) hx hb dX4_told_145 hl (k := 4) rfl rfl (by decide) rfl (fun ls hl => ?_)
                      refine lv_goto (tgt := 34) hx hb dX4_told_148 (by decide) ?_
                      exact ih (x2 + (1 : Int32)) (x3 + (0 : Int32)) (x4 + (0 : Int32)) (x5 + (1 : Int32)) _ hw hk H locs ls hP hD hS (lv_sub hl [0, 1, 2, 3, 5, 6] rfl)
                    · have hw := hw.2 c30
                      refine lv_iconst (v := (1 : Int32)) hx hb dX4_told_137 (by decide) ?_
                      refine lv_goto (tgt := 142) hx hb dX4_told_138 (by decide) ?_
                      refine lv_iadd hx hb dX4_told_142 ?_
                      refine lv_istore (lv' := [(4, .int (x4 + (1 : Int32))), (3, .int (x3 + (0 : Int32))), (2, .int (x2 + (1 : Int32))), (6, .int (x5 + (1 : Int32))), (5, .int x5), (0, .ref h0), (1, .int x1)]) hx hb dX4_told_143 hl (by decide) rfl (fun ls hl => ?_)
                      refine lv_iinc (v := (x5 + (1 : Int32))) (lv' := [(5, .int (x5 + (1 : Int32))), (4, .int (x4 + (1 : Int32))), (3, .int (x3 + (0 : Int32))), (2, .int (x2 + (1 : Int32))), (6, .int (x5 + (1 : Int32))), (0, .ref h0), (1, .int x1)]) hx hb dX4_told_145 hl (k := 4) rfl rfl (by decide) rfl (fun ls hl => ?_)
                      refine lv_goto (tgt := 34) hx hb dX4_told_148 (by decide) ?_
                      exact ih (x2 + (1 : Int32)) (x3 + (0 : Int32)) (x4 + (1 : Int32)) (x5 + (1 : Int32)) _ hw hk H locs ls hP hD hS (lv_sub hl [0, 1, 2, 3, 5, 6] rfl)
            · have hw := hw.2 c24
              refine lv_iconst (v := (1 : Int32)) hx hb dX4_told_95 (by decide) ?_
              refine lv_goto (tgt := 100) hx hb dX4_told_96 (by decide) ?_
              refine lv_iadd hx hb dX4_told_100 ?_
              refine lv_istore_n (lv' := [(3, .int (x3 + (1 : Int32))), (2, .int (x2 + (1 : Int32))), (6, .int (x5 + (1 : Int32))), (5, .int x5), (4, .int x4), (0, .ref h0), (1, .int x1)]) hx hb dX4_told_101 rfl hl (by decide) rfl (fun ls hl => ?_)
              refine lv_iload hx hb dX4_told_102 (lv_at hl 4 rfl) ?_
              refine lv_aload_n hx hb dX4_told_104 rfl (lv_at hl 5 rfl) ?_
              refine va_get (D := (dC, dI)) (ci := 3) (v := .ref so) (C := RX4) (T := TX4) (N := 13) hx hb hts hin0 hown hK hP 0 rfl rfl 7 (by decide) fl_27 (fun _ h9 => h9) rfl dX4_told_105 ?_
              refine lv_iload hx hb dX4_told_108 (lv_at hl 3 rfl) ?_
              have z31 := hw.1
              have hw := hw.2
              refine va_iald hx hb hK hP 2 1 rfl rfl z31 dX4_told_110 ?_
              refine lv_iconst (v := (1 : Int32)) hx hb dX4_told_111 (by decide) ?_
              refine lv_icmp_ne (tgt := 141) hx hb dX4_told_112 (by decide) (fun c32 => ?_) (fun c32 => ?_)
              · have hw := hw.1 c32
                refine lv_iconst (v := (0 : Int32)) hx hb dX4_told_141 (by decide) ?_
                refine lv_iadd hx hb dX4_told_142 ?_
                refine lv_istore (lv' := [(4, .int (x4 + (0 : Int32))), (3, .int (x3 + (1 : Int32))), (2, .int (x2 + (1 : Int32))), (6, .int (x5 + (1 : Int32))), (5, .int x5), (0, .ref h0), (1, .int x1)]) hx hb dX4_told_143 hl (by decide) rfl (fun ls hl => ?_)
                refine lv_iinc (v := (x5 + (1 : Int32))) (lv' := [(5, .int (x5 + (1 : Int32))), (4, .int (x4 + (0 : Int32))), (3, .int (x3 + (1 : Int32))), (2, .int (x2 + (1 : Int32))), (6, .int (x5 + (1 : Int32))), (0, .ref h0), (1, .int x1)]) hx hb dX4_told_145 hl (k := 4) rfl rfl (by decide) rfl (fun ls hl => ?_)
                refine lv_goto (tgt := 34) hx hb dX4_told_148 (by decide) ?_
                exact ih (x2 + (1 : Int32)) (x3 + (1 : Int32)) (x4 + (0 : Int32)) (x5 + (1 : Int32)) _ hw hk H locs ls hP hD hS (lv_sub hl [0, 1, 2, 3, 5, 6] rfl)
              · have hw := hw.2 c32
                refine lv_aload_n hx hb dX4_told_115 rfl (lv_at hl 5 rfl) ?_
                refine va_get (D := (dC, dI)) (ci := 3) (v := .ref so) (C := RX4) (T := TX4) (N := 13) hx hb hts hin0 hown hK hP 0 rfl rfl 7 (by decide) fl_27 (fun _ h9 => h9) rfl dX4_told_116 ?_
                refine lv_iload hx hb dX4_told_119 (lv_at hl 2 rfl) ?_
                have z33 := hw.1
                have hw := hw.2
                refine va_iald hx hb hK hP 2 1 rfl rfl z33 dX4_told_121 ?_
                refine lv_if_ne (tgt := 141) hx hb dX4_told_122 (by decide) (fun c34 => ?_) (fun c34 => ?_)
                · have hw := hw.1 c34
                  refine lv_iconst (v := (0 : Int32)) hx hb dX4_told_141 (by decide) ?_
                  refine lv_iadd hx hb dX4_told_142 ?_
                  refine lv_istore (lv' := [(4, .int (x4 + (0 : Int32))), (3, .int (x3 + (1 : Int32))), (2, .int (x2 + (1 : Int32))), (6, .int (x5 + (1 : Int32))), (5, .int x5), (0, .ref h0), (1, .int x1)]) hx hb dX4_told_143 hl (by decide) rfl (fun ls hl => ?_)
                  refine lv_iinc (v := (x5 + (1 : Int32))) (lv' := [(5, .int (x5 + (1 : Int32))), (4, .int (x4 + (0 : Int32))), (3, .int (x3 + (1 : Int32))), (2, .int (x2 + (1 : Int32))), (6, .int (x5 + (1 : Int32))), (0, .ref h0), (1, .int x1)]) hx hb dX4_told_145 hl (k := 4) rfl rfl (by decide) rfl (fun ls hl => ?_)
                  refine lv_goto (tgt := 34) hx hb dX4_told_148 (by decide) ?_
                  exact ih (x2 + (1 : Int32)) (x3 + (1 : Int32)) (x4 + (0 : Int32)) (x5 + (1 : Int32)) _ hw hk H locs ls hP hD hS (lv_sub hl [0, 1, 2, 3, 5, 6] rfl)
                · have hw := hw.2 c34
                  refine lv_iload hx hb dX4_told_125 (lv_at hl 2 rfl) ?_
                  refine lv_if_gt (tgt := 137) hx hb dX4_told_127 (by decide) (fun c35 => ?_) (fun c35 => ?_)
                  · have hw := hw.1 c35
                    refine lv_iconst (v := (1 : Int32)) hx hb dX4_told_137 (by decide) ?_
                    refine lv_goto (tgt := 142) hx hb dX4_told_138 (by decide) ?_
                    refine lv_iadd hx hb dX4_told_142 ?_
                    refine lv_istore (lv' := [(4, .int (x4 + (1 : Int32))), (3, .int (x3 + (1 : Int32))), (2, .int (x2 + (1 : Int32))), (6, .int (x5 + (1 : Int32))), (5, .int x5), (0, .ref h0), (1, .int x1)]) hx hb dX4_told_143 hl (by decide) rfl (fun ls hl => ?_)
                    refine lv_iinc (v := (x5 + (1 : Int32))) (lv' := [(5, .int (x5 + (1 : Int32))), (4, .int (x4 + (1 : Int32))), (3, .int (x3 + (1 : Int32))), (2, .int (x2 + (1 : Int32))), (6, .int (x5 + (1 : Int32))), (0, .ref h0), (1, .int x1)]) hx hb dX4_told_145 hl (k := 4) rfl rfl (by decide) rfl (fun ls hl => ?_)
                    refine lv_goto (tgt := 34) hx hb dX4_told_148 (by decide) ?_
                    exact ih (x2 + (1 : Int32)) (x3 + (1 : Int32)) (x4 + (1 : Int32)) (x5 + (1 : Int32)) _ hw hk H locs ls hP hD hS (lv_sub hl [0, 1, 2, 3, 5, 6] rfl)
                  · have hw := hw.2 c35
                    refine lv_aload_n hx hb dX4_told_130 rfl (lv_at hl 5 rfl) ?_
                    refine va_get (D := (dC, dI)) (ci := 3) (v := .int σ.2.2.2.2.2.1) (C := RX4) (T := TX4) (N := 13) hx hb hts hin0 hown hK hP 0 rfl rfl 5 (by decide) fl_86 (fun _ h9 => h9) rfl dX4_told_131 ?_
                    refine lv_if_ne (tgt := 141) hx hb dX4_told_134 (by decide) (fun c36 => ?_) (fun c36 => ?_)
                    · have hw := hw.1 c36
                      refine lv_iconst (v := (0 : Int32)) hx hb dX4_told_141 (by decide) ?_
                      refine lv_iadd hx hb dX4_told_142 ?_
                      refine lv_istore (lv' := [(4, .int (x4 + (0 : Int32))), (3, .int (x3 + (1 : Int32))), (2, .int (x2 + (1 : Int32))), (6, .int (x5 + (1 : Int32))), (5, .int x5), (0, .ref h0), (1, .int x1)]) hx hb dX4_told_143 hl (by decide) rfl (fun ls hl => ?_)
                      refine lv_iinc (v := (x5 + (1 : Int32))) (lv' := [(5, .int (x5 + (1 : Int32))), (4, .int (x4 + (0 : Int32))), (3, .int (x3 + (1 : Int32))), (2, .int (x2 + (1 : Int32))), (6, .int (x5 + (1 : Int32))), (0, .ref h0), (1, .int x1)]) hx hb dX4_told_145 hl (k := 4) rfl rfl (by decide) rfl (fun ls hl => ?_)
                      refine lv_goto (tgt := 34) hx hb dX4_told_148 (by decide) ?_
                      exact ih (x2 + (1 : Int32)) (x3 + (1 : Int32)) (x4 + (0 : Int32)) (x5 + (1 : Int32)) _ hw hk H locs ls hP hD hS (lv_sub hl [0, 1, 2, 3, 5, 6] rfl)
                    · have hw := hw.2 c36
                      refine lv_iconst (v := (1 : Int32)) hx hb dX4_told_137 (by decide) ?_
                      refine lv_goto (tgt := 142) hx hb dX4_told_138 (by decide) ?_
                      refine lv_iadd hx hb dX4_told_142 ?_
                      refine lv_istore (lv' := [(4, .int (x4 + (1 : Int32))), (3, .int (x3 + (1 : Int32))), (2, .int (x2 + (1 : Int32))), (6, .int (x5 + (1 : Int32))), (5, .int x5), (0, .ref h0), (1, .int x1)]) hx hb dX4_told_143 hl (by decide) rfl (fun ls hl => ?_)
                      refine lv_iinc (v := (x5 + (1 : Int32))) (lv' := [(5, .int (x5 + (1 : Int32))), (4, .int (x4 + (1 : Int32))), (3, .int (x3 + (1 : Int32))), (2, .int (x2 + (1 : Int32))), (6, .int (x5 + (1 : Int32))), (0, .ref h0), (1, .int x1)]) hx hb dX4_told_145 hl (k := 4) rfl rfl (by decide) rfl (fun ls hl => ?_)
                      refine lv_goto (tgt := 34) hx hb dX4_told_148 (by decide) ?_
                      exact ih (x2 + (1 : Int32)) (x3 + (1 : Int32)) (x4 + (1 : Int32)) (x5 + (1 : Int32)) _ hw hk H locs ls hP hD hS (lv_sub hl [0, 1, 2, 3, 5, 6] rfl)
        · have hw := hw.2 c6
          refine lv_iconst (v := (0 : Int32)) hx hb dX4_told_54 (by decide) ?_
          refine lv_goto (tgt := 62) hx hb dX4_told_55 (by decide) ?_
          refine lv_istore (lv' := [(6, .int (0 : Int32)), (5, .int x5), (4, .int x4), (3, .int x3), (2, .int x2), (0, .ref h0), (1, .int x1)]) hx hb dX4_told_62 hl (by decide) rfl (fun ls hl => ?_)
          refine lv_iload_n hx hb dX4_told_64 rfl (lv_at hl 4 rfl) ?_
          refine lv_aload_n hx hb dX4_told_65 rfl (lv_at hl 5 rfl) ?_
          refine va_get (D := (dC, dI)) (ci := 3) (v := .ref so) (C := RX4) (T := TX4) (N := 13) hx hb hts hin0 hown hK hP 0 rfl rfl 7 (by decide) fl_27 (fun _ h9 => h9) rfl dX4_told_66 ?_
          refine lv_iload hx hb dX4_told_69 (lv_at hl 1 rfl) ?_
          have z37 := hw.1
          have hw := hw.2
          refine va_iald hx hb hK hP 2 1 rfl rfl z37 dX4_told_71 ?_
          refine lv_iconst (v := (1 : Int32)) hx hb dX4_told_72 (by decide) ?_
          refine lv_icmp_ne (tgt := 80) hx hb dX4_told_73 (by decide) (fun c38 => ?_) (fun c38 => ?_)
          · have hw := hw.1 c38
            refine lv_iconst (v := (0 : Int32)) hx hb dX4_told_80 (by decide) ?_
            refine lv_iadd hx hb dX4_told_81 ?_
            refine lv_istore_n (lv' := [(2, .int (x2 + (0 : Int32))), (6, .int (0 : Int32)), (5, .int x5), (4, .int x4), (3, .int x3), (0, .ref h0), (1, .int x1)]) hx hb dX4_told_82 rfl hl (by decide) rfl (fun ls hl => ?_)
            refine lv_iload_n hx hb dX4_told_83 rfl (lv_at hl 4 rfl) ?_
            refine lv_aload_n hx hb dX4_told_84 rfl (lv_at hl 5 rfl) ?_
            refine va_get (D := (dC, dI)) (ci := 3) (v := .ref so) (C := RX4) (T := TX4) (N := 13) hx hb hts hin0 hown hK hP 0 rfl rfl 7 (by decide) fl_27 (fun _ h9 => h9) rfl dX4_told_85 ?_
            refine lv_iload hx hb dX4_told_88 (lv_at hl 2 rfl) ?_
            have z39 := hw.1
            have hw := hw.2
            refine va_iald hx hb hK hP 2 1 rfl rfl z39 dX4_told_90 ?_
            refine lv_iconst (v := (2 : Int32)) hx hb dX4_told_91 (by decide) ?_
            refine lv_icmp_ne (tgt := 99) hx hb dX4_told_92 (by decide) (fun c40 => ?_) (fun c40 => ?_)
            · have hw := hw.1 c40
              refine lv_iconst (v := (0 : Int32)) hx hb dX4_told_99 (by decide) ?_
              refine lv_iadd hx hb dX4_told_100 ?_
              refine lv_istore_n (lv' := [(3, .int (x3 + (0 : Int32))), (2, .int (x2 + (0 : Int32))), (6, .int (0 : Int32)), (5, .int x5), (4, .int x4), (0, .ref h0), (1, .int x1)]) hx hb dX4_told_101 rfl hl (by decide) rfl (fun ls hl => ?_)
              refine lv_iload hx hb dX4_told_102 (lv_at hl 4 rfl) ?_
              refine lv_aload_n hx hb dX4_told_104 rfl (lv_at hl 5 rfl) ?_
              refine va_get (D := (dC, dI)) (ci := 3) (v := .ref so) (C := RX4) (T := TX4) (N := 13) hx hb hts hin0 hown hK hP 0 rfl rfl 7 (by decide) fl_27 (fun _ h9 => h9) rfl dX4_told_105 ?_
              refine lv_iload hx hb dX4_told_108 (lv_at hl 3 rfl) ?_
              have z41 := hw.1
              have hw := hw.2
              refine va_iald hx hb hK hP 2 1 rfl rfl z41 dX4_told_110 ?_
              refine lv_iconst (v := (1 : Int32)) hx hb dX4_told_111 (by decide) ?_
              refine lv_icmp_ne (tgt := 141) hx hb dX4_told_112 (by decide) (fun c42 => ?_) (fun c42 => ?_)
              · have hw := hw.1 c42
                refine lv_iconst (v := (0 : Int32)) hx hb dX4_told_141 (by decide) ?_
                refine lv_iadd hx hb dX4_told_142 ?_
                refine lv_istore (lv' := [(4, .int (x4 + (0 : Int32))), (3, .int (x3 + (0 : Int32))), (2, .int (x2 + (0 : Int32))), (6, .int (0 : Int32)), (5, .int x5), (0, .ref h0), (1, .int x1)]) hx hb dX4_told_143 hl (by decide) rfl (fun ls hl => ?_)
                refine lv_iinc (v := (x5 + (1 : Int32))) (lv' := [(5, .int (x5 + (1 : Int32))), (4, .int (x4 + (0 : Int32))), (3, .int (x3 + (0 : Int32))), (2, .int (x2 + (0 : Int32))), (6, .int (0 : Int32)), (0, .ref h0), (1, .int x1)]) hx hb dX4_told_145 hl (k := 4) rfl rfl (by decide) rfl (fun ls hl => ?_)
                refine lv_goto (tgt := 34) hx hb dX4_told_148 (by decide) ?_
                exact ih (x2 + (0 : Int32)) (x3 + (0 : Int32)) (x4 + (0 : Int32)) (x5 + (1 : Int32)) _ hw hk H locs ls hP hD hS (lv_sub hl [0, 1, 2, 3, 5, 6] rfl)
              · have hw := hw.2 c42
                refine lv_aload_n hx hb dX4_told_115 rfl (lv_at hl 5 rfl) ?_
                refine va_get (D := (dC, dI)) (ci := 3) (v := .ref so) (C := RX4) (T := TX4) (N := 13) hx hb hts hin0 hown hK hP 0 rfl rfl 7 (by decide) fl_27 (fun _ h9 => h9) rfl dX4_told_116 ?_
                refine lv_iload hx hb dX4_told_119 (lv_at hl 2 rfl) ?_
                have z43 := hw.1
                have hw := hw.2
                refine va_iald hx hb hK hP 2 1 rfl rfl z43 dX4_told_121 ?_
                refine lv_if_ne (tgt := 141) hx hb dX4_told_122 (by decide) (fun c44 => ?_) (fun c44 => ?_)
                · have hw := hw.1 c44
                  refine lv_iconst (v := (0 : Int32)) hx hb dX4_told_141 (by decide) ?_
                  refine lv_iadd hx hb dX4_told_142 ?_
                  refine lv_istore (lv' := [(4, .int (x4 + (0 : Int32))), (3, .int (x3 + (0 : Int32))), (2, .int (x2 + (0 : Int32))), (6, .int (0 : Int32)), (5, .int x5), (0, .ref h0), (1, .int x1)]) hx hb dX4_told_143 hl (by decide) rfl (fun ls hl => ?_)
                  refine lv_iinc (v := (x5 + (1 : Int32))) (lv' := [(5, .int (x5 + (1 : Int32))), (4, .int (x4 + (0 : Int32))), (3, .int (x3 + (0 : Int32))), (2, .int (x2 + (0 : Int32))), (6, .int (0 : Int32)), (0, .ref h0), (1, .int x1)]) hx hb dX4_told_145 hl (k := 4) rfl rfl (by decide) rfl (fun ls hl => ?_)
                  refine lv_goto (tgt := 34) hx hb dX4_told_148 (by decide) ?_
                  exact ih (x2 + (0 : Int32)) (x3 + (0 : Int32)) (x4 + (0 : Int32)) (x5 + (1 : Int32)) _ hw hk H locs ls hP hD hS (lv_sub hl [0, 1, 2, 3, 5, 6] rfl)
                · have hw := hw.2 c44
                  refine lv_iload hx hb dX4_told_125 (lv_at hl 2 rfl) ?_
                  refine lv_if_gt (tgt := 137) hx hb dX4_told_127 (by decide) (fun cz => absurd cz (by decide)) (fun _ => ?_)
                  refine lv_aload_n hx hb dX4_told_130 rfl (lv_at hl 5 rfl) ?_
                  refine va_get (D := (dC, dI)) (ci := 3) (v := .int σ.2.2.2.2.2.1) (C := RX4) (T := TX4) (N := 13) hx hb hts hin0 hown hK hP 0 rfl rfl 5 (by decide) fl_86 (fun _ h9 => h9) rfl dX4_told_131 ?_
                  refine lv_if_ne (tgt := 141) hx hb dX4_told_134 (by decide) (fun c45 => ?_) (fun c45 => ?_)
                  · have hw := hw.1 c45
                    refine lv_iconst (v := (0 : Int32)) hx hb dX4_told_141 (by decide) ?_
                    refine lv_iadd hx hb dX4_told_142 ?_
                    refine lv_istore (lv' := [(4, .int (x4 + (0 : Int32))), (3, .int (x3 + (0 : Int32))), (2, .int (x2 + (0 : Int32))), (6, .int (0 : Int32)), (5, .int x5), (0, .ref h0), (1, .int x1)]) hx hb dX4_told_143 hl (by decide) rfl (fun ls hl => ?_)
                    refine lv_iinc (v := (x5 + (1 : Int32))) (lv' := [(5, .int (x5 + (1 : Int32))), (4, .int (x4 + (0 : Int32))), (3, .int (x3 + (0 : Int32))), (2, .int (x2 + (0 : Int32))), (6, .int (0 : Int32)), (0, .ref h0), (1, .int x1)]) hx hb dX4_told_145 hl (k := 4) rfl rfl (by decide) rfl (fun ls hl => ?_)
                    refine lv_goto (tgt := 34) hx hb dX4_told_148 (by decide) ?_
                    exact ih (x2 + (0 : Int32)) (x3 + (0 : Int32)) (x4 + (0 : Int32)) (x5 + (1 : Int32)) _ hw hk H locs ls hP hD hS (lv_sub hl [0, 1, 2, 3, 5, 6] rfl)
                  · have hw := hw.2 c45
                    refine lv_iconst (v := (1 : Int32)) hx hb dX4_told_137 (by decide) ?_
                    refine lv_goto (tgt := 142) hx hb dX4_told_138 (by decide) ?_
                    refine lv_iadd hx hb dX4_told_142 ?_
                    refine lv_istore (lv' := [(4, .int (x4 + (1 : Int32))), (3, .int (x3 + (0 : Int32))), (2, .int (x2 + (0 : Int32))), (6, .int (0 : Int32)), (5, .int x5), (0, .ref h0), (1, .int x1)]) hx hb dX4_told_143 hl (by decide) rfl (fun ls hl => ?_)
                    refine lv_iinc (v := (x5 + (1 : Int32))) (lv' := [(5, .int (x5 + (1 : Int32))), (4, .int (x4 + (1 : Int32))), (3, .int (x3 + (0 : Int32))), (2, .int (x2 + (0 : Int32))), (6, .int (0 : Int32)), (0, .ref h0), (1, .int x1)]) hx hb dX4_told_145 hl (k := 4) rfl rfl (by decide) rfl (fun ls hl => ?_)
                    refine lv_goto (tgt := 34) hx hb dX4_told_148 (by decide) ?_
                    exact ih (x2 + (0 : Int32)) (x3 + (0 : Int32)) (x4 + (1 : Int32)) (x5 + (1 : Int32)) _ hw hk H locs ls hP hD hS (lv_sub hl [0, 1, 2, 3, 5, 6] rfl)
            · have hw := hw.2 c40
              refine lv_iconst (v := (1 : Int32)) hx hb dX4_told_95 (by decide) ?_
              refine lv_goto (tgt := 100) hx hb dX4_told_96 (by decide) ?_
              refine lv_iadd hx hb dX4_told_100 ?_
              refine lv_istore_n (lv' := [(3, .int (x3 + (1 : Int32))), (2, .int (x2 + (0 : Int32))), (6, .int (0 : Int32)), (5, .int x5), (4, .int x4), (0, .ref h0), (1, .int x1)]) hx hb dX4_told_101 rfl hl (by decide) rfl (fun ls hl => ?_)
              refine lv_iload hx hb dX4_told_102 (lv_at hl 4 rfl) ?_
              refine lv_aload_n hx hb dX4_told_104 rfl (lv_at hl 5 rfl) ?_
              refine va_get (D := (dC, dI)) (ci := 3) (v := .ref so) (C := RX4) (T := TX4) (N := 13) hx hb hts hin0 hown hK hP 0 rfl rfl 7 (by decide) fl_27 (fun _ h9 => h9) rfl dX4_told_105 ?_
              refine lv_iload hx hb dX4_told_108 (lv_at hl 3 rfl) ?_
              have z46 := hw.1
              have hw := hw.2
              refine va_iald hx hb hK hP 2 1 rfl rfl z46 dX4_told_110 ?_
              refine lv_iconst (v := (1 : Int32)) hx hb dX4_told_111 (by decide) ?_
              refine lv_icmp_ne (tgt := 141) hx hb dX4_told_112 (by decide) (fun c47 => ?_) (fun c47 => ?_)
              · have hw := hw.1 c47
                refine lv_iconst (v := (0 : Int32)) hx hb dX4_told_141 (by decide) ?_
                refine lv_iadd hx hb dX4_told_142 ?_
                refine lv_istore (lv' := [(4, .int (x4 + (0 : Int32))), (3, .int (x3 + (1 : Int32))), (2, .int (x2 + (0 : Int32))), (6, .int (0 : Int32)), (5, .int x5), (0, .ref h0), (1, .int x1)]) hx hb dX4_told_143 hl (by decide) rfl (fun ls hl => ?_)
                refine lv_iinc (v := (x5 + (1 : Int32))) (lv' := [(5, .int (x5 + (1 : Int32))), (4, .int (x4 + (0 : Int32))), (3, .int (x3 + (1 : Int32))), (2, .int (x2 + (0 : Int32))), (6, .int (0 : Int32)), (0, .ref h0), (1, .int x1)]) hx hb dX4_told_145 hl (k := 4) rfl rfl (by decide) rfl (fun ls hl => ?_)
                refine lv_goto (tgt := 34) hx hb dX4_told_148 (by decide) ?_
                exact ih (x2 + (0 : Int32)) (x3 + (1 : Int32)) (x4 + (0 : Int32)) (x5 + (1 : Int32)) _ hw hk H locs ls hP hD hS (lv_sub hl [0, 1, 2, 3, 5, 6] rfl)
              · have hw := hw.2 c47
                refine lv_aload_n hx hb dX4_told_115 rfl (lv_at hl 5 rfl) ?_
                refine va_get (D := (dC, dI)) (ci := 3) (v := .ref so) (C := RX4) (T := TX4) (N := 13) hx hb hts hin0 hown hK hP 0 rfl rfl 7 (by decide) fl_27 (fun _ h9 => h9) rfl dX4_told_116 ?_
                refine lv_iload hx hb dX4_told_119 (lv_at hl 2 rfl) ?_
                have z48 := hw.1
                have hw := hw.2
                refine va_iald hx hb hK hP 2 1 rfl rfl z48 dX4_told_121 ?_
                refine lv_if_ne (tgt := 141) hx hb dX4_told_122 (by decide) (fun c49 => ?_) (fun c49 => ?_)
                · have hw := hw.1 c49
                  refine lv_iconst (v := (0 : Int32)) hx hb dX4_told_141 (by decide) ?_
                  refine lv_iadd hx hb dX4_told_142 ?_
                  refine lv_istore (lv' := [(4, .int (x4 + (0 : Int32))), (3, .int (x3 + (1 : Int32))), (2, .int (x2 + (0 : Int32))), (6, .int (0 : Int32)), (5, .int x5), (0, .ref h0), (1, .int x1)]) hx hb dX4_told_143 hl (by decide) rfl (fun ls hl => ?_)
                  refine lv_iinc (v := (x5 + (1 : Int32))) (lv' := [(5, .int (x5 + (1 : Int32))), (4, .int (x4 + (0 : Int32))), (3, .int (x3 + (1 : Int32))), (2, .int (x2 + (0 : Int32))), (6, .int (0 : Int32)), (0, .ref h0), (1, .int x1)]) hx hb dX4_told_145 hl (k := 4) rfl rfl (by decide) rfl (fun ls hl => ?_)
                  refine lv_goto (tgt := 34) hx hb dX4_told_148 (by decide) ?_
                  exact ih (x2 + (0 : Int32)) (x3 + (1 : Int32)) (x4 + (0 : Int32)) (x5 + (1 : Int32)) _ hw hk H locs ls hP hD hS (lv_sub hl [0, 1, 2, 3, 5, 6] rfl)
                · have hw := hw.2 c49
                  refine lv_iload hx hb dX4_told_125 (lv_at hl 2 rfl) ?_
                  refine lv_if_gt (tgt := 137) hx hb dX4_told_127 (by decide) (fun cz => absurd cz (by decide)) (fun _ => ?_)
                  refine lv_aload_n hx hb dX4_told_130 rfl (lv_at hl 5 rfl) ?_
                  refine va_get (D := (dC, dI)) (ci := 3) (v := .int σ.2.2.2.2.2.1) (C := RX4) (T := TX4) (N := 13) hx hb hts hin0 hown hK hP 0 rfl rfl 5 (by decide) fl_86 (fun _ h9 => h9) rfl dX4_told_131 ?_
                  refine lv_if_ne (tgt := 141) hx hb dX4_told_134 (by decide) (fun c50 => ?_) (fun c50 => ?_)
                  · have hw := hw.1 c50
                    refine lv_iconst (v := (0 : Int32)) hx hb dX4_told_141 (by decide) ?_
                    refine lv_iadd hx hb dX4_told_142 ?_
                    refine lv_istore (lv' := [(4, .int (x4 + (0 : Int32))), (3, .int (x3 + (1 : Int32))), (2, .int (x2 + (0 : Int32))), (6, .int (0 : Int32)), (5, .int x5), (0, .ref h0), (1, .int x1)]) hx hb dX4_told_143 hl (by decide) rfl (fun ls hl => ?_)
                    refine lv_iinc (v := (x5 + (1 : Int32))) (lv' := [(5, .int (x5 + (1 : Int32))), (4, .int (x4 + (0 : Int32))), (3, .int (x3 + (1 : Int32))), (2, .int (x2 + (0 : Int32))), (6, .int (0 : Int32)), (0, .ref h0), (1, .int x1)]) hx hb dX4_told_145 hl (k := 4) rfl rfl (by decide) rfl (fun ls hl => ?_)
                    refine lv_goto (tgt := 34) hx hb dX4_told_148 (by decide) ?_
                    exact ih (x2 + (0 : Int32)) (x3 + (1 : Int32)) (x4 + (0 : Int32)) (x5 + (1 : Int32)) _ hw hk H locs ls hP hD hS (lv_sub hl [0, 1, 2, 3, 5, 6] rfl)
                  · have hw := hw.2 c50
                    refine lv_iconst (v := (1 : Int32)) hx hb dX4_told_137 (by decide) ?_
                    refine lv_goto (tgt := 142) hx hb dX4_told_138 (by decide) ?_
                    refine lv_iadd hx hb dX4_told_142 ?_
                    refine lv_istore (lv' := [(4, .int (x4 + (1 : Int32))), (3, .int (x3 + (1 : Int32))), (2, .int (x2 + (0 : Int32))), (6, .int (0 : Int32)), (5, .int x5), (0, .ref h0), (1, .int x1)]) hx hb dX4_told_143 hl (by decide) rfl (fun ls hl => ?_)
                    refine lv_iinc (v := (x5 + (1 : Int32))) (lv' := [(5, .int (x5 + (1 : Int32))), (4, .int (x4 + (1 : Int32))), (3, .int (x3 + (1 : Int32))), (2, .int (x2 + (0 : Int32))), (6, .int (0 : Int32)), (0, .ref h0), (1, .int x1)]) hx hb dX4_told_145 hl (k := 4) rfl rfl (by decide) rfl (fun ls hl => ?_)
                    refine lv_goto (tgt := 34) hx hb dX4_told_148 (by decide) ?_
                    exact ih (x2 + (0 : Int32)) (x3 + (1 : Int32)) (x4 + (1 : Int32)) (x5 + (1 : Int32)) _ hw hk H locs ls hP hD hS (lv_sub hl [0, 1, 2, 3, 5, 6] rfl)
          · have hw := hw.2 c38
            refine lv_iconst (v := (1 : Int32)) hx hb dX4_told_76 (by decide) ?_
            refine lv_goto (tgt := 81) hx hb dX4_told_77 (by decide) ?_
            refine lv_iadd hx hb dX4_told_81 ?_
            refine lv_istore_n (lv' := [(2, .int (x2 + (1 : Int32))), (6, .int (0 : Int32)), (5, .int x5), (4, .int x4), (3, .int x3), (0, .ref h0), (1, .int x1)]) hx hb dX4_told_82 rfl hl (by decide) rfl (fun ls hl => ?_)
            refine lv_iload_n hx hb dX4_told_83 rfl (lv_at hl 4 rfl) ?_
            refine lv_aload_n hx hb dX4_told_84 rfl (lv_at hl 5 rfl) ?_
            refine va_get (D := (dC, dI)) (ci := 3) (v := .ref so) (C := RX4) (T := TX4) (N := 13) hx hb hts hin0 hown hK hP 0 rfl rfl 7 (by decide) fl_27 (fun _ h9 => h9) rfl dX4_told_85 ?_
            refine lv_iload hx hb dX4_told_88 (lv_at hl 2 rfl) ?_
            have z51 := hw.1
            have hw := hw.2
            refine va_iald hx hb hK hP 2 1 rfl rfl z51 dX4_told_90 ?_
            refine lv_iconst (v := (2 : Int32)) hx hb dX4_told_91 (by decide) ?_
            refine lv_icmp_ne (tgt := 99) hx hb dX4_told_92 (by decide) (fun c52 => ?_) (fun c52 => ?_)
            · have hw := hw.1 c52
              refine lv_iconst (v := (0 : Int32)) hx hb dX4_told_99 (by decide) ?_
              refine lv_iadd hx hb dX4_told_100 ?_
              refine lv_istore_n (lv' := [(3, .int (x3 + (0 : Int32))), (2, .int (x2 + (1 : Int32))), (6, .int (0 : Int32)), (5, .int x5), (4, .int x4), (0, .ref h0), (1, .int x1)]) hx hb dX4_told_101 rfl hl (by decide) rfl (fun ls hl => ?_)
              refine lv_iload hx hb dX4_told_102 (lv_at hl 4 rfl) ?_
              refine lv_aload_n hx hb dX4_told_104 rfl (lv_at hl 5 rfl) ?_
              refine va_get (D := (dC, dI)) (ci := 3) (v := .ref so) (C := RX4) (T := TX4) (N := 13) hx hb hts hin0 hown hK hP 0 rfl rfl 7 (by decide) fl_27 (fun _ h9 => h9) rfl dX4_told_105 ?_
              refine lv_iload hx hb dX4_told_108 (lv_at hl 3 rfl) ?_
              have z53 := hw.1
              have hw := hw.2
              refine va_iald hx hb hK hP 2 1 rfl rfl z53 dX4_told_110 ?_
              refine lv_iconst (v := (1 : Int32)) hx hb dX4_told_111 (by decide) ?_
              refine lv_icmp_ne (tgt := 141) hx hb dX4_told_112 (by decide) (fun c54 => ?_) (fun c54 => ?_)
              · have hw := hw.1 c54
                refine lv_iconst (v := (0 : Int32)) hx hb dX4_told_141 (by decide) ?_
                refine lv_iadd hx hb dX4_told_142 ?_
                refine lv_istore (lv' := [(4, .int (x4 + (0 : Int32))), (3, .int (x3 + (0 : Int32))), (2, .int (x2 + (1 : Int32))), (6, .int (0 : Int32)), (5, .int x5), (0, .ref h0), (1, .int x1)]) hx hb dX4_told_143 hl (by decide) rfl (fun ls hl => ?_)
                refine lv_iinc (v := (x5 + (1 : Int32))) (lv' := [(5, .int (x5 + (1 : Int32))), (4, .int (x4 + (0 : Int32))), (3, .int (x3 + (0 : Int32))), (2, .int (x2 + (1 : Int32))), (6, .int (0 : Int32)), (0, .ref h0), (1, .int x1)]) hx hb dX4_told_145 hl (k := 4) rfl rfl (by decide) rfl (fun ls hl => ?_)
                refine lv_goto (tgt := 34) hx hb dX4_told_148 (by decide) ?_
                exact ih (x2 + (1 : Int32)) (x3 + (0 : Int32)) (x4 + (0 : Int32)) (x5 + (1 : Int32)) _ hw hk H locs ls hP hD hS (lv_sub hl [0, 1, 2, 3, 5, 6] rfl)
              · have hw := hw.2 c54
                refine lv_aload_n hx hb dX4_told_115 rfl (lv_at hl 5 rfl) ?_
                refine va_get (D := (dC, dI)) (ci := 3) (v := .ref so) (C := RX4) (T := TX4) (N := 13) hx hb hts hin0 hown hK hP 0 rfl rfl 7 (by decide) fl_27 (fun _ h9 => h9) rfl dX4_told_116 ?_
                refine lv_iload hx hb dX4_told_119 (lv_at hl 2 rfl) ?_
                have z55 := hw.1
                have hw := hw.2
                refine va_iald hx hb hK hP 2 1 rfl rfl z55 dX4_told_121 ?_
                refine lv_if_ne (tgt := 141) hx hb dX4_told_122 (by decide) (fun c56 => ?_) (fun c56 => ?_)
                · have hw := hw.1 c56
                  refine lv_iconst (v := (0 : Int32)) hx hb dX4_told_141 (by decide) ?_
                  refine lv_iadd hx hb dX4_told_142 ?_
                  refine lv_istore (lv' := [(4, .int (x4 + (0 : Int32))), (3, .int (x3 + (0 : Int32))), (2, .int (x2 + (1 : Int32))), (6, .int (0 : Int32)), (5, .int x5), (0, .ref h0), (1, .int x1)]) hx hb dX4_told_143 hl (by decide) rfl (fun ls hl => ?_)
                  refine lv_iinc (v := (x5 + (1 : Int32))) (lv' := [(5, .int (x5 + (1 : Int32))), (4, .int (x4 + (0 : Int32))), (3, .int (x3 + (0 : Int32))), (2, .int (x2 + (1 : Int32))), (6, .int (0 : Int32)), (0, .ref h0), (1, .int x1)]) hx hb dX4_told_145 hl (k := 4) rfl rfl (by decide) rfl (fun ls hl => ?_)
                  refine lv_goto (tgt := 34) hx hb dX4_told_148 (by decide) ?_
                  exact ih (x2 + (1 : Int32)) (x3 + (0 : Int32)) (x4 + (0 : Int32)) (x5 + (1 : Int32)) _ hw hk H locs ls hP hD hS (lv_sub hl [0, 1, 2, 3, 5, 6] rfl)
                · have hw := hw.2 c56
                  refine lv_iload hx hb dX4_told_125 (lv_at hl 2 rfl) ?_
                  refine lv_if_gt (tgt := 137) hx hb dX4_told_127 (by decide) (fun cz => absurd cz (by decide)) (fun _ => ?_)
                  refine lv_aload_n hx hb dX4_told_130 rfl (lv_at hl 5 rfl) ?_
                  refine va_get (D := (dC, dI)) (ci := 3) (v := .int σ.2.2.2.2.2.1) (C := RX4) (T := TX4) (N := 13) hx hb hts hin0 hown hK hP 0 rfl rfl 5 (by decide) fl_86 (fun _ h9 => h9) rfl dX4_told_131 ?_
                  refine lv_if_ne (tgt := 141) hx hb dX4_told_134 (by decide) (fun c57 => ?_) (fun c57 => ?_)
                  · have hw := hw.1 c57
                    refine lv_iconst (v := (0 : Int32)) hx hb dX4_told_141 (by decide) ?_
                    refine lv_iadd hx hb dX4_told_142 ?_
                    refine lv_istore (lv' := [(4, .int (x4 + (0 : Int32))), (3, .int (x3 + (0 : Int32))), (2, .int (x2 + (1 : Int32))), (6, .int (0 : Int32)), (5, .int x5), (0, .ref h0), (1, .int x1)]) hx hb dX4_told_143 hl (by decide) rfl (fun ls hl => ?_)
                    refine lv_iinc (v := (x5 + (1 : Int32))) (lv' := [(5, .int (x5 + (1 : Int32))), (4, .int (x4 + (0 : Int32))), (3, .int (x3 + (0 : Int32))), (2, .int (x2 + (1 : Int32))), (6, .int (0 : Int32)), (0, .ref h0), (1, .int x1)]) hx hb dX4_told_145 hl (k := 4) rfl rfl (by decide) rfl (fun ls hl => ?_)
                    refine lv_goto (tgt := 34) hx hb dX4_told_148 (by decide) ?_
                    exact ih (x2 + (1 : Int32)) (x3 + (0 : Int32)) (x4 + (0 : Int32)) (x5 + (1 : Int32)) _ hw hk H locs ls hP hD hS (lv_sub hl [0, 1, 2, 3, 5, 6] rfl)
                  · have hw := hw.2 c57
                    refine lv_iconst (v := (1 : Int32)) hx hb dX4_told_137 (by decide) ?_
                    refine lv_goto (tgt := 142) hx hb dX4_told_138 (by decide) ?_
                    refine lv_iadd hx hb dX4_told_142 ?_
                    refine lv_istore (lv' := [(4, .int (x4 + (1 : Int32))), (3, .int (x3 + (0 : Int32))), (2, .int (x2 + (1 : Int32))), (6, .int (0 : Int32)), (5, .int x5), (0, .ref h0), (1, .int x1)]) hx hb dX4_told_143 hl (by decide) rfl (fun ls hl => ?_)
                    refine lv_iinc (v := (x5 + (1 : Int32))) (lv' := [(5, .int (x5 + (1 : Int32))), (4, .int (x4 + (1 : Int32))), (3, .int (x3 + (0 : Int32))), (2, .int (x2 + (1 : Int32))), (6, .int (0 : Int32)), (0, .ref h0), (1, .int x1)]) hx hb dX4_told_145 hl (k := 4) rfl rfl (by decide) rfl (fun ls hl => ?_)
                    refine lv_goto (tgt := 34) hx hb dX4_told_148 (by decide) ?_
                    exact ih (x2 + (1 : Int32)) (x3 + (0 : Int32)) (x4 + (1 : Int32)) (x5 + (1 : Int32)) _ hw hk H locs ls hP hD hS (lv_sub hl [0, 1, 2, 3, 5, 6] rfl)
            · have hw := hw.2 c52
              refine lv_iconst (v := (1 : Int32)) hx hb dX4_told_95 (by decide) ?_
              refine lv_goto (tgt := 100) hx hb dX4_told_96 (by decide) ?_
              refine lv_iadd hx hb dX4_told_100 ?_
              refine lv_istore_n (lv' := [(3, .int (x3 + (1 : Int32))), (2, .int (x2 + (1 : Int32))), (6, .int (0 : Int32)), (5, .int x5), (4, .int x4), (0, .ref h0), (1, .int x1)]) hx hb dX4_told_101 rfl hl (by decide) rfl (fun ls hl => ?_)
              refine lv_iload hx hb dX4_told_102 (lv_at hl 4 rfl) ?_
              refine lv_aload_n hx hb dX4_told_104 rfl (lv_at hl 5 rfl) ?_
              refine va_get (D := (dC, dI)) (ci := 3) (v := .ref so) (C := RX4) (T := TX4) (N := 13) hx hb hts hin0 hown hK hP 0 rfl rfl 7 (by decide) fl_27 (fun _ h9 => h9) rfl dX4_told_105 ?_
              refine lv_iload hx hb dX4_told_108 (lv_at hl 3 rfl) ?_
              have z58 := hw.1
              have hw := hw.2
              refine va_iald hx hb hK hP 2 1 rfl rfl z58 dX4_told_110 ?_
              refine lv_iconst (v := (1 : Int32)) hx hb dX4_told_111 (by decide) ?_
              refine lv_icmp_ne (tgt := 141) hx hb dX4_told_112 (by decide) (fun c59 => ?_) (fun c59 => ?_)
              · have hw := hw.1 c59
                refine lv_iconst (v := (0 : Int32)) hx hb dX4_told_141 (by decide) ?_
                refine lv_iadd hx hb dX4_told_142 ?_
                refine lv_istore (lv' := [(4, .int (x4 + (0 : Int32))), (3, .int (x3 + (1 : Int32))), (2, .int (x2 + (1 : Int32))), (6, .int (0 : Int32)), (5, .int x5), (0, .ref h0), (1, .int x1)]) hx hb dX4_told_143 hl (by decide) rfl (fun ls hl => ?_)
                refine lv_iinc (v := (x5 + (1 : Int32))) (lv' := [(5, .int (x5 + (1 : Int32))), (4, .int (x4 + (0 : Int32))), (3, .int (x3 + (1 : Int32))), (2, .int (x2 + (1 : Int32))), (6, .int (0 : Int32)), (0, .ref h0), (1, .int x1)]) hx hb dX4_told_145 hl (k := 4) rfl rfl (by decide) rfl (fun ls hl => ?_)
                refine lv_goto (tgt := 34) hx hb dX4_told_148 (by decide) ?_
                exact ih (x2 + (1 : Int32)) (x3 + (1 : Int32)) (x4 + (0 : Int32)) (x5 + (1 : Int32)) _ hw hk H locs ls hP hD hS (lv_sub hl [0, 1, 2, 3, 5, 6] rfl)
              · have hw := hw.2 c59
                refine lv_aload_n hx hb dX4_told_115 rfl (lv_at hl 5 rfl) ?_
                refine va_get (D := (dC, dI)) (ci := 3) (v := .ref so) (C := RX4) (T := TX4) (N := 13) hx hb hts hin0 hown hK hP 0 rfl rfl 7 (by decide) fl_27 (fun _ h9 => h9) rfl dX4_told_116 ?_
                refine lv_iload hx hb dX4_told_119 (lv_at hl 2 rfl) ?_
                have z60 := hw.1
                have hw := hw.2
                refine va_iald hx hb hK hP 2 1 rfl rfl z60 dX4_told_121 ?_
                refine lv_if_ne (tgt := 141) hx hb dX4_told_122 (by decide) (fun c61 => ?_) (fun c61 => ?_)
                · have hw := hw.1 c61
                  refine lv_iconst (v := (0 : Int32)) hx hb dX4_told_141 (by decide) ?_
                  refine lv_iadd hx hb dX4_told_142 ?_
                  refine lv_istore (lv' := [(4, .int (x4 + (0 : Int32))), (3, .int (x3 + (1 : Int32))), (2, .int (x2 + (1 : Int32))), (6, .int (0 : Int32)), (5, .int x5), (0, .ref h0), (1, .int x1)]) hx hb dX4_told_143 hl (by decide) rfl (fun ls hl => ?_)
                  refine lv_iinc (v := (x5 + (1 : Int32))) (lv' := [(5, .int (x5 + (1 : Int32))), (4, .int (x4 + (0 : Int32))), (3, .int (x3 + (1 : Int32))), (2, .int (x2 + (1 : Int32))), (6, .int (0 : Int32)), (0, .ref h0), (1, .int x1)]) hx hb dX4_told_145 hl (k := 4) rfl rfl (by decide) rfl (fun ls hl => ?_)
                  refine lv_goto (tgt := 34) hx hb dX4_told_148 (by decide) ?_
                  exact ih (x2 + (1 : Int32)) (x3 + (1 : Int32)) (x4 + (0 : Int32)) (x5 + (1 : Int32)) _ hw hk H locs ls hP hD hS (lv_sub hl [0, 1, 2, 3, 5, 6] rfl)
                · have hw := hw.2 c61
                  refine lv_iload hx hb dX4_told_125 (lv_at hl 2 rfl) ?_
                  refine lv_if_gt (tgt := 137) hx hb dX4_told_127 (by decide) (fun cz => absurd cz (by decide)) (fun _ => ?_)
                  refine lv_aload_n hx hb dX4_told_130 rfl (lv_at hl 5 rfl) ?_
                  refine va_get (D := (dC, dI)) (ci := 3) (v := .int σ.2.2.2.2.2.1) (C := RX4) (T := TX4) (N := 13) hx hb hts hin0 hown hK hP 0 rfl rfl 5 (by decide) fl_86 (fun _ h9 => h9) rfl dX4_told_131 ?_
                  refine lv_if_ne (tgt := 141) hx hb dX4_told_134 (by decide) (fun c62 => ?_) (fun c62 => ?_)
                  · have hw := hw.1 c62
                    refine lv_iconst (v := (0 : Int32)) hx hb dX4_told_141 (by decide) ?_
                    refine lv_iadd hx hb dX4_told_142 ?_
                    refine lv_istore (lv' := [(4, .int (x4 + (0 : Int32))), (3, .int (x3 + (1 : Int32))), (2, .int (x2 + (1 : Int32))), (6, .int (0 : Int32)), (5, .int x5), (0, .ref h0), (1, .int x1)]) hx hb dX4_told_143 hl (by decide) rfl (fun ls hl => ?_)
                    refine lv_iinc (v := (x5 + (1 : Int32))) (lv' := [(5, .int (x5 + (1 : Int32))), (4, .int (x4 + (0 : Int32))), (3, .int (x3 + (1 : Int32))), (2, .int (x2 + (1 : Int32))), (6, .int (0 : Int32)), (0, .ref h0), (1, .int x1)]) hx hb dX4_told_145 hl (k := 4) rfl rfl (by decide) rfl (fun ls hl => ?_)
                    refine lv_goto (tgt := 34) hx hb dX4_told_148 (by decide) ?_
                    exact ih (x2 + (1 : Int32)) (x3 + (1 : Int32)) (x4 + (0 : Int32)) (x5 + (1 : Int32)) _ hw hk H locs ls hP hD hS (lv_sub hl [0, 1, 2, 3, 5, 6] rfl)
                  · have hw := hw.2 c62
                    refine lv_iconst (v := (1 : Int32)) hx hb dX4_told_137 (by decide) ?_
                    refine lv_goto (tgt := 142) hx hb dX4_told_138 (by decide) ?_
                    refine lv_iadd hx hb dX4_told_142 ?_
                    refine lv_istore (lv' := [(4, .int (x4 + (1 : Int32))), (3, .int (x3 + (1 : Int32))), (2, .int (x2 + (1 : Int32))), (6, .int (0 : Int32)), (5, .int x5), (0, .ref h0), (1, .int x1)]) hx hb dX4_told_143 hl (by decide) rfl (fun ls hl => ?_)
                    refine lv_iinc (v := (x5 + (1 : Int32))) (lv' := [(5, .int (x5 + (1 : Int32))), (4, .int (x4 + (1 : Int32))), (3, .int (x3 + (1 : Int32))), (2, .int (x2 + (1 : Int32))), (6, .int (0 : Int32)), (0, .ref h0), (1, .int x1)]) hx hb dX4_told_145 hl (k := 4) rfl rfl (by decide) rfl (fun ls hl => ?_)
                    refine lv_goto (tgt := 34) hx hb dX4_told_148 (by decide) ?_
                    exact ih (x2 + (1 : Int32)) (x3 + (1 : Int32)) (x4 + (1 : Int32)) (x5 + (1 : Int32)) _ hw hk H locs ls hP hD hS (lv_sub hl [0, 1, 2, 3, 5, 6] rfl)
  have hl := lv_entry ([.ref h0, .int p0]) (n := 7) (Nat.le_of_ble_eq_true rfl)
  rw [lg_entry_eq]
  generalize (lg_sl ([.ref h0, .int p0]) ++ List.replicate (7 - (lg_sl ([.ref h0, .int p0])).length) Slot.unset).toArray = ls at hl ⊢
  have hl : lv_has ls 7 [(0, .ref h0), (1, .int p0)] := hl
  unfold wp_X4_told at hw
  skip
  obtain ⟨H, hH⟩ : ∃ H, H = s.heap := ⟨_, rfl⟩
  obtain ⟨locs, hlo⟩ : ∃ q : List Loc, q = [] := ⟨_, rfl⟩
  rw [← hH] at hP
  have hS : va_S A s.heap H locs := by rw [hH, hlo]; exact hS
  suffices hgo : W p l e (headSpec wsX4_told ({ frames := 1, cells := 0, slots := 0, locals := 25 } : Room)).room s m _ below meth c H locs 0 0 _ (F0 m 0 ls []) by rw [hH, hlo] at hgo; exact hgo
  refine lv_iload_n hx hb dX4_told_0 rfl (lv_at hl 1 rfl) ?_
  refine lv_i2l hx hb dX4_told_1 rfl ?_
  refine lv_lconst (v := (0 : Int64)) hx hb dX4_told_2 (by decide) ?_
  refine lv_ldc2 (v := (7 : Int64)) hx hb hown (hts (.constantLong RX4 127 (7 : Int64)) (by decide +kernel)) dX4_told_3 ?_
  have hPc := hP.sub (ws' := ([] : va_W)) [] rfl
  have hDc := hD.sub (ws' := ([] : va_W)) [] (by decide) rfl
  have hKc := hK.sub (tys' := []) [] rfl
  have hFc := va_free (wc := ([] : va_W)) hD hS hA [] rfl
  refine kc_i (wr := [(h0, .inr (3, [.int σ.1, .int σ.2.1, .int σ.2.2.1, .ref w0, .int σ.2.2.2.2.1, .int σ.2.2.2.2.2.1, .long σ.2.2.2.2.2.2.1, .ref so, .ref be, .int σ.2.2.2.2.2.2.2.2.2.1, .int σ.2.2.2.2.2.2.2.2.2.2.1, .int σ.2.2.2.2.2.2.2.2.2.2.2.1, .int σ.2.2.2.2.2.2.2.2.2.2.2.2])), (w0, .inl (cJ, 511, .inr (.inl (σ.2.2.2.1)))), (so, .inl (cI, 30, .inl (σ.2.2.2.2.2.2.2.1))), (be, .inl (cI, 30, .inl (σ.2.2.2.2.2.2.2.2.1)))]) (kr_S (As := [.long (p0.toInt64), .long (0 : Int64), .long (7 : Int64)]) (rest := []) (ws := [(h0, .inr (3, [.int σ.1, .int σ.2.1, .int σ.2.2.1, .ref w0, .int σ.2.2.2.2.1, .int σ.2.2.2.2.2.1, .long σ.2.2.2.2.2.2.1, .ref so, .ref be, .int σ.2.2.2.2.2.2.2.2.2.1, .int σ.2.2.2.2.2.2.2.2.2.2.1, .int σ.2.2.2.2.2.2.2.2.2.2.2.1, .int σ.2.2.2.2.2.2.2.2.2.2.2.2])), (w0, .inl (cJ, 511, .inr (.inl (σ.2.2.2.1)))), (so, .inl (cI, 30, .inl (σ.2.2.2.2.2.2.2.1))), (be, .inl (cI, 30, .inl (σ.2.2.2.2.2.2.2.2.1)))]) ⟨hx, hb, hml, hown, hts⟩ (c_X4_in l dC dI   (p0.toInt64) (0 : Int64) (7 : Int64) _ hw H.size) (va_cwS 3 hts gX4_told_X4_in rfl rfl rfl (by decide +kernel) ⟨Nat.le_of_ble_eq_true rfl, Nat.le_of_ble_eq_true rfl⟩) hKc hnw hP hD hPc hDc rfl hl.1 rfl (Nat.le_of_ble_eq_true rfl) dX4_told_6 ⟨Nat.zero_le _, Nat.zero_le _⟩) hP hD hS hFc [] [0, 1, 2, 3] rfl rfl (by decide) (by decide) (fun r1 u1 H locs hq hP hD hS => ?_)
  obtain ⟨hw, rfl⟩ := hq
  have hP : va_P (dC, dI) vwCl [(h0, .inr (3, [.int σ.1, .int σ.2.1, .int σ.2.2.1, .ref w0, .int σ.2.2.2.2.1, .int σ.2.2.2.2.2.1, .long σ.2.2.2.2.2.2.1, .ref so, .ref be, .int σ.2.2.2.2.2.2.2.2.2.1, .int σ.2.2.2.2.2.2.2.2.2.2.1, .int σ.2.2.2.2.2.2.2.2.2.2.2.1, .int σ.2.2.2.2.2.2.2.2.2.2.2.2])), (w0, .inl (cJ, 511, .inr (.inl (σ.2.2.2.1)))), (so, .inl (cI, 30, .inl (σ.2.2.2.2.2.2.2.1))), (be, .inl (cI, 30, .inl (σ.2.2.2.2.2.2.2.2.1)))] H := hP
  have hD : va_D A [(h0, .inr (3, [.int σ.1, .int σ.2.1, .int σ.2.2.1, .ref w0, .int σ.2.2.2.2.1, .int σ.2.2.2.2.2.1, .long σ.2.2.2.2.2.2.1, .ref so, .ref be, .int σ.2.2.2.2.2.2.2.2.2.1, .int σ.2.2.2.2.2.2.2.2.2.2.1, .int σ.2.2.2.2.2.2.2.2.2.2.2.1, .int σ.2.2.2.2.2.2.2.2.2.2.2.2])), (w0, .inl (cJ, 511, .inr (.inl (σ.2.2.2.1)))), (so, .inl (cI, 30, .inl (σ.2.2.2.2.2.2.2.1))), (be, .inl (cI, 30, .inl (σ.2.2.2.2.2.2.2.2.1)))] := hD
  refine lv_if_ne (tgt := 14) hx hb dX4_told_9 (by decide) (fun c3 => ?_) (fun c3 => ?_)
  · have hw := hw.1 c3
    refine lv_aload_n hx hb dX4_told_14 rfl (lv_at hl 0 rfl) ?_
    refine va_get (D := (dC, dI)) (ci := 3) (v := .int σ.2.2.2.2.1) (C := RX4) (T := TX4) (N := 13) hx hb hts hin0 hown hK hP 0 rfl rfl 4 (by decide) fl_83 (fun _ h9 => h9) rfl dX4_told_15 ?_
    refine lv_if_ne (tgt := 24) hx hb dX4_told_18 (by decide) (fun c4 => ?_) (fun c4 => ?_)
    · have hw := hw.1 c4
      refine lv_iconst (v := (0 : Int32)) hx hb dX4_told_24 (by decide) ?_
      refine lv_istore_n (lv' := [(2, .int (0 : Int32)), (0, .ref h0), (1, .int p0)]) hx hb dX4_told_25 rfl hl (by decide) rfl (fun ls hl => ?_)
      refine lv_iconst (v := (0 : Int32)) hx hb dX4_told_26 (by decide) ?_
      refine lv_istore_n (lv' := [(3, .int (0 : Int32)), (2, .int (0 : Int32)), (0, .ref h0), (1, .int p0)]) hx hb dX4_told_27 rfl hl (by decide) rfl (fun ls hl => ?_)
      refine lv_iconst (v := (0 : Int32)) hx hb dX4_told_28 (by decide) ?_
      refine lv_istore (lv' := [(4, .int (0 : Int32)), (3, .int (0 : Int32)), (2, .int (0 : Int32)), (0, .ref h0), (1, .int p0)]) hx hb dX4_told_29 hl (by decide) rfl (fun ls hl => ?_)
      refine lv_iconst (v := (0 : Int32)) hx hb dX4_told_31 (by decide) ?_
      refine lv_istore (lv' := [(5, .int (0 : Int32)), (4, .int (0 : Int32)), (3, .int (0 : Int32)), (2, .int (0 : Int32)), (0, .ref h0), (1, .int p0)]) hx hb dX4_told_32 hl (by decide) rfl (fun ls hl => ?_)
      refine L34 p0 (20000) (0 : Int32) (0 : Int32) (0 : Int32) (0 : Int32) _ hw (fun x2_63 x3_64 x4_65 x5_66 hw H locs ls hP hD hS hl => ?_) H locs ls hP hD hS (lv_sub hl [0, 1, 2, 3, 4, 5] rfl)
      refine lv_iload_n hx hb dX4_told_151 rfl (lv_at hl 5 rfl) ?_
      by_cases c68 : p0 = (0 : Int32)
      · have hw := hw.1 c68
        refine lv_tableIn (off := 44) (tgt := 196) hx hb dX4_told_152 (by rw [c68]; decide) (by rw [c68]; decide) (by rw [c68]; rfl) (by decide) ?_
        refine lv_aload_n hx hb dX4_told_196 rfl (lv_at hl 4 rfl) ?_
        refine va_get (D := (dC, dI)) (ci := 3) (v := .int σ.2.2.2.2.1) (C := RX4) (T := TX4) (N := 13) hx hb hts hin0 hown hK hP 0 rfl rfl 4 (by decide) fl_83 (fun _ h9 => h9) rfl dX4_told_197 ?_
        exact W.iret (v := σ.2.2.2.2.1) hx hb hr (fun t ht hW => ⟨⟨σ.2.2.2.2.1, ((cl4 h0 w0 so be cJ cI σ)), rfl, ⟨hw, rfl⟩, by rw [ht]; exact hP, va_K.moved hW.alike hK, hD⟩, hS.F ht⟩) hS.2.2 dX4_told_200
      · have hw := hw.2 c68
        by_cases c69 : p0 = (1 : Int32)
        · have hw := hw.1 c69
          refine lv_tableIn (off := 49) (tgt := 201) hx hb dX4_told_152 (by rw [c69]; decide) (by rw [c69]; decide) (by rw [c69]; rfl) (by decide) ?_
          refine lv_aload_n hx hb dX4_told_201 rfl (lv_at hl 4 rfl) ?_
          refine va_get (D := (dC, dI)) (ci := 3) (v := .int σ.2.2.2.2.2.1) (C := RX4) (T := TX4) (N := 13) hx hb hts hin0 hown hK hP 0 rfl rfl 5 (by decide) fl_86 (fun _ h9 => h9) rfl dX4_told_202 ?_
          refine lv_if_eq (tgt := 212) hx hb dX4_told_205 (by decide) (fun c70 => ?_) (fun c70 => ?_)
          · have hw := hw.1 c70
            refine lv_iconst (v := (0 : Int32)) hx hb dX4_told_212 (by decide) ?_
            exact W.iret (v := (0 : Int32)) hx hb hr (fun t ht hW => ⟨⟨(0 : Int32), ((cl4 h0 w0 so be cJ cI σ)), rfl, ⟨hw, rfl⟩, by rw [ht]; exact hP, va_K.moved hW.alike hK, hD⟩, hS.F ht⟩) hS.2.2 dX4_told_213
          · have hw := hw.2 c70
            refine lv_iconst (v := (1 : Int32)) hx hb dX4_told_208 (by decide) ?_
            refine lv_goto (tgt := 213) hx hb dX4_told_209 (by decide) ?_
            exact W.iret (v := (1 : Int32)) hx hb hr (fun t ht hW => ⟨⟨(1 : Int32), ((cl4 h0 w0 so be cJ cI σ)), rfl, ⟨hw, rfl⟩, by rw [ht]; exact hP, va_K.moved hW.alike hK, hD⟩, hS.F ht⟩) hS.2.2 dX4_told_213
        · have hw := hw.2 c69
          by_cases c71 : p0 = (2 : Int32)
          · have hw := hw.1 c71
            refine lv_tableIn (off := 62) (tgt := 214) hx hb dX4_told_152 (by rw [c71]; decide) (by rw [c71]; decide) (by rw [c71]; rfl) (by decide) ?_
            refine lv_aload_n hx hb dX4_told_214 rfl (lv_at hl 4 rfl) ?_
            refine va_get (D := (dC, dI)) (ci := 3) (v := .int σ.2.2.2.2.2.2.2.2.2.1) (C := RX4) (T := TX4) (N := 13) hx hb hts hin0 hown hK hP 0 rfl rfl 9 (by decide) fl_90 (fun _ h9 => h9) rfl dX4_told_215 ?_
            exact W.iret (v := σ.2.2.2.2.2.2.2.2.2.1) hx hb hr (fun t ht hW => ⟨⟨σ.2.2.2.2.2.2.2.2.2.1, ((cl4 h0 w0 so be cJ cI σ)), rfl, ⟨hw, rfl⟩, by rw [ht]; exact hP, va_K.moved hW.alike hK, hD⟩, hS.F ht⟩) hS.2.2 dX4_told_218
          · have hw := hw.2 c71
            by_cases c72 : p0 = (3 : Int32)
            · have hw := hw.1 c72
              refine lv_tableIn (off := 67) (tgt := 219) hx hb dX4_told_152 (by rw [c72]; decide) (by rw [c72]; decide) (by rw [c72]; rfl) (by decide) ?_
              refine lv_aload_n hx hb dX4_told_219 rfl (lv_at hl 4 rfl) ?_
              refine va_get (D := (dC, dI)) (ci := 3) (v := .int σ.2.2.2.2.2.2.2.2.2.2.1) (C := RX4) (T := TX4) (N := 13) hx hb hts hin0 hown hK hP 0 rfl rfl 10 (by decide) fl_93 (fun _ h9 => h9) rfl dX4_told_220 ?_
              exact W.iret (v := σ.2.2.2.2.2.2.2.2.2.2.1) hx hb hr (fun t ht hW => ⟨⟨σ.2.2.2.2.2.2.2.2.2.2.1, ((cl4 h0 w0 so be cJ cI σ)), rfl, ⟨hw, rfl⟩, by rw [ht]; exact hP, va_K.moved hW.alike hK, hD⟩, hS.F ht⟩) hS.2.2 dX4_told_223
            · have hw := hw.2 c72
              by_cases c73 : p0 = (4 : Int32)
              · have hw := hw.1 c73
                refine lv_tableIn (off := 72) (tgt := 224) hx hb dX4_told_152 (by rw [c73]; decide) (by rw [c73]; decide) (by rw [c73]; rfl) (by decide) ?_
                refine lv_aload_n hx hb dX4_told_224 rfl (lv_at hl 4 rfl) ?_
                refine va_get (D := (dC, dI)) (ci := 3) (v := .int σ.2.2.2.2.2.2.2.2.2.2.2.1) (C := RX4) (T := TX4) (N := 13) hx hb hts hin0 hown hK hP 0 rfl rfl 11 (by decide) fl_96 (fun _ h9 => h9) rfl dX4_told_225 ?_
                exact W.iret (v := σ.2.2.2.2.2.2.2.2.2.2.2.1) hx hb hr (fun t ht hW => ⟨⟨σ.2.2.2.2.2.2.2.2.2.2.2.1, ((cl4 h0 w0 so be cJ cI σ)), rfl, ⟨hw, rfl⟩, by rw [ht]; exact hP, va_K.moved hW.alike hK, hD⟩, hS.F ht⟩) hS.2.2 dX4_told_228
              · have hw := hw.2 c73
                by_cases c74 : p0 = (5 : Int32)
                · have hw := hw.1 c74
                  refine lv_tableIn (off := 77) (tgt := 229) hx hb dX4_told_152 (by rw [c74]; decide) (by rw [c74]; decide) (by rw [c74]; rfl) (by decide) ?_
                  refine lv_iload_n hx hb dX4_told_229 rfl (lv_at hl 3 rfl) ?_
                  exact W.iret (v := x2_63) hx hb hr (fun t ht hW => ⟨⟨x2_63, ((cl4 h0 w0 so be cJ cI σ)), rfl, ⟨hw, rfl⟩, by rw [ht]; exact hP, va_K.moved hW.alike hK, hD⟩, hS.F ht⟩) hS.2.2 dX4_told_230
                · have hw := hw.2 c74
                  by_cases c75 : p0 = (6 : Int32)
                  · have hw := hw.1 c75
                    refine lv_tableIn (off := 79) (tgt := 231) hx hb dX4_told_152 (by rw [c75]; decide) (by rw [c75]; decide) (by rw [c75]; rfl) (by decide) ?_
                    refine lv_iload_n hx hb dX4_told_231 rfl (lv_at hl 2 rfl) ?_
                    exact W.iret (v := x3_64) hx hb hr (fun t ht hW => ⟨⟨x3_64, ((cl4 h0 w0 so be cJ cI σ)), rfl, ⟨hw, rfl⟩, by rw [ht]; exact hP, va_K.moved hW.alike hK, hD⟩, hS.F ht⟩) hS.2.2 dX4_told_232
                  · have hw := hw.2 c75
                    have hsw : p0.toInt < 0 ∨ 6 < p0.toInt := by
                      have qc68 := lv_neT (a := 0) c68 rfl
                      have qc69 := lv_neT (a := 1) c69 rfl
                      have qc71 := lv_neT (a := 2) c71 rfl
                      have qc72 := lv_neT (a := 3) c72 rfl
                      have qc73 := lv_neT (a := 4) c73 rfl
                      have qc74 := lv_neT (a := 5) c74 rfl
                      have qc75 := lv_neT (a := 6) c75 rfl
                      omega
                    refine lv_tableOut (tgt := 233) hx hb dX4_told_152 hsw (by decide) ?_
                    refine lv_iload hx hb dX4_told_233 (lv_at hl 1 rfl) ?_
                    exact W.iret (v := x4_65) hx hb hr (fun t ht hW => ⟨⟨x4_65, ((cl4 h0 w0 so be cJ cI σ)), rfl, ⟨hw, rfl⟩, by rw [ht]; exact hP, va_K.moved hW.alike hK, hD⟩, hS.F ht⟩) hS.2.2 dX4_told_235
    · have hw := hw.2 c4
      refine lv_bipush (v := (-2 : Int32)) hx hb dX4_told_21 (by decide) ?_
      exact W.iret (v := (-2 : Int32)) hx hb hr (fun t ht hW => ⟨⟨(-2 : Int32), ((cl4 h0 w0 so be cJ cI σ)), rfl, ⟨hw, rfl⟩, by rw [ht]; exact hP, va_K.moved hW.alike hK, hD⟩, hS.F ht⟩) hS.2.2 dX4_told_23
  · have hw := hw.2 c3
    refine lv_iconst (v := (-1 : Int32)) hx hb dX4_told_12 (by decide) ?_
    exact W.iret (v := (-1 : Int32)) hx hb hr (fun t ht hW => ⟨⟨(-1 : Int32), ((cl4 h0 w0 so be cJ cI σ)), rfl, ⟨hw, rfl⟩, by rw [ht]; exact hP, va_K.moved hW.alike hK, hD⟩, hS.F ht⟩) hS.2.2 dX4_told_13
