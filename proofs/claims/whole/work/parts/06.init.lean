theorem zL_ (N : Nat) (cA : ClassId) : vp_cell cA (N, .inr (.inl (fun _ => (0 : Int64)))) = arrV cA N (fun _ => defaultValue .long) := rfl
theorem zI_ (N : Nat) (cA : ClassId) : vp_cell cA (N, .inl (fun _ => (0 : Int32))) = arrV cA N (fun _ => defaultValue .int) := rfl
theorem tn_512 : (512 : Int32).toNatClampNeg = 512 := by decide
theorem tn_511 : (511 : Int32).toNatClampNeg = 511 := by decide
theorem tn_9 : (9 : Int32).toNatClampNeg = 9 := by decide
theorem tn_30 : (30 : Int32).toNatClampNeg = 30 := by decide
theorem by_512 : 512 * componentBytes .long ≤ 536870912 := by decide
theorem by_511 : 511 * componentBytes .long ≤ 536870912 := by decide
theorem by_9 : 9 * componentBytes .long ≤ 536870912 := by decide
theorem by_30 : 30 * componentBytes .int ≤ 536870912 := by decide
set_option maxHeartbeats 4000000 in
set_option maxRecDepth 100000 in
theorem c_X0_init (l : Launch) (dC : Nat → ClassId) (dI : Nat → Nat → Nat) (h0 : Nat) (post : SC → Prop) (hw : wp_X0_become (1 : Int32) (1 : Int32) (1 : Int32) ((0 : Int32), (0 : Int32), (0 : Int32), (fun _ => (0 : Int64)), (fun _ => (0 : Int64))) post) : ∀ sz : Nat, Met l yX0_init wsX0_init ({ frames := 5, cells := 2, slots := 521, locals := 117 } : Room) (va_Pc [.ref h0] (kPre (dC, dI) [] [(h0, .inr (0, [.null, .null, .int 0, .int 0, .int 0]))] sz)) (va_Qv (fun u : va_W × ClassId => ∃ (w0 w1 : Nat) (σ : SC), post σ ∧ u.1 = cl0 h0 w0 w1 u.2 σ) (fun u t => va_P (dC, dI) vwCl u.1 t.heap ∧ va_K (dC, dI) vwCl [(u.2, .long)] t ∧ va_D (va_A [(h0, .inr (0, [.null, .null, .int 0, .int 0, .int 0]))] sz) u.1) (va_A [(h0, .inr (0, [.null, .null, .int 0, .int 0, .int 0]))] sz)) 2 521 (va_A [(h0, .inr (0, [.null, .null, .int 0, .int 0, .int 0]))] sz) := by
  intro sz
  refine Met.ofW (cc := cX0_init) (maxL := 1) (ret := none) (by decide) rfl ?_
  intro p e s m args below meth c s₁ B hml hv
  obtain ⟨rfl, hsz, hP, hK, hD0, hnw⟩ := hv
  have hx := B.exec
  have hb := B.bytes
  have hr := B.returns
  have hts := atoms_spec (ws := wsX0_init) B.pre
  have hown : s.vm.findClass RX0 = some m.cls := findClass_of_methodNamed B.named
  have hlocks := B.notSynchronized
  have hin : meth.name = "<init>" := (name_of_methodNamed B.named B.method).1
  subst hsz
  have hD := hD0.self (sz := s.heap.size)
  generalize hAe : va_A [(h0, .inr (0, [.null, .null, .int 0, .int 0, .int 0]))] s.heap.size = A at hD ⊢
  have hA : ∀ q : Nat, s.heap.size ≤ q → A q := fun q h => by rw [← hAe]; exact Or.inr h
  have hS : va_S A s.heap s.heap [] := va_S.rf
  have hl := lv_entry ([.ref h0]) (n := 1) (Nat.le_of_ble_eq_true rfl)
  rw [lg_entry_eq]
  generalize (lg_sl ([.ref h0]) ++ List.replicate (1 - (lg_sl ([.ref h0])).length) Slot.unset).toArray = ls at hl ⊢
  have hl : lv_has ls 1 [(0, .ref h0)] := hl
  obtain ⟨H, hH⟩ : ∃ H, H = s.heap := ⟨_, rfl⟩
  obtain ⟨locs, hlo⟩ : ∃ q : List Loc, q = [] := ⟨_, rfl⟩
  rw [← hH] at hP
  have hS : va_S A s.heap H locs := by rw [hH, hlo]; exact hS
  suffices hgo : W p l e (headSpec wsX0_init ({ frames := 5, cells := 2, slots := 521, locals := 117 } : Room)).room s m _ below meth c H locs 0 0 _ (F0 m 0 ls []) by rw [hH, hlo] at hgo; exact hgo
  have fl_9 := hts (.fieldLink RX0 9 "OnePlaceEach$Chain" "weights" "[J") (by decide +kernel)
  have fl_15 := hts (.fieldLink RX0 15 "OnePlaceEach$Chain" "sums" "[J") (by decide +kernel)
  have hin0 : ∀ w ∈ wsX00, w ∈ wsX0_init := by decide +kernel
  refine lv_aload_n hx hb dX0_init_0 rfl (lv_at hl 0 rfl) ?_
  refine W.objInit hx hb hown (hts (.methodLink RX0 3 objectInit) (by decide +kernel)) (hts (.instanceMethod objectInit) (by decide +kernel)) (hts _ (List.mem_of_getElem? (i := 3) rfl)) rfl (by rw [hml]; exact hl.1) rfl dX0_init_1 (Nat.le_of_ble_eq_true rfl) (Nat.le_of_ble_eq_true rfl) ?_
  refine W.eq (g2 := F0 m 4 ls []) rfl ?_
  refine lv_aload_n hx hb dX0_init_4 rfl (lv_at hl 0 rfl) ?_
  refine lv_sipush (v := (512 : Int32)) hx hb dX0_init_5 (by decide) ?_
  refine va_newa (atype := .long) (ty := .long) (N' := 512) (a0 := (512, .inr (.inl (fun _ => (0 : Int64))))) hx hb (hts (.arrayClass .long) (by decide +kernel)) rfl hK hP hD hS hA (fun cA => zL_ 512 cA) (by decide) tn_512 by_512 (by omega : (1 : Nat) ≤ 2) (by omega : (512 : Nat) ≤ 521) dX0_init_8 (fun w0 cJ H hK hP hD hS => ?_)
  refine W.widen (k := 1) (n := 512) (by omega) (by omega) ?_
  have hP : va_P (dC, dI) vwCl [(h0, .inr (0, [.null, .null, .int 0, .int 0, .int 0])), (w0, .inl (cJ, 512, .inr (.inl (fun _ => (0 : Int64)))))] H := hP
  have hD : va_D A [(h0, .inr (0, [.null, .null, .int 0, .int 0, .int 0])), (w0, .inl (cJ, 512, .inr (.inl (fun _ => (0 : Int64)))))] := hD
  have hK : va_K (dC, dI) vwCl [(cJ, .long)] s := hK
  refine va_putF (D := (dC, dI)) (ci := 0) (v := .ref w0) (ty := .array .long) (C := RX0) (T := TX0) (N := 5) hx hb hts hin0 tyX0 tyX0_ok nmX0 hown hK hP hD hS 0 rfl rfl 0 (by decide) fl_9 (fun _ h9 => h9) rfl hin rfl (by decide +kernel) rfl rfl (Nat.le_of_ble_eq_true rfl) dX0_init_10 (fun H locs hP hD hS => ?_)
  have hP : va_P (dC, dI) vwCl [(h0, .inr (0, [.ref w0, .null, .int 0, .int 0, .int 0])), (w0, .inl (cJ, 512, .inr (.inl (fun _ => (0 : Int64)))))] H := hP
  have hD : va_D A [(h0, .inr (0, [.ref w0, .null, .int 0, .int 0, .int 0])), (w0, .inl (cJ, 512, .inr (.inl (fun _ => (0 : Int64)))))] := hD
  refine lv_aload_n hx hb dX0_init_13 rfl (lv_at hl 0 rfl) ?_
  refine lv_bipush (v := (9 : Int32)) hx hb dX0_init_14 (by decide) ?_
  refine va_newa (atype := .long) (ty := .long) (N' := 9) (a0 := (9, .inr (.inl (fun _ => (0 : Int64))))) hx hb (hts (.arrayClass .long) (by decide +kernel)) rfl hK hP hD hS hA (fun cA => zL_ 9 cA) (by decide) tn_9 by_9 (by omega : (2 : Nat) ≤ 2) (by omega : (521 : Nat) ≤ 521) dX0_init_16 (fun w1 cJ2 H hK hP hD hS => ?_)
  refine W.widen (k := 2) (n := 521) (by omega) (by omega) ?_
  have hP : va_P (dC, dI) vwCl [(h0, .inr (0, [.ref w0, .null, .int 0, .int 0, .int 0])), (w0, .inl (cJ, 512, .inr (.inl (fun _ => (0 : Int64))))), (w1, .inl (cJ2, 9, .inr (.inl (fun _ => (0 : Int64)))))] H := hP
  have hD : va_D A [(h0, .inr (0, [.ref w0, .null, .int 0, .int 0, .int 0])), (w0, .inl (cJ, 512, .inr (.inl (fun _ => (0 : Int64))))), (w1, .inl (cJ2, 9, .inr (.inl (fun _ => (0 : Int64)))))] := hD
  have hK : va_K (dC, dI) vwCl [(cJ, .long), (cJ2, .long)] s := hK
  have a1 : s.vm.findClass ("[" ++ FieldType.long.toString) = some cJ := (hK.2 0 _ rfl).2
  have a2 : s.vm.findClass ("[" ++ FieldType.long.toString) = some cJ2 := (hK.2 1 _ rfl).2
  obtain rfl : cJ2 = cJ := Option.some.inj (a2.symm.trans a1)
  have hK := hK.sub (tys' := [(cJ2, .long)]) [0] rfl
  refine va_putF (D := (dC, dI)) (ci := 0) (v := .ref w1) (ty := .array .long) (C := RX0) (T := TX0) (N := 5) hx hb hts hin0 tyX0 tyX0_ok nmX0 hown hK hP hD hS 0 rfl rfl 1 (by decide) fl_15 (fun _ h9 => h9) rfl hin rfl (by decide +kernel) rfl rfl (Nat.le_of_ble_eq_true rfl) dX0_init_18 (fun H locs hP hD hS => ?_)
  have hP : va_P (dC, dI) vwCl [(h0, .inr (0, [.ref w0, .ref w1, .int 0, .int 0, .int 0])), (w0, .inl (cJ2, 512, .inr (.inl (fun _ => (0 : Int64))))), (w1, .inl (cJ2, 9, .inr (.inl (fun _ => (0 : Int64)))))] H := hP
  have hD : va_D A [(h0, .inr (0, [.ref w0, .ref w1, .int 0, .int 0, .int 0])), (w0, .inl (cJ2, 512, .inr (.inl (fun _ => (0 : Int64))))), (w1, .inl (cJ2, 9, .inr (.inl (fun _ => (0 : Int64)))))] := hD
  refine lv_aload_n hx hb dX0_init_21 rfl (lv_at hl 0 rfl) ?_
  refine lv_iconst (v := (1 : Int32)) hx hb dX0_init_22 (by decide) ?_
  refine lv_iconst (v := (1 : Int32)) hx hb dX0_init_23 (by decide) ?_
  refine lv_iconst (v := (1 : Int32)) hx hb dX0_init_24 (by decide) ?_
  have hFc := va_free (wc := [(h0, .inr (0, [.ref w0, .ref w1, .int 0, .int 0, .int 0])), (w0, .inl (cJ2, 512, .inr (.inl (fun _ => (0 : Int64))))), (w1, .inl (cJ2, 9, .inr (.inl (fun _ => (0 : Int64)))))]) hD hS hA [0, 1, 2] rfl
  refine kc_v (wr := ([] : va_W)) (kr_V (As := [.int (1 : Int32), .int (1 : Int32), .int (1 : Int32)]) (rest := []) (b := h0) (ws := [(h0, .inr (0, [.ref w0, .ref w1, .int 0, .int 0, .int 0])), (w0, .inl (cJ2, 512, .inr (.inl (fun _ => (0 : Int64))))), (w1, .inl (cJ2, 9, .inr (.inl (fun _ => (0 : Int64)))))]) ⟨hx, hb, hml, hown, hts⟩ (c_X0_become l dC dI h0 w0 w1 cJ2 ((0 : Int32), (0 : Int32), (0 : Int32), (fun _ => (0 : Int64)), (fun _ => (0 : Int64))) (1 : Int32) (1 : Int32) (1 : Int32) _ hw H.size) (cwV 3 hts gX0_init_X0_become rfl rfl rfl (by decide +kernel) ⟨Nat.le_of_ble_eq_true rfl, Nat.le_of_ble_eq_true rfl⟩) 0 0 hK rfl rfl rfl hK hnw hP hD hP hD rfl hl.1 rfl (Nat.le_of_ble_eq_true rfl) dX0_init_25 ⟨(by omega : (2 : Nat) ≤ 2), (by omega : (521 : Nat) ≤ 521)⟩) hP hD hS hFc [0, 1, 2] [] rfl rfl (by decide) (by decide) (fun u1 H locs hq hP hD hS => ?_)
  obtain ⟨σ', hw, rfl⟩ := hq
  exact W.vret hx hb hr (fun t ht hW => ⟨⟨((cl0 h0 w0 w1 cJ2 σ'), cJ2), rfl, ⟨w0, w1, σ', hw, rfl⟩, by rw [ht]; exact hP, va_K.moved hW.alike hK, hD⟩, hS.F ht⟩) hS.2.2 dX0_init_28
set_option maxHeartbeats 4000000 in
set_option maxRecDepth 100000 in
theorem c_X2_init (l : Launch) (dC : Nat → ClassId) (dI : Nat → Nat → Nat) (h0 : Nat) (σ : SS) : KV l yX2_init wsX2_init ({ frames := 1, cells := 0, slots := 0, locals := 12 } : Room) (dC, dI) [] (cl2 h0 σ) [.ref h0] (fun u => u = cl2 h0 σ) := by
  intro sz
  refine Met.ofW (cc := cX2_init) (maxL := 1) (ret := none) (by decide) rfl ?_
  intro p e s m args below meth c s₁ B hml hv
  obtain ⟨rfl, hsz, hP, hK, hD0, hnw⟩ := hv
  have hx := B.exec
  have hb := B.bytes
  have hr := B.returns
  have hts := atoms_spec (ws := wsX2_init) B.pre
  have hown : s.vm.findClass RX2 = some m.cls := findClass_of_methodNamed B.named
  have hlocks := B.notSynchronized
  have hin : meth.name = "<init>" := (name_of_methodNamed B.named B.method).1
  subst hsz
  have hD := hD0.self (sz := s.heap.size)
  generalize hAe : va_A (cl2 h0 σ) s.heap.size = A at hD ⊢
  have hA : ∀ q : Nat, s.heap.size ≤ q → A q := fun q h => by rw [← hAe]; exact Or.inr h
  have hS : va_S A s.heap s.heap [] := va_S.rf
  have hl := lv_entry ([.ref h0]) (n := 1) (Nat.le_of_ble_eq_true rfl)
  rw [lg_entry_eq]
  generalize (lg_sl ([.ref h0]) ++ List.replicate (1 - (lg_sl ([.ref h0])).length) Slot.unset).toArray = ls at hl ⊢
  have hl : lv_has ls 1 [(0, .ref h0)] := hl
  obtain ⟨H, hH⟩ : ∃ H, H = s.heap := ⟨_, rfl⟩
  obtain ⟨locs, hlo⟩ : ∃ q : List Loc, q = [] := ⟨_, rfl⟩
  rw [← hH] at hP
  have hS : va_S A s.heap H locs := by rw [hH, hlo]; exact hS
  suffices hgo : W p l e (headSpec wsX2_init ({ frames := 1, cells := 0, slots := 0, locals := 12 } : Room)).room s m _ below meth c H locs 0 0 _ (F0 m 0 ls []) by rw [hH, hlo] at hgo; exact hgo
  refine lv_aload_n hx hb dX2_init_0 rfl (lv_at hl 0 rfl) ?_
  refine W.objInit hx hb hown (hts (.methodLink RX2 3 objectInit) (by decide +kernel)) (hts (.instanceMethod objectInit) (by decide +kernel)) (hts _ (List.mem_of_getElem? (i := 3) rfl)) rfl (by rw [hml]; exact hl.1) rfl dX2_init_1 (Nat.le_of_ble_eq_true rfl) (Nat.le_of_ble_eq_true rfl) ?_
  refine W.eq (g2 := F0 m 4 ls []) rfl ?_
  exact W.vret hx hb hr (fun t ht hW => ⟨⟨(cl2 h0 σ), rfl, rfl, by rw [ht]; exact hP, va_K.moved hW.alike hK, hD⟩, hS.F ht⟩) hS.2.2 dX2_init_4
set_option maxHeartbeats 4000000 in
set_option maxRecDepth 100000 in
theorem c_X3_init (l : Launch) (dC : Nat → ClassId) (dI : Nat → Nat → Nat) (h0 : Nat) (post : SO → Prop) (hw : wp_X0_become (1 : Int32) (1 : Int32) (1 : Int32) ((0 : Int32), (0 : Int32), (0 : Int32), (fun _ => (0 : Int64)), (fun _ => (0 : Int64))) (fun σ => post (σ, ((0 : Int32), (0 : Int32), (0 : Int32), (0 : Int32), (0 : Int32), (0 : Int32), (0 : Int32), (0 : Int32))))) : ∀ sz : Nat, Met l yX3_init wsX3_init ({ frames := 6, cells := 4, slots := 534, locals := 137 } : Room) (va_Pc [.ref h0] (kPre (dC, dI) [] [(h0, .inr (2, [.null, .null]))] sz)) (va_Qv (fun u : va_W × ClassId => ∃ (hc w0 w1 hs : Nat) (σ : SO), post σ ∧ u.1 = cl3 h0 hc w0 w1 hs u.2 σ) (fun u t => va_P (dC, dI) vwCl u.1 t.heap ∧ va_K (dC, dI) vwCl [(u.2, .long)] t ∧ va_D (va_A [(h0, .inr (2, [.null, .null]))] sz) u.1) (va_A [(h0, .inr (2, [.null, .null]))] sz)) 4 534 (va_A [(h0, .inr (2, [.null, .null]))] sz) := by
  intro sz
  refine Met.ofW (cc := cX3_init) (maxL := 1) (ret := none) (by decide) rfl ?_
  intro p e s m args below meth c s₁ B hml hv
  obtain ⟨rfl, hsz, hP, hK, hD0, hnw⟩ := hv
  have hx := B.exec
  have hb := B.bytes
  have hr := B.returns
  have hts := atoms_spec (ws := wsX3_init) B.pre
  have hown : s.vm.findClass RX3 = some m.cls := findClass_of_methodNamed B.named
  have hlocks := B.notSynchronized
  have hin : meth.name = "<init>" := (name_of_methodNamed B.named B.method).1
  subst hsz
  have hD := hD0.self (sz := s.heap.size)
  generalize hAe : va_A [(h0, .inr (2, [.null, .null]))] s.heap.size = A at hD ⊢
  have hA : ∀ q : Nat, s.heap.size ≤ q → A q := fun q h => by rw [← hAe]; exact Or.inr h
  have hS : va_S A s.heap s.heap [] := va_S.rf
  have hl := lv_entry ([.ref h0]) (n := 1) (Nat.le_of_ble_eq_true rfl)
  rw [lg_entry_eq]
  generalize (lg_sl ([.ref h0]) ++ List.replicate (1 - (lg_sl ([.ref h0])).length) Slot.unset).toArray = ls at hl ⊢
  have hl : lv_has ls 1 [(0, .ref h0)] := hl
  obtain ⟨H, hH⟩ : ∃ H, H = s.heap := ⟨_, rfl⟩
  obtain ⟨locs, hlo⟩ : ∃ q : List Loc, q = [] := ⟨_, rfl⟩
  rw [← hH] at hP
  have hS : va_S A s.heap H locs := by rw [hH, hlo]; exact hS
  suffices hgo : W p l e (headSpec wsX3_init ({ frames := 6, cells := 4, slots := 534, locals := 137 } : Room)).room s m _ below meth c H locs 0 0 _ (F0 m 0 ls []) by rw [hH, hlo] at hgo; exact hgo
  have fl_10 := hts (.fieldLink RX3 10 "OnePlaceEach" "chain" "LOnePlaceEach$Chain;") (by decide +kernel)
  have fl_19 := hts (.fieldLink RX3 19 "OnePlaceEach" "stepped" "LOnePlaceEach$Stepped;") (by decide +kernel)
  have hin0 : ∀ w ∈ wsX30, w ∈ wsX3_init := by decide +kernel
  refine lv_aload_n hx hb dX3_init_0 rfl (lv_at hl 0 rfl) ?_
  refine W.objInit hx hb hown (hts (.methodLink RX3 1 objectInit) (by decide +kernel)) (hts (.instanceMethod objectInit) (by decide +kernel)) (hts _ (List.mem_of_getElem? (i := 3) rfl)) rfl (by rw [hml]; exact hl.1) rfl dX3_init_1 (Nat.le_of_ble_eq_true rfl) (Nat.le_of_ble_eq_true rfl) ?_
  refine W.eq (g2 := F0 m 4 ls []) rfl ?_
  refine lv_aload_n hx hb dX3_init_4 rfl (lv_at hl 0 rfl) ?_
  refine va_new (ci := 0) (fs := [.null, .null, .int 0, .int 0, .int 0]) (C := RX0) (T := TX0) (N := 5) hx hb hts (by decide +kernel) tyX0 tyX0_ok hown (hts (.classLink RX3 7 RX0) (by decide +kernel)) (hts (.instantiable RX0 5) (by decide +kernel)) (hts (.initialized RX0) (by decide +kernel)) hK hP hD hS hA rfl (fun j hj => by rcases (show j = 0 ∨ j = 1 ∨ j = 2 ∨ j = 3 ∨ j = 4 by omega) with rfl | rfl | rfl | rfl | rfl <;> rfl) (by omega : (1 : Nat) ≤ 4) (by omega : (5 : Nat) ≤ 534) dX3_init_5 (fun hc H hP hD hS => ?_)
  refine W.widen (k := 1) (n := 5) (by omega) (by omega) ?_
  have hP : va_P (dC, dI) vwCl [(h0, .inr (2, [.null, .null])), (hc, .inr (0, [.null, .null, .int 0, .int 0, .int 0]))] H := hP
  have hD : va_D A [(h0, .inr (2, [.null, .null])), (hc, .inr (0, [.null, .null, .int 0, .int 0, .int 0]))] := hD
  refine lv_dup hx hb dX3_init_8 rfl ?_
  have hPc := hP.sub (ws' := [(hc, .inr (0, [.null, .null, .int 0, .int 0, .int 0]))]) [1] rfl
  have hDc := hD.sub (ws' := [(hc, .inr (0, [.null, .null, .int 0, .int 0, .int 0]))]) [1] (by decide) rfl
  have hFc := va_free (wc := [(hc, .inr (0, [.null, .null, .int 0, .int 0, .int 0]))]) hD hS hA [1] rfl
  refine va_callv (va_runI (As := []) (rest := [.ref hc, .ref h0]) ⟨hx, hb, hml, hown, hts⟩ (c_X0_init l dC dI hc _ hw H.size) (cwI 0 hts gX3_init_X0_init rfl rfl rfl (hts (.initialized RX0) (by decide +kernel)) (hts (.methodLink RX3 9 yX0_init) (by decide +kernel)) (hts (.instanceMethod yX0_init) (by decide +kernel)) rfl (by decide +kernel) ⟨Nat.le_of_ble_eq_true rfl, Nat.le_of_ble_eq_true rfl⟩) ⟨kPre_blind, fun U hU hW => kPre_at hP hD hK hnw hPc hDc hU hW⟩ rfl rfl hl.1 rfl (lv_room (Nat.le_of_ble_eq_true rfl)) dX3_init_9 ⟨(by omega : (3 : Nat) ≤ 4), (by omega : (526 : Nat) ≤ 534)⟩) hS (fun q _ h => hFc q h) hFc (fun u t H1 locs ht hvm hq hB hz1 hk1 hS => ?_)
  obtain ⟨u, cJ⟩ := u
  obtain ⟨w0, w1, σ', hw, hu⟩ := hq
  dsimp only at hu hB
  subst hu
  obtain ⟨hP1, hK1, hD1⟩ := hB
  rw [ht] at hP1
  have hK := va_K.moved hvm.symm hK1
  obtain ⟨hP, hD⟩ := va_join (wr := [(h0, .inr (2, [.null, .null]))]) (w1 := cl0 hc w0 w1 cJ σ') hP hD [1] [0] rfl rfl (by decide) (by decide) hk1 hFc hP1 hD1
  generalize H1 = H at hP hS ⊢
  refine W.widen (k := 3) (n := 526) (by omega) (by omega) ?_
  have hP : va_P (dC, dI) vwCl [(h0, .inr (2, [.null, .null])), (hc, .inr (0, [.ref w0, .ref w1, .int σ'.1, .int σ'.2.1, .int σ'.2.2.1])), (w0, .inl (cJ, 512, .inr (.inl (σ'.2.2.2.1)))), (w1, .inl (cJ, 9, .inr (.inl (σ'.2.2.2.2))))] H := hP
  have hD : va_D A [(h0, .inr (2, [.null, .null])), (hc, .inr (0, [.ref w0, .ref w1, .int σ'.1, .int σ'.2.1, .int σ'.2.2.1])), (w0, .inl (cJ, 512, .inr (.inl (σ'.2.2.2.1)))), (w1, .inl (cJ, 9, .inr (.inl (σ'.2.2.2.2))))] := hD
  refine va_putF (D := (dC, dI)) (ci := 2) (v := .ref hc) (ty := .object "OnePlaceEach$Chain") (C := RX3) (T := TX3) (N := 2) hx hb hts hin0 tyX3 tyX3_ok nmX3 hown hK hP hD hS 0 rfl rfl 0 (by decide) fl_10 (fun _ h9 => h9) rfl hin rfl (by decide +kernel) rfl rfl (Nat.le_of_ble_eq_true rfl) dX3_init_12 (fun H locs hP hD hS => ?_)
  have hP : va_P (dC, dI) vwCl [(h0, .inr (2, [.ref hc, .null])), (hc, .inr (0, [.ref w0, .ref w1, .int σ'.1, .int σ'.2.1, .int σ'.2.2.1])), (w0, .inl (cJ, 512, .inr (.inl (σ'.2.2.2.1)))), (w1, .inl (cJ, 9, .inr (.inl (σ'.2.2.2.2))))] H := hP
  have hD : va_D A [(h0, .inr (2, [.ref hc, .null])), (hc, .inr (0, [.ref w0, .ref w1, .int σ'.1, .int σ'.2.1, .int σ'.2.2.1])), (w0, .inl (cJ, 512, .inr (.inl (σ'.2.2.2.1)))), (w1, .inl (cJ, 9, .inr (.inl (σ'.2.2.2.2))))] := hD
  refine lv_aload_n hx hb dX3_init_15 rfl (lv_at hl 0 rfl) ?_
  refine va_new (ci := 1) (fs := [.int 0, .int 0, .int 0, .int 0, .int 0, .int 0, .int 0, .int 0]) (C := RX2) (T := TX2) (N := 8) hx hb hts (by decide +kernel) tyX2 tyX2_ok hown (hts (.classLink RX3 16 RX2) (by decide +kernel)) (hts (.instantiable RX2 8) (by decide +kernel)) (hts (.initialized RX2) (by decide +kernel)) hK hP hD hS hA rfl (fun j hj => by rcases (show j = 0 ∨ j = 1 ∨ j = 2 ∨ j = 3 ∨ j = 4 ∨ j = 5 ∨ j = 6 ∨ j = 7 by omega) with rfl | rfl | rfl | rfl | rfl | rfl | rfl | rfl <;> rfl) (by omega : (4 : Nat) ≤ 4) (by omega : (534 : Nat) ≤ 534) dX3_init_16 (fun hs H hP hD hS => ?_)
  refine W.widen (k := 4) (n := 534) (by omega) (by omega) ?_
  have hP : va_P (dC, dI) vwCl [(h0, .inr (2, [.ref hc, .null])), (hc, .inr (0, [.ref w0, .ref w1, .int σ'.1, .int σ'.2.1, .int σ'.2.2.1])), (w0, .inl (cJ, 512, .inr (.inl (σ'.2.2.2.1)))), (w1, .inl (cJ, 9, .inr (.inl (σ'.2.2.2.2)))), (hs, .inr (1, [.int 0, .int 0, .int 0, .int 0, .int 0, .int 0, .int 0, .int 0]))] H := hP
  have hD : va_D A [(h0, .inr (2, [.ref hc, .null])), (hc, .inr (0, [.ref w0, .ref w1, .int σ'.1, .int σ'.2.1, .int σ'.2.2.1])), (w0, .inl (cJ, 512, .inr (.inl (σ'.2.2.2.1)))), (w1, .inl (cJ, 9, .inr (.inl (σ'.2.2.2.2)))), (hs, .inr (1, [.int 0, .int 0, .int 0, .int 0, .int 0, .int 0, .int 0, .int 0]))] := hD
  refine lv_dup hx hb dX3_init_19 rfl ?_
  have hPc := hP.sub (ws' := [(hs, .inr (1, [.int 0, .int 0, .int 0, .int 0, .int 0, .int 0, .int 0, .int 0]))]) [4] rfl
  have hDc := hD.sub (ws' := [(hs, .inr (1, [.int 0, .int 0, .int 0, .int 0, .int 0, .int 0, .int 0, .int 0]))]) [4] (by decide) rfl
  have hKc := hK.sub (tys' := []) [] rfl
  have hFc := va_free (wc := [(hs, .inr (1, [.int 0, .int 0, .int 0, .int 0, .int 0, .int 0, .int 0, .int 0]))]) hD hS hA [4] rfl
  refine kc_v (wr := [(h0, .inr (2, [.ref hc, .null])), (hc, .inr (0, [.ref w0, .ref w1, .int σ'.1, .int σ'.2.1, .int σ'.2.2.1])), (w0, .inl (cJ, 512, .inr (.inl (σ'.2.2.2.1)))), (w1, .inl (cJ, 9, .inr (.inl (σ'.2.2.2.2))))]) (va_runIN (As := []) (rest := [.ref hs, .ref h0]) ⟨hx, hb, hml, hown, hts⟩ (c_X2_init l dC dI hs ((0 : Int32), (0 : Int32), (0 : Int32), (0 : Int32), (0 : Int32), (0 : Int32), (0 : Int32), (0 : Int32)) H.size) ⟨va_cnB 0 hts gX3_init_X2_init_n18 rfl rfl rfl hnw.2.2.2.2 (hts (.initialized RX2) (by decide +kernel)) (by decide +kernel) ⟨Nat.le_of_ble_eq_true rfl, Nat.le_of_ble_eq_true rfl⟩, rfl, hts (.instanceMethod yX2_init) (by decide +kernel)⟩ ⟨kPre_blind, fun U hU hW => kPre_at hP hD hKc hnw hPc hDc hU hW⟩ rfl rfl hl.1 rfl (lv_room (Nat.le_of_ble_eq_true rfl)) dX3_init_20 ⟨(by omega : (4 : Nat) ≤ 4), (by omega : (534 : Nat) ≤ 534)⟩) hP hD hS hFc [4] [0, 1, 2, 3] rfl rfl (by decide) (by decide) (fun u1 H locs hq hP hD hS => ?_)
  obtain rfl := hq
  have hP : va_P (dC, dI) vwCl [(h0, .inr (2, [.ref hc, .null])), (hc, .inr (0, [.ref w0, .ref w1, .int σ'.1, .int σ'.2.1, .int σ'.2.2.1])), (w0, .inl (cJ, 512, .inr (.inl (σ'.2.2.2.1)))), (w1, .inl (cJ, 9, .inr (.inl (σ'.2.2.2.2)))), (hs, .inr (1, [.int 0, .int 0, .int 0, .int 0, .int 0, .int 0, .int 0, .int 0]))] H := hP
  have hD : va_D A [(h0, .inr (2, [.ref hc, .null])), (hc, .inr (0, [.ref w0, .ref w1, .int σ'.1, .int σ'.2.1, .int σ'.2.2.1])), (w0, .inl (cJ, 512, .inr (.inl (σ'.2.2.2.1)))), (w1, .inl (cJ, 9, .inr (.inl (σ'.2.2.2.2)))), (hs, .inr (1, [.int 0, .int 0, .int 0, .int 0, .int 0, .int 0, .int 0, .int 0]))] := hD
  refine va_putF (D := (dC, dI)) (ci := 2) (v := .ref hs) (ty := .object "OnePlaceEach$Stepped") (C := RX3) (T := TX3) (N := 2) hx hb hts hin0 tyX3 tyX3_ok nmX3 hown hK hP hD hS 0 rfl rfl 1 (by decide) fl_19 (fun _ h9 => h9) rfl hin rfl (by decide +kernel) rfl rfl (Nat.le_of_ble_eq_true rfl) dX3_init_23 (fun H locs hP hD hS => ?_)
  have hP : va_P (dC, dI) vwCl [(h0, .inr (2, [.ref hc, .ref hs])), (hc, .inr (0, [.ref w0, .ref w1, .int σ'.1, .int σ'.2.1, .int σ'.2.2.1])), (w0, .inl (cJ, 512, .inr (.inl (σ'.2.2.2.1)))), (w1, .inl (cJ, 9, .inr (.inl (σ'.2.2.2.2)))), (hs, .inr (1, [.int 0, .int 0, .int 0, .int 0, .int 0, .int 0, .int 0, .int 0]))] H := hP
  have hD : va_D A [(h0, .inr (2, [.ref hc, .ref hs])), (hc, .inr (0, [.ref w0, .ref w1, .int σ'.1, .int σ'.2.1, .int σ'.2.2.1])), (w0, .inl (cJ, 512, .inr (.inl (σ'.2.2.2.1)))), (w1, .inl (cJ, 9, .inr (.inl (σ'.2.2.2.2)))), (hs, .inr (1, [.int 0, .int 0, .int 0, .int 0, .int 0, .int 0, .int 0, .int 0]))] := hD
  exact W.vret hx hb hr (fun t ht hW => ⟨⟨((cl3 h0 hc w0 w1 hs cJ (σ', ((0 : Int32), (0 : Int32), (0 : Int32), (0 : Int32), (0 : Int32), (0 : Int32), (0 : Int32), (0 : Int32)))), cJ), rfl, ⟨hc, w0, w1, hs, (σ', ((0 : Int32), (0 : Int32), (0 : Int32), (0 : Int32), (0 : Int32), (0 : Int32), (0 : Int32), (0 : Int32))), hw, rfl⟩, by rw [ht]; exact hP, va_K.moved hW.alike hK, hD⟩, hS.F ht⟩) hS.2.2 dX3_init_26
set_option maxHeartbeats 4000000 in
set_option maxRecDepth 100000 in
theorem c_X4_init (l : Launch) (dC : Nat → ClassId) (dI : Nat → Nat → Nat) (h0 : Nat) (post : SM → Prop) (hw : wp_X4_fills ((1 : Int32), (1 : Int32), (1 : Int32), (fun _ => (0 : Int64)), (0 : Int32), (0 : Int32), (1 : Int64), (fun _ => (0 : Int32)), (fun _ => (0 : Int32)), (0 : Int32), (0 : Int32), (0 : Int32), (0 : Int32)) post) : ∀ sz : Nat, Met l yX4_init wsX4_init ({ frames := 2, cells := 3, slots := 571, locals := 48 } : Room) (va_Pc [.ref h0] (kPre (dC, dI) [] [(h0, .inr (3, [.int 0, .int 0, .int 0, .null, .int 0, .int 0, .long 0, .null, .null, .int 0, .int 0, .int 0, .int 0]))] sz)) (va_Qv (fun u : va_W × ClassId × ClassId => ∃ (w0 so be : Nat) (σ : SM), post σ ∧ u.1 = cl4 h0 w0 so be u.2.1 u.2.2 σ) (fun u t => va_P (dC, dI) vwCl u.1 t.heap ∧ va_K (dC, dI) vwCl [(u.2.1, .long), (u.2.2, .int)] t ∧ va_D (va_A [(h0, .inr (3, [.int 0, .int 0, .int 0, .null, .int 0, .int 0, .long 0, .null, .null, .int 0, .int 0, .int 0, .int 0]))] sz) u.1) (va_A [(h0, .inr (3, [.int 0, .int 0, .int 0, .null, .int 0, .int 0, .long 0, .null, .null, .int 0, .int 0, .int 0, .int 0]))] sz)) 3 571 (va_A [(h0, .inr (3, [.int 0, .int 0, .int 0, .null, .int 0, .int 0, .long 0, .null, .null, .int 0, .int 0, .int 0, .int 0]))] sz) := by
  intro sz
  refine Met.ofW (cc := cX4_init) (maxL := 1) (ret := none) (by decide) rfl ?_
  intro p e s m args below meth c s₁ B hml hv
  obtain ⟨rfl, hsz, hP, hK, hD0, hnw⟩ := hv
  have hx := B.exec
  have hb := B.bytes
  have hr := B.returns
  have hts := atoms_spec (ws := wsX4_init) B.pre
  have hown : s.vm.findClass RX4 = some m.cls := findClass_of_methodNamed B.named
  have hlocks := B.notSynchronized
  have hin : meth.name = "<init>" := (name_of_methodNamed B.named B.method).1
  subst hsz
  have hD := hD0.self (sz := s.heap.size)
  generalize hAe : va_A [(h0, .inr (3, [.int 0, .int 0, .int 0, .null, .int 0, .int 0, .long 0, .null, .null, .int 0, .int 0, .int 0, .int 0]))] s.heap.size = A at hD ⊢
  have hA : ∀ q : Nat, s.heap.size ≤ q → A q := fun q h => by rw [← hAe]; exact Or.inr h
  have hS : va_S A s.heap s.heap [] := va_S.rf
  have hl := lv_entry ([.ref h0]) (n := 1) (Nat.le_of_ble_eq_true rfl)
  rw [lg_entry_eq]
  generalize (lg_sl ([.ref h0]) ++ List.replicate (1 - (lg_sl ([.ref h0])).length) Slot.unset).toArray = ls at hl ⊢
  have hl : lv_has ls 1 [(0, .ref h0)] := hl
  obtain ⟨H, hH⟩ : ∃ H, H = s.heap := ⟨_, rfl⟩
  obtain ⟨locs, hlo⟩ : ∃ q : List Loc, q = [] := ⟨_, rfl⟩
  rw [← hH] at hP
  have hS : va_S A s.heap H locs := by rw [hH, hlo]; exact hS
  suffices hgo : W p l e (headSpec wsX4_init ({ frames := 2, cells := 3, slots := 571, locals := 48 } : Room)).room s m _ below meth c H locs 0 0 _ (F0 m 0 ls []) by rw [hH, hlo] at hgo; exact hgo
  have fl_7 := hts (.fieldLink RX4 7 "OnePlaceEachModel" "n" "I") (by decide +kernel)
  have fl_13 := hts (.fieldLink RX4 13 "OnePlaceEachModel" "x" "I") (by decide +kernel)
  have fl_16 := hts (.fieldLink RX4 16 "OnePlaceEachModel" "y" "I") (by decide +kernel)
  have fl_19 := hts (.fieldLink RX4 19 "OnePlaceEachModel" "weights" "[J") (by decide +kernel)
  have fl_23 := hts (.fieldLink RX4 23 "OnePlaceEachModel" "seed" "J") (by decide +kernel)
  have fl_27 := hts (.fieldLink RX4 27 "OnePlaceEachModel" "sorts" "[I") (by decide +kernel)
  have fl_31 := hts (.fieldLink RX4 31 "OnePlaceEachModel" "before" "[I") (by decide +kernel)
  have hin0 : ∀ w ∈ wsX40, w ∈ wsX4_init := by decide +kernel
  refine lv_aload_n hx hb dX4_init_0 rfl (lv_at hl 0 rfl) ?_
  refine W.objInit hx hb hown (hts (.methodLink RX4 1 objectInit) (by decide +kernel)) (hts (.instanceMethod objectInit) (by decide +kernel)) (hts _ (List.mem_of_getElem? (i := 3) rfl)) rfl (by rw [hml]; exact hl.1) rfl dX4_init_1 (Nat.le_of_ble_eq_true rfl) (Nat.le_of_ble_eq_true rfl) ?_
  refine W.eq (g2 := F0 m 4 ls []) rfl ?_
  refine lv_aload_n hx hb dX4_init_4 rfl (lv_at hl 0 rfl) ?_
  refine lv_iconst (v := (1 : Int32)) hx hb dX4_init_5 (by decide) ?_
  refine va_put (D := (dC, dI)) (ci := 3) (v := .int (1 : Int32)) (ty := .int) (C := RX4) (T := TX4) (N := 13) hx hb hts hin0 tyX4 tyX4_ok nmX4 hown hK hP hD hS 0 rfl rfl 0 (by decide) fl_7 (fun _ h9 => h9) rfl (by decide +kernel) rfl rfl (Nat.le_of_ble_eq_true rfl) dX4_init_6 (fun H locs hP hD hS => ?_)
  have hP : va_P (dC, dI) vwCl [(h0, .inr (3, [.int (1 : Int32), .int 0, .int 0, .null, .int 0, .int 0, .long 0, .null, .null, .int 0, .int 0, .int 0, .int 0]))] H := hP
  have hD : va_D A [(h0, .inr (3, [.int (1 : Int32), .int 0, .int 0, .null, .int 0, .int 0, .long 0, .null, .null, .int 0, .int 0, .int 0, .int 0]))] := hD
  refine lv_aload_n hx hb dX4_init_9 rfl (lv_at hl 0 rfl) ?_
  refine lv_iconst (v := (1 : Int32)) hx hb dX4_init_10 (by decide) ?_
  refine va_put (D := (dC, dI)) (ci := 3) (v := .int (1 : Int32)) (ty := .int) (C := RX4) (T := TX4) (N := 13) hx hb hts hin0 tyX4 tyX4_ok nmX4 hown hK hP hD hS 0 rfl rfl 1 (by decide) fl_13 (fun _ h9 => h9) rfl (by decide +kernel) rfl rfl (Nat.le_of_ble_eq_true rfl) dX4_init_11 (fun H locs hP hD hS => ?_)
  have hP : va_P (dC, dI) vwCl [(h0, .inr (3, [.int (1 : Int32), .int (1 : Int32), .int 0, .null, .int 0, .int 0, .long 0, .null, .null, .int 0, .int 0, .int 0, .int 0]))] H := hP
  have hD : va_D A [(h0, .inr (3, [.int (1 : Int32), .int (1 : Int32), .int 0, .null, .int 0, .int 0, .long 0, .null, .null, .int 0, .int 0, .int 0, .int 0]))] := hD
  refine lv_aload_n hx hb dX4_init_14 rfl (lv_at hl 0 rfl) ?_
  refine lv_iconst (v := (1 : Int32)) hx hb dX4_init_15 (by decide) ?_
  refine va_put (D := (dC, dI)) (ci := 3) (v := .int (1 : Int32)) (ty := .int) (C := RX4) (T := TX4) (N := 13) hx hb hts hin0 tyX4 tyX4_ok nmX4 hown hK hP hD hS 0 rfl rfl 2 (by decide) fl_16 (fun _ h9 => h9) rfl (by decide +kernel) rfl rfl (Nat.le_of_ble_eq_true rfl) dX4_init_16 (fun H locs hP hD hS => ?_)
  have hP : va_P (dC, dI) vwCl [(h0, .inr (3, [.int (1 : Int32), .int (1 : Int32), .int (1 : Int32), .null, .int 0, .int 0, .long 0, .null, .null, .int 0, .int 0, .int 0, .int 0]))] H := hP
  have hD : va_D A [(h0, .inr (3, [.int (1 : Int32), .int (1 : Int32), .int (1 : Int32), .null, .int 0, .int 0, .long 0, .null, .null, .int 0, .int 0, .int 0, .int 0]))] := hD
  refine lv_aload_n hx hb dX4_init_19 rfl (lv_at hl 0 rfl) ?_
  refine lv_sipush (v := (511 : Int32)) hx hb dX4_init_20 (by decide) ?_
  refine va_newa (atype := .long) (ty := .long) (N' := 511) (a0 := (511, .inr (.inl (fun _ => (0 : Int64))))) hx hb (hts (.arrayClass .long) (by decide +kernel)) rfl hK hP hD hS hA (fun cA => zL_ 511 cA) (by decide) tn_511 by_511 (by omega : (1 : Nat) ≤ 3) (by omega : (511 : Nat) ≤ 571) dX4_init_23 (fun w0 cJ H hK hP hD hS => ?_)
  refine W.widen (k := 1) (n := 511) (by omega) (by omega) ?_
  have hP : va_P (dC, dI) vwCl [(h0, .inr (3, [.int (1 : Int32), .int (1 : Int32), .int (1 : Int32), .null, .int 0, .int 0, .long 0, .null, .null, .int 0, .int 0, .int 0, .int 0])), (w0, .inl (cJ, 511, .inr (.inl (fun _ => (0 : Int64)))))] H := hP
  have hD : va_D A [(h0, .inr (3, [.int (1 : Int32), .int (1 : Int32), .int (1 : Int32), .null, .int 0, .int 0, .long 0, .null, .null, .int 0, .int 0, .int 0, .int 0])), (w0, .inl (cJ, 511, .inr (.inl (fun _ => (0 : Int64)))))] := hD
  have hK : va_K (dC, dI) vwCl [(cJ, .long)] s := hK
  refine va_putF (D := (dC, dI)) (ci := 3) (v := .ref w0) (ty := .array .long) (C := RX4) (T := TX4) (N := 13) hx hb hts hin0 tyX4 tyX4_ok nmX4 hown hK hP hD hS 0 rfl rfl 3 (by decide) fl_19 (fun _ h9 => h9) rfl hin rfl (by decide +kernel) rfl rfl (Nat.le_of_ble_eq_true rfl) dX4_init_25 (fun H locs hP hD hS => ?_)
  have hP : va_P (dC, dI) vwCl [(h0, .inr (3, [.int (1 : Int32), .int (1 : Int32), .int (1 : Int32), .ref w0, .int 0, .int 0, .long 0, .null, .null, .int 0, .int 0, .int 0, .int 0])), (w0, .inl (cJ, 511, .inr (.inl (fun _ => (0 : Int64)))))] H := hP
  have hD : va_D A [(h0, .inr (3, [.int (1 : Int32), .int (1 : Int32), .int (1 : Int32), .ref w0, .int 0, .int 0, .long 0, .null, .null, .int 0, .int 0, .int 0, .int 0])), (w0, .inl (cJ, 511, .inr (.inl (fun _ => (0 : Int64)))))] := hD
  refine lv_aload_n hx hb dX4_init_28 rfl (lv_at hl 0 rfl) ?_
  refine lv_lconst (v := (1 : Int64)) hx hb dX4_init_29 (by decide) ?_
  refine va_put (D := (dC, dI)) (ci := 3) (v := .long (1 : Int64)) (ty := .long) (C := RX4) (T := TX4) (N := 13) hx hb hts hin0 tyX4 tyX4_ok nmX4 hown hK hP hD hS 0 rfl rfl 6 (by decide) fl_23 (fun _ h9 => h9) rfl (by decide +kernel) rfl rfl (Nat.le_of_ble_eq_true rfl) dX4_init_30 (fun H locs hP hD hS => ?_)
  have hP : va_P (dC, dI) vwCl [(h0, .inr (3, [.int (1 : Int32), .int (1 : Int32), .int (1 : Int32), .ref w0, .int 0, .int 0, .long (1 : Int64), .null, .null, .int 0, .int 0, .int 0, .int 0])), (w0, .inl (cJ, 511, .inr (.inl (fun _ => (0 : Int64)))))] H := hP
  have hD : va_D A [(h0, .inr (3, [.int (1 : Int32), .int (1 : Int32), .int (1 : Int32), .ref w0, .int 0, .int 0, .long (1 : Int64), .null, .null, .int 0, .int 0, .int 0, .int 0])), (w0, .inl (cJ, 511, .inr (.inl (fun _ => (0 : Int64)))))] := hD
  refine lv_aload_n hx hb dX4_init_33 rfl (lv_at hl 0 rfl) ?_
  refine lv_bipush (v := (30 : Int32)) hx hb dX4_init_34 (by decide) ?_
  refine va_newa (atype := .int) (ty := .int) (N' := 30) (a0 := (30, .inl (fun _ => (0 : Int32)))) hx hb (hts (.arrayClass .int) (by decide +kernel)) rfl hK hP hD hS hA (fun cA => zI_ 30 cA) (by decide) tn_30 by_30 (by omega : (2 : Nat) ≤ 3) (by omega : (541 : Nat) ≤ 571) dX4_init_36 (fun so cI H hK hP hD hS => ?_)
  refine W.widen (k := 2) (n := 541) (by omega) (by omega) ?_
  have hP : va_P (dC, dI) vwCl [(h0, .inr (3, [.int (1 : Int32), .int (1 : Int32), .int (1 : Int32), .ref w0, .int 0, .int 0, .long (1 : Int64), .null, .null, .int 0, .int 0, .int 0, .int 0])), (w0, .inl (cJ, 511, .inr (.inl (fun _ => (0 : Int64))))), (so, .inl (cI, 30, .inl (fun _ => (0 : Int32))))] H := hP
  have hD : va_D A [(h0, .inr (3, [.int (1 : Int32), .int (1 : Int32), .int (1 : Int32), .ref w0, .int 0, .int 0, .long (1 : Int64), .null, .null, .int 0, .int 0, .int 0, .int 0])), (w0, .inl (cJ, 511, .inr (.inl (fun _ => (0 : Int64))))), (so, .inl (cI, 30, .inl (fun _ => (0 : Int32))))] := hD
  have hK : va_K (dC, dI) vwCl [(cJ, .long), (cI, .int)] s := hK
  refine va_putF (D := (dC, dI)) (ci := 3) (v := .ref so) (ty := .array .int) (C := RX4) (T := TX4) (N := 13) hx hb hts hin0 tyX4 tyX4_ok nmX4 hown hK hP hD hS 0 rfl rfl 7 (by decide) fl_27 (fun _ h9 => h9) rfl hin rfl (by decide +kernel) rfl rfl (Nat.le_of_ble_eq_true rfl) dX4_init_38 (fun H locs hP hD hS => ?_)
  have hP : va_P (dC, dI) vwCl [(h0, .inr (3, [.int (1 : Int32), .int (1 : Int32), .int (1 : Int32), .ref w0, .int 0, .int 0, .long (1 : Int64), .ref so, .null, .int 0, .int 0, .int 0, .int 0])), (w0, .inl (cJ, 511, .inr (.inl (fun _ => (0 : Int64))))), (so, .inl (cI, 30, .inl (fun _ => (0 : Int32))))] H := hP
  have hD : va_D A [(h0, .inr (3, [.int (1 : Int32), .int (1 : Int32), .int (1 : Int32), .ref w0, .int 0, .int 0, .long (1 : Int64), .ref so, .null, .int 0, .int 0, .int 0, .int 0])), (w0, .inl (cJ, 511, .inr (.inl (fun _ => (0 : Int64))))), (so, .inl (cI, 30, .inl (fun _ => (0 : Int32))))] := hD
  refine lv_aload_n hx hb dX4_init_41 rfl (lv_at hl 0 rfl) ?_
  refine lv_bipush (v := (30 : Int32)) hx hb dX4_init_42 (by decide) ?_
  refine va_newa (atype := .int) (ty := .int) (N' := 30) (a0 := (30, .inl (fun _ => (0 : Int32)))) hx hb (hts (.arrayClass .int) (by decide +kernel)) rfl hK hP hD hS hA (fun cA => zI_ 30 cA) (by decide) tn_30 by_30 (by omega : (3 : Nat) ≤ 3) (by omega : (571 : Nat) ≤ 571) dX4_init_44 (fun be cI2 H hK hP hD hS => ?_)
  refine W.widen (k := 3) (n := 571) (by omega) (by omega) ?_
  have hP : va_P (dC, dI) vwCl [(h0, .inr (3, [.int (1 : Int32), .int (1 : Int32), .int (1 : Int32), .ref w0, .int 0, .int 0, .long (1 : Int64), .ref so, .null, .int 0, .int 0, .int 0, .int 0])), (w0, .inl (cJ, 511, .inr (.inl (fun _ => (0 : Int64))))), (so, .inl (cI, 30, .inl (fun _ => (0 : Int32)))), (be, .inl (cI2, 30, .inl (fun _ => (0 : Int32))))] H := hP
  have hD : va_D A [(h0, .inr (3, [.int (1 : Int32), .int (1 : Int32), .int (1 : Int32), .ref w0, .int 0, .int 0, .long (1 : Int64), .ref so, .null, .int 0, .int 0, .int 0, .int 0])), (w0, .inl (cJ, 511, .inr (.inl (fun _ => (0 : Int64))))), (so, .inl (cI, 30, .inl (fun _ => (0 : Int32)))), (be, .inl (cI2, 30, .inl (fun _ => (0 : Int32))))] := hD
  have hK : va_K (dC, dI) vwCl [(cJ, .long), (cI, .int), (cI2, .int)] s := hK
  have a1 : s.vm.findClass ("[" ++ FieldType.int.toString) = some cI := (hK.2 1 _ rfl).2
  have a2 : s.vm.findClass ("[" ++ FieldType.int.toString) = some cI2 := (hK.2 2 _ rfl).2
  obtain rfl : cI2 = cI := Option.some.inj (a2.symm.trans a1)
  have hK := hK.sub (tys' := [(cJ, .long), (cI2, .int)]) [0, 1] rfl
  refine va_putF (D := (dC, dI)) (ci := 3) (v := .ref be) (ty := .array .int) (C := RX4) (T := TX4) (N := 13) hx hb hts hin0 tyX4 tyX4_ok nmX4 hown hK hP hD hS 0 rfl rfl 8 (by decide) fl_31 (fun _ h9 => h9) rfl hin rfl (by decide +kernel) rfl rfl (Nat.le_of_ble_eq_true rfl) dX4_init_46 (fun H locs hP hD hS => ?_)
  have hP : va_P (dC, dI) vwCl [(h0, .inr (3, [.int (1 : Int32), .int (1 : Int32), .int (1 : Int32), .ref w0, .int 0, .int 0, .long (1 : Int64), .ref so, .ref be, .int 0, .int 0, .int 0, .int 0])), (w0, .inl (cJ, 511, .inr (.inl (fun _ => (0 : Int64))))), (so, .inl (cI2, 30, .inl (fun _ => (0 : Int32)))), (be, .inl (cI2, 30, .inl (fun _ => (0 : Int32))))] H := hP
  have hD : va_D A [(h0, .inr (3, [.int (1 : Int32), .int (1 : Int32), .int (1 : Int32), .ref w0, .int 0, .int 0, .long (1 : Int64), .ref so, .ref be, .int 0, .int 0, .int 0, .int 0])), (w0, .inl (cJ, 511, .inr (.inl (fun _ => (0 : Int64))))), (so, .inl (cI2, 30, .inl (fun _ => (0 : Int32)))), (be, .inl (cI2, 30, .inl (fun _ => (0 : Int32))))] := hD
  refine lv_aload_n hx hb dX4_init_49 rfl (lv_at hl 0 rfl) ?_
  have hFc := va_free (wc := [(h0, .inr (3, [.int (1 : Int32), .int (1 : Int32), .int (1 : Int32), .ref w0, .int 0, .int 0, .long (1 : Int64), .ref so, .ref be, .int 0, .int 0, .int 0, .int 0])), (w0, .inl (cJ, 511, .inr (.inl (fun _ => (0 : Int64))))), (so, .inl (cI2, 30, .inl (fun _ => (0 : Int32)))), (be, .inl (cI2, 30, .inl (fun _ => (0 : Int32))))]) hD hS hA [0, 1, 2, 3] rfl
  refine kc_v (wr := ([] : va_W)) (kr_V (As := []) (rest := []) (b := h0) (ws := [(h0, .inr (3, [.int (1 : Int32), .int (1 : Int32), .int (1 : Int32), .ref w0, .int 0, .int 0, .long (1 : Int64), .ref so, .ref be, .int 0, .int 0, .int 0, .int 0])), (w0, .inl (cJ, 511, .inr (.inl (fun _ => (0 : Int64))))), (so, .inl (cI2, 30, .inl (fun _ => (0 : Int32)))), (be, .inl (cI2, 30, .inl (fun _ => (0 : Int32))))]) ⟨hx, hb, hml, hown, hts⟩ (c_X4_fills l dC dI h0 w0 so be cJ cI2 ((1 : Int32), (1 : Int32), (1 : Int32), (fun _ => (0 : Int64)), (0 : Int32), (0 : Int32), (1 : Int64), (fun _ => (0 : Int32)), (fun _ => (0 : Int32)), (0 : Int32), (0 : Int32), (0 : Int32), (0 : Int32)) _ hw H.size) (cwV 0 hts gX4_init_X4_fills rfl rfl rfl (by decide +kernel) ⟨Nat.le_of_ble_eq_true rfl, Nat.le_of_ble_eq_true rfl⟩) 3 0 hK rfl rfl rfl hK hnw hP hD hP hD rfl hl.1 rfl (Nat.le_of_ble_eq_true rfl) dX4_init_50 ⟨(by omega : (3 : Nat) ≤ 3), (by omega : (571 : Nat) ≤ 571)⟩) hP hD hS hFc [0, 1, 2, 3] [] rfl rfl (by decide) (by decide) (fun u1 H locs hq hP hD hS => ?_)
  obtain ⟨σ', hw, rfl⟩ := hq
  exact W.vret hx hb hr (fun t ht hW => ⟨⟨((cl4 h0 w0 so be cJ cI2 σ'), cJ, cI2), rfl, ⟨w0, so, be, σ', hw, rfl⟩, by rw [ht]; exact hP, va_K.moved hW.alike hK, hD⟩, hS.F ht⟩) hS.2.2 dX4_init_53
