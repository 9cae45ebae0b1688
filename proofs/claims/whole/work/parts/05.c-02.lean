set_option maxHeartbeats 4000000 in
set_option maxRecDepth 100000 in
theorem c_X1_placesOfSort (l : Launch) (dC : Nat → ClassId) (dI : Nat → Nat → Nat)   (p0 : Int32) (p1 : Int32) (p2 : Int32) (post : Int32 → Prop) (hw : wp_X1_placesOfSort p0 p1 p2  post) : KI l yX1_placesOfSort wsX1_placesOfSort ({ frames := 0, cells := 0, slots := 0, locals := 0 } : Room) (dC, dI) [] [] [.int p0, .int p1, .int p2] (fun r u => post r ∧ u = []) := by
  intro sz
  refine Met.ofW (cc := cX1_placesOfSort) (maxL := 6) (ret := (some .int)) (by decide) rfl ?_
  intro p e s m args below meth c s₁ B hml hv
  obtain ⟨rfl, hsz, hP, hK, hD0, hnw⟩ := hv
  have hx := B.exec
  have hb := B.bytes
  have hr := B.returns
  have hts := atoms_spec (ws := wsX1_placesOfSort) B.pre
  have hown : s.vm.findClass RX1 = some m.cls := findClass_of_methodNamed B.named
  have hlocks := B.notSynchronized
  subst hsz
  have hD := hD0.self (sz := s.heap.size)
  generalize hAe : va_A [] s.heap.size = A at hD ⊢
  have hA : ∀ q : Nat, s.heap.size ≤ q → A q := fun q h => by rw [← hAe]; exact Or.inr h
  have hS : va_S A s.heap s.heap [] := va_S.rf
  have hP : va_P (dC, dI) vwCl [] s.heap := hP
  have hD : va_D A [] := hD
  have L8 : ∀ (x0 : Int32) (x1 : Int32) (x2 : Int32)  (n : Nat) (x3 : Int32) (x4 : Int32) (x5 : Int32)  (k : Int32 → Int32 → Int32 → Prop), wl_X1_placesOfSort_8 x0 x1 x2  n x3 x4 x5 k →
      (∀ (x3 : Int32) (x4 : Int32) (x5 : Int32) , k x3 x4 x5 → ∀ (H : Heap) (locs : List Loc) (ls : Array Slot), va_P (dC, dI) vwCl [] H → va_D A [] → va_S A s.heap H locs → lv_has ls 6 [(5, .int x5), (4, .int x4), (3, .int x3), (0, .int x0), (1, .int x1), (2, .int x2)] → W p l e (headSpec wsX1_placesOfSort ({ frames := 0, cells := 0, slots := 0, locals := 0 } : Room)).room s m ([.int p0, .int p1, .int p2] : List Value).toArray below meth c H locs 0 0 (MQ below (va_Qi (fun r u => post r ∧ u = []) (kB (dC, dI) [] A) A) ([.int p0, .int p1, .int p2] : List Value).toArray s 0 0 A) (F0 m 41 ls [])) →
      ∀ (H : Heap) (locs : List Loc) (ls : Array Slot), va_P (dC, dI) vwCl [] H → va_D A [] → va_S A s.heap H locs → lv_has ls 6 [(5, .int x5), (4, .int x4), (3, .int x3), (0, .int x0), (1, .int x1), (2, .int x2)] → W p l e (headSpec wsX1_placesOfSort ({ frames := 0, cells := 0, slots := 0, locals := 0 } : Room)).room s m ([.int p0, .int p1, .int p2] : List Value).toArray below meth c H locs 0 0 (MQ below (va_Qi (fun r u => post r ∧ u = []) (kB (dC, dI) [] A) A) ([.int p0, .int p1, .int p2] : List Value).toArray s 0 0 A) (F0 m 8 ls []) := by
    intro x0 x1 x2 n
    induction n with
    | zero => intro x3 x4 x5 k hw; exact absurd hw id
    | succ n ih =>
      intro x3 x4 x5 k hw hk H locs ls hP hD hS hl
      unfold wl_X1_placesOfSort_8 at hw
      refine lv_iload hx hb dX1_placesOfSort_8 (lv_at hl 0 rfl) ?_
      refine lv_iload_n hx hb dX1_placesOfSort_10 rfl (lv_at hl 3 rfl) ?_
      refine lv_icmp_ge (tgt := 41) hx hb dX1_placesOfSort_11 (by decide) (fun c1 => ?_) (fun c1 => ?_)
      · have hw := hw.1 c1
        exact hk x3 x4 x5 hw H locs ls hP hD hS (lv_sub hl [0, 1, 2, 3, 4, 5] rfl)
      · have hw := hw.2 c1
        refine lv_iload hx hb dX1_placesOfSort_14 (lv_at hl 1 rfl) ?_
        refine lv_iconst (v := (3 : Int32)) hx hb dX1_placesOfSort_16 (by decide) ?_
        refine lv_irem hx hb dX1_placesOfSort_17 (by decide) ?_
        refine lv_iload_n hx hb dX1_placesOfSort_18 rfl (lv_at hl 5 rfl) ?_
        refine lv_icmp_ne (tgt := 29) hx hb dX1_placesOfSort_19 (by decide) (fun c2 => ?_) (fun c2 => ?_)
        · have hw := hw.1 c2
          refine lv_iload hx hb dX1_placesOfSort_29 (lv_at hl 1 rfl) ?_
          refine lv_iconst (v := (3 : Int32)) hx hb dX1_placesOfSort_31 (by decide) ?_
          refine lv_idiv hx hb dX1_placesOfSort_32 (by decide) ?_
          refine lv_istore (lv' := [(4, .int (x4 / (3 : Int32))), (5, .int x5), (3, .int x3), (0, .int x0), (1, .int x1), (2, .int x2)]) hx hb dX1_placesOfSort_33 hl (by decide) rfl (fun ls hl => ?_)
          refine lv_iinc (v := (x5 + (1 : Int32))) (lv' := [(5, .int (x5 + (1 : Int32))), (4, .int (x4 / (3 : Int32))), (3, .int x3), (0, .int x0), (1, .int x1), (2, .int x2)]) hx hb dX1_placesOfSort_35 hl (k := 1) rfl rfl (by decide) rfl (fun ls hl => ?_)
          refine lv_goto (tgt := 8) hx hb dX1_placesOfSort_38 (by decide) ?_
          exact ih x3 (x4 / (3 : Int32)) (x5 + (1 : Int32)) _ hw hk H locs ls hP hD hS (lv_sub hl [0, 1, 2, 3, 4, 5] rfl)
        · have hw := hw.2 c2
          refine lv_iload_n hx hb dX1_placesOfSort_22 rfl (lv_at hl 2 rfl) ?_
          refine lv_iconst (v := (1 : Int32)) hx hb dX1_placesOfSort_23 (by decide) ?_
          refine lv_iload hx hb dX1_placesOfSort_24 (lv_at hl 0 rfl) ?_
          refine lv_ishl hx hb dX1_placesOfSort_26 ?_
          refine lv_ior hx hb dX1_placesOfSort_27 ?_
          refine lv_istore_n (lv' := [(3, .int (x3 ||| ((1 : Int32) <<< (x5 &&& (31 : Int32))))), (5, .int x5), (4, .int x4), (0, .int x0), (1, .int x1), (2, .int x2)]) hx hb dX1_placesOfSort_28 rfl hl (by decide) rfl (fun ls hl => ?_)
          refine lv_iload hx hb dX1_placesOfSort_29 (lv_at hl 2 rfl) ?_
          refine lv_iconst (v := (3 : Int32)) hx hb dX1_placesOfSort_31 (by decide) ?_
          refine lv_idiv hx hb dX1_placesOfSort_32 (by decide) ?_
          refine lv_istore (lv' := [(4, .int (x4 / (3 : Int32))), (3, .int (x3 ||| ((1 : Int32) <<< (x5 &&& (31 : Int32))))), (5, .int x5), (0, .int x0), (1, .int x1), (2, .int x2)]) hx hb dX1_placesOfSort_33 hl (by decide) rfl (fun ls hl => ?_)
          refine lv_iinc (v := (x5 + (1 : Int32))) (lv' := [(5, .int (x5 + (1 : Int32))), (4, .int (x4 / (3 : Int32))), (3, .int (x3 ||| ((1 : Int32) <<< (x5 &&& (31 : Int32))))), (0, .int x0), (1, .int x1), (2, .int x2)]) hx hb dX1_placesOfSort_35 hl (k := 2) rfl rfl (by decide) rfl (fun ls hl => ?_)
          refine lv_goto (tgt := 8) hx hb dX1_placesOfSort_38 (by decide) ?_
          exact ih (x3 ||| ((1 : Int32) <<< (x5 &&& (31 : Int32)))) (x4 / (3 : Int32)) (x5 + (1 : Int32)) _ hw hk H locs ls hP hD hS (lv_sub hl [0, 1, 2, 3, 4, 5] rfl)
  have hl := lv_entry ([.int p0, .int p1, .int p2]) (n := 6) (Nat.le_of_ble_eq_true rfl)
  rw [lg_entry_eq]
  generalize (lg_sl ([.int p0, .int p1, .int p2]) ++ List.replicate (6 - (lg_sl ([.int p0, .int p1, .int p2])).length) Slot.unset).toArray = ls at hl ⊢
  have hl : lv_has ls 6 [(0, .int p0), (1, .int p1), (2, .int p2)] := hl
  unfold wp_X1_placesOfSort at hw
  skip
  obtain ⟨H, hH⟩ : ∃ H, H = s.heap := ⟨_, rfl⟩
  obtain ⟨locs, hlo⟩ : ∃ q : List Loc, q = [] := ⟨_, rfl⟩
  rw [← hH] at hP
  have hS : va_S A s.heap H locs := by rw [hH, hlo]; exact hS
  suffices hgo : W p l e (headSpec wsX1_placesOfSort ({ frames := 0, cells := 0, slots := 0, locals := 0 } : Room)).room s m _ below meth c H locs 0 0 _ (F0 m 0 ls []) by rw [hH, hlo] at hgo; exact hgo
  refine lv_iconst (v := (0 : Int32)) hx hb dX1_placesOfSort_0 (by decide) ?_
  refine lv_istore_n (lv' := [(3, .int (0 : Int32)), (0, .int p0), (1, .int p1), (2, .int p2)]) hx hb dX1_placesOfSort_1 rfl hl (by decide) rfl (fun ls hl => ?_)
  refine lv_iload_n hx hb dX1_placesOfSort_2 rfl (lv_at hl 2 rfl) ?_
  refine lv_istore (lv' := [(4, .int p1), (3, .int (0 : Int32)), (0, .int p0), (1, .int p1), (2, .int p2)]) hx hb dX1_placesOfSort_3 hl (by decide) rfl (fun ls hl => ?_)
  refine lv_iconst (v := (0 : Int32)) hx hb dX1_placesOfSort_5 (by decide) ?_
  refine lv_istore (lv' := [(5, .int (0 : Int32)), (4, .int p1), (3, .int (0 : Int32)), (0, .int p0), (1, .int p1), (2, .int p2)]) hx hb dX1_placesOfSort_6 hl (by decide) rfl (fun ls hl => ?_)
  refine L8 p0 p1 p2 (20000) (0 : Int32) p1 (0 : Int32) _ hw (fun x3_3 x4_4 x5_5 hw H locs ls hP hD hS hl => ?_) H locs ls hP hD hS (lv_sub hl [0, 1, 2, 3, 4, 5] rfl)
  refine lv_iload_n hx hb dX1_placesOfSort_41 rfl (lv_at hl 2 rfl) ?_
  exact W.iret (v := x3_3) hx hb hr (fun t ht hW => ⟨⟨x3_3, ([] : va_W), rfl, ⟨hw, rfl⟩, by rw [ht]; exact hP, va_K.moved hW.alike hK, hD⟩, hS.F ht⟩) hS.2.2 dX1_placesOfSort_42
set_option maxHeartbeats 4000000 in
set_option maxRecDepth 100000 in
theorem c_X1_countUpperRows (l : Launch) (dC : Nat → ClassId) (dI : Nat → Nat → Nat)   (p0 : Int32) (p1 : Int32) (p2 : Int32) (post : Int32 → Prop) (hw : wp_X1_countUpperRows p0 p1 p2  post) : KI l yX1_countUpperRows wsX1_countUpperRows ({ frames := 3, cells := 0, slots := 0, locals := 69 } : Room) (dC, dI) [] [] [.int p0, .int p1, .int p2] (fun r u => post r ∧ u = []) := by
  intro sz
  refine Met.ofW (cc := cX1_countUpperRows) (maxL := 5) (ret := (some .int)) (by decide) rfl ?_
  intro p e s m args below meth c s₁ B hml hv
  obtain ⟨rfl, hsz, hP, hK, hD0, hnw⟩ := hv
  have hx := B.exec
  have hb := B.bytes
  have hr := B.returns
  have hts := atoms_spec (ws := wsX1_countUpperRows) B.pre
  have hown : s.vm.findClass RX1 = some m.cls := findClass_of_methodNamed B.named
  have hlocks := B.notSynchronized
  subst hsz
  have hD := hD0.self (sz := s.heap.size)
  generalize hAe : va_A [] s.heap.size = A at hD ⊢
  have hA : ∀ q : Nat, s.heap.size ≤ q → A q := fun q h => by rw [← hAe]; exact Or.inr h
  have hS : va_S A s.heap s.heap [] := va_S.rf
  have hP : va_P (dC, dI) vwCl [] s.heap := hP
  have hD : va_D A [] := hD
  have L5 : ∀ (x0 : Int32) (x1 : Int32) (x2 : Int32)  (n : Nat) (x3 : Int32) (x4 : Int32)  (k : Int32 → Int32 → Prop), wl_X1_countUpperRows_5 x0 x1 x2  n x3 x4 k →
      (∀ (x3 : Int32) (x4 : Int32) , k x3 x4 → ∀ (H : Heap) (locs : List Loc) (ls : Array Slot), va_P (dC, dI) vwCl [] H → va_D A [] → va_S A s.heap H locs → lv_has ls 5 [(4, .int x4), (3, .int x3), (0, .int x0), (1, .int x1), (2, .int x2)] → W p l e (headSpec wsX1_countUpperRows ({ frames := 3, cells := 0, slots := 0, locals := 69 } : Room)).room s m ([.int p0, .int p1, .int p2] : List Value).toArray below meth c H locs 0 0 (MQ below (va_Qi (fun r u => post r ∧ u = []) (kB (dC, dI) [] A) A) ([.int p0, .int p1, .int p2] : List Value).toArray s 0 0 A) (F0 m 45 ls [])) →
      ∀ (H : Heap) (locs : List Loc) (ls : Array Slot), va_P (dC, dI) vwCl [] H → va_D A [] → va_S A s.heap H locs → lv_has ls 5 [(4, .int x4), (3, .int x3), (0, .int x0), (1, .int x1), (2, .int x2)] → W p l e (headSpec wsX1_countUpperRows ({ frames := 3, cells := 0, slots := 0, locals := 69 } : Room)).room s m ([.int p0, .int p1, .int p2] : List Value).toArray below meth c H locs 0 0 (MQ below (va_Qi (fun r u => post r ∧ u = []) (kB (dC, dI) [] A) A) ([.int p0, .int p1, .int p2] : List Value).toArray s 0 0 A) (F0 m 5 ls []) := by
    intro x0 x1 x2 n
    induction n with
    | zero => intro x3 x4 k hw; exact absurd hw id
    | succ n ih =>
      intro x3 x4 k hw hk H locs ls hP hD hS hl
      unfold wl_X1_countUpperRows_5 at hw
      refine lv_iload hx hb dX1_countUpperRows_5 (lv_at hl 0 rfl) ?_
      refine lv_iconst (v := (1 : Int32)) hx hb dX1_countUpperRows_7 (by decide) ?_
      refine lv_iload_n hx hb dX1_countUpperRows_8 rfl (lv_at hl 2 rfl) ?_
      refine lv_ishl hx hb dX1_countUpperRows_9 ?_
      refine lv_icmp_ge (tgt := 45) hx hb dX1_countUpperRows_10 (by decide) (fun c1 => ?_) (fun c1 => ?_)
      · have hw := hw.1 c1
        exact hk x3 x4 hw H locs ls hP hD hS (lv_sub hl [0, 1, 2, 3, 4] rfl)
      · have hw := hw.2 c1
        refine lv_iload hx hb dX1_countUpperRows_13 (lv_at hl 0 rfl) ?_
        have hPc := hP.sub (ws' := ([] : va_W)) [] rfl
        have hDc := hD.sub (ws' := ([] : va_W)) [] (by decide) rfl
        have hKc := hK.sub (tys' := []) [] rfl
        have hFc := va_free (wc := ([] : va_W)) hD hS hA [] rfl
        refine kc_i (wr := ([] : va_W)) (kr_S (As := [.int x4]) (rest := []) (ws := []) ⟨hx, hb, hml, hown, hts⟩ (c_J6_bitCount_0f7a4 l dC dI   x4 _ hw H.size) (va_cwS 1 hts gX1_countUpperRows_J6_bitCount_0f7a4 rfl rfl rfl (by decide +kernel) ⟨Nat.le_of_ble_eq_true rfl, Nat.le_of_ble_eq_true rfl⟩) hKc hnw hP hD hPc hDc rfl hl.1 rfl (Nat.le_of_ble_eq_true rfl) dX1_countUpperRows_15 ⟨Nat.zero_le _, Nat.zero_le _⟩) hP hD hS hFc [] [] rfl rfl (by decide) (by decide) (fun r2 u1 H locs hq hP hD hS => ?_)
        obtain ⟨hw, rfl⟩ := hq
        have hP : va_P (dC, dI) vwCl [] H := hP
        have hD : va_D A [] := hD
        refine lv_iload_n hx hb dX1_countUpperRows_18 rfl (lv_at hl 3 rfl) ?_
        have hPc := hP.sub (ws' := ([] : va_W)) [] rfl
        have hDc := hD.sub (ws' := ([] : va_W)) [] (by decide) rfl
        have hKc := hK.sub (tys' := []) [] rfl
        have hFc := va_free (wc := ([] : va_W)) hD hS hA [] rfl
        refine kc_i (wr := ([] : va_W)) (kr_S (As := [.int x1]) (rest := [.int r2]) (ws := []) ⟨hx, hb, hml, hown, hts⟩ (c_J6_bitCount_0f7a4 l dC dI   x1 _ hw H.size) (va_cwS 1 hts gX1_countUpperRows_J6_bitCount_0f7a4 rfl rfl rfl (by decide +kernel) ⟨Nat.le_of_ble_eq_true rfl, Nat.le_of_ble_eq_true rfl⟩) hKc hnw hP hD hPc hDc rfl hl.1 rfl (Nat.le_of_ble_eq_true rfl) dX1_countUpperRows_19 ⟨Nat.zero_le _, Nat.zero_le _⟩) hP hD hS hFc [] [] rfl rfl (by decide) (by decide) (fun r4 u1 H locs hq hP hD hS => ?_)
        obtain ⟨hw, rfl⟩ := hq
        have hP : va_P (dC, dI) vwCl [] H := hP
        have hD : va_D A [] := hD
        refine lv_icmp_ne (tgt := 39) hx hb dX1_countUpperRows_22 (by decide) (fun c6 => ?_) (fun c6 => ?_)
        · have hw := hw.1 c6
          refine lv_iinc (v := (x4 + (1 : Int32))) (lv' := [(4, .int (x4 + (1 : Int32))), (3, .int x3), (0, .int x0), (1, .int x1), (2, .int x2)]) hx hb dX1_countUpperRows_39 hl (k := 0) rfl rfl (by decide) rfl (fun ls hl => ?_)
          refine lv_goto (tgt := 5) hx hb dX1_countUpperRows_42 (by decide) ?_
          exact ih x3 (x4 + (1 : Int32)) _ hw hk H locs ls hP hD hS (lv_sub hl [0, 1, 2, 3, 4] rfl)
        · have hw := hw.2 c6
          refine lv_iload_n hx hb dX1_countUpperRows_25 rfl (lv_at hl 2 rfl) ?_
          refine lv_iload hx hb dX1_countUpperRows_26 (lv_at hl 0 rfl) ?_
          refine lv_iload_n hx hb dX1_countUpperRows_28 rfl (lv_at hl 4 rfl) ?_
          have hPc := hP.sub (ws' := ([] : va_W)) [] rfl
          have hDc := hD.sub (ws' := ([] : va_W)) [] (by decide) rfl
          have hKc := hK.sub (tys' := []) [] rfl
          have hFc := va_free (wc := ([] : va_W)) hD hS hA [] rfl
          refine kc_i (wr := ([] : va_W)) (kr_S (As := [.int x0, .int x4, .int x2]) (rest := []) (ws := []) ⟨hx, hb, hml, hown, hts⟩ (c_X1_servedPlaces l dC dI   x0 x4 x2 _ hw H.size) (va_cwS 3 hts gX1_countUpperRows_X1_servedPlaces rfl rfl rfl (by decide +kernel) ⟨Nat.le_of_ble_eq_true rfl, Nat.le_of_ble_eq_true rfl⟩) hKc hnw hP hD hPc hDc rfl hl.1 rfl (Nat.le_of_ble_eq_true rfl) dX1_countUpperRows_29 ⟨Nat.zero_le _, Nat.zero_le _⟩) hP hD hS hFc [] [] rfl rfl (by decide) (by decide) (fun r7 u1 H locs hq hP hD hS => ?_)
          obtain ⟨hw, rfl⟩ := hq
          have hP : va_P (dC, dI) vwCl [] H := hP
          have hD : va_D A [] := hD
          refine lv_iload_n hx hb dX1_countUpperRows_32 rfl (lv_at hl 3 rfl) ?_
          refine lv_icmp_ne (tgt := 39) hx hb dX1_countUpperRows_33 (by decide) (fun c9 => ?_) (fun c9 => ?_)
          · have hw := hw.1 c9
            refine lv_iinc (v := (x4 + (1 : Int32))) (lv' := [(4, .int (x4 + (1 : Int32))), (3, .int x3), (0, .int x0), (1, .int x1), (2, .int x2)]) hx hb dX1_countUpperRows_39 hl (k := 0) rfl rfl (by decide) rfl (fun ls hl => ?_)
            refine lv_goto (tgt := 5) hx hb dX1_countUpperRows_42 (by decide) ?_
            exact ih x3 (x4 + (1 : Int32)) _ hw hk H locs ls hP hD hS (lv_sub hl [0, 1, 2, 3, 4] rfl)
          · have hw := hw.2 c9
            refine lv_iinc (v := (x3 + (1 : Int32))) (lv' := [(3, .int (x3 + (1 : Int32))), (4, .int x4), (0, .int x0), (1, .int x1), (2, .int x2)]) hx hb dX1_countUpperRows_36 hl (k := 1) rfl rfl (by decide) rfl (fun ls hl => ?_)
            refine lv_iinc (v := (x4 + (1 : Int32))) (lv' := [(4, .int (x4 + (1 : Int32))), (3, .int (x3 + (1 : Int32))), (0, .int x0), (1, .int x1), (2, .int x2)]) hx hb dX1_countUpperRows_39 hl (k := 1) rfl rfl (by decide) rfl (fun ls hl => ?_)
            refine lv_goto (tgt := 5) hx hb dX1_countUpperRows_42 (by decide) ?_
            exact ih (x3 + (1 : Int32)) (x4 + (1 : Int32)) _ hw hk H locs ls hP hD hS (lv_sub hl [0, 1, 2, 3, 4] rfl)
  have hl := lv_entry ([.int p0, .int p1, .int p2]) (n := 5) (Nat.le_of_ble_eq_true rfl)
  rw [lg_entry_eq]
  generalize (lg_sl ([.int p0, .int p1, .int p2]) ++ List.replicate (5 - (lg_sl ([.int p0, .int p1, .int p2])).length) Slot.unset).toArray = ls at hl ⊢
  have hl : lv_has ls 5 [(0, .int p0), (1, .int p1), (2, .int p2)] := hl
  unfold wp_X1_countUpperRows at hw
  skip
  obtain ⟨H, hH⟩ : ∃ H, H = s.heap := ⟨_, rfl⟩
  obtain ⟨locs, hlo⟩ : ∃ q : List Loc, q = [] := ⟨_, rfl⟩
  rw [← hH] at hP
  have hS : va_S A s.heap H locs := by rw [hH, hlo]; exact hS
  suffices hgo : W p l e (headSpec wsX1_countUpperRows ({ frames := 3, cells := 0, slots := 0, locals := 69 } : Room)).room s m _ below meth c H locs 0 0 _ (F0 m 0 ls []) by rw [hH, hlo] at hgo; exact hgo
  refine lv_iconst (v := (0 : Int32)) hx hb dX1_countUpperRows_0 (by decide) ?_
  refine lv_istore_n (lv' := [(3, .int (0 : Int32)), (0, .int p0), (1, .int p1), (2, .int p2)]) hx hb dX1_countUpperRows_1 rfl hl (by decide) rfl (fun ls hl => ?_)
  refine lv_iconst (v := (1 : Int32)) hx hb dX1_countUpperRows_2 (by decide) ?_
  refine lv_istore (lv' := [(4, .int (1 : Int32)), (3, .int (0 : Int32)), (0, .int p0), (1, .int p1), (2, .int p2)]) hx hb dX1_countUpperRows_3 hl (by decide) rfl (fun ls hl => ?_)
  refine L5 p0 p1 p2 (20000) (0 : Int32) (1 : Int32) _ hw (fun x3_10 x4_11 hw H locs ls hP hD hS hl => ?_) H locs ls hP hD hS (lv_sub hl [0, 1, 2, 3, 4] rfl)
  refine lv_iload_n hx hb dX1_countUpperRows_45 rfl (lv_at hl 1 rfl) ?_
  exact W.iret (v := x3_10) hx hb hr (fun t ht hW => ⟨⟨x3_10, ([] : va_W), rfl, ⟨hw, rfl⟩, by rw [ht]; exact hP, va_K.moved hW.alike hK, hD⟩, hS.F ht⟩) hS.2.2 dX1_countUpperRows_46
set_option maxHeartbeats 4000000 in
set_option maxRecDepth 100000 in
theorem c_X2_begin (l : Launch) (dC : Nat → ClassId) (dI : Nat → Nat → Nat) (h0 : Nat)  (σ : SS) (p0 : Int32) (p1 : Int32) (post : SS → Prop) (hw : wp_X2_begin p0 p1 σ post) : KV l yX2_begin wsX2_begin ({ frames := 0, cells := 0, slots := 0, locals := 0 } : Room) (dC, dI) [] (cl2 h0 σ) [.ref h0, .int p0, .int p1] (fun u => ∃ σ', post σ' ∧ u = (cl2 h0 (σ'))) := by
  intro sz
  refine Met.ofW (cc := cX2_begin) (maxL := 3) (ret := none) (by decide) rfl ?_
  intro p e s m args below meth c s₁ B hml hv
  obtain ⟨rfl, hsz, hP, hK, hD0, hnw⟩ := hv
  have hx := B.exec
  have hb := B.bytes
  have hr := B.returns
  have hts := atoms_spec (ws := wsX2_begin) B.pre
  have hown : s.vm.findClass RX2 = some m.cls := findClass_of_methodNamed B.named
  have hlocks := B.notSynchronized
  subst hsz
  have hD := hD0.self (sz := s.heap.size)
  generalize hAe : va_A (cl2 h0 σ) s.heap.size = A at hD ⊢
  have hA : ∀ q : Nat, s.heap.size ≤ q → A q := fun q h => by rw [← hAe]; exact Or.inr h
  have hS : va_S A s.heap s.heap [] := va_S.rf
  have hP : va_P (dC, dI) vwCl [(h0, .inr (1, [.int σ.1, .int σ.2.1, .int σ.2.2.1, .int σ.2.2.2.1, .int σ.2.2.2.2.1, .int σ.2.2.2.2.2.1, .int σ.2.2.2.2.2.2.1, .int σ.2.2.2.2.2.2.2]))] s.heap := hP
  have hD : va_D A [(h0, .inr (1, [.int σ.1, .int σ.2.1, .int σ.2.2.1, .int σ.2.2.2.1, .int σ.2.2.2.2.1, .int σ.2.2.2.2.2.1, .int σ.2.2.2.2.2.2.1, .int σ.2.2.2.2.2.2.2]))] := hD
  have fl_9 := hts (.fieldLink RX2 9 "OnePlaceEach$Stepped" "places" "I") (by decide +kernel)
  have fl_15 := hts (.fieldLink RX2 15 "OnePlaceEach$Stepped" "open" "Z") (by decide +kernel)
  have fl_19 := hts (.fieldLink RX2 19 "OnePlaceEach$Stepped" "firsts" "I") (by decide +kernel)
  have fl_22 := hts (.fieldLink RX2 22 "OnePlaceEach$Stepped" "seconds" "I") (by decide +kernel)
  have fl_25 := hts (.fieldLink RX2 25 "OnePlaceEach$Stepped" "lot" "I") (by decide +kernel)
  have fl_28 := hts (.fieldLink RX2 28 "OnePlaceEach$Stepped" "comeIn" "I") (by decide +kernel)
  have fl_31 := hts (.fieldLink RX2 31 "OnePlaceEach$Stepped" "goneOut" "I") (by decide +kernel)
  have fl_34 := hts (.fieldLink RX2 34 "OnePlaceEach$Stepped" "moved" "I") (by decide +kernel)
  have hin0 : ∀ w ∈ wsX20, w ∈ wsX2_begin := by decide +kernel
  have hl := lv_entry ([.ref h0, .int p0, .int p1]) (n := 3) (Nat.le_of_ble_eq_true rfl)
  rw [lg_entry_eq]
  generalize (lg_sl ([.ref h0, .int p0, .int p1]) ++ List.replicate (3 - (lg_sl ([.ref h0, .int p0, .int p1])).length) Slot.unset).toArray = ls at hl ⊢
  have hl : lv_has ls 3 [(0, .ref h0), (1, .int p0), (2, .int p1)] := hl
  unfold wp_X2_begin at hw
  skip
  obtain ⟨H, hH⟩ : ∃ H, H = s.heap := ⟨_, rfl⟩
  obtain ⟨locs, hlo⟩ : ∃ q : List Loc, q = [] := ⟨_, rfl⟩
  rw [← hH] at hP
  have hS : va_S A s.heap H locs := by rw [hH, hlo]; exact hS
  suffices hgo : W p l e (headSpec wsX2_begin ({ frames := 0, cells := 0, slots := 0, locals := 0 } : Room)).room s m _ below meth c H locs 0 0 _ (F0 m 0 ls []) by rw [hH, hlo] at hgo; exact hgo
  refine lv_aload_n hx hb dX2_begin_0 rfl (lv_at hl 0 rfl) ?_
  refine lv_iload_n hx hb dX2_begin_1 rfl (lv_at hl 1 rfl) ?_
  refine va_put (D := (dC, dI)) (ci := 1) (v := .int p0) (ty := .int) (C := RX2) (T := TX2) (N := 8) hx hb hts hin0 tyX2 tyX2_ok nmX2 hown hK hP hD hS 0 rfl rfl 0 (by decide) fl_9 (fun _ h9 => h9) rfl (by decide +kernel) rfl rfl (Nat.le_of_ble_eq_true rfl) dX2_begin_2 (fun H locs hP hD hS => ?_)
  have hP : va_P (dC, dI) vwCl [(h0, .inr (1, [.int p0, .int σ.2.1, .int σ.2.2.1, .int σ.2.2.2.1, .int σ.2.2.2.2.1, .int σ.2.2.2.2.2.1, .int σ.2.2.2.2.2.2.1, .int σ.2.2.2.2.2.2.2]))] H := hP
  have hD : va_D A [(h0, .inr (1, [.int p0, .int σ.2.1, .int σ.2.2.1, .int σ.2.2.2.1, .int σ.2.2.2.2.1, .int σ.2.2.2.2.2.1, .int σ.2.2.2.2.2.2.1, .int σ.2.2.2.2.2.2.2]))] := hD
  refine lv_aload_n hx hb dX2_begin_5 rfl (lv_at hl 0 rfl) ?_
  refine lv_iload_n hx hb dX2_begin_6 rfl (lv_at hl 2 rfl) ?_
  have z1 := hw.1
  have hw := hw.2
  refine va_put (D := (dC, dI)) (ci := 1) (v := .int p1) (ty := .boolean) (C := RX2) (T := TX2) (N := 8) hx hb hts hin0 tyX2 tyX2_ok nmX2 hown hK hP hD hS 0 rfl rfl 1 (by decide) fl_15 (fun _ h9 => h9) rfl (by decide +kernel) (nb_nar z1) (nb_fit z1) (Nat.le_of_ble_eq_true rfl) dX2_begin_7 (fun H locs hP hD hS => ?_)
  have hP : va_P (dC, dI) vwCl [(h0, .inr (1, [.int p0, .int p1, .int σ.2.2.1, .int σ.2.2.2.1, .int σ.2.2.2.2.1, .int σ.2.2.2.2.2.1, .int σ.2.2.2.2.2.2.1, .int σ.2.2.2.2.2.2.2]))] H := hP
  have hD : va_D A [(h0, .inr (1, [.int p0, .int p1, .int σ.2.2.1, .int σ.2.2.2.1, .int σ.2.2.2.2.1, .int σ.2.2.2.2.2.1, .int σ.2.2.2.2.2.2.1, .int σ.2.2.2.2.2.2.2]))] := hD
  refine lv_aload_n hx hb dX2_begin_10 rfl (lv_at hl 0 rfl) ?_
  refine lv_iconst (v := (0 : Int32)) hx hb dX2_begin_11 (by decide) ?_
  refine va_put (D := (dC, dI)) (ci := 1) (v := .int (0 : Int32)) (ty := .int) (C := RX2) (T := TX2) (N := 8) hx hb hts hin0 tyX2 tyX2_ok nmX2 hown hK hP hD hS 0 rfl rfl 2 (by decide) fl_19 (fun _ h9 => h9) rfl (by decide +kernel) rfl rfl (Nat.le_of_ble_eq_true rfl) dX2_begin_12 (fun H locs hP hD hS => ?_)
  have hP : va_P (dC, dI) vwCl [(h0, .inr (1, [.int p0, .int p1, .int (0 : Int32), .int σ.2.2.2.1, .int σ.2.2.2.2.1, .int σ.2.2.2.2.2.1, .int σ.2.2.2.2.2.2.1, .int σ.2.2.2.2.2.2.2]))] H := hP
  have hD : va_D A [(h0, .inr (1, [.int p0, .int p1, .int (0 : Int32), .int σ.2.2.2.1, .int σ.2.2.2.2.1, .int σ.2.2.2.2.2.1, .int σ.2.2.2.2.2.2.1, .int σ.2.2.2.2.2.2.2]))] := hD
  refine lv_aload_n hx hb dX2_begin_15 rfl (lv_at hl 0 rfl) ?_
  refine lv_iconst (v := (0 : Int32)) hx hb dX2_begin_16 (by decide) ?_
  refine va_put (D := (dC, dI)) (ci := 1) (v := .int (0 : Int32)) (ty := .int) (C := RX2) (T := TX2) (N := 8) hx hb hts hin0 tyX2 tyX2_ok nmX2 hown hK hP hD hS 0 rfl rfl 3 (by decide) fl_22 (fun _ h9 => h9) rfl (by decide +kernel) rfl rfl (Nat.le_of_ble_eq_true rfl) dX2_begin_17 (fun H locs hP hD hS => ?_)
  have hP : va_P (dC, dI) vwCl [(h0, .inr (1, [.int p0, .int p1, .int (0 : Int32), .int (0 : Int32), .int σ.2.2.2.2.1, .int σ.2.2.2.2.2.1, .int σ.2.2.2.2.2.2.1, .int σ.2.2.2.2.2.2.2]))] H := hP
  have hD : va_D A [(h0, .inr (1, [.int p0, .int p1, .int (0 : Int32), .int (0 : Int32), .int σ.2.2.2.2.1, .int σ.2.2.2.2.2.1, .int σ.2.2.2.2.2.2.1, .int σ.2.2.2.2.2.2.2]))] := hD
  refine lv_aload_n hx hb dX2_begin_20 rfl (lv_at hl 0 rfl) ?_
  refine lv_iconst (v := (1 : Int32)) hx hb dX2_begin_21 (by decide) ?_
  refine va_put (D := (dC, dI)) (ci := 1) (v := .int (1 : Int32)) (ty := .int) (C := RX2) (T := TX2) (N := 8) hx hb hts hin0 tyX2 tyX2_ok nmX2 hown hK hP hD hS 0 rfl rfl 4 (by decide) fl_25 (fun _ h9 => h9) rfl (by decide +kernel) rfl rfl (Nat.le_of_ble_eq_true rfl) dX2_begin_22 (fun H locs hP hD hS => ?_)
  have hP : va_P (dC, dI) vwCl [(h0, .inr (1, [.int p0, .int p1, .int (0 : Int32), .int (0 : Int32), .int (1 : Int32), .int σ.2.2.2.2.2.1, .int σ.2.2.2.2.2.2.1, .int σ.2.2.2.2.2.2.2]))] H := hP
  have hD : va_D A [(h0, .inr (1, [.int p0, .int p1, .int (0 : Int32), .int (0 : Int32), .int (1 : Int32), .int σ.2.2.2.2.2.1, .int σ.2.2.2.2.2.2.1, .int σ.2.2.2.2.2.2.2]))] := hD
  refine lv_aload_n hx hb dX2_begin_25 rfl (lv_at hl 0 rfl) ?_
  refine lv_iconst (v := (0 : Int32)) hx hb dX2_begin_26 (by decide) ?_
  refine va_put (D := (dC, dI)) (ci := 1) (v := .int (0 : Int32)) (ty := .int) (C := RX2) (T := TX2) (N := 8) hx hb hts hin0 tyX2 tyX2_ok nmX2 hown hK hP hD hS 0 rfl rfl 5 (by decide) fl_28 (fun _ h9 => h9) rfl (by decide +kernel) rfl rfl (Nat.le_of_ble_eq_true rfl) dX2_begin_27 (fun H locs hP hD hS => ?_)
  have hP : va_P (dC, dI) vwCl [(h0, .inr (1, [.int p0, .int p1, .int (0 : Int32), .int (0 : Int32), .int (1 : Int32), .int (0 : Int32), .int σ.2.2.2.2.2.2.1, .int σ.2.2.2.2.2.2.2]))] H := hP
  have hD : va_D A [(h0, .inr (1, [.int p0, .int p1, .int (0 : Int32), .int (0 : Int32), .int (1 : Int32), .int (0 : Int32), .int σ.2.2.2.2.2.2.1, .int σ.2.2.2.2.2.2.2]))] := hD
  refine lv_aload_n hx hb dX2_begin_30 rfl (lv_at hl 0 rfl) ?_
  refine lv_iconst (v := (0 : Int32)) hx hb dX2_begin_31 (by decide) ?_
  refine va_put (D := (dC, dI)) (ci := 1) (v := .int (0 : Int32)) (ty := .int) (C := RX2) (T := TX2) (N := 8) hx hb hts hin0 tyX2 tyX2_ok nmX2 hown hK hP hD hS 0 rfl rfl 6 (by decide) fl_31 (fun _ h9 => h9) rfl (by decide +kernel) rfl rfl (Nat.le_of_ble_eq_true rfl) dX2_begin_32 (fun H locs hP hD hS => ?_)
  have hP : va_P (dC, dI) vwCl [(h0, .inr (1, [.int p0, .int p1, .int (0 : Int32), .int (0 : Int32), .int (1 : Int32), .int (0 : Int32), .int (0 : Int32), .int σ.2.2.2.2.2.2.2]))] H := hP
  have hD : va_D A [(h0, .inr (1, [.int p0, .int p1, .int (0 : Int32), .int (0 : Int32), .int (1 : Int32), .int (0 : Int32), .int (0 : Int32), .int σ.2.2.2.2.2.2.2]))] := hD
  refine lv_aload_n hx hb dX2_begin_35 rfl (lv_at hl 0 rfl) ?_
  refine lv_iconst (v := (0 : Int32)) hx hb dX2_begin_36 (by decide) ?_
  refine va_put (D := (dC, dI)) (ci := 1) (v := .int (0 : Int32)) (ty := .int) (C := RX2) (T := TX2) (N := 8) hx hb hts hin0 tyX2 tyX2_ok nmX2 hown hK hP hD hS 0 rfl rfl 7 (by decide) fl_34 (fun _ h9 => h9) rfl (by decide +kernel) rfl rfl (Nat.le_of_ble_eq_true rfl) dX2_begin_37 (fun H locs hP hD hS => ?_)
  have hP : va_P (dC, dI) vwCl [(h0, .inr (1, [.int p0, .int p1, .int (0 : Int32), .int (0 : Int32), .int (1 : Int32), .int (0 : Int32), .int (0 : Int32), .int (0 : Int32)]))] H := hP
  have hD : va_D A [(h0, .inr (1, [.int p0, .int p1, .int (0 : Int32), .int (0 : Int32), .int (1 : Int32), .int (0 : Int32), .int (0 : Int32), .int (0 : Int32)]))] := hD
  exact W.vret hx hb hr (fun t ht hW => ⟨⟨((cl2 h0 (p0, p1, (0 : Int32), (0 : Int32), (1 : Int32), (0 : Int32), (0 : Int32), (0 : Int32)))), rfl, ⟨(p0, p1, (0 : Int32), (0 : Int32), (1 : Int32), (0 : Int32), (0 : Int32), (0 : Int32)), hw, rfl⟩, by rw [ht]; exact hP, va_K.moved hW.alike hK, hD⟩, hS.F ht⟩) hS.2.2 dX2_begin_40
set_option maxHeartbeats 4000000 in
set_option maxRecDepth 100000 in
theorem c_X2_isThere (l : Launch) (dC : Nat → ClassId) (dI : Nat → Nat → Nat) (h0 : Nat)  (σ : SS)  (post : Int32 → Prop) (hw : wp_X2_isThere  σ post) : KI l yX2_isThere wsX2_isThere ({ frames := 0, cells := 0, slots := 0, locals := 0 } : Room) (dC, dI) [] (cl2 h0 σ) [.ref h0] (fun r u => post r ∧ u = (cl2 h0 σ)) := by
  intro sz
  refine Met.ofW (cc := cX2_isThere) (maxL := 1) (ret := (some .boolean)) (by decide) rfl ?_
  intro p e s m args below meth c s₁ B hml hv
  obtain ⟨rfl, hsz, hP, hK, hD0, hnw⟩ := hv
  have hx := B.exec
  have hb := B.bytes
  have hr := B.returns
  have hts := atoms_spec (ws := wsX2_isThere) B.pre
  have hown : s.vm.findClass RX2 = some m.cls := findClass_of_methodNamed B.named
  have hlocks := B.notSynchronized
  subst hsz
  have hD := hD0.self (sz := s.heap.size)
  generalize hAe : va_A (cl2 h0 σ) s.heap.size = A at hD ⊢
  have hA : ∀ q : Nat, s.heap.size ≤ q → A q := fun q h => by rw [← hAe]; exact Or.inr h
  have hS : va_S A s.heap s.heap [] := va_S.rf
  have hP : va_P (dC, dI) vwCl [(h0, .inr (1, [.int σ.1, .int σ.2.1, .int σ.2.2.1, .int σ.2.2.2.1, .int σ.2.2.2.2.1, .int σ.2.2.2.2.2.1, .int σ.2.2.2.2.2.2.1, .int σ.2.2.2.2.2.2.2]))] s.heap := hP
  have hD : va_D A [(h0, .inr (1, [.int σ.1, .int σ.2.1, .int σ.2.2.1, .int σ.2.2.2.1, .int σ.2.2.2.2.1, .int σ.2.2.2.2.2.1, .int σ.2.2.2.2.2.2.1, .int σ.2.2.2.2.2.2.2]))] := hD
  have fl_9 := hts (.fieldLink RX2 9 "OnePlaceEach$Stepped" "places" "I") (by decide +kernel)
  have hin0 : ∀ w ∈ wsX20, w ∈ wsX2_isThere := by decide +kernel
  have hl := lv_entry ([.ref h0]) (n := 1) (Nat.le_of_ble_eq_true rfl)
  rw [lg_entry_eq]
  generalize (lg_sl ([.ref h0]) ++ List.replicate (1 - (lg_sl ([.ref h0])).length) Slot.unset).toArray = ls at hl ⊢
  have hl : lv_has ls 1 [(0, .ref h0)] := hl
  unfold wp_X2_isThere at hw
  skip
  obtain ⟨H, hH⟩ : ∃ H, H = s.heap := ⟨_, rfl⟩
  obtain ⟨locs, hlo⟩ : ∃ q : List Loc, q = [] := ⟨_, rfl⟩
  rw [← hH] at hP
  have hS : va_S A s.heap H locs := by rw [hH, hlo]; exact hS
  suffices hgo : W p l e (headSpec wsX2_isThere ({ frames := 0, cells := 0, slots := 0, locals := 0 } : Room)).room s m _ below meth c H locs 0 0 _ (F0 m 0 ls []) by rw [hH, hlo] at hgo; exact hgo
  refine lv_aload_n hx hb dX2_isThere_0 rfl (lv_at hl 0 rfl) ?_
  refine va_get (D := (dC, dI)) (ci := 1) (v := .int σ.1) (C := RX2) (T := TX2) (N := 8) hx hb hts hin0 hown hK hP 0 rfl rfl 0 (by decide) fl_9 (fun _ h9 => h9) rfl dX2_isThere_1 ?_
  refine lv_if_le (tgt := 11) hx hb dX2_isThere_4 (by decide) (fun c1 => ?_) (fun c1 => ?_)
  · have hw := hw.1 c1
    refine lv_iconst (v := (0 : Int32)) hx hb dX2_isThere_11 (by decide) ?_
    exact W.zret (v := (0 : Int32)) hx hb hr (nb_nar nb_0) (fun t ht hW => ⟨⟨(0 : Int32), ((cl2 h0 σ)), rfl, ⟨hw, rfl⟩, by rw [ht]; exact hP, va_K.moved hW.alike hK, hD⟩, hS.F ht⟩) hS.2.2 dX2_isThere_12
  · have hw := hw.2 c1
    refine lv_iconst (v := (1 : Int32)) hx hb dX2_isThere_7 (by decide) ?_
    refine lv_goto (tgt := 12) hx hb dX2_isThere_8 (by decide) ?_
    exact W.zret (v := (1 : Int32)) hx hb hr (nb_nar nb_1) (fun t ht hW => ⟨⟨(1 : Int32), ((cl2 h0 σ)), rfl, ⟨hw, rfl⟩, by rw [ht]; exact hP, va_K.moved hW.alike hK, hD⟩, hS.F ht⟩) hS.2.2 dX2_isThere_12
set_option maxHeartbeats 4000000 in
set_option maxRecDepth 100000 in
theorem c_X2_mayHavePlace (l : Launch) (dC : Nat → ClassId) (dI : Nat → Nat → Nat) (h0 : Nat)  (σ : SS) (p0 : Int32) (post : Int32 → Prop) (hw : wp_X2_mayHavePlace p0 σ post) : KI l yX2_mayHavePlace wsX2_mayHavePlace ({ frames := 1, cells := 0, slots := 0, locals := 20 } : Room) (dC, dI) [] (cl2 h0 σ) [.ref h0, .int p0] (fun r u => post r ∧ u = (cl2 h0 σ)) := by
  intro sz
  refine Met.ofW (cc := cX2_mayHavePlace) (maxL := 2) (ret := (some .boolean)) (by decide) rfl ?_
  intro p e s m args below meth c s₁ B hml hv
  obtain ⟨rfl, hsz, hP, hK, hD0, hnw⟩ := hv
  have hx := B.exec
  have hb := B.bytes
  have hr := B.returns
  have hts := atoms_spec (ws := wsX2_mayHavePlace) B.pre
  have hown : s.vm.findClass RX2 = some m.cls := findClass_of_methodNamed B.named
  have hlocks := B.notSynchronized
  subst hsz
  have hD := hD0.self (sz := s.heap.size)
  generalize hAe : va_A (cl2 h0 σ) s.heap.size = A at hD ⊢
  have hA : ∀ q : Nat, s.heap.size ≤ q → A q := fun q h => by rw [← hAe]; exact Or.inr h
  have hS : va_S A s.heap s.heap [] := va_S.rf
  have hP : va_P (dC, dI) vwCl [(h0, .inr (1, [.int σ.1, .int σ.2.1, .int σ.2.2.1, .int σ.2.2.2.1, .int σ.2.2.2.2.1, .int σ.2.2.2.2.2.1, .int σ.2.2.2.2.2.2.1, .int σ.2.2.2.2.2.2.2]))] s.heap := hP
  have hD : va_D A [(h0, .inr (1, [.int σ.1, .int σ.2.1, .int σ.2.2.1, .int σ.2.2.2.1, .int σ.2.2.2.2.1, .int σ.2.2.2.2.2.1, .int σ.2.2.2.2.2.2.1, .int σ.2.2.2.2.2.2.2]))] := hD
  have fl_9 := hts (.fieldLink RX2 9 "OnePlaceEach$Stepped" "places" "I") (by decide +kernel)
  have hin0 : ∀ w ∈ wsX20, w ∈ wsX2_mayHavePlace := by decide +kernel
  have hl := lv_entry ([.ref h0, .int p0]) (n := 2) (Nat.le_of_ble_eq_true rfl)
  rw [lg_entry_eq]
  generalize (lg_sl ([.ref h0, .int p0]) ++ List.replicate (2 - (lg_sl ([.ref h0, .int p0])).length) Slot.unset).toArray = ls at hl ⊢
  have hl : lv_has ls 2 [(0, .ref h0), (1, .int p0)] := hl
  unfold wp_X2_mayHavePlace at hw
  skip
  obtain ⟨H, hH⟩ : ∃ H, H = s.heap := ⟨_, rfl⟩
  obtain ⟨locs, hlo⟩ : ∃ q : List Loc, q = [] := ⟨_, rfl⟩
  rw [← hH] at hP
  have hS : va_S A s.heap H locs := by rw [hH, hlo]; exact hS
  suffices hgo : W p l e (headSpec wsX2_mayHavePlace ({ frames := 1, cells := 0, slots := 0, locals := 20 } : Room)).room s m _ below meth c H locs 0 0 _ (F0 m 0 ls []) by rw [hH, hlo] at hgo; exact hgo
  refine lv_iload_n hx hb dX2_mayHavePlace_0 rfl (lv_at hl 1 rfl) ?_
  refine lv_if_lt (tgt := 28) hx hb dX2_mayHavePlace_1 (by decide) (fun c1 => ?_) (fun c1 => ?_)
  · have hw := hw.1 c1
    refine lv_iconst (v := (0 : Int32)) hx hb dX2_mayHavePlace_28 (by decide) ?_
    exact W.zret (v := (0 : Int32)) hx hb hr (nb_nar nb_0) (fun t ht hW => ⟨⟨(0 : Int32), ((cl2 h0 σ)), rfl, ⟨hw, rfl⟩, by rw [ht]; exact hP, va_K.moved hW.alike hK, hD⟩, hS.F ht⟩) hS.2.2 dX2_mayHavePlace_29
  · have hw := hw.2 c1
    refine lv_iload_n hx hb dX2_mayHavePlace_4 rfl (lv_at hl 1 rfl) ?_
    refine lv_aload_n hx hb dX2_mayHavePlace_5 rfl (lv_at hl 0 rfl) ?_
    have hPc := hP
    have hDc := hD
    have hKc := hK
    have hFc := va_free (wc := [(h0, .inr (1, [.int σ.1, .int σ.2.1, .int σ.2.2.1, .int σ.2.2.2.1, .int σ.2.2.2.2.1, .int σ.2.2.2.2.2.1, .int σ.2.2.2.2.2.2.1, .int σ.2.2.2.2.2.2.2]))]) hD hS hA [0] rfl
    refine kc_i (wr := ([] : va_W)) (kr_V (As := []) (rest := [.int p0]) (b := h0) (ws := [(h0, .inr (1, [.int σ.1, .int σ.2.1, .int σ.2.2.1, .int σ.2.2.2.1, .int σ.2.2.2.2.1, .int σ.2.2.2.2.2.1, .int σ.2.2.2.2.2.2.1, .int σ.2.2.2.2.2.2.2]))]) ⟨hx, hb, hml, hown, hts⟩ (c_X2_isThere l dC dI h0 σ  _ hw H.size) (cwV 0 hts gX2_mayHavePlace_X2_isThere rfl rfl rfl (by decide +kernel) ⟨Nat.le_of_ble_eq_true rfl, Nat.le_of_ble_eq_true rfl⟩) 1 0 hK rfl rfl rfl hKc hnw hP hD hPc hDc rfl hl.1 rfl (Nat.le_of_ble_eq_true rfl) dX2_mayHavePlace_6 ⟨Nat.zero_le _, Nat.zero_le _⟩) hP hD hS hFc [0] [] rfl rfl (by decide) (by decide) (fun r2 u1 H locs hq hP hD hS => ?_)
    obtain ⟨hw, rfl⟩ := hq
    have hP : va_P (dC, dI) vwCl [(h0, .inr (1, [.int σ.1, .int σ.2.1, .int σ.2.2.1, .int σ.2.2.2.1, .int σ.2.2.2.2.1, .int σ.2.2.2.2.2.1, .int σ.2.2.2.2.2.2.1, .int σ.2.2.2.2.2.2.2]))] H := hP
    have hD : va_D A [(h0, .inr (1, [.int σ.1, .int σ.2.1, .int σ.2.2.1, .int σ.2.2.2.1, .int σ.2.2.2.2.1, .int σ.2.2.2.2.2.1, .int σ.2.2.2.2.2.2.1, .int σ.2.2.2.2.2.2.2]))] := hD
    refine lv_if_eq (tgt := 19) hx hb dX2_mayHavePlace_9 (by decide) (fun c4 => ?_) (fun c4 => ?_)
    · have hw := hw.1 c4
      refine lv_bipush (v := (30 : Int32)) hx hb dX2_mayHavePlace_19 (by decide) ?_
      refine lv_icmp_ge (tgt := 28) hx hb dX2_mayHavePlace_21 (by decide) (fun c5 => ?_) (fun c5 => ?_)
      · have hw := hw.1 c5
        refine lv_iconst (v := (0 : Int32)) hx hb dX2_mayHavePlace_28 (by decide) ?_
        exact W.zret (v := (0 : Int32)) hx hb hr (nb_nar nb_0) (fun t ht hW => ⟨⟨(0 : Int32), ((cl2 h0 σ)), rfl, ⟨hw, rfl⟩, by rw [ht]; exact hP, va_K.moved hW.alike hK, hD⟩, hS.F ht⟩) hS.2.2 dX2_mayHavePlace_29
      · have hw := hw.2 c5
        refine lv_iconst (v := (1 : Int32)) hx hb dX2_mayHavePlace_24 (by decide) ?_
        refine lv_goto (tgt := 29) hx hb dX2_mayHavePlace_25 (by decide) ?_
        exact W.zret (v := (1 : Int32)) hx hb hr (nb_nar nb_1) (fun t ht hW => ⟨⟨(1 : Int32), ((cl2 h0 σ)), rfl, ⟨hw, rfl⟩, by rw [ht]; exact hP, va_K.moved hW.alike hK, hD⟩, hS.F ht⟩) hS.2.2 dX2_mayHavePlace_29
    · have hw := hw.2 c4
      refine lv_aload_n hx hb dX2_mayHavePlace_12 rfl (lv_at hl 0 rfl) ?_
      refine va_get (D := (dC, dI)) (ci := 1) (v := .int σ.1) (C := RX2) (T := TX2) (N := 8) hx hb hts hin0 hown hK hP 0 rfl rfl 0 (by decide) fl_9 (fun _ h9 => h9) rfl dX2_mayHavePlace_13 ?_
      refine lv_goto (tgt := 21) hx hb dX2_mayHavePlace_16 (by decide) ?_
      refine lv_icmp_ge (tgt := 28) hx hb dX2_mayHavePlace_21 (by decide) (fun c6 => ?_) (fun c6 => ?_)
      · have hw := hw.1 c6
        refine lv_iconst (v := (0 : Int32)) hx hb dX2_mayHavePlace_28 (by decide) ?_
        exact W.zret (v := (0 : Int32)) hx hb hr (nb_nar nb_0) (fun t ht hW => ⟨⟨(0 : Int32), ((cl2 h0 σ)), rfl, ⟨hw, rfl⟩, by rw [ht]; exact hP, va_K.moved hW.alike hK, hD⟩, hS.F ht⟩) hS.2.2 dX2_mayHavePlace_29
      · have hw := hw.2 c6
        refine lv_iconst (v := (1 : Int32)) hx hb dX2_mayHavePlace_24 (by decide) ?_
        refine lv_goto (tgt := 29) hx hb dX2_mayHavePlace_25 (by decide) ?_
        exact W.zret (v := (1 : Int32)) hx hb hr (nb_nar nb_1) (fun t ht hW => ⟨⟨(1 : Int32), ((cl2 h0 σ)), rfl, ⟨hw, rfl⟩, by rw [ht]; exact hP, va_K.moved hW.alike hK, hD⟩, hS.F ht⟩) hS.2.2 dX2_mayHavePlace_29
set_option maxHeartbeats 4000000 in
set_option maxRecDepth 100000 in
theorem c_X2_sortAt (l : Launch) (dC : Nat → ClassId) (dI : Nat → Nat → Nat) (h0 : Nat)  (σ : SS) (p0 : Int32) (post : Int32 → Prop) (hw : wp_X2_sortAt p0 σ post) : KI l yX2_sortAt wsX2_sortAt ({ frames := 1, cells := 0, slots := 0, locals := 21 } : Room) (dC, dI) [] (cl2 h0 σ) [.ref h0, .int p0] (fun r u => post r ∧ u = (cl2 h0 σ)) := by
  intro sz
  refine Met.ofW (cc := cX2_sortAt) (maxL := 2) (ret := (some .int)) (by decide) rfl ?_
  intro p e s m args below meth c s₁ B hml hv
  obtain ⟨rfl, hsz, hP, hK, hD0, hnw⟩ := hv
  have hx := B.exec
  have hb := B.bytes
  have hr := B.returns
  have hts := atoms_spec (ws := wsX2_sortAt) B.pre
  have hown : s.vm.findClass RX2 = some m.cls := findClass_of_methodNamed B.named
  have hlocks := B.notSynchronized
  subst hsz
  have hD := hD0.self (sz := s.heap.size)
  generalize hAe : va_A (cl2 h0 σ) s.heap.size = A at hD ⊢
  have hA : ∀ q : Nat, s.heap.size ≤ q → A q := fun q h => by rw [← hAe]; exact Or.inr h
  have hS : va_S A s.heap s.heap [] := va_S.rf
  have hP : va_P (dC, dI) vwCl [(h0, .inr (1, [.int σ.1, .int σ.2.1, .int σ.2.2.1, .int σ.2.2.2.1, .int σ.2.2.2.2.1, .int σ.2.2.2.2.2.1, .int σ.2.2.2.2.2.2.1, .int σ.2.2.2.2.2.2.2]))] s.heap := hP
  have hD : va_D A [(h0, .inr (1, [.int σ.1, .int σ.2.1, .int σ.2.2.1, .int σ.2.2.2.1, .int σ.2.2.2.2.1, .int σ.2.2.2.2.2.1, .int σ.2.2.2.2.2.2.1, .int σ.2.2.2.2.2.2.2]))] := hD
  have fl_19 := hts (.fieldLink RX2 19 "OnePlaceEach$Stepped" "firsts" "I") (by decide +kernel)
  have fl_22 := hts (.fieldLink RX2 22 "OnePlaceEach$Stepped" "seconds" "I") (by decide +kernel)
  have hin0 : ∀ w ∈ wsX20, w ∈ wsX2_sortAt := by decide +kernel
  have hl := lv_entry ([.ref h0, .int p0]) (n := 2) (Nat.le_of_ble_eq_true rfl)
  rw [lg_entry_eq]
  generalize (lg_sl ([.ref h0, .int p0]) ++ List.replicate (2 - (lg_sl ([.ref h0, .int p0])).length) Slot.unset).toArray = ls at hl ⊢
  have hl : lv_has ls 2 [(0, .ref h0), (1, .int p0)] := hl
  unfold wp_X2_sortAt at hw
  skip
  obtain ⟨H, hH⟩ : ∃ H, H = s.heap := ⟨_, rfl⟩
  obtain ⟨locs, hlo⟩ : ∃ q : List Loc, q = [] := ⟨_, rfl⟩
  rw [← hH] at hP
  have hS : va_S A s.heap H locs := by rw [hH, hlo]; exact hS
  suffices hgo : W p l e (headSpec wsX2_sortAt ({ frames := 1, cells := 0, slots := 0, locals := 21 } : Room)).room s m _ below meth c H locs 0 0 _ (F0 m 0 ls []) by rw [hH, hlo] at hgo; exact hgo
  refine lv_aload_n hx hb dX2_sortAt_0 rfl (lv_at hl 0 rfl) ?_
  refine va_get (D := (dC, dI)) (ci := 1) (v := .int σ.2.2.1) (C := RX2) (T := TX2) (N := 8) hx hb hts hin0 hown hK hP 0 rfl rfl 2 (by decide) fl_19 (fun _ h9 => h9) rfl dX2_sortAt_1 ?_
  refine lv_iload_n hx hb dX2_sortAt_4 rfl (lv_at hl 1 rfl) ?_
  have hPc := hP.sub (ws' := ([] : va_W)) [] rfl
  have hDc := hD.sub (ws' := ([] : va_W)) [] (by decide) rfl
  have hKc := hK.sub (tys' := []) [] rfl
  have hFc := va_free (wc := ([] : va_W)) hD hS hA [] rfl
  refine kc_i (wr := [(h0, .inr (1, [.int σ.1, .int σ.2.1, .int σ.2.2.1, .int σ.2.2.2.1, .int σ.2.2.2.2.1, .int σ.2.2.2.2.2.1, .int σ.2.2.2.2.2.2.1, .int σ.2.2.2.2.2.2.2]))]) (kr_N (As := [.int σ.2.2.1, .int p0]) (rest := []) (ws := [(h0, .inr (1, [.int σ.1, .int σ.2.1, .int σ.2.2.1, .int σ.2.2.2.1, .int σ.2.2.2.2.1, .int σ.2.2.2.2.2.1, .int σ.2.2.2.2.2.2.1, .int σ.2.2.2.2.2.2.2]))]) ⟨hx, hb, hml, hown, hts⟩ (c_X3_isTaken l dC dI   σ.2.2.1 p0 _ hw H.size) ⟨va_cnB 2 hts gX2_sortAt_X3_isTaken_n41 rfl rfl rfl hnw.2.2.2.1 (hts (.initialized RX3) (by decide +kernel)) (by decide +kernel) ⟨Nat.le_of_ble_eq_true rfl, Nat.le_of_ble_eq_true rfl⟩, hts (.static yX3_isTaken) (by decide +kernel), trivial⟩ hKc hnw hP hD hPc hDc rfl hl.1 rfl (Nat.le_of_ble_eq_true rfl) dX2_sortAt_5 ⟨Nat.zero_le _, Nat.zero_le _⟩) hP hD hS hFc [] [0] rfl rfl (by decide) (by decide) (fun r1 u1 H locs hq hP hD hS => ?_)
  obtain ⟨hw, rfl⟩ := hq
  have hP : va_P (dC, dI) vwCl [(h0, .inr (1, [.int σ.1, .int σ.2.1, .int σ.2.2.1, .int σ.2.2.2.1, .int σ.2.2.2.2.1, .int σ.2.2.2.2.2.1, .int σ.2.2.2.2.2.2.1, .int σ.2.2.2.2.2.2.2]))] H := hP
  have hD : va_D A [(h0, .inr (1, [.int σ.1, .int σ.2.1, .int σ.2.2.1, .int σ.2.2.2.1, .int σ.2.2.2.2.1, .int σ.2.2.2.2.2.1, .int σ.2.2.2.2.2.2.1, .int σ.2.2.2.2.2.2.2]))] := hD
  refine lv_if_eq (tgt := 13) hx hb dX2_sortAt_8 (by decide) (fun c3 => ?_) (fun c3 => ?_)
  · have hw := hw.1 c3
    refine lv_aload_n hx hb dX2_sortAt_13 rfl (lv_at hl 0 rfl) ?_
    refine va_get (D := (dC, dI)) (ci := 1) (v := .int σ.2.2.2.1) (C := RX2) (T := TX2) (N := 8) hx hb hts hin0 hown hK hP 0 rfl rfl 3 (by decide) fl_22 (fun _ h9 => h9) rfl dX2_sortAt_14 ?_
    refine lv_iload_n hx hb dX2_sortAt_17 rfl (lv_at hl 1 rfl) ?_
    have hPc := hP.sub (ws' := ([] : va_W)) [] rfl
    have hDc := hD.sub (ws' := ([] : va_W)) [] (by decide) rfl
    have hKc := hK.sub (tys' := []) [] rfl
    have hFc := va_free (wc := ([] : va_W)) hD hS hA [] rfl
    refine kc_i (wr := [(h0, .inr (1, [.int σ.1, .int σ.2.1, .int σ.2.2.1, .int σ.2.2.2.1, .int σ.2.2.2.2.1, .int σ.2.2.2.2.2.1, .int σ.2.2.2.2.2.2.1, .int σ.2.2.2.2.2.2.2]))]) (kr_N (As := [.int σ.2.2.2.1, .int p0]) (rest := []) (ws := [(h0, .inr (1, [.int σ.1, .int σ.2.1, .int σ.2.2.1, .int σ.2.2.2.1, .int σ.2.2.2.2.1, .int σ.2.2.2.2.2.1, .int σ.2.2.2.2.2.2.1, .int σ.2.2.2.2.2.2.2]))]) ⟨hx, hb, hml, hown, hts⟩ (c_X3_isTaken l dC dI   σ.2.2.2.1 p0 _ hw H.size) ⟨va_cnB 2 hts gX2_sortAt_X3_isTaken_n41 rfl rfl rfl hnw.2.2.2.1 (hts (.initialized RX3) (by decide +kernel)) (by decide +kernel) ⟨Nat.le_of_ble_eq_true rfl, Nat.le_of_ble_eq_true rfl⟩, hts (.static yX3_isTaken) (by decide +kernel), trivial⟩ hKc hnw hP hD hPc hDc rfl hl.1 rfl (Nat.le_of_ble_eq_true rfl) dX2_sortAt_18 ⟨Nat.zero_le _, Nat.zero_le _⟩) hP hD hS hFc [] [0] rfl rfl (by decide) (by decide) (fun r4 u1 H locs hq hP hD hS => ?_)
    obtain ⟨hw, rfl⟩ := hq
    have hP : va_P (dC, dI) vwCl [(h0, .inr (1, [.int σ.1, .int σ.2.1, .int σ.2.2.1, .int σ.2.2.2.1, .int σ.2.2.2.2.1, .int σ.2.2.2.2.2.1, .int σ.2.2.2.2.2.2.1, .int σ.2.2.2.2.2.2.2]))] H := hP
    have hD : va_D A [(h0, .inr (1, [.int σ.1, .int σ.2.1, .int σ.2.2.1, .int σ.2.2.2.1, .int σ.2.2.2.2.1, .int σ.2.2.2.2.2.1, .int σ.2.2.2.2.2.2.1, .int σ.2.2.2.2.2.2.2]))] := hD
    refine lv_if_eq (tgt := 28) hx hb dX2_sortAt_21 (by decide) (fun c6 => ?_) (fun c6 => ?_)
    · have hw := hw.1 c6
      refine lv_iconst (v := (0 : Int32)) hx hb dX2_sortAt_28 (by decide) ?_
      exact W.iret (v := (0 : Int32)) hx hb hr (fun t ht hW => ⟨⟨(0 : Int32), ((cl2 h0 σ)), rfl, ⟨hw, rfl⟩, by rw [ht]; exact hP, va_K.moved hW.alike hK, hD⟩, hS.F ht⟩) hS.2.2 dX2_sortAt_29
    · have hw := hw.2 c6
      refine lv_iconst (v := (2 : Int32)) hx hb dX2_sortAt_24 (by decide) ?_
      refine lv_goto (tgt := 29) hx hb dX2_sortAt_25 (by decide) ?_
      exact W.iret (v := (2 : Int32)) hx hb hr (fun t ht hW => ⟨⟨(2 : Int32), ((cl2 h0 σ)), rfl, ⟨hw, rfl⟩, by rw [ht]; exact hP, va_K.moved hW.alike hK, hD⟩, hS.F ht⟩) hS.2.2 dX2_sortAt_29
  · have hw := hw.2 c3
    refine lv_iconst (v := (1 : Int32)) hx hb dX2_sortAt_11 (by decide) ?_
    exact W.iret (v := (1 : Int32)) hx hb hr (fun t ht hW => ⟨⟨(1 : Int32), ((cl2 h0 σ)), rfl, ⟨hw, rfl⟩, by rw [ht]; exact hP, va_K.moved hW.alike hK, hD⟩, hS.F ht⟩) hS.2.2 dX2_sortAt_12
set_option maxHeartbeats 4000000 in
set_option maxRecDepth 100000 in
theorem c_X2_put (l : Launch) (dC : Nat → ClassId) (dI : Nat → Nat → Nat) (h0 : Nat)  (σ : SS) (p0 : Int32) (p1 : Int32) (post : SS → Prop) (hw : wp_X2_put p0 p1 σ post) : KV l yX2_put wsX2_put ({ frames := 0, cells := 0, slots := 0, locals := 0 } : Room) (dC, dI) [] (cl2 h0 σ) [.ref h0, .int p0, .int p1] (fun u => ∃ σ', post σ' ∧ u = (cl2 h0 (σ'))) := by
  intro sz
  refine Met.ofW (cc := cX2_put) (maxL := 4) (ret := none) (by decide) rfl ?_
  intro p e s m args below meth c s₁ B hml hv
  obtain ⟨rfl, hsz, hP, hK, hD0, hnw⟩ := hv
  have hx := B.exec
  have hb := B.bytes
  have hr := B.returns
  have hts := atoms_spec (ws := wsX2_put) B.pre
  have hown : s.vm.findClass RX2 = some m.cls := findClass_of_methodNamed B.named
  have hlocks := B.notSynchronized
  subst hsz
  have hD := hD0.self (sz := s.heap.size)
  generalize hAe : va_A (cl2 h0 σ) s.heap.size = A at hD ⊢
  have hA : ∀ q : Nat, s.heap.size ≤ q → A q := fun q h => by rw [← hAe]; exact Or.inr h
  have hS : va_S A s.heap s.heap [] := va_S.rf
  have hP : va_P (dC, dI) vwCl [(h0, .inr (1, [.int σ.1, .int σ.2.1, .int σ.2.2.1, .int σ.2.2.2.1, .int σ.2.2.2.2.1, .int σ.2.2.2.2.2.1, .int σ.2.2.2.2.2.2.1, .int σ.2.2.2.2.2.2.2]))] s.heap := hP
  have hD : va_D A [(h0, .inr (1, [.int σ.1, .int σ.2.1, .int σ.2.2.1, .int σ.2.2.2.1, .int σ.2.2.2.2.1, .int σ.2.2.2.2.2.1, .int σ.2.2.2.2.2.2.1, .int σ.2.2.2.2.2.2.2]))] := hD
  have fl_19 := hts (.fieldLink RX2 19 "OnePlaceEach$Stepped" "firsts" "I") (by decide +kernel)
  have fl_22 := hts (.fieldLink RX2 22 "OnePlaceEach$Stepped" "seconds" "I") (by decide +kernel)
  have hin0 : ∀ w ∈ wsX20, w ∈ wsX2_put := by decide +kernel
  have hl := lv_entry ([.ref h0, .int p0, .int p1]) (n := 4) (Nat.le_of_ble_eq_true rfl)
  rw [lg_entry_eq]
  generalize (lg_sl ([.ref h0, .int p0, .int p1]) ++ List.replicate (4 - (lg_sl ([.ref h0, .int p0, .int p1])).length) Slot.unset).toArray = ls at hl ⊢
  have hl : lv_has ls 4 [(0, .ref h0), (1, .int p0), (2, .int p1)] := hl
  unfold wp_X2_put at hw
  skip
  obtain ⟨H, hH⟩ : ∃ H, H = s.heap := ⟨_, rfl⟩
  obtain ⟨locs, hlo⟩ : ∃ q : List Loc, q = [] := ⟨_, rfl⟩
  rw [← hH] at hP
  have hS : va_S A s.heap H locs := by rw [hH, hlo]; exact hS
  suffices hgo : W p l e (headSpec wsX2_put ({ frames := 0, cells := 0, slots := 0, locals := 0 } : Room)).room s m _ below meth c H locs 0 0 _ (F0 m 0 ls []) by rw [hH, hlo] at hgo; exact hgo
  refine lv_iconst (v := (1 : Int32)) hx hb dX2_put_0 (by decide) ?_
  refine lv_iload_n hx hb dX2_put_1 rfl (lv_at hl 1 rfl) ?_
  refine lv_ishl hx hb dX2_put_2 ?_
  refine lv_istore_n (lv' := [(3, .int ((1 : Int32) <<< (p0 &&& (31 : Int32)))), (0, .ref h0), (1, .int p0), (2, .int p1)]) hx hb dX2_put_3 rfl hl (by decide) rfl (fun ls hl => ?_)
  refine lv_aload_n hx hb dX2_put_4 rfl (lv_at hl 1 rfl) ?_
  refine lv_iload_n hx hb dX2_put_5 rfl (lv_at hl 3 rfl) ?_
  refine lv_iconst (v := (1 : Int32)) hx hb dX2_put_6 (by decide) ?_
  refine lv_icmp_ne (tgt := 19) hx hb dX2_put_7 (by decide) (fun c1 => ?_) (fun c1 => ?_)
  · have hw := hw.1 c1
    refine lv_aload_n hx hb dX2_put_19 rfl (lv_at hl 1 rfl) ?_
    refine va_get (D := (dC, dI)) (ci := 1) (v := .int σ.2.2.1) (C := RX2) (T := TX2) (N := 8) hx hb hts hin0 hown hK hP 0 rfl rfl 2 (by decide) fl_19 (fun _ h9 => h9) rfl dX2_put_20 ?_
    refine lv_iload_n hx hb dX2_put_23 rfl (lv_at hl 0 rfl) ?_
    refine lv_iconst (v := (-1 : Int32)) hx hb dX2_put_24 (by decide) ?_
    refine lv_ixor hx hb dX2_put_25 ?_
    refine lv_iand hx hb dX2_put_26 ?_
    refine va_put (D := (dC, dI)) (ci := 1) (v := .int (σ.2.2.1 &&& (((1 : Int32) <<< (p0 &&& (31 : Int32))) ^^^ (-1 : Int32)))) (ty := .int) (C := RX2) (T := TX2) (N := 8) hx hb hts hin0 tyX2 tyX2_ok nmX2 hown hK hP hD hS 0 rfl rfl 2 (by decide) fl_19 (fun _ h9 => h9) rfl (by decide +kernel) rfl rfl (Nat.le_of_ble_eq_true rfl) dX2_put_27 (fun H locs hP hD hS => ?_)
    have hP : va_P (dC, dI) vwCl [(h0, .inr (1, [.int σ.1, .int σ.2.1, .int (σ.2.2.1 &&& (((1 : Int32) <<< (p0 &&& (31 : Int32))) ^^^ (-1 : Int32))), .int σ.2.2.2.1, .int σ.2.2.2.2.1, .int σ.2.2.2.2.2.1, .int σ.2.2.2.2.2.2.1, .int σ.2.2.2.2.2.2.2]))] H := hP
    have hD : va_D A [(h0, .inr (1, [.int σ.1, .int σ.2.1, .int (σ.2.2.1 &&& (((1 : Int32) <<< (p0 &&& (31 : Int32))) ^^^ (-1 : Int32))), .int σ.2.2.2.1, .int σ.2.2.2.2.1, .int σ.2.2.2.2.2.1, .int σ.2.2.2.2.2.2.1, .int σ.2.2.2.2.2.2.2]))] := hD
    refine lv_aload_n hx hb dX2_put_30 rfl (lv_at hl 1 rfl) ?_
    refine lv_iload_n hx hb dX2_put_31 rfl (lv_at hl 3 rfl) ?_
    refine lv_iconst (v := (2 : Int32)) hx hb dX2_put_32 (by decide) ?_
    refine lv_icmp_ne (tgt := 45) hx hb dX2_put_33 (by decide) (fun c2 => ?_) (fun c2 => ?_)
    · have hw := hw.1 c2
      refine lv_aload_n hx hb dX2_put_45 rfl (lv_at hl 1 rfl) ?_
      refine va_get (D := (dC, dI)) (ci := 1) (v := .int σ.2.2.2.1) (C := RX2) (T := TX2) (N := 8) hx hb hts hin0 hown hK hP 0 rfl rfl 3 (by decide) fl_22 (fun _ h9 => h9) rfl dX2_put_46 ?_
      refine lv_iload_n hx hb dX2_put_49 rfl (lv_at hl 0 rfl) ?_
      refine lv_iconst (v := (-1 : Int32)) hx hb dX2_put_50 (by decide) ?_
      refine lv_ixor hx hb dX2_put_51 ?_
      refine lv_iand hx hb dX2_put_52 ?_
      refine va_put (D := (dC, dI)) (ci := 1) (v := .int (σ.2.2.2.1 &&& (((1 : Int32) <<< (p0 &&& (31 : Int32))) ^^^ (-1 : Int32)))) (ty := .int) (C := RX2) (T := TX2) (N := 8) hx hb hts hin0 tyX2 tyX2_ok nmX2 hown hK hP hD hS 0 rfl rfl 3 (by decide) fl_22 (fun _ h9 => h9) rfl (by decide +kernel) rfl rfl (Nat.le_of_ble_eq_true rfl) dX2_put_53 (fun H locs hP hD hS => ?_)
      have hP : va_P (dC, dI) vwCl [(h0, .inr (1, [.int σ.1, .int σ.2.1, .int (σ.2.2.1 &&& (((1 : Int32) <<< (p0 &&& (31 : Int32))) ^^^ (-1 : Int32))), .int (σ.2.2.2.1 &&& (((1 : Int32) <<< (p0 &&& (31 : Int32))) ^^^ (-1 : Int32))), .int σ.2.2.2.2.1, .int σ.2.2.2.2.2.1, .int σ.2.2.2.2.2.2.1, .int σ.2.2.2.2.2.2.2]))] H := hP
      have hD : va_D A [(h0, .inr (1, [.int σ.1, .int σ.2.1, .int (σ.2.2.1 &&& (((1 : Int32) <<< (p0 &&& (31 : Int32))) ^^^ (-1 : Int32))), .int (σ.2.2.2.1 &&& (((1 : Int32) <<< (p0 &&& (31 : Int32))) ^^^ (-1 : Int32))), .int σ.2.2.2.2.1, .int σ.2.2.2.2.2.1, .int σ.2.2.2.2.2.2.1, .int σ.2.2.2.2.2.2.2]))] := hD
      exact W.vret hx hb hr (fun t ht hW => ⟨⟨((cl2 h0 (σ.1, σ.2.1, (σ.2.2.1 &&& (((1 : Int32) <<< (p0 &&& (31 : Int32))) ^^^ (-1 : Int32))), (σ.2.2.2.1 &&& (((1 : Int32) <<< (p0 &&& (31 : Int32))) ^^^ (-1 : Int32))), σ.2.2.2.2.1, σ.2.2.2.2.2.1, σ.2.2.2.2.2.2.1, σ.2.2.2.2.2.2.2))), rfl, ⟨(σ.1, σ.2.1, (σ.2.2.1 &&& (((1 : Int32) <<< (p0 &&& (31 : Int32))) ^^^ (-1 : Int32))), (σ.2.2.2.1 &&& (((1 : Int32) <<< (p0 &&& (31 : Int32))) ^^^ (-1 : Int32))), σ.2.2.2.2.1, σ.2.2.2.2.2.1, σ.2.2.2.2.2.2.1, σ.2.2.2.2.2.2.2), hw, rfl⟩, by rw [ht]; exact hP, va_K.moved hW.alike hK, hD⟩, hS.F ht⟩) hS.2.2 dX2_put_56
    · have hw := hw.2 c2
      refine lv_aload_n hx hb dX2_put_36 rfl (lv_at hl 1 rfl) ?_
      refine va_get (D := (dC, dI)) (ci := 1) (v := .int σ.2.2.2.1) (C := RX2) (T := TX2) (N := 8) hx hb hts hin0 hown hK hP 0 rfl rfl 3 (by decide) fl_22 (fun _ h9 => h9) rfl dX2_put_37 ?_
      refine lv_iload_n hx hb dX2_put_40 rfl (lv_at hl 0 rfl) ?_
      refine lv_ior hx hb dX2_put_41 ?_
      refine lv_goto (tgt := 53) hx hb dX2_put_42 (by decide) ?_
      refine va_put (D := (dC, dI)) (ci := 1) (v := .int (σ.2.2.2.1 ||| ((1 : Int32) <<< (p0 &&& (31 : Int32))))) (ty := .int) (C := RX2) (T := TX2) (N := 8) hx hb hts hin0 tyX2 tyX2_ok nmX2 hown hK hP hD hS 0 rfl rfl 3 (by decide) fl_22 (fun _ h9 => h9) rfl (by decide +kernel) rfl rfl (Nat.le_of_ble_eq_true rfl) dX2_put_53 (fun H locs hP hD hS => ?_)
      have hP : va_P (dC, dI) vwCl [(h0, .inr (1, [.int σ.1, .int σ.2.1, .int (σ.2.2.1 &&& (((1 : Int32) <<< (p0 &&& (31 : Int32))) ^^^ (-1 : Int32))), .int (σ.2.2.2.1 ||| ((1 : Int32) <<< (p0 &&& (31 : Int32)))), .int σ.2.2.2.2.1, .int σ.2.2.2.2.2.1, .int σ.2.2.2.2.2.2.1, .int σ.2.2.2.2.2.2.2]))] H := hP
      have hD : va_D A [(h0, .inr (1, [.int σ.1, .int σ.2.1, .int (σ.2.2.1 &&& (((1 : Int32) <<< (p0 &&& (31 : Int32))) ^^^ (-1 : Int32))), .int (σ.2.2.2.1 ||| ((1 : Int32) <<< (p0 &&& (31 : Int32)))), .int σ.2.2.2.2.1, .int σ.2.2.2.2.2.1, .int σ.2.2.2.2.2.2.1, .int σ.2.2.2.2.2.2.2]))] := hD
      exact W.vret hx hb hr (fun t ht hW => ⟨⟨((cl2 h0 (σ.1, σ.2.1, (σ.2.2.1 &&& (((1 : Int32) <<< (p0 &&& (31 : Int32))) ^^^ (-1 : Int32))), (σ.2.2.2.1 ||| ((1 : Int32) <<< (p0 &&& (31 : Int32)))), σ.2.2.2.2.1, σ.2.2.2.2.2.1, σ.2.2.2.2.2.2.1, σ.2.2.2.2.2.2.2))), rfl, ⟨(σ.1, σ.2.1, (σ.2.2.1 &&& (((1 : Int32) <<< (p0 &&& (31 : Int32))) ^^^ (-1 : Int32))), (σ.2.2.2.1 ||| ((1 : Int32) <<< (p0 &&& (31 : Int32)))), σ.2.2.2.2.1, σ.2.2.2.2.2.1, σ.2.2.2.2.2.2.1, σ.2.2.2.2.2.2.2), hw, rfl⟩, by rw [ht]; exact hP, va_K.moved hW.alike hK, hD⟩, hS.F ht⟩) hS.2.2 dX2_put_56
  · have hw := hw.2 c1
    refine lv_aload_n hx hb dX2_put_10 rfl (lv_at hl 1 rfl) ?_
    refine va_get (D := (dC, dI)) (ci := 1) (v := .int σ.2.2.1) (C := RX2) (T := TX2) (N := 8) hx hb hts hin0 hown hK hP 0 rfl rfl 2 (by decide) fl_19 (fun _ h9 => h9) rfl dX2_put_11 ?_
    refine lv_iload_n hx hb dX2_put_14 rfl (lv_at hl 0 rfl) ?_
    refine lv_ior hx hb dX2_put_15 ?_
    refine lv_goto (tgt := 27) hx hb dX2_put_16 (by decide) ?_
    refine va_put (D := (dC, dI)) (ci := 1) (v := .int (σ.2.2.1 ||| ((1 : Int32) <<< (p0 &&& (31 : Int32))))) (ty := .int) (C := RX2) (T := TX2) (N := 8) hx hb hts hin0 tyX2 tyX2_ok nmX2 hown hK hP hD hS 0 rfl rfl 2 (by decide) fl_19 (fun _ h9 => h9) rfl (by decide +kernel) rfl rfl (Nat.le_of_ble_eq_true rfl) dX2_put_27 (fun H locs hP hD hS => ?_)
    have hP : va_P (dC, dI) vwCl [(h0, .inr (1, [.int σ.1, .int σ.2.1, .int (σ.2.2.1 ||| ((1 : Int32) <<< (p0 &&& (31 : Int32)))), .int σ.2.2.2.1, .int σ.2.2.2.2.1, .int σ.2.2.2.2.2.1, .int σ.2.2.2.2.2.2.1, .int σ.2.2.2.2.2.2.2]))] H := hP
    have hD : va_D A [(h0, .inr (1, [.int σ.1, .int σ.2.1, .int (σ.2.2.1 ||| ((1 : Int32) <<< (p0 &&& (31 : Int32)))), .int σ.2.2.2.1, .int σ.2.2.2.2.1, .int σ.2.2.2.2.2.1, .int σ.2.2.2.2.2.2.1, .int σ.2.2.2.2.2.2.2]))] := hD
    refine lv_aload_n hx hb dX2_put_30 rfl (lv_at hl 1 rfl) ?_
    refine lv_iload_n hx hb dX2_put_31 rfl (lv_at hl 3 rfl) ?_
    refine lv_iconst (v := (2 : Int32)) hx hb dX2_put_32 (by decide) ?_
    refine lv_icmp_ne (tgt := 45) hx hb dX2_put_33 (by decide) (fun c3 => ?_) (fun c3 => ?_)
    · have hw := hw.1 c3
      refine lv_aload_n hx hb dX2_put_45 rfl (lv_at hl 1 rfl) ?_
      refine va_get (D := (dC, dI)) (ci := 1) (v := .int σ.2.2.2.1) (C := RX2) (T := TX2) (N := 8) hx hb hts hin0 hown hK hP 0 rfl rfl 3 (by decide) fl_22 (fun _ h9 => h9) rfl dX2_put_46 ?_
      refine lv_iload_n hx hb dX2_put_49 rfl (lv_at hl 0 rfl) ?_
      refine lv_iconst (v := (-1 : Int32)) hx hb dX2_put_50 (by decide) ?_
      refine lv_ixor hx hb dX2_put_51 ?_
      refine lv_iand hx hb dX2_put_52 ?_
      refine va_put (D := (dC, dI)) (ci := 1) (v := .int (σ.2.2.2.1 &&& (((1 : Int32) <<< (p0 &&& (31 : Int32))) ^^^ (-1 : Int32)))) (ty := .int) (C := RX2) (T := TX2) (N := 8) hx hb hts hin0 tyX2 tyX2_ok nmX2 hown hK hP hD hS 0 rfl rfl 3 (by decide) fl_22 (fun _ h9 => h9) rfl (by decide +kernel) rfl rfl (Nat.le_of_ble_eq_true rfl) dX2_put_53 (fun H locs hP hD hS => ?_)
      have hP : va_P (dC, dI) vwCl [(h0, .inr (1, [.int σ.1, .int σ.2.1, .int (σ.2.2.1 ||| ((1 : Int32) <<< (p0 &&& (31 : Int32)))), .int (σ.2.2.2.1 &&& (((1 : Int32) <<< (p0 &&& (31 : Int32))) ^^^ (-1 : Int32))), .int σ.2.2.2.2.1, .int σ.2.2.2.2.2.1, .int σ.2.2.2.2.2.2.1, .int σ.2.2.2.2.2.2.2]))] H := hP
      have hD : va_D A [(h0, .inr (1, [.int σ.1, .int σ.2.1, .int (σ.2.2.1 ||| ((1 : Int32) <<< (p0 &&& (31 : Int32)))), .int (σ.2.2.2.1 &&& (((1 : Int32) <<< (p0 &&& (31 : Int32))) ^^^ (-1 : Int32))), .int σ.2.2.2.2.1, .int σ.2.2.2.2.2.1, .int σ.2.2.2.2.2.2.1, .int σ.2.2.2.2.2.2.2]))] := hD
      exact W.vret hx hb hr (fun t ht hW => ⟨⟨((cl2 h0 (σ.1, σ.2.1, (σ.2.2.1 ||| ((1 : Int32) <<< (p0 &&& (31 : Int32)))), (σ.2.2.2.1 &&& (((1 : Int32) <<< (p0 &&& (31 : Int32))) ^^^ (-1 : Int32))), σ.2.2.2.2.1, σ.2.2.2.2.2.1, σ.2.2.2.2.2.2.1, σ.2.2.2.2.2.2.2))), rfl, ⟨(σ.1, σ.2.1, (σ.2.2.1 ||| ((1 : Int32) <<< (p0 &&& (31 : Int32)))), (σ.2.2.2.1 &&& (((1 : Int32) <<< (p0 &&& (31 : Int32))) ^^^ (-1 : Int32))), σ.2.2.2.2.1, σ.2.2.2.2.2.1, σ.2.2.2.2.2.2.1, σ.2.2.2.2.2.2.2), hw, rfl⟩, by rw [ht]; exact hP, va_K.moved hW.alike hK, hD⟩, hS.F ht⟩) hS.2.2 dX2_put_56
    · have hw := hw.2 c3
      refine lv_aload_n hx hb dX2_put_36 rfl (lv_at hl 1 rfl) ?_
      refine va_get (D := (dC, dI)) (ci := 1) (v := .int σ.2.2.2.1) (C := RX2) (T := TX2) (N := 8) hx hb hts hin0 hown hK hP 0 rfl rfl 3 (by decide) fl_22 (fun _ h9 => h9) rfl dX2_put_37 ?_
      refine lv_iload_n hx hb dX2_put_40 rfl (lv_at hl 0 rfl) ?_
      refine lv_ior hx hb dX2_put_41 ?_
      refine lv_goto (tgt := 53) hx hb dX2_put_42 (by decide) ?_
      refine va_put (D := (dC, dI)) (ci := 1) (v := .int (σ.2.2.2.1 ||| ((1 : Int32) <<< (p0 &&& (31 : Int32))))) (ty := .int) (C := RX2) (T := TX2) (N := 8) hx hb hts hin0 tyX2 tyX2_ok nmX2 hown hK hP hD hS 0 rfl rfl 3 (by decide) fl_22 (fun _ h9 => h9) rfl (by decide +kernel) rfl rfl (Nat.le_of_ble_eq_true rfl) dX2_put_53 (fun H locs hP hD hS => ?_)
      have hP : va_P (dC, dI) vwCl [(h0, .inr (1, [.int σ.1, .int σ.2.1, .int (σ.2.2.1 ||| ((1 : Int32) <<< (p0 &&& (31 : Int32)))), .int (σ.2.2.2.1 ||| ((1 : Int32) <<< (p0 &&& (31 : Int32)))), .int σ.2.2.2.2.1, .int σ.2.2.2.2.2.1, .int σ.2.2.2.2.2.2.1, .int σ.2.2.2.2.2.2.2]))] H := hP
      have hD : va_D A [(h0, .inr (1, [.int σ.1, .int σ.2.1, .int (σ.2.2.1 ||| ((1 : Int32) <<< (p0 &&& (31 : Int32)))), .int (σ.2.2.2.1 ||| ((1 : Int32) <<< (p0 &&& (31 : Int32)))), .int σ.2.2.2.2.1, .int σ.2.2.2.2.2.1, .int σ.2.2.2.2.2.2.1, .int σ.2.2.2.2.2.2.2]))] := hD
      exact W.vret hx hb hr (fun t ht hW => ⟨⟨((cl2 h0 (σ.1, σ.2.1, (σ.2.2.1 ||| ((1 : Int32) <<< (p0 &&& (31 : Int32)))), (σ.2.2.2.1 ||| ((1 : Int32) <<< (p0 &&& (31 : Int32)))), σ.2.2.2.2.1, σ.2.2.2.2.2.1, σ.2.2.2.2.2.2.1, σ.2.2.2.2.2.2.2))), rfl, ⟨(σ.1, σ.2.1, (σ.2.2.1 ||| ((1 : Int32) <<< (p0 &&& (31 : Int32)))), (σ.2.2.2.1 ||| ((1 : Int32) <<< (p0 &&& (31 : Int32)))), σ.2.2.2.2.1, σ.2.2.2.2.2.1, σ.2.2.2.2.2.2.1, σ.2.2.2.2.2.2.2), hw, rfl⟩, by rw [ht]; exact hP, va_K.moved hW.alike hK, hD⟩, hS.F ht⟩) hS.2.2 dX2_put_56
set_option maxHeartbeats 4000000 in
set_option maxRecDepth 100000 in
theorem c_X2_sow (l : Launch) (dC : Nat → ClassId) (dI : Nat → Nat → Nat) (h0 : Nat)  (σ : SS) (p0 : Int32) (post : SS → Prop) (hw : wp_X2_sow p0 σ post) : KV l yX2_sow wsX2_sow ({ frames := 0, cells := 0, slots := 0, locals := 0 } : Room) (dC, dI) [] (cl2 h0 σ) [.ref h0, .int p0] (fun u => ∃ σ', post σ' ∧ u = (cl2 h0 (σ'))) := by
  intro sz
  refine Met.ofW (cc := cX2_sow) (maxL := 2) (ret := none) (by decide) rfl ?_
  intro p e s m args below meth c s₁ B hml hv
  obtain ⟨rfl, hsz, hP, hK, hD0, hnw⟩ := hv
  have hx := B.exec
  have hb := B.bytes
  have hr := B.returns
  have hts := atoms_spec (ws := wsX2_sow) B.pre
  have hown : s.vm.findClass RX2 = some m.cls := findClass_of_methodNamed B.named
  have hlocks := B.notSynchronized
  subst hsz
  have hD := hD0.self (sz := s.heap.size)
  generalize hAe : va_A (cl2 h0 σ) s.heap.size = A at hD ⊢
  have hA : ∀ q : Nat, s.heap.size ≤ q → A q := fun q h => by rw [← hAe]; exact Or.inr h
  have hS : va_S A s.heap s.heap [] := va_S.rf
  have hP : va_P (dC, dI) vwCl [(h0, .inr (1, [.int σ.1, .int σ.2.1, .int σ.2.2.1, .int σ.2.2.2.1, .int σ.2.2.2.2.1, .int σ.2.2.2.2.2.1, .int σ.2.2.2.2.2.2.1, .int σ.2.2.2.2.2.2.2]))] s.heap := hP
  have hD : va_D A [(h0, .inr (1, [.int σ.1, .int σ.2.1, .int σ.2.2.1, .int σ.2.2.2.1, .int σ.2.2.2.2.1, .int σ.2.2.2.2.2.1, .int σ.2.2.2.2.2.2.1, .int σ.2.2.2.2.2.2.2]))] := hD
  have fl_25 := hts (.fieldLink RX2 25 "OnePlaceEach$Stepped" "lot" "I") (by decide +kernel)
  have hin0 : ∀ w ∈ wsX20, w ∈ wsX2_sow := by decide +kernel
  have hl := lv_entry ([.ref h0, .int p0]) (n := 2) (Nat.le_of_ble_eq_true rfl)
  rw [lg_entry_eq]
  generalize (lg_sl ([.ref h0, .int p0]) ++ List.replicate (2 - (lg_sl ([.ref h0, .int p0])).length) Slot.unset).toArray = ls at hl ⊢
  have hl : lv_has ls 2 [(0, .ref h0), (1, .int p0)] := hl
  unfold wp_X2_sow at hw
  skip
  obtain ⟨H, hH⟩ : ∃ H, H = s.heap := ⟨_, rfl⟩
  obtain ⟨locs, hlo⟩ : ∃ q : List Loc, q = [] := ⟨_, rfl⟩
  rw [← hH] at hP
  have hS : va_S A s.heap H locs := by rw [hH, hlo]; exact hS
  suffices hgo : W p l e (headSpec wsX2_sow ({ frames := 0, cells := 0, slots := 0, locals := 0 } : Room)).room s m _ below meth c H locs 0 0 _ (F0 m 0 ls []) by rw [hH, hlo] at hgo; exact hgo
  refine lv_aload_n hx hb dX2_sow_0 rfl (lv_at hl 0 rfl) ?_
  refine lv_iload_n hx hb dX2_sow_1 rfl (lv_at hl 1 rfl) ?_
  refine va_put (D := (dC, dI)) (ci := 1) (v := .int p0) (ty := .int) (C := RX2) (T := TX2) (N := 8) hx hb hts hin0 tyX2 tyX2_ok nmX2 hown hK hP hD hS 0 rfl rfl 4 (by decide) fl_25 (fun _ h9 => h9) rfl (by decide +kernel) rfl rfl (Nat.le_of_ble_eq_true rfl) dX2_sow_2 (fun H locs hP hD hS => ?_)
  have hP : va_P (dC, dI) vwCl [(h0, .inr (1, [.int σ.1, .int σ.2.1, .int σ.2.2.1, .int σ.2.2.2.1, .int p0, .int σ.2.2.2.2.2.1, .int σ.2.2.2.2.2.2.1, .int σ.2.2.2.2.2.2.2]))] H := hP
  have hD : va_D A [(h0, .inr (1, [.int σ.1, .int σ.2.1, .int σ.2.2.1, .int σ.2.2.2.1, .int p0, .int σ.2.2.2.2.2.1, .int σ.2.2.2.2.2.2.1, .int σ.2.2.2.2.2.2.2]))] := hD
  exact W.vret hx hb hr (fun t ht hW => ⟨⟨((cl2 h0 (σ.1, σ.2.1, σ.2.2.1, σ.2.2.2.1, p0, σ.2.2.2.2.2.1, σ.2.2.2.2.2.2.1, σ.2.2.2.2.2.2.2))), rfl, ⟨(σ.1, σ.2.1, σ.2.2.1, σ.2.2.2.1, p0, σ.2.2.2.2.2.1, σ.2.2.2.2.2.2.1, σ.2.2.2.2.2.2.2), hw, rfl⟩, by rw [ht]; exact hP, va_K.moved hW.alike hK, hD⟩, hS.F ht⟩) hS.2.2 dX2_sow_5
set_option maxHeartbeats 4000000 in
set_option maxRecDepth 100000 in
theorem c_X2_countOfSort (l : Launch) (dC : Nat → ClassId) (dI : Nat → Nat → Nat) (h0 : Nat)  (σ : SS) (p0 : Int32) (post : Int32 → Prop) (hw : wp_X2_countOfSort p0 σ post) : KI l yX2_countOfSort wsX2_countOfSort ({ frames := 1, cells := 0, slots := 0, locals := 20 } : Room) (dC, dI) [] (cl2 h0 σ) [.ref h0, .int p0] (fun r u => post r ∧ u = (cl2 h0 σ)) := by
  intro sz
  refine Met.ofW (cc := cX2_countOfSort) (maxL := 2) (ret := (some .int)) (by decide) rfl ?_
  intro p e s m args below meth c s₁ B hml hv
  obtain ⟨rfl, hsz, hP, hK, hD0, hnw⟩ := hv
  have hx := B.exec
  have hb := B.bytes
  have hr := B.returns
  have hts := atoms_spec (ws := wsX2_countOfSort) B.pre
  have hown : s.vm.findClass RX2 = some m.cls := findClass_of_methodNamed B.named
  have hlocks := B.notSynchronized
  subst hsz
  have hD := hD0.self (sz := s.heap.size)
  generalize hAe : va_A (cl2 h0 σ) s.heap.size = A at hD ⊢
  have hA : ∀ q : Nat, s.heap.size ≤ q → A q := fun q h => by rw [← hAe]; exact Or.inr h
  have hS : va_S A s.heap s.heap [] := va_S.rf
  have hP : va_P (dC, dI) vwCl [(h0, .inr (1, [.int σ.1, .int σ.2.1, .int σ.2.2.1, .int σ.2.2.2.1, .int σ.2.2.2.2.1, .int σ.2.2.2.2.2.1, .int σ.2.2.2.2.2.2.1, .int σ.2.2.2.2.2.2.2]))] s.heap := hP
  have hD : va_D A [(h0, .inr (1, [.int σ.1, .int σ.2.1, .int σ.2.2.1, .int σ.2.2.2.1, .int σ.2.2.2.2.1, .int σ.2.2.2.2.2.1, .int σ.2.2.2.2.2.2.1, .int σ.2.2.2.2.2.2.2]))] := hD
  have fl_19 := hts (.fieldLink RX2 19 "OnePlaceEach$Stepped" "firsts" "I") (by decide +kernel)
  have fl_22 := hts (.fieldLink RX2 22 "OnePlaceEach$Stepped" "seconds" "I") (by decide +kernel)
  have hin0 : ∀ w ∈ wsX20, w ∈ wsX2_countOfSort := by decide +kernel
  have hl := lv_entry ([.ref h0, .int p0]) (n := 2) (Nat.le_of_ble_eq_true rfl)
  rw [lg_entry_eq]
  generalize (lg_sl ([.ref h0, .int p0]) ++ List.replicate (2 - (lg_sl ([.ref h0, .int p0])).length) Slot.unset).toArray = ls at hl ⊢
  have hl : lv_has ls 2 [(0, .ref h0), (1, .int p0)] := hl
  unfold wp_X2_countOfSort at hw
  skip
  obtain ⟨H, hH⟩ : ∃ H, H = s.heap := ⟨_, rfl⟩
  obtain ⟨locs, hlo⟩ : ∃ q : List Loc, q = [] := ⟨_, rfl⟩
  rw [← hH] at hP
  have hS : va_S A s.heap H locs := by rw [hH, hlo]; exact hS
  suffices hgo : W p l e (headSpec wsX2_countOfSort ({ frames := 1, cells := 0, slots := 0, locals := 20 } : Room)).room s m _ below meth c H locs 0 0 _ (F0 m 0 ls []) by rw [hH, hlo] at hgo; exact hgo
  refine lv_iload_n hx hb dX2_countOfSort_0 rfl (lv_at hl 1 rfl) ?_
  refine lv_iconst (v := (1 : Int32)) hx hb dX2_countOfSort_1 (by decide) ?_
  refine lv_icmp_ne (tgt := 12) hx hb dX2_countOfSort_2 (by decide) (fun c1 => ?_) (fun c1 => ?_)
  · have hw := hw.1 c1
    refine lv_aload_n hx hb dX2_countOfSort_12 rfl (lv_at hl 0 rfl) ?_
    refine va_get (D := (dC, dI)) (ci := 1) (v := .int σ.2.2.2.1) (C := RX2) (T := TX2) (N := 8) hx hb hts hin0 hown hK hP 0 rfl rfl 3 (by decide) fl_22 (fun _ h9 => h9) rfl dX2_countOfSort_13 ?_
    have hPc := hP.sub (ws' := ([] : va_W)) [] rfl
    have hDc := hD.sub (ws' := ([] : va_W)) [] (by decide) rfl
    have hKc := hK.sub (tys' := []) [] rfl
    have hFc := va_free (wc := ([] : va_W)) hD hS hA [] rfl
    refine kc_i (wr := [(h0, .inr (1, [.int σ.1, .int σ.2.1, .int σ.2.2.1, .int σ.2.2.2.1, .int σ.2.2.2.2.1, .int σ.2.2.2.2.2.1, .int σ.2.2.2.2.2.2.1, .int σ.2.2.2.2.2.2.2]))]) (kr_S (As := [.int σ.2.2.2.1]) (rest := []) (ws := [(h0, .inr (1, [.int σ.1, .int σ.2.1, .int σ.2.2.1, .int σ.2.2.2.1, .int σ.2.2.2.2.1, .int σ.2.2.2.2.2.1, .int σ.2.2.2.2.2.2.1, .int σ.2.2.2.2.2.2.2]))]) ⟨hx, hb, hml, hown, hts⟩ (c_J6_bitCount_0f7a4 l dC dI   σ.2.2.2.1 _ hw H.size) (va_cwS 1 hts gX2_countOfSort_J6_bitCount_0f7a4 rfl rfl rfl (by decide +kernel) ⟨Nat.le_of_ble_eq_true rfl, Nat.le_of_ble_eq_true rfl⟩) hKc hnw hP hD hPc hDc rfl hl.1 rfl (Nat.le_of_ble_eq_true rfl) dX2_countOfSort_16 ⟨Nat.zero_le _, Nat.zero_le _⟩) hP hD hS hFc [] [0] rfl rfl (by decide) (by decide) (fun r2 u1 H locs hq hP hD hS => ?_)
    obtain ⟨hw, rfl⟩ := hq
    have hP : va_P (dC, dI) vwCl [(h0, .inr (1, [.int σ.1, .int σ.2.1, .int σ.2.2.1, .int σ.2.2.2.1, .int σ.2.2.2.2.1, .int σ.2.2.2.2.2.1, .int σ.2.2.2.2.2.2.1, .int σ.2.2.2.2.2.2.2]))] H := hP
    have hD : va_D A [(h0, .inr (1, [.int σ.1, .int σ.2.1, .int σ.2.2.1, .int σ.2.2.2.1, .int σ.2.2.2.2.1, .int σ.2.2.2.2.2.1, .int σ.2.2.2.2.2.2.1, .int σ.2.2.2.2.2.2.2]))] := hD
    exact W.iret (v := r2) hx hb hr (fun t ht hW => ⟨⟨r2, ((cl2 h0 σ)), rfl, ⟨hw, rfl⟩, by rw [ht]; exact hP, va_K.moved hW.alike hK, hD⟩, hS.F ht⟩) hS.2.2 dX2_countOfSort_19
  · have hw := hw.2 c1
    refine lv_aload_n hx hb dX2_countOfSort_5 rfl (lv_at hl 0 rfl) ?_
    refine va_get (D := (dC, dI)) (ci := 1) (v := .int σ.2.2.1) (C := RX2) (T := TX2) (N := 8) hx hb hts hin0 hown hK hP 0 rfl rfl 2 (by decide) fl_19 (fun _ h9 => h9) rfl dX2_countOfSort_6 ?_
    refine lv_goto (tgt := 16) hx hb dX2_countOfSort_9 (by decide) ?_
    have hPc := hP.sub (ws' := ([] : va_W)) [] rfl
    have hDc := hD.sub (ws' := ([] : va_W)) [] (by decide) rfl
    have hKc := hK.sub (tys' := []) [] rfl
    have hFc := va_free (wc := ([] : va_W)) hD hS hA [] rfl
    refine kc_i (wr := [(h0, .inr (1, [.int σ.1, .int σ.2.1, .int σ.2.2.1, .int σ.2.2.2.1, .int σ.2.2.2.2.1, .int σ.2.2.2.2.2.1, .int σ.2.2.2.2.2.2.1, .int σ.2.2.2.2.2.2.2]))]) (kr_S (As := [.int σ.2.2.1]) (rest := []) (ws := [(h0, .inr (1, [.int σ.1, .int σ.2.1, .int σ.2.2.1, .int σ.2.2.2.1, .int σ.2.2.2.2.1, .int σ.2.2.2.2.2.1, .int σ.2.2.2.2.2.2.1, .int σ.2.2.2.2.2.2.2]))]) ⟨hx, hb, hml, hown, hts⟩ (c_J6_bitCount_0f7a4 l dC dI   σ.2.2.1 _ hw H.size) (va_cwS 1 hts gX2_countOfSort_J6_bitCount_0f7a4 rfl rfl rfl (by decide +kernel) ⟨Nat.le_of_ble_eq_true rfl, Nat.le_of_ble_eq_true rfl⟩) hKc hnw hP hD hPc hDc rfl hl.1 rfl (Nat.le_of_ble_eq_true rfl) dX2_countOfSort_16 ⟨Nat.zero_le _, Nat.zero_le _⟩) hP hD hS hFc [] [0] rfl rfl (by decide) (by decide) (fun r4 u1 H locs hq hP hD hS => ?_)
    obtain ⟨hw, rfl⟩ := hq
    have hP : va_P (dC, dI) vwCl [(h0, .inr (1, [.int σ.1, .int σ.2.1, .int σ.2.2.1, .int σ.2.2.2.1, .int σ.2.2.2.2.1, .int σ.2.2.2.2.2.1, .int σ.2.2.2.2.2.2.1, .int σ.2.2.2.2.2.2.2]))] H := hP
    have hD : va_D A [(h0, .inr (1, [.int σ.1, .int σ.2.1, .int σ.2.2.1, .int σ.2.2.2.1, .int σ.2.2.2.2.1, .int σ.2.2.2.2.2.1, .int σ.2.2.2.2.2.2.1, .int σ.2.2.2.2.2.2.2]))] := hD
    exact W.iret (v := r4) hx hb hr (fun t ht hW => ⟨⟨r4, ((cl2 h0 σ)), rfl, ⟨hw, rfl⟩, by rw [ht]; exact hP, va_K.moved hW.alike hK, hD⟩, hS.F ht⟩) hS.2.2 dX2_countOfSort_19
set_option maxHeartbeats 4000000 in
set_option maxRecDepth 100000 in
theorem c_X2_allPlaces (l : Launch) (dC : Nat → ClassId) (dI : Nat → Nat → Nat) (h0 : Nat)  (σ : SS)  (post : Int32 → Prop) (hw : wp_X2_allPlaces  σ post) : KI l yX2_allPlaces wsX2_allPlaces ({ frames := 0, cells := 0, slots := 0, locals := 0 } : Room) (dC, dI) [] (cl2 h0 σ) [.ref h0] (fun r u => post r ∧ u = (cl2 h0 σ)) := by
  intro sz
  refine Met.ofW (cc := cX2_allPlaces) (maxL := 1) (ret := (some .int)) (by decide) rfl ?_
  intro p e s m args below meth c s₁ B hml hv
  obtain ⟨rfl, hsz, hP, hK, hD0, hnw⟩ := hv
  have hx := B.exec
  have hb := B.bytes
  have hr := B.returns
  have hts := atoms_spec (ws := wsX2_allPlaces) B.pre
  have hown : s.vm.findClass RX2 = some m.cls := findClass_of_methodNamed B.named
  have hlocks := B.notSynchronized
  subst hsz
  have hD := hD0.self (sz := s.heap.size)
  generalize hAe : va_A (cl2 h0 σ) s.heap.size = A at hD ⊢
  have hA : ∀ q : Nat, s.heap.size ≤ q → A q := fun q h => by rw [← hAe]; exact Or.inr h
  have hS : va_S A s.heap s.heap [] := va_S.rf
  have hP : va_P (dC, dI) vwCl [(h0, .inr (1, [.int σ.1, .int σ.2.1, .int σ.2.2.1, .int σ.2.2.2.1, .int σ.2.2.2.2.1, .int σ.2.2.2.2.2.1, .int σ.2.2.2.2.2.2.1, .int σ.2.2.2.2.2.2.2]))] s.heap := hP
  have hD : va_D A [(h0, .inr (1, [.int σ.1, .int σ.2.1, .int σ.2.2.1, .int σ.2.2.2.1, .int σ.2.2.2.2.1, .int σ.2.2.2.2.2.1, .int σ.2.2.2.2.2.2.1, .int σ.2.2.2.2.2.2.2]))] := hD
  have fl_9 := hts (.fieldLink RX2 9 "OnePlaceEach$Stepped" "places" "I") (by decide +kernel)
  have hin0 : ∀ w ∈ wsX20, w ∈ wsX2_allPlaces := by decide +kernel
  have hl := lv_entry ([.ref h0]) (n := 1) (Nat.le_of_ble_eq_true rfl)
  rw [lg_entry_eq]
  generalize (lg_sl ([.ref h0]) ++ List.replicate (1 - (lg_sl ([.ref h0])).length) Slot.unset).toArray = ls at hl ⊢
  have hl : lv_has ls 1 [(0, .ref h0)] := hl
  unfold wp_X2_allPlaces at hw
  skip
  obtain ⟨H, hH⟩ : ∃ H, H = s.heap := ⟨_, rfl⟩
  obtain ⟨locs, hlo⟩ : ∃ q : List Loc, q = [] := ⟨_, rfl⟩
  rw [← hH] at hP
  have hS : va_S A s.heap H locs := by rw [hH, hlo]; exact hS
  suffices hgo : W p l e (headSpec wsX2_allPlaces ({ frames := 0, cells := 0, slots := 0, locals := 0 } : Room)).room s m _ below meth c H locs 0 0 _ (F0 m 0 ls []) by rw [hH, hlo] at hgo; exact hgo
  refine lv_iconst (v := (1 : Int32)) hx hb dX2_allPlaces_0 (by decide) ?_
  refine lv_aload_n hx hb dX2_allPlaces_1 rfl (lv_at hl 0 rfl) ?_
  refine va_get (D := (dC, dI)) (ci := 1) (v := .int σ.1) (C := RX2) (T := TX2) (N := 8) hx hb hts hin0 hown hK hP 0 rfl rfl 0 (by decide) fl_9 (fun _ h9 => h9) rfl dX2_allPlaces_2 ?_
  refine lv_ishl hx hb dX2_allPlaces_5 ?_
  refine lv_iconst (v := (1 : Int32)) hx hb dX2_allPlaces_6 (by decide) ?_
  refine lv_isub hx hb dX2_allPlaces_7 ?_
  exact W.iret (v := (((1 : Int32) <<< (σ.1 &&& (31 : Int32))) - (1 : Int32))) hx hb hr (fun t ht hW => ⟨⟨(((1 : Int32) <<< (σ.1 &&& (31 : Int32))) - (1 : Int32)), ((cl2 h0 σ)), rfl, ⟨hw, rfl⟩, by rw [ht]; exact hP, va_K.moved hW.alike hK, hD⟩, hS.F ht⟩) hS.2.2 dX2_allPlaces_8
set_option maxHeartbeats 4000000 in
set_option maxRecDepth 100000 in
theorem c_X2_firstsWithFreeBehind (l : Launch) (dC : Nat → ClassId) (dI : Nat → Nat → Nat) (h0 : Nat)  (σ : SS)  (post : Int32 → Prop) (hw : wp_X2_firstsWithFreeBehind  σ post) : KI l yX2_firstsWithFreeBehind wsX2_firstsWithFreeBehind ({ frames := 1, cells := 0, slots := 0, locals := 20 } : Room) (dC, dI) [] (cl2 h0 σ) [.ref h0] (fun r u => post r ∧ u = (cl2 h0 σ)) := by
  intro sz
  refine Met.ofW (cc := cX2_firstsWithFreeBehind) (maxL := 3) (ret := (some .int)) (by decide) rfl ?_
  intro p e s m args below meth c s₁ B hml hv
  obtain ⟨rfl, hsz, hP, hK, hD0, hnw⟩ := hv
  have hx := B.exec
  have hb := B.bytes
  have hr := B.returns
  have hts := atoms_spec (ws := wsX2_firstsWithFreeBehind) B.pre
  have hown : s.vm.findClass RX2 = some m.cls := findClass_of_methodNamed B.named
  have hlocks := B.notSynchronized
  subst hsz
  have hD := hD0.self (sz := s.heap.size)
  generalize hAe : va_A (cl2 h0 σ) s.heap.size = A at hD ⊢
  have hA : ∀ q : Nat, s.heap.size ≤ q → A q := fun q h => by rw [← hAe]; exact Or.inr h
  have hS : va_S A s.heap s.heap [] := va_S.rf
  have hP : va_P (dC, dI) vwCl [(h0, .inr (1, [.int σ.1, .int σ.2.1, .int σ.2.2.1, .int σ.2.2.2.1, .int σ.2.2.2.2.1, .int σ.2.2.2.2.2.1, .int σ.2.2.2.2.2.2.1, .int σ.2.2.2.2.2.2.2]))] s.heap := hP
  have hD : va_D A [(h0, .inr (1, [.int σ.1, .int σ.2.1, .int σ.2.2.1, .int σ.2.2.2.1, .int σ.2.2.2.2.1, .int σ.2.2.2.2.2.1, .int σ.2.2.2.2.2.2.1, .int σ.2.2.2.2.2.2.2]))] := hD
  have fl_9 := hts (.fieldLink RX2 9 "OnePlaceEach$Stepped" "places" "I") (by decide +kernel)
  have fl_15 := hts (.fieldLink RX2 15 "OnePlaceEach$Stepped" "open" "Z") (by decide +kernel)
  have fl_19 := hts (.fieldLink RX2 19 "OnePlaceEach$Stepped" "firsts" "I") (by decide +kernel)
  have fl_22 := hts (.fieldLink RX2 22 "OnePlaceEach$Stepped" "seconds" "I") (by decide +kernel)
  have hin0 : ∀ w ∈ wsX20, w ∈ wsX2_firstsWithFreeBehind := by decide +kernel
  have hl := lv_entry ([.ref h0]) (n := 3) (Nat.le_of_ble_eq_true rfl)
  rw [lg_entry_eq]
  generalize (lg_sl ([.ref h0]) ++ List.replicate (3 - (lg_sl ([.ref h0])).length) Slot.unset).toArray = ls at hl ⊢
  have hl : lv_has ls 3 [(0, .ref h0)] := hl
  unfold wp_X2_firstsWithFreeBehind at hw
  skip
  obtain ⟨H, hH⟩ : ∃ H, H = s.heap := ⟨_, rfl⟩
  obtain ⟨locs, hlo⟩ : ∃ q : List Loc, q = [] := ⟨_, rfl⟩
  rw [← hH] at hP
  have hS : va_S A s.heap H locs := by rw [hH, hlo]; exact hS
  suffices hgo : W p l e (headSpec wsX2_firstsWithFreeBehind ({ frames := 1, cells := 0, slots := 0, locals := 20 } : Room)).room s m _ below meth c H locs 0 0 _ (F0 m 0 ls []) by rw [hH, hlo] at hgo; exact hgo
  refine lv_aload_n hx hb dX2_firstsWithFreeBehind_0 rfl (lv_at hl 0 rfl) ?_
  have hPc := hP
  have hDc := hD
  have hKc := hK
  have hFc := va_free (wc := [(h0, .inr (1, [.int σ.1, .int σ.2.1, .int σ.2.2.1, .int σ.2.2.2.1, .int σ.2.2.2.2.1, .int σ.2.2.2.2.2.1, .int σ.2.2.2.2.2.2.1, .int σ.2.2.2.2.2.2.2]))]) hD hS hA [0] rfl
  refine kc_i (wr := ([] : va_W)) (kr_V (As := []) (rest := []) (b := h0) (ws := [(h0, .inr (1, [.int σ.1, .int σ.2.1, .int σ.2.2.1, .int σ.2.2.2.1, .int σ.2.2.2.2.1, .int σ.2.2.2.2.2.1, .int σ.2.2.2.2.2.2.1, .int σ.2.2.2.2.2.2.2]))]) ⟨hx, hb, hml, hown, hts⟩ (c_X2_allPlaces l dC dI h0 σ  _ hw H.size) (cwV 0 hts gX2_firstsWithFreeBehind_X2_allPlaces rfl rfl rfl (by decide +kernel) ⟨Nat.le_of_ble_eq_true rfl, Nat.le_of_ble_eq_true rfl⟩) 1 0 hK rfl rfl rfl hKc hnw hP hD hPc hDc rfl hl.1 rfl (Nat.le_of_ble_eq_true rfl) dX2_firstsWithFreeBehind_1 ⟨Nat.zero_le _, Nat.zero_le _⟩) hP hD hS hFc [0] [] rfl rfl (by decide) (by decide) (fun r1 u1 H locs hq hP hD hS => ?_)
  obtain ⟨hw, rfl⟩ := hq
  have hP : va_P (dC, dI) vwCl [(h0, .inr (1, [.int σ.1, .int σ.2.1, .int σ.2.2.1, .int σ.2.2.2.1, .int σ.2.2.2.2.1, .int σ.2.2.2.2.2.1, .int σ.2.2.2.2.2.2.1, .int σ.2.2.2.2.2.2.2]))] H := hP
  have hD : va_D A [(h0, .inr (1, [.int σ.1, .int σ.2.1, .int σ.2.2.1, .int σ.2.2.2.1, .int σ.2.2.2.2.1, .int σ.2.2.2.2.2.1, .int σ.2.2.2.2.2.2.1, .int σ.2.2.2.2.2.2.2]))] := hD
  refine lv_aload_n hx hb dX2_firstsWithFreeBehind_4 rfl (lv_at hl 0 rfl) ?_
  refine va_get (D := (dC, dI)) (ci := 1) (v := .int σ.2.2.1) (C := RX2) (T := TX2) (N := 8) hx hb hts hin0 hown hK hP 0 rfl rfl 2 (by decide) fl_19 (fun _ h9 => h9) rfl dX2_firstsWithFreeBehind_5 ?_
  refine lv_iconst (v := (-1 : Int32)) hx hb dX2_firstsWithFreeBehind_8 (by decide) ?_
  refine lv_ixor hx hb dX2_firstsWithFreeBehind_9 ?_
  refine lv_iand hx hb dX2_firstsWithFreeBehind_10 ?_
  refine lv_aload_n hx hb dX2_firstsWithFreeBehind_11 rfl (lv_at hl 0 rfl) ?_
  refine va_get (D := (dC, dI)) (ci := 1) (v := .int σ.2.2.2.1) (C := RX2) (T := TX2) (N := 8) hx hb hts hin0 hown hK hP 0 rfl rfl 3 (by decide) fl_22 (fun _ h9 => h9) rfl dX2_firstsWithFreeBehind_12 ?_
  refine lv_iconst (v := (-1 : Int32)) hx hb dX2_firstsWithFreeBehind_15 (by decide) ?_
  refine lv_ixor hx hb dX2_firstsWithFreeBehind_16 ?_
  refine lv_iand hx hb dX2_firstsWithFreeBehind_17 ?_
  refine lv_istore_n (lv' := [(1, .int ((r1 &&& (σ.2.2.1 ^^^ (-1 : Int32))) &&& (σ.2.2.2.1 ^^^ (-1 : Int32)))), (0, .ref h0)]) hx hb dX2_firstsWithFreeBehind_18 rfl hl (by decide) rfl (fun ls hl => ?_)
  refine lv_aload_n hx hb dX2_firstsWithFreeBehind_19 rfl (lv_at hl 1 rfl) ?_
  refine va_get (D := (dC, dI)) (ci := 1) (v := .int σ.2.1) (C := RX2) (T := TX2) (N := 8) hx hb hts hin0 hown hK hP 0 rfl rfl 1 (by decide) fl_15 (fun _ h9 => h9) rfl dX2_firstsWithFreeBehind_20 ?_
  refine lv_if_eq (tgt := 30) hx hb dX2_firstsWithFreeBehind_23 (by decide) (fun c3 => ?_) (fun c3 => ?_)
  · have hw := hw.1 c3
    refine lv_iload_n hx hb dX2_firstsWithFreeBehind_30 rfl (lv_at hl 0 rfl) ?_
    refine lv_iconst (v := (1 : Int32)) hx hb dX2_firstsWithFreeBehind_31 (by decide) ?_
    refine lv_iand hx hb dX2_firstsWithFreeBehind_32 ?_
    refine lv_aload_n hx hb dX2_firstsWithFreeBehind_33 rfl (lv_at hl 1 rfl) ?_
    refine va_get (D := (dC, dI)) (ci := 1) (v := .int σ.1) (C := RX2) (T := TX2) (N := 8) hx hb hts hin0 hown hK hP 0 rfl rfl 0 (by decide) fl_9 (fun _ h9 => h9) rfl dX2_firstsWithFreeBehind_34 ?_
    refine lv_iconst (v := (1 : Int32)) hx hb dX2_firstsWithFreeBehind_37 (by decide) ?_
    refine lv_isub hx hb dX2_firstsWithFreeBehind_38 ?_
    refine lv_ishl hx hb dX2_firstsWithFreeBehind_39 ?_
    refine lv_istore_n (lv' := [(2, .int ((((r1 &&& (σ.2.2.1 ^^^ (-1 : Int32))) &&& (σ.2.2.2.1 ^^^ (-1 : Int32))) &&& (1 : Int32)) <<< ((σ.1 - (1 : Int32)) &&& (31 : Int32)))), (1, .int ((r1 &&& (σ.2.2.1 ^^^ (-1 : Int32))) &&& (σ.2.2.2.1 ^^^ (-1 : Int32)))), (0, .ref h0)]) hx hb dX2_firstsWithFreeBehind_40 rfl hl (by decide) rfl (fun ls hl => ?_)
    refine lv_aload_n hx hb dX2_firstsWithFreeBehind_41 rfl (lv_at hl 2 rfl) ?_
    refine va_get (D := (dC, dI)) (ci := 1) (v := .int σ.2.2.1) (C := RX2) (T := TX2) (N := 8) hx hb hts hin0 hown hK hP 0 rfl rfl 2 (by decide) fl_19 (fun _ h9 => h9) rfl dX2_firstsWithFreeBehind_42 ?_
    refine lv_iload_n hx hb dX2_firstsWithFreeBehind_45 rfl (lv_at hl 1 rfl) ?_
    refine lv_iconst (v := (1 : Int32)) hx hb dX2_firstsWithFreeBehind_46 (by decide) ?_
    refine lv_ishr hx hb dX2_firstsWithFreeBehind_47 ?_
    refine lv_iload_n hx hb dX2_firstsWithFreeBehind_48 rfl (lv_at hl 0 rfl) ?_
    refine lv_ior hx hb dX2_firstsWithFreeBehind_49 ?_
    refine lv_iand hx hb dX2_firstsWithFreeBehind_50 ?_
    exact W.iret (v := (σ.2.2.1 &&& ((((r1 &&& (σ.2.2.1 ^^^ (-1 : Int32))) &&& (σ.2.2.2.1 ^^^ (-1 : Int32))) >>> ((1 : Int32) &&& (31 : Int32))) ||| ((((r1 &&& (σ.2.2.1 ^^^ (-1 : Int32))) &&& (σ.2.2.2.1 ^^^ (-1 : Int32))) &&& (1 : Int32)) <<< ((σ.1 - (1 : Int32)) &&& (31 : Int32)))))) hx hb hr (fun t ht hW => ⟨⟨(σ.2.2.1 &&& ((((r1 &&& (σ.2.2.1 ^^^ (-1 : Int32))) &&& (σ.2.2.2.1 ^^^ (-1 : Int32))) >>> ((1 : Int32) &&& (31 : Int32))) ||| ((((r1 &&& (σ.2.2.1 ^^^ (-1 : Int32))) &&& (σ.2.2.2.1 ^^^ (-1 : Int32))) &&& (1 : Int32)) <<< ((σ.1 - (1 : Int32)) &&& (31 : Int32))))), ((cl2 h0 σ)), rfl, ⟨hw, rfl⟩, by rw [ht]; exact hP, va_K.moved hW.alike hK, hD⟩, hS.F ht⟩) hS.2.2 dX2_firstsWithFreeBehind_51
  · have hw := hw.2 c3
    refine lv_iconst (v := (0 : Int32)) hx hb dX2_firstsWithFreeBehind_26 (by decide) ?_
    refine lv_goto (tgt := 40) hx hb dX2_firstsWithFreeBehind_27 (by decide) ?_
    refine lv_istore_n (lv' := [(2, .int (0 : Int32)), (1, .int ((r1 &&& (σ.2.2.1 ^^^ (-1 : Int32))) &&& (σ.2.2.2.1 ^^^ (-1 : Int32)))), (0, .ref h0)]) hx hb dX2_firstsWithFreeBehind_40 rfl hl (by decide) rfl (fun ls hl => ?_)
    refine lv_aload_n hx hb dX2_firstsWithFreeBehind_41 rfl (lv_at hl 2 rfl) ?_
    refine va_get (D := (dC, dI)) (ci := 1) (v := .int σ.2.2.1) (C := RX2) (T := TX2) (N := 8) hx hb hts hin0 hown hK hP 0 rfl rfl 2 (by decide) fl_19 (fun _ h9 => h9) rfl dX2_firstsWithFreeBehind_42 ?_
    refine lv_iload_n hx hb dX2_firstsWithFreeBehind_45 rfl (lv_at hl 1 rfl) ?_
    refine lv_iconst (v := (1 : Int32)) hx hb dX2_firstsWithFreeBehind_46 (by decide) ?_
    refine lv_ishr hx hb dX2_firstsWithFreeBehind_47 ?_
    refine lv_iload_n hx hb dX2_firstsWithFreeBehind_48 rfl (lv_at hl 0 rfl) ?_
    refine lv_ior hx hb dX2_firstsWithFreeBehind_49 ?_
    refine lv_iand hx hb dX2_firstsWithFreeBehind_50 ?_
    exact W.iret (v := (σ.2.2.1 &&& ((((r1 &&& (σ.2.2.1 ^^^ (-1 : Int32))) &&& (σ.2.2.2.1 ^^^ (-1 : Int32))) >>> ((1 : Int32) &&& (31 : Int32))) ||| (0 : Int32)))) hx hb hr (fun t ht hW => ⟨⟨(σ.2.2.1 &&& ((((r1 &&& (σ.2.2.1 ^^^ (-1 : Int32))) &&& (σ.2.2.2.1 ^^^ (-1 : Int32))) >>> ((1 : Int32) &&& (31 : Int32))) ||| (0 : Int32))), ((cl2 h0 σ)), rfl, ⟨hw, rfl⟩, by rw [ht]; exact hP, va_K.moved hW.alike hK, hD⟩, hS.F ht⟩) hS.2.2 dX2_firstsWithFreeBehind_51
set_option maxHeartbeats 4000000 in
set_option maxRecDepth 100000 in
theorem c_X2_tell (l : Launch) (dC : Nat → ClassId) (dI : Nat → Nat → Nat) (h0 : Nat)  (σ : SS) (p0 : Int32) (post : Int32 → Prop) (hw : wp_X2_tell p0 σ post) : KI l yX2_tell wsX2_tell ({ frames := 2, cells := 0, slots := 0, locals := 42 } : Room) (dC, dI) [] (cl2 h0 σ) [.ref h0, .int p0] (fun r u => post r ∧ u = (cl2 h0 σ)) := by
  intro sz
  refine Met.ofW (cc := cX2_tell) (maxL := 2) (ret := (some .int)) (by decide) rfl ?_
  intro p e s m args below meth c s₁ B hml hv
  obtain ⟨rfl, hsz, hP, hK, hD0, hnw⟩ := hv
  have hx := B.exec
  have hb := B.bytes
  have hr := B.returns
  have hts := atoms_spec (ws := wsX2_tell) B.pre
  have hown : s.vm.findClass RX2 = some m.cls := findClass_of_methodNamed B.named
  have hlocks := B.notSynchronized
  subst hsz
  have hD := hD0.self (sz := s.heap.size)
  generalize hAe : va_A (cl2 h0 σ) s.heap.size = A at hD ⊢
  have hA : ∀ q : Nat, s.heap.size ≤ q → A q := fun q h => by rw [← hAe]; exact Or.inr h
  have hS : va_S A s.heap s.heap [] := va_S.rf
  have hP : va_P (dC, dI) vwCl [(h0, .inr (1, [.int σ.1, .int σ.2.1, .int σ.2.2.1, .int σ.2.2.2.1, .int σ.2.2.2.2.1, .int σ.2.2.2.2.2.1, .int σ.2.2.2.2.2.2.1, .int σ.2.2.2.2.2.2.2]))] s.heap := hP
  have hD : va_D A [(h0, .inr (1, [.int σ.1, .int σ.2.1, .int σ.2.2.1, .int σ.2.2.2.1, .int σ.2.2.2.2.1, .int σ.2.2.2.2.2.1, .int σ.2.2.2.2.2.2.1, .int σ.2.2.2.2.2.2.2]))] := hD
  have fl_9 := hts (.fieldLink RX2 9 "OnePlaceEach$Stepped" "places" "I") (by decide +kernel)
  have fl_15 := hts (.fieldLink RX2 15 "OnePlaceEach$Stepped" "open" "Z") (by decide +kernel)
  have fl_28 := hts (.fieldLink RX2 28 "OnePlaceEach$Stepped" "comeIn" "I") (by decide +kernel)
  have fl_31 := hts (.fieldLink RX2 31 "OnePlaceEach$Stepped" "goneOut" "I") (by decide +kernel)
  have fl_34 := hts (.fieldLink RX2 34 "OnePlaceEach$Stepped" "moved" "I") (by decide +kernel)
  have hin0 : ∀ w ∈ wsX20, w ∈ wsX2_tell := by decide +kernel
  have hl := lv_entry ([.ref h0, .int p0]) (n := 2) (Nat.le_of_ble_eq_true rfl)
  rw [lg_entry_eq]
  generalize (lg_sl ([.ref h0, .int p0]) ++ List.replicate (2 - (lg_sl ([.ref h0, .int p0])).length) Slot.unset).toArray = ls at hl ⊢
  have hl : lv_has ls 2 [(0, .ref h0), (1, .int p0)] := hl
  unfold wp_X2_tell at hw
  skip
  obtain ⟨H, hH⟩ : ∃ H, H = s.heap := ⟨_, rfl⟩
  obtain ⟨locs, hlo⟩ : ∃ q : List Loc, q = [] := ⟨_, rfl⟩
  rw [← hH] at hP
  have hS : va_S A s.heap H locs := by rw [hH, hlo]; exact hS
  suffices hgo : W p l e (headSpec wsX2_tell ({ frames := 2, cells := 0, slots := 0, locals := 42 } : Room)).room s m _ below meth c H locs 0 0 _ (F0 m 0 ls []) by rw [hH, hlo] at hgo; exact hgo
  refine lv_iload_n hx hb dX2_tell_0 rfl (lv_at hl 1 rfl) ?_
  by_cases c1 : p0 = (0 : Int32)
  · have hw := hw.1 c1
    refine lv_tableIn (off := 43) (tgt := 44) hx hb dX2_tell_1 (by rw [c1]; decide) (by rw [c1]; decide) (by rw [c1]; rfl) (by decide) ?_
    refine lv_aload_n hx hb dX2_tell_44 rfl (lv_at hl 0 rfl) ?_
    refine va_get (D := (dC, dI)) (ci := 1) (v := .int σ.1) (C := RX2) (T := TX2) (N := 8) hx hb hts hin0 hown hK hP 0 rfl rfl 0 (by decide) fl_9 (fun _ h9 => h9) rfl dX2_tell_45 ?_
    exact W.iret (v := σ.1) hx hb hr (fun t ht hW => ⟨⟨σ.1, ((cl2 h0 σ)), rfl, ⟨hw, rfl⟩, by rw [ht]; exact hP, va_K.moved hW.alike hK, hD⟩, hS.F ht⟩) hS.2.2 dX2_tell_48
  · have hw := hw.2 c1
    by_cases c2 : p0 = (1 : Int32)
    · have hw := hw.1 c2
      refine lv_tableIn (off := 48) (tgt := 49) hx hb dX2_tell_1 (by rw [c2]; decide) (by rw [c2]; decide) (by rw [c2]; rfl) (by decide) ?_
      refine lv_aload_n hx hb dX2_tell_49 rfl (lv_at hl 0 rfl) ?_
      refine va_get (D := (dC, dI)) (ci := 1) (v := .int σ.2.1) (C := RX2) (T := TX2) (N := 8) hx hb hts hin0 hown hK hP 0 rfl rfl 1 (by decide) fl_15 (fun _ h9 => h9) rfl dX2_tell_50 ?_
      refine lv_if_eq (tgt := 60) hx hb dX2_tell_53 (by decide) (fun c3 => ?_) (fun c3 => ?_)
      · have hw := hw.1 c3
        refine lv_iconst (v := (0 : Int32)) hx hb dX2_tell_60 (by decide) ?_
        exact W.iret (v := (0 : Int32)) hx hb hr (fun t ht hW => ⟨⟨(0 : Int32), ((cl2 h0 σ)), rfl, ⟨hw, rfl⟩, by rw [ht]; exact hP, va_K.moved hW.alike hK, hD⟩, hS.F ht⟩) hS.2.2 dX2_tell_61
      · have hw := hw.2 c3
        refine lv_iconst (v := (1 : Int32)) hx hb dX2_tell_56 (by decide) ?_
        refine lv_goto (tgt := 61) hx hb dX2_tell_57 (by decide) ?_
        exact W.iret (v := (1 : Int32)) hx hb hr (fun t ht hW => ⟨⟨(1 : Int32), ((cl2 h0 σ)), rfl, ⟨hw, rfl⟩, by rw [ht]; exact hP, va_K.moved hW.alike hK, hD⟩, hS.F ht⟩) hS.2.2 dX2_tell_61
    · have hw := hw.2 c2
      by_cases c4 : p0 = (2 : Int32)
      · have hw := hw.1 c4
        refine lv_tableIn (off := 61) (tgt := 62) hx hb dX2_tell_1 (by rw [c4]; decide) (by rw [c4]; decide) (by rw [c4]; rfl) (by decide) ?_
        refine lv_aload_n hx hb dX2_tell_62 rfl (lv_at hl 0 rfl) ?_
        refine va_get (D := (dC, dI)) (ci := 1) (v := .int σ.2.2.2.2.2.1) (C := RX2) (T := TX2) (N := 8) hx hb hts hin0 hown hK hP 0 rfl rfl 5 (by decide) fl_28 (fun _ h9 => h9) rfl dX2_tell_63 ?_
        exact W.iret (v := σ.2.2.2.2.2.1) hx hb hr (fun t ht hW => ⟨⟨σ.2.2.2.2.2.1, ((cl2 h0 σ)), rfl, ⟨hw, rfl⟩, by rw [ht]; exact hP, va_K.moved hW.alike hK, hD⟩, hS.F ht⟩) hS.2.2 dX2_tell_66
      · have hw := hw.2 c4
        by_cases c5 : p0 = (3 : Int32)
        · have hw := hw.1 c5
          refine lv_tableIn (off := 66) (tgt := 67) hx hb dX2_tell_1 (by rw [c5]; decide) (by rw [c5]; decide) (by rw [c5]; rfl) (by decide) ?_
          refine lv_aload_n hx hb dX2_tell_67 rfl (lv_at hl 0 rfl) ?_
          refine va_get (D := (dC, dI)) (ci := 1) (v := .int σ.2.2.2.2.2.2.1) (C := RX2) (T := TX2) (N := 8) hx hb hts hin0 hown hK hP 0 rfl rfl 6 (by decide) fl_31 (fun _ h9 => h9) rfl dX2_tell_68 ?_
          exact W.iret (v := σ.2.2.2.2.2.2.1) hx hb hr (fun t ht hW => ⟨⟨σ.2.2.2.2.2.2.1, ((cl2 h0 σ)), rfl, ⟨hw, rfl⟩, by rw [ht]; exact hP, va_K.moved hW.alike hK, hD⟩, hS.F ht⟩) hS.2.2 dX2_tell_71
        · have hw := hw.2 c5
          by_cases c6 : p0 = (4 : Int32)
          · have hw := hw.1 c6
            refine lv_tableIn (off := 71) (tgt := 72) hx hb dX2_tell_1 (by rw [c6]; decide) (by rw [c6]; decide) (by rw [c6]; rfl) (by decide) ?_
            refine lv_aload_n hx hb dX2_tell_72 rfl (lv_at hl 0 rfl) ?_
            refine va_get (D := (dC, dI)) (ci := 1) (v := .int σ.2.2.2.2.2.2.2) (C := RX2) (T := TX2) (N := 8) hx hb hts hin0 hown hK hP 0 rfl rfl 7 (by decide) fl_34 (fun _ h9 => h9) rfl dX2_tell_73 ?_
            exact W.iret (v := σ.2.2.2.2.2.2.2) hx hb hr (fun t ht hW => ⟨⟨σ.2.2.2.2.2.2.2, ((cl2 h0 σ)), rfl, ⟨hw, rfl⟩, by rw [ht]; exact hP, va_K.moved hW.alike hK, hD⟩, hS.F ht⟩) hS.2.2 dX2_tell_76
          · have hw := hw.2 c6
            by_cases c7 : p0 = (5 : Int32)
            · have hw := hw.1 c7
              refine lv_tableIn (off := 76) (tgt := 77) hx hb dX2_tell_1 (by rw [c7]; decide) (by rw [c7]; decide) (by rw [c7]; rfl) (by decide) ?_
              refine lv_aload_n hx hb dX2_tell_77 rfl (lv_at hl 0 rfl) ?_
              refine lv_iconst (v := (1 : Int32)) hx hb dX2_tell_78 (by decide) ?_
              have hPc := hP
              have hDc := hD
              have hKc := hK
              have hFc := va_free (wc := [(h0, .inr (1, [.int σ.1, .int σ.2.1, .int σ.2.2.1, .int σ.2.2.2.1, .int σ.2.2.2.2.1, .int σ.2.2.2.2.2.1, .int σ.2.2.2.2.2.2.1, .int σ.2.2.2.2.2.2.2]))]) hD hS hA [0] rfl
              refine kc_i (wr := ([] : va_W)) (kr_V (As := [.int (1 : Int32)]) (rest := []) (b := h0) (ws := [(h0, .inr (1, [.int σ.1, .int σ.2.1, .int σ.2.2.1, .int σ.2.2.2.1, .int σ.2.2.2.2.1, .int σ.2.2.2.2.2.1, .int σ.2.2.2.2.2.2.1, .int σ.2.2.2.2.2.2.2]))]) ⟨hx, hb, hml, hown, hts⟩ (c_X2_countOfSort l dC dI h0 σ (1 : Int32) _ hw H.size) (cwV 1 hts gX2_tell_X2_countOfSort rfl rfl rfl (by decide +kernel) ⟨Nat.le_of_ble_eq_true rfl, Nat.le_of_ble_eq_true rfl⟩) 1 0 hK rfl rfl rfl hKc hnw hP hD hPc hDc rfl hl.1 rfl (Nat.le_of_ble_eq_true rfl) dX2_tell_79 ⟨Nat.zero_le _, Nat.zero_le _⟩) hP hD hS hFc [0] [] rfl rfl (by decide) (by decide) (fun r8 u1 H locs hq hP hD hS => ?_)
              obtain ⟨hw, rfl⟩ := hq
              have hP : va_P (dC, dI) vwCl [(h0, .inr (1, [.int σ.1, .int σ.2.1, .int σ.2.2.1, .int σ.2.2.2.1, .int σ.2.2.2.2.1, .int σ.2.2.2.2.2.1, .int σ.2.2.2.2.2.2.1, .int σ.2.2.2.2.2.2.2]))] H := hP
              have hD : va_D A [(h0, .inr (1, [.int σ.1, .int σ.2.1, .int σ.2.2.1, .int σ.2.2.2.1, .int σ.2.2.2.2.1, .int σ.2.2.2.2.2.1, .int σ.2.2.2.2.2.2.1, .int σ.2.2.2.2.2.2.2]))] := hD
              exact W.iret (v := r8) hx hb hr (fun t ht hW => ⟨⟨r8, ((cl2 h0 σ)), rfl, ⟨hw, rfl⟩, by rw [ht]; exact hP, va_K.moved hW.alike hK, hD⟩, hS.F ht⟩) hS.2.2 dX2_tell_82
            · have hw := hw.2 c7
              by_cases c10 : p0 = (6 : Int32)
              · have hw := hw.1 c10
                refine lv_tableIn (off := 82) (tgt := 83) hx hb dX2_tell_1 (by rw [c10]; decide) (by rw [c10]; decide) (by rw [c10]; rfl) (by decide) ?_
                refine lv_aload_n hx hb dX2_tell_83 rfl (lv_at hl 0 rfl) ?_
                refine lv_iconst (v := (2 : Int32)) hx hb dX2_tell_84 (by decide) ?_
                have hPc := hP
                have hDc := hD
                have hKc := hK
                have hFc := va_free (wc := [(h0, .inr (1, [.int σ.1, .int σ.2.1, .int σ.2.2.1, .int σ.2.2.2.1, .int σ.2.2.2.2.1, .int σ.2.2.2.2.2.1, .int σ.2.2.2.2.2.2.1, .int σ.2.2.2.2.2.2.2]))]) hD hS hA [0] rfl
                refine kc_i (wr := ([] : va_W)) (kr_V (As := [.int (2 : Int32)]) (rest := []) (b := h0) (ws := [(h0, .inr (1, [.int σ.1, .int σ.2.1, .int σ.2.2.1, .int σ.2.2.2.1, .int σ.2.2.2.2.1, .int σ.2.2.2.2.2.1, .int σ.2.2.2.2.2.2.1, .int σ.2.2.2.2.2.2.2]))]) ⟨hx, hb, hml, hown, hts⟩ (c_X2_countOfSort l dC dI h0 σ (2 : Int32) _ hw H.size) (cwV 1 hts gX2_tell_X2_countOfSort rfl rfl rfl (by decide +kernel) ⟨Nat.le_of_ble_eq_true rfl, Nat.le_of_ble_eq_true rfl⟩) 1 0 hK rfl rfl rfl hKc hnw hP hD hPc hDc rfl hl.1 rfl (Nat.le_of_ble_eq_true rfl) dX2_tell_85 ⟨Nat.zero_le _, Nat.zero_le _⟩) hP hD hS hFc [0] [] rfl rfl (by decide) (by decide) (fun r11 u1 H locs hq hP hD hS => ?_)
                obtain ⟨hw, rfl⟩ := hq
                have hP : va_P (dC, dI) vwCl [(h0, .inr (1, [.int σ.1, .int σ.2.1, .int σ.2.2.1, .int σ.2.2.2.1, .int σ.2.2.2.2.1, .int σ.2.2.2.2.2.1, .int σ.2.2.2.2.2.2.1, .int σ.2.2.2.2.2.2.2]))] H := hP
                have hD : va_D A [(h0, .inr (1, [.int σ.1, .int σ.2.1, .int σ.2.2.1, .int σ.2.2.2.1, .int σ.2.2.2.2.1, .int σ.2.2.2.2.2.1, .int σ.2.2.2.2.2.2.1, .int σ.2.2.2.2.2.2.2]))] := hD
                exact W.iret (v := r11) hx hb hr (fun t ht hW => ⟨⟨r11, ((cl2 h0 σ)), rfl, ⟨hw, rfl⟩, by rw [ht]; exact hP, va_K.moved hW.alike hK, hD⟩, hS.F ht⟩) hS.2.2 dX2_tell_88
              · have hw := hw.2 c10
                have hsw : p0.toInt < 0 ∨ 6 < p0.toInt := by
                  have qc1 := lv_neT (a := 0) c1 rfl
                  have qc2 := lv_neT (a := 1) c2 rfl
                  have qc4 := lv_neT (a := 2) c4 rfl
                  have qc5 := lv_neT (a := 3) c5 rfl
                  have qc6 := lv_neT (a := 4) c6 rfl
                  have qc7 := lv_neT (a := 5) c7 rfl
                  have qc10 := lv_neT (a := 6) c10 rfl
                  omega
                refine lv_tableOut (tgt := 89) hx hb dX2_tell_1 hsw (by decide) ?_
                refine lv_aload_n hx hb dX2_tell_89 rfl (lv_at hl 0 rfl) ?_
                have hPc := hP
                have hDc := hD
                have hKc := hK
                have hFc := va_free (wc := [(h0, .inr (1, [.int σ.1, .int σ.2.1, .int σ.2.2.1, .int σ.2.2.2.1, .int σ.2.2.2.2.1, .int σ.2.2.2.2.2.1, .int σ.2.2.2.2.2.2.1, .int σ.2.2.2.2.2.2.2]))]) hD hS hA [0] rfl
                refine kc_i (wr := ([] : va_W)) (kr_V (As := []) (rest := []) (b := h0) (ws := [(h0, .inr (1, [.int σ.1, .int σ.2.1, .int σ.2.2.1, .int σ.2.2.2.1, .int σ.2.2.2.2.1, .int σ.2.2.2.2.2.1, .int σ.2.2.2.2.2.2.1, .int σ.2.2.2.2.2.2.2]))]) ⟨hx, hb, hml, hown, hts⟩ (c_X2_firstsWithFreeBehind l dC dI h0 σ  _ hw H.size) (cwV 0 hts gX2_tell_X2_firstsWithFreeBehind rfl rfl rfl (by decide +kernel) ⟨Nat.le_of_ble_eq_true rfl, Nat.le_of_ble_eq_true rfl⟩) 1 0 hK rfl rfl rfl hKc hnw hP hD hPc hDc rfl hl.1 rfl (Nat.le_of_ble_eq_true rfl) dX2_tell_90 ⟨Nat.zero_le _, Nat.zero_le _⟩) hP hD hS hFc [0] [] rfl rfl (by decide) (by decide) (fun r13 u1 H locs hq hP hD hS => ?_)
                obtain ⟨hw, rfl⟩ := hq
                have hP : va_P (dC, dI) vwCl [(h0, .inr (1, [.int σ.1, .int σ.2.1, .int σ.2.2.1, .int σ.2.2.2.1, .int σ.2.2.2.2.1, .int σ.2.2.2.2.2.1, .int σ.2.2.2.2.2.2.1, .int σ.2.2.2.2.2.2.2]))] H := hP
                have hD : va_D A [(h0, .inr (1, [.int σ.1, .int σ.2.1, .int σ.2.2.1, .int σ.2.2.2.1, .int σ.2.2.2.2.1, .int σ.2.2.2.2.2.1, .int σ.2.2.2.2.2.2.1, .int σ.2.2.2.2.2.2.2]))] := hD
                have hPc := hP.sub (ws' := ([] : va_W)) [] rfl
                have hDc := hD.sub (ws' := ([] : va_W)) [] (by decide) rfl
                have hKc := hK.sub (tys' := []) [] rfl
                have hFc := va_free (wc := ([] : va_W)) hD hS hA [] rfl
                refine kc_i (wr := [(h0, .inr (1, [.int σ.1, .int σ.2.1, .int σ.2.2.1, .int σ.2.2.2.1, .int σ.2.2.2.2.1, .int σ.2.2.2.2.2.1, .int σ.2.2.2.2.2.2.1, .int σ.2.2.2.2.2.2.2]))]) (kr_S (As := [.int r13]) (rest := []) (ws := [(h0, .inr (1, [.int σ.1, .int σ.2.1, .int σ.2.2.1, .int σ.2.2.2.1, .int σ.2.2.2.2.1, .int σ.2.2.2.2.2.1, .int σ.2.2.2.2.2.2.1, .int σ.2.2.2.2.2.2.2]))]) ⟨hx, hb, hml, hown, hts⟩ (c_J6_bitCount_0f7a4 l dC dI   r13 _ hw H.size) (va_cwS 1 hts gX2_tell_J6_bitCount_0f7a4 rfl rfl rfl (by decide +kernel) ⟨Nat.le_of_ble_eq_true rfl, Nat.le_of_ble_eq_true rfl⟩) hKc hnw hP hD hPc hDc rfl hl.1 rfl (Nat.le_of_ble_eq_true rfl) dX2_tell_93 ⟨Nat.zero_le _, Nat.zero_le _⟩) hP hD hS hFc [] [0] rfl rfl (by decide) (by decide) (fun r15 u1 H locs hq hP hD hS => ?_)
                obtain ⟨hw, rfl⟩ := hq
                have hP : va_P (dC, dI) vwCl [(h0, .inr (1, [.int σ.1, .int σ.2.1, .int σ.2.2.1, .int σ.2.2.2.1, .int σ.2.2.2.2.1, .int σ.2.2.2.2.2.1, .int σ.2.2.2.2.2.2.1, .int σ.2.2.2.2.2.2.2]))] H := hP
                have hD : va_D A [(h0, .inr (1, [.int σ.1, .int σ.2.1, .int σ.2.2.1, .int σ.2.2.2.1, .int σ.2.2.2.2.1, .int σ.2.2.2.2.2.1, .int σ.2.2.2.2.2.2.1, .int σ.2.2.2.2.2.2.2]))] := hD
                exact W.iret (v := r15) hx hb hr (fun t ht hW => ⟨⟨r15, ((cl2 h0 σ)), rfl, ⟨hw, rfl⟩, by rw [ht]; exact hP, va_K.moved hW.alike hK, hD⟩, hS.F ht⟩) hS.2.2 dX2_tell_96
set_option maxHeartbeats 4000000 in
set_option maxRecDepth 100000 in
theorem c_X2_draw (l : Launch) (dC : Nat → ClassId) (dI : Nat → Nat → Nat) (h0 : Nat)  (σ : SS)  (post : Int32 → SS → Prop) (hw : wp_X2_draw  σ post) : KI l yX2_draw wsX2_draw ({ frames := 0, cells := 0, slots := 0, locals := 0 } : Room) (dC, dI) [] (cl2 h0 σ) [.ref h0] (fun r u => ∃ σ', post r σ' ∧ u = (cl2 h0 (σ'))) := by
  intro sz
  refine Met.ofW (cc := cX2_draw) (maxL := 2) (ret := (some .int)) (by decide) rfl ?_
  intro p e s m args below meth c s₁ B hml hv
  obtain ⟨rfl, hsz, hP, hK, hD0, hnw⟩ := hv
  have hx := B.exec
  have hb := B.bytes
  have hr := B.returns
  have hts := atoms_spec (ws := wsX2_draw) B.pre
  have hown : s.vm.findClass RX2 = some m.cls := findClass_of_methodNamed B.named
  have hlocks := B.notSynchronized
  subst hsz
  have hD := hD0.self (sz := s.heap.size)
  generalize hAe : va_A (cl2 h0 σ) s.heap.size = A at hD ⊢
  have hA : ∀ q : Nat, s.heap.size ≤ q → A q := fun q h => by rw [← hAe]; exact Or.inr h
  have hS : va_S A s.heap s.heap [] := va_S.rf
  have hP : va_P (dC, dI) vwCl [(h0, .inr (1, [.int σ.1, .int σ.2.1, .int σ.2.2.1, .int σ.2.2.2.1, .int σ.2.2.2.2.1, .int σ.2.2.2.2.2.1, .int σ.2.2.2.2.2.2.1, .int σ.2.2.2.2.2.2.2]))] s.heap := hP
  have hD : va_D A [(h0, .inr (1, [.int σ.1, .int σ.2.1, .int σ.2.2.1, .int σ.2.2.2.1, .int σ.2.2.2.2.1, .int σ.2.2.2.2.2.1, .int σ.2.2.2.2.2.2.1, .int σ.2.2.2.2.2.2.2]))] := hD
  have fl_9 := hts (.fieldLink RX2 9 "OnePlaceEach$Stepped" "places" "I") (by decide +kernel)
  have fl_25 := hts (.fieldLink RX2 25 "OnePlaceEach$Stepped" "lot" "I") (by decide +kernel)
  have hin0 : ∀ w ∈ wsX20, w ∈ wsX2_draw := by decide +kernel
  have hl := lv_entry ([.ref h0]) (n := 2) (Nat.le_of_ble_eq_true rfl)
  rw [lg_entry_eq]
  generalize (lg_sl ([.ref h0]) ++ List.replicate (2 - (lg_sl ([.ref h0])).length) Slot.unset).toArray = ls at hl ⊢
  have hl : lv_has ls 2 [(0, .ref h0)] := hl
  unfold wp_X2_draw at hw
  skip
  obtain ⟨H, hH⟩ : ∃ H, H = s.heap := ⟨_, rfl⟩
  obtain ⟨locs, hlo⟩ : ∃ q : List Loc, q = [] := ⟨_, rfl⟩
  rw [← hH] at hP
  have hS : va_S A s.heap H locs := by rw [hH, hlo]; exact hS
  suffices hgo : W p l e (headSpec wsX2_draw ({ frames := 0, cells := 0, slots := 0, locals := 0 } : Room)).room s m _ below meth c H locs 0 0 _ (F0 m 0 ls []) by rw [hH, hlo] at hgo; exact hgo
  refine lv_aload_n hx hb dX2_draw_0 rfl (lv_at hl 0 rfl) ?_
  refine lv_aload_n hx hb dX2_draw_1 rfl (lv_at hl 0 rfl) ?_
  refine va_get (D := (dC, dI)) (ci := 1) (v := .int σ.2.2.2.2.1) (C := RX2) (T := TX2) (N := 8) hx hb hts hin0 hown hK hP 0 rfl rfl 4 (by decide) fl_25 (fun _ h9 => h9) rfl dX2_draw_2 ?_
  refine lv_ldc (v := (1103515245 : Int32)) hx hb hown (hts (.constant RX2 65 (1103515245 : Int32)) (by decide +kernel)) dX2_draw_5 ?_
  refine lv_imul hx hb dX2_draw_7 ?_
  refine lv_topi (fun v1 e2 => ?_)
  have hw := hw v1 e2
  refine lv_sipush (v := (12345 : Int32)) hx hb dX2_draw_8 (by decide) ?_
  refine lv_iadd hx hb dX2_draw_11 ?_
  refine lv_ldc (v := (2147483647 : Int32)) hx hb hown (hts (.constant RX2 66 (2147483647 : Int32)) (by decide +kernel)) dX2_draw_12 ?_
  refine lv_iand hx hb dX2_draw_14 ?_
  refine va_put (D := (dC, dI)) (ci := 1) (v := .int ((v1 + (12345 : Int32)) &&& (2147483647 : Int32))) (ty := .int) (C := RX2) (T := TX2) (N := 8) hx hb hts hin0 tyX2 tyX2_ok nmX2 hown hK hP hD hS 0 rfl rfl 4 (by decide) fl_25 (fun _ h9 => h9) rfl (by decide +kernel) rfl rfl (Nat.le_of_ble_eq_true rfl) dX2_draw_15 (fun H locs hP hD hS => ?_)
  have hP : va_P (dC, dI) vwCl [(h0, .inr (1, [.int σ.1, .int σ.2.1, .int σ.2.2.1, .int σ.2.2.2.1, .int ((v1 + (12345 : Int32)) &&& (2147483647 : Int32)), .int σ.2.2.2.2.2.1, .int σ.2.2.2.2.2.2.1, .int σ.2.2.2.2.2.2.2]))] H := hP
  have hD : va_D A [(h0, .inr (1, [.int σ.1, .int σ.2.1, .int σ.2.2.1, .int σ.2.2.2.1, .int ((v1 + (12345 : Int32)) &&& (2147483647 : Int32)), .int σ.2.2.2.2.2.1, .int σ.2.2.2.2.2.2.1, .int σ.2.2.2.2.2.2.2]))] := hD
  refine lv_aload_n hx hb dX2_draw_18 rfl (lv_at hl 0 rfl) ?_
  refine va_get (D := (dC, dI)) (ci := 1) (v := .int σ.1) (C := RX2) (T := TX2) (N := 8) hx hb hts hin0 hown hK hP 0 rfl rfl 0 (by decide) fl_9 (fun _ h9 => h9) rfl dX2_draw_19 ?_
  refine lv_iconst (v := (1 : Int32)) hx hb dX2_draw_22 (by decide) ?_
  refine lv_iadd hx hb dX2_draw_23 ?_
  refine lv_istore_n (lv' := [(1, .int (σ.1 + (1 : Int32))), (0, .ref h0)]) hx hb dX2_draw_24 rfl hl (by decide) rfl (fun ls hl => ?_)
  refine lv_iload_n hx hb dX2_draw_25 rfl (lv_at hl 0 rfl) ?_
  refine lv_if_le (tgt := 41) hx hb dX2_draw_26 (by decide) (fun c3 => ?_) (fun c3 => ?_)
  · have hw := hw.1 c3
    refine lv_iconst (v := (0 : Int32)) hx hb dX2_draw_41 (by decide) ?_
    exact W.iret (v := (0 : Int32)) hx hb hr (fun t ht hW => ⟨⟨(0 : Int32), ((cl2 h0 (σ.1, σ.2.1, σ.2.2.1, σ.2.2.2.1, ((v1 + (12345 : Int32)) &&& (2147483647 : Int32)), σ.2.2.2.2.2.1, σ.2.2.2.2.2.2.1, σ.2.2.2.2.2.2.2))), rfl, ⟨(σ.1, σ.2.1, σ.2.2.1, σ.2.2.2.1, ((v1 + (12345 : Int32)) &&& (2147483647 : Int32)), σ.2.2.2.2.2.1, σ.2.2.2.2.2.2.1, σ.2.2.2.2.2.2.2), hw, rfl⟩, by rw [ht]; exact hP, va_K.moved hW.alike hK, hD⟩, hS.F ht⟩) hS.2.2 dX2_draw_42
  · have hw := hw.2 c3
    refine lv_aload_n hx hb dX2_draw_29 rfl (lv_at hl 1 rfl) ?_
    refine va_get (D := (dC, dI)) (ci := 1) (v := .int ((v1 + (12345 : Int32)) &&& (2147483647 : Int32))) (C := RX2) (T := TX2) (N := 8) hx hb hts hin0 hown hK hP 0 rfl rfl 4 (by decide) fl_25 (fun _ h9 => h9) rfl dX2_draw_30 ?_
    refine lv_bipush (v := (16 : Int32)) hx hb dX2_draw_33 (by decide) ?_
    refine lv_ishr hx hb dX2_draw_35 ?_
    refine lv_iload_n hx hb dX2_draw_36 rfl (lv_at hl 0 rfl) ?_
    have z4 := hw.1
    have hw := hw.2
    refine lv_irem hx hb dX2_draw_37 z4 ?_
    refine lv_goto (tgt := 42) hx hb dX2_draw_38 (by decide) ?_
    exact W.iret (v := ((((v1 + (12345 : Int32)) &&& (2147483647 : Int32)) >>> ((16 : Int32) &&& (31 : Int32))) - (((v1 + (12345 : Int32)) &&& (2147483647 : Int32)) >>> ((16 : Int32) &&& (31 : Int32))) / (σ.1 + (1 : Int32)) * (σ.1 + (1 : Int32)))) hx hb hr (fun t ht hW => ⟨⟨((((v1 + (12345 : Int32)) &&& (2147483647 : Int32)) >>> ((16 : Int32) &&& (31 : Int32))) - (((v1 + (12345 : Int32)) &&& (2147483647 : Int32)) >>> ((16 : Int32) &&& (31 : Int32))) / (σ.1 + (1 : Int32)) * (σ.1 + (1 : Int32))), ((cl2 h0 (σ.1, σ.2.1, σ.2.2.1, σ.2.2.2.1, ((v1 + (12345 : Int32)) &&& (2147483647 : Int32)), σ.2.2.2.2.2.1, σ.2.2.2.2.2.2.1, σ.2.2.2.2.2.2.2))), rfl, ⟨(σ.1, σ.2.1, σ.2.2.1, σ.2.2.2.1, ((v1 + (12345 : Int32)) &&& (2147483647 : Int32)), σ.2.2.2.2.2.1, σ.2.2.2.2.2.2.1, σ.2.2.2.2.2.2.2), hw, rfl⟩, by rw [ht]; exact hP, va_K.moved hW.alike hK, hD⟩, hS.F ht⟩) hS.2.2 dX2_draw_42
set_option maxHeartbeats 4000000 in
set_option maxRecDepth 100000 in
theorem c_X2_exchange (l : Launch) (dC : Nat → ClassId) (dI : Nat → Nat → Nat) (h0 : Nat)  (σ : SS) (p0 : Int32) (p1 : Int32) (post : Int32 → SS → Prop) (hw : wp_X2_exchange p0 p1 σ post) : KI l yX2_exchange wsX2_exchange ({ frames := 2, cells := 0, slots := 0, locals := 42 } : Room) (dC, dI) [] (cl2 h0 σ) [.ref h0, .int p0, .int p1] (fun r u => ∃ σ', post r σ' ∧ u = (cl2 h0 (σ'))) := by
  intro sz
  refine Met.ofW (cc := cX2_exchange) (maxL := 6) (ret := (some .boolean)) (by decide) rfl ?_
  intro p e s m args below meth c s₁ B hml hv
  obtain ⟨rfl, hsz, hP, hK, hD0, hnw⟩ := hv
  have hx := B.exec
  have hb := B.bytes
  have hr := B.returns
  have hts := atoms_spec (ws := wsX2_exchange) B.pre
  have hown : s.vm.findClass RX2 = some m.cls := findClass_of_methodNamed B.named
  have hlocks := B.notSynchronized
  subst hsz
  have hD := hD0.self (sz := s.heap.size)
  generalize hAe : va_A (cl2 h0 σ) s.heap.size = A at hD ⊢
  have hA : ∀ q : Nat, s.heap.size ≤ q → A q := fun q h => by rw [← hAe]; exact Or.inr h
  have hS : va_S A s.heap s.heap [] := va_S.rf
  have hP : va_P (dC, dI) vwCl [(h0, .inr (1, [.int σ.1, .int σ.2.1, .int σ.2.2.1, .int σ.2.2.2.1, .int σ.2.2.2.2.1, .int σ.2.2.2.2.2.1, .int σ.2.2.2.2.2.2.1, .int σ.2.2.2.2.2.2.2]))] s.heap := hP
  have hD : va_D A [(h0, .inr (1, [.int σ.1, .int σ.2.1, .int σ.2.2.1, .int σ.2.2.2.1, .int σ.2.2.2.2.1, .int σ.2.2.2.2.2.1, .int σ.2.2.2.2.2.2.1, .int σ.2.2.2.2.2.2.2]))] := hD
  have fl_34 := hts (.fieldLink RX2 34 "OnePlaceEach$Stepped" "moved" "I") (by decide +kernel)
  have hin0 : ∀ w ∈ wsX20, w ∈ wsX2_exchange := by decide +kernel
  have hl := lv_entry ([.ref h0, .int p0, .int p1]) (n := 6) (Nat.le_of_ble_eq_true rfl)
  rw [lg_entry_eq]
  generalize (lg_sl ([.ref h0, .int p0, .int p1]) ++ List.replicate (6 - (lg_sl ([.ref h0, .int p0, .int p1])).length) Slot.unset).toArray = ls at hl ⊢
  have hl : lv_has ls 6 [(0, .ref h0), (1, .int p0), (2, .int p1)] := hl
  unfold wp_X2_exchange at hw
  skip
  obtain ⟨H, hH⟩ : ∃ H, H = s.heap := ⟨_, rfl⟩
  obtain ⟨locs, hlo⟩ : ∃ q : List Loc, q = [] := ⟨_, rfl⟩
  rw [← hH] at hP
  have hS : va_S A s.heap H locs := by rw [hH, hlo]; exact hS
  suffices hgo : W p l e (headSpec wsX2_exchange ({ frames := 2, cells := 0, slots := 0, locals := 42 } : Room)).room s m _ below meth c H locs 0 0 _ (F0 m 0 ls []) by rw [hH, hlo] at hgo; exact hgo
  refine lv_aload_n hx hb dX2_exchange_0 rfl (lv_at hl 0 rfl) ?_
  refine lv_iload_n hx hb dX2_exchange_1 rfl (lv_at hl 1 rfl) ?_
  have hPc := hP
  have hDc := hD
  have hKc := hK
  have hFc := va_free (wc := [(h0, .inr (1, [.int σ.1, .int σ.2.1, .int σ.2.2.1, .int σ.2.2.2.1, .int σ.2.2.2.2.1, .int σ.2.2.2.2.2.1, .int σ.2.2.2.2.2.2.1, .int σ.2.2.2.2.2.2.2]))]) hD hS hA [0] rfl
  refine kc_i (wr := ([] : va_W)) (kr_V (As := [.int p0]) (rest := []) (b := h0) (ws := [(h0, .inr (1, [.int σ.1, .int σ.2.1, .int σ.2.2.1, .int σ.2.2.2.1, .int σ.2.2.2.2.1, .int σ.2.2.2.2.2.1, .int σ.2.2.2.2.2.2.1, .int σ.2.2.2.2.2.2.2]))]) ⟨hx, hb, hml, hown, hts⟩ (c_X2_sortAt l dC dI h0 σ p0 _ hw H.size) (cwV 1 hts gX2_exchange_X2_sortAt rfl rfl rfl (by decide +kernel) ⟨Nat.le_of_ble_eq_true rfl, Nat.le_of_ble_eq_true rfl⟩) 1 0 hK rfl rfl rfl hKc hnw hP hD hPc hDc rfl hl.1 rfl (Nat.le_of_ble_eq_true rfl) dX2_exchange_2 ⟨Nat.zero_le _, Nat.zero_le _⟩) hP hD hS hFc [0] [] rfl rfl (by decide) (by decide) (fun r1 u1 H locs hq hP hD hS => ?_)
  obtain ⟨hw, rfl⟩ := hq
  have hP : va_P (dC, dI) vwCl [(h0, .inr (1, [.int σ.1, .int σ.2.1, .int σ.2.2.1, .int σ.2.2.2.1, .int σ.2.2.2.2.1, .int σ.2.2.2.2.2.1, .int σ.2.2.2.2.2.2.1, .int σ.2.2.2.2.2.2.2]))] H := hP
  have hD : va_D A [(h0, .inr (1, [.int σ.1, .int σ.2.1, .int σ.2.2.1, .int σ.2.2.2.1, .int σ.2.2.2.2.1, .int σ.2.2.2.2.2.1, .int σ.2.2.2.2.2.2.1, .int σ.2.2.2.2.2.2.2]))] := hD
  refine lv_istore_n (lv' := [(3, .int r1), (0, .ref h0), (1, .int p0), (2, .int p1)]) hx hb dX2_exchange_5 rfl hl (by decide) rfl (fun ls hl => ?_)
  refine lv_aload_n hx hb dX2_exchange_6 rfl (lv_at hl 1 rfl) ?_
  refine lv_iload_n hx hb dX2_exchange_7 rfl (lv_at hl 3 rfl) ?_
  have hPc := hP
  have hDc := hD
  have hKc := hK
  have hFc := va_free (wc := [(h0, .inr (1, [.int σ.1, .int σ.2.1, .int σ.2.2.1, .int σ.2.2.2.1, .int σ.2.2.2.2.1, .int σ.2.2.2.2.2.1, .int σ.2.2.2.2.2.2.1, .int σ.2.2.2.2.2.2.2]))]) hD hS hA [0] rfl
  refine kc_i (wr := ([] : va_W)) (kr_V (As := [.int p1]) (rest := []) (b := h0) (ws := [(h0, .inr (1, [.int σ.1, .int σ.2.1, .int σ.2.2.1, .int σ.2.2.2.1, .int σ.2.2.2.2.1, .int σ.2.2.2.2.2.1, .int σ.2.2.2.2.2.2.1, .int σ.2.2.2.2.2.2.2]))]) ⟨hx, hb, hml, hown, hts⟩ (c_X2_sortAt l dC dI h0 σ p1 _ hw H.size) (cwV 1 hts gX2_exchange_X2_sortAt rfl rfl rfl (by decide +kernel) ⟨Nat.le_of_ble_eq_true rfl, Nat.le_of_ble_eq_true rfl⟩) 1 0 hK rfl rfl rfl hKc hnw hP hD hPc hDc rfl hl.1 rfl (Nat.le_of_ble_eq_true rfl) dX2_exchange_8 ⟨Nat.zero_le _, Nat.zero_le _⟩) hP hD hS hFc [0] [] rfl rfl (by decide) (by decide) (fun r3 u1 H locs hq hP hD hS => ?_)
  obtain ⟨hw, rfl⟩ := hq
  have hP : va_P (dC, dI) vwCl [(h0, .inr (1, [.int σ.1, .int σ.2.1, .int σ.2.2.1, .int σ.2.2.2.1, .int σ.2.2.2.2.1, .int σ.2.2.2.2.2.1, .int σ.2.2.2.2.2.2.1, .int σ.2.2.2.2.2.2.2]))] H := hP
  have hD : va_D A [(h0, .inr (1, [.int σ.1, .int σ.2.1, .int σ.2.2.1, .int σ.2.2.2.1, .int σ.2.2.2.2.1, .int σ.2.2.2.2.2.1, .int σ.2.2.2.2.2.2.1, .int σ.2.2.2.2.2.2.2]))] := hD
  refine lv_istore (lv' := [(4, .int r3), (3, .int r1), (0, .ref h0), (1, .int p0), (2, .int p1)]) hx hb dX2_exchange_11 hl (by decide) rfl (fun ls hl => ?_)
  refine lv_iload_n hx hb dX2_exchange_13 rfl (lv_at hl 1 rfl) ?_
  refine lv_iconst (v := (1 : Int32)) hx hb dX2_exchange_14 (by decide) ?_
  refine lv_icmp_ne (tgt := 24) hx hb dX2_exchange_15 (by decide) (fun c5 => ?_) (fun c5 => ?_)
  · have hw := hw.1 c5
    refine lv_iload_n hx hb dX2_exchange_24 rfl (lv_at hl 1 rfl) ?_
    refine lv_iconst (v := (2 : Int32)) hx hb dX2_exchange_25 (by decide) ?_
    refine lv_icmp_ne (tgt := 38) hx hb dX2_exchange_26 (by decide) (fun c6 => ?_) (fun c6 => ?_)
    · have hw := hw.1 c6
      refine lv_iconst (v := (0 : Int32)) hx hb dX2_exchange_38 (by decide) ?_
      refine lv_istore (lv' := [(5, .int (0 : Int32)), (4, .int r3), (3, .int r1), (0, .ref h0), (1, .int p0), (2, .int p1)]) hx hb dX2_exchange_39 hl (by decide) rfl (fun ls hl => ?_)
      refine lv_iload hx hb dX2_exchange_41 (lv_at hl 0 rfl) ?_
      refine lv_if_eq (tgt := 69) hx hb dX2_exchange_43 (by decide) (fun _ => ?_) (fun cz => absurd cz (by decide))
      refine lv_iload hx hb dX2_exchange_69 (lv_at hl 0 rfl) ?_
      exact W.zret (v := (0 : Int32)) hx hb hr (nb_nar nb_0) (fun t ht hW => ⟨⟨(0 : Int32), ((cl2 h0 σ)), rfl, ⟨σ, hw, rfl⟩, by rw [ht]; exact hP, va_K.moved hW.alike hK, hD⟩, hS.F ht⟩) hS.2.2 dX2_exchange_71
    · have hw := hw.2 c6
      refine lv_iload hx hb dX2_exchange_29 (lv_at hl 0 rfl) ?_
      refine lv_if_ne (tgt := 38) hx hb dX2_exchange_31 (by decide) (fun c7 => ?_) (fun c7 => ?_)
      · have hw := hw.1 c7
        refine lv_iconst (v := (0 : Int32)) hx hb dX2_exchange_38 (by decide) ?_
        refine lv_istore (lv' := [(5, .int (0 : Int32)), (4, .int r3), (3, .int r1), (0, .ref h0), (1, .int p0), (2, .int p1)]) hx hb dX2_exchange_39 hl (by decide) rfl (fun ls hl => ?_)
        refine lv_iload hx hb dX2_exchange_41 (lv_at hl 0 rfl) ?_
        refine lv_if_eq (tgt := 69) hx hb dX2_exchange_43 (by decide) (fun _ => ?_) (fun cz => absurd cz (by decide))
        refine lv_iload hx hb dX2_exchange_69 (lv_at hl 0 rfl) ?_
        exact W.zret (v := (0 : Int32)) hx hb hr (nb_nar nb_0) (fun t ht hW => ⟨⟨(0 : Int32), ((cl2 h0 σ)), rfl, ⟨σ, hw, rfl⟩, by rw [ht]; exact hP, va_K.moved hW.alike hK, hD⟩, hS.F ht⟩) hS.2.2 dX2_exchange_71
      · have hw := hw.2 c7
        refine lv_iconst (v := (1 : Int32)) hx hb dX2_exchange_34 (by decide) ?_
        refine lv_goto (tgt := 39) hx hb dX2_exchange_35 (by decide) ?_
        refine lv_istore (lv' := [(5, .int (1 : Int32)), (4, .int r3), (3, .int r1), (0, .ref h0), (1, .int p0), (2, .int p1)]) hx hb dX2_exchange_39 hl (by decide) rfl (fun ls hl => ?_)
        refine lv_iload hx hb dX2_exchange_41 (lv_at hl 0 rfl) ?_
        refine lv_if_eq (tgt := 69) hx hb dX2_exchange_43 (by decide) (fun cz => absurd cz (by decide)) (fun _ => ?_)
        refine lv_aload_n hx hb dX2_exchange_46 rfl (lv_at hl 3 rfl) ?_
        refine lv_iload_n hx hb dX2_exchange_47 rfl (lv_at hl 4 rfl) ?_
        refine lv_iload hx hb dX2_exchange_48 (lv_at hl 1 rfl) ?_
        have hPc := hP
        have hDc := hD
        have hKc := hK
        have hFc := va_free (wc := [(h0, .inr (1, [.int σ.1, .int σ.2.1, .int σ.2.2.1, .int σ.2.2.2.1, .int σ.2.2.2.2.1, .int σ.2.2.2.2.2.1, .int σ.2.2.2.2.2.2.1, .int σ.2.2.2.2.2.2.2]))]) hD hS hA [0] rfl
        refine kc_v (wr := ([] : va_W)) (kr_V (As := [.int p0, .int r3]) (rest := []) (b := h0) (ws := [(h0, .inr (1, [.int σ.1, .int σ.2.1, .int σ.2.2.1, .int σ.2.2.2.1, .int σ.2.2.2.2.1, .int σ.2.2.2.2.2.1, .int σ.2.2.2.2.2.2.1, .int σ.2.2.2.2.2.2.2]))]) ⟨hx, hb, hml, hown, hts⟩ (c_X2_put l dC dI h0 σ p0 r3 _ hw H.size) (cwV 2 hts gX2_exchange_X2_put rfl rfl rfl (by decide +kernel) ⟨Nat.le_of_ble_eq_true rfl, Nat.le_of_ble_eq_true rfl⟩) 1 0 hK rfl rfl rfl hKc hnw hP hD hPc hDc rfl hl.1 rfl (Nat.le_of_ble_eq_true rfl) dX2_exchange_50 ⟨Nat.zero_le _, Nat.zero_le _⟩) hP hD hS hFc [0] [] rfl rfl (by decide) (by decide) (fun u1 H locs hq hP hD hS => ?_)
        obtain ⟨σ9, hw, rfl⟩ := hq
        have hP : va_P (dC, dI) vwCl [(h0, .inr (1, [.int σ9.1, .int σ9.2.1, .int σ9.2.2.1, .int σ9.2.2.2.1, .int σ9.2.2.2.2.1, .int σ9.2.2.2.2.2.1, .int σ9.2.2.2.2.2.2.1, .int σ9.2.2.2.2.2.2.2]))] H := hP
        have hD : va_D A [(h0, .inr (1, [.int σ9.1, .int σ9.2.1, .int σ9.2.2.1, .int σ9.2.2.2.1, .int σ9.2.2.2.2.1, .int σ9.2.2.2.2.2.1, .int σ9.2.2.2.2.2.2.1, .int σ9.2.2.2.2.2.2.2]))] := hD
        refine lv_aload_n hx hb dX2_exchange_53 rfl (lv_at hl 3 rfl) ?_
        refine lv_iload_n hx hb dX2_exchange_54 rfl (lv_at hl 5 rfl) ?_
        refine lv_iload_n hx hb dX2_exchange_55 rfl (lv_at hl 2 rfl) ?_
        have hPc := hP
        have hDc := hD
        have hKc := hK
        have hFc := va_free (wc := [(h0, .inr (1, [.int σ9.1, .int σ9.2.1, .int σ9.2.2.1, .int σ9.2.2.2.1, .int σ9.2.2.2.2.1, .int σ9.2.2.2.2.2.1, .int σ9.2.2.2.2.2.2.1, .int σ9.2.2.2.2.2.2.2]))]) hD hS hA [0] rfl
        refine kc_v (wr := ([] : va_W)) (kr_V (As := [.int p1, .int r1]) (rest := []) (b := h0) (ws := [(h0, .inr (1, [.int σ9.1, .int σ9.2.1, .int σ9.2.2.1, .int σ9.2.2.2.1, .int σ9.2.2.2.2.1, .int σ9.2.2.2.2.2.1, .int σ9.2.2.2.2.2.2.1, .int σ9.2.2.2.2.2.2.2]))]) ⟨hx, hb, hml, hown, hts⟩ (c_X2_put l dC dI h0 σ9 p1 r1 _ hw H.size) (cwV 2 hts gX2_exchange_X2_put rfl rfl rfl (by decide +kernel) ⟨Nat.le_of_ble_eq_true rfl, Nat.le_of_ble_eq_true rfl⟩) 1 0 hK rfl rfl rfl hKc hnw hP hD hPc hDc rfl hl.1 rfl (Nat.le_of_ble_eq_true rfl) dX2_exchange_56 ⟨Nat.zero_le _, Nat.zero_le _⟩) hP hD hS hFc [0] [] rfl rfl (by decide) (by decide) (fun u1 H locs hq hP hD hS => ?_)
        obtain ⟨σ11, hw, rfl⟩ := hq
        have hP : va_P (dC, dI) vwCl [(h0, .inr (1, [.int σ11.1, .int σ11.2.1, .int σ11.2.2.1, .int σ11.2.2.2.1, .int σ11.2.2.2.2.1, .int σ11.2.2.2.2.2.1, .int σ11.2.2.2.2.2.2.1, .int σ11.2.2.2.2.2.2.2]))] H := hP
        have hD : va_D A [(h0, .inr (1, [.int σ11.1, .int σ11.2.1, .int σ11.2.2.1, .int σ11.2.2.2.1, .int σ11.2.2.2.2.1, .int σ11.2.2.2.2.2.1, .int σ11.2.2.2.2.2.2.1, .int σ11.2.2.2.2.2.2.2]))] := hD
        refine lv_aload_n hx hb dX2_exchange_59 rfl (lv_at hl 3 rfl) ?_
        refine lv_dup hx hb dX2_exchange_60 rfl ?_
        refine va_get (D := (dC, dI)) (ci := 1) (v := .int σ11.2.2.2.2.2.2.2) (C := RX2) (T := TX2) (N := 8) hx hb hts hin0 hown hK hP 0 rfl rfl 7 (by decide) fl_34 (fun _ h9 => h9) rfl dX2_exchange_61 ?_
        refine lv_iconst (v := (1 : Int32)) hx hb dX2_exchange_64 (by decide) ?_
        refine lv_iadd hx hb dX2_exchange_65 ?_
        refine va_put (D := (dC, dI)) (ci := 1) (v := .int (σ11.2.2.2.2.2.2.2 + (1 : Int32))) (ty := .int) (C := RX2) (T := TX2) (N := 8) hx hb hts hin0 tyX2 tyX2_ok nmX2 hown hK hP hD hS 0 rfl rfl 7 (by decide) fl_34 (fun _ h9 => h9) rfl (by decide +kernel) rfl rfl (Nat.le_of_ble_eq_true rfl) dX2_exchange_66 (fun H locs hP hD hS => ?_)
        have hP : va_P (dC, dI) vwCl [(h0, .inr (1, [.int σ11.1, .int σ11.2.1, .int σ11.2.2.1, .int σ11.2.2.2.1, .int σ11.2.2.2.2.1, .int σ11.2.2.2.2.2.1, .int σ11.2.2.2.2.2.2.1, .int (σ11.2.2.2.2.2.2.2 + (1 : Int32))]))] H := hP
        have hD : va_D A [(h0, .inr (1, [.int σ11.1, .int σ11.2.1, .int σ11.2.2.1, .int σ11.2.2.2.1, .int σ11.2.2.2.2.1, .int σ11.2.2.2.2.2.1, .int σ11.2.2.2.2.2.2.1, .int (σ11.2.2.2.2.2.2.2 + (1 : Int32))]))] := hD
        refine lv_iload hx hb dX2_exchange_69 (lv_at hl 0 rfl) ?_
        exact W.zret (v := (1 : Int32)) hx hb hr (nb_nar nb_1) (fun t ht hW => ⟨⟨(1 : Int32), ((cl2 h0 (σ11.1, σ11.2.1, σ11.2.2.1, σ11.2.2.2.1, σ11.2.2.2.2.1, σ11.2.2.2.2.2.1, σ11.2.2.2.2.2.2.1, (σ11.2.2.2.2.2.2.2 + (1 : Int32))))), rfl, ⟨(σ11.1, σ11.2.1, σ11.2.2.1, σ11.2.2.2.1, σ11.2.2.2.2.1, σ11.2.2.2.2.2.1, σ11.2.2.2.2.2.2.1, (σ11.2.2.2.2.2.2.2 + (1 : Int32))), hw, rfl⟩, by rw [ht]; exact hP, va_K.moved hW.alike hK, hD⟩, hS.F ht⟩) hS.2.2 dX2_exchange_71
  · have hw := hw.2 c5
    refine lv_iload hx hb dX2_exchange_18 (lv_at hl 0 rfl) ?_
    refine lv_iconst (v := (1 : Int32)) hx hb dX2_exchange_20 (by decide) ?_
    refine lv_icmp_ne (tgt := 34) hx hb dX2_exchange_21 (by decide) (fun c12 => ?_) (fun c12 => ?_)
    · have hw := hw.1 c12
      refine lv_iconst (v := (1 : Int32)) hx hb dX2_exchange_34 (by decide) ?_
      refine lv_goto (tgt := 39) hx hb dX2_exchange_35 (by decide) ?_
      refine lv_istore (lv' := [(5, .int (1 : Int32)), (4, .int r3), (3, .int r1), (0, .ref h0), (1, .int p0), (2, .int p1)]) hx hb dX2_exchange_39 hl (by decide) rfl (fun ls hl => ?_)
      refine lv_iload hx hb dX2_exchange_41 (lv_at hl 0 rfl) ?_
      refine lv_if_eq (tgt := 69) hx hb dX2_exchange_43 (by decide) (fun cz => absurd cz (by decide)) (fun _ => ?_)
      refine lv_aload_n hx hb dX2_exchange_46 rfl (lv_at hl 3 rfl) ?_
      refine lv_iload_n hx hb dX2_exchange_47 rfl (lv_at hl 4 rfl) ?_
      refine lv_iload hx hb dX2_exchange_48 (lv_at hl 1 rfl) ?_
      have hPc := hP
      have hDc := hD
      have hKc := hK
      have hFc := va_free (wc := [(h0, .inr (1, [.int σ.1, .int σ.2.1, .int σ.2.2.1, .int σ.2.2.2.1, .int σ.2.2.2.2.1, .int σ.2.2.2.2.2.1, .int σ.2.2.2.2.2.2.1, .int σ.2.2.2.2.2.2.2]))]) hD hS hA [0] rfl
      refine kc_v (wr := ([] : va_W)) (kr_V (As := [.int p0, .int r3]) (rest := []) (b := h0) (ws := [(h0, .inr (1, [.int σ.1, .int σ.2.1, .int σ.2.2.1, .int σ.2.2.2.1, .int σ.2.2.2.2.1, .int σ.2.2.2.2.2.1, .int σ.2.2.2.2.2.2.1, .int σ.2.2.2.2.2.2.2]))]) ⟨hx, hb, hml, hown, hts⟩ (c_X2_put l dC dI h0 σ p0 r3 _ hw H.size) (cwV 2 hts gX2_exchange_X2_put rfl rfl rfl (by decide +kernel) ⟨Nat.le_of_ble_eq_true rfl, Nat.le_of_ble_eq_true rfl⟩) 1 0 hK rfl rfl rfl hKc hnw hP hD hPc hDc rfl hl.1 rfl (Nat.le_of_ble_eq_true rfl) dX2_exchange_50 ⟨Nat.zero_le _, Nat.zero_le _⟩) hP hD hS hFc [0] [] rfl rfl (by decide) (by decide) (fun u1 H locs hq hP hD hS => ?_)
      obtain ⟨σ14, hw, rfl⟩ := hq
      have hP : va_P (dC, dI) vwCl [(h0, .inr (1, [.int σ14.1, .int σ14.2.1, .int σ14.2.2.1, .int σ14.2.2.2.1, .int σ14.2.2.2.2.1, .int σ14.2.2.2.2.2.1, .int σ14.2.2.2.2.2.2.1, .int σ14.2.2.2.2.2.2.2]))] H := hP
      have hD : va_D A [(h0, .inr (1, [.int σ14.1, .int σ14.2.1, .int σ14.2.2.1, .int σ14.2.2.2.1, .int σ14.2.2.2.2.1, .int σ14.2.2.2.2.2.1, .int σ14.2.2.2.2.2.2.1, .int σ14.2.2.2.2.2.2.2]))] := hD
      refine lv_aload_n hx hb dX2_exchange_53 rfl (lv_at hl 3 rfl) ?_
      refine lv_iload_n hx hb dX2_exchange_54 rfl (lv_at hl 5 rfl) ?_
      refine lv_iload_n hx hb dX2_exchange_55 rfl (lv_at hl 2 rfl) ?_
      have hPc := hP
      have hDc := hD
      have hKc := hK
      have hFc := va_free (wc := [(h0, .inr (1, [.int σ14.1, .int σ14.2.1, .int σ14.2.2.1, .int σ14.2.2.2.1, .int σ14.2.2.2.2.1, .int σ14.2.2.2.2.2.1, .int σ14.2.2.2.2.2.2.1, .int σ14.2.2.2.2.2.2.2]))]) hD hS hA [0] rfl
      refine kc_v (wr := ([] : va_W)) (kr_V (As := [.int p1, .int r1]) (rest := []) (b := h0) (ws := [(h0, .inr (1, [.int σ14.1, .int σ14.2.1, .int σ14.2.2.1, .int σ14.2.2.2.1, .int σ14.2.2.2.2.1, .int σ14.2.2.2.2.2.1, .int σ14.2.2.2.2.2.2.1, .int σ14.2.2.2.2.2.2.2]))]) ⟨hx, hb, hml, hown, hts⟩ (c_X2_put l dC dI h0 σ14 p1 r1 _ hw H.size) (cwV 2 hts gX2_exchange_X2_put rfl rfl rfl (by decide +kernel) ⟨Nat.le_of_ble_eq_true rfl, Nat.le_of_ble_eq_true rfl⟩) 1 0 hK rfl rfl rfl hKc hnw hP hD hPc hDc rfl hl.1 rfl (Nat.le_of_ble_eq_true rfl) dX2_exchange_56 ⟨Nat.zero_le _, Nat.zero_le _⟩) hP hD hS hFc [0] [] rfl rfl (by decide) (by decide) (fun u1 H locs hq hP hD hS => ?_)
      obtain ⟨σ16, hw, rfl⟩ := hq
      have hP : va_P (dC, dI) vwCl [(h0, .inr (1, [.int σ16.1, .int σ16.2.1, .int σ16.2.2.1, .int σ16.2.2.2.1, .int σ16.2.2.2.2.1, .int σ16.2.2.2.2.2.1, .int σ16.2.2.2.2.2.2.1, .int σ16.2.2.2.2.2.2.2]))] H := hP
      have hD : va_D A [(h0, .inr (1, [.int σ16.1, .int σ16.2.1, .int σ16.2.2.1, .int σ16.2.2.2.1, .int σ16.2.2.2.2.1, .int σ16.2.2.2.2.2.1, .int σ16.2.2.2.2.2.2.1, .int σ16.2.2.2.2.2.2.2]))] := hD
      refine lv_aload_n hx hb dX2_exchange_59 rfl (lv_at hl 3 rfl) ?_
      refine lv_dup hx hb dX2_exchange_60 rfl ?_
      refine va_get (D := (dC, dI)) (ci := 1) (v := .int σ16.2.2.2.2.2.2.2) (C := RX2) (T := TX2) (N := 8) hx hb hts hin0 hown hK hP 0 rfl rfl 7 (by decide) fl_34 (fun _ h9 => h9) rfl dX2_exchange_61 ?_
      refine lv_iconst (v := (1 : Int32)) hx hb dX2_exchange_64 (by decide) ?_
      refine lv_iadd hx hb dX2_exchange_65 ?_
      refine va_put (D := (dC, dI)) (ci := 1) (v := .int (σ16.2.2.2.2.2.2.2 + (1 : Int32))) (ty := .int) (C := RX2) (T := TX2) (N := 8) hx hb hts hin0 tyX2 tyX2_ok nmX2 hown hK hP hD hS 0 rfl rfl 7 (by decide) fl_34 (fun _ h9 => h9) rfl (by decide +kernel) rfl rfl (Nat.le_of_ble_eq_true rfl) dX2_exchange_66 (fun H locs hP hD hS => ?_)
      have hP : va_P (dC, dI) vwCl [(h0, .inr (1, [.int σ16.1, .int σ16.2.1, .int σ16.2.2.1, .int σ16.2.2.2.1, .int σ16.2.2.2.2.1, .int σ16.2.2.2.2.2.1, .int σ16.2.2.2.2.2.2.1, .int (σ16.2.2.2.2.2.2.2 + (1 : Int32))]))] H := hP
      have hD : va_D A [(h0, .inr (1, [.int σ16.1, .int σ16.2.1, .int σ16.2.2.1, .int σ16.2.2.2.1, .int σ16.2.2.2.2.1, .int σ16.2.2.2.2.2.1, .int σ16.2.2.2.2.2.2.1, .int (σ16.2.2.2.2.2.2.2 + (1 : Int32))]))] := hD
      refine lv_iload hx hb dX2_exchange_69 (lv_at hl 0 rfl) ?_
      exact W.zret (v := (1 : Int32)) hx hb hr (nb_nar nb_1) (fun t ht hW => ⟨⟨(1 : Int32), ((cl2 h0 (σ16.1, σ16.2.1, σ16.2.2.1, σ16.2.2.2.1, σ16.2.2.2.2.1, σ16.2.2.2.2.2.1, σ16.2.2.2.2.2.2.1, (σ16.2.2.2.2.2.2.2 + (1 : Int32))))), rfl, ⟨(σ16.1, σ16.2.1, σ16.2.2.1, σ16.2.2.2.1, σ16.2.2.2.2.1, σ16.2.2.2.2.2.1, σ16.2.2.2.2.2.2.1, (σ16.2.2.2.2.2.2.2 + (1 : Int32))), hw, rfl⟩, by rw [ht]; exact hP, va_K.moved hW.alike hK, hD⟩, hS.F ht⟩) hS.2.2 dX2_exchange_71
    · have hw := hw.2 c12
      refine lv_iload_n hx hb dX2_exchange_24 rfl (lv_at hl 1 rfl) ?_
      refine lv_iconst (v := (2 : Int32)) hx hb dX2_exchange_25 (by decide) ?_
      refine lv_icmp_ne (tgt := 38) hx hb dX2_exchange_26 (by decide) (fun c17 => ?_) (fun c17 => ?_)
      · have hw := hw.1 c17
        refine lv_iconst (v := (0 : Int32)) hx hb dX2_exchange_38 (by decide) ?_
        refine lv_istore (lv' := [(5, .int (0 : Int32)), (4, .int r3), (3, .int r1), (0, .ref h0), (1, .int p0), (2, .int p1)]) hx hb dX2_exchange_39 hl (by decide) rfl (fun ls hl => ?_)
        refine lv_iload hx hb dX2_exchange_41 (lv_at hl 0 rfl) ?_
        refine lv_if_eq (tgt := 69) hx hb dX2_exchange_43 (by decide) (fun _ => ?_) (fun cz => absurd cz (by decide))
        refine lv_iload hx hb dX2_exchange_69 (lv_at hl 0 rfl) ?_
        exact W.zret (v := (0 : Int32)) hx hb hr (nb_nar nb_0) (fun t ht hW => ⟨⟨(0 : Int32), ((cl2 h0 σ)), rfl, ⟨σ, hw, rfl⟩, by rw [ht]; exact hP, va_K.moved hW.alike hK, hD⟩, hS.F ht⟩) hS.2.2 dX2_exchange_71
      · have hw := hw.2 c17
        refine lv_iload hx hb dX2_exchange_29 (lv_at hl 0 rfl) ?_
        refine lv_if_ne (tgt := 38) hx hb dX2_exchange_31 (by decide) (fun c18 => ?_) (fun c18 => ?_)
        · have hw := hw.1 c18
          refine lv_iconst (v := (0 : Int32)) hx hb dX2_exchange_38 (by decide) ?_
          refine lv_istore (lv' := [(5, .int (0 : Int32)), (4, .int r3), (3, .int r1), (0, .ref h0), (1, .int p0), (2, .int p1)]) hx hb dX2_exchange_39 hl (by decide) rfl (fun ls hl => ?_)
          refine lv_iload hx hb dX2_exchange_41 (lv_at hl 0 rfl) ?_
          refine lv_if_eq (tgt := 69) hx hb dX2_exchange_43 (by decide) (fun _ => ?_) (fun cz => absurd cz (by decide))
          refine lv_iload hx hb dX2_exchange_69 (lv_at hl 0 rfl) ?_
          exact W.zret (v := (0 : Int32)) hx hb hr (nb_nar nb_0) (fun t ht hW => ⟨⟨(0 : Int32), ((cl2 h0 σ)), rfl, ⟨σ, hw, rfl⟩, by rw [ht]; exact hP, va_K.moved hW.alike hK, hD⟩, hS.F ht⟩) hS.2.2 dX2_exchange_71
        · have hw := hw.2 c18
          refine lv_iconst (v := (1 : Int32)) hx hb dX2_exchange_34 (by decide) ?_
          refine lv_goto (tgt := 39) hx hb dX2_exchange_35 (by decide) ?_
          refine lv_istore (lv' := [(5, .int (1 : Int32)), (4, .int r3), (3, .int r1), (0, .ref h0), (1, .int p0), (2, .int p1)]) hx hb dX2_exchange_39 hl (by decide) rfl (fun ls hl => ?_)
          refine lv_iload hx hb dX2_exchange_41 (lv_at hl 0 rfl) ?_
          refine lv_if_eq (tgt := 69) hx hb dX2_exchange_43 (by decide) (fun cz => absurd cz (by decide)) (fun _ => ?_)
          refine lv_aload_n hx hb dX2_exchange_46 rfl (lv_at hl 3 rfl) ?_
          refine lv_iload_n hx hb dX2_exchange_47 rfl (lv_at hl 4 rfl) ?_
          refine lv_iload hx hb dX2_exchange_48 (lv_at hl 1 rfl) ?_
          have hPc := hP
          have hDc := hD
          have hKc := hK
          have hFc := va_free (wc := [(h0, .inr (1, [.int σ.1, .int σ.2.1, .int σ.2.2.1, .int σ.2.2.2.1, .int σ.2.2.2.2.1, .int σ.2.2.2.2.2.1, .int σ.2.2.2.2.2.2.1, .int σ.2.2.2.2.2.2.2]))]) hD hS hA [0] rfl
          refine kc_v (wr := ([] : va_W)) (kr_V (As := [.int p0, .int r3]) (rest := []) (b := h0) (ws := [(h0, .inr (1, [.int σ.1, .int σ.2.1, .int σ.2.2.1, .int σ.2.2.2.1, .int σ.2.2.2.2.1, .int σ.2.2.2.2.2.1, .int σ.2.2.2.2.2.2.1, .int σ.2.2.2.2.2.2.2]))]) ⟨hx, hb, hml, hown, hts⟩ (c_X2_put l dC dI h0 σ p0 r3 _ hw H.size) (cwV 2 hts gX2_exchange_X2_put rfl rfl rfl (by decide +kernel) ⟨Nat.le_of_ble_eq_true rfl, Nat.le_of_ble_eq_true rfl⟩) 1 0 hK rfl rfl rfl hKc hnw hP hD hPc hDc rfl hl.1 rfl (Nat.le_of_ble_eq_true rfl) dX2_exchange_50 ⟨Nat.zero_le _, Nat.zero_le _⟩) hP hD hS hFc [0] [] rfl rfl (by decide) (by decide) (fun u1 H locs hq hP hD hS => ?_)
          obtain ⟨σ20, hw, rfl⟩ := hq
          have hP : va_P (dC, dI) vwCl [(h0, .inr (1, [.int σ20.1, .int σ20.2.1, .int σ20.2.2.1, .int σ20.2.2.2.1, .int σ20.2.2.2.2.1, .int σ20.2.2.2.2.2.1, .int σ20.2.2.2.2.2.2.1, .int σ20.2.2.2.2.2.2.2]))] H := hP
          have hD : va_D A [(h0, .inr (1, [.int σ20.1, .int σ20.2.1, .int σ20.2.2.1, .int σ20.2.2.2.1, .int σ20.2.2.2.2.1, .int σ20.2.2.2.2.2.1, .int σ20.2.2.2.2.2.2.1, .int σ20.2.2.2.2.2.2.2]))] := hD
          refine lv_aload_n hx hb dX2_exchange_53 rfl (lv_at hl 3 rfl) ?_
          refine lv_iload_n hx hb dX2_exchange_54 rfl (lv_at hl 5 rfl) ?_
          refine lv_iload_n hx hb dX2_exchange_55 rfl (lv_at hl 2 rfl) ?_
          have hPc := hP
          have hDc := hD
          have hKc := hK
          have hFc := va_free (wc := [(h0, .inr (1, [.int σ20.1, .int σ20.2.1, .int σ20.2.2.1, .int σ20.2.2.2.1, .int σ20.2.2.2.2.1, .int σ20.2.2.2.2.2.1, .int σ20.2.2.2.2.2.2.1, .int σ20.2.2.2.2.2.2.2]))]) hD hS hA [0] rfl
          refine kc_v (wr := ([] : va_W)) (kr_V (As := [.int p1, .int r1]) (rest := []) (b := h0) (ws := [(h0, .inr (1, [.int σ20.1, .int σ20.2.1, .int σ20.2.2.1, .int σ20.2.2.2.1, .int σ20.2.2.2.2.1, .int σ20.2.2.2.2.2.1, .int σ20.2.2.2.2.2.2.1, .int σ20.2.2.2.2.2.2.2]))]) ⟨hx, hb, hml, hown, hts⟩ (c_X2_put l dC dI h0 σ20 p1 r1 _ hw H.size) (cwV 2 hts gX2_exchange_X2_put rfl rfl rfl (by decide +kernel) ⟨Nat.le_of_ble_eq_true rfl, Nat.le_of_ble_eq_true rfl⟩) 1 0 hK rfl rfl rfl hKc hnw hP hD hPc hDc rfl hl.1 rfl (Nat.le_of_ble_eq_true rfl) dX2_exchange_56 ⟨Nat.zero_le _, Nat.zero_le _⟩) hP hD hS hFc [0] [] rfl rfl (by decide) (by decide) (fun u1 H locs hq hP hD hS => ?_)
          obtain ⟨σ22, hw, rfl⟩ := hq
          have hP : va_P (dC, dI) vwCl [(h0, .inr (1, [.int σ22.1, .int σ22.2.1, .int σ22.2.2.1, .int σ22.2.2.2.1, .int σ22.2.2.2.2.1, .int σ22.2.2.2.2.2.1, .int σ22.2.2.2.2.2.2.1, .int σ22.2.2.2.2.2.2.2]))] H := hP
          have hD : va_D A [(h0, .inr (1, [.int σ22.1, .int σ22.2.1, .int σ22.2.2.1, .int σ22.2.2.2.1, .int σ22.2.2.2.2.1, .int σ22.2.2.2.2.2.1, .int σ22.2.2.2.2.2.2.1, .int σ22.2.2.2.2.2.2.2]))] := hD
          refine lv_aload_n hx hb dX2_exchange_59 rfl (lv_at hl 3 rfl) ?_
          refine lv_dup hx hb dX2_exchange_60 rfl ?_
          refine va_get (D := (dC, dI)) (ci := 1) (v := .int σ22.2.2.2.2.2.2.2) (C := RX2) (T := TX2) (N := 8) hx hb hts hin0 hown hK hP 0 rfl rfl 7 (by decide) fl_34 (fun _ h9 => h9) rfl dX2_exchange_61 ?_
          refine lv_iconst (v := (1 : Int32)) hx hb dX2_exchange_64 (by decide) ?_
          refine lv_iadd hx hb dX2_exchange_65 ?_
          refine va_put (D := (dC, dI)) (ci := 1) (v := .int (σ22.2.2.2.2.2.2.2 + (1 : Int32))) (ty := .int) (C := RX2) (T := TX2) (N := 8) hx hb hts hin0 tyX2 tyX2_ok nmX2 hown hK hP hD hS 0 rfl rfl 7 (by decide) fl_34 (fun _ h9 => h9) rfl (by decide +kernel) rfl rfl (Nat.le_of_ble_eq_true rfl) dX2_exchange_66 (fun H locs hP hD hS => ?_)
          have hP : va_P (dC, dI) vwCl [(h0, .inr (1, [.int σ22.1, .int σ22.2.1, .int σ22.2.2.1, .int σ22.2.2.2.1, .int σ22.2.2.2.2.1, .int σ22.2.2.2.2.2.1, .int σ22.2.2.2.2.2.2.1, .int (σ22.2.2.2.2.2.2.2 + (1 : Int32))]))] H := hP
          have hD : va_D A [(h0, .inr (1, [.int σ22.1, .int σ22.2.1, .int σ22.2.2.1, .int σ22.2.2.2.1, .int σ22.2.2.2.2.1, .int σ22.2.2.2.2.2.1, .int σ22.2.2.2.2.2.2.1, .int (σ22.2.2.2.2.2.2.2 + (1 : Int32))]))] := hD
          refine lv_iload hx hb dX2_exchange_69 (lv_at hl 0 rfl) ?_
          exact W.zret (v := (1 : Int32)) hx hb hr (nb_nar nb_1) (fun t ht hW => ⟨⟨(1 : Int32), ((cl2 h0 (σ22.1, σ22.2.1, σ22.2.2.1, σ22.2.2.2.1, σ22.2.2.2.2.1, σ22.2.2.2.2.2.1, σ22.2.2.2.2.2.2.1, (σ22.2.2.2.2.2.2.2 + (1 : Int32))))), rfl, ⟨(σ22.1, σ22.2.1, σ22.2.2.1, σ22.2.2.2.1, σ22.2.2.2.2.1, σ22.2.2.2.2.2.1, σ22.2.2.2.2.2.2.1, (σ22.2.2.2.2.2.2.2 + (1 : Int32))), hw, rfl⟩, by rw [ht]; exact hP, va_K.moved hW.alike hK, hD⟩, hS.F ht⟩) hS.2.2 dX2_exchange_71
