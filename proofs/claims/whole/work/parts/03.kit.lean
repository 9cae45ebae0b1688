/-- the nest mates' links that the class's own methods use -/
def nwA (U : State) : Prop := va_Nw (.methodLinkNest RX0 47 yX3_isTaken RX3) U ∧ va_Nw (.methodLinkNest RX1 7 yX3_isWithin RX3) U ∧ va_Nw (.methodLinkNest RX1 19 yX3_isTaken RX3) U ∧ va_Nw (.methodLinkNest RX2 41 yX3_isTaken RX3) U ∧ va_Nw (.methodLinkNest RX3 18 yX2_init RX3) U
theorem nwA.warm {s U : State} (hW : s.WarmedH U.vm) (h : nwA s) : nwA U := ⟨va_Nw.warmM hW h.1, va_Nw.warmM hW h.2.1, va_Nw.warmM hW h.2.2.1, va_Nw.warmM hW h.2.2.2.1, va_Nw.warmM hW h.2.2.2.2⟩
theorem nwA.calling {U : State} {g : JFrame} {mk : MethodId} {a : Array Value} (h : nwA U) : nwA (U.calling g mk a) := ⟨va_tabs (A := #[]) (u := U) rfl rfl h.1, va_tabs (A := #[]) (u := U) rfl rfl h.2.1, va_tabs (A := #[]) (u := U) rfl rfl h.2.2.1, va_tabs (A := #[]) (u := U) rfl rfl h.2.2.2.1, va_tabs (A := #[]) (u := U) rfl rfl h.2.2.2.2⟩
/-- what a method finds: its cells, their classes, apart -/
def kPre (D : va_G) (tys : List (ClassId × FieldType)) (wc : va_W) (sz : Nat) (U : State) : Prop := U.heap.size = sz ∧ va_P D vwCl wc U.heap ∧ va_K D vwCl tys U ∧ va_D (fun _ => True) wc ∧ nwA U
abbrev kB (D : va_G) (tys : List (ClassId × FieldType)) (A : Nat → Prop) (u : va_W) (t : State) : Prop := va_P D vwCl u t.heap ∧ va_K D vwCl tys t ∧ va_D A u
theorem kPre_blind {D : va_G} {tys : List (ClassId × FieldType)} {wc : va_W} {sz : Nat} {av : List Value} : FrameBlind (va_Pc av (kPre D tys wc sz)) := by
  intro a U g mk q
  obtain ⟨q0, q1, qP, qK, qD, qN⟩ := q
  exact ⟨q0, q1, qP, va_K.moved (u := U) (U := U.calling g mk a) (Vm.Alike.refl U.vm) qK, qD, qN.calling⟩
abbrev KI (l : Launch) (y : MethodName) (wsy : List Cond) (rm : Room) (D : va_G) (tys : List (ClassId × FieldType)) (wc : va_W) (av : List Value) (post : Int32 → va_W → Prop) : Prop :=
  ∀ sz : Nat, Met l y wsy rm (va_Pc av (kPre D tys wc sz)) (va_Qi post (kB D tys (va_A wc sz)) (va_A wc sz)) 0 0 (va_A wc sz)
abbrev KL (l : Launch) (y : MethodName) (wsy : List Cond) (rm : Room) (D : va_G) (tys : List (ClassId × FieldType)) (wc : va_W) (av : List Value) (post : Int64 → va_W → Prop) : Prop :=
  ∀ sz : Nat, Met l y wsy rm (va_Pc av (kPre D tys wc sz)) (va_Ql post (kB D tys (va_A wc sz)) (va_A wc sz)) 0 0 (va_A wc sz)
abbrev KV (l : Launch) (y : MethodName) (wsy : List Cond) (rm : Room) (D : va_G) (tys : List (ClassId × FieldType)) (wc : va_W) (av : List Value) (post : va_W → Prop) : Prop :=
  ∀ sz : Nat, Met l y wsy rm (va_Pc av (kPre D tys wc sz)) (va_Qv post (kB D tys (va_A wc sz)) (va_A wc sz)) 0 0 (va_A wc sz)
section KW
variable {p : Program} {l : Launch} {e : Env} {R : Room} {s : State} {m : MethodId} {args : Array Value} {below : List Frame} {meth : Method} {c : Code} {H : Heap} {locs : List Loc} {cells slots : Nat} {Q : State → Prop} {cc : ByteArray} {nL pc index maxL n : Nat} {ls : Array Slot} {Ts wsy : List Cond} {own C : String} {y : MethodName} {bytes : ByteArray} {ret : Option FieldType} {rm : Room} {D : va_G} {tys tysC : List (ClassId × FieldType)} {A : Nat → Prop} {ws wc wr : va_W} {st0 rest As : List Value} {b : Nat}
theorem kPre_at (hP : va_P D vwCl ws H) (hD : va_D A ws) (hKc : va_K D vwCl tysC s) (hnw : nwA s) (hPc : va_P D vwCl wc H) (hDc : va_D A wc) {av : List Value} {U : State} (hU : U.heap = H) (hW : s.WarmedH U.vm) : va_Pc av (kPre D tysC wc H.size) av.toArray U :=
  ⟨rfl, by rw [hU], by rw [hU]; exact hPc, va_K.moved hW.alike hKc, hDc.weaken (fun _ _ _ _ => trivial), hnw.warm hW⟩
theorem kc_i {post : Int32 → va_W → Prop} {a : Array Value} (hr : va_Run p l e R s m args below meth c H locs cells slots 0 0 (F0 m pc ls st0) rest (va_Qi post (kB D tysC (va_A wc H.size)) (va_A wc H.size) a) (va_A wc H.size))
    (hP : va_P D vwCl ws H) (hD : va_D A ws) (hS : va_S A s.heap H locs) (hFc : ∀ q, va_A wc H.size q → A q) (isC isR : List Nat) (hC : isC.map (fun i => ws[i]?) = wc.map some) (hR : isR.map (fun i => ws[i]?) = wr.map some) (hn : va_nd isR = true) (hdis : ∀ i ∈ isR, i ∉ isC)
    (kk : ∀ (r : Int32) (u : va_W) (H1 : Heap) (locs1 : List Loc), post r u → va_P D vwCl (wr ++ u) H1 → va_D A (wr ++ u) → va_S A s.heap H1 locs1 → W p l e R s m args below meth c H1 locs1 cells slots Q (F0 m (pc + 3) ls (.int r :: rest))) :
    W p l e R s m args below meth c H locs cells slots Q (F0 m pc ls st0) := by
  refine va_calli hr hS (fun q _ h => hFc q h) hFc (fun r u t H1 locs1 ht hvm hw hB hz1 hk1 hS1 => ?_)
  obtain ⟨hP1, hK1, hD1⟩ := hB
  rw [ht] at hP1
  obtain ⟨hP2, hD2⟩ := va_join (wr := wr) (w1 := u) hP hD isC isR hC hR hn hdis hk1 hFc hP1 hD1
  exact kk r u H1 locs1 hw hP2 hD2 hS1
theorem kc_l {post : Int64 → va_W → Prop} {a : Array Value} (hr : va_Run p l e R s m args below meth c H locs cells slots 0 0 (F0 m pc ls st0) rest (va_Ql post (kB D tysC (va_A wc H.size)) (va_A wc H.size) a) (va_A wc H.size))
    (hP : va_P D vwCl ws H) (hD : va_D A ws) (hS : va_S A s.heap H locs) (hFc : ∀ q, va_A wc H.size q → A q) (isC isR : List Nat) (hC : isC.map (fun i => ws[i]?) = wc.map some) (hR : isR.map (fun i => ws[i]?) = wr.map some) (hn : va_nd isR = true) (hdis : ∀ i ∈ isR, i ∉ isC)
    (kk : ∀ (r : Int64) (u : va_W) (H1 : Heap) (locs1 : List Loc), post r u → va_P D vwCl (wr ++ u) H1 → va_D A (wr ++ u) → va_S A s.heap H1 locs1 → W p l e R s m args below meth c H1 locs1 cells slots Q (F0 m (pc + 3) ls (.long r :: rest))) :
    W p l e R s m args below meth c H locs cells slots Q (F0 m pc ls st0) := by
  refine va_calll hr hS (fun q _ h => hFc q h) hFc (fun r u t H1 locs1 ht hvm hw hB hz1 hk1 hS1 => ?_)
  obtain ⟨hP1, hK1, hD1⟩ := hB
  rw [ht] at hP1
  obtain ⟨hP2, hD2⟩ := va_join (wr := wr) (w1 := u) hP hD isC isR hC hR hn hdis hk1 hFc hP1 hD1
  exact kk r u H1 locs1 hw hP2 hD2 hS1
theorem kc_v {post : va_W → Prop} {a : Array Value} (hr : va_Run p l e R s m args below meth c H locs cells slots 0 0 (F0 m pc ls st0) rest (va_Qv post (kB D tysC (va_A wc H.size)) (va_A wc H.size) a) (va_A wc H.size))
    (hP : va_P D vwCl ws H) (hD : va_D A ws) (hS : va_S A s.heap H locs) (hFc : ∀ q, va_A wc H.size q → A q) (isC isR : List Nat) (hC : isC.map (fun i => ws[i]?) = wc.map some) (hR : isR.map (fun i => ws[i]?) = wr.map some) (hn : va_nd isR = true) (hdis : ∀ i ∈ isR, i ∉ isC)
    (kk : ∀ (u : va_W) (H1 : Heap) (locs1 : List Loc), post u → va_P D vwCl (wr ++ u) H1 → va_D A (wr ++ u) → va_S A s.heap H1 locs1 → W p l e R s m args below meth c H1 locs1 cells slots Q (F0 m (pc + 3) ls rest)) :
    W p l e R s m args below meth c H locs cells slots Q (F0 m pc ls st0) := by
  refine va_callv hr hS (fun q _ h => hFc q h) hFc (fun u t H1 locs1 ht hvm hw hB hz1 hk1 hS1 => ?_)
  obtain ⟨hP1, hK1, hD1⟩ := hB
  rw [ht] at hP1
  obtain ⟨hP2, hD2⟩ := va_join (wr := wr) (w1 := u) hP hD isC isR hC hR hn hdis hk1 hFc hP1 hD1
  exact kk u H1 locs1 hw hP2 hD2 hS1
/-- the callee's run, of the kind that the call has: invokevirtual -/
theorem kr_V {Qc : Array Value → State → Outcome → State → Prop} {free : Addr → Prop} (S : CallFix p m c cc nL s args Ts own) (hM : Met l y wsy rm (va_Pc (.ref b :: As) (kPre D tysC wc H.size)) Qc 0 0 free) (cw : CallW R s args own C index y bytes maxL ret wsy rm 0 0 n)
    (ci qr : Nat) {q : vw_C} {fs : List Value} (hK : va_K D vwCl tys s) (hcl : vwCl[ci]? = some q) (hC : q.1 = C) (he : ws[qr]? = some (b, .inr (ci, fs))) (hKc : va_K D vwCl tysC s) (hnw : nwA s) (hP : va_P D vwCl ws H) (hD : va_D A ws) (hPc : va_P D vwCl wc H) (hDc : va_D A wc)
    (hn : As.length = n) (hsize : ls.size = nL) (hstack : st0 = As.reverse ++ .ref b :: rest) (hroom : (rest.map fun v => v.category).sum ≤ 8) (hdg : decode cc pc = .ok (.invokevirtual index, 3)) (hf : cells ≤ R.cells ∧ slots ≤ R.slots) :
    va_Run p l e R s m args below meth c H locs cells slots 0 0 (F0 m pc ls st0) rest (Qc (Value.ref b :: As).toArray) free := by
  subst hC
  exact va_runV (As := As) (rest := rest) S hM cw ⟨kPre_blind, va_recv hK hP hcl he, fun U hU hW => kPre_at hP hD hKc hnw hPc hDc hU hW⟩ rfl hn hsize hstack (lv_room hroom) hdg hf
theorem kr_S {Qc : Array Value → State → Outcome → State → Prop} {free : Addr → Prop} (S : CallFix p m c cc nL s args Ts own) (hM : Met l y wsy rm (va_Pc As (kPre D tysC wc H.size)) Qc 0 0 free) (cw : CallB R s args own index y bytes maxL ret wsy rm 0 0 n ∧ (Cond.static y).before args s = true)
    (hKc : va_K D vwCl tysC s) (hnw : nwA s) (hP : va_P D vwCl ws H) (hD : va_D A ws) (hPc : va_P D vwCl wc H) (hDc : va_D A wc)
    (hn : As.length = n) (hsize : ls.size = nL) (hstack : st0 = As.reverse ++ rest) (hroom : (rest.map fun v => v.category).sum ≤ 8) (hdg : decode cc pc = .ok (.invokestatic index, 3)) (hf : cells ≤ R.cells ∧ slots ≤ R.slots) :
    va_Run p l e R s m args below meth c H locs cells slots 0 0 (F0 m pc ls st0) rest (Qc As.toArray) free :=
  va_runS (As := As) (rest := rest) S hM cw ⟨kPre_blind, fun U hU hW => kPre_at hP hD hKc hnw hPc hDc hU hW⟩ rfl hn hsize hstack (lv_room hroom) hdg hf
theorem kr_N {Qc : Array Value → State → Outcome → State → Prop} {free : Addr → Prop} {host : String} (S : CallFix p m c cc nL s args Ts own) (hM : Met l y wsy rm (va_Pc As (kPre D tysC wc H.size)) Qc 0 0 free) (cw : va_CN R s args own index y host bytes maxL ret wsy rm 0 0 n ∧ (Cond.static y).before args s = true ∧ True)
    (hKc : va_K D vwCl tysC s) (hnw : nwA s) (hP : va_P D vwCl ws H) (hD : va_D A ws) (hPc : va_P D vwCl wc H) (hDc : va_D A wc)
    (hn : As.length = n) (hsize : ls.size = nL) (hstack : st0 = As.reverse ++ rest) (hroom : (rest.map fun v => v.category).sum ≤ 8) (hdg : decode cc pc = .ok (.invokestatic index, 3)) (hf : cells ≤ R.cells ∧ slots ≤ R.slots) :
    va_Run p l e R s m args below meth c H locs cells slots 0 0 (F0 m pc ls st0) rest (Qc As.toArray) free :=
  va_runSN (As := As) (rest := rest) S hM cw ⟨kPre_blind, fun U hU hW => kPre_at hP hD hKc hnw hPc hDc hU hW⟩ rfl hn hsize hstack (lv_room hroom) hdg hf
end KW
/-- a boolean as an int -/
def nb (v : Int32) : Prop := v = 0 ∨ v = 1
theorem nb_nar {v : Int32} (h : nb v) : narrow .boolean (.int v) = .int v := by rcases h with rfl | rfl <;> rfl
theorem nb_fit {v : Int32} (h : nb v) : fits .boolean (.int v) = true := by rcases h with rfl | rfl <;> rfl
theorem nb_0 : nb 0 := Or.inl rfl
theorem nb_1 : nb 1 := Or.inr rfl
theorem vp_guard {i : Int32} {N : Nat} {v : Int32} (hv : v.toInt = (N : Int)) (h0 : ¬ i < 0) (h1 : ¬ v ≤ i) : vp_in i N := by
  rw [vp_in_iff]
  rw [Int32.lt_iff_toInt_lt] at h0
  rw [Int32.le_iff_toInt_le] at h1
  have : (0 : Int32).toInt = 0 := rfl
  omega
theorem lgc_eq {x y : Int64} : lg_cmp x y = 0 ↔ x = y := by
  unfold lg_cmp
  simp only [gt_iff_lt, Int64.lt_iff_toInt_lt, ← Int64.toInt_inj]
  repeat' split
  all_goals (constructor <;> intro hh <;> first | omega | decide | exact absurd hh (by decide))
theorem lgc_lt {x y : Int64} : lg_cmp x y < 0 ↔ x < y := by
  unfold lg_cmp
  simp only [gt_iff_lt, Int64.lt_iff_toInt_lt, ← Int64.toInt_inj]
  repeat' split
  all_goals (constructor <;> intro hh <;> first | omega | decide | exact absurd hh (by decide))
theorem lgc_gt {x y : Int64} : 0 < lg_cmp x y ↔ y < x := by
  unfold lg_cmp
  simp only [gt_iff_lt, Int64.lt_iff_toInt_lt, ← Int64.toInt_inj]
  repeat' split
  all_goals (constructor <;> intro hh <;> first | omega | decide | exact absurd hh (by decide))
theorem lgc_ge {x y : Int64} : 0 ≤ lg_cmp x y ↔ y ≤ x := lg_cmp_ge x y
theorem lgc_le {x y : Int64} : lg_cmp x y ≤ 0 ↔ x ≤ y := lg_cmp_le x y
